theorem c_hasBlock_t {post : Int32 → Prop} {s a n : Int} (h1 : 0 ≤ a) (h2 : a ≤ s) (h3 : 0 ≤ n) (h4 : n ≤ s - a) (h5 : s < 1000) : VX9_hasBlock post (iI s) (iI a) (iI n) = post (iI 1) := by
  simp (disch := omega) only [VX9_hasBlock, iI_lit, lI_lit, iI_nI, iI_add, iI_sub, iI_mul, iI_neg, c_lt_t, c_lt_f, c_le_t, c_le_f, c_eq_t, c_eq_f, c_in_t, iI_clamp, Int.toNat_natCast, forall_eq, true_and, and_true, false_and, and_false, not_true_eq_false, not_false_eq_true, true_implies, false_implies, implies_true, forall_const, true_or, or_true, false_or, or_false, pk_us, vu_s, vL_s, vb_0, vb_1, if_true, if_false, ite_true, ite_false]
theorem c_hasBlock_f {post : Int32 → Prop} {s a n : Int} (h : ¬ (0 ≤ a ∧ a ≤ s ∧ 0 ≤ n ∧ n ≤ s - a)) (h5 : 0 ≤ s) (h6 : s < 1000) (h1 : -2147483648 ≤ a) (h2 : a < 2147483648) (h3 : -2147483648 ≤ n) (h4 : n < 2147483648) : VX9_hasBlock post (iI s) (iI a) (iI n) = post (iI 0) := by
  by_cases c1 : a < 0
  · simp (disch := omega) only [VX9_hasBlock, iI_lit, lI_lit, iI_nI, iI_add, iI_sub, iI_mul, iI_neg, c_lt_t, c_lt_f, c_le_t, c_le_f, c_eq_t, c_eq_f, c_in_t, iI_clamp, Int.toNat_natCast, forall_eq, true_and, and_true, false_and, and_false, not_true_eq_false, not_false_eq_true, true_implies, false_implies, implies_true, forall_const, true_or, or_true, false_or, or_false, pk_us, vu_s, vL_s, vb_0, vb_1, if_true, if_false, ite_true, ite_false]
  · by_cases c2 : s < a
    · simp (disch := omega) only [VX9_hasBlock, iI_lit, lI_lit, iI_nI, iI_add, iI_sub, iI_mul, iI_neg, c_lt_t, c_lt_f, c_le_t, c_le_f, c_eq_t, c_eq_f, c_in_t, iI_clamp, Int.toNat_natCast, forall_eq, true_and, and_true, false_and, and_false, not_true_eq_false, not_false_eq_true, true_implies, false_implies, implies_true, forall_const, true_or, or_true, false_or, or_false, pk_us, vu_s, vL_s, vb_0, vb_1, if_true, if_false, ite_true, ite_false]
    · by_cases c3 : n < 0
      · simp (disch := omega) only [VX9_hasBlock, iI_lit, lI_lit, iI_nI, iI_add, iI_sub, iI_mul, iI_neg, c_lt_t, c_lt_f, c_le_t, c_le_f, c_eq_t, c_eq_f, c_in_t, iI_clamp, Int.toNat_natCast, forall_eq, true_and, and_true, false_and, and_false, not_true_eq_false, not_false_eq_true, true_implies, false_implies, implies_true, forall_const, true_or, or_true, false_or, or_false, pk_us, vu_s, vL_s, vb_0, vb_1, if_true, if_false, ite_true, ite_false]
      · simp (disch := omega) only [VX9_hasBlock, iI_lit, lI_lit, iI_nI, iI_add, iI_sub, iI_mul, iI_neg, c_lt_t, c_lt_f, c_le_t, c_le_f, c_eq_t, c_eq_f, c_in_t, iI_clamp, Int.toNat_natCast, forall_eq, true_and, and_true, false_and, and_false, not_true_eq_false, not_false_eq_true, true_implies, false_implies, implies_true, forall_const, true_or, or_true, false_or, or_false, pk_us, vu_s, vL_s, vb_0, vb_1, if_true, if_false, ite_true, ite_false]
theorem c_isBlock_t {post : Int32 → Prop} {lengths : Nat → Int32} {i s : Nat} {a n : Int} (hi : i < 3) (hl : lengths i = iI s) (h1 : 0 ≤ a) (h2 : a ≤ s) (h3 : 0 ≤ n) (h4 : n ≤ s - a) (h5 : s < 1000) : VX11_isBlock post lengths (iI i) (iI a) (iI n) = post (iI 1) := by
  simp (disch := omega) only [VX11_isBlock, VX11_isWord, VX11_isIn, hl, iI_lit, lI_lit, iI_nI, iI_add, iI_sub, iI_mul, iI_neg, c_lt_t, c_lt_f, c_le_t, c_le_f, c_eq_t, c_eq_f, c_in_t, iI_clamp, Int.toNat_natCast, forall_eq, true_and, and_true, false_and, and_false, not_true_eq_false, not_false_eq_true, true_implies, false_implies, implies_true, forall_const, true_or, or_true, false_or, or_false, pk_us, vu_s, vL_s, vb_0, vb_1, if_true, if_false, ite_true, ite_false]
theorem c_isBlock_f {post : Int32 → Prop} {lengths : Nat → Int32} {i s : Nat} {a n : Int} (hi : i < 3) (hl : lengths i = iI s) (h : ¬ (0 ≤ a ∧ a ≤ s ∧ 0 ≤ n ∧ n ≤ s - a)) (h5 : s < 1000) (h1 : -2147483648 ≤ a) (h2 : a < 2147483648) (h3 : -2147483648 ≤ n) (h4 : n < 2147483648) : VX11_isBlock post lengths (iI i) (iI a) (iI n) = post (iI 0) := by
  by_cases c1 : a < 0
  · simp (disch := omega) only [VX11_isBlock, VX11_isWord, VX11_isIn, hl, iI_lit, lI_lit, iI_nI, iI_add, iI_sub, iI_mul, iI_neg, c_lt_t, c_lt_f, c_le_t, c_le_f, c_eq_t, c_eq_f, c_in_t, iI_clamp, Int.toNat_natCast, forall_eq, true_and, and_true, false_and, and_false, not_true_eq_false, not_false_eq_true, true_implies, false_implies, implies_true, forall_const, true_or, or_true, false_or, or_false, pk_us, vu_s, vL_s, vb_0, vb_1, if_true, if_false, ite_true, ite_false]
  · by_cases c3 : n < 0
    · simp (disch := omega) only [VX11_isBlock, VX11_isWord, VX11_isIn, hl, iI_lit, lI_lit, iI_nI, iI_add, iI_sub, iI_mul, iI_neg, c_lt_t, c_lt_f, c_le_t, c_le_f, c_eq_t, c_eq_f, c_in_t, iI_clamp, Int.toNat_natCast, forall_eq, true_and, and_true, false_and, and_false, not_true_eq_false, not_false_eq_true, true_implies, false_implies, implies_true, forall_const, true_or, or_true, false_or, or_false, pk_us, vu_s, vL_s, vb_0, vb_1, if_true, if_false, ite_true, ite_false]
    · by_cases c2 : (s : Int) < a
      · simp (disch := omega) only [VX11_isBlock, VX11_isWord, VX11_isIn, hl, iI_lit, lI_lit, iI_nI, iI_add, iI_sub, iI_mul, iI_neg, c_lt_t, c_lt_f, c_le_t, c_le_f, c_eq_t, c_eq_f, c_in_t, iI_clamp, Int.toNat_natCast, forall_eq, true_and, and_true, false_and, and_false, not_true_eq_false, not_false_eq_true, true_implies, false_implies, implies_true, forall_const, true_or, or_true, false_or, or_false, pk_us, vu_s, vL_s, vb_0, vb_1, if_true, if_false, ite_true, ite_false]
      · simp (disch := omega) only [VX11_isBlock, VX11_isWord, VX11_isIn, hl, iI_lit, lI_lit, iI_nI, iI_add, iI_sub, iI_mul, iI_neg, c_lt_t, c_lt_f, c_le_t, c_le_f, c_eq_t, c_eq_f, c_in_t, iI_clamp, Int.toNat_natCast, forall_eq, true_and, and_true, false_and, and_false, not_true_eq_false, not_false_eq_true, true_implies, false_implies, implies_true, forall_const, true_or, or_true, false_or, or_false, pk_us, vu_s, vL_s, vb_0, vb_1, if_true, if_false, ite_true, ite_false]
theorem L_occurrences {N : Nat} (hN : 2 ≤ N ∧ N ≤ 4) {wL : Nat → Nat → Int32} {wS words lengths : Nat → Int32} (h : EW N wL wS words lengths) (p1 p2 p3 p4 : Int32) (row : Nat → Int32) (rowSize : Int32) {P : Int32 → Int32 → (Nat → Int32) → Int32 → Prop} (hP : ∀ r a b, P r r a b) :
    VX10_occurrences (fun r => VX11_occurrences (fun r2 a b => P r r2 a b) (iI N) words lengths p1 p2 p3 p4 row rowSize) (iI N) wL wS p1 p2 p3 p4 := by
  obtain ⟨wl, w, hW⟩ := h
  obtain ⟨z2, rfl, a1, a2⟩ := iI_rng p2
  obtain ⟨z3, rfl, b1, b2⟩ := iI_rng p3
  rcases ix_cases p1 3 (by omega) with ⟨i, hi, rfl⟩ | ⟨z, rfl, h1, h2, h3⟩
  · obtain ⟨hl, e1, e2, e3⟩ := hW i hi
    rcases ix_cases p4 N (by omega) with ⟨x, hx, rfl⟩ | ⟨z, rfl, h1, h2, h3⟩
    · by_cases c : 0 ≤ z2 ∧ z2 ≤ (wl i : Int) ∧ 0 ≤ z3 ∧ z3 ≤ (wl i : Int) - z2
      · obtain ⟨c1, c2, c3, c4⟩ := c
        obtain ⟨a, rfl⟩ : ∃ a : Nat, z2 = a := ⟨z2.toNat, by omega⟩
        obtain ⟨n, rfl⟩ : ∃ n : Nat, z3 = n := ⟨z3.toNat, by omega⟩
        simp (disch := omega) only [VX10_occurrences, VX10_isWord, VX5_hasLetter, c_hasBlock_t, e1, iI_lit, lI_lit, iI_nI, iI_add, iI_sub, iI_mul, iI_neg, c_lt_t, c_lt_f, c_le_t, c_le_f, c_eq_t, c_eq_f, c_in_t, iI_clamp, Int.toNat_natCast, forall_eq, true_and, and_true, false_and, and_false, not_true_eq_false, not_false_eq_true, true_implies, false_implies, implies_true, forall_const, true_or, or_true, false_or, or_false, pk_us, vu_s, vL_s, vb_0, vb_1, if_true, if_false, ite_true, ite_false]
        refine s9_count (s := wl i) (f := w i) (by omega) (by omega) (by omega) (by omega) (fun j hj => ⟨(e3 j hj).2.1, by have := (e3 j hj).1; omega⟩) ?_
        simp (disch := omega) only [VX11_occurrences, c_isBlock_t hi e2, VX11_isLetter, VX11_isIn, iI_lit, lI_lit, iI_nI, iI_add, iI_sub, iI_mul, iI_neg, c_lt_t, c_lt_f, c_le_t, c_le_f, c_eq_t, c_eq_f, c_in_t, iI_clamp, Int.toNat_natCast, forall_eq, true_and, and_true, false_and, and_false, not_true_eq_false, not_false_eq_true, true_implies, false_implies, implies_true, forall_const, true_or, or_true, false_or, or_false, pk_us, vu_s, vL_s, vb_0, vb_1, if_true, if_false, ite_true, ite_false]
        refine s11_take hi hl e2 (fun r h1 h2 => ?_)
        refine s11_count (f := w i) (by omega) (by omega) (fun j hj1 hj2 => ?_) (hP _ _ _)
        rw [h1 j (by omega)]
        exact ⟨(e3 j (by omega)).2.2, by have := (e3 j (by omega)).1; omega⟩
      · simp (disch := omega) only [VX10_occurrences, VX10_isWord, VX5_hasLetter, c_hasBlock_f, VX11_occurrences, c_isBlock_f hi e2, e1, iI_lit, lI_lit, iI_nI, iI_add, iI_sub, iI_mul, iI_neg, c_lt_t, c_lt_f, c_le_t, c_le_f, c_eq_t, c_eq_f, c_in_t, iI_clamp, Int.toNat_natCast, forall_eq, true_and, and_true, false_and, and_false, not_true_eq_false, not_false_eq_true, true_implies, false_implies, implies_true, forall_const, true_or, or_true, false_or, or_false, pk_us, vu_s, vL_s, vb_0, vb_1, if_true, if_false, ite_true, ite_false]
        exact hP _ _ _
    · by_cases c : 0 ≤ z2 ∧ z2 ≤ (wl i : Int) ∧ 0 ≤ z3 ∧ z3 ≤ (wl i : Int) - z2
      · rcases h3 with h3 | h3
        · simp (disch := omega) only [VX10_occurrences, VX10_isWord, VX5_hasLetter, VX11_occurrences, c_isBlock_t hi e2, VX11_isLetter, VX11_isIn, e1, iI_lit, lI_lit, iI_nI, iI_add, iI_sub, iI_mul, iI_neg, c_lt_t, c_lt_f, c_le_t, c_le_f, c_eq_t, c_eq_f, c_in_t, iI_clamp, Int.toNat_natCast, forall_eq, true_and, and_true, false_and, and_false, not_true_eq_false, not_false_eq_true, true_implies, false_implies, implies_true, forall_const, true_or, or_true, false_or, or_false, pk_us, vu_s, vL_s, vb_0, vb_1, if_true, if_false, ite_true, ite_false]
          exact hP _ _ _
        · simp (disch := omega) only [VX10_occurrences, VX10_isWord, VX5_hasLetter, VX11_occurrences, c_isBlock_t hi e2, VX11_isLetter, VX11_isIn, e1, iI_lit, lI_lit, iI_nI, iI_add, iI_sub, iI_mul, iI_neg, c_lt_t, c_lt_f, c_le_t, c_le_f, c_eq_t, c_eq_f, c_in_t, iI_clamp, Int.toNat_natCast, forall_eq, true_and, and_true, false_and, and_false, not_true_eq_false, not_false_eq_true, true_implies, false_implies, implies_true, forall_const, true_or, or_true, false_or, or_false, pk_us, vu_s, vL_s, vb_0, vb_1, if_true, if_false, ite_true, ite_false]
          exact hP _ _ _
      · rcases h3 with h3 | h3
        · simp (disch := omega) only [VX10_occurrences, VX10_isWord, VX5_hasLetter, VX11_occurrences, c_isBlock_f hi e2, VX11_isLetter, VX11_isIn, e1, iI_lit, lI_lit, iI_nI, iI_add, iI_sub, iI_mul, iI_neg, c_lt_t, c_lt_f, c_le_t, c_le_f, c_eq_t, c_eq_f, c_in_t, iI_clamp, Int.toNat_natCast, forall_eq, true_and, and_true, false_and, and_false, not_true_eq_false, not_false_eq_true, true_implies, false_implies, implies_true, forall_const, true_or, or_true, false_or, or_false, pk_us, vu_s, vL_s, vb_0, vb_1, if_true, if_false, ite_true, ite_false]
          exact hP _ _ _
        · simp (disch := omega) only [VX10_occurrences, VX10_isWord, VX5_hasLetter, VX11_occurrences, c_isBlock_f hi e2, VX11_isLetter, VX11_isIn, e1, iI_lit, lI_lit, iI_nI, iI_add, iI_sub, iI_mul, iI_neg, c_lt_t, c_lt_f, c_le_t, c_le_f, c_eq_t, c_eq_f, c_in_t, iI_clamp, Int.toNat_natCast, forall_eq, true_and, and_true, false_and, and_false, not_true_eq_false, not_false_eq_true, true_implies, false_implies, implies_true, forall_const, true_or, or_true, false_or, or_false, pk_us, vu_s, vL_s, vb_0, vb_1, if_true, if_false, ite_true, ite_false]
          exact hP _ _ _
  · rcases h3 with h3 | h3
    · simp (disch := omega) only [VX10_occurrences, VX10_isWord, VX11_occurrences, VX11_isBlock, VX11_isWord, VX11_isIn, iI_lit, lI_lit, iI_nI, iI_add, iI_sub, iI_mul, iI_neg, c_lt_t, c_lt_f, c_le_t, c_le_f, c_eq_t, c_eq_f, c_in_t, iI_clamp, Int.toNat_natCast, forall_eq, true_and, and_true, false_and, and_false, not_true_eq_false, not_false_eq_true, true_implies, false_implies, implies_true, forall_const, true_or, or_true, false_or, or_false, pk_us, vu_s, vL_s, vb_0, vb_1, if_true, if_false, ite_true, ite_false]
      exact hP _ _ _
    · simp (disch := omega) only [VX10_occurrences, VX10_isWord, VX11_occurrences, VX11_isBlock, VX11_isWord, VX11_isIn, iI_lit, lI_lit, iI_nI, iI_add, iI_sub, iI_mul, iI_neg, c_lt_t, c_lt_f, c_le_t, c_le_f, c_eq_t, c_eq_f, c_in_t, iI_clamp, Int.toNat_natCast, forall_eq, true_and, and_true, false_and, and_false, not_true_eq_false, not_false_eq_true, true_implies, false_implies, implies_true, forall_const, true_or, or_true, false_or, or_false, pk_us, vu_s, vL_s, vb_0, vb_1, if_true, if_false, ite_true, ite_false]
      exact hP _ _ _
/-! ARRAYS -/
def RRow (el : Nat → Nat → Int64) (pr sz sizes : Nat → Int32) (items : Nat → Int64) : Prop := ∀ i, i < 3 → (pr i = iI 0 ∧ sizes i = iI (-1)) ∨ ∃ n : Nat, n ≤ 41 ∧ pr i = iI 1 ∧ sz i = iI n ∧ sizes i = iI n ∧ ∀ j, j < n → items (41 * i + j) = el i j
theorem s3_renew {post : (Nat → Int64) → Int32 → Int32 → Prop} {n : Nat} (hn : n ≤ 41) (el : Nat → Int64) (pr sz : Int32) (h : ∀ e, (∀ j, j < 41 → e j = 0) → post e (iI 1) (iI n)) : VX3_renew post (iI n) el pr sz := by
  have key : ∀ (k m : Nat) (e : Nat → Int64) (x : Int32), m + k = 41 → x = iI m → (∀ j, j < m → e j = 0) → VX3_renew_17 post (iI n) (k + 1) e (iI 1) (iI n) x := by
    intro k
    induction k with
    | zero =>
      intro m e x hm ex h1
      have : m = 41 := by omega
      subst this
      subst ex
      simp (disch := omega) only [VX3_renew_17, iI_lit, lI_lit, iI_nI, iI_add, iI_sub, iI_mul, iI_neg, c_lt_t, c_lt_f, c_le_t, c_le_f, c_eq_t, c_eq_f, c_in_t, iI_clamp, Int.toNat_natCast, forall_eq, true_and, and_true, false_and, and_false, not_true_eq_false, not_false_eq_true, true_implies, false_implies, implies_true, forall_const, true_or, or_true, false_or, or_false, pk_us, vu_s, vL_s, vb_0, vb_1, if_true, if_false, ite_true, ite_false]
      exact h e h1
    | succ k ih =>
      intro m e x hm ex h1
      subst ex
      rw [VX3_renew_17]
      simp (disch := omega) only [iI_lit, lI_lit, iI_nI, iI_add, iI_sub, iI_mul, iI_neg, c_lt_t, c_lt_f, c_le_t, c_le_f, c_eq_t, c_eq_f, c_in_t, iI_clamp, Int.toNat_natCast, forall_eq, true_and, and_true, false_and, and_false, not_true_eq_false, not_false_eq_true, true_implies, false_implies, implies_true, forall_const, true_or, or_true, false_or, or_false, pk_us, vu_s, vL_s, vb_0, vb_1, if_true, if_false, ite_true, ite_false]
      refine ih (m + 1) _ _ (by omega) (congrArg iI (by omega)) (fun j hj => ?_)
      by_cases f : j = m
      · subst f
        rw [vL_s]
        rfl
      · rw [pk_uLn f]
        exact h1 j (by omega)
  intro y hy
  have e : y = iI n := by
    rw [hy, if_neg (show ¬ (41 : Int32) < iI (n : Int) by rw [iI_lit, iI_lt (by omega) (by omega) (by omega) (by omega)]; omega)]
  subst e
  exact ⟨42, key 41 0 el _ (by omega) rfl (fun j hj => absurd hj (Nat.not_lt_zero j))⟩
theorem L_newArray {el : Nat → Nat → Int64} {pr sz sizes : Nat → Int32} {items : Nat → Int64} (h : RRow el pr sz sizes items) (p q : Int32) {P : Int32 → (Nat → Nat → Int64) → (Nat → Int32) → (Nat → Int32) → Int32 → (Nat → Int32) → (Nat → Int64) → Prop} (hP : ∀ r a b c d e, RRow a b c d e → P r a b c r d e) :
    VX10_newArray (fun r a b c => VX11_newArray (fun r2 d e => P r a b c r2 d e) p q sizes items) p q el pr sz := by
  have h0 := h
  obtain ⟨z2, rfl, a1, a2⟩ := iI_rng q
  rcases ix_cases p 3 (by omega) with ⟨i, hi, rfl⟩ | ⟨z, rfl, h1, h2, h3⟩
  · by_cases c1 : 41 < z2
    · simp (disch := omega) only [VX10_newArray, VX11_newArray, VX10_isArray, VX11_isWord, VX11_isIn, iI_lit, lI_lit, iI_nI, iI_add, iI_sub, iI_mul, iI_neg, c_lt_t, c_lt_f, c_le_t, c_le_f, c_eq_t, c_eq_f, c_in_t, iI_clamp, Int.toNat_natCast, forall_eq, true_and, and_true, false_and, and_false, not_true_eq_false, not_false_eq_true, true_implies, false_implies, implies_true, forall_const, true_or, or_true, false_or, or_false, pk_us, vu_s, vL_s, vb_0, vb_1, if_true, if_false, ite_true, ite_false]
      exact hP _ _ _ _ _ _ h0
    · by_cases c2 : z2 < 0
      · simp (disch := omega) only [VX10_newArray, VX11_newArray, VX10_isArray, VX11_isWord, VX11_isIn, iI_lit, lI_lit, iI_nI, iI_add, iI_sub, iI_mul, iI_neg, c_lt_t, c_lt_f, c_le_t, c_le_f, c_eq_t, c_eq_f, c_in_t, iI_clamp, Int.toNat_natCast, forall_eq, true_and, and_true, false_and, and_false, not_true_eq_false, not_false_eq_true, true_implies, false_implies, implies_true, forall_const, true_or, or_true, false_or, or_false, pk_us, vu_s, vL_s, vb_0, vb_1, if_true, if_false, ite_true, ite_false]
        exact hP _ _ _ _ _ _ h0
      · obtain ⟨n, rfl⟩ : ∃ n : Nat, z2 = n := ⟨z2.toNat, by omega⟩
        simp (disch := omega) only [VX10_newArray, VX10_isArray, iI_lit, lI_lit, iI_nI, iI_add, iI_sub, iI_mul, iI_neg, c_lt_t, c_lt_f, c_le_t, c_le_f, c_eq_t, c_eq_f, c_in_t, iI_clamp, Int.toNat_natCast, forall_eq, true_and, and_true, false_and, and_false, not_true_eq_false, not_false_eq_true, true_implies, false_implies, implies_true, forall_const, true_or, or_true, false_or, or_false, pk_us, vu_s, vL_s, vb_0, vb_1, if_true, if_false, ite_true, ite_false]
        refine s3_renew (by omega) _ _ _ (fun e he => ?_)
        simp (disch := omega) only [VX11_newArray, VX11_isWord, VX11_isIn, iI_lit, lI_lit, iI_nI, iI_add, iI_sub, iI_mul, iI_neg, c_lt_t, c_lt_f, c_le_t, c_le_f, c_eq_t, c_eq_f, c_in_t, iI_clamp, Int.toNat_natCast, forall_eq, true_and, and_true, false_and, and_false, not_true_eq_false, not_false_eq_true, true_implies, false_implies, implies_true, forall_const, true_or, or_true, false_or, or_false, pk_us, vu_s, vL_s, vb_0, vb_1, if_true, if_false, ite_true, ite_false]
        have key : ∀ (k m : Nat) (it : Nat → Int64) (x : Int32), m + k = 41 → x = iI m → (∀ j, j < m → it (41 * i + j) = 0) → (∀ j, (j < 41 * i ∨ 41 * i + 41 ≤ j) → it j = items j) → VX11_newArray_31 (fun r2 d e_1 => P (iI 1) (va_up el i e) (va_up pr i (iI 1)) (va_up sz i (iI n)) r2 d e_1) (iI i) (iI n) (k + 1) (upd sizes i (iI n)) it x := by
          intro k
          induction k with
          | zero =>
            intro m it x hm ex g1 g2
            have : m = 41 := by omega
            subst this
            subst ex
            simp (disch := omega) only [VX11_newArray_31, iI_lit, lI_lit, iI_nI, iI_add, iI_sub, iI_mul, iI_neg, c_lt_t, c_lt_f, c_le_t, c_le_f, c_eq_t, c_eq_f, c_in_t, iI_clamp, Int.toNat_natCast, forall_eq, true_and, and_true, false_and, and_false, not_true_eq_false, not_false_eq_true, true_implies, false_implies, implies_true, forall_const, true_or, or_true, false_or, or_false, pk_us, vu_s, vL_s, vb_0, vb_1, if_true, if_false, ite_true, ite_false]
            refine hP _ _ _ _ _ _ (fun y hy => ?_)
            by_cases f : y = i
            · subst f
              rw [vu_s, vu_s, vu_s, pk_us]
              exact Or.inr ⟨n, by omega, rfl, rfl, rfl, fun j hj => by rw [g1 j (by omega), he j (by omega)]⟩
            · rw [vu_n f, vu_n f, vu_n f, pk_un f]
              rcases h y hy with q | ⟨n2, q1, q2, q3, q4, q5⟩
              · exact Or.inl q
              · exact Or.inr ⟨n2, q1, q2, q3, q4, fun j hj => by rw [g2 _ (by omega)]; exact q5 j hj⟩
          | succ k ih =>
            intro m it x hm ex g1 g2
            subst ex
            have e4 : (41 * (i : Int) + (m : Int)).toNat = 41 * i + m := by omega
            rw [VX11_newArray_31]
            simp (disch := omega) only [e4, iI_lit, lI_lit, iI_nI, iI_add, iI_sub, iI_mul, iI_neg, c_lt_t, c_lt_f, c_le_t, c_le_f, c_eq_t, c_eq_f, c_in_t, iI_clamp, Int.toNat_natCast, forall_eq, true_and, and_true, false_and, and_false, not_true_eq_false, not_false_eq_true, true_implies, false_implies, implies_true, forall_const, true_or, or_true, false_or, or_false, pk_us, vu_s, vL_s, vb_0, vb_1, if_true, if_false, ite_true, ite_false]
            refine ih (m + 1) _ _ (by omega) (congrArg iI (by omega)) (fun j hj => ?_) (fun j hj => ?_)
            · by_cases f : j = m
              · subst f
                rw [vL_s]
                rfl
              · rw [pk_uLn (by omega)]
                exact g1 j (by omega)
            · rw [pk_uLn (by omega)]
              exact g2 j hj
        exact ⟨42, key 41 0 items _ (by omega) rfl (fun j hj => absurd hj (Nat.not_lt_zero j)) (fun _ _ => rfl)⟩
  · rcases h3 with h3 | h3
    · simp (disch := omega) only [VX10_newArray, VX11_newArray, VX10_isArray, VX11_isWord, VX11_isIn, iI_lit, lI_lit, iI_nI, iI_add, iI_sub, iI_mul, iI_neg, c_lt_t, c_lt_f, c_le_t, c_le_f, c_eq_t, c_eq_f, c_in_t, iI_clamp, Int.toNat_natCast, forall_eq, true_and, and_true, false_and, and_false, not_true_eq_false, not_false_eq_true, true_implies, false_implies, implies_true, forall_const, true_or, or_true, false_or, or_false, pk_us, vu_s, vL_s, vb_0, vb_1, if_true, if_false, ite_true, ite_false]
      exact hP _ _ _ _ _ _ h0
    · simp (disch := omega) only [VX10_newArray, VX11_newArray, VX10_isArray, VX11_isWord, VX11_isIn, iI_lit, lI_lit, iI_nI, iI_add, iI_sub, iI_mul, iI_neg, c_lt_t, c_lt_f, c_le_t, c_le_f, c_eq_t, c_eq_f, c_in_t, iI_clamp, Int.toNat_natCast, forall_eq, true_and, and_true, false_and, and_false, not_true_eq_false, not_false_eq_true, true_implies, false_implies, implies_true, forall_const, true_or, or_true, false_or, or_false, pk_us, vu_s, vL_s, vb_0, vb_1, if_true, if_false, ite_true, ite_false]
      exact hP _ _ _ _ _ _ h0
theorem L_setElement {el : Nat → Nat → Int64} {pr sz sizes : Nat → Int32} {items : Nat → Int64} (h : RRow el pr sz sizes items) (p q : Int32) (v : Int64) {P : Int32 → (Nat → Nat → Int64) → Int32 → (Nat → Int64) → Prop} (hP : ∀ r a e, RRow a pr sz sizes e → P r a r e) :
    VX10_setElement (fun r a => VX11_setElement (fun r2 e => P r a r2 e) sizes p q v items) pr sz p q v el := by
  have h0 := h
  rcases ix_cases p 3 (by omega) with ⟨i, hi, rfl⟩ | ⟨z, rfl, h1, h2, h3⟩
  · rcases h i hi with ⟨e1, e2⟩ | ⟨n, hn, e1, e2, e3, e4⟩
    · simp (disch := omega) only [VX10_setElement, VX11_setElement, VX10_isArray, VX11_isWord, VX11_isIn, e1, e2, iI_lit, lI_lit, iI_nI, iI_add, iI_sub, iI_mul, iI_neg, c_lt_t, c_lt_f, c_le_t, c_le_f, c_eq_t, c_eq_f, c_in_t, iI_clamp, Int.toNat_natCast, forall_eq, true_and, and_true, false_and, and_false, not_true_eq_false, not_false_eq_true, true_implies, false_implies, implies_true, forall_const, true_or, or_true, false_or, or_false, pk_us, vu_s, vL_s, vb_0, vb_1, if_true, if_false, ite_true, ite_false]
      exact hP _ _ _ h0
    · rcases ix_cases q n (by omega) with ⟨j, hj, rfl⟩ | ⟨z, rfl, h1, h2, h3 | h3⟩
      · have e5 : (41 * (i : Int) + (j : Int)).toNat = 41 * i + j := by omega
        simp (disch := omega) only [VX10_setElement, VX11_setElement, VX10_isArray, VX3_has, VX11_isWord, VX11_isIn, e1, e2, e3, e5, iI_lit, lI_lit, iI_nI, iI_add, iI_sub, iI_mul, iI_neg, c_lt_t, c_lt_f, c_le_t, c_le_f, c_eq_t, c_eq_f, c_in_t, iI_clamp, Int.toNat_natCast, forall_eq, true_and, and_true, false_and, and_false, not_true_eq_false, not_false_eq_true, true_implies, false_implies, implies_true, forall_const, true_or, or_true, false_or, or_false, pk_us, vu_s, vL_s, vb_0, vb_1, if_true, if_false, ite_true, ite_false]
        refine hP _ _ _ (fun y hy => ?_)
        by_cases f : y = i
        · subst f
          refine Or.inr ⟨n, hn, e1, e2, e3, fun k hk => ?_⟩
          rw [vu_s]
          by_cases g : k = j
          · subst g
            rw [vL_s, vL_s]
          · rw [pk_uLn g, pk_uLn (by omega)]
            exact e4 k hk
        · rcases h y hy with q | ⟨n2, q1, q2, q3, q4, q5⟩
          · exact Or.inl q
          · refine Or.inr ⟨n2, q1, q2, q3, q4, fun k hk => ?_⟩
            rw [vu_n f, pk_uLn (by omega)]
            exact q5 k hk
      · simp (disch := omega) only [VX10_setElement, VX11_setElement, VX10_isArray, VX3_has, VX11_isWord, VX11_isIn, e1, e2, e3, iI_lit, lI_lit, iI_nI, iI_add, iI_sub, iI_mul, iI_neg, c_lt_t, c_lt_f, c_le_t, c_le_f, c_eq_t, c_eq_f, c_in_t, iI_clamp, Int.toNat_natCast, forall_eq, true_and, and_true, false_and, and_false, not_true_eq_false, not_false_eq_true, true_implies, false_implies, implies_true, forall_const, true_or, or_true, false_or, or_false, pk_us, vu_s, vL_s, vb_0, vb_1, if_true, if_false, ite_true, ite_false]
        exact hP _ _ _ h0
      · simp (disch := omega) only [VX10_setElement, VX11_setElement, VX10_isArray, VX3_has, VX11_isWord, VX11_isIn, e1, e2, e3, iI_lit, lI_lit, iI_nI, iI_add, iI_sub, iI_mul, iI_neg, c_lt_t, c_lt_f, c_le_t, c_le_f, c_eq_t, c_eq_f, c_in_t, iI_clamp, Int.toNat_natCast, forall_eq, true_and, and_true, false_and, and_false, not_true_eq_false, not_false_eq_true, true_implies, false_implies, implies_true, forall_const, true_or, or_true, false_or, or_false, pk_us, vu_s, vL_s, vb_0, vb_1, if_true, if_false, ite_true, ite_false]
        exact hP _ _ _ h0
  · rcases h3 with h3 | h3
    · simp (disch := omega) only [VX10_setElement, VX11_setElement, VX10_isArray, VX11_isWord, VX11_isIn, iI_lit, lI_lit, iI_nI, iI_add, iI_sub, iI_mul, iI_neg, c_lt_t, c_lt_f, c_le_t, c_le_f, c_eq_t, c_eq_f, c_in_t, iI_clamp, Int.toNat_natCast, forall_eq, true_and, and_true, false_and, and_false, not_true_eq_false, not_false_eq_true, true_implies, false_implies, implies_true, forall_const, true_or, or_true, false_or, or_false, pk_us, vu_s, vL_s, vb_0, vb_1, if_true, if_false, ite_true, ite_false]
      exact hP _ _ _ h0
    · simp (disch := omega) only [VX10_setElement, VX11_setElement, VX10_isArray, VX11_isWord, VX11_isIn, iI_lit, lI_lit, iI_nI, iI_add, iI_sub, iI_mul, iI_neg, c_lt_t, c_lt_f, c_le_t, c_le_f, c_eq_t, c_eq_f, c_in_t, iI_clamp, Int.toNat_natCast, forall_eq, true_and, and_true, false_and, and_false, not_true_eq_false, not_false_eq_true, true_implies, false_implies, implies_true, forall_const, true_or, or_true, false_or, or_false, pk_us, vu_s, vL_s, vb_0, vb_1, if_true, if_false, ite_true, ite_false]
      exact hP _ _ _ h0
theorem L_element {el : Nat → Nat → Int64} {pr sz sizes : Nat → Int32} {items : Nat → Int64} (h : RRow el pr sz sizes items) (p q : Int32) {P : Int64 → Int64 → Prop} (hP : ∀ r, P r r) :
    VX10_element (fun r => VX11_element (fun r2 => P r r2) sizes items p q) el pr sz p q := by
  obtain ⟨z2, hz2, a1, a2⟩ := iI_rng q
  rcases ix_cases p 3 (by omega) with ⟨i, hi, rfl⟩ | ⟨z, rfl, h1, h2, h3⟩
  · rcases h i hi with ⟨e1, e2⟩ | ⟨n, hn, e1, e2, e3, e4⟩
    · subst hz2
      by_cases c : z2 < 0
      · simp (disch := omega) only [VX10_element, VX11_element, VX10_isArray, VX3_has, VX11_isWord, VX11_isIn, e1, e2, iI_lit, lI_lit, iI_nI, iI_add, iI_sub, iI_mul, iI_neg, c_lt_t, c_lt_f, c_le_t, c_le_f, c_eq_t, c_eq_f, c_in_t, iI_clamp, Int.toNat_natCast, forall_eq, true_and, and_true, false_and, and_false, not_true_eq_false, not_false_eq_true, true_implies, false_implies, implies_true, forall_const, true_or, or_true, false_or, or_false, pk_us, vu_s, vL_s, vb_0, vb_1, if_true, if_false, ite_true, ite_false]
        exact hP _
      · simp (disch := omega) only [VX10_element, VX11_element, VX10_isArray, VX3_has, VX11_isWord, VX11_isIn, e1, e2, iI_lit, lI_lit, iI_nI, iI_add, iI_sub, iI_mul, iI_neg, c_lt_t, c_lt_f, c_le_t, c_le_f, c_eq_t, c_eq_f, c_in_t, iI_clamp, Int.toNat_natCast, forall_eq, true_and, and_true, false_and, and_false, not_true_eq_false, not_false_eq_true, true_implies, false_implies, implies_true, forall_const, true_or, or_true, false_or, or_false, pk_us, vu_s, vL_s, vb_0, vb_1, if_true, if_false, ite_true, ite_false]
        exact hP _
    · rcases ix_cases q n (by omega) with ⟨j, hj, rfl⟩ | ⟨z, rfl, h1, h2, h3 | h3⟩
      · have e5 : (41 * (i : Int) + (j : Int)).toNat = 41 * i + j := by omega
        simp (disch := omega) only [VX10_element, VX11_element, VX10_isArray, VX3_has, VX11_isWord, VX11_isIn, e1, e2, e3, e5, e4 j hj, iI_lit, lI_lit, iI_nI, iI_add, iI_sub, iI_mul, iI_neg, c_lt_t, c_lt_f, c_le_t, c_le_f, c_eq_t, c_eq_f, c_in_t, iI_clamp, Int.toNat_natCast, forall_eq, true_and, and_true, false_and, and_false, not_true_eq_false, not_false_eq_true, true_implies, false_implies, implies_true, forall_const, true_or, or_true, false_or, or_false, pk_us, vu_s, vL_s, vb_0, vb_1, if_true, if_false, ite_true, ite_false]
        exact hP _
      · simp (disch := omega) only [VX10_element, VX11_element, VX10_isArray, VX3_has, VX11_isWord, VX11_isIn, e1, e2, e3, iI_lit, lI_lit, iI_nI, iI_add, iI_sub, iI_mul, iI_neg, c_lt_t, c_lt_f, c_le_t, c_le_f, c_eq_t, c_eq_f, c_in_t, iI_clamp, Int.toNat_natCast, forall_eq, true_and, and_true, false_and, and_false, not_true_eq_false, not_false_eq_true, true_implies, false_implies, implies_true, forall_const, true_or, or_true, false_or, or_false, pk_us, vu_s, vL_s, vb_0, vb_1, if_true, if_false, ite_true, ite_false]
        exact hP _
      · simp (disch := omega) only [VX10_element, VX11_element, VX10_isArray, VX3_has, VX11_isWord, VX11_isIn, e1, e2, e3, iI_lit, lI_lit, iI_nI, iI_add, iI_sub, iI_mul, iI_neg, c_lt_t, c_lt_f, c_le_t, c_le_f, c_eq_t, c_eq_f, c_in_t, iI_clamp, Int.toNat_natCast, forall_eq, true_and, and_true, false_and, and_false, not_true_eq_false, not_false_eq_true, true_implies, false_implies, implies_true, forall_const, true_or, or_true, false_or, or_false, pk_us, vu_s, vL_s, vb_0, vb_1, if_true, if_false, ite_true, ite_false]
        exact hP _
  · rcases h3 with h3 | h3
    · simp (disch := omega) only [VX10_element, VX11_element, VX10_isArray, VX11_isWord, VX11_isIn, iI_lit, lI_lit, iI_nI, iI_add, iI_sub, iI_mul, iI_neg, c_lt_t, c_lt_f, c_le_t, c_le_f, c_eq_t, c_eq_f, c_in_t, iI_clamp, Int.toNat_natCast, forall_eq, true_and, and_true, false_and, and_false, not_true_eq_false, not_false_eq_true, true_implies, false_implies, implies_true, forall_const, true_or, or_true, false_or, or_false, pk_us, vu_s, vL_s, vb_0, vb_1, if_true, if_false, ite_true, ite_false]
      exact hP _
    · simp (disch := omega) only [VX10_element, VX11_element, VX10_isArray, VX11_isWord, VX11_isIn, iI_lit, lI_lit, iI_nI, iI_add, iI_sub, iI_mul, iI_neg, c_lt_t, c_lt_f, c_le_t, c_le_f, c_eq_t, c_eq_f, c_in_t, iI_clamp, Int.toNat_natCast, forall_eq, true_and, and_true, false_and, and_false, not_true_eq_false, not_false_eq_true, true_implies, false_implies, implies_true, forall_const, true_or, or_true, false_or, or_false, pk_us, vu_s, vL_s, vb_0, vb_1, if_true, if_false, ite_true, ite_false]
      exact hP _
