/-! WORDS: letters, blocks, counts -/
def cn (f : Nat → Nat) (x a : Nat) : Nat → Nat
  | 0 => 0
  | n + 1 => cn f x a n + (if f (a + n) = x then 1 else 0)
theorem cn_le (f : Nat → Nat) (x a : Nat) : ∀ n, cn f x a n ≤ n
  | 0 => Nat.le_refl 0
  | n + 1 => by
    have := cn_le f x a n
    simp only [cn]
    split <;> omega
theorem L_clearWord {N : Nat} {wL : Nat → Nat → Int32} {wS words lengths : Nat → Int32} (h : EW N wL wS words lengths) (p : Int32) {P : Int32 → (Nat → Int32) → Int32 → (Nat → Int32) → Prop} (hP : ∀ r b d, EW N wL b words d → P r b r d) :
    VX10_clearWord (fun r b => VX11_clearWord (fun r2 d => P r b r2 d) p lengths) p wS := by
  have h0 := h
  obtain ⟨wl, w, hW⟩ := h
  rcases ix_cases p 3 (by omega) with ⟨i, hi, rfl⟩ | ⟨z, rfl, h1, h2, h3 | h3⟩
  · obtain ⟨hl, e1, e2, e3⟩ := hW i hi
    simp (disch := omega) only [VX10_clearWord, VX11_clearWord, VX10_isWord, VX11_isWord, VX11_isIn, e1, e2, iI_lit, lI_lit, iI_nI, iI_add, iI_sub, iI_mul, iI_neg, c_lt_t, c_lt_f, c_le_t, c_le_f, c_eq_t, c_eq_f, c_in_t, iI_clamp, Int.toNat_natCast, forall_eq, true_and, and_true, false_and, and_false, not_true_eq_false, not_false_eq_true, true_implies, false_implies, implies_true, forall_const, true_or, or_true, false_or, or_false, pk_us, vu_s, vL_s, vb_0, vb_1, if_true, if_false, ite_true, ite_false]
    refine hP _ _ _ ⟨va_up wl i 0, w, fun k hk => ?_⟩
    by_cases e : k = i
    · subst e
      rw [vu_s, vu_s, pk_us]
      exact ⟨by omega, rfl, rfl, fun j hj => absurd hj (Nat.not_lt_zero j)⟩
    · rw [vu_n e, vu_n e, pk_un e]
      exact hW k hk
  · simp (disch := omega) only [VX10_clearWord, VX11_clearWord, VX10_isWord, VX11_isWord, VX11_isIn, iI_lit, lI_lit, iI_nI, iI_add, iI_sub, iI_mul, iI_neg, c_lt_t, c_lt_f, c_le_t, c_le_f, c_eq_t, c_eq_f, c_in_t, iI_clamp, Int.toNat_natCast, forall_eq, true_and, and_true, false_and, and_false, not_true_eq_false, not_false_eq_true, true_implies, false_implies, implies_true, forall_const, true_or, or_true, false_or, or_false, pk_us, vu_s, vL_s, vb_0, vb_1, if_true, if_false, ite_true, ite_false]
    exact hP _ _ _ h0
  · simp (disch := omega) only [VX10_clearWord, VX11_clearWord, VX10_isWord, VX11_isWord, VX11_isIn, iI_lit, lI_lit, iI_nI, iI_add, iI_sub, iI_mul, iI_neg, c_lt_t, c_lt_f, c_le_t, c_le_f, c_eq_t, c_eq_f, c_in_t, iI_clamp, Int.toNat_natCast, forall_eq, true_and, and_true, false_and, and_false, not_true_eq_false, not_false_eq_true, true_implies, false_implies, implies_true, forall_const, true_or, or_true, false_or, or_false, pk_us, vu_s, vL_s, vb_0, vb_1, if_true, if_false, ite_true, ite_false]
    exact hP _ _ _ h0
theorem L_length {N : Nat} {wL : Nat → Nat → Int32} {wS words lengths : Nat → Int32} (h : EW N wL wS words lengths) (p : Int32) {P : Int32 → Int32 → Prop} (hP : ∀ r, P r r) :
    VX10_length (fun r => VX11_length (fun r2 => P r r2) lengths p) wS p := by
  obtain ⟨wl, w, hW⟩ := h
  rcases ix_cases p 3 (by omega) with ⟨i, hi, rfl⟩ | ⟨z, rfl, h1, h2, h3 | h3⟩
  · obtain ⟨hl, e1, e2, e3⟩ := hW i hi
    simp (disch := omega) only [VX10_length, VX11_length, VX10_isWord, VX11_isWord, VX11_isIn, e1, e2, iI_lit, lI_lit, iI_nI, iI_add, iI_sub, iI_mul, iI_neg, c_lt_t, c_lt_f, c_le_t, c_le_f, c_eq_t, c_eq_f, c_in_t, iI_clamp, Int.toNat_natCast, forall_eq, true_and, and_true, false_and, and_false, not_true_eq_false, not_false_eq_true, true_implies, false_implies, implies_true, forall_const, true_or, or_true, false_or, or_false, pk_us, vu_s, vL_s, vb_0, vb_1, if_true, if_false, ite_true, ite_false]
    exact hP _
  · simp (disch := omega) only [VX10_length, VX11_length, VX10_isWord, VX11_isWord, VX11_isIn, iI_lit, lI_lit, iI_nI, iI_add, iI_sub, iI_mul, iI_neg, c_lt_t, c_lt_f, c_le_t, c_le_f, c_eq_t, c_eq_f, c_in_t, iI_clamp, Int.toNat_natCast, forall_eq, true_and, and_true, false_and, and_false, not_true_eq_false, not_false_eq_true, true_implies, false_implies, implies_true, forall_const, true_or, or_true, false_or, or_false, pk_us, vu_s, vL_s, vb_0, vb_1, if_true, if_false, ite_true, ite_false]
    exact hP _
  · simp (disch := omega) only [VX10_length, VX11_length, VX10_isWord, VX11_isWord, VX11_isIn, iI_lit, lI_lit, iI_nI, iI_add, iI_sub, iI_mul, iI_neg, c_lt_t, c_lt_f, c_le_t, c_le_f, c_eq_t, c_eq_f, c_in_t, iI_clamp, Int.toNat_natCast, forall_eq, true_and, and_true, false_and, and_false, not_true_eq_false, not_false_eq_true, true_implies, false_implies, implies_true, forall_const, true_or, or_true, false_or, or_false, pk_us, vu_s, vL_s, vb_0, vb_1, if_true, if_false, ite_true, ite_false]
    exact hP _
theorem L_letter {N : Nat} {wL : Nat → Nat → Int32} {wS words lengths : Nat → Int32} (h : EW N wL wS words lengths) (p q : Int32) {P : Int32 → Int32 → Prop} (hP : ∀ r, P r r) :
    VX10_letter (fun r => VX11_letter (fun r2 => P r r2) words lengths p q) wL wS p q := by
  obtain ⟨wl, w, hW⟩ := h
  rcases ix_cases p 3 (by omega) with ⟨i, hi, rfl⟩ | ⟨z, rfl, h1, h2, h3 | h3⟩
  · obtain ⟨hl, e1, e2, e3⟩ := hW i hi
    rcases ix_cases q (wl i) (by omega) with ⟨j, hj, rfl⟩ | ⟨z, rfl, h1, h2, h3 | h3⟩
    · obtain ⟨-, a1, a2⟩ := e3 j hj
      have e4 : (40 * (i : Int) + (j : Int)).toNat = 40 * i + j := by omega
      simp (disch := omega) only [VX10_letter, VX11_letter, VX10_isWord, VX11_isWord, VX11_isIn, e1, e2, e4, a1, a2, iI_lit, lI_lit, iI_nI, iI_add, iI_sub, iI_mul, iI_neg, c_lt_t, c_lt_f, c_le_t, c_le_f, c_eq_t, c_eq_f, c_in_t, iI_clamp, Int.toNat_natCast, forall_eq, true_and, and_true, false_and, and_false, not_true_eq_false, not_false_eq_true, true_implies, false_implies, implies_true, forall_const, true_or, or_true, false_or, or_false, pk_us, vu_s, vL_s, vb_0, vb_1, if_true, if_false, ite_true, ite_false]
      exact hP _
    · simp (disch := omega) only [VX10_letter, VX11_letter, VX10_isWord, VX11_isWord, VX11_isIn, e1, e2, iI_lit, lI_lit, iI_nI, iI_add, iI_sub, iI_mul, iI_neg, c_lt_t, c_lt_f, c_le_t, c_le_f, c_eq_t, c_eq_f, c_in_t, iI_clamp, Int.toNat_natCast, forall_eq, true_and, and_true, false_and, and_false, not_true_eq_false, not_false_eq_true, true_implies, false_implies, implies_true, forall_const, true_or, or_true, false_or, or_false, pk_us, vu_s, vL_s, vb_0, vb_1, if_true, if_false, ite_true, ite_false]
      exact hP _
    · simp (disch := omega) only [VX10_letter, VX11_letter, VX10_isWord, VX11_isWord, VX11_isIn, e1, e2, iI_lit, lI_lit, iI_nI, iI_add, iI_sub, iI_mul, iI_neg, c_lt_t, c_lt_f, c_le_t, c_le_f, c_eq_t, c_eq_f, c_in_t, iI_clamp, Int.toNat_natCast, forall_eq, true_and, and_true, false_and, and_false, not_true_eq_false, not_false_eq_true, true_implies, false_implies, implies_true, forall_const, true_or, or_true, false_or, or_false, pk_us, vu_s, vL_s, vb_0, vb_1, if_true, if_false, ite_true, ite_false]
      exact hP _
  · simp (disch := omega) only [VX10_letter, VX11_letter, VX10_isWord, VX11_isWord, VX11_isIn, iI_lit, lI_lit, iI_nI, iI_add, iI_sub, iI_mul, iI_neg, c_lt_t, c_lt_f, c_le_t, c_le_f, c_eq_t, c_eq_f, c_in_t, iI_clamp, Int.toNat_natCast, forall_eq, true_and, and_true, false_and, and_false, not_true_eq_false, not_false_eq_true, true_implies, false_implies, implies_true, forall_const, true_or, or_true, false_or, or_false, pk_us, vu_s, vL_s, vb_0, vb_1, if_true, if_false, ite_true, ite_false]
    exact hP _
  · simp (disch := omega) only [VX10_letter, VX11_letter, VX10_isWord, VX11_isWord, VX11_isIn, iI_lit, lI_lit, iI_nI, iI_add, iI_sub, iI_mul, iI_neg, c_lt_t, c_lt_f, c_le_t, c_le_f, c_eq_t, c_eq_f, c_in_t, iI_clamp, Int.toNat_natCast, forall_eq, true_and, and_true, false_and, and_false, not_true_eq_false, not_false_eq_true, true_implies, false_implies, implies_true, forall_const, true_or, or_true, false_or, or_false, pk_us, vu_s, vL_s, vb_0, vb_1, if_true, if_false, ite_true, ite_false]
    exact hP _
theorem L_imageLength {N : Nat} (hN : 2 ≤ N ∧ N ≤ 4) {iL : Nat → Nat → Int32} {iS images sizes : Nat → Int32} (h : EI N iL iS images sizes) (p : Int32) {P : Int32 → Int32 → Prop} (hP : ∀ r, P r r) :
    VX10_imageLength (fun r => VX11_imageLength (fun r2 => P r r2) (iI N) sizes p) (iI N) iS p := by
  obtain ⟨il, im, hI⟩ := h
  rcases ix_cases p N (by omega) with ⟨i, hi, rfl⟩ | ⟨z, rfl, h1, h2, h3 | h3⟩
  · obtain ⟨hl, e1, e2, e3⟩ := hI i (by omega)
    simp (disch := omega) only [VX10_imageLength, VX11_imageLength, VX5_hasLetter, VX11_isLetter, VX11_isIn, e1, e2, iI_lit, lI_lit, iI_nI, iI_add, iI_sub, iI_mul, iI_neg, c_lt_t, c_lt_f, c_le_t, c_le_f, c_eq_t, c_eq_f, c_in_t, iI_clamp, Int.toNat_natCast, forall_eq, true_and, and_true, false_and, and_false, not_true_eq_false, not_false_eq_true, true_implies, false_implies, implies_true, forall_const, true_or, or_true, false_or, or_false, pk_us, vu_s, vL_s, vb_0, vb_1, if_true, if_false, ite_true, ite_false]
    exact hP _
  · simp (disch := omega) only [VX10_imageLength, VX11_imageLength, VX5_hasLetter, VX11_isLetter, VX11_isIn, iI_lit, lI_lit, iI_nI, iI_add, iI_sub, iI_mul, iI_neg, c_lt_t, c_lt_f, c_le_t, c_le_f, c_eq_t, c_eq_f, c_in_t, iI_clamp, Int.toNat_natCast, forall_eq, true_and, and_true, false_and, and_false, not_true_eq_false, not_false_eq_true, true_implies, false_implies, implies_true, forall_const, true_or, or_true, false_or, or_false, pk_us, vu_s, vL_s, vb_0, vb_1, if_true, if_false, ite_true, ite_false]
    exact hP _
  · simp (disch := omega) only [VX10_imageLength, VX11_imageLength, VX5_hasLetter, VX11_isLetter, VX11_isIn, iI_lit, lI_lit, iI_nI, iI_add, iI_sub, iI_mul, iI_neg, c_lt_t, c_lt_f, c_le_t, c_le_f, c_eq_t, c_eq_f, c_in_t, iI_clamp, Int.toNat_natCast, forall_eq, true_and, and_true, false_and, and_false, not_true_eq_false, not_false_eq_true, true_implies, false_implies, implies_true, forall_const, true_or, or_true, false_or, or_false, pk_us, vu_s, vL_s, vb_0, vb_1, if_true, if_false, ite_true, ite_false]
    exact hP _
/-- the reference takes a word into its row -/
theorem s11_take {post : (Nat → Int32) → Int32 → Prop} {words lengths row : Nat → Int32} {rowSize : Int32} {i n : Nat} (hi : i < 3) (hn : n ≤ 40) (hl : lengths i = iI n) (h : ∀ r, (∀ j, j < n → r j = words (40 * i + j)) → (∀ j, n ≤ j → r j = row j) → post r (iI n)) :
    VX11_take post words lengths (iI i) row rowSize := by
  have key : ∀ k m (r : Nat → Int32) (x : Int32), m + k = n → x = iI m → (∀ j, j < m → r j = words (40 * i + j)) → (∀ j, m ≤ j → r j = row j) → VX11_take_12 post words lengths (iI i) (k + 1) r (iI n) x := by
    intro k
    induction k with
    | zero =>
      intro m r x hm ex h1 h2
      have : m = n := by omega
      subst this
      subst ex
      simp (disch := omega) only [VX11_take_12, iI_lit, lI_lit, iI_nI, iI_add, iI_sub, iI_mul, iI_neg, c_lt_t, c_lt_f, c_le_t, c_le_f, c_eq_t, c_eq_f, c_in_t, iI_clamp, Int.toNat_natCast, forall_eq, true_and, and_true, false_and, and_false, not_true_eq_false, not_false_eq_true, true_implies, false_implies, implies_true, forall_const, true_or, or_true, false_or, or_false, pk_us, vu_s, vL_s, vb_0, vb_1, if_true, if_false, ite_true, ite_false]
      exact h r h1 h2
    | succ k ih =>
      intro m r x hm ex h1 h2
      subst ex
      have e4 : (40 * (i : Int) + (m : Int)).toNat = 40 * i + m := by omega
      rw [VX11_take_12]
      simp (disch := omega) only [e4, iI_lit, lI_lit, iI_nI, iI_add, iI_sub, iI_mul, iI_neg, c_lt_t, c_lt_f, c_le_t, c_le_f, c_eq_t, c_eq_f, c_in_t, iI_clamp, Int.toNat_natCast, forall_eq, true_and, and_true, false_and, and_false, not_true_eq_false, not_false_eq_true, true_implies, false_implies, implies_true, forall_const, true_or, or_true, false_or, or_false, pk_us, vu_s, vL_s, vb_0, vb_1, if_true, if_false, ite_true, ite_false]
      refine ih (m + 1) _ _ (by omega) (congrArg iI (by omega)) (fun j hj => ?_) (fun j hj => ?_)
      · by_cases e : j = m
        · subst e
          rw [pk_us]
        · rw [pk_un e]
          exact h1 j (by omega)
      · rw [pk_un (by omega)]
        exact h2 j (by omega)
  simp (disch := omega) only [VX11_take, hl, iI_lit, lI_lit, iI_nI, iI_add, iI_sub, iI_mul, iI_neg, c_lt_t, c_lt_f, c_le_t, c_le_f, c_eq_t, c_eq_f, c_in_t, iI_clamp, Int.toNat_natCast, forall_eq, true_and, and_true, false_and, and_false, not_true_eq_false, not_false_eq_true, true_implies, false_implies, implies_true, forall_const, true_or, or_true, false_or, or_false, pk_us, vu_s, vL_s, vb_0, vb_1, if_true, if_false, ite_true, ite_false]
  exact ⟨n + 1, key n 0 row _ (by omega) rfl (fun j hj => absurd hj (Nat.not_lt_zero j)) (fun _ _ => rfl)⟩
theorem s11_count {post : Int32 → Prop} {row : Nat → Int32} {f : Nat → Nat} {a n x : Nat} (ha : a + n ≤ 45) (hx : x < 1000) (hr : ∀ j, a ≤ j → j < a + n → row j = iI (f j) ∧ f j < 1000) (h : post (iI (cn f x a n))) : VX11_count post row (iI a) (iI n) (iI x) := by
  have key : ∀ k m (x4 x5 : Int32), m + k = n → x4 = iI (cn f x a m) → x5 = iI ((a : Int) + m) → VX11_count_6 post row (iI a) (iI n) (iI x) (k + 1) x4 x5 := by
    intro k
    induction k with
    | zero =>
      intro m x4 x5 hm e4 e5
      have : m = n := by omega
      subst this
      subst e4 e5
      simp (disch := omega) only [VX11_count_6, iI_lit, lI_lit, iI_nI, iI_add, iI_sub, iI_mul, iI_neg, c_lt_t, c_lt_f, c_le_t, c_le_f, c_eq_t, c_eq_f, c_in_t, iI_clamp, Int.toNat_natCast, forall_eq, true_and, and_true, false_and, and_false, not_true_eq_false, not_false_eq_true, true_implies, false_implies, implies_true, forall_const, true_or, or_true, false_or, or_false, pk_us, vu_s, vL_s, vb_0, vb_1, if_true, if_false, ite_true, ite_false]
      exact h
    | succ k ih =>
      intro m x4 x5 hm e4 e5
      subst e4 e5
      obtain ⟨e, he⟩ := hr (a + m) (by omega) (by omega)
      have ei : ((a : Int) + (m : Int)).toNat = a + m := by omega
      rw [VX11_count_6]
      by_cases c : f (a + m) = x
      · simp (disch := omega) only [ei, e, iI_lit, lI_lit, iI_nI, iI_add, iI_sub, iI_mul, iI_neg, c_lt_t, c_lt_f, c_le_t, c_le_f, c_eq_t, c_eq_f, c_in_t, iI_clamp, Int.toNat_natCast, forall_eq, true_and, and_true, false_and, and_false, not_true_eq_false, not_false_eq_true, true_implies, false_implies, implies_true, forall_const, true_or, or_true, false_or, or_false, pk_us, vu_s, vL_s, vb_0, vb_1, if_true, if_false, ite_true, ite_false]
        exact ih (m + 1) _ _ (by omega) (congrArg iI (by simp only [cn, c, if_true]; omega)) (congrArg iI (by omega))
      · simp (disch := omega) only [ei, e, iI_lit, lI_lit, iI_nI, iI_add, iI_sub, iI_mul, iI_neg, c_lt_t, c_lt_f, c_le_t, c_le_f, c_eq_t, c_eq_f, c_in_t, iI_clamp, Int.toNat_natCast, forall_eq, true_and, and_true, false_and, and_false, not_true_eq_false, not_false_eq_true, true_implies, false_implies, implies_true, forall_const, true_or, or_true, false_or, or_false, pk_us, vu_s, vL_s, vb_0, vb_1, if_true, if_false, ite_true, ite_false]
        exact ih (m + 1) _ _ (by omega) (congrArg iI (by simp only [cn, c, if_false]; omega)) (congrArg iI (by omega))
  exact ⟨n + 1, key n 0 _ _ (by omega) rfl (congrArg iI (by omega))⟩
/-- the class counts in a word -/
theorem s9_count {post : Int32 → Prop} {tn : Nat} {letters : Nat → Int32} {f : Nat → Nat} {s a n x : Nat} (hs : s ≤ tn) (htn : tn < 1000) (ha : a + n ≤ s) (hx : x < 1000) (hr : ∀ j, j < s → letters j = iI (f j) ∧ f j < 1000) (h : post (iI (cn f x a n))) : VX9_count post tn letters (iI s) (iI x) (iI a) (iI ((a : Int) + n)) := by
  have key : ∀ k m (x4 x5 : Int32), m + k = n → x4 = iI (cn f x a m) → x5 = iI ((a : Int) + m) → VX9_count_10 post tn letters (iI s) (iI x) (iI a) (iI ((a : Int) + n)) (k + 1) x4 x5 := by
    intro k
    induction k with
    | zero =>
      intro m x4 x5 hm e4 e5
      have : m = n := by omega
      subst this
      subst e4 e5
      simp (disch := omega) only [VX9_count_10, iI_lit, lI_lit, iI_nI, iI_add, iI_sub, iI_mul, iI_neg, c_lt_t, c_lt_f, c_le_t, c_le_f, c_eq_t, c_eq_f, c_in_t, iI_clamp, Int.toNat_natCast, forall_eq, true_and, and_true, false_and, and_false, not_true_eq_false, not_false_eq_true, true_implies, false_implies, implies_true, forall_const, true_or, or_true, false_or, or_false, pk_us, vu_s, vL_s, vb_0, vb_1, if_true, if_false, ite_true, ite_false]
      exact h
    | succ k ih =>
      intro m x4 x5 hm e4 e5
      subst e4 e5
      obtain ⟨e, he⟩ := hr (a + m) (by omega)
      have ei : ((a : Int) + (m : Int)).toNat = a + m := by omega
      rw [VX9_count_10]
      by_cases c : f (a + m) = x
      · simp (disch := omega) only [ei, e, iI_lit, lI_lit, iI_nI, iI_add, iI_sub, iI_mul, iI_neg, c_lt_t, c_lt_f, c_le_t, c_le_f, c_eq_t, c_eq_f, c_in_t, iI_clamp, Int.toNat_natCast, forall_eq, true_and, and_true, false_and, and_false, not_true_eq_false, not_false_eq_true, true_implies, false_implies, implies_true, forall_const, true_or, or_true, false_or, or_false, pk_us, vu_s, vL_s, vb_0, vb_1, if_true, if_false, ite_true, ite_false]
        exact ih (m + 1) _ _ (by omega) (congrArg iI (by simp only [cn, c, if_true]; omega)) (congrArg iI (by omega))
      · simp (disch := omega) only [ei, e, iI_lit, lI_lit, iI_nI, iI_add, iI_sub, iI_mul, iI_neg, c_lt_t, c_lt_f, c_le_t, c_le_f, c_eq_t, c_eq_f, c_in_t, iI_clamp, Int.toNat_natCast, forall_eq, true_and, and_true, false_and, and_false, not_true_eq_false, not_false_eq_true, true_implies, false_implies, implies_true, forall_const, true_or, or_true, false_or, or_false, pk_us, vu_s, vL_s, vb_0, vb_1, if_true, if_false, ite_true, ite_false]
        exact ih (m + 1) _ _ (by omega) (congrArg iI (by simp only [cn, c, if_false]; omega)) (congrArg iI (by omega))
  refine ⟨n + 1, ?_⟩
  rw [if_neg (show ¬ iI (a : Int) < 0 by rw [iI_lit, iI_lt (by omega) (by omega) (by omega) (by omega)]; omega)]
  exact key n 0 _ _ (by omega) rfl (congrArg iI (by omega))
