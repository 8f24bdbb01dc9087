/-! INPUT -/
def RIn (bytes : Nat → Int32) (size : Int32) (input : Nat → Int32) (fed : Int32) : Prop := ∃ (n : Nat) (f : Nat → Nat), n ≤ 16 ∧ (∀ j, j < n → 1 ≤ f j ∧ f j ≤ 127) ∧ size = iI n ∧ fed = iI n ∧ ∀ j, j < n → bytes j = iI (f j) ∧ input j = iI (f j)
theorem L_feed {bytes : Nat → Int32} {size : Int32} {input : Nat → Int32} {fed : Int32} (hR : RIn bytes size input fed) (p : Int32) {P : Int32 → (Nat → Int32) → Int32 → Int32 → (Nat → Int32) → Int32 → Prop} (hP : ∀ r a b c d, RIn a b c d → P r a b r c d) :
    VX10_feed (fun r a b => VX11_feed (fun r2 c d => P r a b r2 c d) p input fed) p bytes size := by
  obtain ⟨n, f, hn, hf, rfl, rfl, hb⟩ := hR
  obtain ⟨z, rfl, h1, h2⟩ := iI_rng p
  have hR0 : RIn bytes (iI n) input (iI n) := ⟨n, f, hn, hf, rfl, rfl, hb⟩
  by_cases c1 : z < 1
  · simp (disch := omega) only [VX10_feed, VX11_feed, VX11_isIn, VX1_put, iI_lit, lI_lit, iI_nI, iI_add, iI_sub, iI_mul, iI_neg, c_lt_t, c_lt_f, c_le_t, c_le_f, c_eq_t, c_eq_f, c_in_t, iI_clamp, Int.toNat_natCast, forall_eq, true_and, and_true, false_and, and_false, not_true_eq_false, not_false_eq_true, true_implies, false_implies, implies_true, forall_const, true_or, or_true, false_or, or_false, pk_us, vu_s, vL_s, vb_0, vb_1, if_true, if_false, ite_true, ite_false]
    exact hP _ _ _ _ _ hR0
  · by_cases c2 : 127 < z
    · simp (disch := omega) only [VX10_feed, VX11_feed, VX11_isIn, VX1_put, iI_lit, lI_lit, iI_nI, iI_add, iI_sub, iI_mul, iI_neg, c_lt_t, c_lt_f, c_le_t, c_le_f, c_eq_t, c_eq_f, c_in_t, iI_clamp, Int.toNat_natCast, forall_eq, true_and, and_true, false_and, and_false, not_true_eq_false, not_false_eq_true, true_implies, false_implies, implies_true, forall_const, true_or, or_true, false_or, or_false, pk_us, vu_s, vL_s, vb_0, vb_1, if_true, if_false, ite_true, ite_false]
      exact hP _ _ _ _ _ hR0
    · by_cases c3 : n = 16
      · simp (disch := omega) only [VX10_feed, VX11_feed, VX11_isIn, VX1_put, iI_lit, lI_lit, iI_nI, iI_add, iI_sub, iI_mul, iI_neg, c_lt_t, c_lt_f, c_le_t, c_le_f, c_eq_t, c_eq_f, c_in_t, iI_clamp, Int.toNat_natCast, forall_eq, true_and, and_true, false_and, and_false, not_true_eq_false, not_false_eq_true, true_implies, false_implies, implies_true, forall_const, true_or, or_true, false_or, or_false, pk_us, vu_s, vL_s, vb_0, vb_1, if_true, if_false, ite_true, ite_false]
        exact hP _ _ _ _ _ hR0
      · simp (disch := omega) only [VX10_feed, VX11_feed, VX11_isIn, VX1_put, iI_lit, lI_lit, iI_nI, iI_add, iI_sub, iI_mul, iI_neg, c_lt_t, c_lt_f, c_le_t, c_le_f, c_eq_t, c_eq_f, c_in_t, iI_clamp, Int.toNat_natCast, forall_eq, true_and, and_true, false_and, and_false, not_true_eq_false, not_false_eq_true, true_implies, false_implies, implies_true, forall_const, true_or, or_true, false_or, or_false, pk_us, vu_s, vL_s, vb_0, vb_1, if_true, if_false, ite_true, ite_false]
        refine hP _ _ _ _ _ ⟨n + 1, va_up f n z.toNat, by omega, fun j hj => ?_, rfl, rfl, fun j hj => ?_⟩
        · by_cases e : j = n
          · subst e
            rw [vu_s]; omega
          · rw [vu_n e]; exact hf j (by omega)
        · by_cases e : j = n
          · subst e
            rw [pk_us, pk_us, vu_s, Int.toNat_of_nonneg (by omega)]
            exact ⟨rfl, rfl⟩
          · rw [pk_un e, pk_un e, vu_n e]
            exact hb j (by omega)
theorem L_problem (k e l p : Int32) {P : Int32 → Int32 → Prop} (hP : ∀ r, P r r) : VX10_problem (fun r => VX11_problem (fun r2 => P r r2) k e l p) k e l p := by
  obtain ⟨z, rfl, h1, h2⟩ := iI_rng p
  by_cases c0 : z = 0
  · subst c0
    simp (disch := omega) only [VX10_problem, VX11_problem, iI_toInt, iI_lit, lI_lit, iI_nI, iI_add, iI_sub, iI_mul, iI_neg, c_lt_t, c_lt_f, c_le_t, c_le_f, c_eq_t, c_eq_f, c_in_t, iI_clamp, Int.toNat_natCast, forall_eq, true_and, and_true, false_and, and_false, not_true_eq_false, not_false_eq_true, true_implies, false_implies, implies_true, forall_const, true_or, or_true, false_or, or_false, pk_us, vu_s, vL_s, vb_0, vb_1, if_true, if_false, ite_true, ite_false]
    simp [hP]
  · by_cases c1 : z = 1
    · subst c1
      simp (disch := omega) only [VX10_problem, VX11_problem, iI_toInt, iI_lit, lI_lit, iI_nI, iI_add, iI_sub, iI_mul, iI_neg, c_lt_t, c_lt_f, c_le_t, c_le_f, c_eq_t, c_eq_f, c_in_t, iI_clamp, Int.toNat_natCast, forall_eq, true_and, and_true, false_and, and_false, not_true_eq_false, not_false_eq_true, true_implies, false_implies, implies_true, forall_const, true_or, or_true, false_or, or_false, pk_us, vu_s, vL_s, vb_0, vb_1, if_true, if_false, ite_true, ite_false]
      simp [hP]
    · by_cases c2 : z = 2
      · subst c2
        simp (disch := omega) only [VX10_problem, VX11_problem, iI_toInt, iI_lit, lI_lit, iI_nI, iI_add, iI_sub, iI_mul, iI_neg, c_lt_t, c_lt_f, c_le_t, c_le_f, c_eq_t, c_eq_f, c_in_t, iI_clamp, Int.toNat_natCast, forall_eq, true_and, and_true, false_and, and_false, not_true_eq_false, not_false_eq_true, true_implies, false_implies, implies_true, forall_const, true_or, or_true, false_or, or_false, pk_us, vu_s, vL_s, vb_0, vb_1, if_true, if_false, ite_true, ite_false]
        simp [hP]
      · simp (disch := omega) only [VX10_problem, VX11_problem, iI_toInt, iI_lit, lI_lit, iI_nI, iI_add, iI_sub, iI_mul, iI_neg, c_lt_t, c_lt_f, c_le_t, c_le_f, c_eq_t, c_eq_f, c_in_t, iI_clamp, Int.toNat_natCast, forall_eq, true_and, and_true, false_and, and_false, not_true_eq_false, not_false_eq_true, true_implies, false_implies, implies_true, forall_const, true_or, or_true, false_or, or_false, pk_us, vu_s, vL_s, vb_0, vb_1, if_true, if_false, ite_true, ite_false]
        simp [hP]
/-! THE PROBLEM, VALUES, WORDS, IMAGES -/
def RVal (V : Nat → Int) (cv mv : Nat → Int32) : Prop := ∀ x, x < 4 → (-9 ≤ V x ∧ V x ≤ 9) ∧ cv x = iI (V x) ∧ mv x = iI (V x)
def RWd (N : Nat) (wl : Nat → Nat) (w : Nat → Nat → Nat) (wL : Nat → Nat → Int32) (wS words lengths : Nat → Int32) : Prop := ∀ i, i < 3 → wl i ≤ 40 ∧ wS i = iI (wl i) ∧ lengths i = iI (wl i) ∧ ∀ j, j < wl i → w i j < N ∧ wL i j = iI (w i j) ∧ words (40 * i + j) = iI (w i j)
def RIm (N : Nat) (il : Nat → Nat) (im : Nat → Nat → Nat) (iL : Nat → Nat → Int32) (iS images sizes : Nat → Int32) : Prop := ∀ x, x < 4 → il x ≤ 4 ∧ iS x = iI (il x) ∧ sizes x = iI (il x) ∧ ∀ j, j < il x → im x j < N ∧ iL x j = iI (im x j) ∧ images (4 * x + j) = iI (im x j)
def EW (N : Nat) (wL : Nat → Nat → Int32) (wS words lengths : Nat → Int32) : Prop := ∃ wl w, RWd N wl w wL wS words lengths
def EI (N : Nat) (iL : Nat → Nat → Int32) (iS images sizes : Nat → Int32) : Prop := ∃ il im, RIm N il im iL iS images sizes
def EV (cv mv : Nat → Int32) : Prop := ∃ V, RVal V cv mv
theorem L_setValue {N : Nat} (hN : 2 ≤ N ∧ N ≤ 4) {cv mv : Nat → Int32} (h : EV cv mv) (p q : Int32) {P : Int32 → (Nat → Int32) → Int32 → (Nat → Int32) → Prop} (hP : ∀ r a c, EV a c → P r a r c) :
    VX10_setValue (fun r a => VX11_setValue (fun r2 c => P r a r2 c) (iI N) p q mv) (iI N) p q cv := by
  obtain ⟨V, hV⟩ := h
  have h0 : EV cv mv := ⟨V, hV⟩
  obtain ⟨b, rfl, hb1, hb2⟩ := iI_rng q
  rcases ix_cases p N (by omega) with ⟨x, hx, rfl⟩ | ⟨z, rfl, h1, h2, h3⟩
  · obtain ⟨-, e1, e2⟩ := hV x (by omega)
    by_cases c1 : b < -9
    · simp (disch := omega) only [VX10_setValue, VX11_setValue, VX5_hasLetter, VX11_isLetter, VX11_isIn, e1, e2, iI_lit, lI_lit, iI_nI, iI_add, iI_sub, iI_mul, iI_neg, c_lt_t, c_lt_f, c_le_t, c_le_f, c_eq_t, c_eq_f, c_in_t, iI_clamp, Int.toNat_natCast, forall_eq, true_and, and_true, false_and, and_false, not_true_eq_false, not_false_eq_true, true_implies, false_implies, implies_true, forall_const, true_or, or_true, false_or, or_false, pk_us, vu_s, vL_s, vb_0, vb_1, if_true, if_false, ite_true, ite_false]
      exact hP _ _ _ h0
    · by_cases c2 : 9 < b
      · simp (disch := omega) only [VX10_setValue, VX11_setValue, VX5_hasLetter, VX11_isLetter, VX11_isIn, e1, e2, iI_lit, lI_lit, iI_nI, iI_add, iI_sub, iI_mul, iI_neg, c_lt_t, c_lt_f, c_le_t, c_le_f, c_eq_t, c_eq_f, c_in_t, iI_clamp, Int.toNat_natCast, forall_eq, true_and, and_true, false_and, and_false, not_true_eq_false, not_false_eq_true, true_implies, false_implies, implies_true, forall_const, true_or, or_true, false_or, or_false, pk_us, vu_s, vL_s, vb_0, vb_1, if_true, if_false, ite_true, ite_false]
        exact hP _ _ _ h0
      · simp (disch := omega) only [VX10_setValue, VX11_setValue, VX5_hasLetter, VX11_isLetter, VX11_isIn, e1, e2, iI_lit, lI_lit, iI_nI, iI_add, iI_sub, iI_mul, iI_neg, c_lt_t, c_lt_f, c_le_t, c_le_f, c_eq_t, c_eq_f, c_in_t, iI_clamp, Int.toNat_natCast, forall_eq, true_and, and_true, false_and, and_false, not_true_eq_false, not_false_eq_true, true_implies, false_implies, implies_true, forall_const, true_or, or_true, false_or, or_false, pk_us, vu_s, vL_s, vb_0, vb_1, if_true, if_false, ite_true, ite_false]
        refine hP _ _ _ ⟨va_up V x b, fun y hy => ?_⟩
        by_cases e : y = x
        · subst e
          rw [pk_us, pk_us, vu_s]
          exact ⟨by omega, rfl, rfl⟩
        · rw [pk_un e, pk_un e, vu_n e]
          exact hV y hy
  · rcases h3 with h3 | h3
    · simp (disch := omega) only [VX10_setValue, VX11_setValue, VX5_hasLetter, VX11_isLetter, VX11_isIn, iI_lit, lI_lit, iI_nI, iI_add, iI_sub, iI_mul, iI_neg, c_lt_t, c_lt_f, c_le_t, c_le_f, c_eq_t, c_eq_f, c_in_t, iI_clamp, Int.toNat_natCast, forall_eq, true_and, and_true, false_and, and_false, not_true_eq_false, not_false_eq_true, true_implies, false_implies, implies_true, forall_const, true_or, or_true, false_or, or_false, pk_us, vu_s, vL_s, vb_0, vb_1, if_true, if_false, ite_true, ite_false]
      exact hP _ _ _ h0
    · simp (disch := omega) only [VX10_setValue, VX11_setValue, VX5_hasLetter, VX11_isLetter, VX11_isIn, iI_lit, lI_lit, iI_nI, iI_add, iI_sub, iI_mul, iI_neg, c_lt_t, c_lt_f, c_le_t, c_le_f, c_eq_t, c_eq_f, c_in_t, iI_clamp, Int.toNat_natCast, forall_eq, true_and, and_true, false_and, and_false, not_true_eq_false, not_false_eq_true, true_implies, false_implies, implies_true, forall_const, true_or, or_true, false_or, or_false, pk_us, vu_s, vL_s, vb_0, vb_1, if_true, if_false, ite_true, ite_false]
      exact hP _ _ _ h0
theorem L_append {N : Nat} (hN : 2 ≤ N ∧ N ≤ 4) {wL : Nat → Nat → Int32} {wS words lengths : Nat → Int32} (h : EW N wL wS words lengths) (p q : Int32) {P : Int32 → (Nat → Nat → Int32) → (Nat → Int32) → Int32 → (Nat → Int32) → (Nat → Int32) → Prop} (hP : ∀ r a b c d, EW N a b c d → P r a b r c d) :
    VX10_append (fun r a b => VX11_append (fun r2 c d => P r a b r2 c d) (iI N) p q words lengths) (iI N) p q wL wS := by
  have h0 := h
  obtain ⟨wl, w, hW⟩ := h
  rcases ix_cases p 3 (by omega) with ⟨i, hi, rfl⟩ | ⟨z, rfl, h1, h2, h3⟩
  · obtain ⟨hl, e1, e2, e3⟩ := hW i hi
    rcases ix_cases q N (by omega) with ⟨x, hx, rfl⟩ | ⟨z, rfl, h1, h2, h3⟩
    · by_cases c : wl i = 40
      · simp (disch := omega) only [VX10_append, VX11_append, VX10_isWord, VX11_isWord, VX5_hasLetter, VX9_put, VX11_isLetter, VX11_isIn, e1, e2, iI_lit, lI_lit, iI_nI, iI_add, iI_sub, iI_mul, iI_neg, c_lt_t, c_lt_f, c_le_t, c_le_f, c_eq_t, c_eq_f, c_in_t, iI_clamp, Int.toNat_natCast, forall_eq, true_and, and_true, false_and, and_false, not_true_eq_false, not_false_eq_true, true_implies, false_implies, implies_true, forall_const, true_or, or_true, false_or, or_false, pk_us, vu_s, vL_s, vb_0, vb_1, if_true, if_false, ite_true, ite_false]
        exact hP _ _ _ _ _ h0
      · have e4 : (40 * (i : Int) + (wl i : Int)).toNat = 40 * i + wl i := by omega
        simp (disch := omega) only [VX10_append, VX11_append, VX10_isWord, VX11_isWord, VX5_hasLetter, VX9_put, VX11_isLetter, VX11_isIn, e1, e2, e4, iI_lit, lI_lit, iI_nI, iI_add, iI_sub, iI_mul, iI_neg, c_lt_t, c_lt_f, c_le_t, c_le_f, c_eq_t, c_eq_f, c_in_t, iI_clamp, Int.toNat_natCast, forall_eq, true_and, and_true, false_and, and_false, not_true_eq_false, not_false_eq_true, true_implies, false_implies, implies_true, forall_const, true_or, or_true, false_or, or_false, pk_us, vu_s, vL_s, vb_0, vb_1, if_true, if_false, ite_true, ite_false]
        refine hP _ _ _ _ _ ⟨va_up wl i (wl i + 1), va_up w i (va_up (w i) (wl i) x), fun k hk => ?_⟩
        by_cases e : k = i
        · subst e
          simp only [vu_s, pk_us]
          refine ⟨by omega, rfl, rfl, fun j hj => ?_⟩
          by_cases f : j = wl k
          · subst f
            simp only [vu_s, pk_us]
            exact ⟨hx, trivial, trivial⟩
          · rw [vu_n f, pk_un f, pk_un (by omega)]
            exact e3 j (by omega)
        · rw [vu_n e, vu_n e, vu_n e, vu_n e, pk_un e]
          obtain ⟨a1, a2, a3, a4⟩ := hW k hk
          refine ⟨a1, a2, a3, fun j hj => ?_⟩
          rw [pk_un (by omega)]
          exact a4 j hj
    · rcases h3 with h3 | h3
      · simp (disch := omega) only [VX10_append, VX11_append, VX10_isWord, VX11_isWord, VX5_hasLetter, VX9_put, VX11_isLetter, VX11_isIn, e1, e2, iI_lit, lI_lit, iI_nI, iI_add, iI_sub, iI_mul, iI_neg, c_lt_t, c_lt_f, c_le_t, c_le_f, c_eq_t, c_eq_f, c_in_t, iI_clamp, Int.toNat_natCast, forall_eq, true_and, and_true, false_and, and_false, not_true_eq_false, not_false_eq_true, true_implies, false_implies, implies_true, forall_const, true_or, or_true, false_or, or_false, pk_us, vu_s, vL_s, vb_0, vb_1, if_true, if_false, ite_true, ite_false]
        exact hP _ _ _ _ _ h0
      · simp (disch := omega) only [VX10_append, VX11_append, VX10_isWord, VX11_isWord, VX5_hasLetter, VX9_put, VX11_isLetter, VX11_isIn, e1, e2, iI_lit, lI_lit, iI_nI, iI_add, iI_sub, iI_mul, iI_neg, c_lt_t, c_lt_f, c_le_t, c_le_f, c_eq_t, c_eq_f, c_in_t, iI_clamp, Int.toNat_natCast, forall_eq, true_and, and_true, false_and, and_false, not_true_eq_false, not_false_eq_true, true_implies, false_implies, implies_true, forall_const, true_or, or_true, false_or, or_false, pk_us, vu_s, vL_s, vb_0, vb_1, if_true, if_false, ite_true, ite_false]
        exact hP _ _ _ _ _ h0
  · rcases h3 with h3 | h3
    · simp (disch := omega) only [VX10_append, VX11_append, VX10_isWord, VX11_isWord, VX5_hasLetter, VX9_put, VX11_isLetter, VX11_isIn, iI_lit, lI_lit, iI_nI, iI_add, iI_sub, iI_mul, iI_neg, c_lt_t, c_lt_f, c_le_t, c_le_f, c_eq_t, c_eq_f, c_in_t, iI_clamp, Int.toNat_natCast, forall_eq, true_and, and_true, false_and, and_false, not_true_eq_false, not_false_eq_true, true_implies, false_implies, implies_true, forall_const, true_or, or_true, false_or, or_false, pk_us, vu_s, vL_s, vb_0, vb_1, if_true, if_false, ite_true, ite_false]
      exact hP _ _ _ _ _ h0
    · simp (disch := omega) only [VX10_append, VX11_append, VX10_isWord, VX11_isWord, VX5_hasLetter, VX9_put, VX11_isLetter, VX11_isIn, iI_lit, lI_lit, iI_nI, iI_add, iI_sub, iI_mul, iI_neg, c_lt_t, c_lt_f, c_le_t, c_le_f, c_eq_t, c_eq_f, c_in_t, iI_clamp, Int.toNat_natCast, forall_eq, true_and, and_true, false_and, and_false, not_true_eq_false, not_false_eq_true, true_implies, false_implies, implies_true, forall_const, true_or, or_true, false_or, or_false, pk_us, vu_s, vL_s, vb_0, vb_1, if_true, if_false, ite_true, ite_false]
      exact hP _ _ _ _ _ h0
