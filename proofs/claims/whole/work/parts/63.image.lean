/-! PARSING AN IMAGE -/
def isL (f : Nat → Nat) (n N i : Nat) : Prop := 97 ≤ bt f n i ∧ bt f n i < 97 + N
def IL (f : Nat → Nat) (n N s : Nat) : Prop := s ≤ 4 ∧ (∀ j, j < s → isL f n N (2 + j)) ∧ (s < 4 → ¬ isL f n N (2 + s))
theorem IL_u {f : Nat → Nat} {n N s s' : Nat} (h : IL f n N s) (h' : IL f n N s') : s = s' := by
  obtain ⟨a1, a2, a3⟩ := h
  obtain ⟨b1, b2, b3⟩ := h'
  by_cases c : s < s'
  · exact absurd (b2 s c) (a3 (by omega))
  · by_cases d : s' < s
    · exact absurd (a2 s' d) (b3 (by omega))
    · omega
theorem s1_letterAt {post : Int32 → Prop} {bytes : Nat → Int32} {f : Nat → Nat} {n i N : Nat} (hN : N ≤ 4) (hn : n ≤ 16) (hi : i < 1000) (hb : ∀ j, j < n → bytes j = iI (f j)) (hf : ∀ j, j < n → 1 ≤ f j ∧ f j ≤ 127) (h1 : isL f n N i → post (iI ((bt f n i - 97 : Nat) : Int))) (h0 : ¬ isL f n N i → post (iI (-1))) : VX1_letterAt post bytes (iI n) (iI i) (iI N) := by
  unfold VX1_letterAt
  refine s1_byteAt (f := f) hn hi hb ?_
  have hle := bt_le hf i
  unfold isL at h1 h0
  by_cases c : 97 ≤ bt f n i ∧ bt f n i < 97 + N
  · have e : ((bt f n i : Nat) : Int) - 97 = ((bt f n i - 97 : Nat) : Int) := by omega
    simp (disch := omega) only [e, iI_lit, lI_lit, iI_nI, iI_add, iI_sub, iI_mul, iI_neg, c_lt_t, c_lt_f, c_le_t, c_le_f, c_eq_t, c_eq_f, c_in_t, iI_clamp, Int.toNat_natCast, forall_eq, true_and, and_true, false_and, and_false, not_true_eq_false, not_false_eq_true, true_implies, false_implies, implies_true, forall_const, true_or, or_true, false_or, or_false, pk_us, vu_s, vL_s, vb_0, vb_1, if_true, if_false, ite_true, ite_false]
    exact h1 c
  · by_cases d : bt f n i < 97
    · simp (disch := omega) only [iI_lit, lI_lit, iI_nI, iI_add, iI_sub, iI_mul, iI_neg, c_lt_t, c_lt_f, c_le_t, c_le_f, c_eq_t, c_eq_f, c_in_t, iI_clamp, Int.toNat_natCast, forall_eq, true_and, and_true, false_and, and_false, not_true_eq_false, not_false_eq_true, true_implies, false_implies, implies_true, forall_const, true_or, or_true, false_or, or_false, pk_us, vu_s, vL_s, vb_0, vb_1, if_true, if_false, ite_true, ite_false]
      exact h0 c
    · simp (disch := omega) only [iI_lit, lI_lit, iI_nI, iI_add, iI_sub, iI_mul, iI_neg, c_lt_t, c_lt_f, c_le_t, c_le_f, c_eq_t, c_eq_f, c_in_t, iI_clamp, Int.toNat_natCast, forall_eq, true_and, and_true, false_and, and_false, not_true_eq_false, not_false_eq_true, true_implies, false_implies, implies_true, forall_const, true_or, or_true, false_or, or_false, pk_us, vu_s, vL_s, vb_0, vb_1, if_true, if_false, ite_true, ite_false]
      exact h0 c
theorem s11_letterAt {post : Int32 → Prop} {input : Nat → Int32} {f : Nat → Nat} {n i N : Nat} (hN : 2 ≤ N ∧ N ≤ 4) (hn : n ≤ 16) (hi : i < 1000) (hb : ∀ j, j < n → input j = iI (f j)) (hf : ∀ j, j < n → 1 ≤ f j ∧ f j ≤ 127) (h1 : isL f n N i → post (iI ((bt f n i - 97 : Nat) : Int))) (h0 : ¬ isL f n N i → post (iI (-2))) : VX11_letterAt post (iI N) input (iI i) (iI n) := by
  unfold VX11_letterAt
  refine s11_sign (f := f) hn hi hb ?_
  have hle := bt_le hf i
  unfold isL at h1 h0
  by_cases c : 97 ≤ bt f n i ∧ bt f n i < 97 + N
  · have e : ((bt f n i : Nat) : Int) - 97 = ((bt f n i - 97 : Nat) : Int) := by omega
    simp (disch := omega) only [VX11_isLetter, VX11_isIn, e, iI_lit, lI_lit, iI_nI, iI_add, iI_sub, iI_mul, iI_neg, c_lt_t, c_lt_f, c_le_t, c_le_f, c_eq_t, c_eq_f, c_in_t, iI_clamp, Int.toNat_natCast, forall_eq, true_and, and_true, false_and, and_false, not_true_eq_false, not_false_eq_true, true_implies, false_implies, implies_true, forall_const, true_or, or_true, false_or, or_false, pk_us, vu_s, vL_s, vb_0, vb_1, if_true, if_false, ite_true, ite_false]
    exact h1 c
  · by_cases d : bt f n i < 97
    · simp (disch := omega) only [VX11_isLetter, VX11_isIn, iI_lit, lI_lit, iI_nI, iI_add, iI_sub, iI_mul, iI_neg, c_lt_t, c_lt_f, c_le_t, c_le_f, c_eq_t, c_eq_f, c_in_t, iI_clamp, Int.toNat_natCast, forall_eq, true_and, and_true, false_and, and_false, not_true_eq_false, not_false_eq_true, true_implies, false_implies, implies_true, forall_const, true_or, or_true, false_or, or_false, pk_us, vu_s, vL_s, vb_0, vb_1, if_true, if_false, ite_true, ite_false]
      exact h0 c
    · simp (disch := omega) only [VX11_isLetter, VX11_isIn, iI_lit, lI_lit, iI_nI, iI_add, iI_sub, iI_mul, iI_neg, c_lt_t, c_lt_f, c_le_t, c_le_f, c_eq_t, c_eq_f, c_in_t, iI_clamp, Int.toNat_natCast, forall_eq, true_and, and_true, false_and, and_false, not_true_eq_false, not_false_eq_true, true_implies, false_implies, implies_true, forall_const, true_or, or_true, false_or, or_false, pk_us, vu_s, vL_s, vb_0, vb_1, if_true, if_false, ite_true, ite_false]
      exact h0 c
theorem s1_imgloop {post : Int32 → Prop} {bytes : Nat → Int32} {f : Nat → Nat} {n N : Nat} (hN : N ≤ 4) (hn : n ≤ 16) (hb : ∀ j, j < n → bytes j = iI (f j)) (hf : ∀ j, j < n → 1 ≤ f j ∧ f j ≤ 127) (h : ∀ s, IL f n N s → VX1_imageFault_48 post bytes (iI n) (iI N) (iI ((2 + s : Nat) : Int))) : ∃ q, VX1_imageFault_26 post bytes (iI n) (iI N) q (iI 2) := by
  have key : ∀ (q s : Nat) (x2 : Int32), s + q = 4 → x2 = iI ((2 + s : Nat) : Int) → (∀ j, j < s → isL f n N (2 + j)) → VX1_imageFault_26 post bytes (iI n) (iI N) (q + 1) x2 := by
    intro q
    induction q with
    | zero =>
      intro s x2 hs e hp
      subst e
      rw [VX1_imageFault_26]
      simp (disch := omega) only [iI_lit, lI_lit, iI_nI, iI_add, iI_sub, iI_mul, iI_neg, c_lt_t, c_lt_f, c_le_t, c_le_f, c_eq_t, c_eq_f, c_in_t, iI_clamp, Int.toNat_natCast, forall_eq, true_and, and_true, false_and, and_false, not_true_eq_false, not_false_eq_true, true_implies, false_implies, implies_true, forall_const, true_or, or_true, false_or, or_false, pk_us, vu_s, vL_s, vb_0, vb_1, if_true, if_false, ite_true, ite_false]
      exact h s ⟨by omega, hp, fun c => absurd c (by omega)⟩
    | succ q ih =>
      intro s x2 hs e hp
      subst e
      rw [VX1_imageFault_26]
      simp (disch := omega) only [iI_lit, lI_lit, iI_nI, iI_add, iI_sub, iI_mul, iI_neg, c_lt_t, c_lt_f, c_le_t, c_le_f, c_eq_t, c_eq_f, c_in_t, iI_clamp, Int.toNat_natCast, forall_eq, true_and, and_true, false_and, and_false, not_true_eq_false, not_false_eq_true, true_implies, false_implies, implies_true, forall_const, true_or, or_true, false_or, or_false, pk_us, vu_s, vL_s, vb_0, vb_1, if_true, if_false, ite_true, ite_false]
      refine s1_letterAt hN hn (by omega) hb hf (fun c => ?_) (fun c => ?_)
      · have hle := bt_le hf (2 + s)
        simp (disch := omega) only [iI_lit, lI_lit, iI_nI, iI_add, iI_sub, iI_mul, iI_neg, c_lt_t, c_lt_f, c_le_t, c_le_f, c_eq_t, c_eq_f, c_in_t, iI_clamp, Int.toNat_natCast, forall_eq, true_and, and_true, false_and, and_false, not_true_eq_false, not_false_eq_true, true_implies, false_implies, implies_true, forall_const, true_or, or_true, false_or, or_false, pk_us, vu_s, vL_s, vb_0, vb_1, if_true, if_false, ite_true, ite_false]
        refine ih (s + 1) _ (by omega) (congrArg iI (by omega)) (fun j hj => ?_)
        by_cases d : j = s
        · rw [d]
          exact c
        · exact hp j (by omega)
      · simp (disch := omega) only [iI_lit, lI_lit, iI_nI, iI_add, iI_sub, iI_mul, iI_neg, c_lt_t, c_lt_f, c_le_t, c_le_f, c_eq_t, c_eq_f, c_in_t, iI_clamp, Int.toNat_natCast, forall_eq, true_and, and_true, false_and, and_false, not_true_eq_false, not_false_eq_true, true_implies, false_implies, implies_true, forall_const, true_or, or_true, false_or, or_false, pk_us, vu_s, vL_s, vb_0, vb_1, if_true, if_false, ite_true, ite_false]
        exact h s ⟨by omega, hp, fun _ => c⟩
  exact ⟨5, key 4 0 _ (by omega) rfl (fun j hj => absurd hj (Nat.not_lt_zero j))⟩
theorem s11_imgloop {post : Int32 → (Nat → Int32) → (Nat → Int32) → Int32 → Int32 → Prop} {input im is : Nat → Int32} {fd x2 : Int32} {f : Nat → Nat} {n N : Nat} (hN : 2 ≤ N ∧ N ≤ 4) (hn : n ≤ 16) (hb : ∀ j, j < n → input j = iI (f j)) (hf : ∀ j, j < n → 1 ≤ f j ∧ f j ≤ 127) (h : ∀ s, IL f n N s → VX11_parseImage_109 post (iI N) input im is fd (iI ((2 + s : Nat) : Int)) (iI n) x2 (iI s)) : ∃ q, VX11_parseImage_78 post (iI N) input q im is fd (iI 2) (iI n) x2 (iI 0) := by
  have key : ∀ (q s : Nat) (x1 x3 : Int32), s + q = 4 → x1 = iI ((2 + s : Nat) : Int) → x3 = iI s → (∀ j, j < s → isL f n N (2 + j)) → VX11_parseImage_78 post (iI N) input (q + 1) im is fd x1 (iI n) x2 x3 := by
    intro q
    induction q with
    | zero =>
      intro s x1 x3 hs e1 e3 hp
      subst e1 e3
      rw [VX11_parseImage_78]
      simp (disch := omega) only [iI_lit, lI_lit, iI_nI, iI_add, iI_sub, iI_mul, iI_neg, c_lt_t, c_lt_f, c_le_t, c_le_f, c_eq_t, c_eq_f, c_in_t, iI_clamp, Int.toNat_natCast, forall_eq, true_and, and_true, false_and, and_false, not_true_eq_false, not_false_eq_true, true_implies, false_implies, implies_true, forall_const, true_or, or_true, false_or, or_false, pk_us, vu_s, vL_s, vb_0, vb_1, if_true, if_false, ite_true, ite_false]
      exact h s ⟨by omega, hp, fun c => absurd c (by omega)⟩
    | succ q ih =>
      intro s x1 x3 hs e1 e3 hp
      subst e1 e3
      rw [VX11_parseImage_78]
      simp (disch := omega) only [iI_lit, lI_lit, iI_nI, iI_add, iI_sub, iI_mul, iI_neg, c_lt_t, c_lt_f, c_le_t, c_le_f, c_eq_t, c_eq_f, c_in_t, iI_clamp, Int.toNat_natCast, forall_eq, true_and, and_true, false_and, and_false, not_true_eq_false, not_false_eq_true, true_implies, false_implies, implies_true, forall_const, true_or, or_true, false_or, or_false, pk_us, vu_s, vL_s, vb_0, vb_1, if_true, if_false, ite_true, ite_false]
      refine s11_letterAt hN hn (by omega) hb hf (fun c => ?_) (fun c => ?_)
      · have hle := bt_le hf (2 + s)
        simp (disch := omega) only [iI_lit, lI_lit, iI_nI, iI_add, iI_sub, iI_mul, iI_neg, c_lt_t, c_lt_f, c_le_t, c_le_f, c_eq_t, c_eq_f, c_in_t, iI_clamp, Int.toNat_natCast, forall_eq, true_and, and_true, false_and, and_false, not_true_eq_false, not_false_eq_true, true_implies, false_implies, implies_true, forall_const, true_or, or_true, false_or, or_false, pk_us, vu_s, vL_s, vb_0, vb_1, if_true, if_false, ite_true, ite_false]
        refine ih (s + 1) _ _ (by omega) (congrArg iI (by omega)) (congrArg iI (by omega)) (fun j hj => ?_)
        by_cases d : j = s
        · rw [d]
          exact c
        · exact hp j (by omega)
      · simp (disch := omega) only [iI_lit, lI_lit, iI_nI, iI_add, iI_sub, iI_mul, iI_neg, c_lt_t, c_lt_f, c_le_t, c_le_f, c_eq_t, c_eq_f, c_in_t, iI_clamp, Int.toNat_natCast, forall_eq, true_and, and_true, false_and, and_false, not_true_eq_false, not_false_eq_true, true_implies, false_implies, implies_true, forall_const, true_or, or_true, false_or, or_false, pk_us, vu_s, vL_s, vb_0, vb_1, if_true, if_false, ite_true, ite_false]
        exact h s ⟨by omega, hp, fun _ => c⟩
  exact ⟨5, key 4 0 _ _ (by omega) rfl rfl (fun j hj => absurd hj (Nat.not_lt_zero j))⟩
theorem s1_copyImage {post : (Nat → Int32) → Int32 → Prop} {bytes lt : Nat → Int32} {sz : Int32} {f : Nat → Nat} {s : Nat} (hs : s ≤ 4) (hb : ∀ j, j < 2 + s → bytes j = iI (f j)) (hf : ∀ j, j < s → 97 ≤ f (2 + j)) (h : ∀ u, (∀ j, j < s → u j = iI ((f (2 + j) - 97 : Nat) : Int)) → post u (iI s)) : VX1_copyImageTo post 4 bytes (iI ((2 + s : Nat) : Int)) lt sz := by
  have key : ∀ (q m : Nat) (u : Nat → Int32) (x1 x2 : Int32), m + q = s → x1 = iI m → x2 = iI ((2 + m : Nat) : Int) → (∀ j, j < m → u j = iI ((f (2 + j) - 97 : Nat) : Int)) → VX1_copyImageTo_7 post 4 bytes (iI ((2 + s : Nat) : Int)) (q + 1) u x1 x2 := by
    intro q
    induction q with
    | zero =>
      intro m u x1 x2 hm e1 e2 hu
      have : m = s := by omega
      subst this e1 e2
      rw [VX1_copyImageTo_7]
      simp (disch := omega) only [iI_lit, lI_lit, iI_nI, iI_add, iI_sub, iI_mul, iI_neg, c_lt_t, c_lt_f, c_le_t, c_le_f, c_eq_t, c_eq_f, c_in_t, iI_clamp, Int.toNat_natCast, forall_eq, true_and, and_true, false_and, and_false, not_true_eq_false, not_false_eq_true, true_implies, false_implies, implies_true, forall_const, true_or, or_true, false_or, or_false, pk_us, vu_s, vL_s, vb_0, vb_1, if_true, if_false, ite_true, ite_false]
      exact h u hu
    | succ q ih =>
      intro m u x1 x2 hm e1 e2 hu
      subst e1 e2
      have eb := hb (2 + m) (by omega)
      have hfm := hf m (by omega)
      have e4 : ((4 : Nat) : Int) = 4 := rfl
      have ef : ((f (2 + m) : Nat) : Int) - 97 = ((f (2 + m) - 97 : Nat) : Int) := by omega
      rw [VX1_copyImageTo_7]
      simp (disch := omega) only [VX9_put, e4, eb, ef, iI_lit, lI_lit, iI_nI, iI_add, iI_sub, iI_mul, iI_neg, c_lt_t, c_lt_f, c_le_t, c_le_f, c_eq_t, c_eq_f, c_in_t, iI_clamp, Int.toNat_natCast, forall_eq, true_and, and_true, false_and, and_false, not_true_eq_false, not_false_eq_true, true_implies, false_implies, implies_true, forall_const, true_or, or_true, false_or, or_false, pk_us, vu_s, vL_s, vb_0, vb_1, if_true, if_false, ite_true, ite_false]
      refine ih (m + 1) _ _ _ (by omega) (congrArg iI (by omega)) (congrArg iI (by omega)) (fun j hj => ?_)
      by_cases c : j = m
      · rw [c, pk_us]
      · rw [pk_un c]
        exact hu j (by omega)
  exact ⟨s + 1, key s 0 _ _ _ (by omega) rfl rfl (fun j hj => absurd hj (Nat.not_lt_zero j))⟩
theorem s11_copyImage {post : Int32 → (Nat → Int32) → (Nat → Int32) → Int32 → Int32 → Prop} {input im is : Nat → Int32} {nn fd a : Int32} {f : Nat → Nat} {s x : Nat} (hs : s ≤ 4) (hx : x < 4) (hb : ∀ j, j < 2 + s → input j = iI (f j)) (hf : ∀ j, j < s → 97 ≤ f (2 + j)) (h : ∀ u, (∀ j, j < s → u (4 * x + j) = iI ((f (2 + j) - 97 : Nat) : Int)) → (∀ j, (j < 4 * x ∨ 4 * x + s ≤ j) → u j = im j) → post (iI x) u is fd a) : ∃ q, VX11_parseImage_135 post nn input q im is fd a (iI x) (iI s) (iI 0) := by
  have key : ∀ (q m : Nat) (u : Nat → Int32) (x4 : Int32), m + q = s → x4 = iI m → (∀ j, j < m → u (4 * x + j) = iI ((f (2 + j) - 97 : Nat) : Int)) → (∀ j, (j < 4 * x ∨ 4 * x + m ≤ j) → u j = im j) → VX11_parseImage_135 post nn input (q + 1) u is fd a (iI x) (iI s) x4 := by
    intro q
    induction q with
    | zero =>
      intro m u x4 hm e4 h1 h2
      have : m = s := by omega
      subst this e4
      rw [VX11_parseImage_135]
      simp (disch := omega) only [iI_lit, lI_lit, iI_nI, iI_add, iI_sub, iI_mul, iI_neg, c_lt_t, c_lt_f, c_le_t, c_le_f, c_eq_t, c_eq_f, c_in_t, iI_clamp, Int.toNat_natCast, forall_eq, true_and, and_true, false_and, and_false, not_true_eq_false, not_false_eq_true, true_implies, false_implies, implies_true, forall_const, true_or, or_true, false_or, or_false, pk_us, vu_s, vL_s, vb_0, vb_1, if_true, if_false, ite_true, ite_false]
      exact h u h1 h2
    | succ q ih =>
      intro m u x4 hm e4 h1 h2
      subst e4
      have eb := hb (2 + m) (by omega)
      have hfm := hf m (by omega)
      have e1 : ((2 : Int) + (m : Int)).toNat = 2 + m := by omega
      have e2 : (4 * (x : Int) + (m : Int)).toNat = 4 * x + m := by omega
      have ef : ((f (2 + m) : Nat) : Int) - 97 = ((f (2 + m) - 97 : Nat) : Int) := by omega
      rw [VX11_parseImage_135]
      simp (disch := omega) only [e1, e2, eb, ef, iI_lit, lI_lit, iI_nI, iI_add, iI_sub, iI_mul, iI_neg, c_lt_t, c_lt_f, c_le_t, c_le_f, c_eq_t, c_eq_f, c_in_t, iI_clamp, Int.toNat_natCast, forall_eq, true_and, and_true, false_and, and_false, not_true_eq_false, not_false_eq_true, true_implies, false_implies, implies_true, forall_const, true_or, or_true, false_or, or_false, pk_us, vu_s, vL_s, vb_0, vb_1, if_true, if_false, ite_true, ite_false]
      refine ih (m + 1) _ _ (by omega) (congrArg iI (by omega)) (fun j hj => ?_) (fun j hj => ?_)
      · by_cases c : j = m
        · rw [c, pk_us]
        · rw [pk_un (by omega)]
          exact h1 j (by omega)
      · rw [pk_un (by omega)]
        exact h2 j (by omega)
  exact ⟨s + 1, key s 0 _ _ (by omega) rfl (fun j hj => absurd hj (Nat.not_lt_zero j)) (fun _ _ => rfl)⟩
theorem L_parseImage {N : Nat} (hN : 2 ≤ N ∧ N ≤ 4) {iL : Nat → Nat → Int32} {iS images sizes : Nat → Int32} (hI : EI N iL iS images sizes) {bytes input : Nat → Int32} {size fed : Int32} (hR : RIn bytes size input fed) (at0 : Int32)
    {P : Int32 → Int32 → (Nat → Nat → Int32) → (Nat → Int32) → Int32 → (Nat → Int32) → (Nat → Int32) → Int32 → Int32 → Prop} (hP : ∀ r iL' iS' im' is' at', EI N iL' iS' im' is' → P r (iI 0) iL' iS' r im' is' (iI 0) at') :
    VX10_parseImage (fun r s iL' iS' => VX11_parseImage (fun r2 im2 is2 fd2 at2 => P r s iL' iS' r2 im2 is2 fd2 at2) (iI N) input images sizes fed at0) bytes (iI N) size iL iS := by
  obtain ⟨n, f, hn, hf, rfl, rfl, hbb⟩ := hR
  have hb : ∀ j, j < n → bytes j = iI (f j) := fun j hj => (hbb j hj).1
  have hb2 : ∀ j, j < n → input j = iI (f j) := fun j hj => (hbb j hj).2
  have h0 := hI
  obtain ⟨il, im, hIm⟩ := hI
  have l0 := bt_le hf 0
  have l1 := bt_le hf 1
  have z0 : ((0 : Nat) : Int) = 0 := rfl
  have z1 : ((1 : Nat) : Int) = 1 := rfl
  have z2 : ((2 : Nat) : Int) = 2 := rfl
  unfold VX10_parseImage VX1_imageFault
  rw [show (0 : Int32) = iI ((0 : Nat) : Int) from rfl]
  refine s1_letterAt hN.2 hn (by omega) hb hf (fun c0 => ?_) (fun c0 => ?_)
  · simp (disch := omega) only [iI_lit, lI_lit, iI_nI, iI_add, iI_sub, iI_mul, iI_neg, c_lt_t, c_lt_f, c_le_t, c_le_f, c_eq_t, c_eq_f, c_in_t, iI_clamp, Int.toNat_natCast, forall_eq, true_and, and_true, false_and, and_false, not_true_eq_false, not_false_eq_true, true_implies, false_implies, implies_true, forall_const, true_or, or_true, false_or, or_false, pk_us, vu_s, vL_s, vb_0, vb_1, if_true, if_false, ite_true, ite_false]
    rw [show iI 1 = iI ((1 : Nat) : Int) from rfl]
    refine s1_byteAt (f := f) hn (by omega) hb ?_
    by_cases c1 : bt f n 1 = 58
    · rw [c1]
      simp (disch := omega) only [iI_lit, lI_lit, iI_nI, iI_add, iI_sub, iI_mul, iI_neg, c_lt_t, c_lt_f, c_le_t, c_le_f, c_eq_t, c_eq_f, c_in_t, iI_clamp, Int.toNat_natCast, forall_eq, true_and, and_true, false_and, and_false, not_true_eq_false, not_false_eq_true, true_implies, false_implies, implies_true, forall_const, true_or, or_true, false_or, or_false, pk_us, vu_s, vL_s, vb_0, vb_1, if_true, if_false, ite_true, ite_false]
      refine s1_imgloop hN.2 hn hb hf (fun s hs => ?_)
      have hs4 := hs.1
      have href : ∀ post : Int32 → (Nat → Int32) → (Nat → Int32) → Int32 → Int32 → Prop, (s = 0 → ∀ a, post (iI (-102)) images sizes (iI 0) a) → (s ≠ 0 → VX11_parseImage_109 post (iI N) input images sizes (iI 0) (iI ((2 + s : Nat) : Int)) (iI n) (iI ((bt f n 0 - 97 : Nat) : Int)) (iI s)) → VX11_parseImage post (iI N) input images sizes (iI n) at0 := by
        intro post g1 g2
        unfold VX11_parseImage
        rw [show (0 : Int32) = iI ((0 : Nat) : Int) from rfl]
        refine s11_letterAt hN hn (by omega) hb2 hf (fun _ => ?_) (fun c => absurd c0 c)
        simp (disch := omega) only [iI_lit, lI_lit, iI_nI, iI_add, iI_sub, iI_mul, iI_neg, c_lt_t, c_lt_f, c_le_t, c_le_f, c_eq_t, c_eq_f, c_in_t, iI_clamp, Int.toNat_natCast, forall_eq, true_and, and_true, false_and, and_false, not_true_eq_false, not_false_eq_true, true_implies, false_implies, implies_true, forall_const, true_or, or_true, false_or, or_false, pk_us, vu_s, vL_s, vb_0, vb_1, if_true, if_false, ite_true, ite_false]
        rw [show iI (((0 : Nat) : Int) + 1) = iI ((1 : Nat) : Int) from rfl]
        refine s11_sign (f := f) hn (by omega) hb2 ?_
        rw [c1]
        simp (disch := omega) only [iI_lit, lI_lit, iI_nI, iI_add, iI_sub, iI_mul, iI_neg, c_lt_t, c_lt_f, c_le_t, c_le_f, c_eq_t, c_eq_f, c_in_t, iI_clamp, Int.toNat_natCast, forall_eq, true_and, and_true, false_and, and_false, not_true_eq_false, not_false_eq_true, true_implies, false_implies, implies_true, forall_const, true_or, or_true, false_or, or_false, pk_us, vu_s, vL_s, vb_0, vb_1, if_true, if_false, ite_true, ite_false]
        rw [show iI (((0 : Nat) : Int) + 1 + 1) = iI ((2 : Nat) : Int) from rfl]
        refine s11_letterAt hN hn (by omega) hb2 hf (fun c2 => ?_) (fun c2 => ?_)
        · have l2 := bt_le hf 2
          simp (disch := omega) only [iI_lit, lI_lit, iI_nI, iI_add, iI_sub, iI_mul, iI_neg, c_lt_t, c_lt_f, c_le_t, c_le_f, c_eq_t, c_eq_f, c_in_t, iI_clamp, Int.toNat_natCast, forall_eq, true_and, and_true, false_and, and_false, not_true_eq_false, not_false_eq_true, true_implies, false_implies, implies_true, forall_const, true_or, or_true, false_or, or_false, pk_us, vu_s, vL_s, vb_0, vb_1, if_true, if_false, ite_true, ite_false]
          refine s11_imgloop hN hn hb2 hf (fun s' hs' => ?_)
          have e := IL_u hs' hs
          subst e
          refine g2 (fun q => ?_)
          subst q
          exact hs.2.2 (by omega) c2
        · simp (disch := omega) only [iI_lit, lI_lit, iI_nI, iI_add, iI_sub, iI_mul, iI_neg, c_lt_t, c_lt_f, c_le_t, c_le_f, c_eq_t, c_eq_f, c_in_t, iI_clamp, Int.toNat_natCast, forall_eq, true_and, and_true, false_and, and_false, not_true_eq_false, not_false_eq_true, true_implies, false_implies, implies_true, forall_const, true_or, or_true, false_or, or_false, pk_us, vu_s, vL_s, vb_0, vb_1, if_true, if_false, ite_true, ite_false]
          refine g1 ?_ _
          by_cases d : s = 0
          · exact d
          · exact absurd (hs.2.1 0 (by omega)) c2
      by_cases cs : s = 0
      · subst cs
        simp (disch := omega) only [VX1_imageFault_48, iI_lit, lI_lit, iI_nI, iI_add, iI_sub, iI_mul, iI_neg, c_lt_t, c_lt_f, c_le_t, c_le_f, c_eq_t, c_eq_f, c_in_t, iI_clamp, Int.toNat_natCast, forall_eq, true_and, and_true, false_and, and_false, not_true_eq_false, not_false_eq_true, true_implies, false_implies, implies_true, forall_const, true_or, or_true, false_or, or_false, pk_us, vu_s, vL_s, vb_0, vb_1, if_true, if_false, ite_true, ite_false]
        refine s1_letterAt hN.2 hn (by omega) hb hf (fun _ => ?_) (fun c => absurd c0 c)
        simp (disch := omega) only [VX10_parseImage_63, iI_lit, lI_lit, iI_nI, iI_add, iI_sub, iI_mul, iI_neg, c_lt_t, c_lt_f, c_le_t, c_le_f, c_eq_t, c_eq_f, c_in_t, iI_clamp, Int.toNat_natCast, forall_eq, true_and, and_true, false_and, and_false, not_true_eq_false, not_false_eq_true, true_implies, false_implies, implies_true, forall_const, true_or, or_true, false_or, or_false, pk_us, vu_s, vL_s, vb_0, vb_1, if_true, if_false, ite_true, ite_false]
        exact href _ (fun _ a => hP _ _ _ _ _ _ h0) (fun q => absurd rfl q)
      · by_cases cn : 2 + s < n
        · simp (disch := omega) only [VX1_imageFault_48, iI_lit, lI_lit, iI_nI, iI_add, iI_sub, iI_mul, iI_neg, c_lt_t, c_lt_f, c_le_t, c_le_f, c_eq_t, c_eq_f, c_in_t, iI_clamp, Int.toNat_natCast, forall_eq, true_and, and_true, false_and, and_false, not_true_eq_false, not_false_eq_true, true_implies, false_implies, implies_true, forall_const, true_or, or_true, false_or, or_false, pk_us, vu_s, vL_s, vb_0, vb_1, if_true, if_false, ite_true, ite_false]
          refine s1_letterAt hN.2 hn (by omega) hb hf (fun _ => ?_) (fun c => absurd c0 c)
          simp (disch := omega) only [VX10_parseImage_63, iI_lit, lI_lit, iI_nI, iI_add, iI_sub, iI_mul, iI_neg, c_lt_t, c_lt_f, c_le_t, c_le_f, c_eq_t, c_eq_f, c_in_t, iI_clamp, Int.toNat_natCast, forall_eq, true_and, and_true, false_and, and_false, not_true_eq_false, not_false_eq_true, true_implies, false_implies, implies_true, forall_const, true_or, or_true, false_or, or_false, pk_us, vu_s, vL_s, vb_0, vb_1, if_true, if_false, ite_true, ite_false]
          refine href _ (fun q => absurd q cs) (fun _ => ?_)
          simp (disch := omega) only [VX11_parseImage_109, iI_lit, lI_lit, iI_nI, iI_add, iI_sub, iI_mul, iI_neg, c_lt_t, c_lt_f, c_le_t, c_le_f, c_eq_t, c_eq_f, c_in_t, iI_clamp, Int.toNat_natCast, forall_eq, true_and, and_true, false_and, and_false, not_true_eq_false, not_false_eq_true, true_implies, false_implies, implies_true, forall_const, true_or, or_true, false_or, or_false, pk_us, vu_s, vL_s, vb_0, vb_1, if_true, if_false, ite_true, ite_false]
          exact hP _ _ _ _ _ _ h0
        · have hlast := hs.2.1 (s - 1) (by omega)
          have hns : n = 2 + s := by
            unfold isL at hlast
            by_cases d : 2 + (s - 1) < n
            · omega
            · rw [bt, if_neg d] at hlast
              omega
          subst hns
          have hbf : ∀ j, j < s → bt f (2 + s) (2 + j) = f (2 + j) := fun j hj => by rw [bt, if_pos (by omega)]
          have hf97 : ∀ j, j < s → 97 ≤ f (2 + j) := fun j hj => by
            have := hs.2.1 j hj
            unfold isL at this
            rw [hbf j hj] at this
            exact this.1
          obtain ⟨x, ex⟩ : ∃ x, bt f (2 + s) 0 - 97 = x := ⟨_, rfl⟩
          have hx : x < N := by
            unfold isL at c0
            omega
          have hx4 : x < 4 := by omega
          have en : iI (2 + (s : Int)) = iI ((2 + s : Nat) : Int) := congrArg iI (by omega)
          simp (disch := omega) only [VX1_imageFault_48, iI_lit, lI_lit, iI_nI, iI_add, iI_sub, iI_mul, iI_neg, c_lt_t, c_lt_f, c_le_t, c_le_f, c_eq_t, c_eq_f, c_in_t, iI_clamp, Int.toNat_natCast, forall_eq, true_and, and_true, false_and, and_false, not_true_eq_false, not_false_eq_true, true_implies, false_implies, implies_true, forall_const, true_or, or_true, false_or, or_false, pk_us, vu_s, vL_s, vb_0, vb_1, if_true, if_false, ite_true, ite_false]
          refine s1_letterAt hN.2 hn (by omega) hb hf (fun _ => ?_) (fun c => absurd c0 c)
          rw [ex]
          simp (disch := omega) only [VX5_hasLetter, iI_lit, lI_lit, iI_nI, iI_add, iI_sub, iI_mul, iI_neg, c_lt_t, c_lt_f, c_le_t, c_le_f, c_eq_t, c_eq_f, c_in_t, iI_clamp, Int.toNat_natCast, forall_eq, true_and, and_true, false_and, and_false, not_true_eq_false, not_false_eq_true, true_implies, false_implies, implies_true, forall_const, true_or, or_true, false_or, or_false, pk_us, vu_s, vL_s, vb_0, vb_1, if_true, if_false, ite_true, ite_false]
          refine s1_copyImage hs4 hb hf97 (fun u hu => ?_)
          simp (disch := omega) only [VX10_parseImage_63, iI_lit, lI_lit, iI_nI, iI_add, iI_sub, iI_mul, iI_neg, c_lt_t, c_lt_f, c_le_t, c_le_f, c_eq_t, c_eq_f, c_in_t, iI_clamp, Int.toNat_natCast, forall_eq, true_and, and_true, false_and, and_false, not_true_eq_false, not_false_eq_true, true_implies, false_implies, implies_true, forall_const, true_or, or_true, false_or, or_false, pk_us, vu_s, vL_s, vb_0, vb_1, if_true, if_false, ite_true, ite_false]
          refine href _ (fun q => absurd q cs) (fun _ => ?_)
          rw [ex]
          simp (disch := omega) only [VX11_parseImage_109, iI_lit, lI_lit, iI_nI, iI_add, iI_sub, iI_mul, iI_neg, c_lt_t, c_lt_f, c_le_t, c_le_f, c_eq_t, c_eq_f, c_in_t, iI_clamp, Int.toNat_natCast, forall_eq, true_and, and_true, false_and, and_false, not_true_eq_false, not_false_eq_true, true_implies, false_implies, implies_true, forall_const, true_or, or_true, false_or, or_false, pk_us, vu_s, vL_s, vb_0, vb_1, if_true, if_false, ite_true, ite_false]
          refine s11_copyImage hs4 hx4 hb2 hf97 (fun w' w1 w2 => ?_)
          refine hP _ _ _ _ _ _ ⟨va_up il x s, va_up im x (fun j => f (2 + j) - 97), fun y hy => ?_⟩
          by_cases ey : y = x
          · subst ey
            simp only [vu_s, pk_us]
            refine ⟨hs4, trivial, trivial, fun j hj => ⟨?_, hu j hj, w1 j hj⟩⟩
            have := hs.2.1 j hj
            unfold isL at this
            rw [hbf j hj] at this
            omega
          · rw [vu_n ey, vu_n ey, vu_n ey, vu_n ey, pk_un ey]
            obtain ⟨a1, a2, a3, a4⟩ := hIm y hy
            refine ⟨a1, a2, a3, fun j hj => ?_⟩
            rw [w2 _ (by omega)]
            exact a4 j hj
    · simp (disch := omega) only [iI_lit, lI_lit, iI_nI, iI_add, iI_sub, iI_mul, iI_neg, c_lt_t, c_lt_f, c_le_t, c_le_f, c_eq_t, c_eq_f, c_in_t, iI_clamp, Int.toNat_natCast, forall_eq, true_and, and_true, false_and, and_false, not_true_eq_false, not_false_eq_true, true_implies, false_implies, implies_true, forall_const, true_or, or_true, false_or, or_false, pk_us, vu_s, vL_s, vb_0, vb_1, if_true, if_false, ite_true, ite_false]
      refine s1_letterAt hN.2 hn (by omega) hb hf (fun _ => ?_) (fun c => absurd c0 c)
      simp (disch := omega) only [VX10_parseImage_63, iI_lit, lI_lit, iI_nI, iI_add, iI_sub, iI_mul, iI_neg, c_lt_t, c_lt_f, c_le_t, c_le_f, c_eq_t, c_eq_f, c_in_t, iI_clamp, Int.toNat_natCast, forall_eq, true_and, and_true, false_and, and_false, not_true_eq_false, not_false_eq_true, true_implies, false_implies, implies_true, forall_const, true_or, or_true, false_or, or_false, pk_us, vu_s, vL_s, vb_0, vb_1, if_true, if_false, ite_true, ite_false]
      unfold VX11_parseImage
      rw [show (0 : Int32) = iI ((0 : Nat) : Int) from rfl]
      refine s11_letterAt hN hn (by omega) hb2 hf (fun _ => ?_) (fun c => absurd c0 c)
      simp (disch := omega) only [iI_lit, lI_lit, iI_nI, iI_add, iI_sub, iI_mul, iI_neg, c_lt_t, c_lt_f, c_le_t, c_le_f, c_eq_t, c_eq_f, c_in_t, iI_clamp, Int.toNat_natCast, forall_eq, true_and, and_true, false_and, and_false, not_true_eq_false, not_false_eq_true, true_implies, false_implies, implies_true, forall_const, true_or, or_true, false_or, or_false, pk_us, vu_s, vL_s, vb_0, vb_1, if_true, if_false, ite_true, ite_false]
      rw [show iI (((0 : Nat) : Int) + 1) = iI ((1 : Nat) : Int) from rfl]
      refine s11_sign (f := f) hn (by omega) hb2 ?_
      simp (disch := omega) only [iI_lit, lI_lit, iI_nI, iI_add, iI_sub, iI_mul, iI_neg, c_lt_t, c_lt_f, c_le_t, c_le_f, c_eq_t, c_eq_f, c_in_t, iI_clamp, Int.toNat_natCast, forall_eq, true_and, and_true, false_and, and_false, not_true_eq_false, not_false_eq_true, true_implies, false_implies, implies_true, forall_const, true_or, or_true, false_or, or_false, pk_us, vu_s, vL_s, vb_0, vb_1, if_true, if_false, ite_true, ite_false]
      exact hP _ _ _ _ _ _ h0
  · simp (disch := omega) only [iI_lit, lI_lit, iI_nI, iI_add, iI_sub, iI_mul, iI_neg, c_lt_t, c_lt_f, c_le_t, c_le_f, c_eq_t, c_eq_f, c_in_t, iI_clamp, Int.toNat_natCast, forall_eq, true_and, and_true, false_and, and_false, not_true_eq_false, not_false_eq_true, true_implies, false_implies, implies_true, forall_const, true_or, or_true, false_or, or_false, pk_us, vu_s, vL_s, vb_0, vb_1, if_true, if_false, ite_true, ite_false]
    refine s1_letterAt hN.2 hn (by omega) hb hf (fun c => absurd c c0) (fun _ => ?_)
    simp (disch := omega) only [VX10_parseImage_63, iI_lit, lI_lit, iI_nI, iI_add, iI_sub, iI_mul, iI_neg, c_lt_t, c_lt_f, c_le_t, c_le_f, c_eq_t, c_eq_f, c_in_t, iI_clamp, Int.toNat_natCast, forall_eq, true_and, and_true, false_and, and_false, not_true_eq_false, not_false_eq_true, true_implies, false_implies, implies_true, forall_const, true_or, or_true, false_or, or_false, pk_us, vu_s, vL_s, vb_0, vb_1, if_true, if_false, ite_true, ite_false]
    unfold VX11_parseImage
    rw [show (0 : Int32) = iI ((0 : Nat) : Int) from rfl]
    refine s11_letterAt hN hn (by omega) hb2 hf (fun c => absurd c c0) (fun _ => ?_)
    simp (disch := omega) only [iI_lit, lI_lit, iI_nI, iI_add, iI_sub, iI_mul, iI_neg, c_lt_t, c_lt_f, c_le_t, c_le_f, c_eq_t, c_eq_f, c_in_t, iI_clamp, Int.toNat_natCast, forall_eq, true_and, and_true, false_and, and_false, not_true_eq_false, not_false_eq_true, true_implies, false_implies, implies_true, forall_const, true_or, or_true, false_or, or_false, pk_us, vu_s, vL_s, vb_0, vb_1, if_true, if_false, ite_true, ite_false]
    exact hP _ _ _ _ _ _ h0
