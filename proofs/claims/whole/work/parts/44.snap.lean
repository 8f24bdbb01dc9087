/-! COPIES AND SNAPSHOTS -/
theorem r_3 {m : Nat} (h : m < 2147483648) : iI (m : Int) - iI (m : Int) / iI 3 * iI 3 = iI ((m % 3 : Nat) : Int) := by
  have := pk_rem (a := m) (d := 3) (by omega) (by decide) (by decide)
  simp only [iI_nI] at this
  exact this
theorem r_4 {m : Nat} (h : m < 2147483648) : iI (m : Int) - iI (m : Int) / iI 4 * iI 4 = iI ((m % 4 : Nat) : Int) := by
  have := pk_rem (a := m) (d := 4) (by omega) (by decide) (by decide)
  simp only [iI_nI] at this
  exact this
theorem r_16 {m : Nat} (h : m < 2147483648) : iI (m : Int) - iI (m : Int) / iI 16 * iI 16 = iI ((m % 16 : Nat) : Int) := by
  have := pk_rem (a := m) (d := 16) (by omega) (by decide) (by decide)
  simp only [iI_nI] at this
  exact this
theorem s9_putAll {post : (Nat → Int32) → Int32 → Prop} {tn an s k : Nat} {src lt : Nat → Int32} (hs : s ≤ an) (han : an < 1000) (htn : tn < 1000) (hk : k ≤ tn)
    (h : ∀ l, (∀ j, j < k → l j = lt j) → (∀ j, j < s → k + j < tn → l (k + j) = src j) → post l (iI ((min (k + s) tn : Nat) : Int))) : VX9_putAll post tn an src (iI s) lt (iI k) := by
  have key : ∀ (q m : Nat) (l : Nat → Int32) (sz x : Int32), m + q = s → x = iI m → sz = iI ((min (k + m) tn : Nat) : Int) → (∀ j, j < k → l j = lt j) → (∀ j, j < m → k + j < tn → l (k + j) = src j) → VX9_putAll_2 post tn an src (iI s) (q + 1) l sz x := by
    intro q
    induction q with
    | zero =>
      intro m l sz x hm ex es h1 h2
      have : m = s := by omega
      subst this
      subst ex es
      simp (disch := omega) only [VX9_putAll_2, iI_lit, lI_lit, iI_nI, iI_add, iI_sub, iI_mul, iI_neg, c_lt_t, c_lt_f, c_le_t, c_le_f, c_eq_t, c_eq_f, c_in_t, iI_clamp, Int.toNat_natCast, forall_eq, true_and, and_true, false_and, and_false, not_true_eq_false, not_false_eq_true, true_implies, false_implies, implies_true, forall_const, true_or, or_true, false_or, or_false, pk_us, vu_s, vL_s, vb_0, vb_1, if_true, if_false, ite_true, ite_false]
      exact h l h1 h2
    | succ q ih =>
      intro m l sz x hm ex es h1 h2
      subst ex es
      rw [VX9_putAll_2]
      by_cases c : tn ≤ k + m
      · simp (disch := omega) only [VX9_put, iI_lit, lI_lit, iI_nI, iI_add, iI_sub, iI_mul, iI_neg, c_lt_t, c_lt_f, c_le_t, c_le_f, c_eq_t, c_eq_f, c_in_t, iI_clamp, Int.toNat_natCast, forall_eq, true_and, and_true, false_and, and_false, not_true_eq_false, not_false_eq_true, true_implies, false_implies, implies_true, forall_const, true_or, or_true, false_or, or_false, pk_us, vu_s, vL_s, vb_0, vb_1, if_true, if_false, ite_true, ite_false]
        exact ih (m + 1) _ _ _ (by omega) (congrArg iI (by omega)) (congrArg iI (by omega)) h1 (fun j hj hj2 => h2 j (by omega) hj2)
      · have e : (min (k + m) tn : Nat) = k + m := by omega
        simp (disch := omega) only [VX9_put, e, iI_lit, lI_lit, iI_nI, iI_add, iI_sub, iI_mul, iI_neg, c_lt_t, c_lt_f, c_le_t, c_le_f, c_eq_t, c_eq_f, c_in_t, iI_clamp, Int.toNat_natCast, forall_eq, true_and, and_true, false_and, and_false, not_true_eq_false, not_false_eq_true, true_implies, false_implies, implies_true, forall_const, true_or, or_true, false_or, or_false, pk_us, vu_s, vL_s, vb_0, vb_1, if_true, if_false, ite_true, ite_false]
        refine ih (m + 1) _ _ _ (by omega) (congrArg iI (by omega)) (congrArg iI (by omega)) (fun j hj => ?_) (fun j hj hj2 => ?_)
        · rw [pk_un (by omega)]
          exact h1 j hj
        · by_cases f : j = m
          · subst f
            rw [pk_us]
          · rw [pk_un (by omega)]
            exact h2 j (by omega) hj2
  exact ⟨s + 1, key s 0 lt _ _ (by omega) rfl (congrArg iI (by omega)) (fun _ _ => rfl) (fun j hj => absurd hj (Nat.not_lt_zero j))⟩
theorem s9_copyFrom {post : (Nat → Int32) → Int32 → Prop} {tn an s : Nat} {src lt : Nat → Int32} {sz : Int32} (hs : s ≤ an) (han : an < 1000) (htn : tn < 1000) (hst : s ≤ tn) (h : ∀ l, (∀ j, j < s → l j = src j) → post l (iI s)) : VX9_copyFrom post tn an src (iI s) lt sz := by
  unfold VX9_copyFrom
  rw [show (0 : Int32) = iI ((0 : Nat) : Int) from rfl]
  refine s9_putAll hs han htn (by omega) (fun l h1 h2 => ?_)
  rw [show (min (0 + s) tn : Nat) = s by omega]
  exact h l (fun j hj => by have := h2 j hj (by omega); rwa [Nat.zero_add] at this)
theorem s5_letters {post : Int32 → Prop} {wS : Nat → Int32} {wl : Nat → Nat} (hw : ∀ i, i < 3 → wl i ≤ 40 ∧ wS i = iI (wl i)) (h : post (iI ((wl 0 + wl 1 + wl 2 : Nat) : Int))) : VX5_lettersOfWords post wS := by
  obtain ⟨a0, e0⟩ := hw 0 (by omega)
  obtain ⟨a1, e1⟩ := hw 1 (by omega)
  obtain ⟨a2, e2⟩ := hw 2 (by omega)
  refine ⟨4, ?_⟩
  simp (disch := omega) only [VX5_lettersOfWords_4, iI_lit, lI_lit, iI_nI, iI_add, iI_sub, iI_mul, iI_neg, c_lt_t, c_lt_f, c_le_t, c_le_f, c_eq_t, c_eq_f, c_in_t, iI_clamp, Int.toNat_natCast, forall_eq, true_and, and_true, false_and, and_false, not_true_eq_false, not_false_eq_true, true_implies, false_implies, implies_true, forall_const, true_or, or_true, false_or, or_false, pk_us, vu_s, vL_s, vb_0, vb_1, if_true, if_false, ite_true, ite_false]
  simp (disch := omega) only [show ((0 : Int)).toNat = 0 from rfl, show ((0 : Int) + 1).toNat = 1 from rfl, show ((0 : Int) + 1 + 1).toNat = 2 from rfl, e0, e1, e2, iI_lit, lI_lit, iI_nI, iI_add, iI_sub, iI_mul, iI_neg, c_lt_t, c_lt_f, c_le_t, c_le_f, c_eq_t, c_eq_f, c_in_t, iI_clamp, Int.toNat_natCast, forall_eq, true_and, and_true, false_and, and_false, not_true_eq_false, not_false_eq_true, true_implies, false_implies, implies_true, forall_const, true_or, or_true, false_or, or_false, pk_us, vu_s, vL_s, vb_0, vb_1, if_true, if_false, ite_true, ite_false]
  have e : (0 : Int) + (wl 0 : Int) + (wl 1 : Int) + (wl 2 : Int) = ((wl 0 + wl 1 + wl 2 : Nat) : Int) := by omega
  rw [e]
  exact h
theorem s11_letters {post : Int32 → Prop} {lengths : Nat → Int32} {wl : Nat → Nat} (hw : ∀ i, i < 3 → wl i ≤ 40 ∧ lengths i = iI (wl i)) (h : post (iI ((wl 0 + wl 1 + wl 2 : Nat) : Int))) : VX11_allLetters post lengths := by
  obtain ⟨a0, e0⟩ := hw 0 (by omega)
  obtain ⟨a1, e1⟩ := hw 1 (by omega)
  obtain ⟨a2, e2⟩ := hw 2 (by omega)
  simp (disch := omega) only [VX11_allLetters, iI_lit, lI_lit, iI_nI, iI_add, iI_sub, iI_mul, iI_neg, c_lt_t, c_lt_f, c_le_t, c_le_f, c_eq_t, c_eq_f, c_in_t, iI_clamp, Int.toNat_natCast, forall_eq, true_and, and_true, false_and, and_false, not_true_eq_false, not_false_eq_true, true_implies, false_implies, implies_true, forall_const, true_or, or_true, false_or, or_false, pk_us, vu_s, vL_s, vb_0, vb_1, if_true, if_false, ite_true, ite_false]
  simp (disch := omega) only [show ((0 : Int)).toNat = 0 from rfl, show ((1 : Int)).toNat = 1 from rfl, show ((2 : Int)).toNat = 2 from rfl, e0, e1, e2, iI_lit, lI_lit, iI_nI, iI_add, iI_sub, iI_mul, iI_neg, c_lt_t, c_lt_f, c_le_t, c_le_f, c_eq_t, c_eq_f, c_in_t, iI_clamp, Int.toNat_natCast, forall_eq, true_and, and_true, false_and, and_false, not_true_eq_false, not_false_eq_true, true_implies, false_implies, implies_true, forall_const, true_or, or_true, false_or, or_false, pk_us, vu_s, vL_s, vb_0, vb_1, if_true, if_false, ite_true, ite_false]
  have e : (wl 0 : Int) + (wl 1 : Int) + (wl 2 : Int) = ((wl 0 + wl 1 + wl 2 : Nat) : Int) := by omega
  rw [e]
  exact h
