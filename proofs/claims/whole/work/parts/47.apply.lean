/-! THE MORPHISM APPLIED: offsets of the images -/
def ofs (il f : Nat → Nat) : Nat → Nat
  | 0 => 0
  | n + 1 => ofs il f n + il (f n)
theorem ofs_mono {il f : Nat → Nat} : ∀ {m n : Nat}, m ≤ n → ofs il f m ≤ ofs il f n := by
  intro m n h
  induction n with
  | zero =>
    have : m = 0 := by omega
    subst this
    exact Nat.le_refl _
  | succ n ih =>
    by_cases e : m = n + 1
    · subst e
      exact Nat.le_refl _
    · have := ih (by omega)
      simp only [ofs]
      omega
theorem ofs_le {il f : Nat → Nat} {c : Nat} : ∀ n : Nat, (∀ k, k < n → il (f k) ≤ c) → ofs il f n ≤ c * n
  | 0, _ => Nat.zero_le _
  | n + 1, h => by
    have h1 := ofs_le n (fun k hk => h k (by omega))
    have h2 := h n (by omega)
    simp only [ofs, Nat.mul_add]
    omega
theorem ofs_dec {il f : Nat → Nat} : ∀ (n p : Nat), p < ofs il f n → ∃ k j, k < n ∧ j < il (f k) ∧ p = ofs il f k + j
  | 0, p, h => absurd h (Nat.not_lt_zero p)
  | n + 1, p, h => by
    by_cases c : p < ofs il f n
    · obtain ⟨k, j, h1, h2, h3⟩ := ofs_dec n p c
      exact ⟨k, j, by omega, h2, h3⟩
    · simp only [ofs] at h
      exact ⟨n, p - ofs il f n, by omega, by omega, by omega⟩
theorem s10_apply {post : Int32 → (Nat → Nat → Int32) → (Nat → Int32) → (Nat → Int32) → Int32 → Prop} {iL wL : Nat → Nat → Int32} {iS wS sL : Nat → Int32} {sS : Int32} {il f : Nat → Nat} {im : Nat → Nat → Nat} {i n : Nat} (hi : i < 3) (hn : n ≤ 40) (hwS : wS i = iI n) (hwL : ∀ j, j < n → wL i j = iI (f j) ∧ f j < 4)
    (hI : ∀ x, x < 4 → il x ≤ 4 ∧ iS x = iI (il x) ∧ ∀ j, j < il x → iL x j = iI (im x j))
    (hmiss : (∃ k, k < n ∧ il (f k) = 0) → post (iI (-6)) wL wS sL sS) (hfull : (∀ k, k < n → il (f k) ≠ 0) → 40 < ofs il f n → post (iI (-3)) wL wS sL sS)
    (hok : (∀ k, k < n → il (f k) ≠ 0) → ofs il f n ≤ 40 → ∀ l a b, (∀ k j, k < n → j < il (f k) → l (ofs il f k + j) = iI (im (f k) j)) → post (iI (ofs il f n)) (va_up wL i l) (va_up wS i (iI (ofs il f n))) a b) :
    VX10_apply post iL iS (iI i) wL wS sL sS := by
  have hlt : ∀ k, k < n → il (f k) ≤ 4 := fun k hk => (hI _ (hwL k hk).2).1
  have key2 : (∀ k, k < n → il (f k) ≠ 0) → ofs il f n ≤ 40 → ∀ (q m : Nat) (l : Nat → Int32) (sz x : Int32), m + q = n → x = iI m → sz = iI (ofs il f m) → (∀ k j, k < m → j < il (f k) → l (ofs il f k + j) = iI (im (f k) j)) → VX10_apply_92 post iL iS (iI i) (q + 1) wL wS l sz x := by
    intro hne hle q
    induction q with
    | zero =>
      intro m l sz x hm ex es h1
      have : m = n := by omega
      subst this
      subst ex es
      rw [VX10_apply_92]
      simp (disch := omega) only [hwS, iI_lit, lI_lit, iI_nI, iI_add, iI_sub, iI_mul, iI_neg, c_lt_t, c_lt_f, c_le_t, c_le_f, c_eq_t, c_eq_f, c_in_t, iI_clamp, Int.toNat_natCast, forall_eq, true_and, and_true, false_and, and_false, not_true_eq_false, not_false_eq_true, true_implies, false_implies, implies_true, forall_const, true_or, or_true, false_or, or_false, pk_us, vu_s, vL_s, vb_0, vb_1, if_true, if_false, ite_true, ite_false]
      unfold VX10_apply_129
      refine s9_copyFrom (by omega) (by omega) (by omega) (by omega) (fun u hu => ?_)
      simp (disch := omega) only [iI_lit, lI_lit, iI_nI, iI_add, iI_sub, iI_mul, iI_neg, c_lt_t, c_lt_f, c_le_t, c_le_f, c_eq_t, c_eq_f, c_in_t, iI_clamp, Int.toNat_natCast, forall_eq, true_and, and_true, false_and, and_false, not_true_eq_false, not_false_eq_true, true_implies, false_implies, implies_true, forall_const, true_or, or_true, false_or, or_false, pk_us, vu_s, vL_s, vb_0, vb_1, if_true, if_false, ite_true, ite_false]
      refine hok hne hle u _ _ (fun k j hk hj => ?_)
      have h2 : ofs il f k + il (f k) ≤ ofs il f m := ofs_mono (m := k + 1) (by omega)
      rw [hu _ (by omega)]
      exact h1 k j hk hj
    | succ q ih =>
      intro m l sz x hm ex es h1
      subst ex es
      obtain ⟨a1, a2⟩ := hwL m (by omega)
      obtain ⟨b1, b2, b3⟩ := hI _ a2
      have h2 : ofs il f m + il (f m) ≤ ofs il f n := ofs_mono (m := m + 1) (by omega)
      rw [VX10_apply_92]
      simp (disch := omega) only [hwS, a1, b2, iI_lit, lI_lit, iI_nI, iI_add, iI_sub, iI_mul, iI_neg, c_lt_t, c_lt_f, c_le_t, c_le_f, c_eq_t, c_eq_f, c_in_t, iI_clamp, Int.toNat_natCast, forall_eq, true_and, and_true, false_and, and_false, not_true_eq_false, not_false_eq_true, true_implies, false_implies, implies_true, forall_const, true_or, or_true, false_or, or_false, pk_us, vu_s, vL_s, vb_0, vb_1, if_true, if_false, ite_true, ite_false]
      refine s9_putAll (by omega) (by omega) (by omega) (by omega) (fun u g1 g2 => ?_)
      refine ih (m + 1) _ _ _ (by omega) (congrArg iI (by omega)) (congrArg iI (by simp only [ofs]; omega)) (fun k j hk hj => ?_)
      by_cases e : k = m
      · subst e
        rw [g2 j hj (by omega)]
        exact b3 j hj
      · have h3 : ofs il f k + il (f k) ≤ ofs il f m := ofs_mono (m := k + 1) (by omega)
        rw [g1 _ (by omega)]
        exact h1 k j (by omega) hj
  have key1 : ∀ (q m : Nat) (x3 x4 : Int32), m + q = n → x3 = iI (ofs il f m) → x4 = iI m → (∀ k, k < m → il (f k) ≠ 0) → VX10_apply_24 post iL iS (iI i) (q + 1) wL wS sL sS x3 x4 := by
    intro q
    induction q with
    | zero =>
      intro m x3 x4 hm e3 e4 h1
      have : m = n := by omega
      subst this
      subst e3 e4
      have hb := ofs_le (il := il) (f := f) m hlt
      rw [VX10_apply_24]
      simp (disch := omega) only [hwS, iI_lit, lI_lit, iI_nI, iI_add, iI_sub, iI_mul, iI_neg, c_lt_t, c_lt_f, c_le_t, c_le_f, c_eq_t, c_eq_f, c_in_t, iI_clamp, Int.toNat_natCast, forall_eq, true_and, and_true, false_and, and_false, not_true_eq_false, not_false_eq_true, true_implies, false_implies, implies_true, forall_const, true_or, or_true, false_or, or_false, pk_us, vu_s, vL_s, vb_0, vb_1, if_true, if_false, ite_true, ite_false]
      unfold VX10_apply_72
      by_cases c : ofs il f m ≤ 40
      · simp (disch := omega) only [iI_lit, lI_lit, iI_nI, iI_add, iI_sub, iI_mul, iI_neg, c_lt_t, c_lt_f, c_le_t, c_le_f, c_eq_t, c_eq_f, c_in_t, iI_clamp, Int.toNat_natCast, forall_eq, true_and, and_true, false_and, and_false, not_true_eq_false, not_false_eq_true, true_implies, false_implies, implies_true, forall_const, true_or, or_true, false_or, or_false, pk_us, vu_s, vL_s, vb_0, vb_1, if_true, if_false, ite_true, ite_false]
        exact ⟨m + 1, key2 h1 c m 0 sL _ _ (by omega) rfl rfl (fun k j hk => absurd hk (Nat.not_lt_zero k))⟩
      · simp (disch := omega) only [iI_lit, lI_lit, iI_nI, iI_add, iI_sub, iI_mul, iI_neg, c_lt_t, c_lt_f, c_le_t, c_le_f, c_eq_t, c_eq_f, c_in_t, iI_clamp, Int.toNat_natCast, forall_eq, true_and, and_true, false_and, and_false, not_true_eq_false, not_false_eq_true, true_implies, false_implies, implies_true, forall_const, true_or, or_true, false_or, or_false, pk_us, vu_s, vL_s, vb_0, vb_1, if_true, if_false, ite_true, ite_false]
        exact hfull h1 (by omega)
    | succ q ih =>
      intro m x3 x4 hm e3 e4 h1
      subst e3 e4
      obtain ⟨a1, a2⟩ := hwL m (by omega)
      obtain ⟨b1, b2, b3⟩ := hI _ a2
      have hb := ofs_le (il := il) (f := f) m (fun k hk => hlt k (by omega))
      rw [VX10_apply_24]
      by_cases c : il (f m) = 0
      · simp (disch := omega) only [hwS, a1, b2, iI_lit, lI_lit, iI_nI, iI_add, iI_sub, iI_mul, iI_neg, c_lt_t, c_lt_f, c_le_t, c_le_f, c_eq_t, c_eq_f, c_in_t, iI_clamp, Int.toNat_natCast, forall_eq, true_and, and_true, false_and, and_false, not_true_eq_false, not_false_eq_true, true_implies, false_implies, implies_true, forall_const, true_or, or_true, false_or, or_false, pk_us, vu_s, vL_s, vb_0, vb_1, if_true, if_false, ite_true, ite_false]
        exact hmiss ⟨m, by omega, c⟩
      · simp (disch := omega) only [hwS, a1, b2, iI_lit, lI_lit, iI_nI, iI_add, iI_sub, iI_mul, iI_neg, c_lt_t, c_lt_f, c_le_t, c_le_f, c_eq_t, c_eq_f, c_in_t, iI_clamp, Int.toNat_natCast, forall_eq, true_and, and_true, false_and, and_false, not_true_eq_false, not_false_eq_true, true_implies, false_implies, implies_true, forall_const, true_or, or_true, false_or, or_false, pk_us, vu_s, vL_s, vb_0, vb_1, if_true, if_false, ite_true, ite_false]
        refine ih (m + 1) _ _ (by omega) (congrArg iI (by simp only [ofs]; omega)) (congrArg iI (by omega)) (fun k hk => ?_)
        by_cases e : k = m
        · subst e
          exact c
        · exact h1 k (by omega)
  simp (disch := omega) only [VX10_apply, VX10_isWord, iI_lit, lI_lit, iI_nI, iI_add, iI_sub, iI_mul, iI_neg, c_lt_t, c_lt_f, c_le_t, c_le_f, c_eq_t, c_eq_f, c_in_t, iI_clamp, Int.toNat_natCast, forall_eq, true_and, and_true, false_and, and_false, not_true_eq_false, not_false_eq_true, true_implies, false_implies, implies_true, forall_const, true_or, or_true, false_or, or_false, pk_us, vu_s, vL_s, vb_0, vb_1, if_true, if_false, ite_true, ite_false]
  exact ⟨n + 1, key1 n 0 _ _ (by omega) rfl rfl (fun k hk => absurd hk (Nat.not_lt_zero k))⟩
