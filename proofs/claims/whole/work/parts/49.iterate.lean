/-! ITERATE -/
theorem s5_lacks {post : Int32 → Prop} {N : Nat} (hN : N ≤ 4) {iS : Nat → Int32} {il : Nat → Nat} (hI : ∀ x, x < 4 → il x ≤ 4 ∧ iS x = iI (il x))
    (h1 : (∃ x, x < N ∧ il x = 0) → post (iI 1)) (h0 : (∀ x, x < N → il x ≠ 0) → post (iI 0)) : VX5_lacksImage post (iI N) iS := by
  have key : ∀ (q m : Nat) (x : Int32), m + q = N → x = iI m → (∀ y, y < m → il y ≠ 0) → VX5_lacksImage_2 post (iI N) iS (q + 1) x := by
    intro q
    induction q with
    | zero =>
      intro m x hm ex hp
      have : m = N := by omega
      subst this ex
      rw [VX5_lacksImage_2]
      simp (disch := omega) only [iI_lit, lI_lit, iI_nI, iI_add, iI_sub, iI_mul, iI_neg, c_lt_t, c_lt_f, c_le_t, c_le_f, c_eq_t, c_eq_f, c_in_t, iI_clamp, Int.toNat_natCast, forall_eq, true_and, and_true, false_and, and_false, not_true_eq_false, not_false_eq_true, true_implies, false_implies, implies_true, forall_const, true_or, or_true, false_or, or_false, pk_us, vu_s, vL_s, vb_0, vb_1, if_true, if_false, ite_true, ite_false]
      exact h0 hp
    | succ q ih =>
      intro m x hm ex hp
      subst ex
      obtain ⟨a1, a2⟩ := hI m (by omega)
      rw [VX5_lacksImage_2]
      by_cases c : il m = 0
      · simp (disch := omega) only [a2, iI_lit, lI_lit, iI_nI, iI_add, iI_sub, iI_mul, iI_neg, c_lt_t, c_lt_f, c_le_t, c_le_f, c_eq_t, c_eq_f, c_in_t, iI_clamp, Int.toNat_natCast, forall_eq, true_and, and_true, false_and, and_false, not_true_eq_false, not_false_eq_true, true_implies, false_implies, implies_true, forall_const, true_or, or_true, false_or, or_false, pk_us, vu_s, vL_s, vb_0, vb_1, if_true, if_false, ite_true, ite_false]
        exact h1 ⟨m, by omega, c⟩
      · simp (disch := omega) only [a2, iI_lit, lI_lit, iI_nI, iI_add, iI_sub, iI_mul, iI_neg, c_lt_t, c_lt_f, c_le_t, c_le_f, c_eq_t, c_eq_f, c_in_t, iI_clamp, Int.toNat_natCast, forall_eq, true_and, and_true, false_and, and_false, not_true_eq_false, not_false_eq_true, true_implies, false_implies, implies_true, forall_const, true_or, or_true, false_or, or_false, pk_us, vu_s, vL_s, vb_0, vb_1, if_true, if_false, ite_true, ite_false]
        refine ih (m + 1) _ (by omega) (congrArg iI (by omega)) (fun y hy => ?_)
        by_cases e : y = m
        · subst e
          exact c
        · exact hp y (by omega)
  exact ⟨N + 1, key N 0 _ (by omega) rfl (fun y hy => absurd hy (Nat.not_lt_zero y))⟩
theorem s11_missing {post : Int32 → Prop} {N : Nat} (hN : N ≤ 4) {sizes : Nat → Int32} {il : Nat → Nat} (hI : ∀ x, x < 4 → il x ≤ 4 ∧ sizes x = iI (il x))
    (h1 : (∃ x, x < N ∧ il x = 0) → post (iI 1)) (h0 : (∀ x, x < N → il x ≠ 0) → post (iI 0)) : VX11_isMissing post (iI N) sizes := by
  have key : ∀ (q m : Nat) (x : Int32), m + q = N → x = iI m → (∀ y, y < m → il y ≠ 0) → VX11_isMissing_2 post (iI N) sizes (q + 1) x := by
    intro q
    induction q with
    | zero =>
      intro m x hm ex hp
      have : m = N := by omega
      subst this ex
      rw [VX11_isMissing_2]
      simp (disch := omega) only [iI_lit, lI_lit, iI_nI, iI_add, iI_sub, iI_mul, iI_neg, c_lt_t, c_lt_f, c_le_t, c_le_f, c_eq_t, c_eq_f, c_in_t, iI_clamp, Int.toNat_natCast, forall_eq, true_and, and_true, false_and, and_false, not_true_eq_false, not_false_eq_true, true_implies, false_implies, implies_true, forall_const, true_or, or_true, false_or, or_false, pk_us, vu_s, vL_s, vb_0, vb_1, if_true, if_false, ite_true, ite_false]
      exact h0 hp
    | succ q ih =>
      intro m x hm ex hp
      subst ex
      obtain ⟨a1, a2⟩ := hI m (by omega)
      rw [VX11_isMissing_2]
      by_cases c : il m = 0
      · simp (disch := omega) only [a2, iI_lit, lI_lit, iI_nI, iI_add, iI_sub, iI_mul, iI_neg, c_lt_t, c_lt_f, c_le_t, c_le_f, c_eq_t, c_eq_f, c_in_t, iI_clamp, Int.toNat_natCast, forall_eq, true_and, and_true, false_and, and_false, not_true_eq_false, not_false_eq_true, true_implies, false_implies, implies_true, forall_const, true_or, or_true, false_or, or_false, pk_us, vu_s, vL_s, vb_0, vb_1, if_true, if_false, ite_true, ite_false]
        exact h1 ⟨m, by omega, c⟩
      · simp (disch := omega) only [a2, iI_lit, lI_lit, iI_nI, iI_add, iI_sub, iI_mul, iI_neg, c_lt_t, c_lt_f, c_le_t, c_le_f, c_eq_t, c_eq_f, c_in_t, iI_clamp, Int.toNat_natCast, forall_eq, true_and, and_true, false_and, and_false, not_true_eq_false, not_false_eq_true, true_implies, false_implies, implies_true, forall_const, true_or, or_true, false_or, or_false, pk_us, vu_s, vL_s, vb_0, vb_1, if_true, if_false, ite_true, ite_false]
        refine ih (m + 1) _ (by omega) (congrArg iI (by omega)) (fun y hy => ?_)
        by_cases e : y = m
        · subst e
          exact c
        · exact hp y (by omega)
  exact ⟨N + 1, key N 0 _ (by omega) rfl (fun y hy => absurd hy (Nat.not_lt_zero y))⟩
def dec (l : Nat → Int32) (p : Nat) : Nat := (l p).toInt.toNat
theorem dec_eq {l : Nat → Int32} {p n : Nat} (h : l p = iI n) (hn : n < 2147483648) : dec l p = n := by
  unfold dec
  rw [h, iI_toInt (by omega) (by omega), Int.toNat_natCast]
theorem ofs_cg {il f g : Nat → Nat} : ∀ n : Nat, (∀ k, k < n → f k = g k) → ofs il f n = ofs il g n
  | 0, _ => rfl
  | n + 1, h => by
    simp only [ofs]
    rw [ofs_cg n (fun k hk => h k (by omega)), h n (by omega)]
theorem ofs_gt {il g : Nat → Nat} {N a s : Nat} (h1 : ∀ x, x < N → il x ≠ 0) (h2 : 2 ≤ il a) (h3 : g 0 = a) (h4 : ∀ p, p < s → g p < N) : ∀ k, 1 ≤ k → k ≤ s → k + 1 ≤ ofs il g k := by
  intro k hk hs
  induction k with
  | zero => omega
  | succ k ih =>
    simp only [ofs]
    by_cases c : k = 0
    · subst c
      rw [h3]
      simp only [ofs]
      omega
    · have := ih (by omega) (by omega)
      have := h1 _ (h4 k (by omega))
      omega
theorem ofs_one {il g : Nat → Nat} {a : Nat} (h : g 0 = a) : ofs il g 1 = il a := by
  simp only [ofs, h]
  omega
def ItF (N : Nat) (il : Nat → Nat) (im : Nat → Nat → Nat) (a : Nat) (g : Nat → Nat) : Prop := (∀ p, p < 40 → g p < N) ∧ g 0 = a ∧ ∀ p, 1 ≤ p → p < 40 → ∃ k j, k < p ∧ j < il (g k) ∧ p = ofs il g k + j ∧ g p = im (g k) j
def ItP (N : Nat) (il : Nat → Nat) (im : Nat → Nat → Nat) (a : Nat) (g : Nat → Nat) (m j s : Nat) : Prop := (∀ p, p < s → g p < N) ∧ g 0 = a ∧ ∀ k t, (k < m ∨ (k = m ∧ t < j)) → t < il (g k) → ofs il g k + t < s → g (ofs il g k + t) = im (g k) t
theorem ItP_fin {N : Nat} {il : Nat → Nat} {im : Nat → Nat → Nat} {a : Nat} {g : Nat → Nat} {m j : Nat} (h1 : ∀ x, x < N → il x ≠ 0) (h2 : 2 ≤ il a) (h : ItP N il im a g m j 40) (hj : j ≤ il (g m)) (hs : 40 ≤ ofs il g m + j) : ItF N il im a g := by
  obtain ⟨a1, a2, a3⟩ := h
  refine ⟨a1, a2, fun p p1 p2 => ?_⟩
  have hk : ∀ k t, p = ofs il g k + t → t < il (g k) → k < p := by
    intro k t e1 e2
    by_cases c : k = 0
    · omega
    · by_cases d : k ≤ 40
      · have := ofs_gt h1 h2 a2 a1 k (by omega) d
        omega
      · have := ofs_gt h1 h2 a2 a1 40 (by omega) (by omega)
        have : ofs il g 40 ≤ ofs il g k := ofs_mono (by omega)
        omega
  by_cases c : p < ofs il g m
  · obtain ⟨k, t, b1, b2, b3⟩ := ofs_dec _ _ c
    refine ⟨k, t, hk k t b3 b2, b2, b3, ?_⟩
    rw [b3]
    exact a3 k t (Or.inl b1) b2 (by omega)
  · have e : p = ofs il g m + (p - ofs il g m) := by omega
    refine ⟨m, p - ofs il g m, hk _ _ e (by omega), by omega, e, ?_⟩
    have := a3 m (p - ofs il g m) (Or.inr ⟨rfl, by omega⟩) (by omega) (by omega)
    rwa [← e] at this
theorem ofs_uq {il g : Nat → Nat} {k k' j j' : Nat} (h1 : j < il (g k)) (h2 : j' < il (g k')) (h : ofs il g k + j = ofs il g k' + j') : k = k' ∧ j = j' := by
  have h3 : k = k' := by
    rcases Nat.lt_trichotomy k k' with c | c | c
    · have : ofs il g (k + 1) ≤ ofs il g k' := ofs_mono (by omega)
      simp only [ofs] at this
      omega
    · exact c
    · have : ofs il g (k' + 1) ≤ ofs il g k := ofs_mono (by omega)
      simp only [ofs] at this
      omega
  subst h3
  exact ⟨rfl, by omega⟩
theorem ItF_uq {N : Nat} {il : Nat → Nat} {im : Nat → Nat → Nat} {a : Nat} {g g' : Nat → Nat} (h : ItF N il im a g) (h' : ItF N il im a g') : ∀ n p, p < n → p < 40 → g p = g' p := by
  intro n
  induction n with
  | zero => intro p hp; omega
  | succ n ih =>
    intro p hp h40
    by_cases c : p = 0
    · subst c
      rw [h.2.1, h'.2.1]
    · obtain ⟨k, j, b1, b2, b3, b4⟩ := h.2.2 p (by omega) h40
      obtain ⟨k', j', d1, d2, d3, d4⟩ := h'.2.2 p (by omega) h40
      have e1 : ofs il g' k' = ofs il g k' := ofs_cg _ (fun t ht => (ih t (by omega) (by omega)).symm)
      have e2 := ih k (by omega) (by omega)
      have e3 := ih k' (by omega) (by omega)
      rw [e1] at d3
      rw [← e3] at d2 d4
      obtain ⟨rfl, rfl⟩ := ofs_uq b2 d2 (by omega)
      rw [b4, d4]
theorem s10_iterate {post : Int32 → (Nat → Nat → Int32) → (Nat → Int32) → (Nat → Int32) → Int32 → Prop} {iL wL : Nat → Nat → Int32} {iS wS sL : Nat → Int32} {sS : Int32} {il : Nat → Nat} {im : Nat → Nat → Nat} {i N a : Nat} (hN : N ≤ 4) (ha : a < N) (hi : i < 3)
    (hI : ∀ x, x < 4 → il x ≤ 4 ∧ iS x = iI (il x) ∧ ∀ j, j < il x → im x j < N ∧ iL x j = iI (im x j))
    (hmiss : (∃ x, x < N ∧ il x = 0) → post (iI (-6)) wL wS sL sS) (hnot : (∀ x, x < N → il x ≠ 0) → (il a = 1 ∨ im a 0 ≠ a) → post (iI (-7)) wL wS sL sS)
    (hok : (∀ x, x < N → il x ≠ 0) → il a ≠ 1 → im a 0 = a → ∀ l g b c, ItF N il im a g → (∀ p, p < 40 → l p = iI (g p)) → post (iI 40) (va_up wL i l) (va_up wS i (iI 40)) b c) :
    VX10_iterate post (iI N) iL iS (iI i) (iI a) wL wS sL sS := by
  obtain ⟨u1, u2, u3⟩ := hI a (by omega)
  have key : (∀ x, x < N → il x ≠ 0) → 2 ≤ il a → im a 0 = a → ∀ (q m : Nat) (l g : Nat → Nat) (lt : Nat → Int32) (sz x : Int32), m + q = 40 → 1 ≤ m → x = iI m → sz = iI ((min (ofs il g m) 40 : Nat) : Int) → ItP N il im a g m 0 (min (ofs il g m) 40) → (∀ p, p < min (ofs il g m) 40 → lt p = iI (g p)) → VX10_iterate_75 post (iI N) iL iS (iI i) (iI a) (q + 1) wL wS lt sz x := by
    intro hne h2 h3 q
    induction q with
    | zero =>
      intro m l g lt sz x hm h1 ex es hp hl
      have : m = 40 := by omega
      subst this ex es
      have hgt : 40 < ofs il g 40 := by
        by_cases c : ofs il g 40 ≤ 40
        · have := ofs_gt (s := min (ofs il g 40) 40) hne h2 hp.2.1 hp.1 (min (ofs il g 40) 40) (by
            have : ofs il g 1 ≤ ofs il g 40 := ofs_mono (by omega)
            rw [ofs_one hp.2.1] at this
            omega) (by omega)
          have : ofs il g (min (ofs il g 40) 40) ≤ ofs il g 40 := ofs_mono (by omega)
          omega
        · omega
      have e : min (ofs il g 40) 40 = 40 := by omega
      rw [e] at hl hp ⊢
      rw [VX10_iterate_75]
      simp (disch := omega) only [iI_lit, lI_lit, iI_nI, iI_add, iI_sub, iI_mul, iI_neg, c_lt_t, c_lt_f, c_le_t, c_le_f, c_eq_t, c_eq_f, c_in_t, iI_clamp, Int.toNat_natCast, forall_eq, true_and, and_true, false_and, and_false, not_true_eq_false, not_false_eq_true, true_implies, false_implies, implies_true, forall_const, true_or, or_true, false_or, or_false, pk_us, vu_s, vL_s, vb_0, vb_1, if_true, if_false, ite_true, ite_false]
      unfold VX10_iterate_130
      simp (disch := omega) only [iI_lit, lI_lit, iI_nI, iI_add, iI_sub, iI_mul, iI_neg, c_lt_t, c_lt_f, c_le_t, c_le_f, c_eq_t, c_eq_f, c_in_t, iI_clamp, Int.toNat_natCast, forall_eq, true_and, and_true, false_and, and_false, not_true_eq_false, not_false_eq_true, true_implies, false_implies, implies_true, forall_const, true_or, or_true, false_or, or_false, pk_us, vu_s, vL_s, vb_0, vb_1, if_true, if_false, ite_true, ite_false]
      refine s9_copyFrom (s := 40) (by omega) (by omega) (by omega) (by omega) (fun u hu => ?_)
      exact hok hne (by omega) h3 u g _ _ (ItP_fin hne h2 hp (by omega) (by omega)) (fun p hp => by rw [hu p hp, hl p hp])
    | succ q ih =>
      intro m l g lt sz x hm h1 ex es hp hl
      subst ex es
      rw [VX10_iterate_75]
      by_cases c : 40 ≤ ofs il g m
      · have e : min (ofs il g m) 40 = 40 := by omega
        rw [e] at hl hp ⊢
        simp (disch := omega) only [iI_lit, lI_lit, iI_nI, iI_add, iI_sub, iI_mul, iI_neg, c_lt_t, c_lt_f, c_le_t, c_le_f, c_eq_t, c_eq_f, c_in_t, iI_clamp, Int.toNat_natCast, forall_eq, true_and, and_true, false_and, and_false, not_true_eq_false, not_false_eq_true, true_implies, false_implies, implies_true, forall_const, true_or, or_true, false_or, or_false, pk_us, vu_s, vL_s, vb_0, vb_1, if_true, if_false, ite_true, ite_false]
        unfold VX10_iterate_130
        simp (disch := omega) only [iI_lit, lI_lit, iI_nI, iI_add, iI_sub, iI_mul, iI_neg, c_lt_t, c_lt_f, c_le_t, c_le_f, c_eq_t, c_eq_f, c_in_t, iI_clamp, Int.toNat_natCast, forall_eq, true_and, and_true, false_and, and_false, not_true_eq_false, not_false_eq_true, true_implies, false_implies, implies_true, forall_const, true_or, or_true, false_or, or_false, pk_us, vu_s, vL_s, vb_0, vb_1, if_true, if_false, ite_true, ite_false]
        refine s9_copyFrom (s := 40) (by omega) (by omega) (by omega) (by omega) (fun u hu => ?_)
        exact hok hne (by omega) h3 u g _ _ (ItP_fin hne h2 hp (by omega) (by omega)) (fun p hp => by rw [hu p hp, hl p hp])
      · have e : min (ofs il g m) 40 = ofs il g m := by omega
        rw [e] at hl hp ⊢
        have hml : m < ofs il g m := by
          by_cases d : m ≤ ofs il g m
          · have := ofs_gt hne h2 hp.2.1 hp.1 m h1 d
            omega
          · have := ofs_gt hne h2 hp.2.1 hp.1 (ofs il g m) (by
              have : ofs il g 1 ≤ ofs il g m := ofs_mono (by omega)
              rw [ofs_one hp.2.1] at this
              omega) (by omega)
            have : ofs il g (ofs il g m) ≤ ofs il g m := ofs_mono (by omega)
            omega
        have b0 := hp.1 m hml
        obtain ⟨b1, b2, b3⟩ := hI (g m) (by omega)
        simp (disch := omega) only [hl m hml, b2, iI_lit, lI_lit, iI_nI, iI_add, iI_sub, iI_mul, iI_neg, c_lt_t, c_lt_f, c_le_t, c_le_f, c_eq_t, c_eq_f, c_in_t, iI_clamp, Int.toNat_natCast, forall_eq, true_and, and_true, false_and, and_false, not_true_eq_false, not_false_eq_true, true_implies, false_implies, implies_true, forall_const, true_or, or_true, false_or, or_false, pk_us, vu_s, vL_s, vb_0, vb_1, if_true, if_false, ite_true, ite_false]
        refine s9_putAll (by omega) (by omega) (by omega) (by omega) (fun u g1 g2 => ?_)
        have hg : ∀ p, p < ofs il g m → dec u p = g p := fun p hp2 => dec_eq (by rw [g1 p hp2, hl p hp2]) (by have := hp.1 p hp2; omega)
        have hg2 : ∀ t, t < il (g m) → ofs il g m + t < 40 → dec u (ofs il g m + t) = im (g m) t := fun t ht ht2 => dec_eq (by rw [g2 t ht ht2, (b3 t ht).2]) (by have := (b3 t ht).1; omega)
        have ho : ∀ k, k ≤ m + 1 → ofs il (dec u) k = ofs il g k := fun k hk => ofs_cg k (fun t ht => hg t (by omega))
        have hs : min (ofs il g m + il (g m)) 40 = min (ofs il (dec u) (m + 1)) 40 := by rw [ho _ (Nat.le_refl _)]; rfl
        rw [hs]
        have hlt : ∀ p, p < min (ofs il (dec u) (m + 1)) 40 → dec u p < N ∧ u p = iI (dec u p) := by
          intro p hp2
          by_cases d : p < ofs il g m
          · rw [hg p d, g1 p d]
            exact ⟨hp.1 p d, hl p d⟩
          · have e2 : p = ofs il g m + (p - ofs il g m) := by omega
            have := hg2 (p - ofs il g m) (by omega) (by omega)
            have e3 := g2 (p - ofs il g m) (by omega) (by omega)
            rw [← e2] at this e3
            rw [this, e3]
            exact b3 _ (by omega)
        refine ih (m + 1) l (dec u) u _ _ (by omega) (by omega) (congrArg iI (by omega)) rfl ⟨fun p hp2 => (hlt p hp2).1, by rw [hg 0 (by omega)]; exact hp.2.1, fun k t hk ht hs2 => ?_⟩ (fun p hp2 => (hlt p hp2).2)
        have hk2 : k ≤ m := by omega
        rw [hg k (by omega)] at ht ⊢
        rw [ho k (by omega)] at hs2 ⊢
        by_cases d : k = m
        · subst d
          exact hg2 t ht (by omega)
        · have : ofs il g (k + 1) ≤ ofs il g m := ofs_mono (by omega)
          simp only [ofs] at this
          rw [hg _ (by omega)]
          exact hp.2.2 k t (Or.inl (by omega)) ht (by omega)
  simp (disch := omega) only [VX10_iterate, VX10_isWord, VX5_hasLetter, iI_lit, lI_lit, iI_nI, iI_add, iI_sub, iI_mul, iI_neg, c_lt_t, c_lt_f, c_le_t, c_le_f, c_eq_t, c_eq_f, c_in_t, iI_clamp, Int.toNat_natCast, forall_eq, true_and, and_true, false_and, and_false, not_true_eq_false, not_false_eq_true, true_implies, false_implies, implies_true, forall_const, true_or, or_true, false_or, or_false, pk_us, vu_s, vL_s, vb_0, vb_1, if_true, if_false, ite_true, ite_false]
  refine s5_lacks hN (fun x hx => ⟨(hI x hx).1, (hI x hx).2.1⟩) (fun hm => ?_) (fun hne => ?_)
  · simp (disch := omega) only [iI_lit, lI_lit, iI_nI, iI_add, iI_sub, iI_mul, iI_neg, c_lt_t, c_lt_f, c_le_t, c_le_f, c_eq_t, c_eq_f, c_in_t, iI_clamp, Int.toNat_natCast, forall_eq, true_and, and_true, false_and, and_false, not_true_eq_false, not_false_eq_true, true_implies, false_implies, implies_true, forall_const, true_or, or_true, false_or, or_false, pk_us, vu_s, vL_s, vb_0, vb_1, if_true, if_false, ite_true, ite_false]
    exact hmiss hm
  · have hne0 := hne a ha
    by_cases c1 : il a = 1
    · simp (disch := omega) only [u2, iI_lit, lI_lit, iI_nI, iI_add, iI_sub, iI_mul, iI_neg, c_lt_t, c_lt_f, c_le_t, c_le_f, c_eq_t, c_eq_f, c_in_t, iI_clamp, Int.toNat_natCast, forall_eq, true_and, and_true, false_and, and_false, not_true_eq_false, not_false_eq_true, true_implies, false_implies, implies_true, forall_const, true_or, or_true, false_or, or_false, pk_us, vu_s, vL_s, vb_0, vb_1, if_true, if_false, ite_true, ite_false]
      exact hnot hne (Or.inl c1)
    · obtain ⟨v1, v2⟩ := u3 0 (by omega)
      have e0 : (0 : Int).toNat = 0 := rfl
      by_cases c2 : im a 0 = a
      · have c2' : ((im a 0 : Nat) : Int) = (a : Int) := by omega
        simp (disch := omega) only [u2, e0, v2, iI_lit, lI_lit, iI_nI, iI_add, iI_sub, iI_mul, iI_neg, c_lt_t, c_lt_f, c_le_t, c_le_f, c_eq_t, c_eq_f, c_in_t, iI_clamp, Int.toNat_natCast, forall_eq, true_and, and_true, false_and, and_false, not_true_eq_false, not_false_eq_true, true_implies, false_implies, implies_true, forall_const, true_or, or_true, false_or, or_false, pk_us, vu_s, vL_s, vb_0, vb_1, if_true, if_false, ite_true, ite_false]
        refine s9_copyFrom (by omega) (by omega) (by omega) (by omega) (fun u hu => ?_)
        have hd : ∀ p, p < il a → dec u p = im a p ∧ u p = iI (im a p) ∧ im a p < N := fun p hp => by
          obtain ⟨w1, w2⟩ := u3 p hp
          have := hu p hp
          rw [w2] at this
          exact ⟨dec_eq this (by omega), this, w1⟩
        have h0 : dec u 0 = a := by rw [(hd 0 (by omega)).1]; exact c2
        have ho : ofs il (dec u) 1 = il a := by simp only [ofs, h0]; omega
        have hs : min (ofs il (dec u) 1) 40 = il a := by omega
        refine ⟨40, key hne (by omega) c2 39 1 (fun _ => 0) (dec u) u _ _ (by omega) (by omega) rfl (by rw [hs]) ?_ (fun p hp => ?_)⟩
        · rw [hs]
          refine ⟨fun p hp => ?_, h0, fun k t hk ht hs => ?_⟩
          · rw [(hd p hp).1]
            exact (hd p hp).2.2
          · have : k = 0 := by omega
            subst this
            have e9 : ofs il (dec u) 0 + t = t := by simp only [ofs]; omega
            rw [e9] at hs ⊢
            rw [h0, (hd t hs).1]
        · rw [hs] at hp
          rw [(hd p hp).1]
          exact (hd p hp).2.1
      · simp (disch := omega) only [u2, e0, v2, iI_lit, lI_lit, iI_nI, iI_add, iI_sub, iI_mul, iI_neg, c_lt_t, c_lt_f, c_le_t, c_le_f, c_eq_t, c_eq_f, c_in_t, iI_clamp, Int.toNat_natCast, forall_eq, true_and, and_true, false_and, and_false, not_true_eq_false, not_false_eq_true, true_implies, false_implies, implies_true, forall_const, true_or, or_true, false_or, or_false, pk_us, vu_s, vL_s, vb_0, vb_1, if_true, if_false, ite_true, ite_false]
        exact hnot hne (Or.inr c2)
theorem s11_iterate {post : Int32 → (Nat → Int32) → (Nat → Int32) → Prop} {images sizes words lengths : Nat → Int32} {il : Nat → Nat} {im : Nat → Nat → Nat} {i N a : Nat} (hN : N ≤ 4) (ha : a < N) (hi : i < 3)
    (hI : ∀ x, x < 4 → il x ≤ 4 ∧ sizes x = iI (il x) ∧ ∀ j, j < il x → im x j < N ∧ images (4 * x + j) = iI (im x j))
    (hmiss : (∃ x, x < N ∧ il x = 0) → post (iI (-6)) words lengths) (hnot : (∀ x, x < N → il x ≠ 0) → (il a = 1 ∨ im a 0 ≠ a) → post (iI (-7)) words lengths)
    (hok : (∀ x, x < N → il x ≠ 0) → il a ≠ 1 → im a 0 = a → ∀ w' g, ItF N il im a g → (∀ p, p < 40 → w' (40 * i + p) = iI (g p)) → (∀ p, (p < 40 * i ∨ 40 * i + 40 ≤ p) → w' p = words p) → post (iI 40) w' (upd lengths i (iI 40))) :
    VX11_iterate post (iI N) images sizes (iI i) (iI a) words lengths := by
  obtain ⟨u1, u2, u3⟩ := hI a (by omega)
  have key2 : ∀ {K : (Nat → Int32) → (Nat → Int32) → Int32 → Int32 → Prop} {m : Nat}, m < 40 →
      (∀ (w' : Nat → Int32) (g : Nat → Nat) (s j : Nat), s = min (ofs il g m + j) 40 → j ≤ il (g m) → (s = 40 ∨ j = il (g m)) → ItP N il im a g m j s → (∀ p, p < s → w' (40 * i + p) = iI (g p)) → (∀ p, (p < 40 * i ∨ 40 * i + 40 ≤ p) → w' p = words p) → K w' lengths (iI s) (iI ((m : Int) + 1))) →
      ∀ (q j s : Nat) (g : Nat → Nat) (w' : Nat → Int32) (x3 x5 x6 : Int32), j + q = il (g m) → j ≤ il (g m) → m < s → s = min (ofs il g m + j) 40 → x3 = iI s → x5 = iI (g m) → x6 = iI j → ItP N il im a g m j s → (∀ p, p < s → w' (40 * i + p) = iI (g p)) → (∀ p, (p < 40 * i ∨ 40 * i + 40 ≤ p) → w' p = words p) →
      VX11_iterate_99 post K (iI N) images sizes (iI i) (iI a) (q + 1) w' lengths x3 (iI m) x5 x6 := by
    intro K m hm hK q
    induction q with
    | zero =>
      intro j s g w' x3 x5 x6 hj hj2 hms hs e3 e5 e6 hp hw ho
      subst e3 e5 e6
      have b0 := hp.1 m hms
      obtain ⟨b1, b2, b3⟩ := hI (g m) (by omega)
      rw [VX11_iterate_99]
      simp (disch := omega) only [b2, iI_lit, lI_lit, iI_nI, iI_add, iI_sub, iI_mul, iI_neg, c_lt_t, c_lt_f, c_le_t, c_le_f, c_eq_t, c_eq_f, c_in_t, iI_clamp, Int.toNat_natCast, forall_eq, true_and, and_true, false_and, and_false, not_true_eq_false, not_false_eq_true, true_implies, false_implies, implies_true, forall_const, true_or, or_true, false_or, or_false, pk_us, vu_s, vL_s, vb_0, vb_1, if_true, if_false, ite_true, ite_false]
      exact hK w' g s j hs hj2 (Or.inr (by omega)) hp hw ho
    | succ q ih =>
      intro j s g w' x3 x5 x6 hj hj2 hms hs e3 e5 e6 hp hw ho
      subst e3 e5 e6
      have b0 := hp.1 m hms
      obtain ⟨b1, b2, b3⟩ := hI (g m) (by omega)
      rw [VX11_iterate_99]
      by_cases c : s = 40
      · simp (disch := omega) only [b2, iI_lit, lI_lit, iI_nI, iI_add, iI_sub, iI_mul, iI_neg, c_lt_t, c_lt_f, c_le_t, c_le_f, c_eq_t, c_eq_f, c_in_t, iI_clamp, Int.toNat_natCast, forall_eq, true_and, and_true, false_and, and_false, not_true_eq_false, not_false_eq_true, true_implies, false_implies, implies_true, forall_const, true_or, or_true, false_or, or_false, pk_us, vu_s, vL_s, vb_0, vb_1, if_true, if_false, ite_true, ite_false]
        exact hK w' g s j hs hj2 (Or.inl c) hp hw ho
      · have ej : (4 * (g m : Int) + (j : Int)).toNat = 4 * g m + j := by omega
        have ei : (40 * (i : Int) + (s : Int)).toNat = 40 * i + s := by omega
        obtain ⟨d1, d2⟩ := b3 j (by omega)
        simp (disch := omega) only [b2, ej, ei, d2, iI_lit, lI_lit, iI_nI, iI_add, iI_sub, iI_mul, iI_neg, c_lt_t, c_lt_f, c_le_t, c_le_f, c_eq_t, c_eq_f, c_in_t, iI_clamp, Int.toNat_natCast, forall_eq, true_and, and_true, false_and, and_false, not_true_eq_false, not_false_eq_true, true_implies, false_implies, implies_true, forall_const, true_or, or_true, false_or, or_false, pk_us, vu_s, vL_s, vb_0, vb_1, if_true, if_false, ite_true, ite_false]
        have hs2 : s = ofs il g m + j := by omega
        have hv : ∀ p, p < s → va_up g s (im (g m) j) p = g p := fun p hp => vu_n (by omega)
        have hof : ∀ k, k ≤ m + 1 → ofs il (va_up g s (im (g m) j)) k = ofs il g k := fun k hk => ofs_cg k (fun t ht => hv t (by omega))
        refine ih (j + 1) (s + 1) (va_up g s (im (g m) j)) _ _ _ _ (by rw [hv m hms]; omega) (by rw [hv m hms]; omega) (by omega) (by rw [hof m (by omega)]; omega) (congrArg iI (by omega)) (by rw [hv m hms]) (congrArg iI (by omega)) ⟨fun p hp2 => ?_, ?_, fun k t hk ht hs3 => ?_⟩ (fun p hp2 => ?_) (fun p hp2 => ?_)
        · by_cases e : p = s
          · subst e
            rw [vu_s]
            exact d1
          · rw [hv p (by omega)]
            exact hp.1 p (by omega)
        · rw [hv 0 (by omega)]
          exact hp.2.1
        · have hk2 : k ≤ m := by omega
          rw [hv k (by omega)] at ht ⊢
          rw [hof k (by omega)] at hs3 ⊢
          by_cases e : ofs il g k + t = s
          · have h7 := ofs_uq (il := il) (g := g) (k := k) (k' := m) (j := t) (j' := j) ht (by omega) (by omega)
            obtain ⟨rfl, rfl⟩ := h7
            rw [e, vu_s]
          · rw [hv _ (by omega)]
            refine hp.2.2 k t ?_ ht (by omega)
            rcases hk with hk | ⟨rfl, hk⟩
            · exact Or.inl hk
            · exact Or.inr ⟨rfl, by omega⟩
        · by_cases e : p = s
          · subst e
            rw [pk_us, vu_s]
          · rw [pk_un (by omega), hv p (by omega)]
            exact hw p (by omega)
        · rw [pk_un (by omega)]
          exact ho p hp2
  have key : (∀ x, x < N → il x ≠ 0) → 2 ≤ il a → im a 0 = a → ∀ (q m s : Nat) (g : Nat → Nat) (w' : Nat → Int32) (x3 x4 : Int32), m + q = 40 → x3 = iI s → x4 = iI m → s = min (ofs il g m + (if m = 0 then 1 else 0)) 40 → m < s ∨ s = 40 → ItP N il im a g m (if m = 0 then 1 else 0) s → (∀ p, p < s → w' (40 * i + p) = iI (g p)) → (∀ p, (p < 40 * i ∨ 40 * i + 40 ≤ p) → w' p = words p) →
      VX11_iterate_67 post (iI N) images sizes (iI i) (iI a) (q + 1) w' lengths x3 x4 := by
    intro hne h2 h3 q
    have fin : ∀ (m s : Nat) (g : Nat → Nat) (w' : Nat → Int32), s = 40 → s = min (ofs il g m + (if m = 0 then 1 else 0)) 40 → ItP N il im a g m (if m = 0 then 1 else 0) s → (∀ p, p < s → w' (40 * i + p) = iI (g p)) → (∀ p, (p < 40 * i ∨ 40 * i + 40 ≤ p) → w' p = words p) → post (iI 40) w' (upd lengths i (iI 40)) := by
      intro m s g w' e hs hp hw ho
      subst e
      refine hok hne (by omega) h3 w' g (ItP_fin hne h2 hp ?_ (by omega)) hw ho
      by_cases c : m = 0
      · subst c
        rw [if_pos rfl, hp.2.1]
        omega
      · rw [if_neg c]
        omega
    induction q with
    | zero =>
      intro m s g w' x3 x4 hm e3 e4 hs hms hp hw ho
      subst e3 e4
      have e : s = 40 := by omega
      rw [VX11_iterate_67]
      simp (disch := omega) only [VX11_iterate_155, iI_lit, lI_lit, iI_nI, iI_add, iI_sub, iI_mul, iI_neg, c_lt_t, c_lt_f, c_le_t, c_le_f, c_eq_t, c_eq_f, c_in_t, iI_clamp, Int.toNat_natCast, forall_eq, true_and, and_true, false_and, and_false, not_true_eq_false, not_false_eq_true, true_implies, false_implies, implies_true, forall_const, true_or, or_true, false_or, or_false, pk_us, vu_s, vL_s, vb_0, vb_1, if_true, if_false, ite_true, ite_false]
      exact fin m s g w' e hs hp hw ho
    | succ q ih =>
      intro m s g w' x3 x4 hm e3 e4 hs hms hp hw ho
      subst e3 e4
      rw [VX11_iterate_67]
      by_cases c : s = 40
      · simp (disch := omega) only [VX11_iterate_155, iI_lit, lI_lit, iI_nI, iI_add, iI_sub, iI_mul, iI_neg, c_lt_t, c_lt_f, c_le_t, c_le_f, c_eq_t, c_eq_f, c_in_t, iI_clamp, Int.toNat_natCast, forall_eq, true_and, and_true, false_and, and_false, not_true_eq_false, not_false_eq_true, true_implies, false_implies, implies_true, forall_const, true_or, or_true, false_or, or_false, pk_us, vu_s, vL_s, vb_0, vb_1, if_true, if_false, ite_true, ite_false]
        exact fin m s g w' c hs hp hw ho
      · have hms : m < s := by omega
        have ei : (40 * (i : Int) + (m : Int)).toNat = 40 * i + m := by omega
        have b0 := hp.1 m hms
        have hgo : ∀ (w' : Nat → Int32) (g : Nat → Nat) (s j : Nat), s = min (ofs il g m + j) 40 → j ≤ il (g m) → (s = 40 ∨ j = il (g m)) → m < s → ItP N il im a g m j s → (∀ p, p < s → w' (40 * i + p) = iI (g p)) → (∀ p, (p < 40 * i ∨ 40 * i + 40 ≤ p) → w' p = words p) → VX11_iterate_67 post (iI N) images sizes (iI i) (iI a) (q + 1) w' lengths (iI s) (iI ((m : Int) + 1)) := by
          intro w2 g2 s2 j2 k1 k2 k3 k3b k4 k5 k6
          have hone : s2 = min (ofs il g2 (m + 1) + (if m + 1 = 0 then 1 else 0)) 40 := by
            rw [if_neg (by omega)]
            simp only [ofs]
            omega
          refine ih (m + 1) s2 g2 w2 _ _ (by omega) rfl (congrArg iI (by omega)) hone ?_ ⟨k4.1, k4.2.1, fun k t hk ht hs3 => ?_⟩ k5 k6
          · by_cases d : s2 = 40
            · exact Or.inr d
            · refine Or.inl ?_
              rw [if_neg (by omega)] at hone
              have := ofs_gt hne h2 k4.2.1 k4.1 (m + 1) (by omega) (by omega)
              omega
          · rw [if_neg (by omega)] at hk
            refine k4.2.2 k t ?_ ht hs3
            by_cases d : k = m
            · subst d
              refine Or.inr ⟨rfl, ?_⟩
              omega
            · exact Or.inl (by omega)
        by_cases d : m = 0
        · subst d
          simp only [if_true] at hs hp
          have hsj : ∃ n99, VX11_iterate_99 post (fun t_words t_lengths x3 x4 => VX11_iterate_67 post (iI N) images sizes (iI i) (iI a) (q + 1) t_words t_lengths x3 x4) (iI N) images sizes (iI i) (iI a) n99 w' lengths (iI s) (iI ((0 : Nat) : Int)) (iI (g 0)) (iI 1) := by
            have hg0 := hp.2.1
            refine ⟨il (g 0) - 1 + 1, key2 (by omega) (fun w2 g2 s2 j2 k1 k2 k3 k4 k5 k6 => ?_) (il (g 0) - 1) 1 s g w' _ _ _ (by rw [hg0]; omega) (by rw [hg0]; omega) hms hs rfl rfl rfl hp hw ho⟩
            refine hgo w2 g2 s2 j2 k1 k2 k3 ?_ k4 k5 k6
            have := k4.2.1
            rw [this] at k2 k3
            rcases k3 with k3 | k3
            · omega
            · omega
          simp (disch := omega) only [ei, hw 0 hms, iI_lit, lI_lit, iI_nI, iI_add, iI_sub, iI_mul, iI_neg, c_lt_t, c_lt_f, c_le_t, c_le_f, c_eq_t, c_eq_f, c_in_t, iI_clamp, Int.toNat_natCast, forall_eq, true_and, and_true, false_and, and_false, not_true_eq_false, not_false_eq_true, true_implies, false_implies, implies_true, forall_const, true_or, or_true, false_or, or_false, pk_us, vu_s, vL_s, vb_0, vb_1, if_true, if_false, ite_true, ite_false]
          exact hsj
        · simp only [d, if_false] at hs hp
          have hsj : ∃ n99, VX11_iterate_99 post (fun t_words t_lengths x3 x4 => VX11_iterate_67 post (iI N) images sizes (iI i) (iI a) (q + 1) t_words t_lengths x3 x4) (iI N) images sizes (iI i) (iI a) n99 w' lengths (iI s) (iI (m : Int)) (iI (g m)) (iI 0) := by
            refine ⟨il (g m) + 1, key2 (by omega) (fun w2 g2 s2 j2 k1 k2 k3 k4 k5 k6 => ?_) (il (g m)) 0 s g w' _ _ _ (by omega) (by omega) hms hs rfl rfl rfl hp hw ho⟩
            refine hgo w2 g2 s2 j2 k1 k2 k3 ?_ k4 k5 k6
            by_cases e : m < s2
            · exact e
            · have := ofs_gt hne h2 k4.2.1 k4.1 s2 (by
                have : ofs il g2 1 ≤ ofs il g2 m := ofs_mono (by omega)
                rw [ofs_one k4.2.1] at this
                omega) (by omega)
              have : ofs il g2 s2 ≤ ofs il g2 m := ofs_mono (by omega)
              omega
          simp (disch := omega) only [ei, hw m hms, iI_lit, lI_lit, iI_nI, iI_add, iI_sub, iI_mul, iI_neg, c_lt_t, c_lt_f, c_le_t, c_le_f, c_eq_t, c_eq_f, c_in_t, iI_clamp, Int.toNat_natCast, forall_eq, true_and, and_true, false_and, and_false, not_true_eq_false, not_false_eq_true, true_implies, false_implies, implies_true, forall_const, true_or, or_true, false_or, or_false, pk_us, vu_s, vL_s, vb_0, vb_1, if_true, if_false, ite_true, ite_false]
          exact hsj
  simp (disch := omega) only [VX11_iterate, VX11_isWord, VX11_isLetter, VX11_isIn, iI_lit, lI_lit, iI_nI, iI_add, iI_sub, iI_mul, iI_neg, c_lt_t, c_lt_f, c_le_t, c_le_f, c_eq_t, c_eq_f, c_in_t, iI_clamp, Int.toNat_natCast, forall_eq, true_and, and_true, false_and, and_false, not_true_eq_false, not_false_eq_true, true_implies, false_implies, implies_true, forall_const, true_or, or_true, false_or, or_false, pk_us, vu_s, vL_s, vb_0, vb_1, if_true, if_false, ite_true, ite_false]
  refine s11_missing hN (fun x hx => ⟨(hI x hx).1, (hI x hx).2.1⟩) (fun hm => ?_) (fun hne => ?_)
  · simp (disch := omega) only [iI_lit, lI_lit, iI_nI, iI_add, iI_sub, iI_mul, iI_neg, c_lt_t, c_lt_f, c_le_t, c_le_f, c_eq_t, c_eq_f, c_in_t, iI_clamp, Int.toNat_natCast, forall_eq, true_and, and_true, false_and, and_false, not_true_eq_false, not_false_eq_true, true_implies, false_implies, implies_true, forall_const, true_or, or_true, false_or, or_false, pk_us, vu_s, vL_s, vb_0, vb_1, if_true, if_false, ite_true, ite_false]
    exact hmiss hm
  · have hne0 := hne a ha
    by_cases c1 : il a = 1
    · simp (disch := omega) only [u2, iI_lit, lI_lit, iI_nI, iI_add, iI_sub, iI_mul, iI_neg, c_lt_t, c_lt_f, c_le_t, c_le_f, c_eq_t, c_eq_f, c_in_t, iI_clamp, Int.toNat_natCast, forall_eq, true_and, and_true, false_and, and_false, not_true_eq_false, not_false_eq_true, true_implies, false_implies, implies_true, forall_const, true_or, or_true, false_or, or_false, pk_us, vu_s, vL_s, vb_0, vb_1, if_true, if_false, ite_true, ite_false]
      exact hnot hne (Or.inl c1)
    · obtain ⟨v1, v2⟩ := u3 0 (by omega)
      have e0 : (4 * (a : Int)).toNat = 4 * a + 0 := by omega
      have e1 : (40 * (i : Int)).toNat = 40 * i + 0 := by omega
      by_cases c2 : im a 0 = a
      · have c2' : ((im a 0 : Nat) : Int) = (a : Int) := by omega
        simp (disch := omega) only [u2, e0, e1, v2, iI_lit, lI_lit, iI_nI, iI_add, iI_sub, iI_mul, iI_neg, c_lt_t, c_lt_f, c_le_t, c_le_f, c_eq_t, c_eq_f, c_in_t, iI_clamp, Int.toNat_natCast, forall_eq, true_and, and_true, false_and, and_false, not_true_eq_false, not_false_eq_true, true_implies, false_implies, implies_true, forall_const, true_or, or_true, false_or, or_false, pk_us, vu_s, vL_s, vb_0, vb_1, if_true, if_false, ite_true, ite_false]
        refine ⟨41, key hne (by omega) c2 40 0 1 (fun _ => a) _ _ _ (by omega) rfl rfl rfl (by omega) ⟨fun p _ => ha, rfl, fun k t hk ht hs => ?_⟩ (fun p hp => ?_) (fun p hp => ?_)⟩
        · rw [if_pos rfl] at hk
          have hk0 : k = 0 := by omega
          have ht0 : t = 0 := by omega
          subst hk0 ht0
          exact c2.symm
        · have : p = 0 := by omega
          subst this
          rw [pk_us]
        · rw [pk_un (by omega)]
      · simp (disch := omega) only [u2, e0, v2, iI_lit, lI_lit, iI_nI, iI_add, iI_sub, iI_mul, iI_neg, c_lt_t, c_lt_f, c_le_t, c_le_f, c_eq_t, c_eq_f, c_in_t, iI_clamp, Int.toNat_natCast, forall_eq, true_and, and_true, false_and, and_false, not_true_eq_false, not_false_eq_true, true_implies, false_implies, implies_true, forall_const, true_or, or_true, false_or, or_false, pk_us, vu_s, vL_s, vb_0, vb_1, if_true, if_false, ite_true, ite_false]
        exact hnot hne (Or.inr c2)
theorem L_iterate {N : Nat} (hN : 2 ≤ N ∧ N ≤ 4) {iL : Nat → Nat → Int32} {iS images sizes : Nat → Int32} (hI : EI N iL iS images sizes) {wL : Nat → Nat → Int32} {wS words lengths : Nat → Int32} (hw : EW N wL wS words lengths) (p q : Int32) (sL : Nat → Int32) (sS : Int32)
    {P : Int32 → (Nat → Nat → Int32) → (Nat → Int32) → (Nat → Int32) → Int32 → Int32 → (Nat → Int32) → (Nat → Int32) → Prop} (hP : ∀ r a b c d e f, EW N a b e f → P r a b c d r e f) :
    VX10_iterate (fun r a b c d => VX11_iterate (fun r2 e f => P r a b c d r2 e f) (iI N) images sizes p q words lengths) (iI N) iL iS p q wL wS sL sS := by
  have h0 := hw
  obtain ⟨il, im, hI⟩ := hI
  obtain ⟨wl, w, hW⟩ := hw
  have hIm : ∀ x, x < 4 → il x ≤ 4 ∧ sizes x = iI (il x) ∧ ∀ j, j < il x → im x j < N ∧ images (4 * x + j) = iI (im x j) := fun x hx => ⟨(hI x hx).1, (hI x hx).2.2.1, fun j hj => ⟨((hI x hx).2.2.2 j hj).1, ((hI x hx).2.2.2 j hj).2.2⟩⟩
  rcases ix_cases p 3 (by omega) with ⟨i, hi, rfl⟩ | ⟨z, rfl, h1, h2, h3⟩
  · rcases ix_cases q N (by omega) with ⟨a, ha, rfl⟩ | ⟨z, rfl, h1, h2, h3⟩
    · refine s10_iterate (il := il) (im := im) hN.2 ha hi (fun x hx => ⟨(hI x hx).1, (hI x hx).2.1, fun j hj => ⟨((hI x hx).2.2.2 j hj).1, ((hI x hx).2.2.2 j hj).2.1⟩⟩) (fun hm => ?_) (fun hne hn => ?_) (fun hne hn1 hn2 l g b c hg hl => ?_)
      · refine s11_iterate (il := il) (im := im) hN.2 ha hi hIm (fun _ => hP _ _ _ _ _ _ _ h0) (fun hne => ?_) (fun hne => ?_)
        · obtain ⟨k, hk, e⟩ := hm
          exact absurd e (hne k hk)
        · obtain ⟨k, hk, e⟩ := hm
          exact absurd e (hne k hk)
      · refine s11_iterate (il := il) (im := im) hN.2 ha hi hIm (fun hm => ?_) (fun _ _ => hP _ _ _ _ _ _ _ h0) (fun _ q1 q2 => ?_)
        · obtain ⟨k, hk, e⟩ := hm
          exact absurd e (hne k hk)
        · rcases hn with hn | hn
          · exact absurd hn q1
          · exact absurd q2 hn
      · refine s11_iterate (il := il) (im := im) hN.2 ha hi hIm (fun hm => ?_) (fun _ hn => ?_) (fun _ _ _ w' g' hg' hw' ho => ?_)
        · obtain ⟨k, hk, e⟩ := hm
          exact absurd e (hne k hk)
        · rcases hn with hn | hn
          · exact absurd hn hn1
          · exact absurd hn2 hn
        · refine hP _ _ _ _ _ _ _ ⟨va_up wl i 40, va_up w i g, fun y hy => ?_⟩
          by_cases e : y = i
          · subst e
            rw [vu_s, vu_s, vu_s, vu_s, pk_us]
            refine ⟨by omega, rfl, rfl, fun k hk => ⟨hg.1 k hk, hl k hk, ?_⟩⟩
            rw [hw' k hk, ItF_uq hg hg' (k + 1) k (by omega) hk]
          · rw [vu_n e, vu_n e, vu_n e, vu_n e, pk_un e]
            obtain ⟨a1, a2, a3, a4⟩ := hW y hy
            refine ⟨a1, a2, a3, fun j hj => ?_⟩
            rw [ho _ (by omega)]
            exact a4 j hj
    · rcases h3 with h3 | h3
      · simp (disch := omega) only [VX10_iterate, VX11_iterate, VX10_isWord, VX11_isWord, VX5_hasLetter, VX11_isLetter, VX11_isIn, iI_lit, lI_lit, iI_nI, iI_add, iI_sub, iI_mul, iI_neg, c_lt_t, c_lt_f, c_le_t, c_le_f, c_eq_t, c_eq_f, c_in_t, iI_clamp, Int.toNat_natCast, forall_eq, true_and, and_true, false_and, and_false, not_true_eq_false, not_false_eq_true, true_implies, false_implies, implies_true, forall_const, true_or, or_true, false_or, or_false, pk_us, vu_s, vL_s, vb_0, vb_1, if_true, if_false, ite_true, ite_false]
        exact hP _ _ _ _ _ _ _ h0
      · simp (disch := omega) only [VX10_iterate, VX11_iterate, VX10_isWord, VX11_isWord, VX5_hasLetter, VX11_isLetter, VX11_isIn, iI_lit, lI_lit, iI_nI, iI_add, iI_sub, iI_mul, iI_neg, c_lt_t, c_lt_f, c_le_t, c_le_f, c_eq_t, c_eq_f, c_in_t, iI_clamp, Int.toNat_natCast, forall_eq, true_and, and_true, false_and, and_false, not_true_eq_false, not_false_eq_true, true_implies, false_implies, implies_true, forall_const, true_or, or_true, false_or, or_false, pk_us, vu_s, vL_s, vb_0, vb_1, if_true, if_false, ite_true, ite_false]
        exact hP _ _ _ _ _ _ _ h0
  · rcases h3 with h3 | h3
    · simp (disch := omega) only [VX10_iterate, VX11_iterate, VX10_isWord, VX11_isWord, VX11_isIn, iI_lit, lI_lit, iI_nI, iI_add, iI_sub, iI_mul, iI_neg, c_lt_t, c_lt_f, c_le_t, c_le_f, c_eq_t, c_eq_f, c_in_t, iI_clamp, Int.toNat_natCast, forall_eq, true_and, and_true, false_and, and_false, not_true_eq_false, not_false_eq_true, true_implies, false_implies, implies_true, forall_const, true_or, or_true, false_or, or_false, pk_us, vu_s, vL_s, vb_0, vb_1, if_true, if_false, ite_true, ite_false]
      exact hP _ _ _ _ _ _ _ h0
    · simp (disch := omega) only [VX10_iterate, VX11_iterate, VX10_isWord, VX11_isWord, VX11_isIn, iI_lit, lI_lit, iI_nI, iI_add, iI_sub, iI_mul, iI_neg, c_lt_t, c_lt_f, c_le_t, c_le_f, c_eq_t, c_eq_f, c_in_t, iI_clamp, Int.toNat_natCast, forall_eq, true_and, and_true, false_and, and_false, not_true_eq_false, not_false_eq_true, true_implies, false_implies, implies_true, forall_const, true_or, or_true, false_or, or_false, pk_us, vu_s, vL_s, vb_0, vb_1, if_true, if_false, ite_true, ite_false]
      exact hP _ _ _ _ _ _ _ h0
