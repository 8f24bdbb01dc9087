theorem s11_apply {post : Int32 → (Nat → Int32) → (Nat → Int32) → (Nat → Int32) → Int32 → Prop} {images sizes words lengths row : Nat → Int32} {rs : Int32} {il f : Nat → Nat} {im : Nat → Nat → Nat} {i n : Nat} (hi : i < 3) (hn : n ≤ 40) (hl : lengths i = iI n) (hw : ∀ j, j < n → words (40 * i + j) = iI (f j) ∧ f j < 4)
    (hI : ∀ x, x < 4 → il x ≤ 4 ∧ sizes x = iI (il x) ∧ ∀ j, j < il x → images (4 * x + j) = iI (im x j))
    (hmiss : (∃ k, k < n ∧ il (f k) = 0) → post (iI (-6)) words lengths row rs) (hfull : (∀ k, k < n → il (f k) ≠ 0) → 40 < ofs il f n → post (iI (-3)) words lengths row rs)
    (hok : (∀ k, k < n → il (f k) ≠ 0) → ofs il f n ≤ 40 → ∀ w' ln' a b, (∀ k j, k < n → j < il (f k) → w' (40 * i + (ofs il f k + j)) = iI (im (f k) j)) → (∀ p, (p < 40 * i ∨ 40 * i + 40 ≤ p) → w' p = words p) → ln' i = iI (ofs il f n) → (∀ y, y ≠ i → ln' y = lengths y) → post (iI (ofs il f n)) w' ln' a b) :
    VX11_apply post images sizes (iI i) words lengths row rs := by
  have hlt : ∀ k, k < n → il (f k) ≤ 4 := fun k hk => (hI _ (hw k hk).2).1
  have key3 : ∀ {K : (Nat → Int32) → (Nat → Int32) → (Nat → Int32) → Int32 → Int32 → Int32 → Prop} {r : Nat → Int32} {m : Nat} (x2 : Int32), m < n → ofs il f n ≤ 40 → (r m = iI (f m)) →
      (∀ w' ln', (∀ k j, k < m + 1 → j < il (f k) → w' (40 * i + (ofs il f k + j)) = iI (im (f k) j)) → (∀ p, (p < 40 * i ∨ 40 * i + 40 ≤ p) → w' p = words p) → ln' i = iI (ofs il f (m + 1)) → (∀ y, y ≠ i → ln' y = lengths y) → K w' ln' r (iI n) x2 (iI ((m : Int) + 1))) →
      ∀ (q j : Nat) (w' ln' : Nat → Int32) (x5 : Int32), j + q = il (f m) → x5 = iI j → (∀ k j, k < m → j < il (f k) → w' (40 * i + (ofs il f k + j)) = iI (im (f k) j)) → (∀ t, t < j → w' (40 * i + (ofs il f m + t)) = iI (im (f m) t)) → (∀ p, (p < 40 * i ∨ 40 * i + 40 ≤ p) → w' p = words p) → ln' i = iI ((ofs il f m : Int) + j) → (∀ y, y ≠ i → ln' y = lengths y) →
      VX11_apply_115 post K images sizes (iI i) (q + 1) w' ln' r (iI n) x2 (iI m) x5 := by
    intro K r m x2 hm hle hr hK q
    obtain ⟨a1, a2⟩ := hw m hm
    obtain ⟨b1, b2, b3⟩ := hI _ a2
    have h2 : ofs il f m + il (f m) ≤ ofs il f n := ofs_mono (m := m + 1) (by omega)
    induction q with
    | zero =>
      intro j w' ln' x5 hj e5 g1 g2 g3 g4 g5
      have : j = il (f m) := by omega
      subst this
      subst e5
      rw [VX11_apply_115]
      simp (disch := omega) only [hr, b2, iI_lit, lI_lit, iI_nI, iI_add, iI_sub, iI_mul, iI_neg, c_lt_t, c_lt_f, c_le_t, c_le_f, c_eq_t, c_eq_f, c_in_t, iI_clamp, Int.toNat_natCast, forall_eq, true_and, and_true, false_and, and_false, not_true_eq_false, not_false_eq_true, true_implies, false_implies, implies_true, forall_const, true_or, or_true, false_or, or_false, pk_us, vu_s, vL_s, vb_0, vb_1, if_true, if_false, ite_true, ite_false]
      refine hK _ _ (fun k t hk ht => ?_) g3 (by rw [g4]; exact congrArg iI (by simp only [ofs]; omega)) g5
      by_cases e : k = m
      · subst e
        exact g2 t ht
      · exact g1 k t (by omega) ht
    | succ q ih =>
      intro j w' ln' x5 hj e5 g1 g2 g3 g4 g5
      subst e5
      have ei : (40 * (i : Int) + ((ofs il f m : Int) + (j : Int))).toNat = 40 * i + (ofs il f m + j) := by omega
      have ej : (4 * (f m : Int) + (j : Int)).toNat = 4 * f m + j := by omega
      rw [VX11_apply_115]
      simp (disch := omega) only [hr, b2, g4, ei, ej, b3 j (by omega), iI_lit, lI_lit, iI_nI, iI_add, iI_sub, iI_mul, iI_neg, c_lt_t, c_lt_f, c_le_t, c_le_f, c_eq_t, c_eq_f, c_in_t, iI_clamp, Int.toNat_natCast, forall_eq, true_and, and_true, false_and, and_false, not_true_eq_false, not_false_eq_true, true_implies, false_implies, implies_true, forall_const, true_or, or_true, false_or, or_false, pk_us, vu_s, vL_s, vb_0, vb_1, if_true, if_false, ite_true, ite_false]
      refine ih (j + 1) _ _ _ (by omega) (congrArg iI (by omega)) (fun k t hk ht => ?_) (fun t ht => ?_) (fun p hp => ?_) ?_ (fun y hy => ?_)
      · have h3 : ofs il f k + il (f k) ≤ ofs il f m := ofs_mono (m := k + 1) (by omega)
        rw [pk_un (by omega)]
        exact g1 k t hk ht
      · by_cases e : t = j
        · subst e
          rw [pk_us]
        · rw [pk_un (by omega)]
          exact g2 t (by omega)
      · rw [pk_un (by omega)]
        exact g3 p hp
      · rw [pk_us]
        exact congrArg iI (by omega)
      · rw [pk_un hy]
        exact g5 y hy
  have key2 : (∀ k, k < n → il (f k) ≠ 0) → ofs il f n ≤ 40 → ∀ {r : Nat → Int32}, (∀ j, j < n → r j = iI (f j)) → ∀ (q m : Nat) (w' ln' : Nat → Int32) (x4 : Int32), m + q = n → x4 = iI m → (∀ k j, k < m → j < il (f k) → w' (40 * i + (ofs il f k + j)) = iI (im (f k) j)) → (∀ p, (p < 40 * i ∨ 40 * i + 40 ≤ p) → w' p = words p) → ln' i = iI (ofs il f m) → (∀ y, y ≠ i → ln' y = lengths y) →
      VX11_apply_103 post images sizes (iI i) (q + 1) w' ln' r (iI n) (iI (ofs il f n)) x4 := by
    intro hne hle r hr q
    induction q with
    | zero =>
      intro m w' ln' x4 hm e4 g1 g2 g3 g4
      have : m = n := by omega
      subst this
      subst e4
      rw [VX11_apply_103]
      simp (disch := omega) only [iI_lit, lI_lit, iI_nI, iI_add, iI_sub, iI_mul, iI_neg, c_lt_t, c_lt_f, c_le_t, c_le_f, c_eq_t, c_eq_f, c_in_t, iI_clamp, Int.toNat_natCast, forall_eq, true_and, and_true, false_and, and_false, not_true_eq_false, not_false_eq_true, true_implies, false_implies, implies_true, forall_const, true_or, or_true, false_or, or_false, pk_us, vu_s, vL_s, vb_0, vb_1, if_true, if_false, ite_true, ite_false]
      exact hok hne hle _ _ _ _ g1 g2 g3 g4
    | succ q ih =>
      intro m w' ln' x4 hm e4 g1 g2 g3 g4
      subst e4
      rw [VX11_apply_103]
      simp (disch := omega) only [iI_lit, lI_lit, iI_nI, iI_add, iI_sub, iI_mul, iI_neg, c_lt_t, c_lt_f, c_le_t, c_le_f, c_eq_t, c_eq_f, c_in_t, iI_clamp, Int.toNat_natCast, forall_eq, true_and, and_true, false_and, and_false, not_true_eq_false, not_false_eq_true, true_implies, false_implies, implies_true, forall_const, true_or, or_true, false_or, or_false, pk_us, vu_s, vL_s, vb_0, vb_1, if_true, if_false, ite_true, ite_false]
      exact ⟨il (f m) + 1, key3 (r := r) (m := m) _ (by omega) hle (hr m (by omega)) (fun w2 ln2 s1 s2 s3 s4 => ih (m + 1) w2 ln2 _ (by omega) (congrArg iI (by omega)) s1 s2 s3 s4) (il (f m)) 0 w' ln' _ (by omega) rfl g1 (fun t ht => absurd ht (Nat.not_lt_zero t)) g2 (by rw [g3]; exact congrArg iI (by omega)) g4⟩
  have key1 : ∀ (q m : Nat) (x2 x3 x4 : Int32), m + q = n → x2 = iI (ofs il f m) → x4 = iI m → ((x3 = iI 0 ∧ ∀ k, k < m → il (f k) ≠ 0) ∨ (x3 = iI 1 ∧ ∃ k, k < m ∧ il (f k) = 0)) → VX11_apply_16 post images sizes (iI i) (q + 1) words lengths row rs x2 x3 x4 := by
    intro q
    induction q with
    | zero =>
      intro m x2 x3 x4 hm e2 e4 h1
      have : m = n := by omega
      subst this
      subst e2 e4
      have hb := ofs_le (il := il) (f := f) m hlt
      rw [VX11_apply_16]
      simp (disch := omega) only [hl, iI_lit, lI_lit, iI_nI, iI_add, iI_sub, iI_mul, iI_neg, c_lt_t, c_lt_f, c_le_t, c_le_f, c_eq_t, c_eq_f, c_in_t, iI_clamp, Int.toNat_natCast, forall_eq, true_and, and_true, false_and, and_false, not_true_eq_false, not_false_eq_true, true_implies, false_implies, implies_true, forall_const, true_or, or_true, false_or, or_false, pk_us, vu_s, vL_s, vb_0, vb_1, if_true, if_false, ite_true, ite_false]
      unfold VX11_apply_72
      rcases h1 with ⟨rfl, h1⟩ | ⟨rfl, h1⟩
      · by_cases c : ofs il f m ≤ 40
        · simp (disch := omega) only [iI_lit, lI_lit, iI_nI, iI_add, iI_sub, iI_mul, iI_neg, c_lt_t, c_lt_f, c_le_t, c_le_f, c_eq_t, c_eq_f, c_in_t, iI_clamp, Int.toNat_natCast, forall_eq, true_and, and_true, false_and, and_false, not_true_eq_false, not_false_eq_true, true_implies, false_implies, implies_true, forall_const, true_or, or_true, false_or, or_false, pk_us, vu_s, vL_s, vb_0, vb_1, if_true, if_false, ite_true, ite_false]
          refine s11_take hi hn hl (fun r q1 q2 => ?_)
          exact ⟨m + 1, key2 h1 c (r := r) (fun j hj => by rw [q1 j hj]; exact (hw j hj).1) m 0 words _ _ (by omega) rfl (fun k j hk => absurd hk (Nat.not_lt_zero k)) (fun _ _ => rfl) pk_us (fun y hy => pk_un hy)⟩
        · simp (disch := omega) only [iI_lit, lI_lit, iI_nI, iI_add, iI_sub, iI_mul, iI_neg, c_lt_t, c_lt_f, c_le_t, c_le_f, c_eq_t, c_eq_f, c_in_t, iI_clamp, Int.toNat_natCast, forall_eq, true_and, and_true, false_and, and_false, not_true_eq_false, not_false_eq_true, true_implies, false_implies, implies_true, forall_const, true_or, or_true, false_or, or_false, pk_us, vu_s, vL_s, vb_0, vb_1, if_true, if_false, ite_true, ite_false]
          exact hfull h1 (by omega)
      · simp (disch := omega) only [iI_lit, lI_lit, iI_nI, iI_add, iI_sub, iI_mul, iI_neg, c_lt_t, c_lt_f, c_le_t, c_le_f, c_eq_t, c_eq_f, c_in_t, iI_clamp, Int.toNat_natCast, forall_eq, true_and, and_true, false_and, and_false, not_true_eq_false, not_false_eq_true, true_implies, false_implies, implies_true, forall_const, true_or, or_true, false_or, or_false, pk_us, vu_s, vL_s, vb_0, vb_1, if_true, if_false, ite_true, ite_false]
        exact hmiss h1
    | succ q ih =>
      intro m x2 x3 x4 hm e2 e4 h1
      subst e2 e4
      obtain ⟨a1, a2⟩ := hw m (by omega)
      obtain ⟨b1, b2, b3⟩ := hI _ a2
      have hb := ofs_le (il := il) (f := f) m (fun k hk => hlt k (by omega))
      have ei : (40 * (i : Int) + (m : Int)).toNat = 40 * i + m := by omega
      rw [VX11_apply_16]
      rcases h1 with ⟨rfl, h1⟩ | ⟨rfl, k0, h1, h2⟩
      · by_cases c : il (f m) = 0
        · simp (disch := omega) only [hl, ei, a1, b2, iI_lit, lI_lit, iI_nI, iI_add, iI_sub, iI_mul, iI_neg, c_lt_t, c_lt_f, c_le_t, c_le_f, c_eq_t, c_eq_f, c_in_t, iI_clamp, Int.toNat_natCast, forall_eq, true_and, and_true, false_and, and_false, not_true_eq_false, not_false_eq_true, true_implies, false_implies, implies_true, forall_const, true_or, or_true, false_or, or_false, pk_us, vu_s, vL_s, vb_0, vb_1, if_true, if_false, ite_true, ite_false]
          exact ih (m + 1) _ _ _ (by omega) (congrArg iI (by simp only [ofs]; omega)) (congrArg iI (by omega)) (Or.inr ⟨rfl, m, by omega, c⟩)
        · simp (disch := omega) only [hl, ei, a1, b2, iI_lit, lI_lit, iI_nI, iI_add, iI_sub, iI_mul, iI_neg, c_lt_t, c_lt_f, c_le_t, c_le_f, c_eq_t, c_eq_f, c_in_t, iI_clamp, Int.toNat_natCast, forall_eq, true_and, and_true, false_and, and_false, not_true_eq_false, not_false_eq_true, true_implies, false_implies, implies_true, forall_const, true_or, or_true, false_or, or_false, pk_us, vu_s, vL_s, vb_0, vb_1, if_true, if_false, ite_true, ite_false]
          refine ih (m + 1) _ _ _ (by omega) (congrArg iI (by simp only [ofs]; omega)) (congrArg iI (by omega)) (Or.inl ⟨rfl, fun k hk => ?_⟩)
          by_cases e : k = m
          · subst e
            exact c
          · exact h1 k (by omega)
      · simp (disch := omega) only [hl, ei, a1, b2, iI_lit, lI_lit, iI_nI, iI_add, iI_sub, iI_mul, iI_neg, c_lt_t, c_lt_f, c_le_t, c_le_f, c_eq_t, c_eq_f, c_in_t, iI_clamp, Int.toNat_natCast, forall_eq, true_and, and_true, false_and, and_false, not_true_eq_false, not_false_eq_true, true_implies, false_implies, implies_true, forall_const, true_or, or_true, false_or, or_false, pk_us, vu_s, vL_s, vb_0, vb_1, if_true, if_false, ite_true, ite_false]
        exact ih (m + 1) _ _ _ (by omega) (congrArg iI (by simp only [ofs]; omega)) (congrArg iI (by omega)) (Or.inr ⟨rfl, k0, by omega, h2⟩)
  simp (disch := omega) only [VX11_apply, VX11_isWord, VX11_isIn, iI_lit, lI_lit, iI_nI, iI_add, iI_sub, iI_mul, iI_neg, c_lt_t, c_lt_f, c_le_t, c_le_f, c_eq_t, c_eq_f, c_in_t, iI_clamp, Int.toNat_natCast, forall_eq, true_and, and_true, false_and, and_false, not_true_eq_false, not_false_eq_true, true_implies, false_implies, implies_true, forall_const, true_or, or_true, false_or, or_false, pk_us, vu_s, vL_s, vb_0, vb_1, if_true, if_false, ite_true, ite_false]
  exact ⟨n + 1, key1 n 0 _ _ _ (by omega) rfl rfl (Or.inl ⟨rfl, fun k hk => absurd hk (Nat.not_lt_zero k)⟩)⟩
theorem L_apply {N : Nat} (hN : 2 ≤ N ∧ N ≤ 4) {iL : Nat → Nat → Int32} {iS images sizes : Nat → Int32} (hI : EI N iL iS images sizes) {wL : Nat → Nat → Int32} {wS words lengths : Nat → Int32} (hw : EW N wL wS words lengths) (p : Int32) (sL : Nat → Int32) (sS : Int32) (row : Nat → Int32) (rs : Int32)
    {P : Int32 → (Nat → Nat → Int32) → (Nat → Int32) → (Nat → Int32) → Int32 → Int32 → (Nat → Int32) → (Nat → Int32) → (Nat → Int32) → Int32 → Prop} (hP : ∀ r a b c d e f g h, EW N a b e f → P r a b c d r e f g h) :
    VX10_apply (fun r a b c d => VX11_apply (fun r2 e f g h => P r a b c d r2 e f g h) images sizes p words lengths row rs) iL iS p wL wS sL sS := by
  have h0 := hw
  obtain ⟨il, im, hI⟩ := hI
  obtain ⟨wl, w, hW⟩ := hw
  rcases ix_cases p 3 (by omega) with ⟨i, hi, rfl⟩ | ⟨z, rfl, h1, h2, h3⟩
  · obtain ⟨hl, w1, w2, w3⟩ := hW i hi
    refine s10_apply (il := il) (im := im) (f := w i) hi hl w1 (fun j hj => ⟨(w3 j hj).2.1, by have := (w3 j hj).1; omega⟩) (fun x hx => ⟨(hI x hx).1, (hI x hx).2.1, fun j hj => ((hI x hx).2.2.2 j hj).2.1⟩) (fun hm => ?_) (fun hne hf => ?_) (fun hne hle l c d hl1 => ?_)
    · refine s11_apply (il := il) (im := im) (f := w i) hi hl w2 (fun j hj => ⟨(w3 j hj).2.2, by have := (w3 j hj).1; omega⟩) (fun x hx => ⟨(hI x hx).1, (hI x hx).2.2.1, fun j hj => ((hI x hx).2.2.2 j hj).2.2⟩) (fun _ => hP _ _ _ _ _ _ _ _ _ h0) (fun hne => ?_) (fun hne => ?_)
      · obtain ⟨k, hk, e⟩ := hm
        exact absurd e (hne k hk)
      · obtain ⟨k, hk, e⟩ := hm
        exact absurd e (hne k hk)
    · refine s11_apply (il := il) (im := im) (f := w i) hi hl w2 (fun j hj => ⟨(w3 j hj).2.2, by have := (w3 j hj).1; omega⟩) (fun x hx => ⟨(hI x hx).1, (hI x hx).2.2.1, fun j hj => ((hI x hx).2.2.2 j hj).2.2⟩) (fun hm => ?_) (fun _ _ => hP _ _ _ _ _ _ _ _ _ h0) (fun _ hle => absurd hle (by omega))
      obtain ⟨k, hk, e⟩ := hm
      exact absurd e (hne k hk)
    · refine s11_apply (il := il) (im := im) (f := w i) hi hl w2 (fun j hj => ⟨(w3 j hj).2.2, by have := (w3 j hj).1; omega⟩) (fun x hx => ⟨(hI x hx).1, (hI x hx).2.2.1, fun j hj => ((hI x hx).2.2.2 j hj).2.2⟩) (fun hm => ?_) (fun _ hf => absurd hle (by omega)) (fun _ _ w' ln' a b g1 g2 g3 g4 => ?_)
      · obtain ⟨k, hk, e⟩ := hm
        exact absurd e (hne k hk)
      · refine hP _ _ _ _ _ _ _ _ _ ⟨va_up wl i (ofs il (w i) (wl i)), va_up w i (fun q => (l q).toInt.toNat), fun y hy => ?_⟩
        by_cases e : y = i
        · subst e
          rw [vu_s, vu_s, vu_s, vu_s]
          refine ⟨hle, rfl, g3, fun q hq => ?_⟩
          obtain ⟨k, j, hk, hj, rfl⟩ := ofs_dec _ _ hq
          have hk4 : w y k < 4 := by have := (w3 k hk).1; omega
          obtain ⟨c1, c2, c3, c4⟩ := hI _ hk4
          obtain ⟨d1, d2, d3⟩ := c4 j hj
          rw [hl1 k j hk hj, g1 k j hk hj, iI_toInt (by omega) (by omega), Int.toNat_natCast]
          exact ⟨d1, rfl, rfl⟩
        · rw [vu_n e, vu_n e, vu_n e, vu_n e]
          obtain ⟨a1, a2, a3, a4⟩ := hW y hy
          refine ⟨a1, a2, by rw [g4 y e]; exact a3, fun j hj => ?_⟩
          rw [g2 _ (by omega)]
          exact a4 j hj
  · rcases h3 with h3 | h3
    · simp (disch := omega) only [VX10_apply, VX11_apply, VX10_isWord, VX11_isWord, VX11_isIn, iI_lit, lI_lit, iI_nI, iI_add, iI_sub, iI_mul, iI_neg, c_lt_t, c_lt_f, c_le_t, c_le_f, c_eq_t, c_eq_f, c_in_t, iI_clamp, Int.toNat_natCast, forall_eq, true_and, and_true, false_and, and_false, not_true_eq_false, not_false_eq_true, true_implies, false_implies, implies_true, forall_const, true_or, or_true, false_or, or_false, pk_us, vu_s, vL_s, vb_0, vb_1, if_true, if_false, ite_true, ite_false]
      exact hP _ _ _ _ _ _ _ _ _ h0
    · simp (disch := omega) only [VX10_apply, VX11_apply, VX10_isWord, VX11_isWord, VX11_isIn, iI_lit, lI_lit, iI_nI, iI_add, iI_sub, iI_mul, iI_neg, c_lt_t, c_lt_f, c_le_t, c_le_f, c_eq_t, c_eq_f, c_in_t, iI_clamp, Int.toNat_natCast, forall_eq, true_and, and_true, false_and, and_false, not_true_eq_false, not_false_eq_true, true_implies, false_implies, implies_true, forall_const, true_or, or_true, false_or, or_false, pk_us, vu_s, vL_s, vb_0, vb_1, if_true, if_false, ite_true, ite_false]
      exact hP _ _ _ _ _ _ _ _ _ h0
