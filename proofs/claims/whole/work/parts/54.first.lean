/-! FIRST POWERS, NUMBERS OF POWERS, EXTENSIONS -/
theorem s8_pop {post : Int32 → Int32 → Prop} {L : Nat → Int32} {n z : Nat} (hn : n ≤ 40) (hL : L n = iI z) (h : post (iI z) (iI n)) : VX8_pop post L (iI ((n + 1 : Nat) : Int)) := by
  have e0 : ((n + 1 : Nat) : Int) - 1 = (n : Int) := by omega
  simp (disch := omega) only [VX8_pop, e0, hL, iI_lit, lI_lit, iI_nI, iI_add, iI_sub, iI_mul, iI_neg, c_lt_t, c_lt_f, c_le_t, c_le_f, c_eq_t, c_eq_f, c_in_t, iI_clamp, Int.toNat_natCast, forall_eq, true_and, and_true, false_and, and_false, not_true_eq_false, not_false_eq_true, true_implies, false_implies, implies_true, forall_const, true_or, or_true, false_or, or_false, pk_us, vu_s, vL_s, vb_0, vb_1, if_true, if_false, ite_true, ite_false]
  exact h
theorem L_equivalent {K N : Nat} (hK : K ≤ 3) (hN : 2 ≤ N ∧ N ≤ 4) {ex0 : Int32} {cv mv : Nat → Int32} (hv : EV cv mv) {wL : Nat → Nat → Int32} {wS words lengths : Nat → Int32} (h : EW N wL wS words lengths) (p1 p2 p3 p4 : Int32) {L T : Nat → Int32} {S A B wt : Nat → Int64} {sz kd ex : Int32} (hT : T 0 = iI 0) (row : Nat → Int32) (rowSize : Int32)
    {P : Int32 → (Nat → Int32) → (Nat → Int32) → (Nat → Int64) → (Nat → Int64) → (Nat → Int64) → (Nat → Int64) → Int32 → Int32 → Int32 → Int32 → (Nat → Int32) → Int32 → Prop} (hP : ∀ r L T S A B wt sz kd ex a b, T 0 = iI 0 → P r L T S A B wt sz kd ex r a b) :
    VX10_equivalent (fun r L T S A B wt sz kd ex => VX11_equivalent (fun r2 a b => P r L T S A B wt sz kd ex r2 a b) (iI K) (iI N) mv words lengths p1 p2 p3 p4 row rowSize) (iI K) ex0 cv wL wS p1 p2 p3 p4 L T S A B wt sz kd ex := by
  obtain ⟨wl, w, hW⟩ := h
  obtain ⟨V, hV⟩ := hv
  obtain ⟨z2, rfl, a1, a2⟩ := iI_rng p2
  obtain ⟨z3, rfl, b1, b2⟩ := iI_rng p3
  obtain ⟨z4, rfl, d1, d2⟩ := iI_rng p4
  rcases ix_cases p1 3 (by omega) with ⟨i, hi, rfl⟩ | ⟨z, rfl, h1, h2, h3⟩
  · obtain ⟨hl, e1, e2, e3⟩ := hW i hi
    by_cases c : 0 ≤ z2 ∧ z2 ≤ (wl i : Int) ∧ 0 ≤ z4 ∧ z4 ≤ (wl i : Int) - z2
    · by_cases d : 0 ≤ z3 ∧ z3 ≤ (wl i : Int) ∧ 0 ≤ z4 ∧ z4 ≤ (wl i : Int) - z3
      · obtain ⟨c1, c2, c3, c4⟩ := c
        obtain ⟨a, rfl⟩ : ∃ a : Nat, z2 = a := ⟨z2.toNat, by omega⟩
        obtain ⟨b, rfl⟩ : ∃ b : Nat, z3 = b := ⟨z3.toNat, by omega⟩
        obtain ⟨n, rfl⟩ : ∃ n : Nat, z4 = n := ⟨z4.toNat, by omega⟩
        have key : ∀ r : Nat, ((alk K N V (w i) a b n = true ∧ r = 1) ∨ (alk K N V (w i) a b n = false ∧ r = 0)) → ∀ L T S A B wt sz kd ex, T 0 = iI 0 → VX11_equivalent (fun r2 a b => P (iI r) L T S A B wt sz kd ex r2 a b) (iI K) (iI N) mv words lengths (iI i) (iI a) (iI b) (iI n) row rowSize := by
          intro r hr L T S A B wt sz kd ex hT
          simp (disch := omega) only [VX11_equivalent, c_isBlock_t hi e2, iI_lit, lI_lit, iI_nI, iI_add, iI_sub, iI_mul, iI_neg, c_lt_t, c_lt_f, c_le_t, c_le_f, c_eq_t, c_eq_f, c_in_t, iI_clamp, Int.toNat_natCast, forall_eq, true_and, and_true, false_and, and_false, not_true_eq_false, not_false_eq_true, true_implies, false_implies, implies_true, forall_const, true_or, or_true, false_or, or_false, pk_us, vu_s, vL_s, vb_0, vb_1, if_true, if_false, ite_true, ite_false]
          refine s11_take hi hl e2 (fun rw' h1 h2 => ?_)
          refine s11_alike (f := w i) (V := V) hK hN (fun x hx => ⟨(hV x hx).1, (hV x hx).2.2⟩) (by omega) (by omega) (fun j hj => ?_) (fun q => ?_) (fun q => ?_)
          · rw [h1 j (by omega)]
            have q := e3 j (by omega)
            exact ⟨q.2.2, by omega⟩
          · rcases hr with ⟨-, rfl⟩ | ⟨q1, -⟩
            · simp (disch := omega) only [iI_lit, lI_lit, iI_nI, iI_add, iI_sub, iI_mul, iI_neg, c_lt_t, c_lt_f, c_le_t, c_le_f, c_eq_t, c_eq_f, c_in_t, iI_clamp, Int.toNat_natCast, forall_eq, true_and, and_true, false_and, and_false, not_true_eq_false, not_false_eq_true, true_implies, false_implies, implies_true, forall_const, true_or, or_true, false_or, or_false, pk_us, vu_s, vL_s, vb_0, vb_1, if_true, if_false, ite_true, ite_false]
              exact hP _ _ _ _ _ _ _ _ _ _ _ _ hT
            · rw [q] at q1
              exact absurd q1 (by decide)
          · rcases hr with ⟨q1, -⟩ | ⟨-, rfl⟩
            · rw [q] at q1
              exact absurd q1 (by decide)
            · simp (disch := omega) only [iI_lit, lI_lit, iI_nI, iI_add, iI_sub, iI_mul, iI_neg, c_lt_t, c_lt_f, c_le_t, c_le_f, c_eq_t, c_eq_f, c_in_t, iI_clamp, Int.toNat_natCast, forall_eq, true_and, and_true, false_and, and_false, not_true_eq_false, not_false_eq_true, true_implies, false_implies, implies_true, forall_const, true_or, or_true, false_or, or_false, pk_us, vu_s, vL_s, vb_0, vb_1, if_true, if_false, ite_true, ite_false]
              exact hP _ _ _ _ _ _ _ _ _ _ _ _ hT
        simp (disch := omega) only [VX10_equivalent, VX10_isWord, c_hasBlock_t, e1, iI_lit, lI_lit, iI_nI, iI_add, iI_sub, iI_mul, iI_neg, c_lt_t, c_lt_f, c_le_t, c_le_f, c_eq_t, c_eq_f, c_in_t, iI_clamp, Int.toNat_natCast, forall_eq, true_and, and_true, false_and, and_false, not_true_eq_false, not_false_eq_true, true_implies, false_implies, implies_true, forall_const, true_or, or_true, false_or, or_false, pk_us, vu_s, vL_s, vb_0, vb_1, if_true, if_false, ite_true, ite_false]
        refine s8_begin (V := V) hK (fun x hx => ⟨(hV x hx).1, (hV x hx).2.1⟩) (fun wt' hw => ?_)
        refine s8_pushAll (f := w i) hK hl (fun j hj => ⟨by have := (e3 j hj).1; omega, (e3 j hj).2.1⟩) hw hT (fun L' T' S' A' B' hTI => ?_)
        refine s8_same (f := w i) (V := V) hK hN (fun x hx => (hV x hx).1) (by omega) (fun j hj => (e3 j hj).1) hTI (by omega) (by omega) (fun q => ?_) (fun q => ?_)
        · simp (disch := omega) only [iI_lit, lI_lit, iI_nI, iI_add, iI_sub, iI_mul, iI_neg, c_lt_t, c_lt_f, c_le_t, c_le_f, c_eq_t, c_eq_f, c_in_t, iI_clamp, Int.toNat_natCast, forall_eq, true_and, and_true, false_and, and_false, not_true_eq_false, not_false_eq_true, true_implies, false_implies, implies_true, forall_const, true_or, or_true, false_or, or_false, pk_us, vu_s, vL_s, vb_0, vb_1, if_true, if_false, ite_true, ite_false]
          exact key 1 (Or.inl ⟨q, rfl⟩) _ _ _ _ _ _ _ _ _ hTI.1
        · simp (disch := omega) only [iI_lit, lI_lit, iI_nI, iI_add, iI_sub, iI_mul, iI_neg, c_lt_t, c_lt_f, c_le_t, c_le_f, c_eq_t, c_eq_f, c_in_t, iI_clamp, Int.toNat_natCast, forall_eq, true_and, and_true, false_and, and_false, not_true_eq_false, not_false_eq_true, true_implies, false_implies, implies_true, forall_const, true_or, or_true, false_or, or_false, pk_us, vu_s, vL_s, vb_0, vb_1, if_true, if_false, ite_true, ite_false]
          exact key 0 (Or.inr ⟨q, rfl⟩) _ _ _ _ _ _ _ _ _ hTI.1
      · simp (disch := omega) only [VX10_equivalent, VX10_isWord, c_hasBlock_t, c_hasBlock_f, VX11_equivalent, c_isBlock_t hi e2, c_isBlock_f hi e2, e1, iI_lit, lI_lit, iI_nI, iI_add, iI_sub, iI_mul, iI_neg, c_lt_t, c_lt_f, c_le_t, c_le_f, c_eq_t, c_eq_f, c_in_t, iI_clamp, Int.toNat_natCast, forall_eq, true_and, and_true, false_and, and_false, not_true_eq_false, not_false_eq_true, true_implies, false_implies, implies_true, forall_const, true_or, or_true, false_or, or_false, pk_us, vu_s, vL_s, vb_0, vb_1, if_true, if_false, ite_true, ite_false]
        exact hP _ _ _ _ _ _ _ _ _ _ _ _ hT
    · simp (disch := omega) only [VX10_equivalent, VX10_isWord, c_hasBlock_f, VX11_equivalent, c_isBlock_f hi e2, e1, iI_lit, lI_lit, iI_nI, iI_add, iI_sub, iI_mul, iI_neg, c_lt_t, c_lt_f, c_le_t, c_le_f, c_eq_t, c_eq_f, c_in_t, iI_clamp, Int.toNat_natCast, forall_eq, true_and, and_true, false_and, and_false, not_true_eq_false, not_false_eq_true, true_implies, false_implies, implies_true, forall_const, true_or, or_true, false_or, or_false, pk_us, vu_s, vL_s, vb_0, vb_1, if_true, if_false, ite_true, ite_false]
      exact hP _ _ _ _ _ _ _ _ _ _ _ _ hT
  · rcases h3 with h3 | h3
    · simp (disch := omega) only [VX10_equivalent, VX10_isWord, VX11_equivalent, VX11_isBlock, VX11_isWord, VX11_isIn, iI_lit, lI_lit, iI_nI, iI_add, iI_sub, iI_mul, iI_neg, c_lt_t, c_lt_f, c_le_t, c_le_f, c_eq_t, c_eq_f, c_in_t, iI_clamp, Int.toNat_natCast, forall_eq, true_and, and_true, false_and, and_false, not_true_eq_false, not_false_eq_true, true_implies, false_implies, implies_true, forall_const, true_or, or_true, false_or, or_false, pk_us, vu_s, vL_s, vb_0, vb_1, if_true, if_false, ite_true, ite_false]
      exact hP _ _ _ _ _ _ _ _ _ _ _ _ hT
    · simp (disch := omega) only [VX10_equivalent, VX10_isWord, VX11_equivalent, VX11_isBlock, VX11_isWord, VX11_isIn, iI_lit, lI_lit, iI_nI, iI_add, iI_sub, iI_mul, iI_neg, c_lt_t, c_lt_f, c_le_t, c_le_f, c_eq_t, c_eq_f, c_in_t, iI_clamp, Int.toNat_natCast, forall_eq, true_and, and_true, false_and, and_false, not_true_eq_false, not_false_eq_true, true_implies, false_implies, implies_true, forall_const, true_or, or_true, false_or, or_false, pk_us, vu_s, vL_s, vb_0, vb_1, if_true, if_false, ite_true, ite_false]
      exact hP _ _ _ _ _ _ _ _ _ _ _ _ hT
/-- the class pushes a word up to its first power -/
theorem s10_push {post : Int32 → (Nat → Int32) → (Nat → Int32) → (Nat → Int64) → (Nat → Int64) → (Nat → Int64) → (Nat → Int64) → Int32 → Int32 → Int32 → Prop} {K N e : Nat} {V : Nat → Int} {cv src : Nat → Int32} {f : Nat → Nat} {n : Nat} {L T : Nat → Int32} {S A B wt : Nat → Int64} {sz kd ex : Int32} (hK : K ≤ 3) (hN : 2 ≤ N ∧ N ≤ 4) (he : 2 ≤ e ∧ e ≤ 4) (hV : ∀ x, x < 4 → (-9 ≤ V x ∧ V x ≤ 9) ∧ cv x = iI (V x)) (hn : n ≤ 40) (hf : ∀ j, j < n → f j < N ∧ src j = iI (f j)) (hT : T 0 = iI 0)
    (h0 : (∀ j, 1 ≤ j → j ≤ n → shp K N V e f j = 0) → ∀ L' T' S' A' B' wt', (∀ x, x < 4 → wt' x = lI (wK K V x)) → TI K (wK K V) f n L' T' S' A' B' → post (iI 0) L' T' S' A' B' wt' (iI n) (iI K) (iI e))
    (h1 : ∀ m, m + 1 ≤ n → shp K N V e f (m + 1) ≠ 0 → (∀ j, 1 ≤ j → j ≤ m → shp K N V e f j = 0) → ∀ L' T' S' A' B' wt', TI K (wK K V) f (m + 1) L' T' S' A' B' → post (iI (shp K N V e f (m + 1))) L' T' S' A' B' wt' (iI ((m + 1 : Nat) : Int)) (iI K) (iI e)) :
    VX10_pushUpToPower post 40 (iI K) (iI e) cv src (iI n) L T S A B wt sz kd ex := by
  have hV1 : ∀ x, x < 4 → -9 ≤ V x ∧ V x ≤ 9 := fun x hx => (hV x hx).1
  have key : ∀ (q m : Nat) (L T : Nat → Int32) (S A B wt : Nat → Int64) (sz x2 : Int32), m + q = n → sz = iI m → x2 = iI m → (∀ x, x < 4 → wt x = lI (wK K V x)) → (∀ j, 1 ≤ j → j ≤ m → shp K N V e f j = 0) → TI K (wK K V) f m L T S A B → VX10_pushUpToPower_20 post 40 (iI K) (iI e) cv src (iI n) (q + 1) L T S A B wt sz (iI K) (iI e) x2 := by
    intro q
    induction q with
    | zero =>
      intro m L T S A B wt sz x2 hm e1 e2 hw hz hTI
      have : m = n := by omega
      subst this e1 e2
      rw [VX10_pushUpToPower_20]
      simp (disch := omega) only [iI_lit, lI_lit, iI_nI, iI_add, iI_sub, iI_mul, iI_neg, c_lt_t, c_lt_f, c_le_t, c_le_f, c_eq_t, c_eq_f, c_in_t, iI_clamp, Int.toNat_natCast, forall_eq, true_and, and_true, false_and, and_false, not_true_eq_false, not_false_eq_true, true_implies, false_implies, implies_true, forall_const, true_or, or_true, false_or, or_false, pk_us, vu_s, vL_s, vb_0, vb_1, if_true, if_false, ite_true, ite_false]
      exact h0 hz _ _ _ _ _ _ hw hTI
    | succ q ih =>
      intro m L T S A B wt sz x2 hm e1 e2 hw hz hTI
      subst e1 e2
      obtain ⟨a1, a2⟩ := hf m (by omega)
      rw [VX10_pushUpToPower_20]
      simp (disch := omega) only [a2, iI_lit, lI_lit, iI_nI, iI_add, iI_sub, iI_mul, iI_neg, c_lt_t, c_lt_f, c_le_t, c_le_f, c_eq_t, c_eq_f, c_in_t, iI_clamp, Int.toNat_natCast, forall_eq, true_and, and_true, false_and, and_false, not_true_eq_false, not_false_eq_true, true_implies, false_implies, implies_true, forall_const, true_or, or_true, false_or, or_false, pk_us, vu_s, vL_s, vb_0, vb_1, if_true, if_false, ite_true, ite_false]
      refine s8_push hK (by omega) (by omega) hw hTI (fun L' T' S' A' B' hTI' => ?_)
      refine s8_shortest (f := f) (V := V) hK hN he hV1 (by omega) (fun j hj => (hf j (by omega)).1) hTI' ?_
      have hle := (sfr_le (P := pwr K N V e f (m + 1)) (e := e) (n := m + 1) (by omega) (m + 1 + 1) 1).1
      have hle : shp K N V e f (m + 1) ≤ m + 1 := hle
      by_cases c : shp K N V e f (m + 1) = 0
      · rw [c]
        simp (disch := omega) only [iI_lit, lI_lit, iI_nI, iI_add, iI_sub, iI_mul, iI_neg, c_lt_t, c_lt_f, c_le_t, c_le_f, c_eq_t, c_eq_f, c_in_t, iI_clamp, Int.toNat_natCast, forall_eq, true_and, and_true, false_and, and_false, not_true_eq_false, not_false_eq_true, true_implies, false_implies, implies_true, forall_const, true_or, or_true, false_or, or_false, pk_us, vu_s, vL_s, vb_0, vb_1, if_true, if_false, ite_true, ite_false]
        refine ih (m + 1) _ _ _ _ _ _ _ _ (by omega) rfl (congrArg iI (by omega)) hw (fun j hj1 hj2 => ?_) hTI'
        by_cases d : j = m + 1
        · rw [d]
          exact c
        · exact hz j hj1 (by omega)
      · simp (disch := omega) only [iI_lit, lI_lit, iI_nI, iI_add, iI_sub, iI_mul, iI_neg, c_lt_t, c_lt_f, c_le_t, c_le_f, c_eq_t, c_eq_f, c_in_t, iI_clamp, Int.toNat_natCast, forall_eq, true_and, and_true, false_and, and_false, not_true_eq_false, not_false_eq_true, true_implies, false_implies, implies_true, forall_const, true_or, or_true, false_or, or_false, pk_us, vu_s, vL_s, vb_0, vb_1, if_true, if_false, ite_true, ite_false]
        exact h1 m (by omega) c hz _ _ _ _ _ _ hTI'
  unfold VX10_pushUpToPower
  refine s8_begin (V := V) hK hV (fun wt' hw => ?_)
  exact ⟨n + 1, key n 0 _ _ _ _ _ _ _ _ (by omega) rfl rfl hw (fun j h1 h2 => absurd h1 (by omega)) ⟨hT, fun j hj => absurd hj (Nat.not_lt_zero j)⟩⟩
theorem s11_first_to {post : Int32 → (Nat → Int32) → Int32 → Prop} {K N e : Nat} {V : Nat → Int} {values row words lengths : Nat → Int32} {p1 : Int32} {f : Nat → Nat} {n : Nat} (hK : K ≤ 3) (hN : 2 ≤ N ∧ N ≤ 4) (he : 2 ≤ e ∧ e ≤ 4) (hV : ∀ x, x < 4 → (-9 ≤ V x ∧ V x ≤ 9) ∧ values x = iI (V x)) (hn : n ≤ 40) (hf : ∀ j, j < n → row j = iI (f j) ∧ f j < 4) :
    ∀ (m q : Nat), m ≤ n → (∀ j, 1 ≤ j → j ≤ m → shp K N V e f j = 0) → VX11_firstPower_16 post (iI K) (iI e) (iI N) values words lengths p1 q row (iI n) (iI ((m : Int) + 1)) → VX11_firstPower_16 post (iI K) (iI e) (iI N) values words lengths p1 (q + m) row (iI n) (iI 1) := by
  intro m
  induction m with
  | zero =>
    intro q _ _ h
    exact h
  | succ m ih =>
    intro q hm hz h
    rw [show q + (m + 1) = q + 1 + m by omega]
    refine ih (q + 1) (by omega) (fun j h1 h2 => hz j h1 (by omega)) ?_
    rw [VX11_firstPower_16]
    simp (disch := omega) only [iI_lit, lI_lit, iI_nI, iI_add, iI_sub, iI_mul, iI_neg, c_lt_t, c_lt_f, c_le_t, c_le_f, c_eq_t, c_eq_f, c_in_t, iI_clamp, Int.toNat_natCast, forall_eq, true_and, and_true, false_and, and_false, not_true_eq_false, not_false_eq_true, true_implies, false_implies, implies_true, forall_const, true_or, or_true, false_or, or_false, pk_us, vu_s, vL_s, vb_0, vb_1, if_true, if_false, ite_true, ite_false]
    have ec : ((m : Int) + 1) = ((m + 1 : Nat) : Int) := by omega
    rw [ec]
    refine s11_endsAt (f := f) (V := V) hK hN he hV (by omega) (fun j hj => hf j (by omega)) ?_
    rw [hz (m + 1) (by omega) (by omega)]
    simp (disch := omega) only [iI_lit, lI_lit, iI_nI, iI_add, iI_sub, iI_mul, iI_neg, c_lt_t, c_lt_f, c_le_t, c_le_f, c_eq_t, c_eq_f, c_in_t, iI_clamp, Int.toNat_natCast, forall_eq, true_and, and_true, false_and, and_false, not_true_eq_false, not_false_eq_true, true_implies, false_implies, implies_true, forall_const, true_or, or_true, false_or, or_false, pk_us, vu_s, vL_s, vb_0, vb_1, if_true, if_false, ite_true, ite_false]
    exact h
theorem s11_free_to {post : Int32 → (Nat → Int32) → Int32 → Prop} {K N e : Nat} {V : Nat → Int} {values row words lengths : Nat → Int32} {p1 : Int32} {f : Nat → Nat} {n : Nat} (hK : K ≤ 3) (hN : 2 ≤ N ∧ N ≤ 4) (he : 2 ≤ e ∧ e ≤ 4) (hV : ∀ x, x < 4 → (-9 ≤ V x ∧ V x ≤ 9) ∧ values x = iI (V x)) (hn : n ≤ 40) (hf : ∀ j, j < n → row j = iI (f j) ∧ f j < 4) :
    ∀ (m q : Nat), m ≤ n → (∀ j, 1 ≤ j → j ≤ m → shp K N V e f j = 0) → VX11_freeOf_7 post (iI K) (iI e) (iI N) values words lengths p1 q row (iI n) (iI ((m : Int) + 1)) → VX11_freeOf_7 post (iI K) (iI e) (iI N) values words lengths p1 (q + m) row (iI n) (iI 1) := by
  intro m
  induction m with
  | zero =>
    intro q _ _ h
    exact h
  | succ m ih =>
    intro q hm hz h
    rw [show q + (m + 1) = q + 1 + m by omega]
    refine ih (q + 1) (by omega) (fun j h1 h2 => hz j h1 (by omega)) ?_
    rw [VX11_freeOf_7]
    simp (disch := omega) only [iI_lit, lI_lit, iI_nI, iI_add, iI_sub, iI_mul, iI_neg, c_lt_t, c_lt_f, c_le_t, c_le_f, c_eq_t, c_eq_f, c_in_t, iI_clamp, Int.toNat_natCast, forall_eq, true_and, and_true, false_and, and_false, not_true_eq_false, not_false_eq_true, true_implies, false_implies, implies_true, forall_const, true_or, or_true, false_or, or_false, pk_us, vu_s, vL_s, vb_0, vb_1, if_true, if_false, ite_true, ite_false]
    have ec : ((m : Int) + 1) = ((m + 1 : Nat) : Int) := by omega
    rw [ec]
    refine s11_endsAt (f := f) (V := V) hK hN he hV (by omega) (fun j hj => hf j (by omega)) ?_
    rw [hz (m + 1) (by omega) (by omega)]
    simp (disch := omega) only [iI_lit, lI_lit, iI_nI, iI_add, iI_sub, iI_mul, iI_neg, c_lt_t, c_lt_f, c_le_t, c_le_f, c_eq_t, c_eq_f, c_in_t, iI_clamp, Int.toNat_natCast, forall_eq, true_and, and_true, false_and, and_false, not_true_eq_false, not_false_eq_true, true_implies, false_implies, implies_true, forall_const, true_or, or_true, false_or, or_false, pk_us, vu_s, vL_s, vb_0, vb_1, if_true, if_false, ite_true, ite_false]
    exact h
/-- the reference: the free prefix of a word -/
theorem s11_freeOf {post : Int32 → (Nat → Int32) → Int32 → Prop} {K N e : Nat} {V : Nat → Int} {values row words lengths : Nat → Int32} {rowSize : Int32} {f : Nat → Nat} {i n m : Nat} (hi : i < 3) (hl : lengths i = iI n) (hK : K ≤ 3) (hN : 2 ≤ N ∧ N ≤ 4) (he : 2 ≤ e ∧ e ≤ 4) (hV : ∀ x, x < 4 → (-9 ≤ V x ∧ V x ≤ 9) ∧ values x = iI (V x)) (hn : n ≤ 40) (hf : ∀ j, j < n → words (40 * i + j) = iI (f j) ∧ f j < 4) (hm : m ≤ n) (hz : ∀ j, 1 ≤ j → j ≤ m → shp K N V e f j = 0) (hs : m = n ∨ shp K N V e f (m + 1) ≠ 0)
    (h : ∀ r, (∀ j, j < n → r j = iI (f j)) → post (iI m) r (iI n)) : VX11_freeOf post (iI K) (iI e) (iI N) values words lengths (iI i) row rowSize := by
  unfold VX11_freeOf
  refine s11_take hi hn hl (fun r h1 h2 => ?_)
  have hr : ∀ j, j < n → r j = iI (f j) ∧ f j < 4 := fun j hj => by rw [h1 j hj]; exact hf j hj
  refine ⟨1 + m, s11_free_to (f := f) (V := V) hK hN he hV hn hr m 1 hm hz ?_⟩
  rw [VX11_freeOf_7]
  have e0 : (m : Int) + 1 - 1 = (m : Int) := by omega
  by_cases c : m = n
  · subst c
    simp (disch := omega) only [e0, iI_lit, lI_lit, iI_nI, iI_add, iI_sub, iI_mul, iI_neg, c_lt_t, c_lt_f, c_le_t, c_le_f, c_eq_t, c_eq_f, c_in_t, iI_clamp, Int.toNat_natCast, forall_eq, true_and, and_true, false_and, and_false, not_true_eq_false, not_false_eq_true, true_implies, false_implies, implies_true, forall_const, true_or, or_true, false_or, or_false, pk_us, vu_s, vL_s, vb_0, vb_1, if_true, if_false, ite_true, ite_false]
    exact h r (fun j hj => (hr j hj).1)
  · have hs' := hs.resolve_left c
    simp (disch := omega) only [e0, iI_lit, lI_lit, iI_nI, iI_add, iI_sub, iI_mul, iI_neg, c_lt_t, c_lt_f, c_le_t, c_le_f, c_eq_t, c_eq_f, c_in_t, iI_clamp, Int.toNat_natCast, forall_eq, true_and, and_true, false_and, and_false, not_true_eq_false, not_false_eq_true, true_implies, false_implies, implies_true, forall_const, true_or, or_true, false_or, or_false, pk_us, vu_s, vL_s, vb_0, vb_1, if_true, if_false, ite_true, ite_false]
    have ec : ((m : Int) + 1) = ((m + 1 : Nat) : Int) := by omega
    rw [ec]
    refine s11_endsAt (f := f) (V := V) hK hN he hV (by omega) (fun j hj => hr j (by omega)) ?_
    have hle : shp K N V e f (m + 1) ≤ m + 1 := (sfr_le (P := pwr K N V e f (m + 1)) (e := e) (n := m + 1) (by omega) (m + 1 + 1) 1).1
    simp (disch := omega) only [iI_lit, lI_lit, iI_nI, iI_add, iI_sub, iI_mul, iI_neg, c_lt_t, c_lt_f, c_le_t, c_le_f, c_eq_t, c_eq_f, c_in_t, iI_clamp, Int.toNat_natCast, forall_eq, true_and, and_true, false_and, and_false, not_true_eq_false, not_false_eq_true, true_implies, false_implies, implies_true, forall_const, true_or, or_true, false_or, or_false, pk_us, vu_s, vL_s, vb_0, vb_1, if_true, if_false, ite_true, ite_false]
    exact h r (fun j hj => (hr j hj).1)
theorem L_firstPower {K N e : Nat} (hK : K ≤ 3) (hN : 2 ≤ N ∧ N ≤ 4) (he : 2 ≤ e ∧ e ≤ 4) {cv mv : Nat → Int32} (hv : EV cv mv) {wL : Nat → Nat → Int32} {wS words lengths : Nat → Int32} (h : EW N wL wS words lengths) (p1 : Int32) {L T : Nat → Int32} {S A B wt : Nat → Int64} {sz kd ex : Int32} (hT : T 0 = iI 0) (row : Nat → Int32) (rowSize : Int32)
    {P : Int32 → (Nat → Int32) → (Nat → Int32) → (Nat → Int64) → (Nat → Int64) → (Nat → Int64) → (Nat → Int64) → Int32 → Int32 → Int32 → Int32 → (Nat → Int32) → Int32 → Prop} (hP : ∀ r L T S A B wt sz kd ex a b, T 0 = iI 0 → P r L T S A B wt sz kd ex r a b) :
    VX10_firstPower (fun r L T S A B wt sz kd ex => VX11_firstPower (fun r2 a b => P r L T S A B wt sz kd ex r2 a b) (iI K) (iI e) (iI N) mv words lengths p1 row rowSize) (iI K) (iI e) cv wL wS p1 L T S A B wt sz kd ex := by
  obtain ⟨wl, w, hW⟩ := h
  obtain ⟨V, hV⟩ := hv
  rcases ix_cases p1 3 (by omega) with ⟨i, hi, rfl⟩ | ⟨z, rfl, h1, h2, h3⟩
  · obtain ⟨hl, e1, e2, e3⟩ := hW i hi
    have hVm : ∀ x, x < 4 → (-9 ≤ V x ∧ V x ≤ 9) ∧ mv x = iI (V x) := fun x hx => ⟨(hV x hx).1, (hV x hx).2.2⟩
    simp (disch := omega) only [VX10_firstPower, VX10_isWord, e1, iI_lit, lI_lit, iI_nI, iI_add, iI_sub, iI_mul, iI_neg, c_lt_t, c_lt_f, c_le_t, c_le_f, c_eq_t, c_eq_f, c_in_t, iI_clamp, Int.toNat_natCast, forall_eq, true_and, and_true, false_and, and_false, not_true_eq_false, not_false_eq_true, true_implies, false_implies, implies_true, forall_const, true_or, or_true, false_or, or_false, pk_us, vu_s, vL_s, vb_0, vb_1, if_true, if_false, ite_true, ite_false]
    refine s10_push (f := w i) (V := V) hK hN he (fun x hx => ⟨(hV x hx).1, (hV x hx).2.1⟩) hl (fun j hj => ⟨(e3 j hj).1, (e3 j hj).2.1⟩) hT (fun hz L' T' S' A' B' wt' _ hTI => ?_) (fun m hm hs hz L' T' S' A' B' wt' hTI => ?_)
    · simp (disch := omega) only [VX11_firstPower, VX11_isWord, VX11_isIn, iI_lit, lI_lit, iI_nI, iI_add, iI_sub, iI_mul, iI_neg, c_lt_t, c_lt_f, c_le_t, c_le_f, c_eq_t, c_eq_f, c_in_t, iI_clamp, Int.toNat_natCast, forall_eq, true_and, and_true, false_and, and_false, not_true_eq_false, not_false_eq_true, true_implies, false_implies, implies_true, forall_const, true_or, or_true, false_or, or_false, pk_us, vu_s, vL_s, vb_0, vb_1, if_true, if_false, ite_true, ite_false]
      refine s11_take hi hl e2 (fun r h1 h2 => ?_)
      refine ⟨1 + wl i, s11_first_to (f := w i) (V := V) hK hN he hVm hl (fun j hj => ?_) (wl i) 1 (Nat.le_refl _) hz ?_⟩
      · rw [h1 j hj]
        have := e3 j hj
        exact ⟨this.2.2, by omega⟩
      · rw [VX11_firstPower_16]
        simp (disch := omega) only [iI_lit, lI_lit, iI_nI, iI_add, iI_sub, iI_mul, iI_neg, c_lt_t, c_lt_f, c_le_t, c_le_f, c_eq_t, c_eq_f, c_in_t, iI_clamp, Int.toNat_natCast, forall_eq, true_and, and_true, false_and, and_false, not_true_eq_false, not_false_eq_true, true_implies, false_implies, implies_true, forall_const, true_or, or_true, false_or, or_false, pk_us, vu_s, vL_s, vb_0, vb_1, if_true, if_false, ite_true, ite_false]
        exact hP _ _ _ _ _ _ _ _ _ _ _ _ hTI.1
    · have hle : shp K N V e (w i) (m + 1) ≤ m + 1 := (sfr_le (P := pwr K N V e (w i) (m + 1)) (e := e) (n := m + 1) (by omega) (m + 1 + 1) 1).1
      simp (disch := omega) only [VX11_firstPower, VX11_isWord, VX11_isIn, iI_lit, lI_lit, iI_nI, iI_add, iI_sub, iI_mul, iI_neg, c_lt_t, c_lt_f, c_le_t, c_le_f, c_eq_t, c_eq_f, c_in_t, iI_clamp, Int.toNat_natCast, forall_eq, true_and, and_true, false_and, and_false, not_true_eq_false, not_false_eq_true, true_implies, false_implies, implies_true, forall_const, true_or, or_true, false_or, or_false, pk_us, vu_s, vL_s, vb_0, vb_1, if_true, if_false, ite_true, ite_false]
      refine s11_take hi hl e2 (fun r h1 h2 => ?_)
      have hr : ∀ j, j < wl i → r j = iI (w i j) ∧ w i j < 4 := by
        intro j hj
        rw [h1 j hj]
        have := e3 j hj
        exact ⟨this.2.2, by omega⟩
      refine ⟨1 + m, s11_first_to (f := w i) (V := V) hK hN he hVm hl hr m 1 (by omega) hz ?_⟩
      rw [VX11_firstPower_16]
      have ec : ((m : Int) + 1) = ((m + 1 : Nat) : Int) := by omega
      simp (disch := omega) only [ec, iI_lit, lI_lit, iI_nI, iI_add, iI_sub, iI_mul, iI_neg, c_lt_t, c_lt_f, c_le_t, c_le_f, c_eq_t, c_eq_f, c_in_t, iI_clamp, Int.toNat_natCast, forall_eq, true_and, and_true, false_and, and_false, not_true_eq_false, not_false_eq_true, true_implies, false_implies, implies_true, forall_const, true_or, or_true, false_or, or_false, pk_us, vu_s, vL_s, vb_0, vb_1, if_true, if_false, ite_true, ite_false]
      refine s11_endsAt (f := w i) (V := V) hK hN he hVm (by omega) (fun j hj => hr j (by omega)) ?_
      simp (disch := omega) only [VX11_firstPower_34, iI_lit, lI_lit, iI_nI, iI_add, iI_sub, iI_mul, iI_neg, c_lt_t, c_lt_f, c_le_t, c_le_f, c_eq_t, c_eq_f, c_in_t, iI_clamp, Int.toNat_natCast, forall_eq, true_and, and_true, false_and, and_false, not_true_eq_false, not_false_eq_true, true_implies, false_implies, implies_true, forall_const, true_or, or_true, false_or, or_false, pk_us, vu_s, vL_s, vb_0, vb_1, if_true, if_false, ite_true, ite_false]
      exact hP _ _ _ _ _ _ _ _ _ _ _ _ hTI.1
  · rcases h3 with h3 | h3
    · simp (disch := omega) only [VX10_firstPower, VX10_isWord, VX11_firstPower, VX11_isWord, VX11_isIn, iI_lit, lI_lit, iI_nI, iI_add, iI_sub, iI_mul, iI_neg, c_lt_t, c_lt_f, c_le_t, c_le_f, c_eq_t, c_eq_f, c_in_t, iI_clamp, Int.toNat_natCast, forall_eq, true_and, and_true, false_and, and_false, not_true_eq_false, not_false_eq_true, true_implies, false_implies, implies_true, forall_const, true_or, or_true, false_or, or_false, pk_us, vu_s, vL_s, vb_0, vb_1, if_true, if_false, ite_true, ite_false]
      exact hP _ _ _ _ _ _ _ _ _ _ _ _ hT
    · simp (disch := omega) only [VX10_firstPower, VX10_isWord, VX11_firstPower, VX11_isWord, VX11_isIn, iI_lit, lI_lit, iI_nI, iI_add, iI_sub, iI_mul, iI_neg, c_lt_t, c_lt_f, c_le_t, c_le_f, c_eq_t, c_eq_f, c_in_t, iI_clamp, Int.toNat_natCast, forall_eq, true_and, and_true, false_and, and_false, not_true_eq_false, not_false_eq_true, true_implies, false_implies, implies_true, forall_const, true_or, or_true, false_or, or_false, pk_us, vu_s, vL_s, vb_0, vb_1, if_true, if_false, ite_true, ite_false]
      exact hP _ _ _ _ _ _ _ _ _ _ _ _ hT
theorem L_freePrefix {K N e : Nat} (hK : K ≤ 3) (hN : 2 ≤ N ∧ N ≤ 4) (he : 2 ≤ e ∧ e ≤ 4) {cv mv : Nat → Int32} (hv : EV cv mv) {wL : Nat → Nat → Int32} {wS words lengths : Nat → Int32} (h : EW N wL wS words lengths) (p1 : Int32) {L T : Nat → Int32} {S A B wt : Nat → Int64} {sz kd ex : Int32} (hT : T 0 = iI 0) (row : Nat → Int32) (rowSize : Int32)
    {P : Int32 → (Nat → Int32) → (Nat → Int32) → (Nat → Int64) → (Nat → Int64) → (Nat → Int64) → (Nat → Int64) → Int32 → Int32 → Int32 → Int32 → (Nat → Int32) → Int32 → Prop} (hP : ∀ r L T S A B wt sz kd ex a b, T 0 = iI 0 → P r L T S A B wt sz kd ex r a b) :
    VX10_freePrefix (fun r L T S A B wt sz kd ex => VX11_freePrefix (fun r2 a b => P r L T S A B wt sz kd ex r2 a b) (iI K) (iI e) (iI N) mv words lengths p1 row rowSize) (iI K) (iI e) cv wL wS p1 L T S A B wt sz kd ex := by
  obtain ⟨wl, w, hW⟩ := h
  obtain ⟨V, hV⟩ := hv
  rcases ix_cases p1 3 (by omega) with ⟨i, hi, rfl⟩ | ⟨z, rfl, h1, h2, h3⟩
  · obtain ⟨hl, e1, e2, e3⟩ := hW i hi
    have hVm : ∀ x, x < 4 → (-9 ≤ V x ∧ V x ≤ 9) ∧ mv x = iI (V x) := fun x hx => ⟨(hV x hx).1, (hV x hx).2.2⟩
    simp (disch := omega) only [VX10_freePrefix, VX10_isWord, e1, iI_lit, lI_lit, iI_nI, iI_add, iI_sub, iI_mul, iI_neg, c_lt_t, c_lt_f, c_le_t, c_le_f, c_eq_t, c_eq_f, c_in_t, iI_clamp, Int.toNat_natCast, forall_eq, true_and, and_true, false_and, and_false, not_true_eq_false, not_false_eq_true, true_implies, false_implies, implies_true, forall_const, true_or, or_true, false_or, or_false, pk_us, vu_s, vL_s, vb_0, vb_1, if_true, if_false, ite_true, ite_false]
    refine s10_push (f := w i) (V := V) hK hN he (fun x hx => ⟨(hV x hx).1, (hV x hx).2.1⟩) hl (fun j hj => ⟨(e3 j hj).1, (e3 j hj).2.1⟩) hT (fun hz L' T' S' A' B' wt' _ hTI => ?_) (fun m hm hs hz L' T' S' A' B' wt' hTI => ?_)
    · simp (disch := omega) only [VX11_freePrefix, VX11_isWord, VX11_isIn, iI_lit, lI_lit, iI_nI, iI_add, iI_sub, iI_mul, iI_neg, c_lt_t, c_lt_f, c_le_t, c_le_f, c_eq_t, c_eq_f, c_in_t, iI_clamp, Int.toNat_natCast, forall_eq, true_and, and_true, false_and, and_false, not_true_eq_false, not_false_eq_true, true_implies, false_implies, implies_true, forall_const, true_or, or_true, false_or, or_false, pk_us, vu_s, vL_s, vb_0, vb_1, if_true, if_false, ite_true, ite_false]
      refine s11_freeOf (f := w i) (V := V) hi e2 hK hN he hVm hl (fun j hj => ⟨(e3 j hj).2.2, by have := (e3 j hj).1; omega⟩) (Nat.le_refl _) hz (Or.inl rfl) (fun r _ => ?_)
      exact hP _ _ _ _ _ _ _ _ _ _ _ _ hTI.1
    · have hle : shp K N V e (w i) (m + 1) ≤ m + 1 := (sfr_le (P := pwr K N V e (w i) (m + 1)) (e := e) (n := m + 1) (by omega) (m + 1 + 1) 1).1
      have e0 : ((m + 1 : Nat) : Int) - 1 = (m : Int) := by omega
      simp (disch := omega) only [VX11_freePrefix, VX11_isWord, VX11_isIn, e0, iI_lit, lI_lit, iI_nI, iI_add, iI_sub, iI_mul, iI_neg, c_lt_t, c_lt_f, c_le_t, c_le_f, c_eq_t, c_eq_f, c_in_t, iI_clamp, Int.toNat_natCast, forall_eq, true_and, and_true, false_and, and_false, not_true_eq_false, not_false_eq_true, true_implies, false_implies, implies_true, forall_const, true_or, or_true, false_or, or_false, pk_us, vu_s, vL_s, vb_0, vb_1, if_true, if_false, ite_true, ite_false]
      refine s11_freeOf (f := w i) (V := V) hi e2 hK hN he hVm hl (fun j hj => ⟨(e3 j hj).2.2, by have := (e3 j hj).1; omega⟩) (by omega) hz (Or.inr hs) (fun r _ => ?_)
      exact hP _ _ _ _ _ _ _ _ _ _ _ _ hTI.1
  · rcases h3 with h3 | h3
    · simp (disch := omega) only [VX10_freePrefix, VX10_isWord, VX11_freePrefix, VX11_isWord, VX11_isIn, iI_lit, lI_lit, iI_nI, iI_add, iI_sub, iI_mul, iI_neg, c_lt_t, c_lt_f, c_le_t, c_le_f, c_eq_t, c_eq_f, c_in_t, iI_clamp, Int.toNat_natCast, forall_eq, true_and, and_true, false_and, and_false, not_true_eq_false, not_false_eq_true, true_implies, false_implies, implies_true, forall_const, true_or, or_true, false_or, or_false, pk_us, vu_s, vL_s, vb_0, vb_1, if_true, if_false, ite_true, ite_false]
      exact hP _ _ _ _ _ _ _ _ _ _ _ _ hT
    · simp (disch := omega) only [VX10_freePrefix, VX10_isWord, VX11_freePrefix, VX11_isWord, VX11_isIn, iI_lit, lI_lit, iI_nI, iI_add, iI_sub, iI_mul, iI_neg, c_lt_t, c_lt_f, c_le_t, c_le_f, c_eq_t, c_eq_f, c_in_t, iI_clamp, Int.toNat_natCast, forall_eq, true_and, and_true, false_and, and_false, not_true_eq_false, not_false_eq_true, true_implies, false_implies, implies_true, forall_const, true_or, or_true, false_or, or_false, pk_us, vu_s, vL_s, vb_0, vb_1, if_true, if_false, ite_true, ite_false]
      exact hP _ _ _ _ _ _ _ _ _ _ _ _ hT
