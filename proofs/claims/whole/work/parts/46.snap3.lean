def RSn (sv : Int32) (k e l : Int32) (cv : Nat → Int32) (wL : Nat → Nat → Int32) (wS : Nat → Int32) (iL : Nat → Nat → Int32) (iS : Nat → Int32) (isv mk me ml : Int32) (mv words lengths images sizes : Nat → Int32) : Prop :=
  (sv = iI 0 ∧ isv = iI 0) ∨ (sv = iI 1 ∧ isv = iI 1 ∧ RS k e l cv wL wS iL iS mk me ml mv words lengths images sizes)
theorem L_save {k e l : Int32} {cv : Nat → Int32} {wL : Nat → Nat → Int32} {wS : Nat → Int32} {iL : Nat → Nat → Int32} {iS : Nat → Int32} {mk me ml : Int32} {mv words lengths images sizes : Nat → Int32} (h : RS k e l cv wL wS iL iS mk me ml mv words lengths images sizes)
    (k0 e0 l0 : Int32) (cv0 : Nat → Int32) (wL0 : Nat → Nat → Int32) (wS0 : Nat → Int32) (iL0 : Nat → Nat → Int32) (iS0 : Nat → Int32) (s0 i0 mk0 me0 ml0 : Int32) (mv0 words0 lengths0 images0 sizes0 : Nat → Int32)
    {P : Int32 → Int32 → Int32 → Int32 → (Nat → Int32) → (Nat → Nat → Int32) → (Nat → Int32) → (Nat → Nat → Int32) → (Nat → Int32) → Int32 → Int32 → Int32 → Int32 → Int32 → Int32 → (Nat → Int32) → (Nat → Int32) → (Nat → Int32) → (Nat → Int32) → (Nat → Int32) → Prop}
    (hP : ∀ r a1 a2 a3 a4 a5 a6 a7 a8 sv isv b1 b2 b3 b4 b5 b6 b7 b8, RSn sv a1 a2 a3 a4 a5 a6 a7 a8 isv b1 b2 b3 b4 b5 b6 b7 b8 → P r a1 a2 a3 a4 a5 a6 a7 a8 sv r isv b1 b2 b3 b4 b5 b6 b7 b8) :
    VX10_saveSnapshot (fun r a1 a2 a3 a4 a5 a6 a7 a8 sv => VX11_saveSnapshot (fun r2 isv b1 b2 b3 b4 b5 b6 b7 b8 => P r a1 a2 a3 a4 a5 a6 a7 a8 sv r2 isv b1 b2 b3 b4 b5 b6 b7 b8) mk me ml mv words lengths images sizes i0 mk0 me0 ml0 mv0 words0 lengths0 images0 sizes0) k e l cv wL wS iL iS k0 e0 l0 cv0 wL0 wS0 iL0 iS0 s0 := by
  obtain ⟨K, E, N, hK, hE, hN, rfl, rfl, rfl, rfl, rfl, rfl, ⟨V, hV⟩, ⟨wl, w, hW⟩, ⟨il, im, hI⟩⟩ := h
  refine s5_copyFrom (wl := wl) (il := il) (fun i hi => ⟨(hW i hi).1, (hW i hi).2.1⟩) (fun x hx => ⟨(hI x hx).1, (hI x hx).2.1⟩) (fun v' wL' wS' iL' iS' h1 h2 h3 => ?_)
  refine s5_letters (wl := wl) (fun i hi => ⟨(hW i hi).1, (hW i hi).2.1⟩) ?_
  refine s11_save (wl := wl) (fun i hi => ⟨(hW i hi).1, (hW i hi).2.2.1⟩) (fun v2 w2 ln2 im2 sz2 g1 g2 g3 g4 g5 => ?_)
  refine hP _ _ _ _ _ _ _ _ _ _ _ _ _ _ _ _ _ _ _ (Or.inr ⟨rfl, rfl, K, E, N, hK, hE, hN, rfl, rfl, rfl, rfl, rfl, rfl, ?_⟩)
  exact RS_copy (k := 0) (e := 0) (l := 0) (mk := 0) (me := 0) (ml := 0) hV hW hI h1 h2 h3 g1 g2 g3 g4 g5
theorem L_restore {k e l : Int32} {cv : Nat → Int32} {wL : Nat → Nat → Int32} {wS : Nat → Int32} {iL : Nat → Nat → Int32} {iS : Nat → Int32} {sv isv mk me ml : Int32} {mv words lengths images sizes : Nat → Int32} (h : RSn sv k e l cv wL wS iL iS isv mk me ml mv words lengths images sizes)
    {k0 e0 l0 : Int32} {cv0 : Nat → Int32} {wL0 : Nat → Nat → Int32} {wS0 : Nat → Int32} {iL0 : Nat → Nat → Int32} {iS0 : Nat → Int32} {mk0 me0 ml0 : Int32} {mv0 words0 lengths0 images0 sizes0 : Nat → Int32} (h0 : RS k0 e0 l0 cv0 wL0 wS0 iL0 iS0 mk0 me0 ml0 mv0 words0 lengths0 images0 sizes0)
    {P : Int32 → Int32 → Int32 → Int32 → (Nat → Int32) → (Nat → Nat → Int32) → (Nat → Int32) → (Nat → Nat → Int32) → (Nat → Int32) → Int32 → Int32 → Int32 → Int32 → (Nat → Int32) → (Nat → Int32) → (Nat → Int32) → (Nat → Int32) → (Nat → Int32) → Prop}
    (hP : ∀ r a1 a2 a3 a4 a5 a6 a7 a8 b1 b2 b3 b4 b5 b6 b7 b8, RS a1 a2 a3 a4 a5 a6 a7 a8 b1 b2 b3 b4 b5 b6 b7 b8 → P r a1 a2 a3 a4 a5 a6 a7 a8 r b1 b2 b3 b4 b5 b6 b7 b8) :
    VX10_restoreSnapshot (fun r a1 a2 a3 a4 a5 a6 a7 a8 => VX11_restoreSnapshot (fun r2 b1 b2 b3 b4 b5 b6 b7 b8 => P r a1 a2 a3 a4 a5 a6 a7 a8 r2 b1 b2 b3 b4 b5 b6 b7 b8) isv mk me ml mv words lengths images sizes mk0 me0 ml0 mv0 words0 lengths0 images0 sizes0) k e l cv wL wS iL iS sv k0 e0 l0 cv0 wL0 wS0 iL0 iS0 := by
  rcases h with ⟨rfl, rfl⟩ | ⟨rfl, rfl, h⟩
  · refine ⟨fun c => absurd rfl c, fun _ => ⟨fun c => absurd rfl c, fun _ => ?_⟩⟩
    exact hP _ _ _ _ _ _ _ _ _ _ _ _ _ _ _ _ _ h0
  · obtain ⟨K, E, N, hK, hE, hN, rfl, rfl, rfl, rfl, rfl, rfl, ⟨V, hV⟩, ⟨wl, w, hW⟩, ⟨il, im, hI⟩⟩ := h
    refine ⟨fun _ => ?_, fun c => absurd c (by decide)⟩
    refine s5_copyFrom (wl := wl) (il := il) (fun i hi => ⟨(hW i hi).1, (hW i hi).2.1⟩) (fun x hx => ⟨(hI x hx).1, (hI x hx).2.1⟩) (fun v' wL' wS' iL' iS' h1 h2 h3 => ?_)
    refine s5_letters (wl := wl) (fun i hi => ⟨(hW i hi).1, (h2 i hi).1⟩) ?_
    refine s11_restore (wl := wl) (fun i hi => ⟨(hW i hi).1, (hW i hi).2.2.1⟩) (fun v2 w2 ln2 im2 sz2 g1 g2 g3 g4 g5 => ?_)
    refine hP _ _ _ _ _ _ _ _ _ _ _ _ _ _ _ _ _ ⟨K, E, N, hK, hE, hN, rfl, rfl, rfl, rfl, rfl, rfl, ?_⟩
    exact RS_copy (k := 0) (e := 0) (l := 0) (mk := 0) (me := 0) (ml := 0) hV hW hI h1 h2 h3 g1 g2 g3 g4 g5
/-! PREFIX SUMS -/
def vs (V : Nat → Int) (f : Nat → Nat) (a : Nat) : Nat → Int
  | 0 => 0
  | n + 1 => vs V f a n + V (f (a + n))
theorem vs_le {V : Nat → Int} {f : Nat → Nat} {a : Nat} (hV : ∀ x, x < 4 → -9 ≤ V x ∧ V x ≤ 9) : ∀ n, (∀ j, j < n → f (a + j) < 4) → -(9 * (n : Int)) ≤ vs V f a n ∧ vs V f a n ≤ 9 * n
  | 0, _ => by simp [vs]
  | n + 1, h => by
    have h1 := vs_le hV n (fun j hj => h j (by omega))
    have h2 := hV _ (h n (by omega))
    simp only [vs]
    omega
theorem s11_sum {post : Int32 → Prop} {values row : Nat → Int32} {V : Nat → Int} {f : Nat → Nat} {a n : Nat} (ha : a + n ≤ 45) (hV : ∀ x, x < 4 → (-9 ≤ V x ∧ V x ≤ 9) ∧ values x = iI (V x)) (hr : ∀ j, a ≤ j → j < a + n → row j = iI (f j) ∧ f j < 4) (h : post (iI (vs V f a n))) : VX11_sum post values row (iI a) (iI n) := by
  have key : ∀ (k m : Nat) (x3 x4 : Int32), m + k = n → x3 = iI (vs V f a m) → x4 = iI ((a : Int) + m) → VX11_sum_5 post values row (iI a) (iI n) (k + 1) x3 x4 := by
    intro k
    induction k with
    | zero =>
      intro m x3 x4 hm e3 e4
      have : m = n := by omega
      subst this
      subst e3 e4
      simp (disch := omega) only [VX11_sum_5, iI_lit, lI_lit, iI_nI, iI_add, iI_sub, iI_mul, iI_neg, c_lt_t, c_lt_f, c_le_t, c_le_f, c_eq_t, c_eq_f, c_in_t, iI_clamp, Int.toNat_natCast, forall_eq, true_and, and_true, false_and, and_false, not_true_eq_false, not_false_eq_true, true_implies, false_implies, implies_true, forall_const, true_or, or_true, false_or, or_false, pk_us, vu_s, vL_s, vb_0, vb_1, if_true, if_false, ite_true, ite_false]
      exact h
    | succ k ih =>
      intro m x3 x4 hm e3 e4
      subst e3 e4
      obtain ⟨e, he⟩ := hr (a + m) (by omega) (by omega)
      obtain ⟨hb, ev⟩ := hV _ he
      have ei : ((a : Int) + (m : Int)).toNat = a + m := by omega
      rw [VX11_sum_5]
      simp (disch := omega) only [ei, e, ev, iI_lit, lI_lit, iI_nI, iI_add, iI_sub, iI_mul, iI_neg, c_lt_t, c_lt_f, c_le_t, c_le_f, c_eq_t, c_eq_f, c_in_t, iI_clamp, Int.toNat_natCast, forall_eq, true_and, and_true, false_and, and_false, not_true_eq_false, not_false_eq_true, true_implies, false_implies, implies_true, forall_const, true_or, or_true, false_or, or_false, pk_us, vu_s, vL_s, vb_0, vb_1, if_true, if_false, ite_true, ite_false]
      exact ih (m + 1) _ _ (by omega) rfl (congrArg iI (by omega))
  exact ⟨n + 1, key n 0 _ _ (by omega) rfl (congrArg iI (by omega))⟩
theorem L_prefixSums {N : Nat} (hN : 2 ≤ N ∧ N ≤ 4) {cv mv : Nat → Int32} (hv : EV cv mv) {wL : Nat → Nat → Int32} {wS words lengths : Nat → Int32} (hw : EW N wL wS words lengths) {el : Nat → Nat → Int64} {pr sz sizes : Nat → Int32} {items : Nat → Int64} (h : RRow el pr sz sizes items) (p q : Int32) (row : Nat → Int32) (rowSize : Int32) {P : Int32 → (Nat → Nat → Int64) → Int32 → (Nat → Int32) → Int32 → (Nat → Int64) → Prop} (hP : ∀ r a b c e, RRow a pr sz sizes e → P r a r b c e) :
    VX10_prefixSums (fun r a => VX11_prefixSums (fun r2 b c e => P r a r2 b c e) mv words lengths sizes p q row rowSize items) cv wL wS pr sz p q el := by
  have h0 := h
  obtain ⟨V, hV⟩ := hv
  obtain ⟨wl, w, hW⟩ := hw
  rcases ix_cases p 3 (by omega) with ⟨i, hi, rfl⟩ | ⟨z, rfl, h1, h2, h3⟩
  · rcases ix_cases q 3 (by omega) with ⟨u, hu, rfl⟩ | ⟨z, rfl, h1, h2, h3⟩
    · obtain ⟨hl, w1, w2, w3⟩ := hW u hu
      rcases h i hi with ⟨e1, e2⟩ | ⟨n, hn, e1, e2, e3, e4⟩
      · simp (disch := omega) only [VX10_prefixSums, VX11_prefixSums, VX10_isArray, VX10_isWord, VX11_isWord, VX11_isIn, e1, e2, iI_lit, lI_lit, iI_nI, iI_add, iI_sub, iI_mul, iI_neg, c_lt_t, c_lt_f, c_le_t, c_le_f, c_eq_t, c_eq_f, c_in_t, iI_clamp, Int.toNat_natCast, forall_eq, true_and, and_true, false_and, and_false, not_true_eq_false, not_false_eq_true, true_implies, false_implies, implies_true, forall_const, true_or, or_true, false_or, or_false, pk_us, vu_s, vL_s, vb_0, vb_1, if_true, if_false, ite_true, ite_false]
        exact hP _ _ _ _ _ h0
      · by_cases c : n ≤ wl u
        · simp (disch := omega) only [VX10_prefixSums, VX11_prefixSums, VX10_isArray, VX10_isWord, VX3_has, VX11_isWord, VX11_isIn, e1, e2, e3, w1, w2, iI_lit, lI_lit, iI_nI, iI_add, iI_sub, iI_mul, iI_neg, c_lt_t, c_lt_f, c_le_t, c_le_f, c_eq_t, c_eq_f, c_in_t, iI_clamp, Int.toNat_natCast, forall_eq, true_and, and_true, false_and, and_false, not_true_eq_false, not_false_eq_true, true_implies, false_implies, implies_true, forall_const, true_or, or_true, false_or, or_false, pk_us, vu_s, vL_s, vb_0, vb_1, if_true, if_false, ite_true, ite_false]
          exact hP _ _ _ _ _ h0
        · have hV4 : ∀ x, x < 4 → -9 ≤ V x ∧ V x ≤ 9 := fun x hx => (hV x hx).1
          have hlt : ∀ j, j < wl u → w u j < 4 := fun j hj => by have := (w3 j hj).1; omega
          simp (disch := omega) only [VX10_prefixSums, VX10_isArray, VX10_isWord, VX3_has, e1, e2, w1, iI_lit, lI_lit, iI_nI, iI_add, iI_sub, iI_mul, iI_neg, c_lt_t, c_lt_f, c_le_t, c_le_f, c_eq_t, c_eq_f, c_in_t, iI_clamp, Int.toNat_natCast, forall_eq, true_and, and_true, false_and, and_false, not_true_eq_false, not_false_eq_true, true_implies, false_implies, implies_true, forall_const, true_or, or_true, false_or, or_false, pk_us, vu_s, vL_s, vb_0, vb_1, if_true, if_false, ite_true, ite_false]
          -- the class
          have key1 : ∀ (k m : Nat) (e' : Nat → Nat → Int64) (x : Int32), m + k = wl u → x = iI m → (∀ j, j ≤ m → e' i j = lI (vs V (w u) 0 j)) → (∀ j, m < j → e' i j = el i j) → (∀ y, y ≠ i → e' y = el y) →
              (∀ e'', (∀ j, j ≤ wl u → e'' i j = lI (vs V (w u) 0 j)) → (∀ j, wl u < j → e'' i j = el i j) → (∀ y, y ≠ i → e'' y = el y) → VX11_prefixSums (fun r2 b c e => P (iI ((wl u : Int) + 1)) e'' r2 b c e) mv words lengths sizes (iI i) (iI u) row rowSize items) →
              VX10_prefixSums_69 (fun r a => VX11_prefixSums (fun r2 b c e => P r a r2 b c e) mv words lengths sizes (iI i) (iI u) row rowSize items) cv wL wS pr sz (iI i) (iI u) (k + 1) e' x := by
            intro k
            induction k with
            | zero =>
              intro m e' x hm ex g1 g2 g3 g4
              have : m = wl u := by omega
              subst this
              subst ex
              rw [VX10_prefixSums_69]
              simp (disch := omega) only [w1, iI_lit, lI_lit, iI_nI, iI_add, iI_sub, iI_mul, iI_neg, c_lt_t, c_lt_f, c_le_t, c_le_f, c_eq_t, c_eq_f, c_in_t, iI_clamp, Int.toNat_natCast, forall_eq, true_and, and_true, false_and, and_false, not_true_eq_false, not_false_eq_true, true_implies, false_implies, implies_true, forall_const, true_or, or_true, false_or, or_false, pk_us, vu_s, vL_s, vb_0, vb_1, if_true, if_false, ite_true, ite_false]
              exact g4 e' g1 g2 g3
            | succ k ih =>
              intro m e' x hm ex g1 g2 g3 g4
              subst ex
              obtain ⟨a1, a2, a3⟩ := w3 m (by omega)
              obtain ⟨b1, b2, b3⟩ := hV (w u m) (by omega)
              have hb := vs_le (V := V) (f := w u) (a := 0) hV4 m (fun j hj => by rw [Nat.zero_add]; exact hlt j (by omega))
              have ei : ((m : Int) + 1).toNat = m + 1 := by omega
              rw [VX10_prefixSums_69]
              simp (disch := omega) only [w1, a2, b2, ei, g1 m (Nat.le_refl m), iI_long, lI_add, iI_lit, lI_lit, iI_nI, iI_add, iI_sub, iI_mul, iI_neg, c_lt_t, c_lt_f, c_le_t, c_le_f, c_eq_t, c_eq_f, c_in_t, iI_clamp, Int.toNat_natCast, forall_eq, true_and, and_true, false_and, and_false, not_true_eq_false, not_false_eq_true, true_implies, false_implies, implies_true, forall_const, true_or, or_true, false_or, or_false, pk_us, vu_s, vL_s, vb_0, vb_1, if_true, if_false, ite_true, ite_false]
              refine ih (m + 1) _ _ (by omega) (congrArg iI (by omega)) (fun j hj => ?_) (fun j hj => ?_) (fun y hy => ?_) g4
              · rw [vu_s]
                by_cases f : j = m + 1
                · subst f
                  rw [vL_s]
                  simp only [vs, Nat.zero_add]
                · rw [pk_uLn f]
                  exact g1 j (by omega)
              · rw [vu_s, pk_uLn (by omega)]
                exact g2 j (by omega)
              · rw [vu_n hy]
                exact g3 y hy
          refine ⟨wl u + 1, key1 (wl u) 0 _ _ (by omega) rfl (fun j hj => ?_) (fun j hj => ?_) (fun y hy => vu_n hy) (fun e' g1 g2 g3 => ?_)⟩
          · have : j = 0 := by omega
            subst this
            rw [vu_s]
            exact vL_s _ _ _
          · rw [vu_s]
            exact pk_uLn (show j ≠ 0 by omega)
          · simp (disch := omega) only [VX11_prefixSums, VX11_isWord, VX11_isIn, e3, w2, iI_lit, lI_lit, iI_nI, iI_add, iI_sub, iI_mul, iI_neg, c_lt_t, c_lt_f, c_le_t, c_le_f, c_eq_t, c_eq_f, c_in_t, iI_clamp, Int.toNat_natCast, forall_eq, true_and, and_true, false_and, and_false, not_true_eq_false, not_false_eq_true, true_implies, false_implies, implies_true, forall_const, true_or, or_true, false_or, or_false, pk_us, vu_s, vL_s, vb_0, vb_1, if_true, if_false, ite_true, ite_false]
            refine s11_take hu hl w2 (fun r q1 q2 => ?_)
            have key2 : ∀ (k m : Nat) (it : Nat → Int64) (x : Int32), m + k = wl u + 1 → x = iI m → (∀ j, j < m → it (41 * i + j) = lI (vs V (w u) 0 j)) → (∀ j, (j < 41 * i ∨ 41 * i + m ≤ j) → it j = items j) →
                VX11_prefixSums_55 (fun r2 b c e => P (iI ((wl u : Int) + 1)) e' r2 b c e) mv words lengths sizes (iI i) (iI u) (k + 1) r (iI (wl u)) it x := by
              intro k
              induction k with
              | zero =>
                intro m it x hm ex s1 s2
                have : m = wl u + 1 := by omega
                subst this
                subst ex
                rw [VX11_prefixSums_55]
                simp (disch := omega) only [iI_lit, lI_lit, iI_nI, iI_add, iI_sub, iI_mul, iI_neg, c_lt_t, c_lt_f, c_le_t, c_le_f, c_eq_t, c_eq_f, c_in_t, iI_clamp, Int.toNat_natCast, forall_eq, true_and, and_true, false_and, and_false, not_true_eq_false, not_false_eq_true, true_implies, false_implies, implies_true, forall_const, true_or, or_true, false_or, or_false, pk_us, vu_s, vL_s, vb_0, vb_1, if_true, if_false, ite_true, ite_false]
                refine hP _ _ _ _ _ (fun y hy => ?_)
                by_cases f : y = i
                · subst f
                  refine Or.inr ⟨n, hn, e1, e2, e3, fun j hj => ?_⟩
                  by_cases g : j ≤ wl u
                  · rw [s1 j (by omega), g1 j g]
                  · rw [s2 _ (by omega), g2 j (by omega)]
                    exact e4 j hj
                · rcases h y hy with t | ⟨n2, t1, t2, t3, t4, t5⟩
                  · exact Or.inl t
                  · refine Or.inr ⟨n2, t1, t2, t3, t4, fun j hj => ?_⟩
                    rw [g3 y f, s2 _ (by omega)]
                    exact t5 j hj
              | succ k ih =>
                intro m it x hm ex s1 s2
                subst ex
                have hb := vs_le (V := V) (f := w u) (a := 0) hV4 m (fun j hj => by rw [Nat.zero_add]; exact hlt j (by omega))
                have ei : (41 * (i : Int) + (m : Int)).toNat = 41 * i + m := by omega
                rw [VX11_prefixSums_55]
                refine ⟨fun c => absurd c ?_, fun _ => ?_⟩
                · rw [iI_lt (by omega) (by omega) (by omega) (by omega)]
                  omega
                · refine s11_sum (a := 0) (V := V) (f := w u) (by omega) (fun x hx => ⟨(hV x hx).1, (hV x hx).2.2⟩) (fun j _ hj => ?_) ?_
                  · rw [q1 j (by omega)]
                    exact ⟨(w3 j (by omega)).2.2, hlt j (by omega)⟩
                  · simp (disch := omega) only [ei, iI_long, iI_lit, lI_lit, iI_nI, iI_add, iI_sub, iI_mul, iI_neg, c_lt_t, c_lt_f, c_le_t, c_le_f, c_eq_t, c_eq_f, c_in_t, iI_clamp, Int.toNat_natCast, forall_eq, true_and, and_true, false_and, and_false, not_true_eq_false, not_false_eq_true, true_implies, false_implies, implies_true, forall_const, true_or, or_true, false_or, or_false, pk_us, vu_s, vL_s, vb_0, vb_1, if_true, if_false, ite_true, ite_false]
                    refine ih (m + 1) _ _ (by omega) (congrArg iI (by omega)) (fun j hj => ?_) (fun j hj => ?_)
                    · by_cases f : j = m
                      · subst f
                        rw [vL_s]
                      · rw [pk_uLn (by omega)]
                        exact s1 j (by omega)
                    · rw [pk_uLn (by omega)]
                      exact s2 j (by omega)
            exact ⟨wl u + 2, key2 (wl u + 1) 0 _ _ (by omega) rfl (fun j hj => absurd hj (Nat.not_lt_zero j)) (fun _ _ => rfl)⟩
    · rcases h3 with h3 | h3
      · simp (disch := omega) only [VX10_prefixSums, VX11_prefixSums, VX10_isArray, VX10_isWord, VX11_isWord, VX11_isIn, iI_lit, lI_lit, iI_nI, iI_add, iI_sub, iI_mul, iI_neg, c_lt_t, c_lt_f, c_le_t, c_le_f, c_eq_t, c_eq_f, c_in_t, iI_clamp, Int.toNat_natCast, forall_eq, true_and, and_true, false_and, and_false, not_true_eq_false, not_false_eq_true, true_implies, false_implies, implies_true, forall_const, true_or, or_true, false_or, or_false, pk_us, vu_s, vL_s, vb_0, vb_1, if_true, if_false, ite_true, ite_false]
        exact hP _ _ _ _ _ h0
      · simp (disch := omega) only [VX10_prefixSums, VX11_prefixSums, VX10_isArray, VX10_isWord, VX11_isWord, VX11_isIn, iI_lit, lI_lit, iI_nI, iI_add, iI_sub, iI_mul, iI_neg, c_lt_t, c_lt_f, c_le_t, c_le_f, c_eq_t, c_eq_f, c_in_t, iI_clamp, Int.toNat_natCast, forall_eq, true_and, and_true, false_and, and_false, not_true_eq_false, not_false_eq_true, true_implies, false_implies, implies_true, forall_const, true_or, or_true, false_or, or_false, pk_us, vu_s, vL_s, vb_0, vb_1, if_true, if_false, ite_true, ite_false]
        exact hP _ _ _ _ _ h0
  · rcases h3 with h3 | h3
    · simp (disch := omega) only [VX10_prefixSums, VX11_prefixSums, VX10_isArray, VX10_isWord, VX11_isWord, VX11_isIn, iI_lit, lI_lit, iI_nI, iI_add, iI_sub, iI_mul, iI_neg, c_lt_t, c_lt_f, c_le_t, c_le_f, c_eq_t, c_eq_f, c_in_t, iI_clamp, Int.toNat_natCast, forall_eq, true_and, and_true, false_and, and_false, not_true_eq_false, not_false_eq_true, true_implies, false_implies, implies_true, forall_const, true_or, or_true, false_or, or_false, pk_us, vu_s, vL_s, vb_0, vb_1, if_true, if_false, ite_true, ite_false]
      exact hP _ _ _ _ _ h0
    · simp (disch := omega) only [VX10_prefixSums, VX11_prefixSums, VX10_isArray, VX10_isWord, VX11_isWord, VX11_isIn, iI_lit, lI_lit, iI_nI, iI_add, iI_sub, iI_mul, iI_neg, c_lt_t, c_lt_f, c_le_t, c_le_f, c_eq_t, c_eq_f, c_in_t, iI_clamp, Int.toNat_natCast, forall_eq, true_and, and_true, false_and, and_false, not_true_eq_false, not_false_eq_true, true_implies, false_implies, implies_true, forall_const, true_or, or_true, false_or, or_false, pk_us, vu_s, vL_s, vb_0, vb_1, if_true, if_false, ite_true, ite_false]
      exact hP _ _ _ _ _ h0
