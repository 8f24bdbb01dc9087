/-! THE SMALLEST FREE WORD, THE LONGEST -/
theorem s8_copyTo {post : (Nat → Int32) → Int32 → Prop} {L a : Nat → Int32} {s : Int32} {n : Nat} (hn : n ≤ 40) (h : ∀ u, (∀ j, j < n → u j = L j) → post u (iI n)) : VX8_copyTo post 40 L (iI n) a s := by
  have key : ∀ (q m : Nat) (u : Nat → Int32) (x1 x2 : Int32), m + q = n → x1 = iI m → x2 = iI m → (∀ j, j < m → u j = L j) → VX8_copyTo_7 post 40 L (iI n) (q + 1) u x1 x2 := by
    intro q
    induction q with
    | zero =>
      intro m u x1 x2 hm e1 e2 hu
      have : m = n := by omega
      subst this e1 e2
      rw [VX8_copyTo_7]
      simp (disch := omega) only [iI_lit, lI_lit, iI_nI, iI_add, iI_sub, iI_mul, iI_neg, c_lt_t, c_lt_f, c_le_t, c_le_f, c_eq_t, c_eq_f, c_in_t, iI_clamp, Int.toNat_natCast, forall_eq, true_and, and_true, false_and, and_false, not_true_eq_false, not_false_eq_true, true_implies, false_implies, implies_true, forall_const, true_or, or_true, false_or, or_false, pk_us, vu_s, vL_s, vb_0, vb_1, if_true, if_false, ite_true, ite_false]
      exact h u hu
    | succ q ih =>
      intro m u x1 x2 hm e1 e2 hu
      subst e1 e2
      have e40 : ((40 : Nat) : Int) = 40 := rfl
      rw [VX8_copyTo_7]
      simp (disch := omega) only [VX9_put, e40, iI_lit, lI_lit, iI_nI, iI_add, iI_sub, iI_mul, iI_neg, c_lt_t, c_lt_f, c_le_t, c_le_f, c_eq_t, c_eq_f, c_in_t, iI_clamp, Int.toNat_natCast, forall_eq, true_and, and_true, false_and, and_false, not_true_eq_false, not_false_eq_true, true_implies, false_implies, implies_true, forall_const, true_or, or_true, false_or, or_false, pk_us, vu_s, vL_s, vb_0, vb_1, if_true, if_false, ite_true, ite_false]
      refine ih (m + 1) _ _ _ (by omega) (congrArg iI (by omega)) (congrArg iI (by omega)) (fun j hj => ?_)
      by_cases c : j = m
      · subst c
        rw [pk_us]
      · rw [pk_un c]
        exact hu j (by omega)
  exact ⟨n + 1, key n 0 _ _ _ (by omega) rfl rfl (fun j hj => absurd hj (Nat.not_lt_zero j))⟩
theorem s11_small {post : Int32 → (Nat → Int32) → (Nat → Int32) → (Nat → Int32) → Int32 → Int32 → Prop} {kk ee nn : Int32} {values words lengths row : Nat → Int32} {rs st : Int32} {i n : Nat} (hi : i < 3) (hn : n ≤ 30) (h : ∀ w, (∀ j, j < n → w (40 * i + j) = row j) → (∀ j, (j < 40 * i ∨ 40 * i + n ≤ j) → w j = words j) → post st w lengths row rs st) : ∃ q, VX11_smallestFree_42 post kk ee nn values (iI n) (iI i) q words lengths row rs st (iI 0) := by
  have key : ∀ (q m : Nat) (w : Nat → Int32) (x4 : Int32), m + q = n → x4 = iI m → (∀ j, j < m → w (40 * i + j) = row j) → (∀ j, (j < 40 * i ∨ 40 * i + m ≤ j) → w j = words j) → VX11_smallestFree_42 post kk ee nn values (iI n) (iI i) (q + 1) w lengths row rs st x4 := by
    intro q
    induction q with
    | zero =>
      intro m w x4 hm e4 h1 h2
      have : m = n := by omega
      subst this e4
      rw [VX11_smallestFree_42]
      simp (disch := omega) only [iI_lit, lI_lit, iI_nI, iI_add, iI_sub, iI_mul, iI_neg, c_lt_t, c_lt_f, c_le_t, c_le_f, c_eq_t, c_eq_f, c_in_t, iI_clamp, Int.toNat_natCast, forall_eq, true_and, and_true, false_and, and_false, not_true_eq_false, not_false_eq_true, true_implies, false_implies, implies_true, forall_const, true_or, or_true, false_or, or_false, pk_us, vu_s, vL_s, vb_0, vb_1, if_true, if_false, ite_true, ite_false]
      exact h w h1 h2
    | succ q ih =>
      intro m w x4 hm e4 h1 h2
      subst e4
      have ei : (40 * (i : Int) + (m : Int)).toNat = 40 * i + m := by omega
      rw [VX11_smallestFree_42]
      simp (disch := omega) only [ei, iI_lit, lI_lit, iI_nI, iI_add, iI_sub, iI_mul, iI_neg, c_lt_t, c_lt_f, c_le_t, c_le_f, c_eq_t, c_eq_f, c_in_t, iI_clamp, Int.toNat_natCast, forall_eq, true_and, and_true, false_and, and_false, not_true_eq_false, not_false_eq_true, true_implies, false_implies, implies_true, forall_const, true_or, or_true, false_or, or_false, pk_us, vu_s, vL_s, vb_0, vb_1, if_true, if_false, ite_true, ite_false]
      refine ih (m + 1) _ _ (by omega) (congrArg iI (by omega)) (fun j hj => ?_) (fun j hj => ?_)
      · by_cases c : j = m
        · subst c
          rw [pk_us]
        · rw [pk_un (by omega)]
          exact h1 j (by omega)
      · rw [pk_un (by omega)]
        exact h2 j (by omega)
  exact ⟨n + 1, key n 0 _ _ (by omega) rfl (fun j hj => absurd hj (Nat.not_lt_zero j)) (fun _ _ => rfl)⟩
theorem L_smallestFree {K N e : Nat} (hK : K ≤ 3) (hN : 2 ≤ N ∧ N ≤ 4) (he : 2 ≤ e ∧ e ≤ 4) {cv mv : Nat → Int32} (hv : EV cv mv) {wL : Nat → Nat → Int32} {wS words lengths : Nat → Int32} (h : EW N wL wS words lengths) (p1 p2 : Int32) {L T : Nat → Int32} {S A B wt : Nat → Int64} {sz kd ex dp : Int32} (hT : T 0 = iI 0) (row : Nat → Int32) (rowSize steps : Int32)
    {P : Int32 → (Nat → Nat → Int32) → (Nat → Int32) → (Nat → Int32) → (Nat → Int32) → (Nat → Int64) → (Nat → Int64) → (Nat → Int64) → (Nat → Int64) → Int32 → Int32 → Int32 → Int32 → Int32 → (Nat → Int32) → (Nat → Int32) → (Nat → Int32) → Int32 → Int32 → Prop} (hP : ∀ r wL wS L T S A B wt sz kd ex dp words lengths a b c, EW N wL wS words lengths → T 0 = iI 0 → P r wL wS L T S A B wt sz kd ex dp r words lengths a b c) :
    VX10_smallestFree (fun r wL wS L T S A B wt sz kd ex dp => VX11_smallestFree (fun r2 w l a b c => P r wL wS L T S A B wt sz kd ex dp r2 w l a b c) (iI K) (iI e) (iI N) mv p1 p2 words lengths row rowSize steps) (iI K) (iI e) (iI N) cv p1 p2 wL wS L T S A B wt sz kd ex dp := by
  have h0 := h
  obtain ⟨wl, w, hW⟩ := h
  obtain ⟨V, hV⟩ := hv
  obtain ⟨z, rfl, a1, a2⟩ := iI_rng p1
  by_cases c1 : z < 1
  · simp (disch := omega) only [VX10_smallestFree, VX11_smallestFree, VX11_isIn, iI_lit, lI_lit, iI_nI, iI_add, iI_sub, iI_mul, iI_neg, c_lt_t, c_lt_f, c_le_t, c_le_f, c_eq_t, c_eq_f, c_in_t, iI_clamp, Int.toNat_natCast, forall_eq, true_and, and_true, false_and, and_false, not_true_eq_false, not_false_eq_true, true_implies, false_implies, implies_true, forall_const, true_or, or_true, false_or, or_false, pk_us, vu_s, vL_s, vb_0, vb_1, if_true, if_false, ite_true, ite_false]
    exact hP _ _ _ _ _ _ _ _ _ _ _ _ _ _ _ _ _ _ h0 hT
  · by_cases c2 : 30 < z
    · simp (disch := omega) only [VX10_smallestFree, VX11_smallestFree, VX11_isIn, iI_lit, lI_lit, iI_nI, iI_add, iI_sub, iI_mul, iI_neg, c_lt_t, c_lt_f, c_le_t, c_le_f, c_eq_t, c_eq_f, c_in_t, iI_clamp, Int.toNat_natCast, forall_eq, true_and, and_true, false_and, and_false, not_true_eq_false, not_false_eq_true, true_implies, false_implies, implies_true, forall_const, true_or, or_true, false_or, or_false, pk_us, vu_s, vL_s, vb_0, vb_1, if_true, if_false, ite_true, ite_false]
      exact hP _ _ _ _ _ _ _ _ _ _ _ _ _ _ _ _ _ _ h0 hT
    · obtain ⟨n, rfl⟩ : ∃ n : Nat, z = n := ⟨z.toNat, by omega⟩
      rcases ix_cases p2 3 (by omega) with ⟨i, hi, rfl⟩ | ⟨z2, rfl, h1, h2, h3 | h3⟩
      · obtain ⟨hl, e1, e2, e3⟩ := hW i hi
        have hVc : ∀ x, x < 4 → -9 ≤ V x ∧ V x ≤ 9 := fun x hx => (hV x hx).1
        have hVm : ∀ x, x < 4 → (-9 ≤ V x ∧ V x ≤ 9) ∧ mv x = iI (V x) := fun x hx => ⟨(hV x hx).1, (hV x hx).2.2⟩
        simp (disch := omega) only [VX10_smallestFree, VX10_isWord, iI_lit, lI_lit, iI_nI, iI_add, iI_sub, iI_mul, iI_neg, c_lt_t, c_lt_f, c_le_t, c_le_f, c_eq_t, c_eq_f, c_in_t, iI_clamp, Int.toNat_natCast, forall_eq, true_and, and_true, false_and, and_false, not_true_eq_false, not_false_eq_true, true_implies, false_implies, implies_true, forall_const, true_or, or_true, false_or, or_false, pk_us, vu_s, vL_s, vb_0, vb_1, if_true, if_false, ite_true, ite_false]
        refine s8_begin (V := V) hK (fun x hx => ⟨(hV x hx).1, (hV x hx).2.1⟩) (fun wt' hw => ?_)
        have hT0 : TI K (wK K V) (fun _ => 0) 0 L T S A B := ⟨hT, fun j hj => absurd hj (Nat.not_lt_zero j)⟩
        refine ⟨40001, s4_seek (tgt := n) (V := V) hK hN he (by omega) hVc hw 40001 (fun _ => 0) 0 0 0 0 0 L T S A B _ _ _ _ _ (by omega) (by omega) (by omega) (by omega) (by omega) (by omega) (by omega) rfl rfl rfl rfl rfl (fun j hj => absurd hj (Nat.not_lt_zero j)) hT0 (fun c f' m' st' d' hs L' T' S' A' B' hTI => ?_)⟩
        obtain ⟨i1, i2, i3, i4, i5⟩ := srch_inv (by omega) 40001 (fun _ => 0) 0 0 0 0 c f' m' st' d' (by omega) (by omega) (by omega) (by omega) (fun j hj => absurd hj (Nat.not_lt_zero j)) hs
        have href : ∀ post : Int32 → (Nat → Int32) → Int32 → Int32 → Prop, (∀ row', (∀ j, j < m' → row' j = iI (f' j)) → post (iI (if c = 1 then 1 else scode c st')) row' (iI m') (iI st')) → VX11_search post (iI K) (iI e) (iI N) mv (iI n) row rowSize steps := by
          intro post hpost
          refine ⟨40002, s11_search_go (m := 0) (by omega) (by omega) ⟨_, s11_srch (tgt := n) (V := V) hK hN he (by omega) hVm 40001 40001 (fun _ => 0) 0 0 0 0 row _ _ _ _ (by omega) (by omega) (by omega) (by omega) (by omega) rfl rfl rfl (fun j hj => absurd hj (Nat.not_lt_zero j)) (fun c2 f2 m2 st2 d2 hs2 => ?_)⟩⟩
          rw [hs] at hs2
          simp only [Prod.mk.injEq] at hs2
          obtain ⟨rfl, rfl, rfl, rfl, rfl⟩ := hs2
          exact hpost
        rcases i1 with rfl | ⟨rfl, j2, j3⟩ | rfl
        · simp (disch := omega) only [scode, if_neg (show ¬ (0 : Nat) = 1 by omega), VX11_smallestFree, VX11_isWord, VX11_isIn, iI_lit, lI_lit, iI_nI, iI_add, iI_sub, iI_mul, iI_neg, c_lt_t, c_lt_f, c_le_t, c_le_f, c_eq_t, c_eq_f, c_in_t, iI_clamp, Int.toNat_natCast, forall_eq, true_and, and_true, false_and, and_false, not_true_eq_false, not_false_eq_true, true_implies, false_implies, implies_true, forall_const, true_or, or_true, false_or, or_false, pk_us, vu_s, vL_s, vb_0, vb_1, if_true, if_false, ite_true, ite_false]
          refine href _ (fun row' hr => ?_)
          simp (disch := omega) only [scode, if_neg (show ¬ (0 : Nat) = 1 by omega), iI_lit, lI_lit, iI_nI, iI_add, iI_sub, iI_mul, iI_neg, c_lt_t, c_lt_f, c_le_t, c_le_f, c_eq_t, c_eq_f, c_in_t, iI_clamp, Int.toNat_natCast, forall_eq, true_and, and_true, false_and, and_false, not_true_eq_false, not_false_eq_true, true_implies, false_implies, implies_true, forall_const, true_or, or_true, false_or, or_false, pk_us, vu_s, vL_s, vb_0, vb_1, if_true, if_false, ite_true, ite_false]
          exact hP _ _ _ _ _ _ _ _ _ _ _ _ _ _ _ _ _ _ h0 hTI.1
        · subst j2
          simp (disch := omega) only [scode, iI_lit, lI_lit, iI_nI, iI_add, iI_sub, iI_mul, iI_neg, c_lt_t, c_lt_f, c_le_t, c_le_f, c_eq_t, c_eq_f, c_in_t, iI_clamp, Int.toNat_natCast, forall_eq, true_and, and_true, false_and, and_false, not_true_eq_false, not_false_eq_true, true_implies, false_implies, implies_true, forall_const, true_or, or_true, false_or, or_false, pk_us, vu_s, vL_s, vb_0, vb_1, if_true, if_false, ite_true, ite_false]
          refine s8_copyTo (by omega) (fun u hu => ?_)
          simp (disch := omega) only [VX11_smallestFree, VX11_isWord, VX11_isIn, iI_lit, lI_lit, iI_nI, iI_add, iI_sub, iI_mul, iI_neg, c_lt_t, c_lt_f, c_le_t, c_le_f, c_eq_t, c_eq_f, c_in_t, iI_clamp, Int.toNat_natCast, forall_eq, true_and, and_true, false_and, and_false, not_true_eq_false, not_false_eq_true, true_implies, false_implies, implies_true, forall_const, true_or, or_true, false_or, or_false, pk_us, vu_s, vL_s, vb_0, vb_1, if_true, if_false, ite_true, ite_false]
          refine href _ (fun row' hr => ?_)
          simp (disch := omega) only [iI_lit, lI_lit, iI_nI, iI_add, iI_sub, iI_mul, iI_neg, c_lt_t, c_lt_f, c_le_t, c_le_f, c_eq_t, c_eq_f, c_in_t, iI_clamp, Int.toNat_natCast, forall_eq, true_and, and_true, false_and, and_false, not_true_eq_false, not_false_eq_true, true_implies, false_implies, implies_true, forall_const, true_or, or_true, false_or, or_false, pk_us, vu_s, vL_s, vb_0, vb_1, if_true, if_false, ite_true, ite_false]
          refine s11_small hi (by omega) (fun w' hw1 hw2 => ?_)
          refine hP _ _ _ _ _ _ _ _ _ _ _ _ _ _ _ _ _ _ ⟨va_up wl i m', va_up w i f', fun k hk => ?_⟩ hTI.1
          by_cases ek : k = i
          · subst ek
            simp only [vu_s, pk_us]
            refine ⟨by omega, trivial, trivial, fun j hj => ⟨i5 j hj, ?_, ?_⟩⟩
            · rw [hu j hj]
              exact (hTI.2 j hj).2.1
            · rw [hw1 j hj, hr j hj]
          · rw [vu_n ek, vu_n ek, vu_n ek, vu_n ek, pk_un ek]
            obtain ⟨b1, b2, b3, b4⟩ := hW k hk
            refine ⟨b1, b2, b3, fun j hj => ?_⟩
            rw [hw2 _ (by omega)]
            exact b4 j hj
        · simp (disch := omega) only [scode, if_neg (show ¬ (2 : Nat) = 1 by omega), if_neg (show ¬ (2 : Nat) = 0 by omega), VX11_smallestFree, VX11_isWord, VX11_isIn, iI_lit, lI_lit, iI_nI, iI_add, iI_sub, iI_mul, iI_neg, c_lt_t, c_lt_f, c_le_t, c_le_f, c_eq_t, c_eq_f, c_in_t, iI_clamp, Int.toNat_natCast, forall_eq, true_and, and_true, false_and, and_false, not_true_eq_false, not_false_eq_true, true_implies, false_implies, implies_true, forall_const, true_or, or_true, false_or, or_false, pk_us, vu_s, vL_s, vb_0, vb_1, if_true, if_false, ite_true, ite_false]
          refine href _ (fun row' hr => ?_)
          simp (disch := omega) only [scode, if_neg (show ¬ (2 : Nat) = 1 by omega), if_neg (show ¬ (2 : Nat) = 0 by omega), iI_lit, lI_lit, iI_nI, iI_add, iI_sub, iI_mul, iI_neg, c_lt_t, c_lt_f, c_le_t, c_le_f, c_eq_t, c_eq_f, c_in_t, iI_clamp, Int.toNat_natCast, forall_eq, true_and, and_true, false_and, and_false, not_true_eq_false, not_false_eq_true, true_implies, false_implies, implies_true, forall_const, true_or, or_true, false_or, or_false, pk_us, vu_s, vL_s, vb_0, vb_1, if_true, if_false, ite_true, ite_false]
          exact hP _ _ _ _ _ _ _ _ _ _ _ _ _ _ _ _ _ _ h0 hTI.1
      · simp (disch := omega) only [VX10_smallestFree, VX10_isWord, VX11_smallestFree, VX11_isWord, VX11_isIn, iI_lit, lI_lit, iI_nI, iI_add, iI_sub, iI_mul, iI_neg, c_lt_t, c_lt_f, c_le_t, c_le_f, c_eq_t, c_eq_f, c_in_t, iI_clamp, Int.toNat_natCast, forall_eq, true_and, and_true, false_and, and_false, not_true_eq_false, not_false_eq_true, true_implies, false_implies, implies_true, forall_const, true_or, or_true, false_or, or_false, pk_us, vu_s, vL_s, vb_0, vb_1, if_true, if_false, ite_true, ite_false]
        exact hP _ _ _ _ _ _ _ _ _ _ _ _ _ _ _ _ _ _ h0 hT
      · simp (disch := omega) only [VX10_smallestFree, VX10_isWord, VX11_smallestFree, VX11_isWord, VX11_isIn, iI_lit, lI_lit, iI_nI, iI_add, iI_sub, iI_mul, iI_neg, c_lt_t, c_lt_f, c_le_t, c_le_f, c_eq_t, c_eq_f, c_in_t, iI_clamp, Int.toNat_natCast, forall_eq, true_and, and_true, false_and, and_false, not_true_eq_false, not_false_eq_true, true_implies, false_implies, implies_true, forall_const, true_or, or_true, false_or, or_false, pk_us, vu_s, vL_s, vb_0, vb_1, if_true, if_false, ite_true, ite_false]
        exact hP _ _ _ _ _ _ _ _ _ _ _ _ _ _ _ _ _ _ h0 hT
/-! the longest -/
def gcL (post : Int32 → (Nat → Int32) → Int32 → Int32 → Prop) (kk ee nn : Int32) (values : Nat → Int32) (n : Nat) (x1 : Int32) (r_2 : Int32) (u_3 : Nat → Int32) (u_4 u_5 : Int32) : Prop := (¬ (r_2 = (-4)) → ∀ y_6 : Int32, y_6 = (if x1 < u_4 then u_4 else x1) → (¬ (y_6 = 12) → (¬ (r_2 = (-2)) → VX11_longestFree_14 post kk ee nn values n u_3 u_4 u_5 y_6 0) ∧ ((r_2 = (-2)) → (¬ (u_4 = 0) → vp_in (u_4 - 1) 45 ∧ (∀ y_7 : Int32, y_7 = (u_3 (u_4 - 1).toNatClampNeg) → VX11_longestFree_14 post kk ee nn values n u_3 (u_4 - 1) u_5 y_6 (y_7 + 1))) ∧ ((u_4 = 0) → post y_6 u_3 u_4 u_5))) ∧ ((y_6 = 12) → post (-2 : Int32) u_3 u_4 u_5)) ∧ ((r_2 = (-4)) → post (-4 : Int32) u_3 u_4 u_5)
theorem s11_long_go {post : Int32 → (Nat → Int32) → Int32 → Int32 → Prop} {kk ee nn : Int32} {values row : Nat → Int32} {n : Nat} {m st x1 x2 : Int32} (h : VX11_goOn (gcL post kk ee nn values n x1) kk ee nn values x2 (iI 20000) row m st) : VX11_longestFree_14 post kk ee nn values (n + 1) row m st x1 x2 := by
  rw [VX11_longestFree_14]
  rw [show (20000 : Int32) = iI 20000 from iI_lit 20000]
  exact h
theorem s11_long {post : Int32 → (Nat → Int32) → Int32 → Int32 → Prop} {K N e : Nat} {V : Nat → Int} {values : Nat → Int32} (hK : K ≤ 3) (hN : 2 ≤ N ∧ N ≤ 4) (he : 2 ≤ e ∧ e ≤ 4) (hV : ∀ x, x < 4 → (-9 ≤ V x ∧ V x ≤ 9) ∧ values x = iI (V x)) :
    ∀ (q n : Nat) (f : Nat → Nat) (m x st d : Nat) (row : Nat → Int32) (x3 x4 x5 p : Int32), q ≤ n → 2 * (20000 - st) + m < q → st ≤ 20000 → m ≤ d → d < 12 → x ≤ N → x3 = iI x → x4 = iI m → x5 = iI st → (∀ j, j < m → row j = iI (f j) ∧ f j < N) →
      (∀ c f' m' st' d', srch (shp K N V e) N 12 q f m x st d = (c, f', m', st', d') → ∀ row', post (iI (if c = 0 then (d' : Int) else if c = 1 then -2 else -4)) row' (iI m') (iI st')) →
      VX11_goOn_2 (gcL post (iI K) (iI e) (iI N) values n (iI d)) (iI K) (iI e) (iI N) values p (iI 20000) (N - x + 1) row x4 x5 x3 := by
  intro q
  induction q with
  | zero =>
    intro n f m x st d row x3 x4 x5 p hn hq
    exact absurd hq (Nat.not_lt_zero _)
  | succ q ih =>
    intro n f m x st d row x3 x4 x5 p hn hq hst hm hd hx e3 e4 e5 hr hp
    subst e3 e4 e5
    obtain ⟨n', rfl⟩ : ∃ n', n = n' + 1 := ⟨n - 1, by omega⟩
    rw [VX11_goOn_2]
    rw [srch] at hp
    by_cases c1 : N ≤ x
    · rw [if_pos c1] at hp
      by_cases c2 : m = 0
      · subst c2
        rw [if_pos rfl] at hp
        have h := hp _ _ _ _ _ rfl row
        rw [if_pos rfl] at h
        simp (disch := omega) only [gcL, iI_lit, lI_lit, iI_nI, iI_add, iI_sub, iI_mul, iI_neg, c_lt_t, c_lt_f, c_le_t, c_le_f, c_eq_t, c_eq_f, c_in_t, iI_clamp, Int.toNat_natCast, forall_eq, true_and, and_true, false_and, and_false, not_true_eq_false, not_false_eq_true, true_implies, false_implies, implies_true, forall_const, true_or, or_true, false_or, or_false, pk_us, vu_s, vL_s, vb_0, vb_1, if_true, if_false, ite_true, ite_false]
        exact h
      · rw [if_neg c2] at hp
        obtain ⟨k, rfl⟩ : ∃ k, m = k + 1 := ⟨m - 1, by omega⟩
        rw [Nat.add_sub_cancel] at hp
        have e0 : ((k + 1 : Nat) : Int) - 1 = (k : Int) := by omega
        obtain ⟨r1, r2⟩ := hr k (by omega)
        simp (disch := omega) only [gcL, e0, r1, iI_lit, lI_lit, iI_nI, iI_add, iI_sub, iI_mul, iI_neg, c_lt_t, c_lt_f, c_le_t, c_le_f, c_eq_t, c_eq_f, c_in_t, iI_clamp, Int.toNat_natCast, forall_eq, true_and, and_true, false_and, and_false, not_true_eq_false, not_false_eq_true, true_implies, false_implies, implies_true, forall_const, true_or, or_true, false_or, or_false, pk_us, vu_s, vL_s, vb_0, vb_1, if_true, if_false, ite_true, ite_false]
        exact s11_long_go ⟨_, ih n' f k (f k + 1) st d row _ _ _ _ (by omega) (by omega) hst (by omega) hd (by omega) (congrArg iI (by omega)) rfl rfl (fun j hj => hr j (by omega)) hp⟩
    · rw [if_neg c1] at hp
      by_cases c3 : st = 20000
      · subst c3
        rw [if_pos rfl] at hp
        have h := hp _ _ _ _ _ rfl row
        rw [if_neg (by omega), if_neg (by omega)] at h
        simp (disch := omega) only [gcL, iI_lit, lI_lit, iI_nI, iI_add, iI_sub, iI_mul, iI_neg, c_lt_t, c_lt_f, c_le_t, c_le_f, c_eq_t, c_eq_f, c_in_t, iI_clamp, Int.toNat_natCast, forall_eq, true_and, and_true, false_and, and_false, not_true_eq_false, not_false_eq_true, true_implies, false_implies, implies_true, forall_const, true_or, or_true, false_or, or_false, pk_us, vu_s, vL_s, vb_0, vb_1, if_true, if_false, ite_true, ite_false]
        exact h
      · rw [if_neg c3] at hp
        have ec : ((m : Int) + 1) = ((m + 1 : Nat) : Int) := by omega
        simp (disch := omega) only [ec, iI_lit, lI_lit, iI_nI, iI_add, iI_sub, iI_mul, iI_neg, c_lt_t, c_lt_f, c_le_t, c_le_f, c_eq_t, c_eq_f, c_in_t, iI_clamp, Int.toNat_natCast, forall_eq, true_and, and_true, false_and, and_false, not_true_eq_false, not_false_eq_true, true_implies, false_implies, implies_true, forall_const, true_or, or_true, false_or, or_false, pk_us, vu_s, vL_s, vb_0, vb_1, if_true, if_false, ite_true, ite_false]
        have h6 : ∀ j, j < m + 1 → upd row m (iI x) j = iI ((va_up f m x j : Nat) : Int) ∧ va_up f m x j < N := by
          intro j hj
          by_cases c : j = m
          · rw [c, vu_s, pk_us]
            exact ⟨rfl, by omega⟩
          · rw [vu_n c, pk_un c]
            exact hr j (by omega)
        refine s11_endsAt (f := va_up f m x) (V := V) hK hN he hV (by omega) (fun j hj => ⟨(h6 j hj).1, by have := (h6 j hj).2; omega⟩) ?_
        have hle := shp_le (K := K) (N := N) (V := V) (f := va_up f m x) (n := m + 1) he.1
        by_cases c4 : shp K N V e (va_up f m x) (m + 1) = 0
        · rw [if_pos c4] at hp
          rw [c4]
          by_cases c5 : m + 1 = 12
          · rw [if_pos c5] at hp
            have h := hp _ _ _ _ _ rfl (upd row m (iI x))
            have es : ((st + 1 : Nat) : Int) = (st : Int) + 1 := by omega
            rw [if_neg (by omega), if_pos rfl, es] at h
            have emx : max d (m + 1) = 12 := by omega
            simp (disch := omega) only [VX11_goOn_54, gcL, ec, mx_if, iI_lit, lI_lit, iI_nI, iI_add, iI_sub, iI_mul, iI_neg, c_lt_t, c_lt_f, c_le_t, c_le_f, c_eq_t, c_eq_f, c_in_t, iI_clamp, Int.toNat_natCast, forall_eq, true_and, and_true, false_and, and_false, not_true_eq_false, not_false_eq_true, true_implies, false_implies, implies_true, forall_const, true_or, or_true, false_or, or_false, pk_us, vu_s, vL_s, vb_0, vb_1, if_true, if_false, ite_true, ite_false]
            exact h
          · rw [if_neg c5] at hp
            simp (disch := omega) only [VX11_goOn_54, gcL, ec, mx_if, iI_lit, lI_lit, iI_nI, iI_add, iI_sub, iI_mul, iI_neg, c_lt_t, c_lt_f, c_le_t, c_le_f, c_eq_t, c_eq_f, c_in_t, iI_clamp, Int.toNat_natCast, forall_eq, true_and, and_true, false_and, and_false, not_true_eq_false, not_false_eq_true, true_implies, false_implies, implies_true, forall_const, true_or, or_true, false_or, or_false, pk_us, vu_s, vL_s, vb_0, vb_1, if_true, if_false, ite_true, ite_false]
            exact s11_long_go ⟨_, ih n' _ (m + 1) 0 (st + 1) (max d (m + 1)) _ _ _ _ _ (by omega) (by omega) (by omega) (by omega) (by omega) (by omega) rfl rfl (congrArg iI (by omega)) h6 hp⟩
        · rw [if_neg c4] at hp
          simp (disch := omega) only [iI_lit, lI_lit, iI_nI, iI_add, iI_sub, iI_mul, iI_neg, c_lt_t, c_lt_f, c_le_t, c_le_f, c_eq_t, c_eq_f, c_in_t, iI_clamp, Int.toNat_natCast, forall_eq, true_and, and_true, false_and, and_false, not_true_eq_false, not_false_eq_true, true_implies, false_implies, implies_true, forall_const, true_or, or_true, false_or, or_false, pk_us, vu_s, vL_s, vb_0, vb_1, if_true, if_false, ite_true, ite_false]
          have hfu : N - x = N - (x + 1) + 1 := by omega
          rw [hfu]
          exact ih (n' + 1) _ m (x + 1) (st + 1) d _ _ _ _ _ (by omega) (by omega) (by omega) hm hd (by omega) (congrArg iI (by omega)) rfl (congrArg iI (by omega)) (fun j hj => h6 j (by omega)) hp
theorem L_longestFree {K N e : Nat} (hK : K ≤ 3) (hN : 2 ≤ N ∧ N ≤ 4) (he : 2 ≤ e ∧ e ≤ 4) {cv mv : Nat → Int32} (hv : EV cv mv) {L T : Nat → Int32} {S A B wt : Nat → Int64} {sz kd ex dp : Int32} (hT : T 0 = iI 0) (row : Nat → Int32) (rowSize steps : Int32)
    {P : Int32 → (Nat → Int32) → (Nat → Int32) → (Nat → Int64) → (Nat → Int64) → (Nat → Int64) → (Nat → Int64) → Int32 → Int32 → Int32 → Int32 → Int32 → (Nat → Int32) → Int32 → Int32 → Prop} (hP : ∀ r L T S A B wt sz kd ex dp a b c, T 0 = iI 0 → P r L T S A B wt sz kd ex dp r a b c) :
    VX10_longestFree (fun r L T S A B wt sz kd ex dp => VX11_longestFree (fun r2 a b c => P r L T S A B wt sz kd ex dp r2 a b c) (iI K) (iI e) (iI N) mv row rowSize steps) (iI K) (iI e) (iI N) cv L T S A B wt sz kd ex dp := by
  obtain ⟨V, hV⟩ := hv
  have hVc : ∀ x, x < 4 → -9 ≤ V x ∧ V x ≤ 9 := fun x hx => (hV x hx).1
  have hVm : ∀ x, x < 4 → (-9 ≤ V x ∧ V x ≤ 9) ∧ mv x = iI (V x) := fun x hx => ⟨(hV x hx).1, (hV x hx).2.2⟩
  have hT0 : TI K (wK K V) (fun _ => 0) 0 L T S A B := ⟨hT, fun j hj => absurd hj (Nat.not_lt_zero j)⟩
  unfold VX10_longestFree
  refine s8_begin (V := V) hK (fun x hx => ⟨(hV x hx).1, (hV x hx).2.1⟩) (fun wt' hw => ?_)
  rw [show (12 : Int32) = iI ((12 : Nat) : Int) from iI_lit 12]
  refine ⟨40001, s4_seek (tgt := 12) (V := V) hK hN he (by omega) hVc hw 40001 (fun _ => 0) 0 0 0 0 0 L T S A B _ _ _ _ _ (by omega) (by omega) (by omega) (by omega) (by omega) (by omega) (by omega) rfl rfl rfl rfl rfl (fun j hj => absurd hj (Nat.not_lt_zero j)) hT0 (fun c f' m' st' d' hs L' T' S' A' B' hTI => ?_)⟩
  obtain ⟨i1, i2, i3, i4, i5⟩ := srch_inv (by omega) 40001 (fun _ => 0) 0 0 0 0 c f' m' st' d' (by omega) (by omega) (by omega) (by omega) (fun j hj => absurd hj (Nat.not_lt_zero j)) hs
  have href : ∀ post : Int32 → (Nat → Int32) → Int32 → Int32 → Prop, (∀ row', post (iI (if c = 0 then (d' : Int) else if c = 1 then -2 else -4)) row' (iI m') (iI st')) → VX11_longestFree post (iI K) (iI e) (iI N) mv row rowSize steps := by
    intro post hpost
    refine ⟨40002, s11_long_go ⟨_, s11_long (V := V) hK hN he hVm 40001 40001 (fun _ => 0) 0 0 0 0 row _ _ _ _ (by omega) (by omega) (by omega) (by omega) (by omega) (by omega) rfl rfl rfl (fun j hj => absurd hj (Nat.not_lt_zero j)) (fun c2 f2 m2 st2 d2 hs2 => ?_)⟩⟩
    rw [hs] at hs2
    simp only [Prod.mk.injEq] at hs2
    obtain ⟨rfl, rfl, rfl, rfl, rfl⟩ := hs2
    exact hpost
  rcases i1 with rfl | ⟨rfl, j2, j3⟩ | rfl
  · simp (disch := omega) only [scode, if_neg (show ¬ (0 : Nat) = 1 by omega), iI_lit, lI_lit, iI_nI, iI_add, iI_sub, iI_mul, iI_neg, c_lt_t, c_lt_f, c_le_t, c_le_f, c_eq_t, c_eq_f, c_in_t, iI_clamp, Int.toNat_natCast, forall_eq, true_and, and_true, false_and, and_false, not_true_eq_false, not_false_eq_true, true_implies, false_implies, implies_true, forall_const, true_or, or_true, false_or, or_false, pk_us, vu_s, vL_s, vb_0, vb_1, if_true, if_false, ite_true, ite_false]
    refine href _ (fun row' => ?_)
    rw [if_pos rfl]
    exact hP _ _ _ _ _ _ _ _ _ _ _ _ _ _ hTI.1
  · simp (disch := omega) only [scode, iI_lit, lI_lit, iI_nI, iI_add, iI_sub, iI_mul, iI_neg, c_lt_t, c_lt_f, c_le_t, c_le_f, c_eq_t, c_eq_f, c_in_t, iI_clamp, Int.toNat_natCast, forall_eq, true_and, and_true, false_and, and_false, not_true_eq_false, not_false_eq_true, true_implies, false_implies, implies_true, forall_const, true_or, or_true, false_or, or_false, pk_us, vu_s, vL_s, vb_0, vb_1, if_true, if_false, ite_true, ite_false]
    refine href _ (fun row' => ?_)
    rw [if_neg (by omega), if_pos rfl]
    exact hP _ _ _ _ _ _ _ _ _ _ _ _ _ _ hTI.1
  · simp (disch := omega) only [scode, if_neg (show ¬ (2 : Nat) = 1 by omega), if_neg (show ¬ (2 : Nat) = 0 by omega), iI_lit, lI_lit, iI_nI, iI_add, iI_sub, iI_mul, iI_neg, c_lt_t, c_lt_f, c_le_t, c_le_f, c_eq_t, c_eq_f, c_in_t, iI_clamp, Int.toNat_natCast, forall_eq, true_and, and_true, false_and, and_false, not_true_eq_false, not_false_eq_true, true_implies, false_implies, implies_true, forall_const, true_or, or_true, false_or, or_false, pk_us, vu_s, vL_s, vb_0, vb_1, if_true, if_false, ite_true, ite_false]
    refine href _ (fun row' => ?_)
    rw [if_neg (by omega), if_neg (by omega)]
    exact hP _ _ _ _ _ _ _ _ _ _ _ _ _ _ hTI.1
