/-! THE REFERENCE: templates in their order -/
theorem nar_0 : vp_nar .boolean (iI 0) = iI 0 := by decide +kernel
theorem nar_1 : vp_nar .boolean (iI 1) = iI 1 := by decide +kernel
theorem of7_b (k : Nat) : 1 ≤ of7 k ∧ of7 k ≤ 9 := by
  unfold of7
  split <;> omega
theorem VD_b {N : Nat} {c : Nat → Nat} (hN : N ≤ 4) (h : VD N c) (k : Nat) : c k ≤ 18 := by
  by_cases a : k < 3
  · have := h.1 k a
    omega
  · by_cases b : k < 3 + N
    · exact h.2.1 k (by omega) b
    · rw [h.2.2 k (by omega)]
      omega
theorem s11_compare {post : Int32 → Prop} {N p : Nat} {found made : TA} {fc mc : Nat → Nat} (hN : 2 ≤ N ∧ N ≤ 4) (hp : p < 201) (hf : VD N fc) (hm : VD N mc) (h1 : ∀ k, k < 7 → found (7 * p + k) = iI ((fc k : Int) - of7 k)) (h2 : ∀ k, k < 7 → made k = iI ((mc k : Int) - of7 k))
    (hlt : kk fc (3 + N) < kk mc (3 + N) → ∀ z : Int, -1000 ≤ z → z < 0 → post (iI z)) (heq : kk fc (3 + N) = kk mc (3 + N) → post (iI 0)) (hgt : kk mc (3 + N) < kk fc (3 + N) → ∀ z : Int, 0 < z → z ≤ 1000 → post (iI z)) : VX11_compare post found made (iI p) := by
  have loop : ∀ (q k : Nat) (x2 : Int32), k + q = 7 → x2 = iI k → (∀ j, j < k → fc j = mc j) → VX11_compare_2 post found made (iI p) (q + 1) x2 := by
    intro q
    induction q with
    | zero =>
      intro k x2 hk e2 he
      have : k = 7 := by omega
      subst this e2
      rw [VX11_compare_2]
      simp (disch := omega) only [iI_lit, lI_lit, iI_nI, iI_add, iI_sub, iI_mul, iI_neg, c_lt_t, c_lt_f, c_le_t, c_le_f, c_eq_t, c_eq_f, c_in_t, iI_clamp, Int.toNat_natCast, forall_eq, true_and, and_true, false_and, and_false, not_true_eq_false, not_false_eq_true, true_implies, false_implies, implies_true, forall_const, true_or, or_true, false_or, or_false, pk_us, vu_s, vL_s, vb_0, vb_1, if_true, if_false, ite_true, ite_false]
      exact heq (kk_cg _ (fun j hj => he j (by omega)))
    | succ q ih =>
      intro k x2 hk e2 he
      subst e2
      have e7 : (7 * (p : Int) + (k : Int)).toNat = 7 * p + k := by omega
      have a1 := h1 k (by omega)
      have a2 := h2 k (by omega)
      have b1 := VD_b hN.2 hf k
      have b2 := VD_b hN.2 hm k
      have b3 := of7_b k
      rw [VX11_compare_2]
      by_cases c : fc k = mc k
      · simp (disch := omega) only [e7, a1, a2, iI_lit, lI_lit, iI_nI, iI_add, iI_sub, iI_mul, iI_neg, c_lt_t, c_lt_f, c_le_t, c_le_f, c_eq_t, c_eq_f, c_in_t, iI_clamp, Int.toNat_natCast, forall_eq, true_and, and_true, false_and, and_false, not_true_eq_false, not_false_eq_true, true_implies, false_implies, implies_true, forall_const, true_or, or_true, false_or, or_false, pk_us, vu_s, vL_s, vb_0, vb_1, if_true, if_false, ite_true, ite_false]
        refine ih (k + 1) _ (by omega) (congrArg iI (by omega)) (fun j hj => ?_)
        by_cases d : j = k
        · rw [d]
          exact c
        · exact he j (by omega)
      · have hk3 : k < 3 + N := by
          by_cases d : k < 3 + N
          · exact d
          · exact absurd (by rw [hf.2.2 k (by omega), hm.2.2 k (by omega)]) c
        simp (disch := omega) only [e7, a1, a2, iI_lit, lI_lit, iI_nI, iI_add, iI_sub, iI_mul, iI_neg, c_lt_t, c_lt_f, c_le_t, c_le_f, c_eq_t, c_eq_f, c_in_t, iI_clamp, Int.toNat_natCast, forall_eq, true_and, and_true, false_and, and_false, not_true_eq_false, not_false_eq_true, true_implies, false_implies, implies_true, forall_const, true_or, or_true, false_or, or_false, pk_us, vu_s, vL_s, vb_0, vb_1, if_true, if_false, ite_true, ite_false]
        by_cases d : fc k < mc k
        · exact hlt (kk_lt hN hf hm he d (3 + N) hk3 (Nat.le_refl _)) _ (by omega) (by omega)
        · exact hgt (kk_lt hN hm hf (fun j hj => (he j hj).symm) (by omega) (3 + N) hk3 (Nat.le_refl _)) _ (by omega) (by omega)
  exact ⟨8, loop 7 0 _ (by omega) rfl (fun j hj => absurd hj (Nat.not_lt_zero j))⟩
/-- what the reference has found -/
def FCe (N n : Nat) (rk : Nat → Nat) (found : TA) : Prop := ∀ i, i < n → ∀ k, k < 7 → found (7 * i + k) = iI ((dig N (rk i) k : Int) - of7 k)
theorem s11_enter {post : Int32 → TA → Int32 → Prop} {N n : Nat} {il : Nat → Nat} {im : Nat → Nat → Nat} {rk mc : Nat → Nat} {found made : TA} (hN : 2 ≤ N ∧ N ≤ 4) (hn : n ≤ 200) (hs : SRT n rk) (hr : ∀ i, i < n → rch N il im (rk i)) (hc : FCe N n rk found) (hm : VD N mc) (h2 : ∀ k, k < 7 → made k = iI ((mc k : Int) - of7 k))
    (hIn : (∃ i, i < n ∧ rk i = kk mc (3 + N)) → post (iI (-2)) found (iI n)) (hNew : (¬ ∃ i, i < n ∧ rk i = kk mc (3 + N)) → ∀ p f', p ≤ n → SRT (n + 1) (ins rk p (kk mc (3 + N))) → FCe N (n + 1) (ins rk p (kk mc (3 + N))) f' → post (iI ((p : Nat) : Int)) f' (iI ((n + 1 : Nat) : Int))) : VX11_enter post made found (iI n) := by
  have cmp : ∀ (i : Nat), i < n → ∀ (pp : Int32 → Prop), (rk i < kk mc (3 + N) → ∀ z : Int, -1000 ≤ z → z < 0 → pp (iI z)) → (rk i = kk mc (3 + N) → pp (iI 0)) → (kk mc (3 + N) < rk i → ∀ z : Int, 0 < z → z ≤ 1000 → pp (iI z)) → VX11_compare pp found made (iI i) := by
    intro i hi pp a1 a2 a3
    obtain ⟨c, hcv, e⟩ := rch_VD (hr i hi)
    have hd := dig_kk hN hcv
    rw [← e] at hd
    refine s11_compare (fc := c) (mc := mc) hN (by omega) hcv hm (fun k hk => by rw [hc i hi k hk, hd k hk]) h2 ?_ ?_ ?_
    · rw [← e]
      exact a1
    · rw [← e]
      exact a2
    · rw [← e]
      exact a3
  have hdm := dig_kk hN hm
  have wr : ∀ p, p ≤ n → (∀ i, i < p → rk i < kk mc (3 + N)) → (∀ i, p ≤ i → i < n → kk mc (3 + N) < rk i) → (¬ ∃ i, i < n ∧ rk i = kk mc (3 + N)) → VX11_enter_43 post made found (iI n) (iI p) := by
    intro p hp p1 p2 hnot
    have hS := ins_SRT hs hp p1 p2
    have L84 : ∀ (q m : Nat) (f : TA) (x2 : Int32), m + q = 7 → x2 = iI m → (∀ k, k < m → f (7 * p + k) = iI ((mc k : Int) - of7 k)) → (∀ t, t < 7 * p → f t = found t) → (∀ t, 7 * p + 7 ≤ t → t < 7 * n + 7 → f t = found (t - 7)) → VX11_enter_84 post made (q + 1) f (iI n) (iI p) x2 := by
      intro q
      induction q with
      | zero =>
        intro m f x2 hm7 e2 h3 h4 h5
        have : m = 7 := by omega
        subst this e2
        have e1 : (n : Int) + 1 = ((n + 1 : Nat) : Int) := by omega
        rw [VX11_enter_84]
        simp (disch := omega) only [VX11_enter_113, e1, iI_lit, lI_lit, iI_nI, iI_add, iI_sub, iI_mul, iI_neg, c_lt_t, c_lt_f, c_le_t, c_le_f, c_eq_t, c_eq_f, c_in_t, iI_clamp, Int.toNat_natCast, forall_eq, true_and, and_true, false_and, and_false, not_true_eq_false, not_false_eq_true, true_implies, false_implies, implies_true, forall_const, true_or, or_true, false_or, or_false, pk_us, vu_s, vL_s, vb_0, vb_1, if_true, if_false, ite_true, ite_false]
        refine hNew hnot p f hp hS (fun i hi k hk => ?_)
        by_cases c : i < p
        · rw [ins_l c, h4 _ (by omega)]
          exact hc i (by omega) k hk
        · by_cases d : i = p
          · subst d
            rw [ins_m, h3 k hk, hdm k hk]
          · rw [ins_r (by omega), h5 _ (by omega) (by omega), show 7 * i + k - 7 = 7 * (i - 1) + k by omega]
            exact hc (i - 1) (by omega) k hk
      | succ q ih =>
        intro m f x2 hm7 e2 h3 h4 h5
        subst e2
        have e7 : (7 * (p : Int) + (m : Int)).toNat = 7 * p + m := by omega
        have a2 := h2 m (by omega)
        rw [VX11_enter_84]
        simp (disch := omega) only [e7, a2, iI_lit, lI_lit, iI_nI, iI_add, iI_sub, iI_mul, iI_neg, c_lt_t, c_lt_f, c_le_t, c_le_f, c_eq_t, c_eq_f, c_in_t, iI_clamp, Int.toNat_natCast, forall_eq, true_and, and_true, false_and, and_false, not_true_eq_false, not_false_eq_true, true_implies, false_implies, implies_true, forall_const, true_or, or_true, false_or, or_false, pk_us, vu_s, vL_s, vb_0, vb_1, if_true, if_false, ite_true, ite_false]
        refine ih (m + 1) _ _ (by omega) (congrArg iI (by omega)) (fun k hk => ?_) (fun t ht => ?_) (fun t ht1 ht2 => ?_)
        · by_cases c : k = m
          · rw [c, pk_us]
          · rw [pk_un (by omega)]
            exact h3 k (by omega)
        · rw [pk_un (by omega)]
          exact h4 t ht
        · rw [pk_un (by omega)]
          exact h5 t ht1 ht2
    have L53 : ∀ (q m : Nat) (f : TA) (x2 : Int32), m = 7 * p + q → m ≤ 7 * n → x2 = iI ((m : Int) - 1) → (∀ t, t < m → f t = found t) → (∀ t, m + 7 ≤ t → t < 7 * n + 7 → f t = found (t - 7)) → VX11_enter_53 post made (q + 1) f (iI n) (iI p) x2 := by
      intro q
      induction q with
      | zero =>
        intro m f x2 hm7 hm8 e2 h3 h4
        subst e2
        have : m = 7 * p := by omega
        subst this
        rw [VX11_enter_53]
        simp (disch := omega) only [iI_lit, lI_lit, iI_nI, iI_add, iI_sub, iI_mul, iI_neg, c_lt_t, c_lt_f, c_le_t, c_le_f, c_eq_t, c_eq_f, c_in_t, iI_clamp, Int.toNat_natCast, forall_eq, true_and, and_true, false_and, and_false, not_true_eq_false, not_false_eq_true, true_implies, false_implies, implies_true, forall_const, true_or, or_true, false_or, or_false, pk_us, vu_s, vL_s, vb_0, vb_1, if_true, if_false, ite_true, ite_false]
        exact ⟨8, L84 7 0 f _ (by omega) rfl (fun k hk => absurd hk (Nat.not_lt_zero k)) (fun t ht => h3 t ht) (fun t h1 h2 => h4 t h1 h2)⟩
      | succ q ih =>
        intro m f x2 hm7 hm8 e2 h3 h4
        subst e2
        have e0 : (m : Int) - 1 = ((m - 1 : Nat) : Int) := by omega
        have e7 : (((m - 1 : Nat) : Int) + 7).toNat = m + 6 := by omega
        have a3 := h3 (m - 1) (by omega)
        rw [VX11_enter_53]
        simp (disch := omega) only [e0, e7, a3, iI_lit, lI_lit, iI_nI, iI_add, iI_sub, iI_mul, iI_neg, c_lt_t, c_lt_f, c_le_t, c_le_f, c_eq_t, c_eq_f, c_in_t, iI_clamp, Int.toNat_natCast, forall_eq, true_and, and_true, false_and, and_false, not_true_eq_false, not_false_eq_true, true_implies, false_implies, implies_true, forall_const, true_or, or_true, false_or, or_false, pk_us, vu_s, vL_s, vb_0, vb_1, if_true, if_false, ite_true, ite_false]
        refine ih (m - 1) _ _ (by omega) (by omega) (congrArg iI (by omega)) (fun t ht => ?_) (fun t ht1 ht2 => ?_)
        · rw [pk_un (by omega)]
          exact h3 t (by omega)
        · by_cases c : t = m + 6
          · rw [c, pk_us, show m + 6 - 7 = m - 1 by omega]
          · rw [pk_un c]
            exact h4 t (by omega) ht2
    unfold VX11_enter_43
    rintro y rfl
    refine ⟨7 * n - 7 * p + 1, L53 (7 * n - 7 * p) (7 * n) found _ (by omega) (Nat.le_refl _) ?_ (fun t _ => rfl) (fun t h1 h2 => absurd h1 (by omega))⟩
    simp only [iI_lit, lI_lit, iI_nI, iI_add, iI_sub, iI_mul, iI_neg, c_lt_t, c_lt_f, c_le_t, c_le_f, c_eq_t, c_eq_f, c_in_t, iI_clamp, Int.toNat_natCast, forall_eq, true_and, and_true, false_and, and_false, not_true_eq_false, not_false_eq_true, true_implies, false_implies, implies_true, forall_const, true_or, or_true, false_or, or_false, pk_us, vu_s, vL_s, vb_0, vb_1, if_true, if_false, ite_true, ite_false]
    exact congrArg iI (by omega)
  have L24 : ∀ p, p ≤ n → (∀ i, i < p → rk i < kk mc (3 + N)) → (p < n → kk mc (3 + N) ≤ rk p) → VX11_enter_24 post made found (iI n) (iI p) := by
    intro p hp p1 p2
    unfold VX11_enter_24
    by_cases c : p < n
    · refine ⟨fun q => absurd ((iI_le (by omega) (by omega) (by omega) (by omega)).mp q) (by omega), fun _ => ?_⟩
      refine cmp p c _ (fun q => absurd (p2 c) (by omega)) (fun q => ?_) (fun q z z1 z2 => ?_)
      · exact ⟨fun q => absurd rfl q, fun _ => hIn ⟨p, c, q⟩⟩
      · have h3 : ∀ i, p ≤ i → i < n → kk mc (3 + N) < rk i := by
          intro i hi1 hi2
          by_cases e : i = p
          · rw [e]
            exact q
          · have := hs p i (by omega) hi2
            omega
        refine ⟨fun _ => wr p hp p1 h3 ?_, fun q => absurd ((iI_eq (by omega) (by omega) (by omega) (by omega)).mp (q.trans (show (0 : Int32) = iI 0 from rfl))) (by omega)⟩
        rintro ⟨i, hi, e⟩
        by_cases f : i < p
        · have := p1 i f
          omega
        · have := h3 i (by omega) hi
          omega
    · refine ⟨fun _ => wr p hp p1 (fun i h1 h2 => absurd h1 (by omega)) ?_, fun q => absurd ((iI_le (by omega) (by omega) (by omega) (by omega)).mpr (by omega)) q⟩
      rintro ⟨i, hi, e⟩
      have := p1 i (by omega)
      omega
  have L2 : ∀ (q p : Nat) (x1 : Int32), p + q = n → x1 = iI p → (∀ i, i < p → rk i < kk mc (3 + N)) → VX11_enter_2 post made (q + 1) found (iI n) x1 := by
    intro q
    induction q with
    | zero =>
      intro p x1 hp e1 p1
      subst e1
      rw [VX11_enter_2]
      refine ⟨fun _ => L24 p (by omega) p1 (fun h => absurd h (by omega)), fun q => absurd ((iI_le (by omega) (by omega) (by omega) (by omega)).mpr (by omega)) q⟩
    | succ q ih =>
      intro p x1 hp e1 p1
      subst e1
      rw [VX11_enter_2]
      refine ⟨fun q => absurd ((iI_le (by omega) (by omega) (by omega) (by omega)).mp q) (by omega), fun _ => ?_⟩
      have z0 : (0 : Int32) = iI 0 := rfl
      refine cmp p (by omega) _ (fun q z z1 z2 => ?_) (fun q => ?_) (fun q z z1 z2 => ?_)
      · refine ⟨fun c => absurd ((iI_le (by omega) (by omega) (by omega) (by omega)).mp (z0 ▸ c)) (by omega), fun _ => ?_⟩
        refine ih (p + 1) _ (by omega) ?_ (fun i hi => ?_)
        · rw [show (1 : Int32) = iI 1 from rfl, iI_add]
          exact congrArg iI (by omega)
        · by_cases e : i = p
          · rw [e]
            exact q
          · exact p1 i (by omega)
      · refine ⟨fun _ => L24 p (by omega) p1 (fun _ => by omega), fun c => absurd ?_ c⟩
        rw [z0]
        exact (iI_le (by omega) (by omega) (by omega) (by omega)).mpr (by omega)
      · refine ⟨fun _ => L24 p (by omega) p1 (fun _ => by omega), fun c => absurd ?_ c⟩
        rw [z0]
        exact (iI_le (by omega) (by omega) (by omega) (by omega)).mpr (by omega)
  exact ⟨n + 1, L2 n 0 _ (by omega) rfl (fun i hi => absurd hi (Nat.not_lt_zero i))⟩
