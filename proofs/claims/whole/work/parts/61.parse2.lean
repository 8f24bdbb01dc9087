/-! PARSING A PROBLEM -/
theorem MT_cut {t b : Nat → Nat} {len k : Nat} (h : MT t b (len + 1) k) : MT t b len (min k len) := by
  obtain ⟨a1, a2, a3⟩ := h
  refine ⟨by omega, fun j hj => a2 j (by omega), fun c => ?_⟩
  have : min k len = k := by omega
  rw [this]
  exact a3 (by omega)
/-- the reference reads a kind -/
theorem s11_readKind {post : Int32 → Int32 → Prop} {input : Nat → Int32} {f : Nat → Nat} {n : Nat} {k : Nat → Nat} {at0 : Int32} (hn : n ≤ 16) (hb : ∀ j, j < n → input j = iI (f j)) (hf : ∀ j, j < n → 1 ≤ f j ∧ f j ≤ 127) (hk : ∀ w, w < 4 → MT (tx w) (bt f n) (lnT w) (k w))
    (h1 : ∀ w, w < 4 → lnT w ≤ k w + 1 → post (iI w) (iI ((lnT w - 1 : Nat) : Int))) (h2 : (∀ w, w < 4 → k w + 1 < lnT w) → ∀ M, (∀ w, w < 4 → k w ≤ M) → (M = 0 ∨ ∃ w, w < 4 ∧ M = k w) → post (iI (-2)) (iI M)) : VX11_readKind post input (iI n) at0 := by
  have key : ∀ (q w M : Nat) (x1 x2 x3 : Int32), w + q = 4 → M ≤ 9 → x2 = iI M → x3 = iI w → (∀ v, v < w → k v + 1 < lnT v) → (∀ v, v < w → k v ≤ M) → (M = 0 ∨ ∃ v, v < 4 ∧ M = k v) → VX11_readKind_4 post input (iI n) (q + 1) x1 x2 x3 := by
    intro q
    induction q with
    | zero =>
      intro w M x1 x2 x3 hw hM e2 e3 p1 p2 p3
      have : w = 4 := by omega
      subst this e2 e3
      rw [VX11_readKind_4]
      simp (disch := omega) only [iI_lit, lI_lit, iI_nI, iI_add, iI_sub, iI_mul, iI_neg, c_lt_t, c_lt_f, c_le_t, c_le_f, c_eq_t, c_eq_f, c_in_t, iI_clamp, Int.toNat_natCast, forall_eq, true_and, and_true, false_and, and_false, not_true_eq_false, not_false_eq_true, true_implies, false_implies, implies_true, forall_const, true_or, or_true, false_or, or_false, pk_us, vu_s, vL_s, vb_0, vb_1, if_true, if_false, ite_true, ite_false]
      exact h2 p1 M p2 p3
    | succ q ih =>
      intro w M x1 x2 x3 hw hM e2 e3 p1 p2 p3
      subst e2 e3
      have hw4 : w < 4 := by omega
      have hl := lnT_b w hw4
      have hkw := hk w hw4
      obtain ⟨l, el⟩ : ∃ l, lnT w = l + 1 := ⟨lnT w - 1, by omega⟩
      have hcut := MT_cut (el ▸ hkw)
      have hle : k w ≤ lnT w := hkw.1
      rw [VX11_readKind_4]
      simp (disch := omega) only [iI_lit, lI_lit, iI_nI, iI_add, iI_sub, iI_mul, iI_neg, c_lt_t, c_lt_f, c_le_t, c_le_f, c_eq_t, c_eq_f, c_in_t, iI_clamp, Int.toNat_natCast, forall_eq, true_and, and_true, false_and, and_false, not_true_eq_false, not_false_eq_true, true_implies, false_implies, implies_true, forall_const, true_or, or_true, false_or, or_false, pk_us, vu_s, vL_s, vb_0, vb_1, if_true, if_false, ite_true, ite_false]
      have h49 : VX11_readKind_49 post (fun t_at x2 x3 => VX11_readKind_4 post input (iI n) (q + 1) t_at x2 x3) input (iI n) x1 (iI M) (iI w) (iI ((min (k w) l : Nat) : Int)) := by
        unfold VX11_readKind_49
        refine s11_nameAt hw4 (by omega) ?_
        by_cases c : l ≤ k w
        · have hz : nmw w (min (k w) l) = 0 := by
            unfold nmw
            rw [if_neg (by omega)]
          have hm : min (k w) l = lnT w - 1 := by omega
          rw [hz]
          simp (disch := omega) only [hm, iI_lit, lI_lit, iI_nI, iI_add, iI_sub, iI_mul, iI_neg, c_lt_t, c_lt_f, c_le_t, c_le_f, c_eq_t, c_eq_f, c_in_t, iI_clamp, Int.toNat_natCast, forall_eq, true_and, and_true, false_and, and_false, not_true_eq_false, not_false_eq_true, true_implies, false_implies, implies_true, forall_const, true_or, or_true, false_or, or_false, pk_us, vu_s, vL_s, vb_0, vb_1, if_true, if_false, ite_true, ite_false]
          exact h1 w hw4 (by omega)
        · have hm : min (k w) l = k w := by omega
          have hz : nmw w (k w) = tx w (k w) := by
            unfold nmw
            rw [if_pos (by omega)]
          have htx := tx_pos w hw4 (k w) (by omega)
          rw [hm, hz]
          simp (disch := omega) only [mx_if, iI_lit, lI_lit, iI_nI, iI_add, iI_sub, iI_mul, iI_neg, c_lt_t, c_lt_f, c_le_t, c_le_f, c_eq_t, c_eq_f, c_in_t, iI_clamp, Int.toNat_natCast, forall_eq, true_and, and_true, false_and, and_false, not_true_eq_false, not_false_eq_true, true_implies, false_implies, implies_true, forall_const, true_or, or_true, false_or, or_false, pk_us, vu_s, vL_s, vb_0, vb_1, if_true, if_false, ite_true, ite_false]
          refine ih (w + 1) (max M (k w)) _ _ _ (by omega) (by omega) rfl (congrArg iI (by omega)) (fun v hv => ?_) (fun v hv => ?_) ?_
          · by_cases d : v = w
            · rw [d]
              omega
            · exact p1 v (by omega)
          · by_cases d : v = w
            · rw [d]
              omega
            · exact Nat.le_trans (p2 v (by omega)) (by omega)
          · by_cases d : M ≤ k w
            · exact Or.inr ⟨w, hw4, by omega⟩
            · rw [show max M (k w) = M by omega]
              exact p3
      have inner : ∀ (r j : Nat) (x4 : Int32), j + r = min (k w) l → x4 = iI j → VX11_readKind_12 post (fun t_at x2 x3 => VX11_readKind_4 post input (iI n) (q + 1) t_at x2 x3) input (iI n) (r + 1) x1 (iI M) (iI w) x4 := by
        intro r
        induction r with
        | zero =>
          intro j x4 hj e4
          subst e4
          have ej : j = min (k w) l := by omega
          rw [VX11_readKind_12]
          by_cases c1 : n ≤ j
          · refine ⟨fun _ => ?_, fun c => absurd ((iI_le (by omega) (by omega) (by omega) (by omega)).mpr (by omega)) c⟩
            rw [ej]
            exact h49
          · refine ⟨fun c => absurd ((iI_le (by omega) (by omega) (by omega) (by omega)).mp c) (by omega), fun _ => ?_⟩
            refine s11_nameAt hw4 (by omega) ?_
            by_cases c2 : nmw w j = 0
            · rw [c2]
              refine ⟨fun _ => ?_, fun c => absurd rfl c⟩
              rw [ej]
              exact h49
            · have hjl : j < l := by
                by_cases d : j < l
                · exact d
                · exfalso
                  apply c2
                  unfold nmw
                  rw [if_neg (by omega)]
              have htx := tx_pos w hw4 j (by omega)
              have hz : nmw w j = tx w j := by
                unfold nmw
                rw [if_pos (by omega)]
              have hne := hcut.2.2 (by omega)
              rw [← ej] at hne
              rw [hz]
              refine ⟨fun c => absurd ((iI_eq (by omega) (by omega) (by omega) (by omega)).mp (c.trans (show (0 : Int32) = iI 0 from rfl))) (by omega), fun _ => ?_⟩
              refine s11_nameAt hw4 (by omega) ?_
              rw [hz, iI_clamp (by omega) (by omega), Int.toNat_natCast, hb j (by omega)]
              refine ⟨(iI_in (by omega) (by omega)).mpr ⟨by omega, by omega⟩, fun _ => ?_, fun c => ?_⟩
              · rw [ej]
                exact h49
              · have hfj := hf j (by omega)
                have := (iI_eq (by omega) (by omega) (by omega) (by omega)).mp c
                rw [bt, if_pos (by omega)] at hne
                exact absurd (by omega) hne
        | succ r ihr =>
          intro j x4 hj e4
          subst e4
          have hbj := hcut.2.1 j (by omega)
          have htx := tx_pos w hw4 j (by omega)
          have hjn : j < n := by
            by_cases d : j < n
            · exact d
            · rw [bt, if_neg d] at hbj
              omega
          rw [bt, if_pos hjn] at hbj
          have hz : nmw w j = tx w j := by
            unfold nmw
            rw [if_pos (by omega)]
          rw [VX11_readKind_12]
          refine ⟨fun c => absurd ((iI_le (by omega) (by omega) (by omega) (by omega)).mp c) (by omega), fun _ => ?_⟩
          refine s11_nameAt hw4 (by omega) ?_
          rw [hz]
          refine ⟨fun c => absurd ((iI_eq (by omega) (by omega) (by omega) (by omega)).mp (c.trans (show (0 : Int32) = iI 0 from rfl))) (by omega), fun _ => ?_⟩
          refine s11_nameAt hw4 (by omega) ?_
          rw [hz, iI_clamp (by omega) (by omega), Int.toNat_natCast, hb j (by omega), hbj]
          refine ⟨(iI_in (by omega) (by omega)).mpr ⟨by omega, by omega⟩, fun c => absurd rfl c, fun _ => ?_⟩
          refine ihr (j + 1) _ (by omega) ?_
          rw [show (1 : Int32) = iI 1 from rfl, iI_add]
          exact congrArg iI (by omega)
      exact ⟨min (k w) l + 1, inner (min (k w) l) 0 _ (by omega) rfl⟩
  exact ⟨5, key 4 0 0 _ _ _ (by omega) (by omega) rfl rfl (fun v hv => absurd hv (Nat.not_lt_zero v)) (fun v hv => absurd hv (Nat.not_lt_zero v)) (Or.inl rfl)⟩
theorem s5_startOver {post : Int32 → (Nat → Int32) → (Nat → Int32) → (Nat → Int32) → Prop} {l l0 : Int32} {v wS iS : Nat → Int32} (h : ∀ v' wS' iS', (∀ x : Nat, x < 4 → v' x = iI x) → (∀ i, i < 3 → wS' i = iI 0) → (∀ x, x < 4 → iS' x = iI 0) → post l v' wS' iS') : VX5_startOver post l l0 v wS iS := by
  have k2 : ∀ (q m : Nat) (v' wS' iS' : Nat → Int32) (x2 : Int32), m + q = 4 → x2 = iI m → (∀ x : Nat, x < m → v' x = iI x) → (∀ i, i < 3 → wS' i = iI 0) → (∀ x, x < m → iS' x = iI 0) → VX5_startOver_30 post l (q + 1) l v' wS' iS' x2 := by
    intro q
    induction q with
    | zero =>
      intro m v' wS' iS' x2 hm e h1 h2 h3
      have : m = 4 := by omega
      subst this e
      rw [VX5_startOver_30]
      simp (disch := omega) only [iI_lit, lI_lit, iI_nI, iI_add, iI_sub, iI_mul, iI_neg, c_lt_t, c_lt_f, c_le_t, c_le_f, c_eq_t, c_eq_f, c_in_t, iI_clamp, Int.toNat_natCast, forall_eq, true_and, and_true, false_and, and_false, not_true_eq_false, not_false_eq_true, true_implies, false_implies, implies_true, forall_const, true_or, or_true, false_or, or_false, pk_us, vu_s, vL_s, vb_0, vb_1, if_true, if_false, ite_true, ite_false]
      exact h _ _ _ h1 h2 h3
    | succ q ih =>
      intro m v' wS' iS' x2 hm e h1 h2 h3
      subst e
      rw [VX5_startOver_30]
      simp (disch := omega) only [iI_lit, lI_lit, iI_nI, iI_add, iI_sub, iI_mul, iI_neg, c_lt_t, c_lt_f, c_le_t, c_le_f, c_eq_t, c_eq_f, c_in_t, iI_clamp, Int.toNat_natCast, forall_eq, true_and, and_true, false_and, and_false, not_true_eq_false, not_false_eq_true, true_implies, false_implies, implies_true, forall_const, true_or, or_true, false_or, or_false, pk_us, vu_s, vL_s, vb_0, vb_1, if_true, if_false, ite_true, ite_false]
      refine ih (m + 1) _ _ _ _ (by omega) (congrArg iI (by omega)) (fun x hx => ?_) h2 (fun x hx => ?_)
      · by_cases c : x = m
        · rw [c, pk_us]
        · rw [pk_un c]
          exact h1 x (by omega)
      · by_cases c : x = m
        · rw [c, vu_s]
        · rw [vu_n c]
          exact h3 x (by omega)
  have k1 : ∀ (q m : Nat) (wS' : Nat → Int32) (x2 : Int32), m + q = 3 → x2 = iI m → (∀ i, i < m → wS' i = iI 0) → VX5_startOver_7 post l (q + 1) l v wS' iS x2 := by
    intro q
    induction q with
    | zero =>
      intro m wS' x2 hm e h1
      have : m = 3 := by omega
      subst this e
      rw [VX5_startOver_7]
      simp (disch := omega) only [iI_lit, lI_lit, iI_nI, iI_add, iI_sub, iI_mul, iI_neg, c_lt_t, c_lt_f, c_le_t, c_le_f, c_eq_t, c_eq_f, c_in_t, iI_clamp, Int.toNat_natCast, forall_eq, true_and, and_true, false_and, and_false, not_true_eq_false, not_false_eq_true, true_implies, false_implies, implies_true, forall_const, true_or, or_true, false_or, or_false, pk_us, vu_s, vL_s, vb_0, vb_1, if_true, if_false, ite_true, ite_false]
      exact ⟨5, k2 4 0 _ _ _ _ (by omega) rfl (fun j hj => absurd hj (Nat.not_lt_zero j)) h1 (fun j hj => absurd hj (Nat.not_lt_zero j))⟩
    | succ q ih =>
      intro m wS' x2 hm e h1
      subst e
      rw [VX5_startOver_7]
      simp (disch := omega) only [iI_lit, lI_lit, iI_nI, iI_add, iI_sub, iI_mul, iI_neg, c_lt_t, c_lt_f, c_le_t, c_le_f, c_eq_t, c_eq_f, c_in_t, iI_clamp, Int.toNat_natCast, forall_eq, true_and, and_true, false_and, and_false, not_true_eq_false, not_false_eq_true, true_implies, false_implies, implies_true, forall_const, true_or, or_true, false_or, or_false, pk_us, vu_s, vL_s, vb_0, vb_1, if_true, if_false, ite_true, ite_false]
      refine ih (m + 1) _ _ (by omega) (congrArg iI (by omega)) (fun x hx => ?_)
      by_cases c : x = m
      · rw [c, vu_s]
      · rw [vu_n c]
        exact h1 x (by omega)
  exact ⟨4, k1 3 0 _ _ (by omega) rfl (fun j hj => absurd hj (Nat.not_lt_zero j))⟩
theorem s11_reset {post : Int32 → Int32 → Int32 → Int32 → (Nat → Int32) → (Nat → Int32) → (Nat → Int32) → Int32 → Int32 → Prop} {input v ln is : Nat → Int32} {k e l fd a r : Int32} (h : ∀ v' ln' is', (∀ x : Nat, x < 4 → v' x = iI x) → (∀ i, i < 3 → ln' i = iI 0) → (∀ x, x < 4 → is' x = iI 0) → post r k e l v' ln' is' fd a) : ∃ q, VX11_parseProblem_196 post input q k e l v ln is fd a r (iI 0) := by
  have k2 : ∀ (q m : Nat) (v' ln' is' : Nat → Int32) (x5 : Int32), m + q = 4 → x5 = iI m → (∀ x : Nat, x < m → v' x = iI x) → (∀ i, i < 3 → i < m → ln' i = iI 0) → (∀ x, x < m → is' x = iI 0) → VX11_parseProblem_196 post input (q + 1) k e l v' ln' is' fd a r x5 := by
    intro q
    induction q with
    | zero =>
      intro m v' ln' is' x2 hm e h1 h2 h3
      have : m = 4 := by omega
      subst this e
      rw [VX11_parseProblem_196]
      simp (disch := omega) only [iI_lit, lI_lit, iI_nI, iI_add, iI_sub, iI_mul, iI_neg, c_lt_t, c_lt_f, c_le_t, c_le_f, c_eq_t, c_eq_f, c_in_t, iI_clamp, Int.toNat_natCast, forall_eq, true_and, and_true, false_and, and_false, not_true_eq_false, not_false_eq_true, true_implies, false_implies, implies_true, forall_const, true_or, or_true, false_or, or_false, pk_us, vu_s, vL_s, vb_0, vb_1, if_true, if_false, ite_true, ite_false]
      exact h _ _ _ h1 (fun i hi => h2 i hi (by omega)) h3
    | succ q ih =>
      intro m v' ln' is' x2 hm e h1 h2 h3
      subst e
      rw [VX11_parseProblem_196]
      simp (disch := omega) only [r_3, iI_lit, lI_lit, iI_nI, iI_add, iI_sub, iI_mul, iI_neg, c_lt_t, c_lt_f, c_le_t, c_le_f, c_eq_t, c_eq_f, c_in_t, iI_clamp, Int.toNat_natCast, forall_eq, true_and, and_true, false_and, and_false, not_true_eq_false, not_false_eq_true, true_implies, false_implies, implies_true, forall_const, true_or, or_true, false_or, or_false, pk_us, vu_s, vL_s, vb_0, vb_1, if_true, if_false, ite_true, ite_false]
      refine ih (m + 1) _ _ _ _ (by omega) (congrArg iI (by omega)) (fun x hx => ?_) (fun x hx hx2 => ?_) (fun x hx => ?_)
      · by_cases c : x = m
        · rw [c, pk_us]
        · rw [pk_un c]
          exact h1 x (by omega)
      · by_cases c : x = m % 3
        · rw [c, pk_us]
        · rw [pk_un c]
          exact h2 x hx (by omega)
      · by_cases c : x = m
        · rw [c, pk_us]
        · rw [pk_un c]
          exact h3 x (by omega)
  exact ⟨5, k2 4 0 _ _ _ _ (by omega) rfl (fun j hj => absurd hj (Nat.not_lt_zero j)) (fun j hj hj2 => absurd hj2 (Nat.not_lt_zero j)) (fun j hj => absurd hj (Nat.not_lt_zero j))⟩
