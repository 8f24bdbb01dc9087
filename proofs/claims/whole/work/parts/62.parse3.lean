theorem k_two {f : Nat → Nat} {n : Nat} {k : Nat → Nat} (hk : ∀ w, w < 4 → MT (tx w) (bt f n) (lnT w) (k w)) {w v : Nat} (hw : w < 4) (hv : v < 4) (h1 : 2 ≤ k w) (h2 : 2 ≤ k v) : w = v := by
  refine tx_two w hw v hv ?_ ?_
  · rw [← (hk w hw).2.1 0 (by omega), ← (hk v hv).2.1 0 (by omega)]
  · rw [← (hk w hw).2.1 1 (by omega), ← (hk v hv).2.1 1 (by omega)]
theorem dgt_f {b : Nat} (h : ¬ (50 ≤ b ∧ b ≤ 52)) : dgt b = 0 := by
  unfold dgt
  rw [if_neg h]
theorem dgt_t {b : Nat} (h : 50 ≤ b ∧ b ≤ 52) : dgt b = b - 48 := by
  unfold dgt
  rw [if_pos h]
/-- the reference, where the name and its space stand -/
theorem s11_problem {post : Int32 → Int32 → Int32 → Int32 → (Nat → Int32) → (Nat → Int32) → (Nat → Int32) → Int32 → Int32 → Prop} {input v ln is : Nat → Int32} {f : Nat → Nat} {n N B : Nat} {k : Nat → Nat} {k0 e0 at0 : Int32} (hN : 2 ≤ N ∧ N ≤ 4) (hn : n ≤ 16) (hb : ∀ j, j < n → input j = iI (f j)) (hf : ∀ j, j < n → 1 ≤ f j ∧ f j ≤ 127) (hk : ∀ w, w < 4 → MT (tx w) (bt f n) (lnT w) (k w)) (hB : B < 4) (hA : k B = lnT B)
    (hF : ∀ p at1, ((¬ (50 ≤ bt f n (lnT B) ∧ bt f n (lnT B) ≤ 52) ∧ p = lnT B) ∨ ((50 ≤ bt f n (lnT B) ∧ bt f n (lnT B) ≤ 52) ∧ bt f n (lnT B + 1) ≠ 32 ∧ p = lnT B + 1) ∨ ((50 ≤ bt f n (lnT B) ∧ bt f n (lnT B) ≤ 52) ∧ bt f n (lnT B + 1) = 32 ∧ ¬ (50 ≤ bt f n (lnT B + 2) ∧ bt f n (lnT B + 2) ≤ 52) ∧ p = lnT B + 2) ∨ ((50 ≤ bt f n (lnT B) ∧ bt f n (lnT B) ≤ 52) ∧ bt f n (lnT B + 1) = 32 ∧ (50 ≤ bt f n (lnT B + 2) ∧ bt f n (lnT B + 2) ≤ 52) ∧ lnT B + 3 < n ∧ p = lnT B + 3)) → post (iI (-100 - (p : Int))) k0 e0 (iI N) v ln is (iI 0) at1)
    (hS : (50 ≤ bt f n (lnT B) ∧ bt f n (lnT B) ≤ 52) → bt f n (lnT B + 1) = 32 → (50 ≤ bt f n (lnT B + 2) ∧ bt f n (lnT B + 2) ≤ 52) → n ≤ lnT B + 3 → ∀ at1, (bt f n (lnT B + 2) - 48 = N → post (iI ((bt f n (lnT B) - 48 : Nat) : Int)) (iI B) (iI ((bt f n (lnT B) - 48 : Nat) : Int)) (iI N) v ln is (iI 0) at1) ∧ (bt f n (lnT B + 2) - 48 ≠ N → ∀ v' ln' is', (∀ x : Nat, x < 4 → v' x = iI x) → (∀ i, i < 3 → ln' i = iI 0) → (∀ x, x < 4 → is' x = iI 0) → post (iI ((bt f n (lnT B) - 48 : Nat) : Int)) (iI B) (iI ((bt f n (lnT B) - 48 : Nat) : Int)) (iI ((bt f n (lnT B + 2) - 48 : Nat) : Int)) v' ln' is' (iI 0) at1)) :
    VX11_parseProblem post input k0 e0 (iI N) v ln is (iI n) at0 := by
  have hl := lnT_b B hB
  have hsp : bt f n (lnT B - 1) = 32 := by
    rw [(hk B hB).2.1 _ (by omega)]
    exact tx_32 B hB
  have l0 := bt_le hf (lnT B)
  have l1 := bt_le hf (lnT B + 1)
  have l2 := bt_le hf (lnT B + 2)
  obtain ⟨b0, e0'⟩ : ∃ b, bt f n (lnT B) = b := ⟨_, rfl⟩
  obtain ⟨b1, e1'⟩ : ∃ b, bt f n (lnT B + 1) = b := ⟨_, rfl⟩
  obtain ⟨b2, e2'⟩ : ∃ b, bt f n (lnT B + 2) = b := ⟨_, rfl⟩
  rw [e0', e1', e2'] at hF hS
  rw [e0'] at l0
  rw [e1'] at l1
  rw [e2'] at l2
  unfold VX11_parseProblem
  refine s11_readKind hn hb hf hk (fun w hw hwk => ?_) (fun hall => absurd (hall B hB) (by omega))
  have hwl := lnT_b w hw
  have hwB : w = B := k_two hk hw hB (by omega) (by omega)
  subst hwB
  have q0 : ((lnT w - 1 : Nat) : Int) + 1 = (lnT w : Int) := by omega
  have q1 : (lnT w : Int) + 1 = ((lnT w + 1 : Nat) : Int) := by omega
  have q2 : ((lnT w + 1 : Nat) : Int) + 1 = ((lnT w + 2 : Nat) : Int) := by omega
  have q3 : ((lnT w + 2 : Nat) : Int) + 1 = ((lnT w + 3 : Nat) : Int) := by omega
  simp (disch := omega) only [q0, q1, q2, q3, iI_lit, lI_lit, iI_nI, iI_add, iI_sub, iI_mul, iI_neg, c_lt_t, c_lt_f, c_le_t, c_le_f, c_eq_t, c_eq_f, c_in_t, iI_clamp, Int.toNat_natCast, forall_eq, true_and, and_true, false_and, and_false, not_true_eq_false, not_false_eq_true, true_implies, false_implies, implies_true, forall_const, true_or, or_true, false_or, or_false, pk_us, vu_s, vL_s, vb_0, vb_1, if_true, if_false, ite_true, ite_false]
  refine s11_sign (f := f) hn (by omega) hb ?_
  rw [hsp]
  simp (disch := omega) only [iI_lit, lI_lit, iI_nI, iI_add, iI_sub, iI_mul, iI_neg, c_lt_t, c_lt_f, c_le_t, c_le_f, c_eq_t, c_eq_f, c_in_t, iI_clamp, Int.toNat_natCast, forall_eq, true_and, and_true, false_and, and_false, not_true_eq_false, not_false_eq_true, true_implies, false_implies, implies_true, forall_const, true_or, or_true, false_or, or_false, pk_us, vu_s, vL_s, vb_0, vb_1, if_true, if_false, ite_true, ite_false]
  refine s11_sign (f := f) hn (by omega) hb ?_
  rw [e0']
  by_cases c0 : 50 ≤ b0 ∧ b0 ≤ 52
  · have qb : (b0 : Int) - 48 = ((b0 - 48 : Nat) : Int) := by omega
    simp (disch := omega) only [VX11_isIn, qb, iI_lit, lI_lit, iI_nI, iI_add, iI_sub, iI_mul, iI_neg, c_lt_t, c_lt_f, c_le_t, c_le_f, c_eq_t, c_eq_f, c_in_t, iI_clamp, Int.toNat_natCast, forall_eq, true_and, and_true, false_and, and_false, not_true_eq_false, not_false_eq_true, true_implies, false_implies, implies_true, forall_const, true_or, or_true, false_or, or_false, pk_us, vu_s, vL_s, vb_0, vb_1, if_true, if_false, ite_true, ite_false]
    refine s11_sign (f := f) hn (by omega) hb ?_
    rw [e1']
    by_cases c1 : b1 = 32
    · subst c1
      simp (disch := omega) only [iI_lit, lI_lit, iI_nI, iI_add, iI_sub, iI_mul, iI_neg, c_lt_t, c_lt_f, c_le_t, c_le_f, c_eq_t, c_eq_f, c_in_t, iI_clamp, Int.toNat_natCast, forall_eq, true_and, and_true, false_and, and_false, not_true_eq_false, not_false_eq_true, true_implies, false_implies, implies_true, forall_const, true_or, or_true, false_or, or_false, pk_us, vu_s, vL_s, vb_0, vb_1, if_true, if_false, ite_true, ite_false]
      refine s11_sign (f := f) hn (by omega) hb ?_
      rw [e2']
      by_cases c2 : 50 ≤ b2 ∧ b2 ≤ 52
      · have qc : (b2 : Int) - 48 = ((b2 - 48 : Nat) : Int) := by omega
        by_cases c3 : n ≤ lnT w + 3
        · obtain ⟨s1, s2⟩ := hS c0 rfl c2 c3 (iI ((lnT w + 3 : Nat) : Int))
          by_cases c4 : b2 - 48 = N
          · have c4' : ((b2 - 48 : Nat) : Int) = (N : Int) := by omega
            simp (disch := omega) only [qc, c4', iI_lit, lI_lit, iI_nI, iI_add, iI_sub, iI_mul, iI_neg, c_lt_t, c_lt_f, c_le_t, c_le_f, c_eq_t, c_eq_f, c_in_t, iI_clamp, Int.toNat_natCast, forall_eq, true_and, and_true, false_and, and_false, not_true_eq_false, not_false_eq_true, true_implies, false_implies, implies_true, forall_const, true_or, or_true, false_or, or_false, pk_us, vu_s, vL_s, vb_0, vb_1, if_true, if_false, ite_true, ite_false]
            exact s1 c4
          · simp (disch := omega) only [qc, iI_lit, lI_lit, iI_nI, iI_add, iI_sub, iI_mul, iI_neg, c_lt_t, c_lt_f, c_le_t, c_le_f, c_eq_t, c_eq_f, c_in_t, iI_clamp, Int.toNat_natCast, forall_eq, true_and, and_true, false_and, and_false, not_true_eq_false, not_false_eq_true, true_implies, false_implies, implies_true, forall_const, true_or, or_true, false_or, or_false, pk_us, vu_s, vL_s, vb_0, vb_1, if_true, if_false, ite_true, ite_false]
            exact s11_reset (fun v' ln' is' h1 h2 h3 => s2 c4 v' ln' is' h1 h2 h3)
        · simp (disch := omega) only [qc, iI_lit, lI_lit, iI_nI, iI_add, iI_sub, iI_mul, iI_neg, c_lt_t, c_lt_f, c_le_t, c_le_f, c_eq_t, c_eq_f, c_in_t, iI_clamp, Int.toNat_natCast, forall_eq, true_and, and_true, false_and, and_false, not_true_eq_false, not_false_eq_true, true_implies, false_implies, implies_true, forall_const, true_or, or_true, false_or, or_false, pk_us, vu_s, vL_s, vb_0, vb_1, if_true, if_false, ite_true, ite_false]
          exact hF _ _ (Or.inr (Or.inr (Or.inr ⟨c0, rfl, c2, by omega, rfl⟩)))
      · have hh := hF (lnT w + 2) (iI ((lnT w + 2 : Nat) : Int)) (Or.inr (Or.inr (Or.inl ⟨c0, rfl, c2, rfl⟩)))
        by_cases c3 : b2 < 50
        · simp (disch := omega) only [iI_lit, lI_lit, iI_nI, iI_add, iI_sub, iI_mul, iI_neg, c_lt_t, c_lt_f, c_le_t, c_le_f, c_eq_t, c_eq_f, c_in_t, iI_clamp, Int.toNat_natCast, forall_eq, true_and, and_true, false_and, and_false, not_true_eq_false, not_false_eq_true, true_implies, false_implies, implies_true, forall_const, true_or, or_true, false_or, or_false, pk_us, vu_s, vL_s, vb_0, vb_1, if_true, if_false, ite_true, ite_false]
          exact hh
        · simp (disch := omega) only [iI_lit, lI_lit, iI_nI, iI_add, iI_sub, iI_mul, iI_neg, c_lt_t, c_lt_f, c_le_t, c_le_f, c_eq_t, c_eq_f, c_in_t, iI_clamp, Int.toNat_natCast, forall_eq, true_and, and_true, false_and, and_false, not_true_eq_false, not_false_eq_true, true_implies, false_implies, implies_true, forall_const, true_or, or_true, false_or, or_false, pk_us, vu_s, vL_s, vb_0, vb_1, if_true, if_false, ite_true, ite_false]
          exact hh
    · simp (disch := omega) only [iI_lit, lI_lit, iI_nI, iI_add, iI_sub, iI_mul, iI_neg, c_lt_t, c_lt_f, c_le_t, c_le_f, c_eq_t, c_eq_f, c_in_t, iI_clamp, Int.toNat_natCast, forall_eq, true_and, and_true, false_and, and_false, not_true_eq_false, not_false_eq_true, true_implies, false_implies, implies_true, forall_const, true_or, or_true, false_or, or_false, pk_us, vu_s, vL_s, vb_0, vb_1, if_true, if_false, ite_true, ite_false]
      exact hF _ _ (Or.inr (Or.inl ⟨c0, c1, rfl⟩))
  · have hh := hF (lnT w) (iI (lnT w)) (Or.inl ⟨c0, rfl⟩)
    by_cases c3 : b0 < 50
    · simp (disch := omega) only [VX11_isIn, iI_lit, lI_lit, iI_nI, iI_add, iI_sub, iI_mul, iI_neg, c_lt_t, c_lt_f, c_le_t, c_le_f, c_eq_t, c_eq_f, c_in_t, iI_clamp, Int.toNat_natCast, forall_eq, true_and, and_true, false_and, and_false, not_true_eq_false, not_false_eq_true, true_implies, false_implies, implies_true, forall_const, true_or, or_true, false_or, or_false, pk_us, vu_s, vL_s, vb_0, vb_1, if_true, if_false, ite_true, ite_false]
      exact hh
    · simp (disch := omega) only [VX11_isIn, iI_lit, lI_lit, iI_nI, iI_add, iI_sub, iI_mul, iI_neg, c_lt_t, c_lt_f, c_le_t, c_le_f, c_eq_t, c_eq_f, c_in_t, iI_clamp, Int.toNat_natCast, forall_eq, true_and, and_true, false_and, and_false, not_true_eq_false, not_false_eq_true, true_implies, false_implies, implies_true, forall_const, true_or, or_true, false_or, or_false, pk_us, vu_s, vL_s, vb_0, vb_1, if_true, if_false, ite_true, ite_false]
      exact hh
theorem L_parseProblem {K e N : Nat} (hK : K ≤ 3) (he : 2 ≤ e ∧ e ≤ 4) (hN : 2 ≤ N ∧ N ≤ 4) {cv mv : Nat → Int32} (hv : EV cv mv) {wL : Nat → Nat → Int32} {wS words lengths : Nat → Int32} (hw : EW N wL wS words lengths) {iL : Nat → Nat → Int32} {iS images sizes : Nat → Int32} (hI : EI N iL iS images sizes) {bytes input : Nat → Int32} {size fed : Int32} (hR : RIn bytes size input fed) (at0 : Int32)
    {P : Int32 → Int32 → Int32 → Int32 → Int32 → (Nat → Int32) → (Nat → Int32) → (Nat → Int32) → Int32 → Int32 → Int32 → Int32 → (Nat → Int32) → (Nat → Int32) → (Nat → Int32) → Int32 → Int32 → Prop}
    (hP : ∀ r K' e' N' cv' wS' iS' mv' ln' is' at', K' ≤ 3 → (2 ≤ e' ∧ e' ≤ 4) → (2 ≤ N' ∧ N' ≤ 4) → EV cv' mv' → EW N' wL wS' words ln' → EI N' iL iS' images is' → P r (iI 0) (iI ((K' : Nat) : Int)) (iI ((e' : Nat) : Int)) (iI ((N' : Nat) : Int)) cv' wS' iS' r (iI ((K' : Nat) : Int)) (iI ((e' : Nat) : Int)) (iI ((N' : Nat) : Int)) mv' ln' is' (iI 0) at') :
    VX10_parseProblem (fun r s k' e' l' cv' wS' iS' => VX11_parseProblem (fun r2 k2 e2 l2 v2 ln2 is2 fd2 at2 => P r s k' e' l' cv' wS' iS' r2 k2 e2 l2 v2 ln2 is2 fd2 at2) input (iI K) (iI e) (iI N) mv lengths sizes fed at0) bytes size (iI K) (iI e) (iI N) cv wS iS := by
  obtain ⟨n, f, hn, hf, rfl, rfl, hbb⟩ := hR
  have hb : ∀ j, j < n → bytes j = iI (f j) := fun j hj => (hbb j hj).1
  have hb2 : ∀ j, j < n → input j = iI (f j) := fun j hj => (hbb j hj).2
  obtain ⟨k, hk⟩ : ∃ k : Nat → Nat, ∀ w, w < 4 → MT (tx w) (bt f n) (lnT w) (k w) := ⟨fun w => (MT_ex (tx w) (bt f n) (lnT w)).choose, fun w _ => (MT_ex (tx w) (bt f n) (lnT w)).choose_spec⟩
  unfold VX10_parseProblem
  refine s1_likeliest hn hb hf hk (fun B hB hmax => ?_)
  have hl := lnT_b B hB
  have el : lenJ.getD B 0 = lnT B := rfl
  refine s1_kindText hB ?_
  unfold VX1_problemFault
  refine s1_kindText hB ?_
  refine s1_matched hB hn hb hf (fun k1 hk1 => ?_)
  have e1 := MT_u hk1 (hk B hB)
  subst e1
  have hkl := (hk B hB).1
  have p2 : (lnT B : Int) + 2 = ((lnT B + 2 : Nat) : Int) := by omega
  by_cases c : k B < lnT B
  · simp (disch := omega) only [el, p2, iI_lit, lI_lit, iI_nI, iI_add, iI_sub, iI_mul, iI_neg, c_lt_t, c_lt_f, c_le_t, c_le_f, c_eq_t, c_eq_f, c_in_t, iI_clamp, Int.toNat_natCast, forall_eq, true_and, and_true, false_and, and_false, not_true_eq_false, not_false_eq_true, true_implies, false_implies, implies_true, forall_const, true_or, or_true, false_or, or_false, pk_us, vu_s, vL_s, vb_0, vb_1, if_true, if_false, ite_true, ite_false]
    refine s1_digitAt hn (by omega) hb hf ?_
    refine s1_digitAt hn (by omega) hb hf ?_
    unfold VX11_parseProblem
    refine s11_readKind hn hb2 hf hk (fun w hw' hwk => ?_) (fun hall M hM1 hM2 => ?_)
    · have hwl := lnT_b w hw'
      have hwm := hmax w hw'
      have hwB : w = B := k_two hk hw' hB (by omega) (by omega)
      subst hwB
      have hne := (hk w hB).2.2 c
      have hkk : k w = lnT w - 1 := by omega
      rw [hkk, tx_32 w hB] at hne
      have hle := bt_le hf (lnT w - 1)
      simp (disch := omega) only [iI_lit, lI_lit, iI_nI, iI_add, iI_sub, iI_mul, iI_neg, c_lt_t, c_lt_f, c_le_t, c_le_f, c_eq_t, c_eq_f, c_in_t, iI_clamp, Int.toNat_natCast, forall_eq, true_and, and_true, false_and, and_false, not_true_eq_false, not_false_eq_true, true_implies, false_implies, implies_true, forall_const, true_or, or_true, false_or, or_false, pk_us, vu_s, vL_s, vb_0, vb_1, if_true, if_false, ite_true, ite_false]
      refine s11_sign (f := f) hn (by omega) hb2 ?_
      simp (disch := omega) only [hkk, iI_lit, lI_lit, iI_nI, iI_add, iI_sub, iI_mul, iI_neg, c_lt_t, c_lt_f, c_le_t, c_le_f, c_eq_t, c_eq_f, c_in_t, iI_clamp, Int.toNat_natCast, forall_eq, true_and, and_true, false_and, and_false, not_true_eq_false, not_false_eq_true, true_implies, false_implies, implies_true, forall_const, true_or, or_true, false_or, or_false, pk_us, vu_s, vL_s, vb_0, vb_1, if_true, if_false, ite_true, ite_false]
      exact hP _ _ _ _ _ _ _ _ _ _ _ hK he hN hv hw hI
    · have hM : M = k B := by
        rcases hM2 with rfl | ⟨w, hw', rfl⟩
        · have := hM1 B hB
          omega
        · have h1 := hM1 B hB
          have h2 := hmax w hw'
          omega
      subst hM
      simp (disch := omega) only [iI_lit, lI_lit, iI_nI, iI_add, iI_sub, iI_mul, iI_neg, c_lt_t, c_lt_f, c_le_t, c_le_f, c_eq_t, c_eq_f, c_in_t, iI_clamp, Int.toNat_natCast, forall_eq, true_and, and_true, false_and, and_false, not_true_eq_false, not_false_eq_true, true_implies, false_implies, implies_true, forall_const, true_or, or_true, false_or, or_false, pk_us, vu_s, vL_s, vb_0, vb_1, if_true, if_false, ite_true, ite_false]
      exact hP _ _ _ _ _ _ _ _ _ _ _ hK he hN hv hw hI
  · have hA : k B = lnT B := by omega
    have p1 : (lnT B : Int) + 1 = ((lnT B + 1 : Nat) : Int) := by omega
    have p3 : (lnT B : Int) + 3 = ((lnT B + 3 : Nat) : Int) := by omega
    have l0 := bt_le hf (lnT B)
    have l1 := bt_le hf (lnT B + 1)
    have l2 := bt_le hf (lnT B + 2)
    simp (disch := omega) only [el, hA, p1, p2, p3, iI_lit, lI_lit, iI_nI, iI_add, iI_sub, iI_mul, iI_neg, c_lt_t, c_lt_f, c_le_t, c_le_f, c_eq_t, c_eq_f, c_in_t, iI_clamp, Int.toNat_natCast, forall_eq, true_and, and_true, false_and, and_false, not_true_eq_false, not_false_eq_true, true_implies, false_implies, implies_true, forall_const, true_or, or_true, false_or, or_false, pk_us, vu_s, vL_s, vb_0, vb_1, if_true, if_false, ite_true, ite_false]
    refine s1_digitAt hn (by omega) hb hf ?_
    by_cases c0 : 50 ≤ bt f n (lnT B) ∧ bt f n (lnT B) ≤ 52
    · have d0 := dgt_t c0
      simp (disch := omega) only [d0, iI_lit, lI_lit, iI_nI, iI_add, iI_sub, iI_mul, iI_neg, c_lt_t, c_lt_f, c_le_t, c_le_f, c_eq_t, c_eq_f, c_in_t, iI_clamp, Int.toNat_natCast, forall_eq, true_and, and_true, false_and, and_false, not_true_eq_false, not_false_eq_true, true_implies, false_implies, implies_true, forall_const, true_or, or_true, false_or, or_false, pk_us, vu_s, vL_s, vb_0, vb_1, if_true, if_false, ite_true, ite_false]
      refine s1_byteAt (f := f) hn (by omega) hb ?_
      by_cases c1 : bt f n (lnT B + 1) = 32
      · rw [c1]
        simp (disch := omega) only [iI_lit, lI_lit, iI_nI, iI_add, iI_sub, iI_mul, iI_neg, c_lt_t, c_lt_f, c_le_t, c_le_f, c_eq_t, c_eq_f, c_in_t, iI_clamp, Int.toNat_natCast, forall_eq, true_and, and_true, false_and, and_false, not_true_eq_false, not_false_eq_true, true_implies, false_implies, implies_true, forall_const, true_or, or_true, false_or, or_false, pk_us, vu_s, vL_s, vb_0, vb_1, if_true, if_false, ite_true, ite_false]
        refine s1_digitAt hn (by omega) hb hf ?_
        by_cases c2 : 50 ≤ bt f n (lnT B + 2) ∧ bt f n (lnT B + 2) ≤ 52
        · have d2 := dgt_t c2
          by_cases c3 : n ≤ lnT B + 3
          · simp (disch := omega) only [d2, iI_lit, lI_lit, iI_nI, iI_add, iI_sub, iI_mul, iI_neg, c_lt_t, c_lt_f, c_le_t, c_le_f, c_eq_t, c_eq_f, c_in_t, iI_clamp, Int.toNat_natCast, forall_eq, true_and, and_true, false_and, and_false, not_true_eq_false, not_false_eq_true, true_implies, false_implies, implies_true, forall_const, true_or, or_true, false_or, or_false, pk_us, vu_s, vL_s, vb_0, vb_1, if_true, if_false, ite_true, ite_false]
            refine s1_digitAt hn (by omega) hb hf ?_
            refine s1_digitAt hn (by omega) hb hf ?_
            rw [d0, d2]
            by_cases c4 : bt f n (lnT B + 2) - 48 = N
            · have c4' : ((bt f n (lnT B + 2) - 48 : Nat) : Int) = (N : Int) := by omega
              simp (disch := omega) only [c4', iI_lit, lI_lit, iI_nI, iI_add, iI_sub, iI_mul, iI_neg, c_lt_t, c_lt_f, c_le_t, c_le_f, c_eq_t, c_eq_f, c_in_t, iI_clamp, Int.toNat_natCast, forall_eq, true_and, and_true, false_and, and_false, not_true_eq_false, not_false_eq_true, true_implies, false_implies, implies_true, forall_const, true_or, or_true, false_or, or_false, pk_us, vu_s, vL_s, vb_0, vb_1, if_true, if_false, ite_true, ite_false]
              refine s11_problem hN hn hb2 hf hk hB hA (fun p at1 hp => ?_) (fun _ _ _ _ at1 => ⟨fun _ => ?_, fun q => absurd c4 q⟩)
              · omega
              · exact hP _ _ _ _ _ _ _ _ _ _ _ (by omega) (by omega) hN hv hw hI
            · simp (disch := omega) only [iI_lit, lI_lit, iI_nI, iI_add, iI_sub, iI_mul, iI_neg, c_lt_t, c_lt_f, c_le_t, c_le_f, c_eq_t, c_eq_f, c_in_t, iI_clamp, Int.toNat_natCast, forall_eq, true_and, and_true, false_and, and_false, not_true_eq_false, not_false_eq_true, true_implies, false_implies, implies_true, forall_const, true_or, or_true, false_or, or_false, pk_us, vu_s, vL_s, vb_0, vb_1, if_true, if_false, ite_true, ite_false]
              refine s5_startOver (fun v' wS' iS' a1 a2 a3 => ?_)
              refine s11_problem hN hn hb2 hf hk hB hA (fun p at1 hp => ?_) (fun _ _ _ _ at1 => ⟨fun q => absurd q c4, fun _ v2 ln2 is2 b1 b2 b3 => ?_⟩)
              · omega
              · refine hP _ _ _ _ _ _ _ _ _ _ _ (by omega) (by omega) (by omega) ⟨fun x => (x : Int), fun x hx => ⟨⟨by show -9 ≤ (x : Int); omega, by show (x : Int) ≤ 9; omega⟩, a1 x hx, b1 x hx⟩⟩ ⟨fun _ => 0, fun _ _ => 0, fun i hi => ⟨Nat.zero_le _, a2 i hi, b2 i hi, fun j hj => absurd hj (Nat.not_lt_zero j)⟩⟩ ⟨fun _ => 0, fun _ _ => 0, fun x hx => ⟨Nat.zero_le _, a3 x hx, b3 x hx, fun j hj => absurd hj (Nat.not_lt_zero j)⟩⟩
          · simp (disch := omega) only [d2, iI_lit, lI_lit, iI_nI, iI_add, iI_sub, iI_mul, iI_neg, c_lt_t, c_lt_f, c_le_t, c_le_f, c_eq_t, c_eq_f, c_in_t, iI_clamp, Int.toNat_natCast, forall_eq, true_and, and_true, false_and, and_false, not_true_eq_false, not_false_eq_true, true_implies, false_implies, implies_true, forall_const, true_or, or_true, false_or, or_false, pk_us, vu_s, vL_s, vb_0, vb_1, if_true, if_false, ite_true, ite_false]
            refine s1_digitAt hn (by omega) hb hf ?_
            refine s1_digitAt hn (by omega) hb hf ?_
            refine s11_problem hN hn hb2 hf hk hB hA (fun p at1 hp => ?_) (fun _ _ _ q => absurd q c3)
            have : p = lnT B + 3 := by omega
            subst this
            exact hP _ _ _ _ _ _ _ _ _ _ _ hK he hN hv hw hI
        · have d2 := dgt_f c2
          simp (disch := omega) only [d2, iI_lit, lI_lit, iI_nI, iI_add, iI_sub, iI_mul, iI_neg, c_lt_t, c_lt_f, c_le_t, c_le_f, c_eq_t, c_eq_f, c_in_t, iI_clamp, Int.toNat_natCast, forall_eq, true_and, and_true, false_and, and_false, not_true_eq_false, not_false_eq_true, true_implies, false_implies, implies_true, forall_const, true_or, or_true, false_or, or_false, pk_us, vu_s, vL_s, vb_0, vb_1, if_true, if_false, ite_true, ite_false]
          refine s1_digitAt hn (by omega) hb hf ?_
          refine s1_digitAt hn (by omega) hb hf ?_
          refine s11_problem hN hn hb2 hf hk hB hA (fun p at1 hp => ?_) (fun _ _ q => absurd q c2)
          have : p = lnT B + 2 := by omega
          subst this
          exact hP _ _ _ _ _ _ _ _ _ _ _ hK he hN hv hw hI
      · simp (disch := omega) only [iI_lit, lI_lit, iI_nI, iI_add, iI_sub, iI_mul, iI_neg, c_lt_t, c_lt_f, c_le_t, c_le_f, c_eq_t, c_eq_f, c_in_t, iI_clamp, Int.toNat_natCast, forall_eq, true_and, and_true, false_and, and_false, not_true_eq_false, not_false_eq_true, true_implies, false_implies, implies_true, forall_const, true_or, or_true, false_or, or_false, pk_us, vu_s, vL_s, vb_0, vb_1, if_true, if_false, ite_true, ite_false]
        refine s1_digitAt hn (by omega) hb hf ?_
        refine s1_digitAt hn (by omega) hb hf ?_
        refine s11_problem hN hn hb2 hf hk hB hA (fun p at1 hp => ?_) (fun _ q => absurd q c1)
        have : p = lnT B + 1 := by omega
        subst this
        exact hP _ _ _ _ _ _ _ _ _ _ _ hK he hN hv hw hI
    · have d0 := dgt_f c0
      simp (disch := omega) only [d0, iI_lit, lI_lit, iI_nI, iI_add, iI_sub, iI_mul, iI_neg, c_lt_t, c_lt_f, c_le_t, c_le_f, c_eq_t, c_eq_f, c_in_t, iI_clamp, Int.toNat_natCast, forall_eq, true_and, and_true, false_and, and_false, not_true_eq_false, not_false_eq_true, true_implies, false_implies, implies_true, forall_const, true_or, or_true, false_or, or_false, pk_us, vu_s, vL_s, vb_0, vb_1, if_true, if_false, ite_true, ite_false]
      refine s1_digitAt hn (by omega) hb hf ?_
      refine s1_digitAt hn (by omega) hb hf ?_
      refine s11_problem hN hn hb2 hf hk hB hA (fun p at1 hp => ?_) (fun q => absurd q c0)
      have : p = lnT B := by omega
      subst this
      exact hP _ _ _ _ _ _ _ _ _ _ _ hK he hN hv hw hI
