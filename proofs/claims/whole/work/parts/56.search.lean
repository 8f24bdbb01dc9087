/-! SEARCHES -/
/-- the search: 0 none, 1 found, 2 too many steps; the word, its length, the steps, the greatest length -/
def srch (F : (Nat → Nat) → Nat → Nat) (N tgt : Nat) : Nat → (Nat → Nat) → Nat → Nat → Nat → Nat → Nat × (Nat → Nat) × Nat × Nat × Nat
  | 0, f, m, _, st, d => (0, f, m, st, d)
  | q + 1, f, m, x, st, d =>
    if N ≤ x then (if m = 0 then (0, f, m, st, d) else srch F N tgt q f (m - 1) (f (m - 1) + 1) st d)
    else if st = 20000 then (2, f, m, st, d)
    else if F (va_up f m x) (m + 1) = 0 then (if m + 1 = tgt then (1, va_up f m x, m + 1, st + 1, max d (m + 1)) else srch F N tgt q (va_up f m x) (m + 1) 0 (st + 1) (max d (m + 1)))
    else srch F N tgt q (va_up f m x) m (x + 1) (st + 1) d
theorem va_lt {f : Nat → Nat} {N m x : Nat} (hx : x < N) (h : ∀ j, j < m → f j < N) : ∀ j, j < m + 1 → va_up f m x j < N := by
  intro j hj
  by_cases c : j = m
  · rw [c, vu_s]
    exact hx
  · rw [vu_n c]
    exact h j (by omega)
theorem srch_inv {F : (Nat → Nat) → Nat → Nat} {N tgt : Nat} (ht : tgt ≤ 30) : ∀ (q : Nat) (f : Nat → Nat) (m x st d c : Nat) (f' : Nat → Nat) (m' st' d' : Nat), st ≤ 20000 → m < tgt → m ≤ d → d < tgt → (∀ j, j < m → f j < N) → srch F N tgt q f m x st d = (c, f', m', st', d') → (c = 0 ∨ (c = 1 ∧ m' = tgt ∧ 1 ≤ st') ∨ c = 2) ∧ d' ≤ tgt ∧ m' ≤ tgt ∧ st' ≤ 20000 ∧ (∀ j, j < m' → f' j < N) := by
  intro q
  induction q with
  | zero =>
    intro f m x st d c f' m' st' d' h1 h2 h3 h4 h5 h
    simp only [srch, Prod.mk.injEq] at h
    obtain ⟨rfl, rfl, rfl, rfl, rfl⟩ := h
    exact ⟨Or.inl rfl, by omega, by omega, h1, h5⟩
  | succ q ih =>
    intro f m x st d c f' m' st' d' h1 h2 h3 h4 h5 h
    rw [srch] at h
    by_cases c1 : N ≤ x
    · rw [if_pos c1] at h
      by_cases c2 : m = 0
      · rw [if_pos c2] at h
        simp only [Prod.mk.injEq] at h
        obtain ⟨rfl, rfl, rfl, rfl, rfl⟩ := h
        exact ⟨Or.inl rfl, by omega, by omega, h1, h5⟩
      · rw [if_neg c2] at h
        exact ih _ _ _ _ _ _ _ _ _ _ h1 (by omega) (by omega) h4 (fun j hj => h5 j (by omega)) h
    · rw [if_neg c1] at h
      have h6 := va_lt (x := x) (by omega) h5
      by_cases c3 : st = 20000
      · rw [if_pos c3] at h
        simp only [Prod.mk.injEq] at h
        obtain ⟨rfl, rfl, rfl, rfl, rfl⟩ := h
        exact ⟨Or.inr (Or.inr rfl), by omega, by omega, h1, h5⟩
      · rw [if_neg c3] at h
        by_cases c4 : F (va_up f m x) (m + 1) = 0
        · rw [if_pos c4] at h
          by_cases c5 : m + 1 = tgt
          · rw [if_pos c5] at h
            simp only [Prod.mk.injEq] at h
            obtain ⟨rfl, rfl, rfl, rfl, rfl⟩ := h
            exact ⟨Or.inr (Or.inl ⟨rfl, c5, by omega⟩), by omega, by omega, by omega, h6⟩
          · rw [if_neg c5] at h
            exact ih _ _ _ _ _ _ _ _ _ _ (by omega) (by omega) (by omega) (by omega) h6 h
        · rw [if_neg c4] at h
          exact ih _ _ _ _ _ _ _ _ _ _ (by omega) h2 h3 h4 (fun j hj => h6 j (by omega)) h
def scode (c st : Nat) : Int := if c = 1 then (st : Int) else if c = 0 then -2 else -4
theorem mx_if {a b : Nat} (ha : a < 1000) (hb : b < 1000) : (if iI (a : Int) < iI (b : Int) then iI (b : Int) else iI (a : Int)) = iI ((max a b : Nat) : Int) := by
  by_cases c : a < b
  · rw [if_pos ((iI_lt (by omega) (by omega) (by omega) (by omega)).mpr (by omega))]
    exact congrArg iI (by omega)
  · rw [if_neg (fun q => c (by have := (iI_lt (by omega) (by omega) (by omega) (by omega)).mp q; omega))]
    exact congrArg iI (by omega)
/-- the class -/
theorem s4_seek {post : Int32 → Int32 → (Nat → Int32) → (Nat → Int32) → (Nat → Int64) → (Nat → Int64) → (Nat → Int64) → Int32 → Prop} {K N e tgt : Nat} {V : Nat → Int} {wt : Nat → Int64} (hK : K ≤ 3) (hN : 2 ≤ N ∧ N ≤ 4) (he : 2 ≤ e ∧ e ≤ 4) (ht : tgt ≤ 30) (hV : ∀ x, x < 4 → -9 ≤ V x ∧ V x ≤ 9) (hw : ∀ x, x < 4 → wt x = lI (wK K V x)) :
    ∀ (q : Nat) (f : Nat → Nat) (m x st d t : Nat) (L T : Nat → Int32) (S A B : Nat → Int64) (x1 x4 x5 x6 x7 : Int32), 2 * (20000 - st) + m < q → st ≤ 20000 → m < tgt → m ≤ d → d < tgt → x ≤ N → t + m ≤ 2 * st → x7 = iI m → x1 = iI d → x4 = iI st → x5 = iI x → x6 = iI t → (∀ j, j < m → f j < N) → TI K (wK K V) f m L T S A B →
      (∀ c f' m' st' d', srch (shp K N V e) N tgt q f m x st d = (c, f', m', st', d') → ∀ L' T' S' A' B', TI K (wK K V) f' m' L' T' S' A' B' → post (iI (scode c st')) (iI d') L' T' S' A' B' (iI m')) →
      VX4_seek_14 post wt (iI K) (iI e) (iI tgt) (iI N) q x1 L T S A B x7 x4 x5 x6 := by
  intro q
  induction q with
  | zero =>
    intro f m x st d t L T S A B x1 x4 x5 x6 x7 hq
    exact absurd hq (Nat.not_lt_zero _)
  | succ q ih =>
    intro f m x st d t L T S A B x1 x4 x5 x6 x7 hq hst hm hmd hd hx htm e7 e1 e4 e5 e6 hf hTI hp
    subst e7 e1 e4 e5 e6
    rw [VX4_seek_14]
    rw [srch] at hp
    by_cases c1 : N ≤ x
    · rw [if_pos c1] at hp
      by_cases c2 : m = 0
      · subst c2
        rw [if_pos rfl] at hp
        simp (disch := omega) only [iI_lit, lI_lit, iI_nI, iI_add, iI_sub, iI_mul, iI_neg, c_lt_t, c_lt_f, c_le_t, c_le_f, c_eq_t, c_eq_f, c_in_t, iI_clamp, Int.toNat_natCast, forall_eq, true_and, and_true, false_and, and_false, not_true_eq_false, not_false_eq_true, true_implies, false_implies, implies_true, forall_const, true_or, or_true, false_or, or_false, pk_us, vu_s, vL_s, vb_0, vb_1, if_true, if_false, ite_true, ite_false]
        exact hp _ _ _ _ _ rfl _ _ _ _ _ hTI
      · rw [if_neg c2] at hp
        obtain ⟨k, rfl⟩ : ∃ k, m = k + 1 := ⟨m - 1, by omega⟩
        rw [Nat.add_sub_cancel] at hp
        simp (disch := omega) only [iI_lit, lI_lit, iI_nI, iI_add, iI_sub, iI_mul, iI_neg, c_lt_t, c_lt_f, c_le_t, c_le_f, c_eq_t, c_eq_f, c_in_t, iI_clamp, Int.toNat_natCast, forall_eq, true_and, and_true, false_and, and_false, not_true_eq_false, not_false_eq_true, true_implies, false_implies, implies_true, forall_const, true_or, or_true, false_or, or_false, pk_us, vu_s, vL_s, vb_0, vb_1, if_true, if_false, ite_true, ite_false]
        refine s8_pop (z := f k) (by omega) (hTI.2 k (by omega)).2.1 ?_
        simp (disch := omega) only [iI_lit, lI_lit, iI_nI, iI_add, iI_sub, iI_mul, iI_neg, c_lt_t, c_lt_f, c_le_t, c_le_f, c_eq_t, c_eq_f, c_in_t, iI_clamp, Int.toNat_natCast, forall_eq, true_and, and_true, false_and, and_false, not_true_eq_false, not_false_eq_true, true_implies, false_implies, implies_true, forall_const, true_or, or_true, false_or, or_false, pk_us, vu_s, vL_s, vb_0, vb_1, if_true, if_false, ite_true, ite_false]
        have hfk := hf k (by omega)
        exact ih f k (f k + 1) st d (t + 1) _ _ _ _ _ _ _ _ _ _ (by omega) hst (by omega) (by omega) hd (by omega) (by omega) rfl rfl rfl (congrArg iI (by omega)) (congrArg iI (by omega)) (fun j hj => hf j (by omega)) (TI_le hTI (by omega)) hp
    · rw [if_neg c1] at hp
      by_cases c3 : st = 20000
      · subst c3
        rw [if_pos rfl] at hp
        simp (disch := omega) only [iI_lit, lI_lit, iI_nI, iI_add, iI_sub, iI_mul, iI_neg, c_lt_t, c_lt_f, c_le_t, c_le_f, c_eq_t, c_eq_f, c_in_t, iI_clamp, Int.toNat_natCast, forall_eq, true_and, and_true, false_and, and_false, not_true_eq_false, not_false_eq_true, true_implies, false_implies, implies_true, forall_const, true_or, or_true, false_or, or_false, pk_us, vu_s, vL_s, vb_0, vb_1, if_true, if_false, ite_true, ite_false]
        exact hp _ _ _ _ _ rfl _ _ _ _ _ hTI
      · rw [if_neg c3] at hp
        simp (disch := omega) only [iI_lit, lI_lit, iI_nI, iI_add, iI_sub, iI_mul, iI_neg, c_lt_t, c_lt_f, c_le_t, c_le_f, c_eq_t, c_eq_f, c_in_t, iI_clamp, Int.toNat_natCast, forall_eq, true_and, and_true, false_and, and_false, not_true_eq_false, not_false_eq_true, true_implies, false_implies, implies_true, forall_const, true_or, or_true, false_or, or_false, pk_us, vu_s, vL_s, vb_0, vb_1, if_true, if_false, ite_true, ite_false]
        refine s8_pushx hK (by omega) (show x < 4 by omega) hw hTI (fun L' T' S' A' B' hLn hTI' => ?_)
        have h6 := va_lt (x := x) (by omega) hf
        refine s8_shortest (f := va_up f m x) (V := V) hK hN he hV (by omega) h6 hTI' ?_
        have hle := shp_le (K := K) (N := N) (V := V) (f := va_up f m x) (n := m + 1) he.1
        by_cases c4 : shp K N V e (va_up f m x) (m + 1) = 0
        · rw [if_pos c4] at hp
          rw [c4]
          by_cases c5 : m + 1 = tgt
          · rw [if_pos c5] at hp
            have c5' : ((m + 1 : Nat) : Int) = (tgt : Int) := by omega
            simp (disch := omega) only [mx_if, c5', iI_lit, lI_lit, iI_nI, iI_add, iI_sub, iI_mul, iI_neg, c_lt_t, c_lt_f, c_le_t, c_le_f, c_eq_t, c_eq_f, c_in_t, iI_clamp, Int.toNat_natCast, forall_eq, true_and, and_true, false_and, and_false, not_true_eq_false, not_false_eq_true, true_implies, false_implies, implies_true, forall_const, true_or, or_true, false_or, or_false, pk_us, vu_s, vL_s, vb_0, vb_1, if_true, if_false, ite_true, ite_false]
            have h := hp _ _ _ _ _ rfl _ _ _ _ _ hTI'
            simp only [scode, if_true] at h
            have hmax : max d (m + 1) = tgt := by omega
            rw [hmax, c5', show ((st + 1 : Nat) : Int) = (st : Int) + 1 by omega] at h
            exact h
          · rw [if_neg c5] at hp
            simp (disch := omega) only [mx_if, iI_lit, lI_lit, iI_nI, iI_add, iI_sub, iI_mul, iI_neg, c_lt_t, c_lt_f, c_le_t, c_le_f, c_eq_t, c_eq_f, c_in_t, iI_clamp, Int.toNat_natCast, forall_eq, true_and, and_true, false_and, and_false, not_true_eq_false, not_false_eq_true, true_implies, false_implies, implies_true, forall_const, true_or, or_true, false_or, or_false, pk_us, vu_s, vL_s, vb_0, vb_1, if_true, if_false, ite_true, ite_false]
            exact ih _ (m + 1) 0 (st + 1) (max d (m + 1)) (t + 1) _ _ _ _ _ _ _ _ _ _ (by omega) (by omega) (by omega) (by omega) (by omega) (by omega) (by omega) rfl rfl (congrArg iI (by omega)) rfl (congrArg iI (by omega)) h6 hTI' hp
        · rw [if_neg c4] at hp
          simp (disch := omega) only [iI_lit, lI_lit, iI_nI, iI_add, iI_sub, iI_mul, iI_neg, c_lt_t, c_lt_f, c_le_t, c_le_f, c_eq_t, c_eq_f, c_in_t, iI_clamp, Int.toNat_natCast, forall_eq, true_and, and_true, false_and, and_false, not_true_eq_false, not_false_eq_true, true_implies, false_implies, implies_true, forall_const, true_or, or_true, false_or, or_false, pk_us, vu_s, vL_s, vb_0, vb_1, if_true, if_false, ite_true, ite_false]
          refine s8_pop (by omega) hLn ?_
          simp (disch := omega) only [iI_lit, lI_lit, iI_nI, iI_add, iI_sub, iI_mul, iI_neg, c_lt_t, c_lt_f, c_le_t, c_le_f, c_eq_t, c_eq_f, c_in_t, iI_clamp, Int.toNat_natCast, forall_eq, true_and, and_true, false_and, and_false, not_true_eq_false, not_false_eq_true, true_implies, false_implies, implies_true, forall_const, true_or, or_true, false_or, or_false, pk_us, vu_s, vL_s, vb_0, vb_1, if_true, if_false, ite_true, ite_false]
          exact ih _ m (x + 1) (st + 1) d (t + 1) _ _ _ _ _ _ _ _ _ _ (by omega) (by omega) (by omega) (by omega) (by omega) (by omega) (by omega) rfl rfl (congrArg iI (by omega)) (congrArg iI (by omega)) (congrArg iI (by omega)) (fun j hj => h6 j (by omega)) (TI_le hTI' (by omega)) hp
/-- the reference: what it does behind a letter or none -/
def gcS (post : Int32 → (Nat → Int32) → Int32 → Int32 → Prop) (kk ee nn : Int32) (values : Nat → Int32) (p1 : Int32) (n : Nat) (r_2 : Int32) (u_3 : Nat → Int32) (u_4 u_5 : Int32) : Prop := (¬ (r_2 = (-4)) → (¬ (r_2 = (-2)) → VX11_search_12 post kk ee nn values p1 n u_3 u_4 u_5 0) ∧ ((r_2 = (-2)) → (¬ (u_4 = 0) → vp_in (u_4 - 1) 45 ∧ (∀ y_6 : Int32, y_6 = (u_3 (u_4 - 1).toNatClampNeg) → VX11_search_12 post kk ee nn values p1 n u_3 (u_4 - 1) u_5 (y_6 + 1))) ∧ ((u_4 = 0) → post (-2 : Int32) u_3 u_4 u_5))) ∧ ((r_2 = (-4)) → post (-4 : Int32) u_3 u_4 u_5)
theorem s11_search_go {post : Int32 → (Nat → Int32) → Int32 → Int32 → Prop} {kk ee nn : Int32} {values row : Nat → Int32} {tgt m n : Nat} {st x2 : Int32} (ht : tgt ≤ 30) (hm : m < tgt) (h : VX11_goOn (gcS post kk ee nn values (iI tgt) n) kk ee nn values x2 (iI 20000) row (iI m) st) : VX11_search_12 post kk ee nn values (iI tgt) (n + 1) row (iI m) st x2 := by
  rw [VX11_search_12]
  refine ⟨fun c => absurd ((iI_le (by omega) (by omega) (by omega) (by omega)).mp c) (by omega), fun _ => ?_⟩
  rw [show (20000 : Int32) = iI 20000 from iI_lit 20000]
  exact h
theorem s11_srch {post : Int32 → (Nat → Int32) → Int32 → Int32 → Prop} {K N e tgt : Nat} {V : Nat → Int} {values : Nat → Int32} (hK : K ≤ 3) (hN : 2 ≤ N ∧ N ≤ 4) (he : 2 ≤ e ∧ e ≤ 4) (ht : tgt ≤ 30) (hV : ∀ x, x < 4 → (-9 ≤ V x ∧ V x ≤ 9) ∧ values x = iI (V x)) :
    ∀ (q n : Nat) (f : Nat → Nat) (m x st d : Nat) (row : Nat → Int32) (x3 x4 x5 p : Int32), q ≤ n → 2 * (20000 - st) + m < q → st ≤ 20000 → m < tgt → x ≤ N → x3 = iI x → x4 = iI m → x5 = iI st → (∀ j, j < m → row j = iI (f j) ∧ f j < N) →
      (∀ c f' m' st' d', srch (shp K N V e) N tgt q f m x st d = (c, f', m', st', d') → ∀ row', (∀ j, j < m' → row' j = iI (f' j)) → post (iI (if c = 1 then 1 else scode c st')) row' (iI m') (iI st')) →
      VX11_goOn_2 (gcS post (iI K) (iI e) (iI N) values (iI tgt) n) (iI K) (iI e) (iI N) values p (iI 20000) (N - x + 1) row x4 x5 x3 := by
  intro q
  induction q with
  | zero =>
    intro n f m x st d row x3 x4 x5 p hn hq
    exact absurd hq (Nat.not_lt_zero _)
  | succ q ih =>
    intro n f m x st d row x3 x4 x5 p hn hq hst hm hx e3 e4 e5 hr hp
    subst e3 e4 e5
    obtain ⟨n', rfl⟩ : ∃ n', n = n' + 1 := ⟨n - 1, by omega⟩
    rw [VX11_goOn_2]
    rw [srch] at hp
    by_cases c1 : N ≤ x
    · rw [if_pos c1] at hp
      by_cases c2 : m = 0
      · subst c2
        rw [if_pos rfl] at hp
        simp (disch := omega) only [gcS, iI_lit, lI_lit, iI_nI, iI_add, iI_sub, iI_mul, iI_neg, c_lt_t, c_lt_f, c_le_t, c_le_f, c_eq_t, c_eq_f, c_in_t, iI_clamp, Int.toNat_natCast, forall_eq, true_and, and_true, false_and, and_false, not_true_eq_false, not_false_eq_true, true_implies, false_implies, implies_true, forall_const, true_or, or_true, false_or, or_false, pk_us, vu_s, vL_s, vb_0, vb_1, if_true, if_false, ite_true, ite_false]
        exact hp _ _ _ _ _ rfl row (fun j hj => absurd hj (Nat.not_lt_zero j))
      · rw [if_neg c2] at hp
        obtain ⟨k, rfl⟩ : ∃ k, m = k + 1 := ⟨m - 1, by omega⟩
        rw [Nat.add_sub_cancel] at hp
        have e0 : ((k + 1 : Nat) : Int) - 1 = (k : Int) := by omega
        obtain ⟨r1, r2⟩ := hr k (by omega)
        simp (disch := omega) only [gcS, e0, r1, iI_lit, lI_lit, iI_nI, iI_add, iI_sub, iI_mul, iI_neg, c_lt_t, c_lt_f, c_le_t, c_le_f, c_eq_t, c_eq_f, c_in_t, iI_clamp, Int.toNat_natCast, forall_eq, true_and, and_true, false_and, and_false, not_true_eq_false, not_false_eq_true, true_implies, false_implies, implies_true, forall_const, true_or, or_true, false_or, or_false, pk_us, vu_s, vL_s, vb_0, vb_1, if_true, if_false, ite_true, ite_false]
        refine s11_search_go ht (by omega) ⟨_, ih n' f k (f k + 1) st d row _ _ _ _ (by omega) (by omega) hst (by omega) (by omega) (congrArg iI (by omega)) rfl rfl (fun j hj => hr j (by omega)) hp⟩
    · rw [if_neg c1] at hp
      by_cases c3 : st = 20000
      · subst c3
        rw [if_pos rfl] at hp
        simp (disch := omega) only [gcS, iI_lit, lI_lit, iI_nI, iI_add, iI_sub, iI_mul, iI_neg, c_lt_t, c_lt_f, c_le_t, c_le_f, c_eq_t, c_eq_f, c_in_t, iI_clamp, Int.toNat_natCast, forall_eq, true_and, and_true, false_and, and_false, not_true_eq_false, not_false_eq_true, true_implies, false_implies, implies_true, forall_const, true_or, or_true, false_or, or_false, pk_us, vu_s, vL_s, vb_0, vb_1, if_true, if_false, ite_true, ite_false]
        exact hp _ _ _ _ _ rfl row (fun j hj => (hr j hj).1)
      · rw [if_neg c3] at hp
        have ec : ((m : Int) + 1) = ((m + 1 : Nat) : Int) := by omega
        simp (disch := omega) only [ec, iI_lit, lI_lit, iI_nI, iI_add, iI_sub, iI_mul, iI_neg, c_lt_t, c_lt_f, c_le_t, c_le_f, c_eq_t, c_eq_f, c_in_t, iI_clamp, Int.toNat_natCast, forall_eq, true_and, and_true, false_and, and_false, not_true_eq_false, not_false_eq_true, true_implies, false_implies, implies_true, forall_const, true_or, or_true, false_or, or_false, pk_us, vu_s, vL_s, vb_0, vb_1, if_true, if_false, ite_true, ite_false]
        have h6 : ∀ j, j < m + 1 → upd row m (iI x) j = iI ((va_up f m x j : Nat) : Int) ∧ va_up f m x j < N := by
          intro j hj
          by_cases c : j = m
          · rw [c, vu_s, pk_us]
            exact ⟨rfl, by omega⟩
          · rw [vu_n c, pk_un c]
            exact hr j (by omega)
        refine s11_endsAt (f := va_up f m x) (V := V) hK hN he hV (by omega) (fun j hj => ⟨(h6 j hj).1, by have := (h6 j hj).2; omega⟩) ?_
        have hle := shp_le (K := K) (N := N) (V := V) (f := va_up f m x) (n := m + 1) he.1
        by_cases c4 : shp K N V e (va_up f m x) (m + 1) = 0
        · rw [if_pos c4] at hp
          rw [c4]
          by_cases c5 : m + 1 = tgt
          · rw [if_pos c5] at hp
            have h := hp _ _ _ _ _ rfl (upd row m (iI x)) (fun j hj => (h6 j hj).1)
            have es : ((st + 1 : Nat) : Int) = (st : Int) + 1 := by omega
            have et : ((m + 1 : Nat) : Int) = (tgt : Int) := by omega
            rw [if_pos rfl, es, et] at h
            simp (disch := omega) only [VX11_goOn_54, gcS, VX11_search_12, ec, et, iI_lit, lI_lit, iI_nI, iI_add, iI_sub, iI_mul, iI_neg, c_lt_t, c_lt_f, c_le_t, c_le_f, c_eq_t, c_eq_f, c_in_t, iI_clamp, Int.toNat_natCast, forall_eq, true_and, and_true, false_and, and_false, not_true_eq_false, not_false_eq_true, true_implies, false_implies, implies_true, forall_const, true_or, or_true, false_or, or_false, pk_us, vu_s, vL_s, vb_0, vb_1, if_true, if_false, ite_true, ite_false]
            exact h
          · rw [if_neg c5] at hp
            simp (disch := omega) only [VX11_goOn_54, gcS, ec, iI_lit, lI_lit, iI_nI, iI_add, iI_sub, iI_mul, iI_neg, c_lt_t, c_lt_f, c_le_t, c_le_f, c_eq_t, c_eq_f, c_in_t, iI_clamp, Int.toNat_natCast, forall_eq, true_and, and_true, false_and, and_false, not_true_eq_false, not_false_eq_true, true_implies, false_implies, implies_true, forall_const, true_or, or_true, false_or, or_false, pk_us, vu_s, vL_s, vb_0, vb_1, if_true, if_false, ite_true, ite_false]
            refine s11_search_go ht (by omega) ⟨_, ih n' _ (m + 1) 0 (st + 1) (max d (m + 1)) _ _ _ _ _ (by omega) (by omega) (by omega) (by omega) (by omega) rfl rfl (congrArg iI (by omega)) h6 hp⟩
        · rw [if_neg c4] at hp
          simp (disch := omega) only [iI_lit, lI_lit, iI_nI, iI_add, iI_sub, iI_mul, iI_neg, c_lt_t, c_lt_f, c_le_t, c_le_f, c_eq_t, c_eq_f, c_in_t, iI_clamp, Int.toNat_natCast, forall_eq, true_and, and_true, false_and, and_false, not_true_eq_false, not_false_eq_true, true_implies, false_implies, implies_true, forall_const, true_or, or_true, false_or, or_false, pk_us, vu_s, vL_s, vb_0, vb_1, if_true, if_false, ite_true, ite_false]
          have hfu : N - x = N - (x + 1) + 1 := by omega
          rw [hfu]
          exact ih (n' + 1) _ m (x + 1) (st + 1) d _ _ _ _ _ (by omega) (by omega) (by omega) hm (by omega) (congrArg iI (by omega)) rfl (congrArg iI (by omega)) (fun j hj => h6 j (by omega)) hp
