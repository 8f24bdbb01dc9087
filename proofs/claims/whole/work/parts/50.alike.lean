/-! BLOCKS THAT ARE ALIKE: the reference -/
theorem lgc (x y : Int64) : (lg_cmp x y = iI 0) = (x = y) := propext (lg_cmp_eq x y)
theorem vL_n {f : Nat → Int64} {k j : Nat} {x : Int64} (h : j ≠ k) : vp_updL f k x j = f j := by simp [vp_updL, h]
def cnp (f : Nat → Nat) (x y a : Nat) : Nat → Nat
  | 0 => 0
  | n + 1 => cnp f x y a n + (if f (a + n) = x ∧ f (a + n + 1) = y then 1 else 0)
theorem cnp_le (f : Nat → Nat) (x y a : Nat) : ∀ n, cnp f x y a n ≤ n
  | 0 => Nat.le_refl 0
  | n + 1 => by
    have := cnp_le f x y a n
    simp only [cnp]
    split <;> omega
def alk (K N : Nat) (V : Nat → Int) (f : Nat → Nat) (a b s : Nat) : Bool :=
  if K = 0 then decide (∀ j, j < s → f (a + j) = f (b + j))
  else if K = 2 then decide (vs V f a s = vs V f b s)
  else if K = 3 then decide ((0 < s → f a = f b) ∧ (∀ x, x < N → cn f x a s = cn f x b s) ∧ (∀ x, x < N → ∀ y, y < N → cnp f x y a (s - 1) = cnp f x y b (s - 1)))
  else decide (∀ x, x < N → cn f x a s = cn f x b s)
theorem s11_areEqual {post : Int32 → Prop} {row : Nat → Int32} {f : Nat → Nat} {a b s : Nat} (ha : a + s ≤ 45) (hb : b + s ≤ 45) (hr : ∀ j, (j < a + s ∨ j < b + s) → row j = iI (f j) ∧ f j < 4)
    (h1 : (∀ j, j < s → f (a + j) = f (b + j)) → post (iI 1)) (h0 : ¬ (∀ j, j < s → f (a + j) = f (b + j)) → post (iI 0)) : VX11_areEqual post row (iI a) (iI b) (iI s) := by
  have key : ∀ (q m : Nat) (x4 : Int32), m + q = s → x4 = iI m → (∀ j, j < m → f (a + j) = f (b + j)) → VX11_areEqual_3 post row (iI a) (iI b) (iI s) (q + 1) x4 := by
    intro q
    induction q with
    | zero =>
      intro m x4 hm e hp
      have : m = s := by omega
      subst this e
      rw [VX11_areEqual_3]
      simp (disch := omega) only [iI_lit, lI_lit, iI_nI, iI_add, iI_sub, iI_mul, iI_neg, c_lt_t, c_lt_f, c_le_t, c_le_f, c_eq_t, c_eq_f, c_in_t, iI_clamp, Int.toNat_natCast, forall_eq, true_and, and_true, false_and, and_false, not_true_eq_false, not_false_eq_true, true_implies, false_implies, implies_true, forall_const, true_or, or_true, false_or, or_false, pk_us, vu_s, vL_s, vb_0, vb_1, if_true, if_false, ite_true, ite_false]
      exact h1 hp
    | succ q ih =>
      intro m x4 hm e hp
      subst e
      obtain ⟨a1, a2⟩ := hr (a + m) (by omega)
      obtain ⟨b1, b2⟩ := hr (b + m) (by omega)
      have ea : ((a : Int) + (m : Int)).toNat = a + m := by omega
      have eb : ((b : Int) + (m : Int)).toNat = b + m := by omega
      rw [VX11_areEqual_3]
      by_cases c : f (a + m) = f (b + m)
      · simp (disch := omega) only [ea, eb, a1, b1, iI_lit, lI_lit, iI_nI, iI_add, iI_sub, iI_mul, iI_neg, c_lt_t, c_lt_f, c_le_t, c_le_f, c_eq_t, c_eq_f, c_in_t, iI_clamp, Int.toNat_natCast, forall_eq, true_and, and_true, false_and, and_false, not_true_eq_false, not_false_eq_true, true_implies, false_implies, implies_true, forall_const, true_or, or_true, false_or, or_false, pk_us, vu_s, vL_s, vb_0, vb_1, if_true, if_false, ite_true, ite_false]
        refine ih (m + 1) _ (by omega) (congrArg iI (by omega)) (fun j hj => ?_)
        by_cases e : j = m
        · subst e
          exact c
        · exact hp j (by omega)
      · simp (disch := omega) only [ea, eb, a1, b1, iI_lit, lI_lit, iI_nI, iI_add, iI_sub, iI_mul, iI_neg, c_lt_t, c_lt_f, c_le_t, c_le_f, c_eq_t, c_eq_f, c_in_t, iI_clamp, Int.toNat_natCast, forall_eq, true_and, and_true, false_and, and_false, not_true_eq_false, not_false_eq_true, true_implies, false_implies, implies_true, forall_const, true_or, or_true, false_or, or_false, pk_us, vu_s, vL_s, vb_0, vb_1, if_true, if_false, ite_true, ite_false]
        exact h0 (fun h => c (h m (by omega)))
  exact ⟨s + 1, key s 0 _ (by omega) rfl (fun j hj => absurd hj (Nat.not_lt_zero j))⟩
theorem s11_areAbelian {post : Int32 → Prop} {row : Nat → Int32} {f : Nat → Nat} {N a b s : Nat} (hN : N ≤ 4) (ha : a + s ≤ 45) (hb : b + s ≤ 45) (hr : ∀ j, (j < a + s ∨ j < b + s) → row j = iI (f j) ∧ f j < 4)
    (h1 : (∀ x, x < N → cn f x a s = cn f x b s) → post (iI 1)) (h0 : ¬ (∀ x, x < N → cn f x a s = cn f x b s) → post (iI 0)) : VX11_areAbelian post (iI N) row (iI a) (iI b) (iI s) := by
  have key : ∀ (q m : Nat) (x4 : Int32), m + q = N → x4 = iI m → (∀ x, x < m → cn f x a s = cn f x b s) → VX11_areAbelian_3 post (iI N) row (iI a) (iI b) (iI s) (q + 1) x4 := by
    intro q
    induction q with
    | zero =>
      intro m x4 hm e hp
      have : m = N := by omega
      subst this e
      rw [VX11_areAbelian_3]
      simp (disch := omega) only [iI_lit, lI_lit, iI_nI, iI_add, iI_sub, iI_mul, iI_neg, c_lt_t, c_lt_f, c_le_t, c_le_f, c_eq_t, c_eq_f, c_in_t, iI_clamp, Int.toNat_natCast, forall_eq, true_and, and_true, false_and, and_false, not_true_eq_false, not_false_eq_true, true_implies, false_implies, implies_true, forall_const, true_or, or_true, false_or, or_false, pk_us, vu_s, vL_s, vb_0, vb_1, if_true, if_false, ite_true, ite_false]
      exact h1 hp
    | succ q ih =>
      intro m x4 hm e hp
      subst e
      rw [VX11_areAbelian_3]
      simp (disch := omega) only [iI_lit, lI_lit, iI_nI, iI_add, iI_sub, iI_mul, iI_neg, c_lt_t, c_lt_f, c_le_t, c_le_f, c_eq_t, c_eq_f, c_in_t, iI_clamp, Int.toNat_natCast, forall_eq, true_and, and_true, false_and, and_false, not_true_eq_false, not_false_eq_true, true_implies, false_implies, implies_true, forall_const, true_or, or_true, false_or, or_false, pk_us, vu_s, vL_s, vb_0, vb_1, if_true, if_false, ite_true, ite_false]
      refine s11_count (f := f) ha (by omega) (fun j _ hj => ⟨(hr j (Or.inl hj)).1, by have := (hr j (Or.inl hj)).2; omega⟩) ?_
      refine s11_count (f := f) hb (by omega) (fun j _ hj => ⟨(hr j (Or.inr hj)).1, by have := (hr j (Or.inr hj)).2; omega⟩) ?_
      have q1 := cn_le f m a s
      have q2 := cn_le f m b s
      by_cases c : cn f m a s = cn f m b s
      · simp (disch := omega) only [iI_lit, lI_lit, iI_nI, iI_add, iI_sub, iI_mul, iI_neg, c_lt_t, c_lt_f, c_le_t, c_le_f, c_eq_t, c_eq_f, c_in_t, iI_clamp, Int.toNat_natCast, forall_eq, true_and, and_true, false_and, and_false, not_true_eq_false, not_false_eq_true, true_implies, false_implies, implies_true, forall_const, true_or, or_true, false_or, or_false, pk_us, vu_s, vL_s, vb_0, vb_1, if_true, if_false, ite_true, ite_false]
        refine ih (m + 1) _ (by omega) (congrArg iI (by omega)) (fun x hx => ?_)
        by_cases e : x = m
        · subst e
          exact c
        · exact hp x (by omega)
      · simp (disch := omega) only [iI_lit, lI_lit, iI_nI, iI_add, iI_sub, iI_mul, iI_neg, c_lt_t, c_lt_f, c_le_t, c_le_f, c_eq_t, c_eq_f, c_in_t, iI_clamp, Int.toNat_natCast, forall_eq, true_and, and_true, false_and, and_false, not_true_eq_false, not_false_eq_true, true_implies, false_implies, implies_true, forall_const, true_or, or_true, false_or, or_false, pk_us, vu_s, vL_s, vb_0, vb_1, if_true, if_false, ite_true, ite_false]
        exact h0 (fun h => c (h m (by omega)))
  exact ⟨N + 1, key N 0 _ (by omega) rfl (fun j hj => absurd hj (Nat.not_lt_zero j))⟩
theorem s11_countPairs {post : Int32 → Prop} {row : Nat → Int32} {f : Nat → Nat} {a s x y : Nat} (ha : a + s ≤ 45) (hx : x < 1000) (hy : y < 1000) (hr : ∀ j, j < a + s → row j = iI (f j) ∧ f j < 4) (h : post (iI (cnp f x y a (s - 1)))) : VX11_countPairs post row (iI a) (iI s) (iI x) (iI y) := by
  have key : ∀ (q m : Nat) (x5 x6 : Int32), m + q = s - 1 → x5 = iI (cnp f x y a m) → x6 = iI ((a : Int) + m) → VX11_countPairs_6 post row (iI a) (iI s) (iI x) (iI y) (q + 1) x5 x6 := by
    intro q
    induction q with
    | zero =>
      intro m x5 x6 hm e5 e6
      have : m = s - 1 := by omega
      subst this e5 e6
      rw [VX11_countPairs_6]
      simp (disch := omega) only [iI_lit, lI_lit, iI_nI, iI_add, iI_sub, iI_mul, iI_neg, c_lt_t, c_lt_f, c_le_t, c_le_f, c_eq_t, c_eq_f, c_in_t, iI_clamp, Int.toNat_natCast, forall_eq, true_and, and_true, false_and, and_false, not_true_eq_false, not_false_eq_true, true_implies, false_implies, implies_true, forall_const, true_or, or_true, false_or, or_false, pk_us, vu_s, vL_s, vb_0, vb_1, if_true, if_false, ite_true, ite_false]
      exact h
    | succ q ih =>
      intro m x5 x6 hm e5 e6
      subst e5 e6
      obtain ⟨a1, a2⟩ := hr (a + m) (by omega)
      obtain ⟨b1, b2⟩ := hr (a + m + 1) (by omega)
      have ea : ((a : Int) + (m : Int)).toNat = a + m := by omega
      have eb : ((a : Int) + (m : Int) + 1).toNat = a + m + 1 := by omega
      have q1 := cnp_le f x y a m
      rw [VX11_countPairs_6]
      by_cases c : f (a + m) = x
      · by_cases d : f (a + m + 1) = y
        · simp (disch := omega) only [ea, eb, a1, b1, iI_lit, lI_lit, iI_nI, iI_add, iI_sub, iI_mul, iI_neg, c_lt_t, c_lt_f, c_le_t, c_le_f, c_eq_t, c_eq_f, c_in_t, iI_clamp, Int.toNat_natCast, forall_eq, true_and, and_true, false_and, and_false, not_true_eq_false, not_false_eq_true, true_implies, false_implies, implies_true, forall_const, true_or, or_true, false_or, or_false, pk_us, vu_s, vL_s, vb_0, vb_1, if_true, if_false, ite_true, ite_false]
          exact ih (m + 1) _ _ (by omega) (congrArg iI (by simp only [cnp, c, d, and_self, if_true]; omega)) (congrArg iI (by omega))
        · simp (disch := omega) only [ea, eb, a1, b1, iI_lit, lI_lit, iI_nI, iI_add, iI_sub, iI_mul, iI_neg, c_lt_t, c_lt_f, c_le_t, c_le_f, c_eq_t, c_eq_f, c_in_t, iI_clamp, Int.toNat_natCast, forall_eq, true_and, and_true, false_and, and_false, not_true_eq_false, not_false_eq_true, true_implies, false_implies, implies_true, forall_const, true_or, or_true, false_or, or_false, pk_us, vu_s, vL_s, vb_0, vb_1, if_true, if_false, ite_true, ite_false]
          exact ih (m + 1) _ _ (by omega) (congrArg iI (by simp only [cnp, c, d, and_false, if_false]; omega)) (congrArg iI (by omega))
      · simp (disch := omega) only [ea, eb, a1, b1, iI_lit, lI_lit, iI_nI, iI_add, iI_sub, iI_mul, iI_neg, c_lt_t, c_lt_f, c_le_t, c_le_f, c_eq_t, c_eq_f, c_in_t, iI_clamp, Int.toNat_natCast, forall_eq, true_and, and_true, false_and, and_false, not_true_eq_false, not_false_eq_true, true_implies, false_implies, implies_true, forall_const, true_or, or_true, false_or, or_false, pk_us, vu_s, vL_s, vb_0, vb_1, if_true, if_false, ite_true, ite_false]
        exact ih (m + 1) _ _ (by omega) (congrArg iI (by simp only [cnp, c, false_and, if_false]; omega)) (congrArg iI (by omega))
  exact ⟨s - 1 + 1, key (s - 1) 0 _ _ (by omega) rfl (congrArg iI (by omega))⟩
theorem d_nat {m d : Nat} (h : m < 2147483648) (hd : d < 2147483648) : iI (m : Int) / iI (d : Int) = iI ((m / d : Nat) : Int) := by
  rw [iI_div (by omega) (by omega) (by omega) (by omega)]
  exact congrArg iI (Int.ofNat_tdiv m d).symm
theorem s11_mixed {post : Int32 → Prop} {row : Nat → Int32} {f : Nat → Nat} {N a b s : Nat} (hN : 2 ≤ N ∧ N ≤ 4) (ha : a + s ≤ 45) (hb : b + s ≤ 45) (hr : ∀ j, (j < a + s ∨ j < b + s) → row j = iI (f j) ∧ f j < 4)
    (h1 : (∀ t, t < N * N → cnp f (t / N) (t % N) a (s - 1) = cnp f (t / N) (t % N) b (s - 1)) → post (iI 1)) (h0 : ¬ (∀ t, t < N * N → cnp f (t / N) (t % N) a (s - 1) = cnp f (t / N) (t % N) b (s - 1)) → post (iI 0)) : ∃ n, VX11_areMixed_34 post (iI N) row (iI a) (iI b) (iI s) n (iI 0) := by
  have hNN : N * N ≤ 16 := Nat.mul_le_mul hN.2 hN.2
  have hNc : ((N : Int) * (N : Int)) = ((N * N : Nat) : Int) := by rw [Int.natCast_mul]
  have key : ∀ (q m : Nat) (x4 : Int32), m + q = N * N → x4 = iI m → (∀ t, t < m → cnp f (t / N) (t % N) a (s - 1) = cnp f (t / N) (t % N) b (s - 1)) → VX11_areMixed_34 post (iI N) row (iI a) (iI b) (iI s) (q + 1) x4 := by
    intro q
    induction q with
    | zero =>
      intro m x4 hm e hp
      have : m = N * N := by omega
      subst e
      rw [VX11_areMixed_34]
      simp (disch := omega) only [hNc, iI_lit, lI_lit, iI_nI, iI_add, iI_sub, iI_mul, iI_neg, c_lt_t, c_lt_f, c_le_t, c_le_f, c_eq_t, c_eq_f, c_in_t, iI_clamp, Int.toNat_natCast, forall_eq, true_and, and_true, false_and, and_false, not_true_eq_false, not_false_eq_true, true_implies, false_implies, implies_true, forall_const, true_or, or_true, false_or, or_false, pk_us, vu_s, vL_s, vb_0, vb_1, if_true, if_false, ite_true, ite_false]
      rw [this] at hp
      exact h1 hp
    | succ q ih =>
      intro m x4 hm e hp
      subst e
      have hd : m / N < 16 := by
        have := Nat.div_le_self m N
        omega
      have hm4 : m % N < N := Nat.mod_lt _ (by omega)
      have hrem : iI (m : Int) - iI ((m / N : Nat) : Int) * iI (N : Int) = iI ((m % N : Nat) : Int) := by
        rw [iI_mul, iI_sub]
        refine congrArg iI ?_
        have := Nat.div_add_mod m N
        rw [← Int.natCast_mul, Nat.mul_comm]
        omega
      rw [VX11_areMixed_34]
      simp only [d_nat (show m < 2147483648 by omega) (show N < 2147483648 by omega), hrem]
      simp (disch := omega) only [hNc, iI_lit, lI_lit, iI_nI, iI_add, iI_sub, iI_mul, iI_neg, c_lt_t, c_lt_f, c_le_t, c_le_f, c_eq_t, c_eq_f, c_in_t, iI_clamp, Int.toNat_natCast, forall_eq, true_and, and_true, false_and, and_false, not_true_eq_false, not_false_eq_true, true_implies, false_implies, implies_true, forall_const, true_or, or_true, false_or, or_false, pk_us, vu_s, vL_s, vb_0, vb_1, if_true, if_false, ite_true, ite_false]
      refine s11_countPairs (f := f) ha (by omega) (by omega) (fun j hj => hr j (Or.inl hj)) ?_
      refine s11_countPairs (f := f) hb (by omega) (by omega) (fun j hj => hr j (Or.inr hj)) ?_
      have q1 := cnp_le f (m / N) (m % N) a (s - 1)
      have q2 := cnp_le f (m / N) (m % N) b (s - 1)
      by_cases c : cnp f (m / N) (m % N) a (s - 1) = cnp f (m / N) (m % N) b (s - 1)
      · simp (disch := omega) only [iI_lit, lI_lit, iI_nI, iI_add, iI_sub, iI_mul, iI_neg, c_lt_t, c_lt_f, c_le_t, c_le_f, c_eq_t, c_eq_f, c_in_t, iI_clamp, Int.toNat_natCast, forall_eq, true_and, and_true, false_and, and_false, not_true_eq_false, not_false_eq_true, true_implies, false_implies, implies_true, forall_const, true_or, or_true, false_or, or_false, pk_us, vu_s, vL_s, vb_0, vb_1, if_true, if_false, ite_true, ite_false]
        refine ih (m + 1) _ (by omega) (congrArg iI (by omega)) (fun x hx => ?_)
        by_cases e : x = m
        · subst e
          exact c
        · exact hp x (by omega)
      · simp (disch := omega) only [iI_lit, lI_lit, iI_nI, iI_add, iI_sub, iI_mul, iI_neg, c_lt_t, c_lt_f, c_le_t, c_le_f, c_eq_t, c_eq_f, c_in_t, iI_clamp, Int.toNat_natCast, forall_eq, true_and, and_true, false_and, and_false, not_true_eq_false, not_false_eq_true, true_implies, false_implies, implies_true, forall_const, true_or, or_true, false_or, or_false, pk_us, vu_s, vL_s, vb_0, vb_1, if_true, if_false, ite_true, ite_false]
        exact h0 (fun h => c (h m (by omega)))
  exact ⟨N * N + 1, key (N * N) 0 _ (by omega) rfl (fun j hj => absurd hj (Nat.not_lt_zero j))⟩
theorem pr_iff {N : Nat} (hN : 2 ≤ N) {g h : Nat → Nat → Nat} : (∀ t, t < N * N → g (t / N) (t % N) = h (t / N) (t % N)) ↔ ∀ x, x < N → ∀ y, y < N → g x y = h x y := by
  constructor
  · intro q x hx y hy
    have h1 : (N * x + y) / N = x := by rw [Nat.mul_add_div (by omega), Nat.div_eq_of_lt hy]; omega
    have h2 : (N * x + y) % N = y := by rw [Nat.mul_add_mod, Nat.mod_eq_of_lt hy]
    have h3 : N * x + y < N * N := by
      have : N * (x + 1) ≤ N * N := Nat.mul_le_mul_left N hx
      rw [Nat.mul_add] at this
      omega
    have := q _ h3
    rwa [h1, h2] at this
  · intro q t ht
    exact q _ (Nat.div_lt_of_lt_mul ht) _ (Nat.mod_lt _ (by omega))
theorem s11_alike {post : Int32 → Prop} {row values : Nat → Int32} {V : Nat → Int} {f : Nat → Nat} {K N a b s : Nat} (hK : K ≤ 3) (hN : 2 ≤ N ∧ N ≤ 4) (hV : ∀ x, x < 4 → (-9 ≤ V x ∧ V x ≤ 9) ∧ values x = iI (V x)) (ha : a + s ≤ 45) (hb : b + s ≤ 45) (hr : ∀ j, (j < a + s ∨ j < b + s) → row j = iI (f j) ∧ f j < 4)
    (h1 : alk K N V f a b s = true → post (iI 1)) (h0 : alk K N V f a b s = false → post (iI 0)) : VX11_areAlike post (iI K) (iI N) values row (iI a) (iI b) (iI s) := by
  unfold VX11_areAlike
  rw [iI_toInt (by omega) (by omega)]
  simp only [iI_lit]
  refine ⟨fun h => by omega, fun h => ?_, fun h => ?_, fun h => ?_, fun h => ?_⟩
  · rw [iI_eq (by omega) (by omega) (by omega) (by omega)] at h
    have e : K = 0 := by omega
    subst e
    refine s11_areEqual (f := f) ha hb hr (fun q => ?_) (fun q => ?_)
    · simp (disch := omega) only [iI_lit, lI_lit, iI_nI, iI_add, iI_sub, iI_mul, iI_neg, c_lt_t, c_lt_f, c_le_t, c_le_f, c_eq_t, c_eq_f, c_in_t, iI_clamp, Int.toNat_natCast, forall_eq, true_and, and_true, false_and, and_false, not_true_eq_false, not_false_eq_true, true_implies, false_implies, implies_true, forall_const, true_or, or_true, false_or, or_false, pk_us, vu_s, vL_s, vb_0, vb_1, if_true, if_false, ite_true, ite_false]
      exact h1 (by simp only [alk, if_true]; exact decide_eq_true q)
    · simp (disch := omega) only [iI_lit, lI_lit, iI_nI, iI_add, iI_sub, iI_mul, iI_neg, c_lt_t, c_lt_f, c_le_t, c_le_f, c_eq_t, c_eq_f, c_in_t, iI_clamp, Int.toNat_natCast, forall_eq, true_and, and_true, false_and, and_false, not_true_eq_false, not_false_eq_true, true_implies, false_implies, implies_true, forall_const, true_or, or_true, false_or, or_false, pk_us, vu_s, vL_s, vb_0, vb_1, if_true, if_false, ite_true, ite_false]
      exact h0 (by simp only [alk, if_true]; exact decide_eq_false q)
  · rw [iI_eq (by omega) (by omega) (by omega) (by omega)] at h
    have e : K = 1 := by omega
    subst e
    refine s11_areAbelian (f := f) hN.2 ha hb hr (fun q => ?_) (fun q => ?_)
    · simp (disch := omega) only [iI_lit, lI_lit, iI_nI, iI_add, iI_sub, iI_mul, iI_neg, c_lt_t, c_lt_f, c_le_t, c_le_f, c_eq_t, c_eq_f, c_in_t, iI_clamp, Int.toNat_natCast, forall_eq, true_and, and_true, false_and, and_false, not_true_eq_false, not_false_eq_true, true_implies, false_implies, implies_true, forall_const, true_or, or_true, false_or, or_false, pk_us, vu_s, vL_s, vb_0, vb_1, if_true, if_false, ite_true, ite_false]
      exact h1 (by simp only [alk]; exact decide_eq_true q)
    · simp (disch := omega) only [iI_lit, lI_lit, iI_nI, iI_add, iI_sub, iI_mul, iI_neg, c_lt_t, c_lt_f, c_le_t, c_le_f, c_eq_t, c_eq_f, c_in_t, iI_clamp, Int.toNat_natCast, forall_eq, true_and, and_true, false_and, and_false, not_true_eq_false, not_false_eq_true, true_implies, false_implies, implies_true, forall_const, true_or, or_true, false_or, or_false, pk_us, vu_s, vL_s, vb_0, vb_1, if_true, if_false, ite_true, ite_false]
      exact h0 (by simp only [alk]; exact decide_eq_false q)
  · rw [iI_eq (by omega) (by omega) (by omega) (by omega)] at h
    have e : K = 2 := by omega
    subst e
    refine s11_sum (V := V) (f := f) ha hV (fun j _ hj => hr j (Or.inl hj)) ?_
    refine s11_sum (V := V) (f := f) hb hV (fun j _ hj => hr j (Or.inr hj)) ?_
    have q1 := vs_le (V := V) (f := f) (a := a) (fun x hx => (hV x hx).1) s (fun j hj => (hr _ (by omega)).2)
    have q2 := vs_le (V := V) (f := f) (a := b) (fun x hx => (hV x hx).1) s (fun j hj => (hr _ (by omega)).2)
    by_cases c : vs V f a s = vs V f b s
    · simp (disch := omega) only [iI_lit, lI_lit, iI_nI, iI_add, iI_sub, iI_mul, iI_neg, c_lt_t, c_lt_f, c_le_t, c_le_f, c_eq_t, c_eq_f, c_in_t, iI_clamp, Int.toNat_natCast, forall_eq, true_and, and_true, false_and, and_false, not_true_eq_false, not_false_eq_true, true_implies, false_implies, implies_true, forall_const, true_or, or_true, false_or, or_false, pk_us, vu_s, vL_s, vb_0, vb_1, if_true, if_false, ite_true, ite_false]
      exact h1 (by simp only [alk]; exact decide_eq_true c)
    · simp (disch := omega) only [iI_lit, lI_lit, iI_nI, iI_add, iI_sub, iI_mul, iI_neg, c_lt_t, c_lt_f, c_le_t, c_le_f, c_eq_t, c_eq_f, c_in_t, iI_clamp, Int.toNat_natCast, forall_eq, true_and, and_true, false_and, and_false, not_true_eq_false, not_false_eq_true, true_implies, false_implies, implies_true, forall_const, true_or, or_true, false_or, or_false, pk_us, vu_s, vL_s, vb_0, vb_1, if_true, if_false, ite_true, ite_false]
      exact h0 (by simp only [alk]; exact decide_eq_false c)
  · rw [iI_eq (by omega) (by omega) (by omega) (by omega)] at h
    have e : K = 3 := by omega
    subst e
    have hm : (0 < s → f a = f b) → VX11_areMixed_19 (fun r_10 => vbo r_10 ∧ post r_10) (iI N) row (iI a) (iI b) (iI s) := by
      intro q
      unfold VX11_areMixed_19
      refine s11_areAbelian (f := f) hN.2 ha hb hr (fun q1 => ?_) (fun q1 => ?_)
      · simp (disch := omega) only [iI_lit, lI_lit, iI_nI, iI_add, iI_sub, iI_mul, iI_neg, c_lt_t, c_lt_f, c_le_t, c_le_f, c_eq_t, c_eq_f, c_in_t, iI_clamp, Int.toNat_natCast, forall_eq, true_and, and_true, false_and, and_false, not_true_eq_false, not_false_eq_true, true_implies, false_implies, implies_true, forall_const, true_or, or_true, false_or, or_false, pk_us, vu_s, vL_s, vb_0, vb_1, if_true, if_false, ite_true, ite_false]
        refine s11_mixed (f := f) hN ha hb hr (fun q2 => ?_) (fun q2 => ?_)
        · simp (disch := omega) only [iI_lit, lI_lit, iI_nI, iI_add, iI_sub, iI_mul, iI_neg, c_lt_t, c_lt_f, c_le_t, c_le_f, c_eq_t, c_eq_f, c_in_t, iI_clamp, Int.toNat_natCast, forall_eq, true_and, and_true, false_and, and_false, not_true_eq_false, not_false_eq_true, true_implies, false_implies, implies_true, forall_const, true_or, or_true, false_or, or_false, pk_us, vu_s, vL_s, vb_0, vb_1, if_true, if_false, ite_true, ite_false]
          exact h1 (by simp only [alk]; exact decide_eq_true ⟨q, q1, (pr_iff (g := fun x y => cnp f x y a (s - 1)) (h := fun x y => cnp f x y b (s - 1)) hN.1).mp q2⟩)
        · simp (disch := omega) only [iI_lit, lI_lit, iI_nI, iI_add, iI_sub, iI_mul, iI_neg, c_lt_t, c_lt_f, c_le_t, c_le_f, c_eq_t, c_eq_f, c_in_t, iI_clamp, Int.toNat_natCast, forall_eq, true_and, and_true, false_and, and_false, not_true_eq_false, not_false_eq_true, true_implies, false_implies, implies_true, forall_const, true_or, or_true, false_or, or_false, pk_us, vu_s, vL_s, vb_0, vb_1, if_true, if_false, ite_true, ite_false]
          exact h0 (by simp only [alk]; exact decide_eq_false (fun q3 => q2 ((pr_iff (g := fun x y => cnp f x y a (s - 1)) (h := fun x y => cnp f x y b (s - 1)) hN.1).mpr q3.2.2)))
      · simp (disch := omega) only [iI_lit, lI_lit, iI_nI, iI_add, iI_sub, iI_mul, iI_neg, c_lt_t, c_lt_f, c_le_t, c_le_f, c_eq_t, c_eq_f, c_in_t, iI_clamp, Int.toNat_natCast, forall_eq, true_and, and_true, false_and, and_false, not_true_eq_false, not_false_eq_true, true_implies, false_implies, implies_true, forall_const, true_or, or_true, false_or, or_false, pk_us, vu_s, vL_s, vb_0, vb_1, if_true, if_false, ite_true, ite_false]
        exact h0 (by simp only [alk]; exact decide_eq_false (fun q3 => q1 q3.2.1))
    unfold VX11_areMixed
    by_cases c : s = 0
    · simp (disch := omega) only [iI_lit, lI_lit, iI_nI, iI_add, iI_sub, iI_mul, iI_neg, c_lt_t, c_lt_f, c_le_t, c_le_f, c_eq_t, c_eq_f, c_in_t, iI_clamp, Int.toNat_natCast, forall_eq, true_and, and_true, false_and, and_false, not_true_eq_false, not_false_eq_true, true_implies, false_implies, implies_true, forall_const, true_or, or_true, false_or, or_false, pk_us, vu_s, vL_s, vb_0, vb_1, if_true, if_false, ite_true, ite_false]
      exact hm (fun q => absurd q (by omega))
    · obtain ⟨a1, a2⟩ := hr a (by omega)
      obtain ⟨b1, b2⟩ := hr b (by omega)
      by_cases d : f a = f b
      · have d' : ((f a : Nat) : Int) = (f b : Nat) := by omega
        simp (disch := omega) only [a1, b1, iI_lit, lI_lit, iI_nI, iI_add, iI_sub, iI_mul, iI_neg, c_lt_t, c_lt_f, c_le_t, c_le_f, c_eq_t, c_eq_f, c_in_t, iI_clamp, Int.toNat_natCast, forall_eq, true_and, and_true, false_and, and_false, not_true_eq_false, not_false_eq_true, true_implies, false_implies, implies_true, forall_const, true_or, or_true, false_or, or_false, pk_us, vu_s, vL_s, vb_0, vb_1, if_true, if_false, ite_true, ite_false]
        exact hm (fun _ => d)
      · simp (disch := omega) only [a1, b1, iI_lit, lI_lit, iI_nI, iI_add, iI_sub, iI_mul, iI_neg, c_lt_t, c_lt_f, c_le_t, c_le_f, c_eq_t, c_eq_f, c_in_t, iI_clamp, Int.toNat_natCast, forall_eq, true_and, and_true, false_and, and_false, not_true_eq_false, not_false_eq_true, true_implies, false_implies, implies_true, forall_const, true_or, or_true, false_or, or_false, pk_us, vu_s, vL_s, vb_0, vb_1, if_true, if_false, ite_true, ite_false]
        exact h0 (by simp only [alk]; exact decide_eq_false (fun q3 => d (q3.1 (by omega))))
