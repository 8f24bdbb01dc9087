/-! KEYS OF TEMPLATES -/
def bs (k : Nat) : Nat := if k < 3 then 5 else 19
def kk (c : Nat → Nat) : Nat → Nat
  | 0 => 0
  | k + 1 => kk c k * bs k + c k
def of7 (k : Nat) : Int := if k < 3 then 1 else 9
def dv (b key : Nat) : Nat → Nat
  | 0 => key
  | t + 1 => dv b key t / b
def dig (N key k : Nat) : Nat := if k < 3 then dv 5 (dv 19 key N) (2 - k) % 5 else if k < 3 + N then dv 19 key (3 + N - 1 - k) % 19 else 9
/-- the digits of a template -/
def VD (N : Nat) (c : Nat → Nat) : Prop := (∀ k, k < 3 → c k ≤ N) ∧ (∀ k, 3 ≤ k → k < 3 + N → c k ≤ 18) ∧ (∀ k, 3 + N ≤ k → c k = 9)
theorem dv_le (b key : Nat) : ∀ t, dv b key t ≤ key
  | 0 => Nat.le_refl _
  | t + 1 => Nat.le_trans (Nat.div_le_self _ _) (dv_le b key t)
theorem dig_kk {N : Nat} (hN : 2 ≤ N ∧ N ≤ 4) {c : Nat → Nat} (h : VD N c) : ∀ k, k < 7 → dig N (kk c (3 + N)) k = c k := by
  intro k hk
  obtain ⟨h1, h2, h3⟩ := h
  have a0 := h1 0 (by omega)
  have a1 := h1 1 (by omega)
  have a2 := h1 2 (by omega)
  have a3 := h2 3 (by omega) (by omega)
  have a4 := h2 4 (by omega) (by omega)
  by_cases c9 : 3 + N ≤ k
  · rw [h3 k c9, dig, if_neg (by omega), if_neg (by omega)]
  · obtain rfl | rfl | rfl : N = 2 ∨ N = 3 ∨ N = 4 := by omega
    · obtain rfl | rfl | rfl | rfl | rfl : k = 0 ∨ k = 1 ∨ k = 2 ∨ k = 3 ∨ k = 4 := by omega
      all_goals
        simp [dig, dv, kk, bs]
        omega
    · have a5 := h2 5 (by omega) (by omega)
      obtain rfl | rfl | rfl | rfl | rfl | rfl : k = 0 ∨ k = 1 ∨ k = 2 ∨ k = 3 ∨ k = 4 ∨ k = 5 := by omega
      all_goals
        simp [dig, dv, kk, bs]
        omega
    · have a5 := h2 5 (by omega) (by omega)
      have a6 := h2 6 (by omega) (by omega)
      obtain rfl | rfl | rfl | rfl | rfl | rfl | rfl : k = 0 ∨ k = 1 ∨ k = 2 ∨ k = 3 ∨ k = 4 ∨ k = 5 ∨ k = 6 := by omega
      all_goals
        simp [dig, dv, kk, bs]
        omega
theorem kk_le {N : Nat} (hN : 2 ≤ N ∧ N ≤ 4) {c : Nat → Nat} (h : VD N c) : kk c (3 + N) < 16290125 := by
  obtain ⟨h1, h2, h3⟩ := h
  have a0 := h1 0 (by omega)
  have a1 := h1 1 (by omega)
  have a2 := h1 2 (by omega)
  have a3 := h2 3 (by omega) (by omega)
  have a4 := h2 4 (by omega) (by omega)
  obtain rfl | rfl | rfl : N = 2 ∨ N = 3 ∨ N = 4 := by omega
  · simp [kk, bs]
    omega
  · have a5 := h2 5 (by omega) (by omega)
    simp [kk, bs]
    omega
  · have a5 := h2 5 (by omega) (by omega)
    have a6 := h2 6 (by omega) (by omega)
    simp [kk, bs]
    omega
theorem kk_cg {c d : Nat → Nat} : ∀ n, (∀ k, k < n → c k = d k) → kk c n = kk d n
  | 0, _ => rfl
  | n + 1, h => by
    simp only [kk]
    rw [kk_cg n (fun k hk => h k (by omega)), h n (by omega)]
theorem kk_lt {N : Nat} (hN : 2 ≤ N ∧ N ≤ 4) {c d : Nat → Nat} (hc : VD N c) (hd : VD N d) {k : Nat} (he : ∀ j, j < k → c j = d j) (hk : c k < d k) : ∀ n, k < n → n ≤ 3 + N → kk c n < kk d n := by
  intro n
  induction n with
  | zero => intro h; exact absurd h (Nat.not_lt_zero k)
  | succ n ih =>
    intro h1 h2
    simp only [kk]
    by_cases e : k = n
    · rw [kk_cg n (fun j hj => he j (by omega)), ← e]
      omega
    · have h3 := ih (by omega) (by omega)
      have hb : c n < bs n := by
        unfold bs
        by_cases q : n < 3
        · rw [if_pos q]
          have := hc.1 n q
          omega
        · rw [if_neg q]
          have := hc.2.1 n (by omega) (by omega)
          omega
      have h4 : (kk c n + 1) * bs n ≤ kk d n * bs n := Nat.mul_le_mul_right _ h3
      rw [Nat.add_mul, Nat.one_mul] at h4
      omega
theorem s7_width {post : Int32 → Prop} {a : Nat} (ha : a < 1000) (h : post (iI (if a = 0 then 0 else 1))) : VX7_width post (iI ((a : Int) - 1)) := by
  by_cases c : a = 0
  · rw [if_pos c] at h
    simp (disch := omega) only [VX7_width, iI_lit, lI_lit, iI_nI, iI_add, iI_sub, iI_mul, iI_neg, c_lt_t, c_lt_f, c_le_t, c_le_f, c_eq_t, c_eq_f, c_in_t, iI_clamp, Int.toNat_natCast, forall_eq, true_and, and_true, false_and, and_false, not_true_eq_false, not_false_eq_true, true_implies, false_implies, implies_true, forall_const, true_or, or_true, false_or, or_false, pk_us, vu_s, vL_s, vb_0, vb_1, if_true, if_false, ite_true, ite_false]
    exact h
  · rw [if_neg c] at h
    simp (disch := omega) only [VX7_width, iI_lit, lI_lit, iI_nI, iI_add, iI_sub, iI_mul, iI_neg, c_lt_t, c_lt_f, c_le_t, c_le_f, c_eq_t, c_eq_f, c_in_t, iI_clamp, Int.toNat_natCast, forall_eq, true_and, and_true, false_and, and_false, not_true_eq_false, not_false_eq_true, true_implies, false_implies, implies_true, forall_const, true_or, or_true, false_or, or_false, pk_us, vu_s, vL_s, vb_0, vb_1, if_true, if_false, ite_true, ite_false]
    exact h
theorem s7_keyOfEnds {post : Int32 → Prop} {c : Nat → Nat} (h : post (iI ((kk c 3 : Nat) : Int))) : VX7_keyOfEnds post (iI ((c 0 : Int) - 1)) (iI ((c 1 : Int) - 1)) (iI ((c 2 : Int) - 1)) := by
  unfold VX7_keyOfEnds
  rintro y rfl
  simp only [iI_lit, lI_lit, iI_nI, iI_add, iI_sub, iI_mul, iI_neg, c_lt_t, c_lt_f, c_le_t, c_le_f, c_eq_t, c_eq_f, c_in_t, iI_clamp, Int.toNat_natCast, forall_eq, true_and, and_true, false_and, and_false, not_true_eq_false, not_false_eq_true, true_implies, false_implies, implies_true, forall_const, true_or, or_true, false_or, or_false, pk_us, vu_s, vL_s, vb_0, vb_1, if_true, if_false, ite_true, ite_false]
  have e : ((kk c 3 : Nat) : Int) = (((c 0 : Int) - 1 + 1) * 5 + ((c 1 : Int) - 1) + 1) * 5 + ((c 2 : Int) - 1) + 1 := by
    simp [kk, bs]
    omega
  rw [← e]
  exact h
def sqc (k : Nat) : Nat := if k < 3 then 0 else 9
theorem sqc_VD (N : Nat) : VD N sqc := by
  refine ⟨fun k hk => ?_, fun k h1 h2 => ?_, fun k hk => ?_⟩
  · unfold sqc
    rw [if_pos hk]
    omega
  · unfold sqc
    rw [if_neg (by omega)]
    omega
  · unfold sqc
    rw [if_neg (by omega)]
theorem s7_squareKey {post : Int32 → Prop} {N : Nat} (hN : N ≤ 4) (h : post (iI ((kk sqc (3 + N) : Nat) : Int))) : VX7_squareKey post (iI N) := by
  have key : ∀ (q m : Nat) (x1 x2 : Int32), m + q = N → x1 = iI ((kk sqc (3 + m) : Nat) : Int) → x2 = iI m → VX7_squareKey_9 post (iI N) (q + 1) x1 x2 := by
    intro q
    induction q with
    | zero =>
      intro m x1 x2 hm e1 e2
      have : m = N := by omega
      subst this e1 e2
      rw [VX7_squareKey_9]
      simp (disch := omega) only [iI_lit, lI_lit, iI_nI, iI_add, iI_sub, iI_mul, iI_neg, c_lt_t, c_lt_f, c_le_t, c_le_f, c_eq_t, c_eq_f, c_in_t, iI_clamp, Int.toNat_natCast, forall_eq, true_and, and_true, false_and, and_false, not_true_eq_false, not_false_eq_true, true_implies, false_implies, implies_true, forall_const, true_or, or_true, false_or, or_false, pk_us, vu_s, vL_s, vb_0, vb_1, if_true, if_false, ite_true, ite_false]
      exact h
    | succ q ih =>
      intro m x1 x2 hm e1 e2
      subst e1 e2
      rw [VX7_squareKey_9]
      simp (disch := omega) only [VX7_keyWithNumber, iI_lit, lI_lit, iI_nI, iI_add, iI_sub, iI_mul, iI_neg, c_lt_t, c_lt_f, c_le_t, c_le_f, c_eq_t, c_eq_f, c_in_t, iI_clamp, Int.toNat_natCast, forall_eq, true_and, and_true, false_and, and_false, not_true_eq_false, not_false_eq_true, true_implies, false_implies, implies_true, forall_const, true_or, or_true, false_or, or_false, pk_us, vu_s, vL_s, vb_0, vb_1, if_true, if_false, ite_true, ite_false]
      refine ih (m + 1) _ _ (by omega) (congrArg iI ?_) (congrArg iI (by omega))
      have : kk sqc (3 + (m + 1)) = kk sqc (3 + m) * 19 + 9 := by
        rw [show 3 + (m + 1) = 3 + m + 1 by omega, kk]
        unfold bs
        rw [if_neg (by omega)]
        have : sqc (3 + m) = 9 := by
          unfold sqc
          rw [if_neg (by omega)]
        rw [this]
      omega
  unfold VX7_squareKey
  have e := s7_keyOfEnds (post := fun r_1 => ∃ n9 : Nat, VX7_squareKey_9 post (iI N) n9 r_1 0) (c := sqc) ⟨N + 1, key N 0 _ _ (by omega) rfl rfl⟩
  exact e
theorem d_19 {m : Nat} (h : m < 2147483648) : iI (m : Int) / iI 19 = iI ((m / 19 : Nat) : Int) := d_nat (d := 19) h (by omega)
theorem d_5 {m : Nat} (h : m < 2147483648) : iI (m : Int) / iI 5 = iI ((m / 5 : Nat) : Int) := d_nat (d := 5) h (by omega)
theorem s7_readKey {post : (Nat → Int32) → (Nat → Int32) → Prop} {key N : Nat} {en nu : Nat → Int32} (hN : N ≤ 4) (hk : key < 2147483648) (h : ∀ en' nu', (∀ i, i < 3 → en' i = iI ((dig N key i : Nat) - 1)) → (∀ x, x < 4 → nu' x = iI ((dig N key (3 + x) : Nat) - 9)) → post en' nu') : VX7_readKey post (iI key) (iI N) en nu := by
  have k2 : ∀ (m : Nat) (en' nu' : Nat → Int32) (x3 x4 : Int32), m ≤ 3 → x3 = iI ((dv 5 (dv 19 key N) (3 - m) : Nat) : Int) → x4 = iI ((m : Int) - 1) → (∀ i, m ≤ i → i < 3 → en' i = iI ((dig N key i : Nat) - 1)) → (∀ x, x < 4 → nu' x = iI ((dig N key (3 + x) : Nat) - 9)) → VX7_readKey_52 post (iI key) (iI N) (m + 1) en' nu' x3 x4 := by
    intro m
    induction m with
    | zero =>
      intro en' nu' x3 x4 hm e3 e4 h1 h2
      subst e3 e4
      rw [VX7_readKey_52]
      simp (disch := omega) only [iI_lit, lI_lit, iI_nI, iI_add, iI_sub, iI_mul, iI_neg, c_lt_t, c_lt_f, c_le_t, c_le_f, c_eq_t, c_eq_f, c_in_t, iI_clamp, Int.toNat_natCast, forall_eq, true_and, and_true, false_and, and_false, not_true_eq_false, not_false_eq_true, true_implies, false_implies, implies_true, forall_const, true_or, or_true, false_or, or_false, pk_us, vu_s, vL_s, vb_0, vb_1, if_true, if_false, ite_true, ite_false]
      exact h _ _ (fun i hi => h1 i (by omega) hi) h2
    | succ m ih =>
      intro en' nu' x3 x4 hm e3 e4 h1 h2
      subst e3 e4
      have hle := dv_le 5 (dv 19 key N) (3 - (m + 1))
      have hle2 := dv_le 19 key N
      have e0 : ((m + 1 : Nat) : Int) - 1 = (m : Int) := by omega
      rw [VX7_readKey_52]
      simp (disch := omega) only [e0, d_5, iI_lit, lI_lit, iI_nI, iI_add, iI_sub, iI_mul, iI_neg, c_lt_t, c_lt_f, c_le_t, c_le_f, c_eq_t, c_eq_f, c_in_t, iI_clamp, Int.toNat_natCast, forall_eq, true_and, and_true, false_and, and_false, not_true_eq_false, not_false_eq_true, true_implies, false_implies, implies_true, forall_const, true_or, or_true, false_or, or_false, pk_us, vu_s, vL_s, vb_0, vb_1, if_true, if_false, ite_true, ite_false]
      refine ih _ _ _ _ (by omega) (congrArg iI ?_) (congrArg iI (by omega)) (fun i hi1 hi2 => ?_) h2
      · rw [show 3 - m = 3 - (m + 1) + 1 by omega, dv]
      · by_cases c : i = m
        · rw [c, pk_us]
          refine congrArg iI ?_
          rw [dig, if_pos (by omega), show 2 - m = 3 - (m + 1) by omega]
          omega
        · rw [pk_un c]
          exact h1 i (by omega) hi2
  have k1 : ∀ (m : Nat) (nu' : Nat → Int32) (x3 x4 : Int32), m ≤ 4 → x3 = iI ((dv 19 key (N - m) : Nat) : Int) → x4 = iI ((m : Int) - 1) → (∀ x, m ≤ x → x < 4 → nu' x = iI ((dig N key (3 + x) : Nat) - 9)) → VX7_readKey_5 post (iI key) (iI N) (m + 1) en nu' x3 x4 := by
    intro m
    induction m with
    | zero =>
      intro nu' x3 x4 hm e3 e4 h1
      subst e3 e4
      rw [VX7_readKey_5]
      simp (disch := omega) only [iI_lit, lI_lit, iI_nI, iI_add, iI_sub, iI_mul, iI_neg, c_lt_t, c_lt_f, c_le_t, c_le_f, c_eq_t, c_eq_f, c_in_t, iI_clamp, Int.toNat_natCast, forall_eq, true_and, and_true, false_and, and_false, not_true_eq_false, not_false_eq_true, true_implies, false_implies, implies_true, forall_const, true_or, or_true, false_or, or_false, pk_us, vu_s, vL_s, vb_0, vb_1, if_true, if_false, ite_true, ite_false]
      exact ⟨3 + 1, k2 3 en nu' _ _ (by omega) rfl rfl (fun i h1 h2 => absurd h1 (by omega)) (fun x hx => h1 x (by omega) hx)⟩
    | succ m ih =>
      intro nu' x3 x4 hm e3 e4 h1
      subst e3 e4
      have hle := dv_le 19 key (N - (m + 1))
      have e0 : ((m + 1 : Nat) : Int) - 1 = (m : Int) := by omega
      rw [VX7_readKey_5]
      by_cases c : N ≤ m
      · simp (disch := omega) only [e0, iI_lit, lI_lit, iI_nI, iI_add, iI_sub, iI_mul, iI_neg, c_lt_t, c_lt_f, c_le_t, c_le_f, c_eq_t, c_eq_f, c_in_t, iI_clamp, Int.toNat_natCast, forall_eq, true_and, and_true, false_and, and_false, not_true_eq_false, not_false_eq_true, true_implies, false_implies, implies_true, forall_const, true_or, or_true, false_or, or_false, pk_us, vu_s, vL_s, vb_0, vb_1, if_true, if_false, ite_true, ite_false]
        refine ih _ _ _ (by omega) ?_ (congrArg iI (by omega)) (fun x hx1 hx2 => ?_)
        · rw [show N - m = N - (m + 1) by omega]
        · by_cases d : x = m
          · rw [d, pk_us]
            refine congrArg iI ?_
            rw [dig, if_neg (by omega), if_neg (by omega)]
            omega
          · rw [pk_un d]
            exact h1 x (by omega) hx2
      · simp (disch := omega) only [e0, d_19, iI_lit, lI_lit, iI_nI, iI_add, iI_sub, iI_mul, iI_neg, c_lt_t, c_lt_f, c_le_t, c_le_f, c_eq_t, c_eq_f, c_in_t, iI_clamp, Int.toNat_natCast, forall_eq, true_and, and_true, false_and, and_false, not_true_eq_false, not_false_eq_true, true_implies, false_implies, implies_true, forall_const, true_or, or_true, false_or, or_false, pk_us, vu_s, vL_s, vb_0, vb_1, if_true, if_false, ite_true, ite_false]
        refine ih _ _ _ (by omega) (congrArg iI ?_) (congrArg iI (by omega)) (fun x hx1 hx2 => ?_)
        · rw [show N - m = N - (m + 1) + 1 by omega, dv]
        · by_cases d : x = m
          · rw [d, pk_us]
            refine congrArg iI ?_
            rw [dig, if_neg (by omega), if_pos (by omega), show 3 + N - 1 - (3 + m) = N - (m + 1) by omega]
            omega
          · rw [pk_un d, pk_un d]
            exact h1 x (by omega) hx2
  refine ⟨4 + 1, k1 4 nu _ _ (by omega) ?_ rfl (fun x h1 h2 => absurd h1 (by omega))⟩
  rw [show N - 4 = 0 by omega, dv]
