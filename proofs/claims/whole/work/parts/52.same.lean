/-! SUMS THAT ARE EQUAL: digits -/
def psum (g : Nat → Int) (a : Nat) : Nat → Int
  | 0 => 0
  | m + 1 => psum g a m + g (a + m)
theorem l_cancel (x y : Int64) : x + y - x = y := by
  rw [Int64.add_comm, Int64.add_sub_cancel]
theorem psum_S {S : Nat → Int64} {g : Nat → Int} {n a : Nat} (h : ∀ j, j < n → S (j + 1) = S j + lI (g j)) : ∀ m, a + m ≤ n → S (a + m) = S a + lI (psum g a m)
  | 0, _ => by
    simp only [psum]
    rw [lI_0]
    rfl
  | m + 1, hm => by
    have h1 := psum_S h (a := a) m (by omega)
    have h2 := h (a + m) (by omega)
    rw [← Nat.add_assoc, h2, h1, Int64.add_assoc, lI_add]
    rfl
theorem psum_vs (W : Nat → Int) (f : Nat → Nat) (a : Nat) : ∀ m, psum (fun j => W (f j)) a m = vs W f a m
  | 0 => rfl
  | m + 1 => by simp only [psum, vs]; rw [psum_vs W f a m]
def dg (B : Nat) (c : Nat → Nat) : Nat → Nat → Nat
  | _, 0 => 0
  | o, m + 1 => c o + B * dg B c (o + 1) m
theorem dg_add {B : Nat} {c c' : Nat → Nat} {x : Nat} (h : ∀ y, c' y = c y + (if x = y then 1 else 0)) : ∀ m o, dg B c' o m = dg B c o m + (if o ≤ x ∧ x < o + m then B ^ (x - o) else 0)
  | 0, o => by
    rw [if_neg (by omega)]
    rfl
  | m + 1, o => by
    simp only [dg]
    rw [dg_add h m (o + 1), h o, Nat.mul_add]
    by_cases e : x = o
    · subst e
      rw [if_pos rfl, if_neg (by omega), if_pos (by omega), Nat.sub_self, Nat.pow_zero]
      omega
    · rw [if_neg e]
      by_cases d : o ≤ x ∧ x < o + (m + 1)
      · rw [if_pos d, if_pos (by omega)]
        have : x - o = x - (o + 1) + 1 := by omega
        rw [this, Nat.pow_succ, Nat.mul_comm (B ^ _) B]
        omega
      · rw [if_neg d, if_neg (by omega)]
        omega
theorem dg_inj {B : Nat} (hB : 0 < B) {c d : Nat → Nat} : ∀ m o, (∀ y, o ≤ y → y < o + m → c y < B ∧ d y < B) → dg B c o m = dg B d o m → ∀ y, o ≤ y → y < o + m → c y = d y
  | 0, o, _, _ => fun y h1 h2 => absurd h1 (by omega)
  | m + 1, o, hb, he => by
    intro y h1 h2
    simp only [dg] at he
    obtain ⟨b1, b2⟩ := hb o (by omega) (by omega)
    have e1 : c o = d o := by
      have := congrArg (fun t => t % B) he
      simp only [Nat.add_mul_mod_self_left] at this
      rwa [Nat.mod_eq_of_lt b1, Nat.mod_eq_of_lt b2] at this
    by_cases e : y = o
    · subst e
      exact e1
    · refine dg_inj hB m (o + 1) (fun y q1 q2 => hb y (by omega) (by omega)) ?_ y (by omega) (by omega)
      rw [e1] at he
      exact Nat.eq_of_mul_eq_mul_left hB (by omega)
theorem dg_cg {B : Nat} {c d : Nat → Nat} : ∀ m o, (∀ y, o ≤ y → y < o + m → c y = d y) → dg B c o m = dg B d o m
  | 0, _, _ => rfl
  | m + 1, o, h => by
    simp only [dg]
    rw [h o (by omega) (by omega), dg_cg m (o + 1) (fun y q1 q2 => h y (by omega) (by omega))]
theorem vs_dg {f : Nat → Nat} {a : Nat} : ∀ s, (∀ j, j < s → f (a + j) < 4) → vs (fun x => 65536 ^ x) f a s = ((dg 65536 (fun x => cn f x a s) 0 4 : Nat) : Int)
  | 0, _ => rfl
  | s + 1, h => by
    have h1 := vs_dg (f := f) (a := a) s (fun j hj => h j (by omega))
    have h2 := dg_add (B := 65536) (c := fun x => cn f x a s) (c' := fun x => cn f x a (s + 1)) (x := f (a + s)) (fun y => rfl) 4 0
    have h3 := h s (by omega)
    rw [if_pos (by omega)] at h2
    rw [h2]
    simp only [vs]
    rw [h1, Int.natCast_add, Int.natCast_pow]
    rfl
def cq (f : Nat → Nat) (a p : Nat) : Nat → Nat
  | 0 => 0
  | m + 1 => cq f a p m + (if 4 * f (a + m) + f (a + m + 1) = p then 1 else 0)
theorem cq_le (f : Nat → Nat) (a p : Nat) : ∀ m, cq f a p m ≤ m
  | 0 => Nat.le_refl 0
  | m + 1 => by
    have := cq_le f a p m
    simp only [cq]
    split <;> omega
theorem cq_cnp {f : Nat → Nat} {a x y : Nat} (hy : y < 4) : ∀ m, (∀ j, j < m + 1 → f (a + j) < 4) → cq f a (4 * x + y) m = cnp f x y a m
  | 0, _ => rfl
  | m + 1, h => by
    have h1 := cq_cnp (f := f) (a := a) (x := x) hy m (fun j hj => h j (by omega))
    have h2 := h (m + 1) (by omega)
    rw [← Nat.add_assoc] at h2
    simp only [cq, cnp]
    rw [h1]
    by_cases c : f (a + m) = x ∧ f (a + m + 1) = y
    · rw [if_pos c, if_pos (by omega)]
    · rw [if_neg c, if_neg (by omega)]
theorem pwl_dg {f : Nat → Nat} {a : Nat} : ∀ m, psum (pwl f) (a + 1) m = ((dg 256 (fun p => cq f a p m) 0 8 : Nat) : Int)
  | 0 => rfl
  | m + 1 => by
    have h1 := pwl_dg (f := f) (a := a) m
    have h2 := dg_add (B := 256) (c := fun p => cq f a p m) (c' := fun p => cq f a p (m + 1)) (x := 4 * f (a + m) + f (a + m + 1)) (fun y => rfl) 8 0
    rw [h2]
    simp only [psum]
    rw [h1, Int.natCast_add, pwl, if_neg (by omega), show a + 1 + m - 1 = a + m by omega, show a + 1 + m = a + m + 1 by omega]
    by_cases c : 4 * f (a + m) + f (a + m + 1) < 8
    · rw [if_pos c, if_pos (by omega), Int.natCast_pow]
      rfl
    · rw [if_neg c, if_neg (by omega)]
      rfl
theorem pwh_dg {f : Nat → Nat} {a : Nat} : ∀ m, (∀ j, j < m + 1 → f (a + j) < 4) → psum (pwh f) (a + 1) m = ((dg 256 (fun p => cq f a p m) 8 8 : Nat) : Int)
  | 0, _ => rfl
  | m + 1, h => by
    have h1 := pwh_dg (f := f) (a := a) m (fun j hj => h j (by omega))
    have h3 := h m (by omega)
    have h4 := h (m + 1) (by omega)
    rw [← Nat.add_assoc] at h4
    have h2 := dg_add (B := 256) (c := fun p => cq f a p m) (c' := fun p => cq f a p (m + 1)) (x := 4 * f (a + m) + f (a + m + 1)) (fun y => rfl) 8 8
    rw [h2]
    simp only [psum]
    rw [h1, Int.natCast_add, pwh, if_neg (by omega), show a + 1 + m - 1 = a + m by omega, show a + 1 + m = a + m + 1 by omega]
    by_cases c : 4 * f (a + m) + f (a + m + 1) < 8
    · rw [if_pos c, if_neg (by omega)]
      rfl
    · rw [if_neg c, if_pos (by omega), Int.natCast_pow]
      rfl
theorem cn_0 {f : Nat → Nat} {x a N : Nat} (hx : N ≤ x) : ∀ s, (∀ j, j < s → f (a + j) < N) → cn f x a s = 0
  | 0, _ => rfl
  | s + 1, h => by
    have h1 := cn_0 (f := f) (a := a) hx s (fun j hj => h j (by omega))
    have h2 := h s (by omega)
    simp only [cn]
    rw [h1, if_neg (by omega)]
theorem cnp_0 {f : Nat → Nat} {x y a N : Nat} (hx : N ≤ x ∨ N ≤ y) : ∀ s, (∀ j, j < s + 1 → f (a + j) < N) → cnp f x y a s = 0
  | 0, _ => rfl
  | s + 1, h => by
    have h1 := cnp_0 (f := f) (a := a) hx s (fun j hj => h j (by omega))
    have h2 := h s (by omega)
    have h3 := h (s + 1) (by omega)
    rw [← Nat.add_assoc] at h3
    simp only [cnp]
    rw [h1, if_neg (by omega)]
theorem dg8_lt {c : Nat → Nat} {o : Nat} (h : ∀ y, c y ≤ 41) : dg 256 c o 8 < 4611686018427387904 := by
  have h0 := h o
  have h1 := h (o + 1)
  have h2 := h (o + 1 + 1)
  have h3 := h (o + 1 + 1 + 1)
  have h4 := h (o + 1 + 1 + 1 + 1)
  have h5 := h (o + 1 + 1 + 1 + 1 + 1)
  have h6 := h (o + 1 + 1 + 1 + 1 + 1 + 1)
  have h7 := h (o + 1 + 1 + 1 + 1 + 1 + 1 + 1)
  simp only [dg]
  omega
theorem dg4_lt {c : Nat → Nat} {o : Nat} (h : ∀ y, c y ≤ 41) : dg 65536 c o 4 < 4611686018427387904 := by
  have h0 := h o
  have h1 := h (o + 1)
  have h2 := h (o + 1 + 1)
  have h3 := h (o + 1 + 1 + 1)
  simp only [dg]
  omega
/-- equal sums of letter counts -/
theorem sum_iff {f : Nat → Nat} {N a b s : Nat} (hN : N ≤ 4) (hs : s ≤ 41) (ha : ∀ j, j < s → f (a + j) < N) (hb : ∀ j, j < s → f (b + j) < N) : (lI (vs (fun x => 65536 ^ x) f a s) = lI (vs (fun x => 65536 ^ x) f b s)) ↔ ∀ x, x < N → cn f x a s = cn f x b s := by
  rw [vs_dg s (fun j hj => by have := ha j hj; omega), vs_dg s (fun j hj => by have := hb j hj; omega)]
  have h1 := dg4_lt (c := fun x => cn f x a s) (o := 0) (fun y => Nat.le_trans (cn_le f y a s) hs)
  have h2 := dg4_lt (c := fun x => cn f x b s) (o := 0) (fun y => Nat.le_trans (cn_le f y b s) hs)
  rw [lI_eq (by omega) (by omega) (by omega) (by omega)]
  constructor
  · intro e x hx
    have e : dg 65536 (fun x => cn f x a s) 0 4 = dg 65536 (fun x => cn f x b s) 0 4 := by omega
    exact dg_inj (by omega) 4 0 (fun y _ _ => ⟨by have := cn_le f y a s; omega, by have := cn_le f y b s; omega⟩) e x (by omega) (by omega)
  · intro h
    refine congrArg Int.ofNat (dg_cg 4 0 (fun y _ _ => ?_))
    by_cases c : y < N
    · exact h y c
    · rw [cn_0 (Nat.le_of_not_lt c) s ha, cn_0 (Nat.le_of_not_lt c) s hb]
theorem pair_iff {f : Nat → Nat} {N a b m : Nat} (hN : N ≤ 4) (hs : m ≤ 41) (ha : ∀ j, j < m + 1 → f (a + j) < N) (hb : ∀ j, j < m + 1 → f (b + j) < N) :
    (lI (psum (pwl f) (a + 1) m) = lI (psum (pwl f) (b + 1) m) ∧ lI (psum (pwh f) (a + 1) m) = lI (psum (pwh f) (b + 1) m)) ↔ ∀ x, x < N → ∀ y, y < N → cnp f x y a m = cnp f x y b m := by
  have ha4 : ∀ j, j < m + 1 → f (a + j) < 4 := fun j hj => by have := ha j hj; omega
  have hb4 : ∀ j, j < m + 1 → f (b + j) < 4 := fun j hj => by have := hb j hj; omega
  rw [pwl_dg, pwl_dg, pwh_dg m ha4, pwh_dg m hb4]
  have h1 := fun o => dg8_lt (c := fun p => cq f a p m) (o := o) (fun y => Nat.le_trans (cq_le f a y m) hs)
  have h2 := fun o => dg8_lt (c := fun p => cq f b p m) (o := o) (fun y => Nat.le_trans (cq_le f b y m) hs)
  have h10 := h1 0
  have h18 := h1 8
  have h20 := h2 0
  have h28 := h2 8
  rw [lI_eq (by omega) (by omega) (by omega) (by omega), lI_eq (by omega) (by omega) (by omega) (by omega)]
  constructor
  · intro e x hx y hy
    have e1 : dg 256 (fun p => cq f a p m) 0 8 = dg 256 (fun p => cq f b p m) 0 8 := by omega
    have e2 : dg 256 (fun p => cq f a p m) 8 8 = dg 256 (fun p => cq f b p m) 8 8 := by omega
    rw [← cq_cnp (by omega) m ha4, ← cq_cnp (by omega) m hb4]
    have hc : ∀ o y, o ≤ y → y < o + 8 → (fun p => cq f a p m) y < 256 ∧ (fun p => cq f b p m) y < 256 := fun o y _ _ => ⟨by have := cq_le f a y m; simp only; omega, by have := cq_le f b y m; simp only; omega⟩
    by_cases c : 4 * x + y < 8
    · exact dg_inj (by omega) 8 0 (hc 0) e1 (4 * x + y) (by omega) (by omega)
    · exact dg_inj (by omega) 8 8 (hc 8) e2 (4 * x + y) (by omega) (by omega)
  · intro h
    have hc : ∀ p, p < 16 → cq f a p m = cq f b p m := by
      intro p hp
      have e : p = 4 * (p / 4) + p % 4 := by omega
      rw [e, cq_cnp (by omega) m ha4, cq_cnp (by omega) m hb4]
      by_cases c : p / 4 < N ∧ p % 4 < N
      · exact h _ c.1 _ c.2
      · rw [cnp_0 (N := N) (by omega) m ha, cnp_0 (N := N) (by omega) m hb]
    exact ⟨congrArg Int.ofNat (dg_cg 8 0 (fun y _ _ => hc y (by omega))), congrArg Int.ofNat (dg_cg 8 8 (fun y _ _ => hc y (by omega)))⟩
theorem s8_sameLetters {post : Int32 → Prop} {L : Nat → Int32} {f : Nat → Nat} {a b s : Nat} (ha : a + s ≤ 41) (hb : b + s ≤ 41) (hr : ∀ j, (j < a + s ∨ j < b + s) → L j = iI (f j) ∧ f j < 4)
    (h1 : (∀ j, j < s → f (a + j) = f (b + j)) → post (iI 1)) (h0 : ¬ (∀ j, j < s → f (a + j) = f (b + j)) → post (iI 0)) : VX8_sameLetters post L (iI a) (iI b) (iI s) := by
  have key : ∀ (q m : Nat) (x4 : Int32), m + q = s → x4 = iI m → (∀ j, j < m → f (a + j) = f (b + j)) → VX8_sameLetters_3 post L (iI a) (iI b) (iI s) (q + 1) x4 := by
    intro q
    induction q with
    | zero =>
      intro m x4 hm e hp
      have : m = s := by omega
      subst this e
      rw [VX8_sameLetters_3]
      simp (disch := omega) only [iI_lit, lI_lit, iI_nI, iI_add, iI_sub, iI_mul, iI_neg, c_lt_t, c_lt_f, c_le_t, c_le_f, c_eq_t, c_eq_f, c_in_t, iI_clamp, Int.toNat_natCast, forall_eq, true_and, and_true, false_and, and_false, not_true_eq_false, not_false_eq_true, true_implies, false_implies, implies_true, forall_const, true_or, or_true, false_or, or_false, pk_us, vu_s, vL_s, vb_0, vb_1, if_true, if_false, ite_true, ite_false]
      exact h1 hp
    | succ q ih =>
      intro m x4 hm e hp
      subst e
      obtain ⟨a1, a2⟩ := hr (a + m) (by omega)
      obtain ⟨b1, b2⟩ := hr (b + m) (by omega)
      have ea : ((a : Int) + (m : Int)).toNat = a + m := by omega
      have eb : ((b : Int) + (m : Int)).toNat = b + m := by omega
      rw [VX8_sameLetters_3]
      by_cases c : f (a + m) = f (b + m)
      · simp (disch := omega) only [ea, eb, a1, b1, iI_lit, lI_lit, iI_nI, iI_add, iI_sub, iI_mul, iI_neg, c_lt_t, c_lt_f, c_le_t, c_le_f, c_eq_t, c_eq_f, c_in_t, iI_clamp, Int.toNat_natCast, forall_eq, true_and, and_true, false_and, and_false, not_true_eq_false, not_false_eq_true, true_implies, false_implies, implies_true, forall_const, true_or, or_true, false_or, or_false, pk_us, vu_s, vL_s, vb_0, vb_1, if_true, if_false, ite_true, ite_false]
        refine ih (m + 1) _ (by omega) (congrArg iI (by omega)) (fun j hj => ?_)
        by_cases e : j = m
        · subst e
          exact c
        · exact hp j (by omega)
      · simp (disch := omega) only [ea, eb, a1, b1, iI_lit, lI_lit, iI_nI, iI_add, iI_sub, iI_mul, iI_neg, c_lt_t, c_lt_f, c_le_t, c_le_f, c_eq_t, c_eq_f, c_in_t, iI_clamp, Int.toNat_natCast, forall_eq, true_and, and_true, false_and, and_false, not_true_eq_false, not_false_eq_true, true_implies, false_implies, implies_true, forall_const, true_or, or_true, false_or, or_false, pk_us, vu_s, vL_s, vb_0, vb_1, if_true, if_false, ite_true, ite_false]
        exact h0 (fun h => c (h m (by omega)))
  exact ⟨s + 1, key s 0 _ (by omega) rfl (fun j hj => absurd hj (Nat.not_lt_zero j))⟩
theorem s8_same {post : Int32 → Prop} {K N : Nat} {V : Nat → Int} {f : Nat → Nat} {n a b s : Nat} {L T : Nat → Int32} {S A B : Nat → Int64} (hK : K ≤ 3) (hN : 2 ≤ N ∧ N ≤ 4) (hV : ∀ x, x < 4 → -9 ≤ V x ∧ V x ≤ 9) (hn : n ≤ 41) (hf : ∀ j, j < n → f j < N) (h : TI K (wK K V) f n L T S A B) (ha : a + s ≤ n) (hb : b + s ≤ n)
    (h1 : alk K N V f a b s = true → post (iI 1)) (h0 : alk K N V f a b s = false → post (iI 0)) : VX8_sameBlocks post L S A B (iI K) (iI a) (iI b) (iI s) := by
  have hS := fun a m hm => psum_S (a := a) (fun j hj => (h.2 j hj).2.2.1) m hm
  have ea : ((a : Int) + (s : Int)).toNat = a + s := by omega
  have eb : ((b : Int) + (s : Int)).toNat = b + s := by omega
  have hr : ∀ j, j < n → L j = iI (f j) ∧ f j < 4 := fun j hj => ⟨(h.2 j hj).2.1, (h.2 j hj).1⟩
  by_cases c0 : K = 0
  · subst c0
    simp (disch := omega) only [VX8_sameBlocks, iI_lit, lI_lit, iI_nI, iI_add, iI_sub, iI_mul, iI_neg, c_lt_t, c_lt_f, c_le_t, c_le_f, c_eq_t, c_eq_f, c_in_t, iI_clamp, Int.toNat_natCast, forall_eq, true_and, and_true, false_and, and_false, not_true_eq_false, not_false_eq_true, true_implies, false_implies, implies_true, forall_const, true_or, or_true, false_or, or_false, pk_us, vu_s, vL_s, vb_0, vb_1, if_true, if_false, ite_true, ite_false]
    refine s8_sameLetters (f := f) (by omega) (by omega) (fun j hj => hr j (by omega)) (fun q => ?_) (fun q => ?_)
    · simp (disch := omega) only [iI_lit, lI_lit, iI_nI, iI_add, iI_sub, iI_mul, iI_neg, c_lt_t, c_lt_f, c_le_t, c_le_f, c_eq_t, c_eq_f, c_in_t, iI_clamp, Int.toNat_natCast, forall_eq, true_and, and_true, false_and, and_false, not_true_eq_false, not_false_eq_true, true_implies, false_implies, implies_true, forall_const, true_or, or_true, false_or, or_false, pk_us, vu_s, vL_s, vb_0, vb_1, if_true, if_false, ite_true, ite_false]
      exact h1 (by simp only [alk, if_true]; exact decide_eq_true q)
    · simp (disch := omega) only [iI_lit, lI_lit, iI_nI, iI_add, iI_sub, iI_mul, iI_neg, c_lt_t, c_lt_f, c_le_t, c_le_f, c_eq_t, c_eq_f, c_in_t, iI_clamp, Int.toNat_natCast, forall_eq, true_and, and_true, false_and, and_false, not_true_eq_false, not_false_eq_true, true_implies, false_implies, implies_true, forall_const, true_or, or_true, false_or, or_false, pk_us, vu_s, vL_s, vb_0, vb_1, if_true, if_false, ite_true, ite_false]
      exact h0 (by simp only [alk, if_true]; exact decide_eq_false q)
  · have hSa := hS a s ha
    have hSb := hS b s hb
    rw [psum_vs] at hSa hSb
    have hfa : ∀ j, j < s → f (a + j) < N := fun j hj => hf _ (by omega)
    have hfb : ∀ j, j < s → f (b + j) < N := fun j hj => hf _ (by omega)
    by_cases c2 : K = 2
    · subst c2
      have q1 := vs_le (V := V) (f := f) (a := a) hV s (fun j hj => by have := hfa j hj; omega)
      have q2 := vs_le (V := V) (f := f) (a := b) hV s (fun j hj => by have := hfb j hj; omega)
      have hW : wK 2 V = V := by
        funext x
        rfl
      rw [hW] at hSa hSb
      have e : (lI (vs V f a s) = lI (vs V f b s)) = (vs V f a s = vs V f b s) := propext (lI_eq (by omega) (by omega) (by omega) (by omega))
      by_cases c : vs V f a s = vs V f b s
      · simp (disch := omega) only [VX8_sameBlocks, ea, eb, hSa, hSb, l_cancel, lgc, e, c, iI_lit, lI_lit, iI_nI, iI_add, iI_sub, iI_mul, iI_neg, c_lt_t, c_lt_f, c_le_t, c_le_f, c_eq_t, c_eq_f, c_in_t, iI_clamp, Int.toNat_natCast, forall_eq, true_and, and_true, false_and, and_false, not_true_eq_false, not_false_eq_true, true_implies, false_implies, implies_true, forall_const, true_or, or_true, false_or, or_false, pk_us, vu_s, vL_s, vb_0, vb_1, if_true, if_false, ite_true, ite_false]
        exact h1 (by simp only [alk]; exact decide_eq_true c)
      · simp (disch := omega) only [VX8_sameBlocks, ea, eb, hSa, hSb, l_cancel, lgc, e, c, iI_lit, lI_lit, iI_nI, iI_add, iI_sub, iI_mul, iI_neg, c_lt_t, c_lt_f, c_le_t, c_le_f, c_eq_t, c_eq_f, c_in_t, iI_clamp, Int.toNat_natCast, forall_eq, true_and, and_true, false_and, and_false, not_true_eq_false, not_false_eq_true, true_implies, false_implies, implies_true, forall_const, true_or, or_true, false_or, or_false, pk_us, vu_s, vL_s, vb_0, vb_1, if_true, if_false, ite_true, ite_false]
        exact h0 (by simp only [alk]; exact decide_eq_false c)
    · have hW : wK K V = fun x => 65536 ^ x := by
        funext x
        rw [wK, if_neg c2]
      rw [hW] at hSa hSb
      have e := propext (sum_iff (f := f) hN.2 (by omega) hfa hfb)
      by_cases c3 : K = 3
      · subst c3
        by_cases c : ∀ x, x < N → cn f x a s = cn f x b s
        · by_cases cs : s = 0
          · subst cs
            have e2 := eq_true c
            simp (disch := omega) only [VX8_sameBlocks, ea, eb, hSa, hSb, l_cancel, lgc, e, e2, iI_lit, lI_lit, iI_nI, iI_add, iI_sub, iI_mul, iI_neg, c_lt_t, c_lt_f, c_le_t, c_le_f, c_eq_t, c_eq_f, c_in_t, iI_clamp, Int.toNat_natCast, forall_eq, true_and, and_true, false_and, and_false, not_true_eq_false, not_false_eq_true, true_implies, false_implies, implies_true, forall_const, true_or, or_true, false_or, or_false, pk_us, vu_s, vL_s, vb_0, vb_1, if_true, if_false, ite_true, ite_false]
            exact h1 (by simp only [alk]; exact decide_eq_true ⟨fun q => absurd q (Nat.lt_irrefl 0), c, fun x _ y _ => rfl⟩)
          · have e2 := eq_true c
            obtain ⟨a1, a2⟩ := hr a (by omega)
            obtain ⟨b1, b2⟩ := hr b (by omega)
            by_cases d : f a = f b
            · have d' : ((f a : Nat) : Int) = (f b : Nat) := by omega
              have hA := fun a m hm => psum_S (a := a) (fun j hj => ((h.2 j hj).2.2.2.2 rfl).1) m hm
              have hB := fun a m hm => psum_S (a := a) (fun j hj => ((h.2 j hj).2.2.2.2 rfl).2) m hm
              have hAa := hA (a + 1) (s - 1) (by omega)
              have hAb := hA (b + 1) (s - 1) (by omega)
              have hBa := hB (a + 1) (s - 1) (by omega)
              have hBb := hB (b + 1) (s - 1) (by omega)
              rw [show a + 1 + (s - 1) = a + s by omega] at hAa hBa
              rw [show b + 1 + (s - 1) = b + s by omega] at hAb hBb
              have ea1 : ((a : Int) + 1).toNat = a + 1 := by omega
              have eb1 : ((b : Int) + 1).toNat = b + 1 := by omega
              have hp := pair_iff (f := f) (N := N) (a := a) (b := b) (m := s - 1) hN.2 (by omega) (fun j hj => hfa j (by omega)) (fun j hj => hfb j (by omega))
              by_cases p1 : lI (psum (pwl f) (a + 1) (s - 1)) = lI (psum (pwl f) (b + 1) (s - 1))
              · by_cases p2 : lI (psum (pwh f) (a + 1) (s - 1)) = lI (psum (pwh f) (b + 1) (s - 1))
                · simp (disch := omega) only [VX8_sameBlocks, VX8_samePairs, ea, eb, ea1, eb1, hSa, hSb, hAa, hAb, hBa, hBb, l_cancel, lgc, e, e2, a1, b1, p1, p2, iI_lit, lI_lit, iI_nI, iI_add, iI_sub, iI_mul, iI_neg, c_lt_t, c_lt_f, c_le_t, c_le_f, c_eq_t, c_eq_f, c_in_t, iI_clamp, Int.toNat_natCast, forall_eq, true_and, and_true, false_and, and_false, not_true_eq_false, not_false_eq_true, true_implies, false_implies, implies_true, forall_const, true_or, or_true, false_or, or_false, pk_us, vu_s, vL_s, vb_0, vb_1, if_true, if_false, ite_true, ite_false]
                  exact h1 (by simp only [alk]; exact decide_eq_true ⟨fun _ => d, c, hp.mp ⟨p1, p2⟩⟩)
                · simp (disch := omega) only [VX8_sameBlocks, VX8_samePairs, ea, eb, ea1, eb1, hSa, hSb, hAa, hAb, hBa, hBb, l_cancel, lgc, e, e2, a1, b1, p1, p2, iI_lit, lI_lit, iI_nI, iI_add, iI_sub, iI_mul, iI_neg, c_lt_t, c_lt_f, c_le_t, c_le_f, c_eq_t, c_eq_f, c_in_t, iI_clamp, Int.toNat_natCast, forall_eq, true_and, and_true, false_and, and_false, not_true_eq_false, not_false_eq_true, true_implies, false_implies, implies_true, forall_const, true_or, or_true, false_or, or_false, pk_us, vu_s, vL_s, vb_0, vb_1, if_true, if_false, ite_true, ite_false]
                  exact h0 (by simp only [alk]; exact decide_eq_false (fun q => p2 (hp.mpr q.2.2).2))
              · simp (disch := omega) only [VX8_sameBlocks, VX8_samePairs, ea, eb, ea1, eb1, hSa, hSb, hAa, hAb, hBa, hBb, l_cancel, lgc, e, e2, a1, b1, p1, iI_lit, lI_lit, iI_nI, iI_add, iI_sub, iI_mul, iI_neg, c_lt_t, c_lt_f, c_le_t, c_le_f, c_eq_t, c_eq_f, c_in_t, iI_clamp, Int.toNat_natCast, forall_eq, true_and, and_true, false_and, and_false, not_true_eq_false, not_false_eq_true, true_implies, false_implies, implies_true, forall_const, true_or, or_true, false_or, or_false, pk_us, vu_s, vL_s, vb_0, vb_1, if_true, if_false, ite_true, ite_false]
                exact h0 (by simp only [alk]; exact decide_eq_false (fun q => p1 (hp.mpr q.2.2).1))
            · simp (disch := omega) only [VX8_sameBlocks, ea, eb, hSa, hSb, l_cancel, lgc, e, e2, a1, b1, iI_lit, lI_lit, iI_nI, iI_add, iI_sub, iI_mul, iI_neg, c_lt_t, c_lt_f, c_le_t, c_le_f, c_eq_t, c_eq_f, c_in_t, iI_clamp, Int.toNat_natCast, forall_eq, true_and, and_true, false_and, and_false, not_true_eq_false, not_false_eq_true, true_implies, false_implies, implies_true, forall_const, true_or, or_true, false_or, or_false, pk_us, vu_s, vL_s, vb_0, vb_1, if_true, if_false, ite_true, ite_false]
              exact h0 (by simp only [alk]; exact decide_eq_false (fun q => d (q.1 (by omega))))
        · have e2 := eq_false c
          simp (disch := omega) only [VX8_sameBlocks, ea, eb, hSa, hSb, l_cancel, lgc, e, e2, iI_lit, lI_lit, iI_nI, iI_add, iI_sub, iI_mul, iI_neg, c_lt_t, c_lt_f, c_le_t, c_le_f, c_eq_t, c_eq_f, c_in_t, iI_clamp, Int.toNat_natCast, forall_eq, true_and, and_true, false_and, and_false, not_true_eq_false, not_false_eq_true, true_implies, false_implies, implies_true, forall_const, true_or, or_true, false_or, or_false, pk_us, vu_s, vL_s, vb_0, vb_1, if_true, if_false, ite_true, ite_false]
          exact h0 (by simp only [alk]; exact decide_eq_false (fun q => c q.2.1))
      · have hk : K = 1 := by omega
        subst hk
        by_cases c : ∀ x, x < N → cn f x a s = cn f x b s
        · have e2 := eq_true c
          simp (disch := omega) only [VX8_sameBlocks, ea, eb, hSa, hSb, l_cancel, lgc, e, e2, iI_lit, lI_lit, iI_nI, iI_add, iI_sub, iI_mul, iI_neg, c_lt_t, c_lt_f, c_le_t, c_le_f, c_eq_t, c_eq_f, c_in_t, iI_clamp, Int.toNat_natCast, forall_eq, true_and, and_true, false_and, and_false, not_true_eq_false, not_false_eq_true, true_implies, false_implies, implies_true, forall_const, true_or, or_true, false_or, or_false, pk_us, vu_s, vL_s, vb_0, vb_1, if_true, if_false, ite_true, ite_false]
          exact h1 (by simp only [alk]; exact decide_eq_true c)
        · have e2 := eq_false c
          simp (disch := omega) only [VX8_sameBlocks, ea, eb, hSa, hSb, l_cancel, lgc, e, e2, iI_lit, lI_lit, iI_nI, iI_add, iI_sub, iI_mul, iI_neg, c_lt_t, c_lt_f, c_le_t, c_le_f, c_eq_t, c_eq_f, c_in_t, iI_clamp, Int.toNat_natCast, forall_eq, true_and, and_true, false_and, and_false, not_true_eq_false, not_false_eq_true, true_implies, false_implies, implies_true, forall_const, true_or, or_true, false_or, or_false, pk_us, vu_s, vL_s, vb_0, vb_1, if_true, if_false, ite_true, ite_false]
          exact h0 (by simp only [alk]; exact decide_eq_false c)
