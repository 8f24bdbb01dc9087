/-! THE TRAIL: sums over prefixes, digits -/
def tp (f : Nat → Nat) : Nat → Nat
  | 0 => 0
  | n + 1 => max (tp f n) (f n + 1)
def pwl (f : Nat → Nat) (j : Nat) : Int := if j = 0 then 0 else if 4 * f (j - 1) + f j < 8 then 256 ^ (4 * f (j - 1) + f j) else 0
def pwh (f : Nat → Nat) (j : Nat) : Int := if j = 0 then 0 else if 4 * f (j - 1) + f j < 8 then 0 else 256 ^ (4 * f (j - 1) + f j - 8)
def TI (K : Nat) (W : Nat → Int) (f : Nat → Nat) (n : Nat) (L T : Nat → Int32) (S A B : Nat → Int64) : Prop :=
  T 0 = iI 0 ∧ ∀ j, j < n → f j < 4 ∧ L j = iI (f j) ∧ S (j + 1) = S j + lI (W (f j)) ∧ T (j + 1) = iI (tp f (j + 1)) ∧ (K = 3 → A (j + 1) = A j + lI (pwl f j) ∧ B (j + 1) = B j + lI (pwh f j))
theorem sh16 {z : Int} (h1 : 0 ≤ z) (h2 : z < 4) : lI 1 <<< ((iI (16 * z)).toInt64 &&& lI 63) = lI (65536 ^ z.toNat) := by
  obtain rfl | rfl | rfl | rfl : z = 0 ∨ z = 1 ∨ z = 2 ∨ z = 3 := by omega
  all_goals decide
theorem sh8 {z : Int} (h1 : 0 ≤ z) (h2 : z < 8) : lI 1 <<< ((iI (8 * z)).toInt64 &&& lI 63) = lI (256 ^ z.toNat) := by
  obtain rfl | rfl | rfl | rfl | rfl | rfl | rfl | rfl : z = 0 ∨ z = 1 ∨ z = 2 ∨ z = 3 ∨ z = 4 ∨ z = 5 ∨ z = 6 ∨ z = 7 := by omega
  all_goals decide
theorem lI_0 (x : Int64) : x + lI 0 = x := by
  have : lI 0 = 0 := rfl
  rw [this, Int64.add_zero]
theorem TI_tp {K : Nat} {W : Nat → Int} {f : Nat → Nat} {n : Nat} {L T : Nat → Int32} {S A B : Nat → Int64} (h : TI K W f n L T S A B) {j : Nat} (hj : j ≤ n) : T j = iI (tp f j) := by
  by_cases c : j = 0
  · subst c
    exact h.1
  · have := (h.2 (j - 1) (by omega)).2.2.2.1
    rwa [Nat.sub_add_cancel (by omega)] at this
theorem tp_le {f : Nat → Nat} : ∀ n, (∀ j, j < n → f j < 4) → tp f n ≤ 4
  | 0, _ => Nat.zero_le 4
  | n + 1, h => by
    have h1 := tp_le n (fun j hj => h j (by omega))
    have h2 := h n (by omega)
    simp only [tp]
    omega
theorem tp_cg {f g : Nat → Nat} : ∀ n, (∀ j, j < n → f j = g j) → tp f n = tp g n
  | 0, _ => rfl
  | n + 1, h => by simp only [tp]; rw [tp_cg n (fun j hj => h j (by omega)), h n (by omega)]
theorem TI_cg {K : Nat} {W : Nat → Int} {f g : Nat → Nat} {n : Nat} {L T : Nat → Int32} {S A B : Nat → Int64} (h : TI K W f n L T S A B) (e : ∀ j, j < n → f j = g j) : TI K W g n L T S A B := by
  refine ⟨h.1, fun j hj => ?_⟩
  have h1 := h.2 j hj
  have h2 : tp f (j + 1) = tp g (j + 1) := tp_cg _ (fun t ht => e t (by omega))
  have h3 : pwl f j = pwl g j := by
    unfold pwl
    rw [e j hj]
    by_cases c : j = 0
    · rw [if_pos c, if_pos c]
    · rw [if_neg c, if_neg c, e (j - 1) (by omega)]
  have h4 : pwh f j = pwh g j := by
    unfold pwh
    rw [e j hj]
    by_cases c : j = 0
    · rw [if_pos c, if_pos c]
    · rw [if_neg c, if_neg c, e (j - 1) (by omega)]
  rw [e j hj, h2, h3, h4] at h1
  exact h1
theorem TI_le {K : Nat} {W : Nat → Int} {f : Nat → Nat} {n m : Nat} {L T : Nat → Int32} {S A B : Nat → Int64} (h : TI K W f n L T S A B) (e : m ≤ n) : TI K W f m L T S A B := ⟨h.1, fun j hj => h.2 j (by omega)⟩
theorem s8_push {post : (Nat → Int32) → (Nat → Int32) → (Nat → Int64) → (Nat → Int64) → (Nat → Int64) → Int32 → Prop} {K : Nat} {W : Nat → Int} {f : Nat → Nat} {n : Nat} {L T : Nat → Int32} {S A B wt : Nat → Int64} (hK : K ≤ 3) (hn : n ≤ 40) (hf : f n < 4) (hw : ∀ x, x < 4 → wt x = lI (W x)) (h : TI K W f n L T S A B)
    (hp : ∀ L' T' S' A' B', TI K W f (n + 1) L' T' S' A' B' → post L' T' S' A' B' (iI ((n + 1 : Nat) : Int))) : VX8_push post wt (iI K) (iI (f n)) L T S A B (iI n) := by
  have hT := TI_tp h (Nat.le_refl n)
  have htp := tp_le n (fun j hj => (h.2 j hj).1)
  have e1 : ((n : Int) + 1).toNat = n + 1 := by omega
  have hT2 : (if iI ((tp f n : Nat) : Int) < iI ((f n : Int) + 1) then iI ((f n : Int) + 1) else iI ((tp f n : Nat) : Int)) = iI ((tp f (n + 1) : Nat) : Int) := by
    simp only [tp]
    by_cases c : tp f n < f n + 1
    · rw [if_pos ((iI_lt (by omega) (by omega) (by omega) (by omega)).mpr (by omega))]
      exact congrArg iI (by omega)
    · rw [if_neg (fun q => c (by have := (iI_lt (by omega) (by omega) (by omega) (by omega)).mp q; omega))]
      exact congrArg iI (by omega)
  have fin : ∀ A' B' : Nat → Int64, (∀ j, j < n + 1 → A' j = A j ∧ B' j = B j) → (K = 3 → A' (n + 1) = A n + lI (pwl f n) ∧ B' (n + 1) = B n + lI (pwh f n)) → post (upd L n (iI (f n))) (upd T (n + 1) (iI ((tp f (n + 1) : Nat) : Int))) (vp_updL S (n + 1) (S n + lI (W (f n)))) A' B' (iI ((n : Int) + 1)) := by
    intro A' B' q1 q2
    have e : ((n : Int) + 1) = ((n + 1 : Nat) : Int) := by omega
    rw [e]
    refine hp _ _ _ _ _ ⟨by rw [pk_un (by omega)]; exact h.1, fun j hj => ?_⟩
    by_cases c : j = n
    · subst c
      refine ⟨hf, by rw [pk_us], by rw [vL_s, vL_n (by omega)], by rw [pk_us], fun k => ?_⟩
      rw [(q1 j (by omega)).1, (q1 j (by omega)).2]
      exact q2 k
    · obtain ⟨a1, a2, a3, a4, a5⟩ := h.2 j (by omega)
      refine ⟨a1, by rw [pk_un c]; exact a2, by rw [vL_n (by omega), vL_n (by omega)]; exact a3, by rw [pk_un (by omega)]; exact a4, fun k => ?_⟩
      rw [(q1 j (by omega)).1, (q1 j (by omega)).2, (q1 (j + 1) (by omega)).1, (q1 (j + 1) (by omega)).2]
      exact a5 k
  by_cases c : K = 3
  · subst c
    by_cases d : n = 0
    · subst d
      simp (disch := omega) only [VX8_push, VX8_push_95, VX8_sumPairs, hw, hT, hT2, e1, iI_lit, lI_lit, iI_nI, iI_add, iI_sub, iI_mul, iI_neg, c_lt_t, c_lt_f, c_le_t, c_le_f, c_eq_t, c_eq_f, c_in_t, iI_clamp, Int.toNat_natCast, forall_eq, true_and, and_true, false_and, and_false, not_true_eq_false, not_false_eq_true, true_implies, false_implies, implies_true, forall_const, true_or, or_true, false_or, or_false, pk_us, vu_s, vL_s, vb_0, vb_1, if_true, if_false, ite_true, ite_false]
      refine fin _ _ (fun j hj => ⟨vL_n (by omega), vL_n (by omega)⟩) (fun _ => ⟨?_, ?_⟩)
      · rw [vL_s, show pwl f 0 = 0 from rfl, lI_0]
      · rw [vL_s, show pwh f 0 = 0 from rfl, lI_0]
    · obtain ⟨b1, b2, -⟩ := h.2 (n - 1) (by omega)
      have e2 : ((n : Int) - 1).toNat = n - 1 := by omega
      have e3 : upd L n (iI (f n)) (n - 1) = iI (f (n - 1)) := by rw [pk_un (by omega)]; exact b2
      by_cases p : 4 * f (n - 1) + f n < 8
      · have e4 : (4 * (f (n - 1) : Int) + (f n : Int)).toNat = 4 * f (n - 1) + f n := by omega
        simp (disch := omega) only [VX8_push, VX8_push_95, VX8_sumPairs, hw, hT, hT2, e1, e2, e3, sh8, e4, iI_lit, lI_lit, iI_nI, iI_add, iI_sub, iI_mul, iI_neg, c_lt_t, c_lt_f, c_le_t, c_le_f, c_eq_t, c_eq_f, c_in_t, iI_clamp, Int.toNat_natCast, forall_eq, true_and, and_true, false_and, and_false, not_true_eq_false, not_false_eq_true, true_implies, false_implies, implies_true, forall_const, true_or, or_true, false_or, or_false, pk_us, vu_s, vL_s, vb_0, vb_1, if_true, if_false, ite_true, ite_false]
        refine fin _ _ (fun j hj => ⟨?_, vL_n (by omega)⟩) (fun _ => ⟨?_, ?_⟩)
        · rw [vL_n (by omega), vL_n (by omega)]
        · rw [vL_s, pwl, if_neg d, if_pos p]
        · rw [vL_s, pwh, if_neg d, if_pos p, lI_0]
      · have e4 : (4 * (f (n - 1) : Int) + (f n : Int) - 8).toNat = 4 * f (n - 1) + f n - 8 := by omega
        simp (disch := omega) only [VX8_push, VX8_push_95, VX8_sumPairs, hw, hT, hT2, e1, e2, e3, sh8, e4, iI_lit, lI_lit, iI_nI, iI_add, iI_sub, iI_mul, iI_neg, c_lt_t, c_lt_f, c_le_t, c_le_f, c_eq_t, c_eq_f, c_in_t, iI_clamp, Int.toNat_natCast, forall_eq, true_and, and_true, false_and, and_false, not_true_eq_false, not_false_eq_true, true_implies, false_implies, implies_true, forall_const, true_or, or_true, false_or, or_false, pk_us, vu_s, vL_s, vb_0, vb_1, if_true, if_false, ite_true, ite_false]
        refine fin _ _ (fun j hj => ⟨vL_n (by omega), ?_⟩) (fun _ => ⟨?_, ?_⟩)
        · rw [vL_n (by omega), vL_n (by omega)]
        · rw [vL_s, pwl, if_neg d, if_neg p, lI_0]
        · rw [vL_s, pwh, if_neg d, if_neg p]
  · simp (disch := omega) only [VX8_push, VX8_push_95, hw, hT, hT2, e1, iI_lit, lI_lit, iI_nI, iI_add, iI_sub, iI_mul, iI_neg, c_lt_t, c_lt_f, c_le_t, c_le_f, c_eq_t, c_eq_f, c_in_t, iI_clamp, Int.toNat_natCast, forall_eq, true_and, and_true, false_and, and_false, not_true_eq_false, not_false_eq_true, true_implies, false_implies, implies_true, forall_const, true_or, or_true, false_or, or_false, pk_us, vu_s, vL_s, vb_0, vb_1, if_true, if_false, ite_true, ite_false]
    exact fin _ _ (fun j hj => ⟨rfl, rfl⟩) (fun k => absurd k c)
def wK (K : Nat) (V : Nat → Int) (x : Nat) : Int := if K = 2 then V x else 65536 ^ x
theorem s8_begin {post : (Nat → Int64) → Int32 → Int32 → Int32 → Prop} {K : Nat} {V : Nat → Int} {values : Nat → Int32} {wt : Nat → Int64} {e sz kd ex : Int32} (hK : K ≤ 3) (hV : ∀ x, x < 4 → (-9 ≤ V x ∧ V x ≤ 9) ∧ values x = iI (V x))
    (h : ∀ wt', (∀ x, x < 4 → wt' x = lI (wK K V x)) → post wt' (iI 0) (iI K) e) : VX8_begin post e values (iI K) wt sz kd ex := by
  have key : ∀ (q m : Nat) (w : Nat → Int64) (x3 : Int32), m + q = 4 → x3 = iI m → (∀ x, x < m → w x = lI (wK K V x)) → VX8_begin_20 post e values (iI K) (q + 1) w (iI 0) (iI K) e x3 := by
    intro q
    induction q with
    | zero =>
      intro m w x3 hm ex hp
      have : m = 4 := by omega
      subst this ex
      rw [VX8_begin_20]
      simp (disch := omega) only [iI_lit, lI_lit, iI_nI, iI_add, iI_sub, iI_mul, iI_neg, c_lt_t, c_lt_f, c_le_t, c_le_f, c_eq_t, c_eq_f, c_in_t, iI_clamp, Int.toNat_natCast, forall_eq, true_and, and_true, false_and, and_false, not_true_eq_false, not_false_eq_true, true_implies, false_implies, implies_true, forall_const, true_or, or_true, false_or, or_false, pk_us, vu_s, vL_s, vb_0, vb_1, if_true, if_false, ite_true, ite_false]
      exact h w hp
    | succ q ih =>
      intro m w x3 hm ex hp
      subst ex
      have hv := hV m (by omega)
      rw [VX8_begin_20]
      have nx : ∀ z : Int, z = wK K V m → ∀ x, x < m + 1 → vp_updL w m (lI z) x = lI (wK K V x) := by
        intro z hz x hx
        by_cases c : x = m
        · subst c
          rw [vL_s, hz]
        · rw [vL_n c]
          exact hp x (by omega)
      by_cases c : K = 2
      · simp (disch := omega) only [hv, iI_long, iI_lit, lI_lit, iI_nI, iI_add, iI_sub, iI_mul, iI_neg, c_lt_t, c_lt_f, c_le_t, c_le_f, c_eq_t, c_eq_f, c_in_t, iI_clamp, Int.toNat_natCast, forall_eq, true_and, and_true, false_and, and_false, not_true_eq_false, not_false_eq_true, true_implies, false_implies, implies_true, forall_const, true_or, or_true, false_or, or_false, pk_us, vu_s, vL_s, vb_0, vb_1, if_true, if_false, ite_true, ite_false]
        exact ih (m + 1) _ _ (by omega) (congrArg iI (by omega)) (nx _ (by rw [wK, if_pos c]))
      · simp (disch := omega) only [sh16, iI_lit, lI_lit, iI_nI, iI_add, iI_sub, iI_mul, iI_neg, c_lt_t, c_lt_f, c_le_t, c_le_f, c_eq_t, c_eq_f, c_in_t, iI_clamp, Int.toNat_natCast, forall_eq, true_and, and_true, false_and, and_false, not_true_eq_false, not_false_eq_true, true_implies, false_implies, implies_true, forall_const, true_or, or_true, false_or, or_false, pk_us, vu_s, vL_s, vb_0, vb_1, if_true, if_false, ite_true, ite_false]
        exact ih (m + 1) _ _ (by omega) (congrArg iI (by omega)) (nx _ (by rw [wK, if_neg c]))
  exact ⟨5, key 4 0 _ _ (by omega) rfl (fun j hj => absurd hj (Nat.not_lt_zero j))⟩
theorem s8_pushAll {post : (Nat → Int32) → (Nat → Int32) → (Nat → Int64) → (Nat → Int64) → (Nat → Int64) → Int32 → Prop} {K : Nat} {W : Nat → Int} {f : Nat → Nat} {n : Nat} {L T src : Nat → Int32} {S A B wt : Nat → Int64} (hK : K ≤ 3) (hn : n ≤ 40) (hf : ∀ j, j < n → f j < 4 ∧ src j = iI (f j)) (hw : ∀ x, x < 4 → wt x = lI (W x)) (hT : T 0 = iI 0)
    (hp : ∀ L' T' S' A' B', TI K W f n L' T' S' A' B' → post L' T' S' A' B' (iI n)) : VX8_pushAll post 40 wt (iI K) src (iI n) L T S A B (iI 0) := by
  have key : ∀ (q m : Nat) (L T : Nat → Int32) (S A B : Nat → Int64) (sz x2 : Int32), m + q = n → sz = iI m → x2 = iI m → TI K W f m L T S A B → VX8_pushAll_2 post 40 wt (iI K) src (iI n) (q + 1) L T S A B sz x2 := by
    intro q
    induction q with
    | zero =>
      intro m L T S A B sz x2 hm e1 e2 h
      have : m = n := by omega
      subst this e1 e2
      rw [VX8_pushAll_2]
      simp (disch := omega) only [iI_lit, lI_lit, iI_nI, iI_add, iI_sub, iI_mul, iI_neg, c_lt_t, c_lt_f, c_le_t, c_le_f, c_eq_t, c_eq_f, c_in_t, iI_clamp, Int.toNat_natCast, forall_eq, true_and, and_true, false_and, and_false, not_true_eq_false, not_false_eq_true, true_implies, false_implies, implies_true, forall_const, true_or, or_true, false_or, or_false, pk_us, vu_s, vL_s, vb_0, vb_1, if_true, if_false, ite_true, ite_false]
      exact hp _ _ _ _ _ h
    | succ q ih =>
      intro m L T S A B sz x2 hm e1 e2 h
      subst e1 e2
      obtain ⟨a1, a2⟩ := hf m (by omega)
      rw [VX8_pushAll_2]
      simp (disch := omega) only [a2, iI_lit, lI_lit, iI_nI, iI_add, iI_sub, iI_mul, iI_neg, c_lt_t, c_lt_f, c_le_t, c_le_f, c_eq_t, c_eq_f, c_in_t, iI_clamp, Int.toNat_natCast, forall_eq, true_and, and_true, false_and, and_false, not_true_eq_false, not_false_eq_true, true_implies, false_implies, implies_true, forall_const, true_or, or_true, false_or, or_false, pk_us, vu_s, vL_s, vb_0, vb_1, if_true, if_false, ite_true, ite_false]
      exact s8_push hK (by omega) a1 hw h (fun L' T' S' A' B' h' => ih (m + 1) _ _ _ _ _ _ _ (by omega) rfl (congrArg iI (by omega)) h')
  exact ⟨n + 1, key n 0 _ _ _ _ _ _ _ (by omega) rfl rfl ⟨hT, fun j hj => absurd hj (Nat.not_lt_zero j)⟩⟩
