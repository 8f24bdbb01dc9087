/-! DETERMINANTS -/
def bit (c j : Nat) : Bool := decide (c / 2 ^ j % 2 = 1)
def clr (c j : Nat) : Nat := if bit c j = true then c - 2 ^ j else c
def stt (c j : Nat) : Nat := if bit c j = true then c else c + 2 ^ j
theorem bt_0 : ∀ c, c < 16 → ∀ j, j < 4 → bit c j = false → (((iI ((c : Nat) : Int) >>> (iI ((j : Nat) : Int) &&& iI 31)) &&& iI 1) = iI 0) := by decide +kernel
theorem bt_1 : ∀ c, c < 16 → ∀ j, j < 4 → bit c j = true → ¬ (((iI ((c : Nat) : Int) >>> (iI ((j : Nat) : Int) &&& iI 31)) &&& iI 1) = iI 0) := by decide +kernel
theorem bt_clr : ∀ c, c < 16 → ∀ j, j < 4 → (iI ((c : Nat) : Int) &&& ((iI 1 <<< (iI ((j : Nat) : Int) &&& iI 31)) ^^^ iI (-1))) = iI ((clr c j : Nat) : Int) := by decide +kernel
theorem bt_set : ∀ c, c < 16 → ∀ j, j < 4 → (iI ((c : Nat) : Int) ||| (iI 1 <<< (iI ((j : Nat) : Int) &&& iI 31))) = iI ((stt c j : Nat) : Int) := by decide +kernel
theorem clr_lt : ∀ c, c < 16 → ∀ j, j < 4 → clr c j < 16 := by decide +kernel
theorem stt_lt : ∀ c, c < 16 → ∀ j, j < 4 → stt c j < 16 := by decide +kernel
theorem clr_bit : ∀ c, c < 16 → ∀ j, j < 4 → ∀ i, i < 4 → bit (clr c j) i = (bit c i && !(i == j)) := by decide +kernel
theorem stt_bit : ∀ c, c < 16 → ∀ j, j < 4 → ∀ i, i < 4 → (!(bit (stt c j) i)) = ((!(bit c i)) && !(i == j)) := by decide +kernel
def lap (g : Nat → Int) (C : Nat → Bool) : Nat → Nat → Int → Int
  | 0, _, _ => 0
  | k + 1, j, s => if C j = true then s * g j + lap g C k (j + 1) (-s) else lap g C k (j + 1) s
def mnr (M : Nat → Nat → Int) (N : Nat) : List Nat → (Nat → Bool) → Int
  | [], _ => 1
  | r :: rs, C => lap (fun j => M r j * mnr M N rs (fun i => C i && !(i == j))) C N 0 1
def rws (sk : Nat) : Nat → Nat → List Nat
  | 0, _ => []
  | k + 1, r => if r = sk then rws sk k (r + 1) else r :: rws sk k (r + 1)
theorem lap_cg {g h : Nat → Int} {C D : Nat → Bool} {N : Nat} (hC : ∀ j, j < N → C j = D j) (hg : ∀ j, j < N → g j = h j) : ∀ k j s, j + k ≤ N → lap g C k j s = lap h D k j s
  | 0, _, _, _ => rfl
  | k + 1, j, s, hk => by
    simp only [lap]
    rw [hC j (by omega), hg j (by omega), lap_cg hC hg k (j + 1) (-s) (by omega), lap_cg hC hg k (j + 1) s (by omega)]
theorem mnr_cg {M : Nat → Nat → Int} {N : Nat} : ∀ (rs : List Nat) {C D : Nat → Bool}, (∀ j, j < N → C j = D j) → mnr M N rs C = mnr M N rs D
  | [], _, _, _ => rfl
  | r :: rs, C, D, h => by
    simp only [mnr]
    exact lap_cg h (fun j hj => by rw [mnr_cg rs (fun i hi => by rw [h i hi])]) N 0 1 (by omega)
theorem lap_le {g : Nat → Int} {C : Nat → Bool} {B : Int} {N : Nat} (hB : 0 ≤ B) (hg : ∀ j, j < N → -B ≤ g j ∧ g j ≤ B) : ∀ (k j : Nat) (s : Int), j + k ≤ N → (s = 1 ∨ s = -1) → -((k : Int) * B) ≤ lap g C k j s ∧ lap g C k j s ≤ (k : Int) * B
  | 0, _, _, _, _ => by
    simp only [lap]
    omega
  | k + 1, j, s, hk, hs => by
    have h1 := lap_le hB hg k (j + 1) (-s) (by omega) (by omega) (C := C)
    have h2 := lap_le hB hg k (j + 1) s (by omega) hs (C := C)
    have h3 := hg j (by omega)
    have e : ((k + 1 : Nat) : Int) * B = (k : Int) * B + B := by
      rw [Int.natCast_add, Int.add_mul]
      simp
    simp only [lap]
    rw [e]
    by_cases c : C j = true
    · rw [if_pos c]
      rcases hs with rfl | rfl
      · rw [Int.one_mul]
        omega
      · rw [Int.neg_mul, Int.one_mul]
        omega
    · rw [if_neg c]
      omega
def pw16 : Nat → Int
  | 0 => 1
  | k + 1 => 16 * pw16 k
theorem pw16_pos : ∀ k, 1 ≤ pw16 k
  | 0 => by decide
  | k + 1 => by
    have := pw16_pos k
    simp only [pw16]
    omega
theorem mul_le4 {a b B : Int} (hB : 0 ≤ B) (ha : -4 ≤ a ∧ a ≤ 4) (hb : -B ≤ b ∧ b ≤ B) : -(4 * B) ≤ a * b ∧ a * b ≤ 4 * B := by
  obtain rfl | rfl | rfl | rfl | rfl | rfl | rfl | rfl | rfl : a = -4 ∨ a = -3 ∨ a = -2 ∨ a = -1 ∨ a = 0 ∨ a = 1 ∨ a = 2 ∨ a = 3 ∨ a = 4 := by omega
  all_goals omega
theorem mnr_le {M : Nat → Nat → Int} {N : Nat} (hN : N ≤ 4) (hM : ∀ i j, j < N → -4 ≤ M i j ∧ M i j ≤ 4) : ∀ (rs : List Nat) (C : Nat → Bool), -(pw16 rs.length) ≤ mnr M N rs C ∧ mnr M N rs C ≤ pw16 rs.length
  | [], _ => by
    simp only [mnr, List.length, pw16]
    omega
  | r :: rs, C => by
    have hp := pw16_pos rs.length
    have h := lap_le (g := fun j => M r j * mnr M N rs (fun i => C i && !(i == j))) (C := C) (B := 4 * pw16 rs.length) (N := N) (by omega) (fun j hj => mul_le4 (by omega) (hM r j hj) (mnr_le hN hM rs _)) N 0 1 (by omega) (Or.inl rfl)
    simp only [mnr, List.length, pw16]
    have h4 : (N : Int) * (4 * pw16 rs.length) ≤ 4 * (4 * pw16 rs.length) := Int.mul_le_mul_of_nonneg_right (by omega) (by omega)
    omega
/-- the matrix of the morphism -/
def mM (il : Nat → Nat) (im : Nat → Nat → Nat) (i j : Nat) : Int := ((cn (im j) i 0 (il j) : Nat) : Int)
theorem s9_count0 {post : Int32 → Prop} {letters : Nat → Int32} {f : Nat → Nat} {s x : Nat} (hs : s ≤ 4) (hx : x < 1000) (hr : ∀ j, j < s → letters j = iI (f j) ∧ f j < 1000) (h : post (iI (cn f x 0 s))) : VX9_count post 4 letters (iI s) (iI x) (iI 0) (iI s) := by
  have := s9_count (post := post) (tn := 4) (letters := letters) (f := f) (s := s) (a := 0) (n := s) (x := x) hs (by omega) (by omega) hx hr h
  rwa [show ((0 : Nat) : Int) + (s : Int) = (s : Int) by omega] at this
theorem s2_load {post : (Nat → Int32) → Int32 → Prop} {N : Nat} (hN : N ≤ 4) {iL : Nat → Nat → Int32} {iS ent : Nat → Int32} {sz : Int32} {il : Nat → Nat} {im : Nat → Nat → Nat} (hI : ∀ x, x < 4 → il x ≤ 4 ∧ iS x = iI (il x) ∧ ∀ j, j < il x → im x j < 4 ∧ iL x j = iI (im x j))
    (h : ∀ ent', (∀ i, i < N → ∀ j, j < N → ent' (4 * i + j) = iI (mM il im i j)) → post ent' (iI N)) : VX2_load post (iI N) iL iS ent sz := by
  have inner : ∀ (K10 : (Nat → Int32) → Int32 → Int32 → Prop) (i : Nat), i < N → ∀ (q m : Nat) (e : Nat → Int32) (x3 : Int32), m + q = N → x3 = iI m → (∀ a, a < i → ∀ j, j < N → e (4 * a + j) = iI (mM il im a j)) → (∀ j, j < m → e (4 * i + j) = iI (mM il im i j)) → (∀ e', (∀ a, a < i + 1 → ∀ j, j < N → e' (4 * a + j) = iI (mM il im a j)) → K10 e' (iI N) (iI ((i + 1 : Nat) : Int))) → VX2_load_20 post K10 (iI N) iL iS (q + 1) e (iI N) (iI i) x3 := by
    intro K10 i hi q
    induction q with
    | zero =>
      intro m e x3 hm ex h1 h2 hk
      have : m = N := by omega
      subst this ex
      rw [VX2_load_20]
      simp (disch := omega) only [iI_lit, lI_lit, iI_nI, iI_add, iI_sub, iI_mul, iI_neg, c_lt_t, c_lt_f, c_le_t, c_le_f, c_eq_t, c_eq_f, c_in_t, iI_clamp, Int.toNat_natCast, forall_eq, true_and, and_true, false_and, and_false, not_true_eq_false, not_false_eq_true, true_implies, false_implies, implies_true, forall_const, true_or, or_true, false_or, or_false, pk_us, vu_s, vL_s, vb_0, vb_1, if_true, if_false, ite_true, ite_false]
      refine hk e (fun a ha j hj => ?_)
      by_cases c : a = i
      · rw [c]
        exact h2 j hj
      · exact h1 a (by omega) j hj
    | succ q ih =>
      intro m e x3 hm ex h1 h2 hk
      subst ex
      obtain ⟨b1, b2, b3⟩ := hI m (by omega)
      have e4 : (4 * (i : Int) + (m : Int)).toNat = 4 * i + m := by omega
      rw [VX2_load_20]
      simp (disch := omega) only [b2, iI_lit, lI_lit, iI_nI, iI_add, iI_sub, iI_mul, iI_neg, c_lt_t, c_lt_f, c_le_t, c_le_f, c_eq_t, c_eq_f, c_in_t, iI_clamp, Int.toNat_natCast, forall_eq, true_and, and_true, false_and, and_false, not_true_eq_false, not_false_eq_true, true_implies, false_implies, implies_true, forall_const, true_or, or_true, false_or, or_false, pk_us, vu_s, vL_s, vb_0, vb_1, if_true, if_false, ite_true, ite_false]
      refine s9_count0 (f := im m) b1 (by omega) (fun j hj => ⟨(b3 j hj).2, by have := (b3 j hj).1; omega⟩) ?_
      simp (disch := omega) only [e4, iI_lit, lI_lit, iI_nI, iI_add, iI_sub, iI_mul, iI_neg, c_lt_t, c_lt_f, c_le_t, c_le_f, c_eq_t, c_eq_f, c_in_t, iI_clamp, Int.toNat_natCast, forall_eq, true_and, and_true, false_and, and_false, not_true_eq_false, not_false_eq_true, true_implies, false_implies, implies_true, forall_const, true_or, or_true, false_or, or_false, pk_us, vu_s, vL_s, vb_0, vb_1, if_true, if_false, ite_true, ite_false]
      refine ih (m + 1) _ _ (by omega) (congrArg iI (by omega)) (fun a ha j hj => ?_) (fun j hj => ?_) hk
      · rw [pk_un (by omega)]
        exact h1 a ha j hj
      · by_cases c : j = m
        · rw [c, pk_us]
          rfl
        · rw [pk_un (by omega)]
          exact h2 j (by omega)
  have outer : ∀ (q i : Nat) (e : Nat → Int32) (x2 : Int32), i + q = N → x2 = iI i → (∀ a, a < i → ∀ j, j < N → e (4 * a + j) = iI (mM il im a j)) → VX2_load_10 post (iI N) iL iS (q + 1) e (iI N) x2 := by
    intro q
    induction q with
    | zero =>
      intro i e x2 hi ex h1
      have : i = N := by omega
      subst this ex
      rw [VX2_load_10]
      simp (disch := omega) only [iI_lit, lI_lit, iI_nI, iI_add, iI_sub, iI_mul, iI_neg, c_lt_t, c_lt_f, c_le_t, c_le_f, c_eq_t, c_eq_f, c_in_t, iI_clamp, Int.toNat_natCast, forall_eq, true_and, and_true, false_and, and_false, not_true_eq_false, not_false_eq_true, true_implies, false_implies, implies_true, forall_const, true_or, or_true, false_or, or_false, pk_us, vu_s, vL_s, vb_0, vb_1, if_true, if_false, ite_true, ite_false]
      exact h e h1
    | succ q ih =>
      intro i e x2 hi ex h1
      subst ex
      rw [VX2_load_10]
      simp (disch := omega) only [iI_lit, lI_lit, iI_nI, iI_add, iI_sub, iI_mul, iI_neg, c_lt_t, c_lt_f, c_le_t, c_le_f, c_eq_t, c_eq_f, c_in_t, iI_clamp, Int.toNat_natCast, forall_eq, true_and, and_true, false_and, and_false, not_true_eq_false, not_false_eq_true, true_implies, false_implies, implies_true, forall_const, true_or, or_true, false_or, or_false, pk_us, vu_s, vL_s, vb_0, vb_1, if_true, if_false, ite_true, ite_false]
      exact ⟨N + 1, inner _ i (by omega) N 0 e _ (by omega) rfl h1 (fun j hj => absurd hj (Nat.not_lt_zero j)) (fun e' he' => ih (i + 1) e' _ (by omega) rfl he')⟩
  exact ⟨N + 1, outer N 0 _ _ (by omega) rfl (fun j hj => absurd hj (Nat.not_lt_zero j))⟩
/-- the class's minors -/
theorem s2_loop {post : Int32 → Prop} {rc : (Int32 → Prop) → Int32 → Int32 → Int32 → Int32 → Prop} {ent : Nat → Int32} {M : Nat → Nat → Int} {N row sk c : Nat} {C : Nat → Bool} {R : Nat → Int} (hN : N ≤ 4) (hrow : row < N) (hsk : sk < 1000) (hc : c < 16) (hC : ∀ j, j < N → bit c j = C j) (hM : ∀ j, j < N → (-4 ≤ M row j ∧ M row j ≤ 4) ∧ ent (4 * row + j) = iI (M row j))
    (hrc : ∀ j, j < N → ∀ p : Int32 → Prop, p (iI (R j)) → rc p (iI N) (iI ((row + 1 : Nat) : Int)) (iI sk) (iI ((clr c j : Nat) : Int))) :
    ∀ (k j : Nat) (s sg : Int) (x5 x6 x7 : Int32), j + k = N → x5 = iI s → x6 = iI sg → x7 = iI j → post (iI (s + lap (fun j => M row j * R j) C k j sg)) → VX2_minor_38 post rc ent (iI N) (iI row) (iI sk) (iI c) (k + 1) x5 x6 x7 := by
  intro k
  induction k with
  | zero =>
    intro j s sg x5 x6 x7 hj e5 e6 e7 hp
    have : j = N := by omega
    subst this e5 e6 e7
    rw [VX2_minor_38]
    simp (disch := omega) only [iI_lit, lI_lit, iI_nI, iI_add, iI_sub, iI_mul, iI_neg, c_lt_t, c_lt_f, c_le_t, c_le_f, c_eq_t, c_eq_f, c_in_t, iI_clamp, Int.toNat_natCast, forall_eq, true_and, and_true, false_and, and_false, not_true_eq_false, not_false_eq_true, true_implies, false_implies, implies_true, forall_const, true_or, or_true, false_or, or_false, pk_us, vu_s, vL_s, vb_0, vb_1, if_true, if_false, ite_true, ite_false]
    simp only [lap, Int.add_zero] at hp
    exact hp
  | succ k ih =>
    intro j s sg x5 x6 x7 hj e5 e6 e7 hp
    subst e5 e6 e7
    obtain ⟨hm, he⟩ := hM j (by omega)
    have e4 : (4 * (row : Int) + (j : Int)).toNat = 4 * row + j := by omega
    have er : (row : Int) + 1 = ((row + 1 : Nat) : Int) := by omega
    rw [VX2_minor_38]
    simp only [lap] at hp
    by_cases cb : C j = true
    · rw [if_pos cb] at hp
      have hb := eq_false (bt_1 c hc j (by omega) (by rw [hC j (by omega)]; exact cb))
      have hcl := bt_clr c hc j (by omega)
      by_cases c0 : M row j = 0
      · rw [c0, Int.zero_mul, Int.mul_zero, Int.zero_add] at hp
        rw [c0] at he
        simp (disch := omega) only [hb, e4, he, iI_lit, lI_lit, iI_nI, iI_add, iI_sub, iI_mul, iI_neg, c_lt_t, c_lt_f, c_le_t, c_le_f, c_eq_t, c_eq_f, c_in_t, iI_clamp, Int.toNat_natCast, forall_eq, true_and, and_true, false_and, and_false, not_true_eq_false, not_false_eq_true, true_implies, false_implies, implies_true, forall_const, true_or, or_true, false_or, or_false, pk_us, vu_s, vL_s, vb_0, vb_1, if_true, if_false, ite_true, ite_false]
        exact ih (j + 1) s (-sg) _ _ _ (by omega) rfl rfl (congrArg iI (by omega)) hp
      · simp (disch := omega) only [hb, e4, he, er, hcl, iI_lit, lI_lit, iI_nI, iI_add, iI_sub, iI_mul, iI_neg, c_lt_t, c_lt_f, c_le_t, c_le_f, c_eq_t, c_eq_f, c_in_t, iI_clamp, Int.toNat_natCast, forall_eq, true_and, and_true, false_and, and_false, not_true_eq_false, not_false_eq_true, true_implies, false_implies, implies_true, forall_const, true_or, or_true, false_or, or_false, pk_us, vu_s, vL_s, vb_0, vb_1, if_true, if_false, ite_true, ite_false]
        refine hrc j (by omega) _ ?_
        simp (disch := omega) only [iI_lit, lI_lit, iI_nI, iI_add, iI_sub, iI_mul, iI_neg, c_lt_t, c_lt_f, c_le_t, c_le_f, c_eq_t, c_eq_f, c_in_t, iI_clamp, Int.toNat_natCast, forall_eq, true_and, and_true, false_and, and_false, not_true_eq_false, not_false_eq_true, true_implies, false_implies, implies_true, forall_const, true_or, or_true, false_or, or_false, pk_us, vu_s, vL_s, vb_0, vb_1, if_true, if_false, ite_true, ite_false]
        refine ih (j + 1) (s + sg * M row j * R j) (-sg) _ _ _ (by omega) rfl rfl (congrArg iI (by omega)) ?_
        rwa [Int.mul_assoc sg, Int.add_assoc]
    · rw [if_neg cb] at hp
      have hb := eq_true (bt_0 c hc j (by omega) (by rw [hC j (by omega)]; exact Bool.eq_false_iff.mpr cb))
      simp (disch := omega) only [hb, iI_lit, lI_lit, iI_nI, iI_add, iI_sub, iI_mul, iI_neg, c_lt_t, c_lt_f, c_le_t, c_le_f, c_eq_t, c_eq_f, c_in_t, iI_clamp, Int.toNat_natCast, forall_eq, true_and, and_true, false_and, and_false, not_true_eq_false, not_false_eq_true, true_implies, false_implies, implies_true, forall_const, true_or, or_true, false_or, or_false, pk_us, vu_s, vL_s, vb_0, vb_1, if_true, if_false, ite_true, ite_false]
      exact ih (j + 1) s sg _ _ _ (by omega) rfl rfl (congrArg iI (by omega)) hp
theorem s2_minor {ent : Nat → Int32} {M : Nat → Nat → Int} {N sk : Nat} (hN : N ≤ 4) (hsk : sk < 1000) (hM : ∀ i, i < N → ∀ j, j < N → (-4 ≤ M i j ∧ M i j ≤ 4) ∧ ent (4 * i + j) = iI (M i j)) :
    ∀ (k d row c : Nat) (C : Nat → Bool) (post : Int32 → Prop), row + k = N → k < d → c < 16 → (∀ j, j < N → bit c j = C j) → post (iI (mnr M N (rws sk k row) C)) → VX2_minor ent d post (iI N) (iI row) (iI sk) (iI c) := by
  intro k
  induction k with
  | zero =>
    intro d row c C post hr hd hc hC hp
    obtain ⟨d', rfl⟩ : ∃ d', d = d' + 1 := ⟨d - 1, by omega⟩
    rw [VX2_minor]
    simp (disch := omega) only [VX2_minors, iI_lit, lI_lit, iI_nI, iI_add, iI_sub, iI_mul, iI_neg, c_lt_t, c_lt_f, c_le_t, c_le_f, c_eq_t, c_eq_f, c_in_t, iI_clamp, Int.toNat_natCast, forall_eq, true_and, and_true, false_and, and_false, not_true_eq_false, not_false_eq_true, true_implies, false_implies, implies_true, forall_const, true_or, or_true, false_or, or_false, pk_us, vu_s, vL_s, vb_0, vb_1, if_true, if_false, ite_true, ite_false]
    exact hp
  | succ k ih =>
    intro d row c C post hr hd hc hC hp
    obtain ⟨d', rfl⟩ : ∃ d', d = d' + 1 := ⟨d - 1, by omega⟩
    have er : (row : Int) + 1 = ((row + 1 : Nat) : Int) := by omega
    rw [VX2_minor]
    rw [rws] at hp
    by_cases cs : row = sk
    · subst cs
      rw [if_pos rfl] at hp
      simp (disch := omega) only [VX2_minors, er, iI_lit, lI_lit, iI_nI, iI_add, iI_sub, iI_mul, iI_neg, c_lt_t, c_lt_f, c_le_t, c_le_f, c_eq_t, c_eq_f, c_in_t, iI_clamp, Int.toNat_natCast, forall_eq, true_and, and_true, false_and, and_false, not_true_eq_false, not_false_eq_true, true_implies, false_implies, implies_true, forall_const, true_or, or_true, false_or, or_false, pk_us, vu_s, vL_s, vb_0, vb_1, if_true, if_false, ite_true, ite_false]
      exact ih d' (row + 1) c C post (by omega) (by omega) hc hC hp
    · rw [if_neg cs] at hp
      simp (disch := omega) only [VX2_minors, iI_lit, lI_lit, iI_nI, iI_add, iI_sub, iI_mul, iI_neg, c_lt_t, c_lt_f, c_le_t, c_le_f, c_eq_t, c_eq_f, c_in_t, iI_clamp, Int.toNat_natCast, forall_eq, true_and, and_true, false_and, and_false, not_true_eq_false, not_false_eq_true, true_implies, false_implies, implies_true, forall_const, true_or, or_true, false_or, or_false, pk_us, vu_s, vL_s, vb_0, vb_1, if_true, if_false, ite_true, ite_false]
      refine ⟨N + 1, s2_loop (M := M) (C := C) (R := fun j => mnr M N (rws sk k (row + 1)) (fun i => C i && !(i == j))) hN (by omega) hsk hc hC (fun j hj => hM row (by omega) j hj) (fun j hj p hpp => ?_) N 0 0 1 _ _ _ (by omega) rfl rfl rfl ?_⟩
      · exact ih d' (row + 1) (clr c j) _ p (by omega) (by omega) (clr_lt c hc j (by omega)) (fun i hi => by rw [clr_bit c hc j (by omega) i (by omega), hC i hi]) hpp
      · rw [Int.zero_add]
        exact hp
theorem all_cols : ∀ N, N < 5 → iI 1 <<< (iI ((N : Nat) : Int) &&& iI 31) - iI 1 = iI ((2 ^ N - 1 : Nat) : Int) := by decide +kernel
theorem all_bit : ∀ N, N < 5 → ∀ j, j < N → bit (2 ^ N - 1) j = true := by decide +kernel
theorem all_lt : ∀ N, N < 5 → 2 ^ N - 1 < 16 := by decide +kernel
theorem mM_b {il : Nat → Nat} {im : Nat → Nat → Nat} (hI : ∀ x, x < 4 → il x ≤ 4) (i j : Nat) (hj : j < 4) : -4 ≤ mM il im i j ∧ mM il im i j ≤ 4 := by
  have h1 := cn_le (im j) i 0 (il j)
  have h2 := hI j hj
  unfold mM
  omega
def dtm (M : Nat → Nat → Int) (N : Nat) : Int := mnr M N (rws N N 0) (fun _ => true)
theorem s2_whole {post : Int32 → Prop} {ent : Nat → Int32} {M : Nat → Nat → Int} {N : Nat} (hN : N ≤ 4) (hM : ∀ i, i < N → ∀ j, j < N → (-4 ≤ M i j ∧ M i j ≤ 4) ∧ ent (4 * i + j) = iI (M i j)) (h : post (iI (dtm M N))) : VX2_wholeMinor post ent (iI N) := by
  have e := all_cols N (by omega)
  unfold VX2_wholeMinor VX2_allColumns
  rintro y rfl
  simp only [iI_lit]
  rw [e]
  exact s2_minor (M := M) hN (by omega) hM N 8 0 _ (fun _ => true) _ (by omega) (by omega) (all_lt N (by omega)) (all_bit N (by omega)) h
/-- the reference's entries and minors -/
theorem s11_entry {post : Int32 → Prop} {images sizes : Nat → Int32} {il : Nat → Nat} {im : Nat → Nat → Nat} {i j : Nat} (hj : j < 4) (hi : i < 1000) (hl : il j ≤ 4 ∧ sizes j = iI (il j) ∧ ∀ t, t < il j → im j t < 4 ∧ images (4 * j + t) = iI (im j t)) (h : post (iI (mM il im i j))) : VX11_entry post images sizes (iI i) (iI j) := by
  obtain ⟨h1, h2, h3⟩ := hl
  have key : ∀ (q m : Nat) (x3 x4 : Int32), m + q = il j → x3 = iI (cn (im j) i 0 m) → x4 = iI m → VX11_entry_5 post images sizes (iI i) (iI j) (q + 1) x3 x4 := by
    intro q
    induction q with
    | zero =>
      intro m x3 x4 hm e3 e4
      have : m = il j := by omega
      subst this e3 e4
      rw [VX11_entry_5]
      simp (disch := omega) only [h2, iI_lit, lI_lit, iI_nI, iI_add, iI_sub, iI_mul, iI_neg, c_lt_t, c_lt_f, c_le_t, c_le_f, c_eq_t, c_eq_f, c_in_t, iI_clamp, Int.toNat_natCast, forall_eq, true_and, and_true, false_and, and_false, not_true_eq_false, not_false_eq_true, true_implies, false_implies, implies_true, forall_const, true_or, or_true, false_or, or_false, pk_us, vu_s, vL_s, vb_0, vb_1, if_true, if_false, ite_true, ite_false]
      exact h
    | succ q ih =>
      intro m x3 x4 hm e3 e4
      subst e3 e4
      obtain ⟨a1, a2⟩ := h3 m (by omega)
      have e4 : (4 * (j : Int) + (m : Int)).toNat = 4 * j + m := by omega
      rw [VX11_entry_5]
      by_cases c : im j m = i
      · simp (disch := omega) only [h2, e4, a2, iI_lit, lI_lit, iI_nI, iI_add, iI_sub, iI_mul, iI_neg, c_lt_t, c_lt_f, c_le_t, c_le_f, c_eq_t, c_eq_f, c_in_t, iI_clamp, Int.toNat_natCast, forall_eq, true_and, and_true, false_and, and_false, not_true_eq_false, not_false_eq_true, true_implies, false_implies, implies_true, forall_const, true_or, or_true, false_or, or_false, pk_us, vu_s, vL_s, vb_0, vb_1, if_true, if_false, ite_true, ite_false]
        exact ih (m + 1) _ _ (by omega) (congrArg iI (by simp only [cn, Nat.zero_add, c, if_true]; omega)) (congrArg iI (by omega))
      · simp (disch := omega) only [h2, e4, a2, iI_lit, lI_lit, iI_nI, iI_add, iI_sub, iI_mul, iI_neg, c_lt_t, c_lt_f, c_le_t, c_le_f, c_eq_t, c_eq_f, c_in_t, iI_clamp, Int.toNat_natCast, forall_eq, true_and, and_true, false_and, and_false, not_true_eq_false, not_false_eq_true, true_implies, false_implies, implies_true, forall_const, true_or, or_true, false_or, or_false, pk_us, vu_s, vL_s, vb_0, vb_1, if_true, if_false, ite_true, ite_false]
        exact ih (m + 1) _ _ (by omega) (congrArg iI (by simp only [cn, Nat.zero_add, c, if_false]; omega)) (congrArg iI (by omega))
  exact ⟨il j + 1, key (il j) 0 _ _ (by omega) rfl rfl⟩
theorem sgn_range {sg m : Int} (hs : sg = 1 ∨ sg = -1) (hm : -1000 ≤ m ∧ m ≤ 1000) : -2147483648 ≤ sg * m ∧ sg * m < 2147483648 := by
  rcases hs with rfl | rfl
  · omega
  · omega
theorem s11_mloop {post : Int64 → Prop} {rc : (Int64 → Prop) → Int32 → Int32 → Prop} {images sizes : Nat → Int32} {il : Nat → Nat} {im : Nat → Nat → Nat} {N row c : Nat} {C : Nat → Bool} {R : Nat → Int} (hN : N ≤ 4) (hrow : row < N) (hc : c < 16) (hC : ∀ j, j < N → (!(bit c j)) = C j) (hI : ∀ j, j < 4 → il j ≤ 4 ∧ sizes j = iI (il j) ∧ ∀ t, t < il j → im j t < 4 ∧ images (4 * j + t) = iI (im j t))
    (hrc : ∀ j, j < N → ∀ p : Int64 → Prop, p (lI (R j)) → rc p (iI ((row + 1 : Nat) : Int)) (iI ((stt c j : Nat) : Int))) :
    ∀ (k j : Nat) (s sg : Int) (x3 : Int64) (x5 x6 : Int32), j + k = N → (sg = 1 ∨ sg = -1) → x3 = lI s → x5 = iI sg → x6 = iI j → post (lI (s + lap (fun j => mM il im row j * R j) C k j sg)) → VX11_minor_18 post rc (iI N) images sizes (iI row) (iI c) (k + 1) x3 x5 x6 := by
  intro k
  induction k with
  | zero =>
    intro j s sg x3 x5 x6 hj hs e3 e5 e6 hp
    have : j = N := by omega
    subst this e3 e5 e6
    rw [VX11_minor_18]
    simp (disch := omega) only [iI_lit, lI_lit, iI_nI, iI_add, iI_sub, iI_mul, iI_neg, c_lt_t, c_lt_f, c_le_t, c_le_f, c_eq_t, c_eq_f, c_in_t, iI_clamp, Int.toNat_natCast, forall_eq, true_and, and_true, false_and, and_false, not_true_eq_false, not_false_eq_true, true_implies, false_implies, implies_true, forall_const, true_or, or_true, false_or, or_false, pk_us, vu_s, vL_s, vb_0, vb_1, if_true, if_false, ite_true, ite_false]
    simp only [lap, Int.add_zero] at hp
    exact hp
  | succ k ih =>
    intro j s sg x3 x5 x6 hj hs e3 e5 e6 hp
    subst e3 e5 e6
    have er : (row : Int) + 1 = ((row + 1 : Nat) : Int) := by omega
    have hmb := mM_b (il := il) (im := im) (fun x hx => (hI x hx).1) row j (by omega)
    rw [VX11_minor_18]
    simp only [lap] at hp
    by_cases cb : C j = true
    · rw [if_pos cb] at hp
      have hb := eq_true (bt_0 c hc j (by omega) (by have := hC j (by omega); rw [cb] at this; simpa using this))
      have hst := bt_set c hc j (by omega)
      have hrg := sgn_range hs (show -1000 ≤ mM il im row j ∧ mM il im row j ≤ 1000 by omega)
      simp (disch := omega) only [hb, iI_lit, lI_lit, iI_nI, iI_add, iI_sub, iI_mul, iI_neg, c_lt_t, c_lt_f, c_le_t, c_le_f, c_eq_t, c_eq_f, c_in_t, iI_clamp, Int.toNat_natCast, forall_eq, true_and, and_true, false_and, and_false, not_true_eq_false, not_false_eq_true, true_implies, false_implies, implies_true, forall_const, true_or, or_true, false_or, or_false, pk_us, vu_s, vL_s, vb_0, vb_1, if_true, if_false, ite_true, ite_false]
      refine s11_entry (il := il) (im := im) (by omega) (by omega) (hI j (by omega)) ?_
      simp (disch := omega) only [hst, er, iI_lit, lI_lit, iI_nI, iI_add, iI_sub, iI_mul, iI_neg, c_lt_t, c_lt_f, c_le_t, c_le_f, c_eq_t, c_eq_f, c_in_t, iI_clamp, Int.toNat_natCast, forall_eq, true_and, and_true, false_and, and_false, not_true_eq_false, not_false_eq_true, true_implies, false_implies, implies_true, forall_const, true_or, or_true, false_or, or_false, pk_us, vu_s, vL_s, vb_0, vb_1, if_true, if_false, ite_true, ite_false]
      refine hrc j (by omega) _ ?_
      rw [iI_long hrg.1 hrg.2, lI_mul, lI_add]
      refine ih (j + 1) (s + sg * mM il im row j * R j) (-sg) _ _ _ (by omega) (by omega) rfl rfl (congrArg iI (by omega)) ?_
      rwa [Int.mul_assoc sg, Int.add_assoc]
    · rw [if_neg cb] at hp
      have hb := eq_false (bt_1 c hc j (by omega) (by have := hC j (by omega); rw [Bool.eq_false_iff.mpr cb] at this; simpa using this))
      simp (disch := omega) only [hb, iI_lit, lI_lit, iI_nI, iI_add, iI_sub, iI_mul, iI_neg, c_lt_t, c_lt_f, c_le_t, c_le_f, c_eq_t, c_eq_f, c_in_t, iI_clamp, Int.toNat_natCast, forall_eq, true_and, and_true, false_and, and_false, not_true_eq_false, not_false_eq_true, true_implies, false_implies, implies_true, forall_const, true_or, or_true, false_or, or_false, pk_us, vu_s, vL_s, vb_0, vb_1, if_true, if_false, ite_true, ite_false]
      exact ih (j + 1) s sg _ _ _ (by omega) hs rfl rfl (congrArg iI (by omega)) hp
theorem s11_minor {images sizes : Nat → Int32} {il : Nat → Nat} {im : Nat → Nat → Nat} {N : Nat} (hN : N ≤ 4) (hI : ∀ j, j < 4 → il j ≤ 4 ∧ sizes j = iI (il j) ∧ ∀ t, t < il j → im j t < 4 ∧ images (4 * j + t) = iI (im j t)) :
    ∀ (k d row c : Nat) (C : Nat → Bool) (post : Int64 → Prop), row + k = N → k < d → c < 16 → (∀ j, j < N → (!(bit c j)) = C j) → post (lI (mnr (mM il im) N (rws N k row) C)) → VX11_minor (iI N) images sizes d post (iI row) (iI c) := by
  intro k
  induction k with
  | zero =>
    intro d row c C post hr hd hc hC hp
    obtain ⟨d', rfl⟩ : ∃ d', d = d' + 1 := ⟨d - 1, by omega⟩
    have : row = N := by omega
    subst this
    rw [VX11_minor]
    unfold VX11_minors
    refine ⟨fun q => absurd rfl q, fun _ => ?_⟩
    exact hp
  | succ k ih =>
    intro d row c C post hr hd hc hC hp
    obtain ⟨d', rfl⟩ : ∃ d', d = d' + 1 := ⟨d - 1, by omega⟩
    rw [VX11_minor]
    rw [rws, if_neg (by omega)] at hp
    simp (disch := omega) only [VX11_minors, iI_lit, lI_lit, iI_nI, iI_add, iI_sub, iI_mul, iI_neg, c_lt_t, c_lt_f, c_le_t, c_le_f, c_eq_t, c_eq_f, c_in_t, iI_clamp, Int.toNat_natCast, forall_eq, true_and, and_true, false_and, and_false, not_true_eq_false, not_false_eq_true, true_implies, false_implies, implies_true, forall_const, true_or, or_true, false_or, or_false, pk_us, vu_s, vL_s, vb_0, vb_1, if_true, if_false, ite_true, ite_false]
    refine ⟨N + 1, s11_mloop (il := il) (im := im) (C := C) (R := fun j => mnr (mM il im) N (rws N k (row + 1)) (fun i => C i && !(i == j))) hN (by omega) hc hC hI (fun j hj p hpp => ?_) N 0 0 1 _ _ _ (by omega) (Or.inl rfl) rfl rfl rfl ?_⟩
    · exact ih d' (row + 1) (stt c j) _ p (by omega) (by omega) (stt_lt c hc j (by omega)) (fun i hi => by rw [stt_bit c hc j (by omega) i (by omega), hC i hi]) hpp
    · rw [Int.zero_add]
      exact hp
theorem rws_len (sk : Nat) : ∀ k r, (rws sk k r).length ≤ k
  | 0, _ => Nat.le_refl 0
  | k + 1, r => by
    have := rws_len sk k (r + 1)
    simp only [rws]
    split
    · omega
    · simp only [List.length]
      omega
theorem pw16_le {n : Nat} (h : n ≤ 4) : pw16 n ≤ 65536 := by
  obtain rfl | rfl | rfl | rfl | rfl : n = 0 ∨ n = 1 ∨ n = 2 ∨ n = 3 ∨ n = 4 := by omega
  all_goals decide
theorem mnr_b {M : Nat → Nat → Int} {N : Nat} (hN : N ≤ 4) (hM : ∀ i j, j < N → -4 ≤ M i j ∧ M i j ≤ 4) (sk r : Nat) (C : Nat → Bool) : -65536 ≤ mnr M N (rws sk N r) C ∧ mnr M N (rws sk N r) C ≤ 65536 := by
  have h1 := mnr_le hN hM (rws sk N r) C
  have h2 := rws_len sk N r
  have h3 := pw16_le (n := (rws sk N r).length) (by omega)
  omega
theorem L_determinant {N : Nat} (hN : 2 ≤ N ∧ N ≤ 4) {iL : Nat → Nat → Int32} {iS images sizes : Nat → Int32} (hI : EI N iL iS images sizes) (ent : Nat → Int32) (sz : Int32) {P : Int64 → (Nat → Int32) → Int32 → Int64 → Prop} (hP : ∀ r a b, P r a b r) :
    VX10_determinant (fun r a b => VX11_determinant (fun r2 => P r a b r2) (iI N) images sizes) (iI N) iL iS ent sz := by
  obtain ⟨il, im, hIm⟩ := hI
  unfold VX10_determinant
  refine s5_lacks hN.2 (fun x hx => ⟨(hIm x hx).1, (hIm x hx).2.1⟩) (fun q => ?_) (fun q => ?_)
  · simp (disch := omega) only [iI_lit, lI_lit, iI_nI, iI_add, iI_sub, iI_mul, iI_neg, c_lt_t, c_lt_f, c_le_t, c_le_f, c_eq_t, c_eq_f, c_in_t, iI_clamp, Int.toNat_natCast, forall_eq, true_and, and_true, false_and, and_false, not_true_eq_false, not_false_eq_true, true_implies, false_implies, implies_true, forall_const, true_or, or_true, false_or, or_false, pk_us, vu_s, vL_s, vb_0, vb_1, if_true, if_false, ite_true, ite_false]
    unfold VX11_determinant
    refine s11_missing hN.2 (fun x hx => ⟨(hIm x hx).1, (hIm x hx).2.2.1⟩) (fun _ => ?_) (fun q2 => ?_)
    · simp (disch := omega) only [iI_lit, lI_lit, iI_nI, iI_add, iI_sub, iI_mul, iI_neg, c_lt_t, c_lt_f, c_le_t, c_le_f, c_eq_t, c_eq_f, c_in_t, iI_clamp, Int.toNat_natCast, forall_eq, true_and, and_true, false_and, and_false, not_true_eq_false, not_false_eq_true, true_implies, false_implies, implies_true, forall_const, true_or, or_true, false_or, or_false, pk_us, vu_s, vL_s, vb_0, vb_1, if_true, if_false, ite_true, ite_false]
      exact hP _ _ _
    · obtain ⟨x, h1, h2⟩ := q
      exact absurd h2 (q2 x h1)
  · simp (disch := omega) only [iI_lit, lI_lit, iI_nI, iI_add, iI_sub, iI_mul, iI_neg, c_lt_t, c_lt_f, c_le_t, c_le_f, c_eq_t, c_eq_f, c_in_t, iI_clamp, Int.toNat_natCast, forall_eq, true_and, and_true, false_and, and_false, not_true_eq_false, not_false_eq_true, true_implies, false_implies, implies_true, forall_const, true_or, or_true, false_or, or_false, pk_us, vu_s, vL_s, vb_0, vb_1, if_true, if_false, ite_true, ite_false]
    refine s2_load (il := il) (im := im) hN.2 (fun x hx => ⟨(hIm x hx).1, (hIm x hx).2.1, fun j hj => ⟨by have := ((hIm x hx).2.2.2 j hj).1; omega, ((hIm x hx).2.2.2 j hj).2.1⟩⟩) (fun e' he' => ?_)
    refine s2_whole (M := mM il im) hN.2 (fun i hi j hj => ⟨mM_b (fun x hx => (hIm x hx).1) i j (by omega), he' i hi j hj⟩) ?_
    have hb := mnr_b (M := mM il im) hN.2 (fun i j hj => mM_b (fun x hx => (hIm x hx).1) i j (by omega)) N 0 (fun _ => true)
    have hd : dtm (mM il im) N = mnr (mM il im) N (rws N N 0) (fun _ => true) := rfl
    rw [hd, iI_long (by omega) (by omega)]
    unfold VX11_determinant
    refine s11_missing hN.2 (fun x hx => ⟨(hIm x hx).1, (hIm x hx).2.2.1⟩) (fun q2 => ?_) (fun _ => ?_)
    · obtain ⟨x, h1, h2⟩ := q2
      exact absurd h2 (q x h1)
    · simp (disch := omega) only [iI_lit, lI_lit, iI_nI, iI_add, iI_sub, iI_mul, iI_neg, c_lt_t, c_lt_f, c_le_t, c_le_f, c_eq_t, c_eq_f, c_in_t, iI_clamp, Int.toNat_natCast, forall_eq, true_and, and_true, false_and, and_false, not_true_eq_false, not_false_eq_true, true_implies, false_implies, implies_true, forall_const, true_or, or_true, false_or, or_false, pk_us, vu_s, vL_s, vb_0, vb_1, if_true, if_false, ite_true, ite_false]
      exact s11_minor (il := il) (im := im) hN.2 (fun x hx => ⟨(hIm x hx).1, (hIm x hx).2.2.1, fun j hj => ⟨by have := ((hIm x hx).2.2.2 j hj).1; omega, ((hIm x hx).2.2.2 j hj).2.2⟩⟩) N 8 0 0 (fun _ => true) _ (by omega) (by omega) (by omega) (fun j hj => by
        have : ∀ j, j < 4 → (!(bit 0 j)) = true := by decide
        exact this j (by omega)) (hP _ _ _)
