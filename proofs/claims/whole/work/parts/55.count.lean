/-! NUMBERS OF POWERS, EXTENSIONS -/
def pcs (K N : Nat) (V : Nat → Int) (e : Nat) (f : Nat → Nat) : Nat → Nat
  | 0 => 0
  | m + 1 => pcs K N V e f m + pwc K N V e f (m + 1)
theorem s11_pc {post : Int32 → (Nat → Int32) → Int32 → Prop} {K18 : (Nat → Int32) → Int32 → Int32 → Int32 → Prop} {K N e : Nat} {V : Nat → Int} {values row words lengths : Nat → Int32} {p1 : Int32} {f : Nat → Nat} {n m c : Nat} (hK : K ≤ 3) (hN : 2 ≤ N ∧ N ≤ 4) (he : 2 ≤ e ∧ e ≤ 4) (hV : ∀ x, x < 4 → (-9 ≤ V x ∧ V x ≤ 9) ∧ values x = iI (V x)) (hn : m ≤ 40) (hf : ∀ j, j < m → row j = iI (f j) ∧ f j < 4)
    (hp : K18 row (iI n) (iI ((c + pwc K N V e f m : Nat) : Int)) (iI ((m + 1 : Nat) : Int))) : ∃ q, VX11_powerCount_29 post K18 (iI K) (iI e) (iI N) values words lengths p1 q row (iI n) (iI c) (iI m) (iI 1) := by
  have key : ∀ (q s c0 : Nat) (x2 x4 : Int32), m < s + q → s ≤ m + 1 → x4 = iI s → x2 = iI c0 → K18 row (iI n) (iI ((c0 + pct (pwr K N V e f m) e m (q + 1) s : Nat) : Int)) (iI ((m + 1 : Nat) : Int)) → VX11_powerCount_29 post K18 (iI K) (iI e) (iI N) values words lengths p1 (q + 1) row (iI n) x2 (iI m) x4 := by
    intro q
    induction q with
    | zero =>
      intro s c0 x2 x4 hs hs2 ex e1 hpp
      subst ex e1
      have ee : (e : Int) * (s : Int) = ((e * s : Nat) : Int) := by rw [Int.natCast_mul]
      have h2s : 2 * s ≤ e * s := Nat.mul_le_mul_right s he.1
      have h4s : e * s ≤ 4 * s := Nat.mul_le_mul_right s he.2
      simp only [pct, if_pos (show m < e * s by omega), Nat.add_zero] at hpp
      rw [VX11_powerCount_29]
      simp (disch := omega) only [ee, iI_lit, lI_lit, iI_nI, iI_add, iI_sub, iI_mul, iI_neg, c_lt_t, c_lt_f, c_le_t, c_le_f, c_eq_t, c_eq_f, c_in_t, iI_clamp, Int.toNat_natCast, forall_eq, true_and, and_true, false_and, and_false, not_true_eq_false, not_false_eq_true, true_implies, false_implies, implies_true, forall_const, true_or, or_true, false_or, or_false, pk_us, vu_s, vL_s, vb_0, vb_1, if_true, if_false, ite_true, ite_false]
      exact hpp
    | succ q ih =>
      intro s c0 x2 x4 hs hs2 ex e1 hpp
      subst ex e1
      have ee : (e : Int) * (s : Int) = ((e * s : Nat) : Int) := by rw [Int.natCast_mul]
      have h2s : 2 * s ≤ e * s := Nat.mul_le_mul_right s he.1
      have h4s : e * s ≤ 4 * s := Nat.mul_le_mul_right s he.2
      rw [VX11_powerCount_29]
      rw [pct] at hpp
      by_cases c : m < e * s
      · rw [if_pos c, Nat.add_zero] at hpp
        simp (disch := omega) only [ee, iI_lit, lI_lit, iI_nI, iI_add, iI_sub, iI_mul, iI_neg, c_lt_t, c_lt_f, c_le_t, c_le_f, c_eq_t, c_eq_f, c_in_t, iI_clamp, Int.toNat_natCast, forall_eq, true_and, and_true, false_and, and_false, not_true_eq_false, not_false_eq_true, true_implies, false_implies, implies_true, forall_const, true_or, or_true, false_or, or_false, pk_us, vu_s, vL_s, vb_0, vb_1, if_true, if_false, ite_true, ite_false]
        exact hpp
      · rw [if_neg c] at hpp
        simp (disch := omega) only [ee, iI_lit, lI_lit, iI_nI, iI_add, iI_sub, iI_mul, iI_neg, c_lt_t, c_lt_f, c_le_t, c_le_f, c_eq_t, c_eq_f, c_in_t, iI_clamp, Int.toNat_natCast, forall_eq, true_and, and_true, false_and, and_false, not_true_eq_false, not_false_eq_true, true_implies, false_implies, implies_true, forall_const, true_or, or_true, false_or, or_false, pk_us, vu_s, vL_s, vb_0, vb_1, if_true, if_false, ite_true, ite_false]
        refine s11_isPower (f := f) (V := V) hK hN he hV (by omega) hf (by omega) (fun q1 => ?_) (fun q1 => ?_)
        · rw [if_pos q1] at hpp
          simp (disch := omega) only [iI_lit, lI_lit, iI_nI, iI_add, iI_sub, iI_mul, iI_neg, c_lt_t, c_lt_f, c_le_t, c_le_f, c_eq_t, c_eq_f, c_in_t, iI_clamp, Int.toNat_natCast, forall_eq, true_and, and_true, false_and, and_false, not_true_eq_false, not_false_eq_true, true_implies, false_implies, implies_true, forall_const, true_or, or_true, false_or, or_false, pk_us, vu_s, vL_s, vb_0, vb_1, if_true, if_false, ite_true, ite_false]
          refine ih (s + 1) (c0 + 1) _ _ (by omega) (by omega) (congrArg iI (by omega)) (congrArg iI (by omega)) ?_
          rwa [show c0 + 1 + pct (pwr K N V e f m) e m (q + 1) (s + 1) = c0 + (1 + pct (pwr K N V e f m) e m (q + 1) (s + 1)) by omega]
        · rw [if_neg (by rw [q1]; decide), Nat.zero_add] at hpp
          simp (disch := omega) only [iI_lit, lI_lit, iI_nI, iI_add, iI_sub, iI_mul, iI_neg, c_lt_t, c_lt_f, c_le_t, c_le_f, c_eq_t, c_eq_f, c_in_t, iI_clamp, Int.toNat_natCast, forall_eq, true_and, and_true, false_and, and_false, not_true_eq_false, not_false_eq_true, true_implies, false_implies, implies_true, forall_const, true_or, or_true, false_or, or_false, pk_us, vu_s, vL_s, vb_0, vb_1, if_true, if_false, ite_true, ite_false]
          exact ih (s + 1) c0 _ _ (by omega) (by omega) (congrArg iI (by omega)) (congrArg iI (by omega)) hpp
  exact ⟨m + 1, key m 1 c _ _ (by omega) (by omega) rfl rfl hp⟩
theorem s11_powers {post : Int32 → (Nat → Int32) → Int32 → Prop} {K N e : Nat} {V : Nat → Int} {values row words lengths : Nat → Int32} {p1 : Int32} {f : Nat → Nat} {n : Nat} (hK : K ≤ 3) (hN : 2 ≤ N ∧ N ≤ 4) (he : 2 ≤ e ∧ e ≤ 4) (hV : ∀ x, x < 4 → (-9 ≤ V x ∧ V x ≤ 9) ∧ values x = iI (V x)) (hn : n ≤ 40) (hf : ∀ j, j < n → row j = iI (f j) ∧ f j < 4)
    (hp : post (iI (pcs K N V e f n)) row (iI n)) : ∃ q, VX11_powerCount_18 post (iI K) (iI e) (iI N) values words lengths p1 q row (iI n) (iI 0) (iI 1) := by
  have key : ∀ (q m : Nat) (x2 x3 : Int32), m + q = n → x2 = iI (pcs K N V e f m) → x3 = iI ((m + 1 : Nat) : Int) → VX11_powerCount_18 post (iI K) (iI e) (iI N) values words lengths p1 (q + 1) row (iI n) x2 x3 := by
    intro q
    induction q with
    | zero =>
      intro m x2 x3 hm e1 e2
      have : m = n := by omega
      subst this e1 e2
      rw [VX11_powerCount_18]
      simp (disch := omega) only [iI_lit, lI_lit, iI_nI, iI_add, iI_sub, iI_mul, iI_neg, c_lt_t, c_lt_f, c_le_t, c_le_f, c_eq_t, c_eq_f, c_in_t, iI_clamp, Int.toNat_natCast, forall_eq, true_and, and_true, false_and, and_false, not_true_eq_false, not_false_eq_true, true_implies, false_implies, implies_true, forall_const, true_or, or_true, false_or, or_false, pk_us, vu_s, vL_s, vb_0, vb_1, if_true, if_false, ite_true, ite_false]
      exact hp
    | succ q ih =>
      intro m x2 x3 hm e1 e2
      subst e1 e2
      rw [VX11_powerCount_18]
      simp (disch := omega) only [iI_lit, lI_lit, iI_nI, iI_add, iI_sub, iI_mul, iI_neg, c_lt_t, c_lt_f, c_le_t, c_le_f, c_eq_t, c_eq_f, c_in_t, iI_clamp, Int.toNat_natCast, forall_eq, true_and, and_true, false_and, and_false, not_true_eq_false, not_false_eq_true, true_implies, false_implies, implies_true, forall_const, true_or, or_true, false_or, or_false, pk_us, vu_s, vL_s, vb_0, vb_1, if_true, if_false, ite_true, ite_false]
      refine s11_pc (f := f) (V := V) (m := m + 1) hK hN he hV (by omega) (fun j hj => hf j (by omega)) ?_
      exact ih (m + 1) _ _ (by omega) rfl rfl
  exact ⟨n + 1, key n 0 _ _ (by omega) rfl rfl⟩
theorem s10_powers {post : Int32 → (Nat → Int32) → (Nat → Int32) → (Nat → Int64) → (Nat → Int64) → (Nat → Int64) → (Nat → Int64) → Int32 → Int32 → Int32 → Prop} {K N e : Nat} {V : Nat → Int} {cv : Nat → Int32} {wL : Nat → Nat → Int32} {wS : Nat → Int32} {f : Nat → Nat} {i n : Nat} {L T : Nat → Int32} {S A B wt : Nat → Int64} (hK : K ≤ 3) (hN : 2 ≤ N ∧ N ≤ 4) (he : 2 ≤ e ∧ e ≤ 4) (hV : ∀ x, x < 4 → -9 ≤ V x ∧ V x ≤ 9) (hw : ∀ x, x < 4 → wt x = lI (wK K V x)) (hi : i < 3) (hn : n ≤ 40) (hS : wS i = iI n) (hf : ∀ j, j < n → f j < N ∧ wL i j = iI (f j)) (hT : T 0 = iI 0)
    (hp : ∀ L' T' S' A' B', TI K (wK K V) f n L' T' S' A' B' → post (iI (pcs K N V e f n)) L' T' S' A' B' wt (iI n) (iI K) (iI e)) :
    ∃ q, VX10_powerCount_42 post (iI K) (iI e) cv wL wS (iI i) q L T S A B wt (iI 0) (iI K) (iI e) (iI 0) (iI 0) := by
  have key : ∀ (q m : Nat) (L T : Nat → Int32) (S A B : Nat → Int64) (sz x3 x4 : Int32), m + q = n → sz = iI m → x3 = iI (pcs K N V e f m) → x4 = iI m → TI K (wK K V) f m L T S A B → VX10_powerCount_42 post (iI K) (iI e) cv wL wS (iI i) (q + 1) L T S A B wt sz (iI K) (iI e) x3 x4 := by
    intro q
    induction q with
    | zero =>
      intro m L T S A B sz x3 x4 hm e1 e2 e3 hTI
      have : m = n := by omega
      subst this e1 e2 e3
      rw [VX10_powerCount_42]
      simp (disch := omega) only [hS, iI_lit, lI_lit, iI_nI, iI_add, iI_sub, iI_mul, iI_neg, c_lt_t, c_lt_f, c_le_t, c_le_f, c_eq_t, c_eq_f, c_in_t, iI_clamp, Int.toNat_natCast, forall_eq, true_and, and_true, false_and, and_false, not_true_eq_false, not_false_eq_true, true_implies, false_implies, implies_true, forall_const, true_or, or_true, false_or, or_false, pk_us, vu_s, vL_s, vb_0, vb_1, if_true, if_false, ite_true, ite_false]
      exact hp _ _ _ _ _ hTI
    | succ q ih =>
      intro m L T S A B sz x3 x4 hm e1 e2 e3 hTI
      subst e1 e2 e3
      obtain ⟨a1, a2⟩ := hf m (by omega)
      rw [VX10_powerCount_42]
      simp (disch := omega) only [hS, a2, iI_lit, lI_lit, iI_nI, iI_add, iI_sub, iI_mul, iI_neg, c_lt_t, c_lt_f, c_le_t, c_le_f, c_eq_t, c_eq_f, c_in_t, iI_clamp, Int.toNat_natCast, forall_eq, true_and, and_true, false_and, and_false, not_true_eq_false, not_false_eq_true, true_implies, false_implies, implies_true, forall_const, true_or, or_true, false_or, or_false, pk_us, vu_s, vL_s, vb_0, vb_1, if_true, if_false, ite_true, ite_false]
      refine s8_push hK (by omega) (by omega) hw hTI (fun L' T' S' A' B' hTI' => ?_)
      refine s8_powers (f := f) (V := V) hK hN he hV (by omega) (fun j hj => (hf j (by omega)).1) hTI' ?_
      simp (disch := omega) only [iI_lit, lI_lit, iI_nI, iI_add, iI_sub, iI_mul, iI_neg, c_lt_t, c_lt_f, c_le_t, c_le_f, c_eq_t, c_eq_f, c_in_t, iI_clamp, Int.toNat_natCast, forall_eq, true_and, and_true, false_and, and_false, not_true_eq_false, not_false_eq_true, true_implies, false_implies, implies_true, forall_const, true_or, or_true, false_or, or_false, pk_us, vu_s, vL_s, vb_0, vb_1, if_true, if_false, ite_true, ite_false]
      exact ih (m + 1) _ _ _ _ _ _ _ _ (by omega) rfl (congrArg iI (by simp only [pcs]; omega)) (congrArg iI (by omega)) hTI'
  exact ⟨n + 1, key n 0 _ _ _ _ _ _ _ _ (by omega) rfl rfl rfl ⟨hT, fun j hj => absurd hj (Nat.not_lt_zero j)⟩⟩
theorem L_powerCount {K N e : Nat} (hK : K ≤ 3) (hN : 2 ≤ N ∧ N ≤ 4) (he : 2 ≤ e ∧ e ≤ 4) {cv mv : Nat → Int32} (hv : EV cv mv) {wL : Nat → Nat → Int32} {wS words lengths : Nat → Int32} (h : EW N wL wS words lengths) (p1 : Int32) {L T : Nat → Int32} {S A B wt : Nat → Int64} {sz kd ex : Int32} (hT : T 0 = iI 0) (row : Nat → Int32) (rowSize : Int32)
    {P : Int32 → (Nat → Int32) → (Nat → Int32) → (Nat → Int64) → (Nat → Int64) → (Nat → Int64) → (Nat → Int64) → Int32 → Int32 → Int32 → Int32 → (Nat → Int32) → Int32 → Prop} (hP : ∀ r L T S A B wt sz kd ex a b, T 0 = iI 0 → P r L T S A B wt sz kd ex r a b) :
    VX10_powerCount (fun r L T S A B wt sz kd ex => VX11_powerCount (fun r2 a b => P r L T S A B wt sz kd ex r2 a b) (iI K) (iI e) (iI N) mv words lengths p1 row rowSize) (iI K) (iI e) cv wL wS p1 L T S A B wt sz kd ex := by
  obtain ⟨wl, w, hW⟩ := h
  obtain ⟨V, hV⟩ := hv
  rcases ix_cases p1 3 (by omega) with ⟨i, hi, rfl⟩ | ⟨z, rfl, h1, h2, h3⟩
  · obtain ⟨hl, e1, e2, e3⟩ := hW i hi
    have hVm : ∀ x, x < 4 → (-9 ≤ V x ∧ V x ≤ 9) ∧ mv x = iI (V x) := fun x hx => ⟨(hV x hx).1, (hV x hx).2.2⟩
    simp (disch := omega) only [VX10_powerCount, VX10_isWord, iI_lit, lI_lit, iI_nI, iI_add, iI_sub, iI_mul, iI_neg, c_lt_t, c_lt_f, c_le_t, c_le_f, c_eq_t, c_eq_f, c_in_t, iI_clamp, Int.toNat_natCast, forall_eq, true_and, and_true, false_and, and_false, not_true_eq_false, not_false_eq_true, true_implies, false_implies, implies_true, forall_const, true_or, or_true, false_or, or_false, pk_us, vu_s, vL_s, vb_0, vb_1, if_true, if_false, ite_true, ite_false]
    refine s8_begin (V := V) hK (fun x hx => ⟨(hV x hx).1, (hV x hx).2.1⟩) (fun wt' hw => ?_)
    refine s10_powers (f := w i) (V := V) hK hN he (fun x hx => (hV x hx).1) hw hi hl e1 (fun j hj => ⟨(e3 j hj).1, (e3 j hj).2.1⟩) hT (fun L' T' S' A' B' hTI => ?_)
    simp (disch := omega) only [VX11_powerCount, VX11_isWord, VX11_isIn, iI_lit, lI_lit, iI_nI, iI_add, iI_sub, iI_mul, iI_neg, c_lt_t, c_lt_f, c_le_t, c_le_f, c_eq_t, c_eq_f, c_in_t, iI_clamp, Int.toNat_natCast, forall_eq, true_and, and_true, false_and, and_false, not_true_eq_false, not_false_eq_true, true_implies, false_implies, implies_true, forall_const, true_or, or_true, false_or, or_false, pk_us, vu_s, vL_s, vb_0, vb_1, if_true, if_false, ite_true, ite_false]
    refine s11_take hi hl e2 (fun r h1 h2 => ?_)
    refine s11_powers (f := w i) (V := V) hK hN he hVm hl (fun j hj => ?_) (hP _ _ _ _ _ _ _ _ _ _ _ _ hTI.1)
    rw [h1 j hj]
    have := e3 j hj
    exact ⟨this.2.2, by omega⟩
  · rcases h3 with h3 | h3
    · simp (disch := omega) only [VX10_powerCount, VX10_isWord, VX11_powerCount, VX11_isWord, VX11_isIn, iI_lit, lI_lit, iI_nI, iI_add, iI_sub, iI_mul, iI_neg, c_lt_t, c_lt_f, c_le_t, c_le_f, c_eq_t, c_eq_f, c_in_t, iI_clamp, Int.toNat_natCast, forall_eq, true_and, and_true, false_and, and_false, not_true_eq_false, not_false_eq_true, true_implies, false_implies, implies_true, forall_const, true_or, or_true, false_or, or_false, pk_us, vu_s, vL_s, vb_0, vb_1, if_true, if_false, ite_true, ite_false]
      exact hP _ _ _ _ _ _ _ _ _ _ _ _ hT
    · simp (disch := omega) only [VX10_powerCount, VX10_isWord, VX11_powerCount, VX11_isWord, VX11_isIn, iI_lit, lI_lit, iI_nI, iI_add, iI_sub, iI_mul, iI_neg, c_lt_t, c_lt_f, c_le_t, c_le_f, c_eq_t, c_eq_f, c_in_t, iI_clamp, Int.toNat_natCast, forall_eq, true_and, and_true, false_and, and_false, not_true_eq_false, not_false_eq_true, true_implies, false_implies, implies_true, forall_const, true_or, or_true, false_or, or_false, pk_us, vu_s, vL_s, vb_0, vb_1, if_true, if_false, ite_true, ite_false]
      exact hP _ _ _ _ _ _ _ _ _ _ _ _ hT
/-! extensions -/
def exs (K N : Nat) (V : Nat → Int) (e : Nat) (f : Nat → Nat) (n : Nat) : Nat → Int32
  | 0 => iI 0
  | x + 1 => if shp K N V e (va_up f n x) (n + 1) = 0 then exs K N V e f n x ||| (iI 1 <<< (iI x &&& iI 31)) else exs K N V e f n x
theorem or_0 (x : Int32) : x ||| iI 0 = x := by
  have : iI 0 = 0 := rfl
  rw [this, Int32.or_zero]
theorem shp_le {K N : Nat} {V : Nat → Int} {e : Nat} {f : Nat → Nat} {n : Nat} (he : 2 ≤ e) : shp K N V e f n ≤ n := (sfr_le (P := pwr K N V e f n) (e := e) (n := n) (by omega) (n + 1) 1).1
/-- a trail with one letter more and off again -/
theorem TI_off {K : Nat} {W : Nat → Int} {f : Nat → Nat} {n x : Nat} {L T : Nat → Int32} {S A B : Nat → Int64} (h : TI K W (va_up f n x) (n + 1) L T S A B) : TI K W f n L T S A B := TI_cg (TI_le h (Nat.le_succ n)) (fun j hj => vu_n (by omega))
theorem s8_pushx {post : (Nat → Int32) → (Nat → Int32) → (Nat → Int64) → (Nat → Int64) → (Nat → Int64) → Int32 → Prop} {K : Nat} {W : Nat → Int} {f : Nat → Nat} {n x : Nat} {L T : Nat → Int32} {S A B wt : Nat → Int64} (hK : K ≤ 3) (hn : n ≤ 40) (hx : x < 4) (hw : ∀ x, x < 4 → wt x = lI (W x)) (h : TI K W f n L T S A B)
    (hp : ∀ L' T' S' A' B', L' n = iI x → TI K W (va_up f n x) (n + 1) L' T' S' A' B' → post L' T' S' A' B' (iI ((n + 1 : Nat) : Int))) : VX8_push post wt (iI K) (iI x) L T S A B (iI n) := by
  have q := s8_push (post := post) (f := va_up f n x) hK hn (by rw [vu_s]; exact hx) hw (TI_cg h (fun j hj => (vu_n (by omega)).symm)) (fun L' T' S' A' B' h' => hp L' T' S' A' B' (by have := (h'.2 n (by omega)).2.1; rwa [vu_s] at this) h')
  rwa [vu_s] at q
theorem L_extensions {K N e : Nat} (hK : K ≤ 3) (hN : 2 ≤ N ∧ N ≤ 4) (he : 2 ≤ e ∧ e ≤ 4) {cv mv : Nat → Int32} (hv : EV cv mv) {wL : Nat → Nat → Int32} {wS words lengths : Nat → Int32} (h : EW N wL wS words lengths) (p1 : Int32) {L T : Nat → Int32} {S A B wt : Nat → Int64} {sz kd ex : Int32} (hT : T 0 = iI 0) (row : Nat → Int32) (rowSize : Int32)
    {P : Int32 → (Nat → Int32) → (Nat → Int32) → (Nat → Int64) → (Nat → Int64) → (Nat → Int64) → (Nat → Int64) → Int32 → Int32 → Int32 → Int32 → (Nat → Int32) → Int32 → Prop} (hP : ∀ r L T S A B wt sz kd ex a b, T 0 = iI 0 → P r L T S A B wt sz kd ex r a b) :
    VX10_extensions (fun r L T S A B wt sz kd ex => VX11_extensions (fun r2 a b => P r L T S A B wt sz kd ex r2 a b) (iI K) (iI e) (iI N) mv words lengths p1 row rowSize) (iI K) (iI e) (iI N) cv wL wS p1 L T S A B wt sz kd ex := by
  obtain ⟨wl, w, hW⟩ := h
  obtain ⟨V, hV⟩ := hv
  rcases ix_cases p1 3 (by omega) with ⟨i, hi, rfl⟩ | ⟨z, rfl, h1, h2, h3⟩
  · obtain ⟨hl, e1, e2, e3⟩ := hW i hi
    have hVc : ∀ x, x < 4 → -9 ≤ V x ∧ V x ≤ 9 := fun x hx => (hV x hx).1
    have hVm : ∀ x, x < 4 → (-9 ≤ V x ∧ V x ≤ 9) ∧ mv x = iI (V x) := fun x hx => ⟨(hV x hx).1, (hV x hx).2.2⟩
    simp (disch := omega) only [VX10_extensions, VX10_isWord, e1, iI_lit, lI_lit, iI_nI, iI_add, iI_sub, iI_mul, iI_neg, c_lt_t, c_lt_f, c_le_t, c_le_f, c_eq_t, c_eq_f, c_in_t, iI_clamp, Int.toNat_natCast, forall_eq, true_and, and_true, false_and, and_false, not_true_eq_false, not_false_eq_true, true_implies, false_implies, implies_true, forall_const, true_or, or_true, false_or, or_false, pk_us, vu_s, vL_s, vb_0, vb_1, if_true, if_false, ite_true, ite_false]
    refine s10_push (f := w i) (V := V) hK hN he (fun x hx => ⟨(hV x hx).1, (hV x hx).2.1⟩) hl (fun j hj => ⟨(e3 j hj).1, (e3 j hj).2.1⟩) hT (fun hz L' T' S' A' B' wt' hw hTI => ?_) (fun m hm hs hz L' T' S' A' B' wt' hTI => ?_)
    · simp (disch := omega) only [iI_lit, lI_lit, iI_nI, iI_add, iI_sub, iI_mul, iI_neg, c_lt_t, c_lt_f, c_le_t, c_le_f, c_eq_t, c_eq_f, c_in_t, iI_clamp, Int.toNat_natCast, forall_eq, true_and, and_true, false_and, and_false, not_true_eq_false, not_false_eq_true, true_implies, false_implies, implies_true, forall_const, true_or, or_true, false_or, or_false, pk_us, vu_s, vL_s, vb_0, vb_1, if_true, if_false, ite_true, ite_false]
      have kc : ∀ (post : Int32 → (Nat → Int32) → (Nat → Int32) → (Nat → Int64) → (Nat → Int64) → (Nat → Int64) → (Nat → Int64) → Int32 → Int32 → Int32 → Prop), (∀ L T S A B sz, T 0 = iI 0 → post (exs K N V e (w i) (wl i) N) L T S A B wt' sz (iI K) (iI e)) → ∀ (q x : Nat) (L T : Nat → Int32) (S A B : Nat → Int64) (x2 x3 : Int32), x + q = N → x2 = exs K N V e (w i) (wl i) x → x3 = iI x → TI K (wK K V) (w i) (wl i) L T S A B → VX10_extensions_32 post (iI K) (iI e) (iI N) cv wL wS (iI i) (q + 1) L T S A B wt' (iI (wl i)) (iI K) (iI e) x2 x3 := by
        intro post hpost q
        induction q with
        | zero =>
          intro x L T S A B x2 x3 hx ex2 ex3 hTI
          have : x = N := by omega
          subst this ex2 ex3
          rw [VX10_extensions_32]
          simp (disch := omega) only [iI_lit, lI_lit, iI_nI, iI_add, iI_sub, iI_mul, iI_neg, c_lt_t, c_lt_f, c_le_t, c_le_f, c_eq_t, c_eq_f, c_in_t, iI_clamp, Int.toNat_natCast, forall_eq, true_and, and_true, false_and, and_false, not_true_eq_false, not_false_eq_true, true_implies, false_implies, implies_true, forall_const, true_or, or_true, false_or, or_false, pk_us, vu_s, vL_s, vb_0, vb_1, if_true, if_false, ite_true, ite_false]
          exact hpost _ _ _ _ _ _ hTI.1
        | succ q ih =>
          intro x L T S A B x2 x3 hx ex2 ex3 hTI
          subst ex2 ex3
          rw [VX10_extensions_32]
          simp (disch := omega) only [iI_lit, lI_lit, iI_nI, iI_add, iI_sub, iI_mul, iI_neg, c_lt_t, c_lt_f, c_le_t, c_le_f, c_eq_t, c_eq_f, c_in_t, iI_clamp, Int.toNat_natCast, forall_eq, true_and, and_true, false_and, and_false, not_true_eq_false, not_false_eq_true, true_implies, false_implies, implies_true, forall_const, true_or, or_true, false_or, or_false, pk_us, vu_s, vL_s, vb_0, vb_1, if_true, if_false, ite_true, ite_false]
          refine s8_pushx hK hl (show x < 4 by omega) hw hTI (fun L' T' S' A' B' hLn hTI' => ?_)
          refine s8_shortest (f := va_up (w i) (wl i) x) (V := V) hK hN he hVc (by omega) (fun j hj => ?_) hTI' ?_
          · by_cases c : j = wl i
            · rw [c, vu_s]
              omega
            · rw [vu_n c]
              exact (e3 j (by omega)).1
          · have hle := shp_le (K := K) (N := N) (V := V) (f := va_up (w i) (wl i) x) (n := wl i + 1) he.1
            by_cases c : shp K N V e (va_up (w i) (wl i) x) (wl i + 1) = 0
            · rw [c]
              simp (disch := omega) only [iI_lit, lI_lit, iI_nI, iI_add, iI_sub, iI_mul, iI_neg, c_lt_t, c_lt_f, c_le_t, c_le_f, c_eq_t, c_eq_f, c_in_t, iI_clamp, Int.toNat_natCast, forall_eq, true_and, and_true, false_and, and_false, not_true_eq_false, not_false_eq_true, true_implies, false_implies, implies_true, forall_const, true_or, or_true, false_or, or_false, pk_us, vu_s, vL_s, vb_0, vb_1, if_true, if_false, ite_true, ite_false]
              refine s8_pop hl hLn ?_
              exact ih (x + 1) _ _ _ _ _ _ _ (by omega) (by rw [exs, if_pos c]) (congrArg iI (by omega)) (TI_off hTI')
            · simp (disch := omega) only [iI_lit, lI_lit, iI_nI, iI_add, iI_sub, iI_mul, iI_neg, c_lt_t, c_lt_f, c_le_t, c_le_f, c_eq_t, c_eq_f, c_in_t, iI_clamp, Int.toNat_natCast, forall_eq, true_and, and_true, false_and, and_false, not_true_eq_false, not_false_eq_true, true_implies, false_implies, implies_true, forall_const, true_or, or_true, false_or, or_false, pk_us, vu_s, vL_s, vb_0, vb_1, if_true, if_false, ite_true, ite_false]
              refine s8_pop hl hLn ?_
              exact ih (x + 1) _ _ _ _ _ _ _ (by omega) (by rw [exs, if_neg c]) (congrArg iI (by omega)) (TI_off hTI')
      refine ⟨N + 1, kc _ (fun L T S A B sz hT => ?_) N 0 _ _ _ _ _ _ _ (by omega) rfl rfl hTI⟩
      simp (disch := omega) only [VX11_extensions, VX11_isWord, VX11_isIn, iI_lit, lI_lit, iI_nI, iI_add, iI_sub, iI_mul, iI_neg, c_lt_t, c_lt_f, c_le_t, c_le_f, c_eq_t, c_eq_f, c_in_t, iI_clamp, Int.toNat_natCast, forall_eq, true_and, and_true, false_and, and_false, not_true_eq_false, not_false_eq_true, true_implies, false_implies, implies_true, forall_const, true_or, or_true, false_or, or_false, pk_us, vu_s, vL_s, vb_0, vb_1, if_true, if_false, ite_true, ite_false]
      refine s11_freeOf (f := w i) (V := V) hi e2 hK hN he hVm hl (fun j hj => ⟨(e3 j hj).2.2, by have := (e3 j hj).1; omega⟩) (Nat.le_refl _) hz (Or.inl rfl) (fun r hr => ?_)
      have km : ∀ (post : Int32 → (Nat → Int32) → Int32 → Prop), (∀ r, post (exs K N V e (w i) (wl i) N) r (iI (wl i))) → ∀ (q x : Nat) (r : Nat → Int32) (x2 x3 : Int32), x + q = N → x2 = exs K N V e (w i) (wl i) x → x3 = iI x → (∀ j, j < wl i → r j = iI (w i j)) → VX11_extensions_30 post (iI K) (iI e) (iI N) mv words lengths (iI i) (q + 1) r (iI (wl i)) x2 x3 := by
        intro post hpost q
        induction q with
        | zero =>
          intro x r x2 x3 hx ex2 ex3 hr
          have : x = N := by omega
          subst this ex2 ex3
          rw [VX11_extensions_30]
          simp (disch := omega) only [iI_lit, lI_lit, iI_nI, iI_add, iI_sub, iI_mul, iI_neg, c_lt_t, c_lt_f, c_le_t, c_le_f, c_eq_t, c_eq_f, c_in_t, iI_clamp, Int.toNat_natCast, forall_eq, true_and, and_true, false_and, and_false, not_true_eq_false, not_false_eq_true, true_implies, false_implies, implies_true, forall_const, true_or, or_true, false_or, or_false, pk_us, vu_s, vL_s, vb_0, vb_1, if_true, if_false, ite_true, ite_false]
          exact hpost _
        | succ q ih =>
          intro x r x2 x3 hx ex2 ex3 hr
          subst ex2 ex3
          rw [VX11_extensions_30]
          have ec : ((wl i : Int) + 1) = ((wl i + 1 : Nat) : Int) := by omega
          simp (disch := omega) only [ec, or_0, iI_lit, lI_lit, iI_nI, iI_add, iI_sub, iI_mul, iI_neg, c_lt_t, c_lt_f, c_le_t, c_le_f, c_eq_t, c_eq_f, c_in_t, iI_clamp, Int.toNat_natCast, forall_eq, true_and, and_true, false_and, and_false, not_true_eq_false, not_false_eq_true, true_implies, false_implies, implies_true, forall_const, true_or, or_true, false_or, or_false, pk_us, vu_s, vL_s, vb_0, vb_1, if_true, if_false, ite_true, ite_false]
          refine s11_endsAt (f := va_up (w i) (wl i) x) (V := V) hK hN he hVm (by omega) (fun j hj => ?_) ?_
          · by_cases c : j = wl i
            · rw [c, vu_s, pk_us]
              exact ⟨rfl, by omega⟩
            · rw [vu_n c, pk_un c, hr j (by omega)]
              have := (e3 j (by omega)).1
              exact ⟨rfl, by omega⟩
          · have hle := shp_le (K := K) (N := N) (V := V) (f := va_up (w i) (wl i) x) (n := wl i + 1) he.1
            have hr' : ∀ j, j < wl i → upd r (wl i) (iI x) j = iI (w i j) := fun j hj => by rw [pk_un (by omega)]; exact hr j hj
            by_cases c : shp K N V e (va_up (w i) (wl i) x) (wl i + 1) = 0
            · rw [c]
              simp (disch := omega) only [iI_lit, lI_lit, iI_nI, iI_add, iI_sub, iI_mul, iI_neg, c_lt_t, c_lt_f, c_le_t, c_le_f, c_eq_t, c_eq_f, c_in_t, iI_clamp, Int.toNat_natCast, forall_eq, true_and, and_true, false_and, and_false, not_true_eq_false, not_false_eq_true, true_implies, false_implies, implies_true, forall_const, true_or, or_true, false_or, or_false, pk_us, vu_s, vL_s, vb_0, vb_1, if_true, if_false, ite_true, ite_false]
              exact ih (x + 1) _ _ _ (by omega) (by rw [exs, if_pos c]) (congrArg iI (by omega)) hr'
            · simp (disch := omega) only [iI_lit, lI_lit, iI_nI, iI_add, iI_sub, iI_mul, iI_neg, c_lt_t, c_lt_f, c_le_t, c_le_f, c_eq_t, c_eq_f, c_in_t, iI_clamp, Int.toNat_natCast, forall_eq, true_and, and_true, false_and, and_false, not_true_eq_false, not_false_eq_true, true_implies, false_implies, implies_true, forall_const, true_or, or_true, false_or, or_false, pk_us, vu_s, vL_s, vb_0, vb_1, if_true, if_false, ite_true, ite_false]
              exact ih (x + 1) _ _ _ (by omega) (by rw [exs, if_neg c]) (congrArg iI (by omega)) hr'
      simp (disch := omega) only [e2, iI_lit, lI_lit, iI_nI, iI_add, iI_sub, iI_mul, iI_neg, c_lt_t, c_lt_f, c_le_t, c_le_f, c_eq_t, c_eq_f, c_in_t, iI_clamp, Int.toNat_natCast, forall_eq, true_and, and_true, false_and, and_false, not_true_eq_false, not_false_eq_true, true_implies, false_implies, implies_true, forall_const, true_or, or_true, false_or, or_false, pk_us, vu_s, vL_s, vb_0, vb_1, if_true, if_false, ite_true, ite_false]
      exact ⟨N + 1, km _ (fun r => hP _ _ _ _ _ _ _ _ _ _ _ _ hT) N 0 _ _ _ (by omega) rfl rfl hr⟩
    · have hle := shp_le (K := K) (N := N) (V := V) (f := w i) (n := m + 1) he.1
      simp (disch := omega) only [VX11_extensions, VX11_isWord, VX11_isIn, iI_lit, lI_lit, iI_nI, iI_add, iI_sub, iI_mul, iI_neg, c_lt_t, c_lt_f, c_le_t, c_le_f, c_eq_t, c_eq_f, c_in_t, iI_clamp, Int.toNat_natCast, forall_eq, true_and, and_true, false_and, and_false, not_true_eq_false, not_false_eq_true, true_implies, false_implies, implies_true, forall_const, true_or, or_true, false_or, or_false, pk_us, vu_s, vL_s, vb_0, vb_1, if_true, if_false, ite_true, ite_false]
      refine s11_freeOf (f := w i) (V := V) hi e2 hK hN he hVm hl (fun j hj => ⟨(e3 j hj).2.2, by have := (e3 j hj).1; omega⟩) (show m ≤ wl i by omega) hz (Or.inr hs) (fun r _ => ?_)
      simp (disch := omega) only [e2, iI_lit, lI_lit, iI_nI, iI_add, iI_sub, iI_mul, iI_neg, c_lt_t, c_lt_f, c_le_t, c_le_f, c_eq_t, c_eq_f, c_in_t, iI_clamp, Int.toNat_natCast, forall_eq, true_and, and_true, false_and, and_false, not_true_eq_false, not_false_eq_true, true_implies, false_implies, implies_true, forall_const, true_or, or_true, false_or, or_false, pk_us, vu_s, vL_s, vb_0, vb_1, if_true, if_false, ite_true, ite_false]
      exact hP _ _ _ _ _ _ _ _ _ _ _ _ hTI.1
  · rcases h3 with h3 | h3
    · simp (disch := omega) only [VX10_extensions, VX10_isWord, VX11_extensions, VX11_isWord, VX11_isIn, iI_lit, lI_lit, iI_nI, iI_add, iI_sub, iI_mul, iI_neg, c_lt_t, c_lt_f, c_le_t, c_le_f, c_eq_t, c_eq_f, c_in_t, iI_clamp, Int.toNat_natCast, forall_eq, true_and, and_true, false_and, and_false, not_true_eq_false, not_false_eq_true, true_implies, false_implies, implies_true, forall_const, true_or, or_true, false_or, or_false, pk_us, vu_s, vL_s, vb_0, vb_1, if_true, if_false, ite_true, ite_false]
      exact hP _ _ _ _ _ _ _ _ _ _ _ _ hT
    · simp (disch := omega) only [VX10_extensions, VX10_isWord, VX11_extensions, VX11_isWord, VX11_isIn, iI_lit, lI_lit, iI_nI, iI_add, iI_sub, iI_mul, iI_neg, c_lt_t, c_lt_f, c_le_t, c_le_f, c_eq_t, c_eq_f, c_in_t, iI_clamp, Int.toNat_natCast, forall_eq, true_and, and_true, false_and, and_false, not_true_eq_false, not_false_eq_true, true_implies, false_implies, implies_true, forall_const, true_or, or_true, false_or, or_false, pk_us, vu_s, vL_s, vb_0, vb_1, if_true, if_false, ite_true, ite_false]
      exact hP _ _ _ _ _ _ _ _ _ _ _ _ hT
