/-! ALL FREE WORDS OF A LENGTH: the reference -/
theorem s11_isNormal {post : Int32 → Prop} {row : Nat → Int32} {f : Nat → Nat} {n : Nat} (hn : n ≤ 45) (hr : ∀ j, j < n → row j = iI (f j) ∧ f j < 4) (h1 : nrm f n = true → post (iI 1)) (h0 : nrm f n = false → post (iI 0)) : VX11_isNormal post row (iI n) := by
  have key : ∀ (q m : Nat) (x1 x2 : Int32), m + q = n → x1 = iI (tp f m) → x2 = iI m → (∀ j, j < m → f j ≤ tp f j) → VX11_isNormal_4 post row (iI n) (q + 1) x1 x2 := by
    intro q
    induction q with
    | zero =>
      intro m x1 x2 hm e1 e2 hp
      have : m = n := by omega
      subst this e1 e2
      rw [VX11_isNormal_4]
      simp (disch := omega) only [iI_lit, lI_lit, iI_nI, iI_add, iI_sub, iI_mul, iI_neg, c_lt_t, c_lt_f, c_le_t, c_le_f, c_eq_t, c_eq_f, c_in_t, iI_clamp, Int.toNat_natCast, forall_eq, true_and, and_true, false_and, and_false, not_true_eq_false, not_false_eq_true, true_implies, false_implies, implies_true, forall_const, true_or, or_true, false_or, or_false, pk_us, vu_s, vL_s, vb_0, vb_1, if_true, if_false, ite_true, ite_false]
      exact h1 (decide_eq_true hp)
    | succ q ih =>
      intro m x1 x2 hm e1 e2 hp
      subst e1 e2
      obtain ⟨a1, a2⟩ := hr m (by omega)
      have htp := tp_le m (fun j hj => (hr j (by omega)).2)
      have ec : ((f m : Nat) : Int) + 1 = ((f m + 1 : Nat) : Int) := by omega
      rw [VX11_isNormal_4]
      by_cases c : f m ≤ tp f m
      · simp (disch := omega) only [a1, ec, mx_if, iI_lit, lI_lit, iI_nI, iI_add, iI_sub, iI_mul, iI_neg, c_lt_t, c_lt_f, c_le_t, c_le_f, c_eq_t, c_eq_f, c_in_t, iI_clamp, Int.toNat_natCast, forall_eq, true_and, and_true, false_and, and_false, not_true_eq_false, not_false_eq_true, true_implies, false_implies, implies_true, forall_const, true_or, or_true, false_or, or_false, pk_us, vu_s, vL_s, vb_0, vb_1, if_true, if_false, ite_true, ite_false]
        refine ih (m + 1) _ _ (by omega) rfl (congrArg iI (by omega)) (fun j hj => ?_)
        by_cases d : j = m
        · rw [d]
          exact c
        · exact hp j (by omega)
      · simp (disch := omega) only [a1, iI_lit, lI_lit, iI_nI, iI_add, iI_sub, iI_mul, iI_neg, c_lt_t, c_lt_f, c_le_t, c_le_f, c_eq_t, c_eq_f, c_in_t, iI_clamp, Int.toNat_natCast, forall_eq, true_and, and_true, false_and, and_false, not_true_eq_false, not_false_eq_true, true_implies, false_implies, implies_true, forall_const, true_or, or_true, false_or, or_false, pk_us, vu_s, vL_s, vb_0, vb_1, if_true, if_false, ite_true, ite_false]
        exact h0 (decide_eq_false (fun q => c (q m (by omega))))
  exact ⟨n + 1, key n 0 _ _ (by omega) rfl rfl (fun j hj => absurd hj (Nat.not_lt_zero j))⟩
def kC (post : Int32 → (Nat → Int32) → Int32 → Int32 → Prop) (kk ee nn : Int32) (values : Nat → Int32) (p1 p2 : Int32) (n : Nat) (t_row : Nat → Int32) (t_rowSize t_steps x3 x4 x5 : Int32) : Prop := VX11_countAll_18 post kk ee nn values p1 p2 n t_row t_rowSize t_steps x3 x4 x5
def gcC (post : Int32 → (Nat → Int32) → Int32 → Int32 → Prop) (kk ee nn : Int32) (values : Nat → Int32) (p1 p2 : Int32) (n : Nat) (many : Int32) (r : Int32) (row : Nat → Int32) (rs st : Int32) : Prop := VX11_countAll_80 post (kC post kk ee nn values p1 p2 n) kk ee nn values p1 p2 row rs st many (iI 1) r
theorem lfs_t {f : Nat → Nat} {n : Nat} (c : nrm f n = true) : lfs true f n = 1 := by
  unfold lfs
  rw [if_neg (fun q => by rw [c] at q; exact absurd q.2 (by decide))]
theorem lfs_f {f : Nat → Nat} {n : Nat} (c : nrm f n = false) : lfs true f n = 0 := by
  unfold lfs
  rw [if_pos (And.intro rfl c)]
theorem n10 : ¬ (iI 1 = (0 : Int32)) := by decide
theorem s11_all_go {post : Int32 → (Nat → Int32) → Int32 → Int32 → Prop} {kk ee nn : Int32} {values row : Nat → Int32} {p2 st x4 : Int32} {n m q : Nat} {many : Int32} (hn : n ≤ 8) (hm : m < n) (h : VX11_goOn (gcC post kk ee nn values (iI n) p2 q many) kk ee nn values x4 (iI 2147483647) row (iI m) st) : VX11_countAll_18 post kk ee nn values (iI n) p2 (q + 1) row (iI m) st many x4 (iI 1) := by
  rw [VX11_countAll_18]
  refine ⟨fun c => absurd c n10, fun _ => ⟨fun _ => ?_, fun c => absurd ((iI_eq (by omega) (by omega) (by omega) (by omega)).mp c) (by omega)⟩⟩
  unfold VX11_countAll_36
  refine ⟨fun _ => ?_, fun c => absurd rfl c⟩
  unfold VX11_countAll_60
  refine ⟨fun _ => ?_, fun c => absurd rfl c⟩
  rw [show (2147483647 : Int32) = iI 2147483647 from iI_lit 2147483647, Int32.add_zero]
  exact h
theorem s11_all_whole {post : Int32 → (Nat → Int32) → Int32 → Int32 → Prop} {kk ee nn : Int32} {values row : Nat → Int32} {st x4 : Int32} {nm : Bool} {f : Nat → Nat} {n q many : Nat} (hn : n ≤ 8) (hr : ∀ j, j < n → row j = iI (f j) ∧ f j < 4) (h : gcC post kk ee nn values (iI n) (iI (if nm = true then 1 else 0)) q (iI ((many + lfs nm f n : Nat) : Int)) (-2) row (iI n) st) : VX11_countAll_18 post kk ee nn values (iI n) (iI (if nm = true then 1 else 0)) (q + 1) row (iI n) st (iI many) x4 (iI 1) := by
  rw [VX11_countAll_18]
  refine ⟨fun c => absurd c n10, fun _ => ⟨fun c => absurd rfl c, fun _ => ?_⟩⟩
  unfold VX11_countAll_36
  refine ⟨fun c => absurd c (by decide), fun _ => ?_⟩
  have e1 : iI (many : Int) + 1 = iI ((many + 1 : Nat) : Int) := by
    rw [show (1 : Int32) = iI 1 from iI_lit 1, iI_add]
    exact congrArg iI (by omega)
  cases nm with
  | false =>
    refine ⟨fun _ => ?_, fun c => absurd rfl c⟩
    unfold VX11_countAll_60
    refine ⟨fun c => absurd c (by decide), fun _ => ?_⟩
    rw [e1]
    exact h
  | true =>
    refine ⟨fun c => absurd c (by decide), fun _ => ?_⟩
    refine s11_isNormal (f := f) (by omega) hr (fun c => ?_) (fun c => ?_)
    · refine ⟨fun c => absurd c n10, fun _ => ?_⟩
      unfold VX11_countAll_60
      refine ⟨fun c => absurd c (by decide), fun _ => ?_⟩
      rw [e1]
      rw [lfs_t c] at h
      exact h
    · refine ⟨fun _ => ?_, fun c => absurd rfl c⟩
      unfold VX11_countAll_60
      refine ⟨fun c => absurd c (by decide), fun _ => ?_⟩
      rw [Int32.add_zero]
      rw [lfs_f c, Nat.add_zero] at h
      exact h
theorem s11_all_pop {post : Int32 → (Nat → Int32) → Int32 → Int32 → Prop} {kk ee nn : Int32} {values row : Nat → Int32} {p1 p2 st many : Int32} {m z q : Nat} (hm : m ≤ 8) (hz : row m = iI z) (h : VX11_countAll_18 post kk ee nn values p1 p2 q row (iI m) st many (iI ((z : Int) + 1)) (iI 1)) : gcC post kk ee nn values p1 p2 q many (-2) row (iI ((m + 1 : Nat) : Int)) st := by
  have e0 : ((m + 1 : Nat) : Int) - 1 = (m : Int) := by omega
  simp (disch := omega) only [gcC, VX11_countAll_80, VX11_countAll_104, VX11_countAll_121, kC, e0, hz, iI_lit, lI_lit, iI_nI, iI_add, iI_sub, iI_mul, iI_neg, c_lt_t, c_lt_f, c_le_t, c_le_f, c_eq_t, c_eq_f, c_in_t, iI_clamp, Int.toNat_natCast, forall_eq, true_and, and_true, false_and, and_false, not_true_eq_false, not_false_eq_true, true_implies, false_implies, implies_true, forall_const, true_or, or_true, false_or, or_false, pk_us, vu_s, vL_s, vb_0, vb_1, if_true, if_false, ite_true, ite_false]
  exact h
theorem s11_all_end {post : Int32 → (Nat → Int32) → Int32 → Int32 → Prop} {kk ee nn : Int32} {values row : Nat → Int32} {p1 p2 st many : Int32} {q : Nat} (h : post many row (iI 0) st) : gcC post kk ee nn values p1 p2 (q + 1) many (-2) row (iI 0) st := by
  simp (disch := omega) only [gcC, VX11_countAll_80, VX11_countAll_104, VX11_countAll_121, kC, VX11_countAll_18, Int.sub_zero, iI_lit, lI_lit, iI_nI, iI_add, iI_sub, iI_mul, iI_neg, c_lt_t, c_lt_f, c_le_t, c_le_f, c_eq_t, c_eq_f, c_in_t, iI_clamp, Int.toNat_natCast, forall_eq, true_and, and_true, false_and, and_false, not_true_eq_false, not_false_eq_true, true_implies, false_implies, implies_true, forall_const, true_or, or_true, false_or, or_false, pk_us, vu_s, vL_s, vb_0, vb_1, if_true, if_false, ite_true, ite_false]
  exact h
theorem s11_cnt {post : Int32 → (Nat → Int32) → Int32 → Int32 → Prop} {K N e n : Nat} {nm : Bool} {V : Nat → Int} {values : Nat → Int32} (hK : K ≤ 3) (hN : 2 ≤ N ∧ N ≤ 4) (he : 2 ≤ e ∧ e ≤ 4) (hn : n ≤ 8) (hV : ∀ x, x < 4 → (-9 ≤ V x ∧ V x ≤ 9) ∧ values x = iI (V x)) :
    ∀ (r : Nat) (f : Nat → Nat) (m : Nat), m + (r + 1) = n → ∀ (k x : Nat), x + k = N → ∀ (many st : Nat) (row : Nat → Int32), (∀ j, j < m → row j = iI (f j) ∧ f j < N) → st + k * (1 + DD r) ≤ 900000 →
      (∀ (row' : Nat → Int32) (st' : Nat), (∀ j, j < m → row' j = iI (f j) ∧ f j < N) → st' ≤ st + k * (1 + DD r) → ∃ q, gcC post (iI K) (iI e) (iI N) values (iI n) (iI (if nm = true then 1 else 0)) q (iI ((many + smN (cg (shp K N V e) (fun _ _ => N) (lfs nm) r f m) x k : Nat) : Int)) (-2) row' (iI m) (iI st')) →
      ∀ p : Int32, ∃ q, VX11_goOn_2 (gcC post (iI K) (iI e) (iI N) values (iI n) (iI (if nm = true then 1 else 0)) q (iI many)) (iI K) (iI e) (iI N) values p (iI 2147483647) (N - x + 1) row (iI m) (iI st) (iI x) := by
  intro r
  induction r with
  | zero =>
    intro f m hm k
    induction k with
    | zero =>
      intro x hx many st row hr hst h p
      obtain ⟨q, hq⟩ := h row st hr (by omega)
      refine ⟨q, ?_⟩
      rw [VX11_goOn_2]
      refine ⟨fun _ => hq, fun c => absurd ((iI_le (by omega) (by omega) (by omega) (by omega)).mpr (by omega)) c⟩
    | succ k ihk =>
      intro x hx many st row hr hst h p
      have hmul : (k + 1) * (1 + DD 0) = k * (1 + DD 0) + (1 + DD 0) := Nat.succ_mul k (1 + DD 0)
      have h6 : ∀ j, j < m + 1 → upd row m (iI x) j = iI ((va_up f m x j : Nat) : Int) ∧ va_up f m x j < N := by
        intro j hj
        by_cases c : j = m
        · rw [c, vu_s, pk_us]
          exact ⟨rfl, by omega⟩
        · rw [vu_n c, pk_un c]
          exact hr j (by omega)
      have h7 : ∀ j, j < m → upd row m (iI x) j = iI (f j) ∧ f j < N := fun j hj => by
        rw [pk_un (by omega)]
        exact hr j hj
      have ec : ((m : Int) + 1) = ((m + 1 : Nat) : Int) := by omega
      have hle := shp_le (K := K) (N := N) (V := V) (f := va_up f m x) (n := m + 1) he.1
      have hfu : N - x = N - (x + 1) + 1 := by omega
      have es : ((st + 1 : Nat) : Int) = (st : Int) + 1 := by omega
      have ex : ((x + 1 : Nat) : Int) = (x : Int) + 1 := by omega
      by_cases c4 : shp K N V e (va_up f m x) (m + 1) = 0
      · obtain ⟨q1, hq1⟩ := ihk (x + 1) (by omega) (many + lfs nm (va_up f m x) n) (st + 1) (upd row m (iI x)) h7 (by omega) (fun row' st' a1 a2 => by
          have := h row' st' a1 (by omega)
          rw [smN, cg, if_pos c4] at this
          simp only [cw] at this
          rw [hm] at this
          rwa [Nat.add_assoc many]) (iI ((x : Int) + 1))
        refine ⟨q1 + 1 + 1, ?_⟩
        rw [VX11_goOn_2]
        simp (disch := omega) only [ec, iI_lit, lI_lit, iI_nI, iI_add, iI_sub, iI_mul, iI_neg, c_lt_t, c_lt_f, c_le_t, c_le_f, c_eq_t, c_eq_f, c_in_t, iI_clamp, Int.toNat_natCast, forall_eq, true_and, and_true, false_and, and_false, not_true_eq_false, not_false_eq_true, true_implies, false_implies, implies_true, forall_const, true_or, or_true, false_or, or_false, pk_us, vu_s, vL_s, vb_0, vb_1, if_true, if_false, ite_true, ite_false]
        refine s11_endsAt (f := va_up f m x) (V := V) hK hN he hV (by omega) (fun j hj => ⟨(h6 j hj).1, by have := (h6 j hj).2; omega⟩) ?_
        rw [c4]
        rw [es, ex] at hq1
        have g1 := s11_all_go hn (show m < n by omega) ⟨_, hq1⟩
        have g2 := s11_all_pop (show m ≤ 8 by omega) (show upd row m (iI x) m = iI x by rw [pk_us]) g1
        have hmn : m + 1 = n := by omega
        rw [hmn] at g2
        have g3 := s11_all_whole (x4 := iI 0) hn (fun j hj => ⟨(h6 j (by omega)).1, by have := (h6 j (by omega)).2; omega⟩) g2
        rw [← hmn] at g3
        simp (disch := omega) only [VX11_goOn_54, gcC, VX11_countAll_80, kC, ec, iI_lit, lI_lit, iI_nI, iI_add, iI_sub, iI_mul, iI_neg, c_lt_t, c_lt_f, c_le_t, c_le_f, c_eq_t, c_eq_f, c_in_t, iI_clamp, Int.toNat_natCast, forall_eq, true_and, and_true, false_and, and_false, not_true_eq_false, not_false_eq_true, true_implies, false_implies, implies_true, forall_const, true_or, or_true, false_or, or_false, pk_us, vu_s, vL_s, vb_0, vb_1, if_true, if_false, ite_true, ite_false]
        rw [← hmn]
        exact g3
      · obtain ⟨q1, hq1⟩ := ihk (x + 1) (by omega) many (st + 1) (upd row m (iI x)) h7 (by omega) (fun row' st' a1 a2 => by
          have := h row' st' a1 (by omega)
          rwa [smN, cg, if_neg c4, Nat.zero_add] at this) p
        refine ⟨q1, ?_⟩
        rw [VX11_goOn_2]
        simp (disch := omega) only [ec, iI_lit, lI_lit, iI_nI, iI_add, iI_sub, iI_mul, iI_neg, c_lt_t, c_lt_f, c_le_t, c_le_f, c_eq_t, c_eq_f, c_in_t, iI_clamp, Int.toNat_natCast, forall_eq, true_and, and_true, false_and, and_false, not_true_eq_false, not_false_eq_true, true_implies, false_implies, implies_true, forall_const, true_or, or_true, false_or, or_false, pk_us, vu_s, vL_s, vb_0, vb_1, if_true, if_false, ite_true, ite_false]
        refine s11_endsAt (f := va_up f m x) (V := V) hK hN he hV (by omega) (fun j hj => ⟨(h6 j hj).1, by have := (h6 j hj).2; omega⟩) ?_
        simp (disch := omega) only [iI_lit, lI_lit, iI_nI, iI_add, iI_sub, iI_mul, iI_neg, c_lt_t, c_lt_f, c_le_t, c_le_f, c_eq_t, c_eq_f, c_in_t, iI_clamp, Int.toNat_natCast, forall_eq, true_and, and_true, false_and, and_false, not_true_eq_false, not_false_eq_true, true_implies, false_implies, implies_true, forall_const, true_or, or_true, false_or, or_false, pk_us, vu_s, vL_s, vb_0, vb_1, if_true, if_false, ite_true, ite_false]
        rw [es, ex] at hq1
        rw [hfu]
        exact hq1
  | succ r ihr =>
    intro f m hm k
    induction k with
    | zero =>
      intro x hx many st row hr hst h p
      obtain ⟨q, hq⟩ := h row st hr (by omega)
      refine ⟨q, ?_⟩
      rw [VX11_goOn_2]
      refine ⟨fun _ => hq, fun c => absurd ((iI_le (by omega) (by omega) (by omega) (by omega)).mpr (by omega)) c⟩
    | succ k ihk =>
      intro x hx many st row hr hst h p
      have hmul : (k + 1) * (1 + DD (r + 1)) = k * (1 + DD (r + 1)) + (1 + DD (r + 1)) := Nat.succ_mul k (1 + DD (r + 1))
      have hdd : DD (r + 1) = 4 * (1 + DD r) + 1 := rfl
      have hmul2 : N * (1 + DD r) ≤ 4 * (1 + DD r) := Nat.mul_le_mul_right _ (by omega)
      have h6 : ∀ j, j < m + 1 → upd row m (iI x) j = iI ((va_up f m x j : Nat) : Int) ∧ va_up f m x j < N := by
        intro j hj
        by_cases c : j = m
        · rw [c, vu_s, pk_us]
          exact ⟨rfl, by omega⟩
        · rw [vu_n c, pk_un c]
          exact hr j (by omega)
      have h7 : ∀ j, j < m → upd row m (iI x) j = iI (f j) ∧ f j < N := fun j hj => by
        rw [pk_un (by omega)]
        exact hr j hj
      have ec : ((m : Int) + 1) = ((m + 1 : Nat) : Int) := by omega
      have hle := shp_le (K := K) (N := N) (V := V) (f := va_up f m x) (n := m + 1) he.1
      have hfu : N - x = N - (x + 1) + 1 := by omega
      have es : ((st + 1 : Nat) : Int) = (st : Int) + 1 := by omega
      have ex : ((x + 1 : Nat) : Int) = (x : Int) + 1 := by omega
      by_cases c4 : shp K N V e (va_up f m x) (m + 1) = 0
      · obtain ⟨q2, hq2⟩ := ihr (va_up f m x) (m + 1) (by omega) N 0 (by omega) many (st + 1) (upd row m (iI x)) h6 (by omega) (fun row' st' a1 a2 => by
          have a3 : ∀ j, j < m → row' j = iI (f j) ∧ f j < N := fun j hj => by
            have := a1 j (by omega)
            rwa [vu_n (by omega)] at this
          obtain ⟨q1, hq1⟩ := ihk (x + 1) (by omega) (many + cw (shp K N V e) (fun _ _ => N) (lfs nm) (r + 1) (va_up f m x) (m + 1)) st' row' a3 (by omega) (fun row2 st2 b1 b2 => by
            have := h row2 st2 b1 (by omega)
            rw [smN, cg, if_pos c4] at this
            rwa [Nat.add_assoc many]) (iI ((x : Int) + 1))
          rw [ex] at hq1
          have g1 := s11_all_go hn (show m < n by omega) ⟨_, hq1⟩
          exact ⟨q1 + 1, s11_all_pop (show m ≤ 8 by omega) (by have := (a1 m (by omega)).1; rwa [vu_s] at this) g1⟩) (iI 0)
        refine ⟨q2 + 1, ?_⟩
        rw [VX11_goOn_2]
        simp (disch := omega) only [ec, iI_lit, lI_lit, iI_nI, iI_add, iI_sub, iI_mul, iI_neg, c_lt_t, c_lt_f, c_le_t, c_le_f, c_eq_t, c_eq_f, c_in_t, iI_clamp, Int.toNat_natCast, forall_eq, true_and, and_true, false_and, and_false, not_true_eq_false, not_false_eq_true, true_implies, false_implies, implies_true, forall_const, true_or, or_true, false_or, or_false, pk_us, vu_s, vL_s, vb_0, vb_1, if_true, if_false, ite_true, ite_false]
        refine s11_endsAt (f := va_up f m x) (V := V) hK hN he hV (by omega) (fun j hj => ⟨(h6 j hj).1, by have := (h6 j hj).2; omega⟩) ?_
        rw [c4]
        rw [es] at hq2
        have g1 := s11_all_go hn (show m + 1 < n by omega) ⟨_, hq2⟩
        simp (disch := omega) only [VX11_goOn_54, gcC, VX11_countAll_80, kC, ec, iI_lit, lI_lit, iI_nI, iI_add, iI_sub, iI_mul, iI_neg, c_lt_t, c_lt_f, c_le_t, c_le_f, c_eq_t, c_eq_f, c_in_t, iI_clamp, Int.toNat_natCast, forall_eq, true_and, and_true, false_and, and_false, not_true_eq_false, not_false_eq_true, true_implies, false_implies, implies_true, forall_const, true_or, or_true, false_or, or_false, pk_us, vu_s, vL_s, vb_0, vb_1, if_true, if_false, ite_true, ite_false]
        exact g1
      · obtain ⟨q1, hq1⟩ := ihk (x + 1) (by omega) many (st + 1) (upd row m (iI x)) h7 (by omega) (fun row' st' a1 a2 => by
          have := h row' st' a1 (by omega)
          rwa [smN, cg, if_neg c4, Nat.zero_add] at this) p
        refine ⟨q1, ?_⟩
        rw [VX11_goOn_2]
        simp (disch := omega) only [ec, iI_lit, lI_lit, iI_nI, iI_add, iI_sub, iI_mul, iI_neg, c_lt_t, c_lt_f, c_le_t, c_le_f, c_eq_t, c_eq_f, c_in_t, iI_clamp, Int.toNat_natCast, forall_eq, true_and, and_true, false_and, and_false, not_true_eq_false, not_false_eq_true, true_implies, false_implies, implies_true, forall_const, true_or, or_true, false_or, or_false, pk_us, vu_s, vL_s, vb_0, vb_1, if_true, if_false, ite_true, ite_false]
        refine s11_endsAt (f := va_up f m x) (V := V) hK hN he hV (by omega) (fun j hj => ⟨(h6 j hj).1, by have := (h6 j hj).2; omega⟩) ?_
        simp (disch := omega) only [iI_lit, lI_lit, iI_nI, iI_add, iI_sub, iI_mul, iI_neg, c_lt_t, c_lt_f, c_le_t, c_le_f, c_eq_t, c_eq_f, c_in_t, iI_clamp, Int.toNat_natCast, forall_eq, true_and, and_true, false_and, and_false, not_true_eq_false, not_false_eq_true, true_implies, false_implies, implies_true, forall_const, true_or, or_true, false_or, or_false, pk_us, vu_s, vL_s, vb_0, vb_1, if_true, if_false, ite_true, ite_false]
        rw [es, ex] at hq1
        rw [hfu]
        exact hq1
theorem DD_le {r : Nat} (h : r ≤ 7) : DD r ≤ 27305 := by
  obtain rfl | rfl | rfl | rfl | rfl | rfl | rfl | rfl : r = 0 ∨ r = 1 ∨ r = 2 ∨ r = 3 ∨ r = 4 ∨ r = 5 ∨ r = 6 ∨ r = 7 := by omega
  all_goals decide
theorem s11_countAll {post : Int32 → (Nat → Int32) → Int32 → Int32 → Prop} {K N e n : Nat} {nm : Bool} {V : Nat → Int} {values row : Nat → Int32} {rs st : Int32} (hK : K ≤ 3) (hN : 2 ≤ N ∧ N ≤ 4) (he : 2 ≤ e ∧ e ≤ 4) (hn : n ≤ 8) (hV : ∀ x, x < 4 → (-9 ≤ V x ∧ V x ≤ 9) ∧ values x = iI (V x))
    (h : ∀ row st, post (iI ((cw (shp K N V e) (chs N nm) (fun _ _ => 1) n (fun _ => 0) 0 : Nat) : Int)) row (iI 0) st) : VX11_countAll post (iI K) (iI e) (iI N) values (iI n) (iI (if nm = true then 1 else 0)) row rs st := by
  rw [cw_eq n (fun _ => 0) 0 (Or.inr (decide_eq_true (fun j hj => absurd hj (Nat.not_lt_zero j))))] at h
  by_cases c : n = 0
  · subst c
    refine ⟨1 + 1, ?_⟩
    refine s11_all_whole (n := 0) (many := 0) (f := fun _ => 0) (by omega) (fun j hj => absurd hj (Nat.not_lt_zero j)) ?_
    refine s11_all_end (q := 0) ?_
    simp only [cw] at h
    rw [Nat.zero_add]
    exact h _ _
  · obtain ⟨r, rfl⟩ : ∃ r, n = r + 1 := ⟨n - 1, by omega⟩
    have hd := DD_le (show r ≤ 7 by omega)
    have hmul2 : N * (1 + DD r) ≤ 4 * (1 + DD r) := Nat.mul_le_mul_right _ (by omega)
    obtain ⟨q, hq⟩ := s11_cnt (post := post) (nm := nm) (V := V) (values := values) hK hN he hn hV r (fun _ => 0) 0 (by omega) N 0 (by omega) 0 0 row (fun j hj => absurd hj (Nat.not_lt_zero j)) (by omega) (fun row' st' _ _ => ⟨1, s11_all_end (q := 0) (by
      have := h row' (iI st')
      rw [cw_s] at this
      rw [Nat.zero_add]
      exact this)⟩) (iI 0)
    exact ⟨q + 1, s11_all_go (m := 0) hn (by omega) ⟨_, hq⟩⟩
theorem s4_countWords {post : Int32 → (Nat → Int32) → (Nat → Int32) → (Nat → Int64) → (Nat → Int64) → (Nat → Int64) → Int32 → Prop} {K N e n : Nat} {nm : Bool} {V : Nat → Int} {wt : Nat → Int64} {L T : Nat → Int32} {S A B : Nat → Int64} (hK : K ≤ 3) (hN : 2 ≤ N ∧ N ≤ 4) (he : 2 ≤ e ∧ e ≤ 4) (hn : n ≤ 8) (hV : ∀ x, x < 4 → -9 ≤ V x ∧ V x ≤ 9) (hw : ∀ x, x < 4 → wt x = lI (wK K V x)) (hT : T 0 = iI 0)
    (h : ∀ L T S A B, T 0 = iI 0 → post (iI ((cw (shp K N V e) (chs N nm) (fun _ _ => 1) n (fun _ => 0) 0 : Nat) : Int)) L T S A B (iI 0)) : VX4_countWords post wt (iI K) (iI e) (iI n) (iI N) (iI (if nm = true then 1 else 0)) L T S A B (iI 0) := by
  by_cases c : n = 0
  · subst c
    refine ⟨fun c => absurd rfl c, fun _ => ?_⟩
    exact h _ _ _ _ _ hT
  · obtain ⟨r, rfl⟩ : ∃ r, n = r + 1 := ⟨n - 1, by omega⟩
    have hd := DD_le (show r ≤ 7 by omega)
    have hle := chs_le (N := N) (nm := nm) (f := fun _ => 0) (m := 0)
    obtain ⟨w, hw1, hq⟩ := s4_count (post := post) (nm := nm) hK hN he hn hV hw r (fun _ => 0) 0 (by omega) (fun j hj => absurd hj (Nat.not_lt_zero j)) (chs N nm (fun _ => 0) 0) 0 (by omega)
    have hmul2 : chs N nm (fun _ => 0) 0 * (1 + DD r) ≤ 4 * (1 + DD r) := Nat.mul_le_mul_right _ (by omega)
    refine ⟨fun _ => ⟨0 + 1 + w, ?_⟩, fun q => absurd ((iI_eq (by omega) (by omega) (by omega) (by omega)).mp (q.trans (show (0 : Int32) = iI 0 from rfl))) (by omega)⟩
    refine hq 0 0 (0 + 1) (by omega) (fun L' T' S' A' B' hTI => ?_) _ _ _ _ _ ⟨hT, fun j hj => absurd hj (Nat.not_lt_zero j)⟩
    refine s4_turn hN (by omega) (by omega) hTI ?_
    simp (disch := omega) only [VX4_countWords_45, iI_lit, lI_lit, iI_nI, iI_add, iI_sub, iI_mul, iI_neg, c_lt_t, c_lt_f, c_le_t, c_le_f, c_eq_t, c_eq_f, c_in_t, iI_clamp, Int.toNat_natCast, forall_eq, true_and, and_true, false_and, and_false, not_true_eq_false, not_false_eq_true, true_implies, false_implies, implies_true, forall_const, true_or, or_true, false_or, or_false, pk_us, vu_s, vL_s, vb_0, vb_1, if_true, if_false, ite_true, ite_false]
    have := h L' T' S' A' B' hTI.1
    rw [cw_s] at this
    rw [Nat.zero_add]
    exact this
theorem L_countFree {K N e : Nat} (hK : K ≤ 3) (hN : 2 ≤ N ∧ N ≤ 4) (he : 2 ≤ e ∧ e ≤ 4) {cv mv : Nat → Int32} (hv : EV cv mv) (p1 : Int32) {L T : Nat → Int32} {S A B wt : Nat → Int64} {sz kd ex : Int32} (hT : T 0 = iI 0) (row : Nat → Int32) (rowSize steps : Int32)
    {P : Int32 → (Nat → Int32) → (Nat → Int32) → (Nat → Int64) → (Nat → Int64) → (Nat → Int64) → (Nat → Int64) → Int32 → Int32 → Int32 → Int32 → (Nat → Int32) → Int32 → Int32 → Prop} (hP : ∀ r L T S A B wt sz kd ex a b c, T 0 = iI 0 → P r L T S A B wt sz kd ex r a b c) :
    VX10_countFree (fun r L T S A B wt sz kd ex => VX11_countFree (fun r2 a b c => P r L T S A B wt sz kd ex r2 a b c) (iI K) (iI e) (iI N) mv p1 row rowSize steps) (iI K) (iI e) (iI N) cv p1 L T S A B wt sz kd ex := by
  obtain ⟨V, hV⟩ := hv
  have hVm : ∀ x, x < 4 → (-9 ≤ V x ∧ V x ≤ 9) ∧ mv x = iI (V x) := fun x hx => ⟨(hV x hx).1, (hV x hx).2.2⟩
  rcases ix_cases p1 9 (by omega) with ⟨n, hn, rfl⟩ | ⟨z, rfl, h1, h2, h3 | h3⟩
  · simp (disch := omega) only [VX10_countFree, iI_lit, lI_lit, iI_nI, iI_add, iI_sub, iI_mul, iI_neg, c_lt_t, c_lt_f, c_le_t, c_le_f, c_eq_t, c_eq_f, c_in_t, iI_clamp, Int.toNat_natCast, forall_eq, true_and, and_true, false_and, and_false, not_true_eq_false, not_false_eq_true, true_implies, false_implies, implies_true, forall_const, true_or, or_true, false_or, or_false, pk_us, vu_s, vL_s, vb_0, vb_1, if_true, if_false, ite_true, ite_false]
    refine s8_begin (V := V) hK (fun x hx => ⟨(hV x hx).1, (hV x hx).2.1⟩) (fun wt' hw => ?_)
    refine s4_countWords (nm := false) (V := V) hK hN he (by omega) (fun x hx => (hV x hx).1) hw hT (fun L T S A B hT => ?_)
    simp (disch := omega) only [VX11_countFree, VX11_isIn, iI_lit, lI_lit, iI_nI, iI_add, iI_sub, iI_mul, iI_neg, c_lt_t, c_lt_f, c_le_t, c_le_f, c_eq_t, c_eq_f, c_in_t, iI_clamp, Int.toNat_natCast, forall_eq, true_and, and_true, false_and, and_false, not_true_eq_false, not_false_eq_true, true_implies, false_implies, implies_true, forall_const, true_or, or_true, false_or, or_false, pk_us, vu_s, vL_s, vb_0, vb_1, if_true, if_false, ite_true, ite_false]
    exact s11_countAll (nm := false) (V := V) hK hN he (by omega) hVm (fun row st => hP _ _ _ _ _ _ _ _ _ _ _ _ _ hT)
  · simp (disch := omega) only [VX10_countFree, VX11_countFree, VX11_isIn, iI_lit, lI_lit, iI_nI, iI_add, iI_sub, iI_mul, iI_neg, c_lt_t, c_lt_f, c_le_t, c_le_f, c_eq_t, c_eq_f, c_in_t, iI_clamp, Int.toNat_natCast, forall_eq, true_and, and_true, false_and, and_false, not_true_eq_false, not_false_eq_true, true_implies, false_implies, implies_true, forall_const, true_or, or_true, false_or, or_false, pk_us, vu_s, vL_s, vb_0, vb_1, if_true, if_false, ite_true, ite_false]
    exact hP _ _ _ _ _ _ _ _ _ _ _ _ _ hT
  · have h3' : 9 ≤ z := h3
    simp (disch := omega) only [VX10_countFree, VX11_countFree, VX11_isIn, iI_lit, lI_lit, iI_nI, iI_add, iI_sub, iI_mul, iI_neg, c_lt_t, c_lt_f, c_le_t, c_le_f, c_eq_t, c_eq_f, c_in_t, iI_clamp, Int.toNat_natCast, forall_eq, true_and, and_true, false_and, and_false, not_true_eq_false, not_false_eq_true, true_implies, false_implies, implies_true, forall_const, true_or, or_true, false_or, or_false, pk_us, vu_s, vL_s, vb_0, vb_1, if_true, if_false, ite_true, ite_false]
    exact hP _ _ _ _ _ _ _ _ _ _ _ _ _ hT
theorem L_countNormal {K N e : Nat} (hK : K ≤ 3) (hN : 2 ≤ N ∧ N ≤ 4) (he : 2 ≤ e ∧ e ≤ 4) {cv mv : Nat → Int32} (hv : EV cv mv) (p1 : Int32) {L T : Nat → Int32} {S A B wt : Nat → Int64} {sz kd ex : Int32} (hT : T 0 = iI 0) (row : Nat → Int32) (rowSize steps : Int32)
    {P : Int32 → (Nat → Int32) → (Nat → Int32) → (Nat → Int64) → (Nat → Int64) → (Nat → Int64) → (Nat → Int64) → Int32 → Int32 → Int32 → Int32 → (Nat → Int32) → Int32 → Int32 → Prop} (hP : ∀ r L T S A B wt sz kd ex a b c, T 0 = iI 0 → P r L T S A B wt sz kd ex r a b c) :
    VX10_countNormal (fun r L T S A B wt sz kd ex => VX11_countNormal (fun r2 a b c => P r L T S A B wt sz kd ex r2 a b c) (iI K) (iI e) (iI N) mv p1 row rowSize steps) (iI K) (iI e) (iI N) cv p1 L T S A B wt sz kd ex := by
  obtain ⟨V, hV⟩ := hv
  have hVm : ∀ x, x < 4 → (-9 ≤ V x ∧ V x ≤ 9) ∧ mv x = iI (V x) := fun x hx => ⟨(hV x hx).1, (hV x hx).2.2⟩
  rcases ix_cases p1 9 (by omega) with ⟨n, hn, rfl⟩ | ⟨z, rfl, h1, h2, h3 | h3⟩
  · simp (disch := omega) only [VX10_countNormal, iI_lit, lI_lit, iI_nI, iI_add, iI_sub, iI_mul, iI_neg, c_lt_t, c_lt_f, c_le_t, c_le_f, c_eq_t, c_eq_f, c_in_t, iI_clamp, Int.toNat_natCast, forall_eq, true_and, and_true, false_and, and_false, not_true_eq_false, not_false_eq_true, true_implies, false_implies, implies_true, forall_const, true_or, or_true, false_or, or_false, pk_us, vu_s, vL_s, vb_0, vb_1, if_true, if_false, ite_true, ite_false]
    refine s8_begin (V := V) hK (fun x hx => ⟨(hV x hx).1, (hV x hx).2.1⟩) (fun wt' hw => ?_)
    refine s4_countWords (nm := true) (V := V) hK hN he (by omega) (fun x hx => (hV x hx).1) hw hT (fun L T S A B hT => ?_)
    simp (disch := omega) only [VX11_countNormal, VX11_isIn, iI_lit, lI_lit, iI_nI, iI_add, iI_sub, iI_mul, iI_neg, c_lt_t, c_lt_f, c_le_t, c_le_f, c_eq_t, c_eq_f, c_in_t, iI_clamp, Int.toNat_natCast, forall_eq, true_and, and_true, false_and, and_false, not_true_eq_false, not_false_eq_true, true_implies, false_implies, implies_true, forall_const, true_or, or_true, false_or, or_false, pk_us, vu_s, vL_s, vb_0, vb_1, if_true, if_false, ite_true, ite_false]
    exact s11_countAll (nm := true) (V := V) hK hN he (by omega) hVm (fun row st => hP _ _ _ _ _ _ _ _ _ _ _ _ _ hT)
  · simp (disch := omega) only [VX10_countNormal, VX11_countNormal, VX11_isIn, iI_lit, lI_lit, iI_nI, iI_add, iI_sub, iI_mul, iI_neg, c_lt_t, c_lt_f, c_le_t, c_le_f, c_eq_t, c_eq_f, c_in_t, iI_clamp, Int.toNat_natCast, forall_eq, true_and, and_true, false_and, and_false, not_true_eq_false, not_false_eq_true, true_implies, false_implies, implies_true, forall_const, true_or, or_true, false_or, or_false, pk_us, vu_s, vL_s, vb_0, vb_1, if_true, if_false, ite_true, ite_false]
    exact hP _ _ _ _ _ _ _ _ _ _ _ _ _ hT
  · have h3' : 9 ≤ z := h3
    simp (disch := omega) only [VX10_countNormal, VX11_countNormal, VX11_isIn, iI_lit, lI_lit, iI_nI, iI_add, iI_sub, iI_mul, iI_neg, c_lt_t, c_lt_f, c_le_t, c_le_f, c_eq_t, c_eq_f, c_in_t, iI_clamp, Int.toNat_natCast, forall_eq, true_and, and_true, false_and, and_false, not_true_eq_false, not_false_eq_true, true_implies, false_implies, implies_true, forall_const, true_or, or_true, false_or, or_false, pk_us, vu_s, vL_s, vb_0, vb_1, if_true, if_false, ite_true, ite_false]
    exact hP _ _ _ _ _ _ _ _ _ _ _ _ _ hT
