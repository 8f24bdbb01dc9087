/-! ALL FREE WORDS OF A LENGTH -/
def smN (g : Nat → Nat) : Nat → Nat → Nat
  | _, 0 => 0
  | x, k + 1 => g x + smN g (x + 1) k
def cw (F : (Nat → Nat) → Nat → Nat) (ch lf : (Nat → Nat) → Nat → Nat) : Nat → (Nat → Nat) → Nat → Nat
  | 0, f, m => lf f m
  | r + 1, f, m => smN (fun x => if F (va_up f m x) (m + 1) = 0 then cw F ch lf r (va_up f m x) (m + 1) else 0) 0 (ch f m)
def cg (F : (Nat → Nat) → Nat → Nat) (ch lf : (Nat → Nat) → Nat → Nat) (r : Nat) (f : Nat → Nat) (m x : Nat) : Nat := if F (va_up f m x) (m + 1) = 0 then cw F ch lf r (va_up f m x) (m + 1) else 0
theorem cw_s (F : (Nat → Nat) → Nat → Nat) (ch lf : (Nat → Nat) → Nat → Nat) (r : Nat) (f : Nat → Nat) (m : Nat) : cw F ch lf (r + 1) f m = smN (cg F ch lf r f m) 0 (ch f m) := rfl
def chs (N : Nat) (nm : Bool) (f : Nat → Nat) (m : Nat) : Nat := if nm = true then min N (tp f m + 1) else N
def nrm (f : Nat → Nat) (m : Nat) : Bool := decide (∀ j, j < m → f j ≤ tp f j)
def lfs (nm : Bool) (f : Nat → Nat) (m : Nat) : Nat := if nm = true ∧ nrm f m = false then 0 else 1
theorem smN_cg {g h : Nat → Nat} : ∀ k x, (∀ y, x ≤ y → y < x + k → g y = h y) → smN g x k = smN h x k
  | 0, _, _ => rfl
  | k + 1, x, e => by
    simp only [smN]
    rw [e x (by omega) (by omega), smN_cg k (x + 1) (fun y h1 h2 => e y (by omega) (by omega))]
theorem smN_0 {g : Nat → Nat} : ∀ k x, (∀ y, x ≤ y → y < x + k → g y = 0) → smN g x k = 0
  | 0, _, _ => rfl
  | k + 1, x, e => by
    simp only [smN]
    rw [e x (by omega) (by omega), smN_0 k (x + 1) (fun y h1 h2 => e y (by omega) (by omega))]
theorem smN_ad {g : Nat → Nat} : ∀ k x l, smN g x (k + l) = smN g x k + smN g (x + k) l
  | 0, x, l => by
    rw [Nat.zero_add]
    simp only [smN]
    rw [Nat.zero_add, Nat.add_zero]
  | k + 1, x, l => by
    rw [show k + 1 + l = (k + l) + 1 by omega]
    simp only [smN]
    rw [smN_ad k (x + 1) l, show x + (k + 1) = x + 1 + k by omega]
    omega
theorem nrm_up {f : Nat → Nat} {m x : Nat} : nrm (va_up f m x) (m + 1) = true ↔ (nrm f m = true ∧ x ≤ tp f m) := by
  unfold nrm
  rw [decide_eq_true_iff, decide_eq_true_iff]
  have e : ∀ j, j ≤ m → tp (va_up f m x) j = tp f j := fun j hj => tp_cg j (fun i hi => vu_n (by omega))
  constructor
  · intro h
    refine ⟨fun j hj => ?_, ?_⟩
    · have := h j (by omega)
      rwa [vu_n (by omega), e j (by omega)] at this
    · have := h m (by omega)
      rwa [vu_s, e m (by omega)] at this
  · intro h j hj
    rw [e j (by omega)]
    by_cases c : j = m
    · rw [c, vu_s]
      exact h.2
    · rw [vu_n c]
      exact h.1 j (by omega)
theorem nrm_no {f : Nat → Nat} {m x : Nat} (h : ¬ (nrm f m = true ∧ x ≤ tp f m)) : nrm (va_up f m x) (m + 1) = false := by
  cases c : nrm (va_up f m x) (m + 1) with
  | false => rfl
  | true => exact absurd (nrm_up.mp c) h
theorem cw_0 {F : (Nat → Nat) → Nat → Nat} {N : Nat} : ∀ r f m, nrm f m = false → cw F (fun _ _ => N) (lfs true) r f m = 0
  | 0, f, m, h => by
    simp only [cw, lfs]
    rw [if_pos ⟨trivial, h⟩]
  | r + 1, f, m, h => by
    rw [cw_s]
    refine smN_0 N 0 (fun y _ _ => ?_)
    unfold cg
    rw [cw_0 r _ _ (nrm_no (fun q => by rw [h] at q; exact absurd q.1 (by decide)))]
    split <;> rfl
theorem cw_eq {F : (Nat → Nat) → Nat → Nat} {N : Nat} {nm : Bool} : ∀ r f m, (nm = false ∨ nrm f m = true) → cw F (chs N nm) (fun _ _ => 1) r f m = cw F (fun _ _ => N) (lfs nm) r f m
  | 0, f, m, h => by
    simp only [cw, lfs]
    rw [if_neg]
    rintro ⟨q1, q2⟩
    rcases h with h | h
    · rw [h] at q1
      exact absurd q1 (by decide)
    · rw [h] at q2
      exact absurd q2 (by decide)
  | r + 1, f, m, h => by
    rw [cw_s, cw_s]
    cases nm with
    | false =>
      refine smN_cg _ _ (fun y _ _ => ?_)
      unfold cg
      rw [cw_eq r _ _ (Or.inl rfl)]
    | true =>
      have hn : nrm f m = true := h.resolve_left (by decide)
      have e1 : smN (cg F (chs N true) (fun _ _ => 1) r f m) 0 (chs N true f m) = smN (cg F (fun _ _ => N) (lfs true) r f m) 0 (chs N true f m) := by
        refine smN_cg _ _ (fun y _ hy => ?_)
        simp only [chs, if_true] at hy
        unfold cg
        rw [cw_eq r _ _ (Or.inr (nrm_up.mpr ⟨hn, by omega⟩))]
      rw [e1]
      have hle : chs N true f m ≤ N := by
        simp only [chs, if_true]
        omega
      have hz : smN (cg F (fun _ _ => N) (lfs true) r f m) (0 + chs N true f m) (N - chs N true f m) = 0 := by
        refine smN_0 _ _ (fun y hy1 hy2 => ?_)
        simp only [chs, if_true] at hy1 hy2
        unfold cg
        rw [cw_0 r _ _ (nrm_no (fun q => by omega))]
        split <;> rfl
      have := smN_ad (g := cg F (fun _ _ => N) (lfs true) r f m) (chs N true f m) 0 (N - chs N true f m)
      rw [hz, Nat.add_zero, Nat.add_sub_cancel' hle] at this
      exact this.symm
def DD : Nat → Nat
  | 0 => 0
  | r + 1 => 4 * (1 + DD r) + 1
theorem mn_if {a b : Nat} (ha : a < 1000) (hb : b < 1000) : (if iI (a : Int) + iI 1 < iI (b : Int) then iI (a : Int) + iI 1 else iI (b : Int)) = iI ((min b (a + 1) : Nat) : Int) := by
  rw [iI_add]
  by_cases c : a + 1 < b
  · rw [if_pos ((iI_lt (by omega) (by omega) (by omega) (by omega)).mpr (by omega))]
    exact congrArg iI (by omega)
  · rw [if_neg (fun q => c (by have := (iI_lt (by omega) (by omega) (by omega) (by omega)).mp q; omega))]
    exact congrArg iI (by omega)
theorem chs_le {N : Nat} {nm : Bool} {f : Nat → Nat} {m : Nat} : chs N nm f m ≤ N := by
  unfold chs
  split <;> omega
theorem s4_turn {post : Int32 → (Nat → Int32) → (Nat → Int32) → (Nat → Int64) → (Nat → Int64) → (Nat → Int64) → Int32 → Prop} {K N : Nat} {W : Nat → Int} {nm : Bool} {f : Nat → Nat} {m t q : Nat} {wt : Nat → Int64} {kk ee nn c x : Int32} {L T : Nat → Int32} {S A B : Nat → Int64} (hN : 2 ≤ N ∧ N ≤ 4) (hm : m ≤ 8) (ht : t < 1000000) (hTI : TI K W f m L T S A B)
    (h : VX4_countWords_45 post (fun a0_letters a0_tops a0_sums a0_lowPairs a0_highPairs a0_size x4 x5 x6 => VX4_countWords_15 post wt kk ee nn (iI N) (iI (if nm = true then 1 else 0)) q a0_letters a0_tops a0_sums a0_lowPairs a0_highPairs a0_size x4 x5 x6) wt kk ee nn (iI N) (iI (if nm = true then 1 else 0)) L T S A B (iI m) c x (iI t) (iI ((chs N nm f m : Nat) : Int))) :
    VX4_countWords_15 post wt kk ee nn (iI N) (iI (if nm = true then 1 else 0)) (q + 1) L T S A B (iI m) c x (iI t) := by
  rw [VX4_countWords_15]
  have h1 : ¬ ((1000000 : Int32) ≤ iI (t : Int)) := by
    rw [iI_lit, iI_le (by omega) (by omega) (by omega) (by omega)]
    omega
  refine ⟨fun q => absurd q h1, fun _ => ?_⟩
  cases nm with
  | false => exact ⟨fun _ => h, fun q => absurd rfl q⟩
  | true =>
    refine ⟨fun q => absurd q (by decide), fun _ => ⟨(iI_in (by omega) (by omega)).mpr ⟨by omega, by omega⟩, ?_⟩⟩
    rw [iI_clamp (by omega) (by omega), Int.toNat_natCast, TI_tp hTI (Nat.le_refl m)]
    rintro y3 rfl y5 rfl
    have htp := tp_le m (fun j hj => (hTI.2 j hj).1)
    rw [show (1 : Int32) = iI 1 from iI_lit 1, mn_if (by omega) (by omega)]
    exact h
/-- the class: the letters from one on at a word, and all that follows -/
theorem s4_count {post : Int32 → (Nat → Int32) → (Nat → Int32) → (Nat → Int64) → (Nat → Int64) → (Nat → Int64) → Int32 → Prop} {K N e n : Nat} {nm : Bool} {V : Nat → Int} {wt : Nat → Int64} (hK : K ≤ 3) (hN : 2 ≤ N ∧ N ≤ 4) (he : 2 ≤ e ∧ e ≤ 4) (hn : n ≤ 8) (hV : ∀ x, x < 4 → -9 ≤ V x ∧ V x ≤ 9) (hw : ∀ x, x < 4 → wt x = lI (wK K V x)) :
    ∀ (r : Nat) (f : Nat → Nat) (m : Nat), m + (r + 1) = n → (∀ j, j < m → f j < N) → ∀ (k x : Nat), x + k = chs N nm f m → ∃ w, w ≤ k * (1 + DD r) ∧ ∀ (c t q : Nat), t + w ≤ 900000 → (∀ L' T' S' A' B', TI K (wK K V) f m L' T' S' A' B' → VX4_countWords_15 post wt (iI K) (iI e) (iI n) (iI N) (iI (if nm = true then 1 else 0)) q L' T' S' A' B' (iI m) (iI ((c + smN (cg (shp K N V e) (chs N nm) (fun _ _ => 1) r f m) x k : Nat) : Int)) (iI ((chs N nm f m : Nat) : Int)) (iI ((t + w : Nat) : Int))) →
      ∀ (L T : Nat → Int32) (S A B : Nat → Int64), TI K (wK K V) f m L T S A B → VX4_countWords_15 post wt (iI K) (iI e) (iI n) (iI N) (iI (if nm = true then 1 else 0)) (q + w) L T S A B (iI m) (iI c) (iI x) (iI t) := by
  intro r
  induction r with
  | zero =>
    intro f m hm hf k
    induction k with
    | zero =>
      intro x hx
      refine ⟨0, Nat.zero_le _, fun c t q ht h L T S A B hTI => ?_⟩
      have := h L T S A B hTI
      rw [← hx] at this
      exact this
    | succ k ihk =>
      intro x hx
      have hle := chs_le (N := N) (nm := nm) (f := f) (m := m)
      obtain ⟨w1, hw1, hk⟩ := ihk (x + 1) (by omega)
      have hmul : (k + 1) * (1 + DD 0) = k * (1 + DD 0) + (1 + DD 0) := Nat.succ_mul k (1 + DD 0)
      refine ⟨w1 + 1, by omega, fun c t q ht h L T S A B hTI => ?_⟩
      rw [show q + (w1 + 1) = q + w1 + 1 by omega]
      refine s4_turn hN (by omega) (by omega) hTI ?_
      have h6 := va_lt (x := x) (show x < N by omega) hf
      simp (disch := omega) only [VX4_countWords_45, iI_lit, lI_lit, iI_nI, iI_add, iI_sub, iI_mul, iI_neg, c_lt_t, c_lt_f, c_le_t, c_le_f, c_eq_t, c_eq_f, c_in_t, iI_clamp, Int.toNat_natCast, forall_eq, true_and, and_true, false_and, and_false, not_true_eq_false, not_false_eq_true, true_implies, false_implies, implies_true, forall_const, true_or, or_true, false_or, or_false, pk_us, vu_s, vL_s, vb_0, vb_1, if_true, if_false, ite_true, ite_false]
      refine s8_pushx hK (by omega) (show x < 4 by omega) hw hTI (fun L' T' S' A' B' hLn hTI' => ?_)
      refine s8_shortest (f := va_up f m x) (V := V) hK hN he hV (by omega) h6 hTI' ?_
      have hle2 := shp_le (K := K) (N := N) (V := V) (f := va_up f m x) (n := m + 1) he.1
      have hmn : ((m + 1 : Nat) : Int) = (n : Int) := by omega
      by_cases c4 : shp K N V e (va_up f m x) (m + 1) = 0
      · rw [c4]
        simp (disch := omega) only [VX4_countWords_93, VX4_countWords_126, iI_lit, lI_lit, iI_nI, iI_add, iI_sub, iI_mul, iI_neg, c_lt_t, c_lt_f, c_le_t, c_le_f, c_eq_t, c_eq_f, c_in_t, iI_clamp, Int.toNat_natCast, forall_eq, true_and, and_true, false_and, and_false, not_true_eq_false, not_false_eq_true, true_implies, false_implies, implies_true, forall_const, true_or, or_true, false_or, or_false, pk_us, vu_s, vL_s, vb_0, vb_1, if_true, if_false, ite_true, ite_false]
        refine s8_pop (by omega) hLn ?_
        simp (disch := omega) only [iI_lit, lI_lit, iI_nI, iI_add, iI_sub, iI_mul, iI_neg, c_lt_t, c_lt_f, c_le_t, c_le_f, c_eq_t, c_eq_f, c_in_t, iI_clamp, Int.toNat_natCast, forall_eq, true_and, and_true, false_and, and_false, not_true_eq_false, not_false_eq_true, true_implies, false_implies, implies_true, forall_const, true_or, or_true, false_or, or_false, pk_us, vu_s, vL_s, vb_0, vb_1, if_true, if_false, ite_true, ite_false]
        have q1 := hk (c + 1) (t + 1) q (by omega) (fun L' T' S' A' B' hT2 => by
          have := h L' T' S' A' B' hT2
          rw [smN, cg, if_pos c4] at this
          simp only [cw] at this
          rwa [show c + 1 + smN (cg (shp K N V e) (chs N nm) (fun _ _ => 1) 0 f m) (x + 1) k = c + (1 + smN (cg (shp K N V e) (chs N nm) (fun _ _ => 1) 0 f m) (x + 1) k) by omega, show t + 1 + w1 = t + (w1 + 1) by omega]) _ _ _ _ _ (TI_off hTI')
        rwa [show ((c + 1 : Nat) : Int) = (c : Int) + 1 by omega, show ((x + 1 : Nat) : Int) = (x : Int) + 1 by omega, show ((t + 1 : Nat) : Int) = (t : Int) + 1 by omega] at q1
      · simp (disch := omega) only [VX4_countWords_93, VX4_countWords_126, iI_lit, lI_lit, iI_nI, iI_add, iI_sub, iI_mul, iI_neg, c_lt_t, c_lt_f, c_le_t, c_le_f, c_eq_t, c_eq_f, c_in_t, iI_clamp, Int.toNat_natCast, forall_eq, true_and, and_true, false_and, and_false, not_true_eq_false, not_false_eq_true, true_implies, false_implies, implies_true, forall_const, true_or, or_true, false_or, or_false, pk_us, vu_s, vL_s, vb_0, vb_1, if_true, if_false, ite_true, ite_false]
        refine s8_pop (by omega) hLn ?_
        simp (disch := omega) only [iI_lit, lI_lit, iI_nI, iI_add, iI_sub, iI_mul, iI_neg, c_lt_t, c_lt_f, c_le_t, c_le_f, c_eq_t, c_eq_f, c_in_t, iI_clamp, Int.toNat_natCast, forall_eq, true_and, and_true, false_and, and_false, not_true_eq_false, not_false_eq_true, true_implies, false_implies, implies_true, forall_const, true_or, or_true, false_or, or_false, pk_us, vu_s, vL_s, vb_0, vb_1, if_true, if_false, ite_true, ite_false]
        have q1 := hk c (t + 1) q (by omega) (fun L' T' S' A' B' hT2 => by
          have := h L' T' S' A' B' hT2
          rw [smN, cg, if_neg c4, Nat.zero_add] at this
          rwa [show t + 1 + w1 = t + (w1 + 1) by omega]) _ _ _ _ _ (TI_off hTI')
        rwa [show ((x + 1 : Nat) : Int) = (x : Int) + 1 by omega, show ((t + 1 : Nat) : Int) = (t : Int) + 1 by omega, show (c : Int) = (c : Int) + 0 by omega] at q1
  | succ r ihr =>
    intro f m hm hf k
    induction k with
    | zero =>
      intro x hx
      refine ⟨0, Nat.zero_le _, fun c t q ht h L T S A B hTI => ?_⟩
      have := h L T S A B hTI
      rw [← hx] at this
      exact this
    | succ k ihk =>
      intro x hx
      have hle := chs_le (N := N) (nm := nm) (f := f) (m := m)
      obtain ⟨w1, hw1, hk⟩ := ihk (x + 1) (by omega)
      have hmul : (k + 1) * (1 + DD (r + 1)) = k * (1 + DD (r + 1)) + (1 + DD (r + 1)) := Nat.succ_mul k (1 + DD (r + 1))
      have h6 := va_lt (x := x) (show x < N by omega) hf
      have hle2 := shp_le (K := K) (N := N) (V := V) (f := va_up f m x) (n := m + 1) he.1
      by_cases c4 : shp K N V e (va_up f m x) (m + 1) = 0
      · obtain ⟨w2, hw2, hk2⟩ := ihr (va_up f m x) (m + 1) (by omega) h6 (chs N nm (va_up f m x) (m + 1)) 0 (by omega)
        have hle3 := chs_le (N := N) (nm := nm) (f := va_up f m x) (m := m + 1)
        have hmul2 : chs N nm (va_up f m x) (m + 1) * (1 + DD r) ≤ 4 * (1 + DD r) := Nat.mul_le_mul_right _ (by omega)
        have hdd : DD (r + 1) = 4 * (1 + DD r) + 1 := rfl
        refine ⟨w1 + 1 + w2 + 1, by omega, fun c t q ht h L T S A B hTI => ?_⟩
        rw [show q + (w1 + 1 + w2 + 1) = q + w1 + 1 + w2 + 1 by omega]
        refine s4_turn hN (by omega) (by omega) hTI ?_
        simp (disch := omega) only [VX4_countWords_45, iI_lit, lI_lit, iI_nI, iI_add, iI_sub, iI_mul, iI_neg, c_lt_t, c_lt_f, c_le_t, c_le_f, c_eq_t, c_eq_f, c_in_t, iI_clamp, Int.toNat_natCast, forall_eq, true_and, and_true, false_and, and_false, not_true_eq_false, not_false_eq_true, true_implies, false_implies, implies_true, forall_const, true_or, or_true, false_or, or_false, pk_us, vu_s, vL_s, vb_0, vb_1, if_true, if_false, ite_true, ite_false]
        refine s8_pushx hK (by omega) (show x < 4 by omega) hw hTI (fun L' T' S' A' B' hLn hTI' => ?_)
        refine s8_shortest (f := va_up f m x) (V := V) hK hN he hV (by omega) h6 hTI' ?_
        rw [c4]
        simp (disch := omega) only [VX4_countWords_93, VX4_countWords_126, iI_lit, lI_lit, iI_nI, iI_add, iI_sub, iI_mul, iI_neg, c_lt_t, c_lt_f, c_le_t, c_le_f, c_eq_t, c_eq_f, c_in_t, iI_clamp, Int.toNat_natCast, forall_eq, true_and, and_true, false_and, and_false, not_true_eq_false, not_false_eq_true, true_implies, false_implies, implies_true, forall_const, true_or, or_true, false_or, or_false, pk_us, vu_s, vL_s, vb_0, vb_1, if_true, if_false, ite_true, ite_false]
        have q1 := hk2 c (t + 1) (q + w1 + 1) (by omega) (fun L2 T2 S2 A2 B2 hT2 => by
          refine s4_turn hN (by omega) (by omega) hT2 ?_
          simp (disch := omega) only [VX4_countWords_45, iI_lit, lI_lit, iI_nI, iI_add, iI_sub, iI_mul, iI_neg, c_lt_t, c_lt_f, c_le_t, c_le_f, c_eq_t, c_eq_f, c_in_t, iI_clamp, Int.toNat_natCast, forall_eq, true_and, and_true, false_and, and_false, not_true_eq_false, not_false_eq_true, true_implies, false_implies, implies_true, forall_const, true_or, or_true, false_or, or_false, pk_us, vu_s, vL_s, vb_0, vb_1, if_true, if_false, ite_true, ite_false]
          refine s8_pop (z := x) (by omega) (by have := (hT2.2 m (by omega)).2.1; rwa [vu_s] at this) ?_
          simp (disch := omega) only [iI_lit, lI_lit, iI_nI, iI_add, iI_sub, iI_mul, iI_neg, c_lt_t, c_lt_f, c_le_t, c_le_f, c_eq_t, c_eq_f, c_in_t, iI_clamp, Int.toNat_natCast, forall_eq, true_and, and_true, false_and, and_false, not_true_eq_false, not_false_eq_true, true_implies, false_implies, implies_true, forall_const, true_or, or_true, false_or, or_false, pk_us, vu_s, vL_s, vb_0, vb_1, if_true, if_false, ite_true, ite_false]
          have q2 := hk (c + cw (shp K N V e) (chs N nm) (fun _ _ => 1) (r + 1) (va_up f m x) (m + 1)) (t + 1 + w2 + 1) q (by omega) (fun L' T' S' A' B' hT2 => by
            have := h L' T' S' A' B' hT2
            rw [smN, cg, if_pos c4] at this
            rwa [Nat.add_assoc c, show t + 1 + w2 + 1 + w1 = t + (w1 + 1 + w2 + 1) by omega]) _ _ _ _ _ (TI_off hT2)
          rwa [cw_s, show ((x + 1 : Nat) : Int) = (x : Int) + 1 by omega, show ((t + 1 + w2 + 1 : Nat) : Int) = ((t + 1 + w2 : Nat) : Int) + 1 by omega] at q2) _ _ _ _ _ hTI'
        rwa [show ((t + 1 : Nat) : Int) = (t : Int) + 1 by omega] at q1
      · refine ⟨w1 + 1, by omega, fun c t q ht h L T S A B hTI => ?_⟩
        rw [show q + (w1 + 1) = q + w1 + 1 by omega]
        refine s4_turn hN (by omega) (by omega) hTI ?_
        simp (disch := omega) only [VX4_countWords_45, iI_lit, lI_lit, iI_nI, iI_add, iI_sub, iI_mul, iI_neg, c_lt_t, c_lt_f, c_le_t, c_le_f, c_eq_t, c_eq_f, c_in_t, iI_clamp, Int.toNat_natCast, forall_eq, true_and, and_true, false_and, and_false, not_true_eq_false, not_false_eq_true, true_implies, false_implies, implies_true, forall_const, true_or, or_true, false_or, or_false, pk_us, vu_s, vL_s, vb_0, vb_1, if_true, if_false, ite_true, ite_false]
        refine s8_pushx hK (by omega) (show x < 4 by omega) hw hTI (fun L' T' S' A' B' hLn hTI' => ?_)
        refine s8_shortest (f := va_up f m x) (V := V) hK hN he hV (by omega) h6 hTI' ?_
        simp (disch := omega) only [VX4_countWords_93, VX4_countWords_126, iI_lit, lI_lit, iI_nI, iI_add, iI_sub, iI_mul, iI_neg, c_lt_t, c_lt_f, c_le_t, c_le_f, c_eq_t, c_eq_f, c_in_t, iI_clamp, Int.toNat_natCast, forall_eq, true_and, and_true, false_and, and_false, not_true_eq_false, not_false_eq_true, true_implies, false_implies, implies_true, forall_const, true_or, or_true, false_or, or_false, pk_us, vu_s, vL_s, vb_0, vb_1, if_true, if_false, ite_true, ite_false]
        refine s8_pop (by omega) hLn ?_
        simp (disch := omega) only [iI_lit, lI_lit, iI_nI, iI_add, iI_sub, iI_mul, iI_neg, c_lt_t, c_lt_f, c_le_t, c_le_f, c_eq_t, c_eq_f, c_in_t, iI_clamp, Int.toNat_natCast, forall_eq, true_and, and_true, false_and, and_false, not_true_eq_false, not_false_eq_true, true_implies, false_implies, implies_true, forall_const, true_or, or_true, false_or, or_false, pk_us, vu_s, vL_s, vb_0, vb_1, if_true, if_false, ite_true, ite_false]
        have q1 := hk c (t + 1) q (by omega) (fun L' T' S' A' B' hT2 => by
          have := h L' T' S' A' B' hT2
          rw [smN, cg, if_neg c4, Nat.zero_add] at this
          rwa [show t + 1 + w1 = t + (w1 + 1) by omega]) _ _ _ _ _ (TI_off hTI')
        rwa [show ((x + 1 : Nat) : Int) = (x : Int) + 1 by omega, show ((t + 1 : Nat) : Int) = (t : Int) + 1 by omega, show (c : Int) = (c : Int) + 0 by omega] at q1
