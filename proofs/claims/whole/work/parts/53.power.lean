/-! POWERS -/
def pwr (K N : Nat) (V : Nat → Int) (e : Nat) (f : Nat → Nat) (n s : Nat) : Bool := decide (∀ t, t < e → 1 ≤ t → alk K N V f (n - e * s) (n - e * s + t * s) s = true)
def sfr (P : Nat → Bool) (e n : Nat) : Nat → Nat → Nat
  | 0, _ => 0
  | q + 1, s => if n < e * s then 0 else if P s = true then s else sfr P e n q (s + 1)
def pct (P : Nat → Bool) (e n : Nat) : Nat → Nat → Nat
  | 0, _ => 0
  | q + 1, s => if n < e * s then 0 else (if P s = true then 1 else 0) + pct P e n q (s + 1)
def shp (K N : Nat) (V : Nat → Int) (e : Nat) (f : Nat → Nat) (n : Nat) : Nat := sfr (pwr K N V e f n) e n (n + 1) 1
def pwc (K N : Nat) (V : Nat → Int) (e : Nat) (f : Nat → Nat) (n : Nat) : Nat := pct (pwr K N V e f n) e n (n + 1) 1
theorem cn_cg {f g : Nat → Nat} {x a : Nat} : ∀ s, (∀ j, j < s → f (a + j) = g (a + j)) → cn f x a s = cn g x a s
  | 0, _ => rfl
  | s + 1, h => by simp only [cn]; rw [cn_cg s (fun j hj => h j (by omega)), h s (by omega)]
theorem vs_cg {V : Nat → Int} {f g : Nat → Nat} {a : Nat} : ∀ s, (∀ j, j < s → f (a + j) = g (a + j)) → vs V f a s = vs V g a s
  | 0, _ => rfl
  | s + 1, h => by simp only [vs]; rw [vs_cg s (fun j hj => h j (by omega)), h s (by omega)]
theorem cnp_cg {f g : Nat → Nat} {x y a : Nat} : ∀ s, (∀ j, j < s + 1 → f (a + j) = g (a + j)) → cnp f x y a s = cnp g x y a s
  | 0, _ => rfl
  | s + 1, h => by
    have h2 := h (s + 1) (by omega)
    rw [← Nat.add_assoc] at h2
    simp only [cnp]
    rw [cnp_cg s (fun j hj => h j (by omega)), h s (by omega), h2]
theorem alk_cg {K N : Nat} {V : Nat → Int} {f g : Nat → Nat} {a b s : Nat} (ha : ∀ j, j < s → f (a + j) = g (a + j)) (hb : ∀ j, j < s → f (b + j) = g (b + j)) : alk K N V f a b s = alk K N V g a b s := by
  unfold alk
  have e1 : (∀ j, j < s → f (a + j) = f (b + j)) ↔ (∀ j, j < s → g (a + j) = g (b + j)) := ⟨fun h j hj => by rw [← ha j hj, ← hb j hj]; exact h j hj, fun h j hj => by rw [ha j hj, hb j hj]; exact h j hj⟩
  have e2 : ∀ x, cn f x a s = cn g x a s := fun x => cn_cg s ha
  have e3 : ∀ x, cn f x b s = cn g x b s := fun x => cn_cg s hb
  have e6 : (0 < s → f a = f b) ↔ (0 < s → g a = g b) := by
    constructor
    · intro h p
      have h1 := ha 0 p
      have h2 := hb 0 p
      simp only [Nat.add_zero] at h1 h2
      rw [← h1, ← h2]
      exact h p
    · intro h p
      have h1 := ha 0 p
      have h2 := hb 0 p
      simp only [Nat.add_zero] at h1 h2
      rw [h1, h2]
      exact h p
  have e4 : ∀ x y, cnp f x y a (s - 1) = cnp g x y a (s - 1) ∧ cnp f x y b (s - 1) = cnp g x y b (s - 1) := by
    intro x y
    by_cases c : s = 0
    · subst c
      exact ⟨rfl, rfl⟩
    · exact ⟨cnp_cg _ (fun j hj => ha j (by omega)), cnp_cg _ (fun j hj => hb j (by omega))⟩
  rw [vs_cg (V := V) s ha, vs_cg (V := V) s hb]
  simp only [e1, e2, e3, e6, (e4 _ _).1, (e4 _ _).2]
theorem pwr_cg {K N : Nat} {V : Nat → Int} {e : Nat} {f g : Nat → Nat} {n s : Nat} (hs : e * s ≤ n) (h : ∀ j, j < n → f j = g j) : pwr K N V e f n s = pwr K N V e g n s := by
  unfold pwr
  have : ∀ t, t < e → alk K N V f (n - e * s) (n - e * s + t * s) s = alk K N V g (n - e * s) (n - e * s + t * s) s := by
    intro t ht
    have h1 : (t + 1) * s ≤ e * s := Nat.mul_le_mul_right s ht
    have h2 : 1 * s ≤ e * s := Nat.mul_le_mul_right s (by omega)
    rw [Nat.add_mul] at h1
    rw [Nat.one_mul] at h1 h2
    exact alk_cg (fun j hj => h _ (by omega)) (fun j hj => h _ (by omega))
  have e2 : (∀ t, t < e → 1 ≤ t → alk K N V f (n - e * s) (n - e * s + t * s) s = true) ↔ (∀ t, t < e → 1 ≤ t → alk K N V g (n - e * s) (n - e * s + t * s) s = true) := ⟨fun q t ht h1 => by rw [← this t ht]; exact q t ht h1, fun q t ht h1 => by rw [this t ht]; exact q t ht h1⟩
  simp only [e2]
theorem shp_cg {K N : Nat} {V : Nat → Int} {e : Nat} {f g : Nat → Nat} {n : Nat} (h : ∀ j, j < n → f j = g j) : shp K N V e f n = shp K N V e g n := by
  unfold shp
  have : ∀ q s, sfr (pwr K N V e f n) e n q s = sfr (pwr K N V e g n) e n q s := by
    intro q
    induction q with
    | zero => intro s; rfl
    | succ q ih =>
      intro s
      simp only [sfr]
      by_cases c : n < e * s
      · rw [if_pos c, if_pos c]
      · rw [if_neg c, if_neg c, pwr_cg (by omega) h, ih]
  exact this _ _
theorem sfr_le {P : Nat → Bool} {e n : Nat} (he : 1 ≤ e) : ∀ q s, sfr P e n q s ≤ n ∧ e * sfr P e n q s ≤ n
  | 0, s => by simp only [sfr]; omega
  | q + 1, s => by
    simp only [sfr]
    by_cases c : n < e * s
    · rw [if_pos c]; omega
    · rw [if_neg c]
      by_cases d : P s = true
      · rw [if_pos d]
        have : 1 * s ≤ e * s := Nat.mul_le_mul_right s he
        omega
      · rw [if_neg d]
        exact sfr_le he q (s + 1)
/-- the class: whether blocks at the end are a power -/
theorem s8_isPower {post : Int32 → Prop} {K N : Nat} {V : Nat → Int} {e : Nat} {f : Nat → Nat} {n s : Nat} {L T : Nat → Int32} {S A B : Nat → Int64} (hK : K ≤ 3) (hN : 2 ≤ N ∧ N ≤ 4) (he : 2 ≤ e ∧ e ≤ 4) (hV : ∀ x, x < 4 → -9 ≤ V x ∧ V x ≤ 9) (hn : n ≤ 41) (hf : ∀ j, j < n → f j < N) (h : TI K (wK K V) f n L T S A B) (hs : e * s ≤ n)
    (h1 : pwr K N V e f n s = true → post (iI 1)) (h0 : pwr K N V e f n s = false → post (iI 0)) : VX8_isPowerAtEnd post L S A B (iI n) (iI K) (iI e) (iI s) := by
  have ee : (e : Int) * (s : Int) = ((e * s : Nat) : Int) := by rw [Int.natCast_mul]
  have h2s : 2 * s ≤ e * s := Nat.mul_le_mul_right s he.1
  have key : ∀ (q t : Nat) (x2 x3 : Int32), t + q = e → 1 ≤ t → x2 = iI ((n - e * s : Nat) : Int) → x3 = iI t → (∀ u, u < t → 1 ≤ u → alk K N V f (n - e * s) (n - e * s + u * s) s = true) → VX8_isPowerAtEnd_14 post L S A B (iI n) (iI K) (iI e) (iI s) (q + 1) x2 x3 := by
    intro q
    induction q with
    | zero =>
      intro t x2 x3 ht h1t e2 e3 hp
      have : t = e := by omega
      subst this e2 e3
      rw [VX8_isPowerAtEnd_14]
      simp (disch := omega) only [iI_lit, lI_lit, iI_nI, iI_add, iI_sub, iI_mul, iI_neg, c_lt_t, c_lt_f, c_le_t, c_le_f, c_eq_t, c_eq_f, c_in_t, iI_clamp, Int.toNat_natCast, forall_eq, true_and, and_true, false_and, and_false, not_true_eq_false, not_false_eq_true, true_implies, false_implies, implies_true, forall_const, true_or, or_true, false_or, or_false, pk_us, vu_s, vL_s, vb_0, vb_1, if_true, if_false, ite_true, ite_false]
      exact h1 (decide_eq_true hp)
    | succ q ih =>
      intro t x2 x3 ht h1t e2 e3 hp
      subst e2 e3
      have et : (t : Int) * (s : Int) = ((t * s : Nat) : Int) := by rw [Int.natCast_mul]
      have hts : (t + 1) * s ≤ e * s := Nat.mul_le_mul_right s (by omega)
      rw [Nat.add_mul, Nat.one_mul] at hts
      have ex : ((n - e * s : Nat) : Int) + ((t * s : Nat) : Int) = ((n - e * s + t * s : Nat) : Int) := by omega
      rw [VX8_isPowerAtEnd_14]
      simp (disch := omega) only [et, ex, iI_lit, lI_lit, iI_nI, iI_add, iI_sub, iI_mul, iI_neg, c_lt_t, c_lt_f, c_le_t, c_le_f, c_eq_t, c_eq_f, c_in_t, iI_clamp, Int.toNat_natCast, forall_eq, true_and, and_true, false_and, and_false, not_true_eq_false, not_false_eq_true, true_implies, false_implies, implies_true, forall_const, true_or, or_true, false_or, or_false, pk_us, vu_s, vL_s, vb_0, vb_1, if_true, if_false, ite_true, ite_false]
      refine s8_same (f := f) hK hN hV hn hf h (by omega) (by omega) (fun q1 => ?_) (fun q1 => ?_)
      · simp (disch := omega) only [iI_lit, lI_lit, iI_nI, iI_add, iI_sub, iI_mul, iI_neg, c_lt_t, c_lt_f, c_le_t, c_le_f, c_eq_t, c_eq_f, c_in_t, iI_clamp, Int.toNat_natCast, forall_eq, true_and, and_true, false_and, and_false, not_true_eq_false, not_false_eq_true, true_implies, false_implies, implies_true, forall_const, true_or, or_true, false_or, or_false, pk_us, vu_s, vL_s, vb_0, vb_1, if_true, if_false, ite_true, ite_false]
        refine ih (t + 1) _ _ (by omega) (by omega) rfl (congrArg iI (by omega)) (fun u hu hu1 => ?_)
        by_cases c : u = t
        · subst c
          exact q1
        · exact hp u (by omega) hu1
      · simp (disch := omega) only [iI_lit, lI_lit, iI_nI, iI_add, iI_sub, iI_mul, iI_neg, c_lt_t, c_lt_f, c_le_t, c_le_f, c_eq_t, c_eq_f, c_in_t, iI_clamp, Int.toNat_natCast, forall_eq, true_and, and_true, false_and, and_false, not_true_eq_false, not_false_eq_true, true_implies, false_implies, implies_true, forall_const, true_or, or_true, false_or, or_false, pk_us, vu_s, vL_s, vb_0, vb_1, if_true, if_false, ite_true, ite_false]
        refine h0 (decide_eq_false (fun hh => ?_))
        rw [hh t (by omega) h1t] at q1
        exact absurd q1 (by decide)
  unfold VX8_isPowerAtEnd
  refine ⟨e - 1 + 1, key (e - 1) 1 _ _ (by omega) (by omega) ?_ rfl (fun u h1 h2 => absurd h1 (by omega))⟩
  rw [iI_mul, iI_sub, ee]
  exact congrArg iI (by omega)
theorem s8_shortest {post : Int32 → Prop} {K N : Nat} {V : Nat → Int} {e : Nat} {f : Nat → Nat} {n : Nat} {L T : Nat → Int32} {S A B : Nat → Int64} (hK : K ≤ 3) (hN : 2 ≤ N ∧ N ≤ 4) (he : 2 ≤ e ∧ e ≤ 4) (hV : ∀ x, x < 4 → -9 ≤ V x ∧ V x ≤ 9) (hn : n ≤ 41) (hf : ∀ j, j < n → f j < N) (h : TI K (wK K V) f n L T S A B)
    (hp : post (iI (shp K N V e f n))) : VX8_shortestPowerAtEnd post L S A B (iI n) (iI K) (iI e) := by
  have key : ∀ (q s : Nat) (x1 : Int32), n < s + q → s ≤ n + 1 → x1 = iI s → post (iI (sfr (pwr K N V e f n) e n (q + 1) s)) → VX8_shortestPowerAtEnd_2 post L S A B (iI n) (iI K) (iI e) (q + 1) x1 := by
    intro q
    induction q with
    | zero =>
      intro s x1 hs hs2 ex hpp
      subst ex
      have ee : (s : Int) * (e : Int) = ((e * s : Nat) : Int) := by rw [Int.natCast_mul, Int.mul_comm]
      have h2s : 2 * s ≤ e * s := Nat.mul_le_mul_right s he.1
      have h4s : e * s ≤ 4 * s := Nat.mul_le_mul_right s he.2
      simp only [sfr, if_pos (show n < e * s by omega)] at hpp
      rw [VX8_shortestPowerAtEnd_2]
      simp (disch := omega) only [ee, iI_lit, lI_lit, iI_nI, iI_add, iI_sub, iI_mul, iI_neg, c_lt_t, c_lt_f, c_le_t, c_le_f, c_eq_t, c_eq_f, c_in_t, iI_clamp, Int.toNat_natCast, forall_eq, true_and, and_true, false_and, and_false, not_true_eq_false, not_false_eq_true, true_implies, false_implies, implies_true, forall_const, true_or, or_true, false_or, or_false, pk_us, vu_s, vL_s, vb_0, vb_1, if_true, if_false, ite_true, ite_false]
      exact hpp
    | succ q ih =>
      intro s x1 hs hs2 ex hpp
      subst ex
      have ee : (s : Int) * (e : Int) = ((e * s : Nat) : Int) := by rw [Int.natCast_mul, Int.mul_comm]
      have h2s : 2 * s ≤ e * s := Nat.mul_le_mul_right s he.1
      have h4s : e * s ≤ 4 * s := Nat.mul_le_mul_right s he.2
      rw [VX8_shortestPowerAtEnd_2]
      rw [sfr] at hpp
      by_cases c : n < e * s
      · rw [if_pos c] at hpp
        by_cases c2 : n < s
        · simp (disch := omega) only [ee, iI_lit, lI_lit, iI_nI, iI_add, iI_sub, iI_mul, iI_neg, c_lt_t, c_lt_f, c_le_t, c_le_f, c_eq_t, c_eq_f, c_in_t, iI_clamp, Int.toNat_natCast, forall_eq, true_and, and_true, false_and, and_false, not_true_eq_false, not_false_eq_true, true_implies, false_implies, implies_true, forall_const, true_or, or_true, false_or, or_false, pk_us, vu_s, vL_s, vb_0, vb_1, if_true, if_false, ite_true, ite_false]
          exact hpp
        · simp (disch := omega) only [ee, iI_lit, lI_lit, iI_nI, iI_add, iI_sub, iI_mul, iI_neg, c_lt_t, c_lt_f, c_le_t, c_le_f, c_eq_t, c_eq_f, c_in_t, iI_clamp, Int.toNat_natCast, forall_eq, true_and, and_true, false_and, and_false, not_true_eq_false, not_false_eq_true, true_implies, false_implies, implies_true, forall_const, true_or, or_true, false_or, or_false, pk_us, vu_s, vL_s, vb_0, vb_1, if_true, if_false, ite_true, ite_false]
          exact hpp
      · rw [if_neg c] at hpp
        simp (disch := omega) only [ee, iI_lit, lI_lit, iI_nI, iI_add, iI_sub, iI_mul, iI_neg, c_lt_t, c_lt_f, c_le_t, c_le_f, c_eq_t, c_eq_f, c_in_t, iI_clamp, Int.toNat_natCast, forall_eq, true_and, and_true, false_and, and_false, not_true_eq_false, not_false_eq_true, true_implies, false_implies, implies_true, forall_const, true_or, or_true, false_or, or_false, pk_us, vu_s, vL_s, vb_0, vb_1, if_true, if_false, ite_true, ite_false]
        refine s8_isPower (f := f) hK hN he hV hn hf h (by omega) (fun q1 => ?_) (fun q1 => ?_)
        · rw [if_pos q1] at hpp
          simp (disch := omega) only [iI_lit, lI_lit, iI_nI, iI_add, iI_sub, iI_mul, iI_neg, c_lt_t, c_lt_f, c_le_t, c_le_f, c_eq_t, c_eq_f, c_in_t, iI_clamp, Int.toNat_natCast, forall_eq, true_and, and_true, false_and, and_false, not_true_eq_false, not_false_eq_true, true_implies, false_implies, implies_true, forall_const, true_or, or_true, false_or, or_false, pk_us, vu_s, vL_s, vb_0, vb_1, if_true, if_false, ite_true, ite_false]
          exact hpp
        · rw [if_neg (by rw [q1]; decide)] at hpp
          simp (disch := omega) only [iI_lit, lI_lit, iI_nI, iI_add, iI_sub, iI_mul, iI_neg, c_lt_t, c_lt_f, c_le_t, c_le_f, c_eq_t, c_eq_f, c_in_t, iI_clamp, Int.toNat_natCast, forall_eq, true_and, and_true, false_and, and_false, not_true_eq_false, not_false_eq_true, true_implies, false_implies, implies_true, forall_const, true_or, or_true, false_or, or_false, pk_us, vu_s, vL_s, vb_0, vb_1, if_true, if_false, ite_true, ite_false]
          exact ih (s + 1) _ (by omega) (by omega) (congrArg iI (by omega)) hpp
  exact ⟨n + 1, key n 1 _ (by omega) (by omega) rfl hp⟩
theorem s8_powers {post : Int32 → Prop} {K N : Nat} {V : Nat → Int} {e : Nat} {f : Nat → Nat} {n : Nat} {L T : Nat → Int32} {S A B : Nat → Int64} (hK : K ≤ 3) (hN : 2 ≤ N ∧ N ≤ 4) (he : 2 ≤ e ∧ e ≤ 4) (hV : ∀ x, x < 4 → -9 ≤ V x ∧ V x ≤ 9) (hn : n ≤ 41) (hf : ∀ j, j < n → f j < N) (h : TI K (wK K V) f n L T S A B)
    (hp : post (iI (pwc K N V e f n))) : VX8_powersAtEnd post L S A B (iI n) (iI K) (iI e) := by
  have key : ∀ (q s c0 : Nat) (x1 x2 : Int32), n < s + q → s ≤ n + 1 → x2 = iI s → x1 = iI c0 → post (iI ((c0 : Int) + (pct (pwr K N V e f n) e n (q + 1) s : Nat))) → VX8_powersAtEnd_4 post L S A B (iI n) (iI K) (iI e) (q + 1) x1 x2 := by
    intro q
    induction q with
    | zero =>
      intro s c0 x1 x2 hs hs2 ex e1 hpp
      subst ex e1
      have ee : (s : Int) * (e : Int) = ((e * s : Nat) : Int) := by rw [Int.natCast_mul, Int.mul_comm]
      have h2s : 2 * s ≤ e * s := Nat.mul_le_mul_right s he.1
      have h4s : e * s ≤ 4 * s := Nat.mul_le_mul_right s he.2
      simp only [pct, if_pos (show n < e * s by omega)] at hpp
      rw [VX8_powersAtEnd_4]
      simp (disch := omega) only [ee, iI_lit, lI_lit, iI_nI, iI_add, iI_sub, iI_mul, iI_neg, c_lt_t, c_lt_f, c_le_t, c_le_f, c_eq_t, c_eq_f, c_in_t, iI_clamp, Int.toNat_natCast, forall_eq, true_and, and_true, false_and, and_false, not_true_eq_false, not_false_eq_true, true_implies, false_implies, implies_true, forall_const, true_or, or_true, false_or, or_false, pk_us, vu_s, vL_s, vb_0, vb_1, if_true, if_false, ite_true, ite_false]
      simpa using hpp
    | succ q ih =>
      intro s c0 x1 x2 hs hs2 ex e1 hpp
      subst ex e1
      have ee : (s : Int) * (e : Int) = ((e * s : Nat) : Int) := by rw [Int.natCast_mul, Int.mul_comm]
      have h2s : 2 * s ≤ e * s := Nat.mul_le_mul_right s he.1
      have h4s : e * s ≤ 4 * s := Nat.mul_le_mul_right s he.2
      rw [VX8_powersAtEnd_4]
      rw [pct] at hpp
      by_cases c : n < e * s
      · rw [if_pos c] at hpp
        by_cases c2 : n < s
        · simp (disch := omega) only [ee, iI_lit, lI_lit, iI_nI, iI_add, iI_sub, iI_mul, iI_neg, c_lt_t, c_lt_f, c_le_t, c_le_f, c_eq_t, c_eq_f, c_in_t, iI_clamp, Int.toNat_natCast, forall_eq, true_and, and_true, false_and, and_false, not_true_eq_false, not_false_eq_true, true_implies, false_implies, implies_true, forall_const, true_or, or_true, false_or, or_false, pk_us, vu_s, vL_s, vb_0, vb_1, if_true, if_false, ite_true, ite_false]
          simpa using hpp
        · simp (disch := omega) only [ee, iI_lit, lI_lit, iI_nI, iI_add, iI_sub, iI_mul, iI_neg, c_lt_t, c_lt_f, c_le_t, c_le_f, c_eq_t, c_eq_f, c_in_t, iI_clamp, Int.toNat_natCast, forall_eq, true_and, and_true, false_and, and_false, not_true_eq_false, not_false_eq_true, true_implies, false_implies, implies_true, forall_const, true_or, or_true, false_or, or_false, pk_us, vu_s, vL_s, vb_0, vb_1, if_true, if_false, ite_true, ite_false]
          simpa using hpp
      · rw [if_neg c] at hpp
        simp (disch := omega) only [ee, iI_lit, lI_lit, iI_nI, iI_add, iI_sub, iI_mul, iI_neg, c_lt_t, c_lt_f, c_le_t, c_le_f, c_eq_t, c_eq_f, c_in_t, iI_clamp, Int.toNat_natCast, forall_eq, true_and, and_true, false_and, and_false, not_true_eq_false, not_false_eq_true, true_implies, false_implies, implies_true, forall_const, true_or, or_true, false_or, or_false, pk_us, vu_s, vL_s, vb_0, vb_1, if_true, if_false, ite_true, ite_false]
        refine s8_isPower (f := f) hK hN he hV hn hf h (by omega) (fun q1 => ?_) (fun q1 => ?_)
        · rw [if_pos q1] at hpp
          simp (disch := omega) only [iI_lit, lI_lit, iI_nI, iI_add, iI_sub, iI_mul, iI_neg, c_lt_t, c_lt_f, c_le_t, c_le_f, c_eq_t, c_eq_f, c_in_t, iI_clamp, Int.toNat_natCast, forall_eq, true_and, and_true, false_and, and_false, not_true_eq_false, not_false_eq_true, true_implies, false_implies, implies_true, forall_const, true_or, or_true, false_or, or_false, pk_us, vu_s, vL_s, vb_0, vb_1, if_true, if_false, ite_true, ite_false]
          refine ih (s + 1) (c0 + 1) _ _ (by omega) (by omega) (congrArg iI (by omega)) (congrArg iI (by omega)) ?_
          rwa [show ((c0 + 1 : Nat) : Int) + (pct (pwr K N V e f n) e n (q + 1) (s + 1) : Nat) = (c0 : Int) + ((1 + pct (pwr K N V e f n) e n (q + 1) (s + 1) : Nat) : Int) by omega]
        · rw [if_neg (by rw [q1]; decide), Nat.zero_add] at hpp
          simp (disch := omega) only [iI_lit, lI_lit, iI_nI, iI_add, iI_sub, iI_mul, iI_neg, c_lt_t, c_lt_f, c_le_t, c_le_f, c_eq_t, c_eq_f, c_in_t, iI_clamp, Int.toNat_natCast, forall_eq, true_and, and_true, false_and, and_false, not_true_eq_false, not_false_eq_true, true_implies, false_implies, implies_true, forall_const, true_or, or_true, false_or, or_false, pk_us, vu_s, vL_s, vb_0, vb_1, if_true, if_false, ite_true, ite_false]
          exact ih (s + 1) c0 _ _ (by omega) (by omega) (congrArg iI (by omega)) rfl hpp
  refine ⟨n + 1, key n 1 0 _ _ (by omega) (by omega) rfl rfl ?_⟩
  simpa [pwc] using hp
/-- the reference -/
theorem s11_isPower {post : Int32 → Prop} {row values : Nat → Int32} {K N : Nat} {V : Nat → Int} {e : Nat} {f : Nat → Nat} {n s : Nat} (hK : K ≤ 3) (hN : 2 ≤ N ∧ N ≤ 4) (he : 2 ≤ e ∧ e ≤ 4) (hV : ∀ x, x < 4 → (-9 ≤ V x ∧ V x ≤ 9) ∧ values x = iI (V x)) (hn : n ≤ 41) (hf : ∀ j, j < n → row j = iI (f j) ∧ f j < 4) (hs : e * s ≤ n)
    (h1 : pwr K N V e f n s = true → post (iI 1)) (h0 : pwr K N V e f n s = false → post (iI 0)) : VX11_isPower post (iI K) (iI e) (iI N) values row (iI n) (iI s) := by
  have ee : (e : Int) * (s : Int) = ((e * s : Nat) : Int) := by rw [Int.natCast_mul]
  have h2s : 2 * s ≤ e * s := Nat.mul_le_mul_right s he.1
  have key : ∀ (q t : Nat) (x2 x3 : Int32), t + q = e → 1 ≤ t → x2 = iI ((n - e * s : Nat) : Int) → x3 = iI t → (∀ u, u < t → 1 ≤ u → alk K N V f (n - e * s) (n - e * s + u * s) s = true) → VX11_isPower_18 post (iI K) (iI e) (iI N) values row (iI n) (iI s) (q + 1) x2 x3 := by
    intro q
    induction q with
    | zero =>
      intro t x2 x3 ht h1t e2 e3 hp
      have : t = e := by omega
      subst this e2 e3
      rw [VX11_isPower_18]
      simp (disch := omega) only [iI_lit, lI_lit, iI_nI, iI_add, iI_sub, iI_mul, iI_neg, c_lt_t, c_lt_f, c_le_t, c_le_f, c_eq_t, c_eq_f, c_in_t, iI_clamp, Int.toNat_natCast, forall_eq, true_and, and_true, false_and, and_false, not_true_eq_false, not_false_eq_true, true_implies, false_implies, implies_true, forall_const, true_or, or_true, false_or, or_false, pk_us, vu_s, vL_s, vb_0, vb_1, if_true, if_false, ite_true, ite_false]
      exact h1 (decide_eq_true hp)
    | succ q ih =>
      intro t x2 x3 ht h1t e2 e3 hp
      subst e2 e3
      have et : (t : Int) * (s : Int) = ((t * s : Nat) : Int) := by rw [Int.natCast_mul]
      have hts : (t + 1) * s ≤ e * s := Nat.mul_le_mul_right s (by omega)
      rw [Nat.add_mul, Nat.one_mul] at hts
      have ex : ((n - e * s : Nat) : Int) + ((t * s : Nat) : Int) = ((n - e * s + t * s : Nat) : Int) := by omega
      rw [VX11_isPower_18]
      simp (disch := omega) only [et, ex, iI_lit, lI_lit, iI_nI, iI_add, iI_sub, iI_mul, iI_neg, c_lt_t, c_lt_f, c_le_t, c_le_f, c_eq_t, c_eq_f, c_in_t, iI_clamp, Int.toNat_natCast, forall_eq, true_and, and_true, false_and, and_false, not_true_eq_false, not_false_eq_true, true_implies, false_implies, implies_true, forall_const, true_or, or_true, false_or, or_false, pk_us, vu_s, vL_s, vb_0, vb_1, if_true, if_false, ite_true, ite_false]
      refine s11_alike (f := f) hK hN hV (by omega) (by omega) (fun j hj => hf j (by omega)) (fun q1 => ?_) (fun q1 => ?_)
      · simp (disch := omega) only [iI_lit, lI_lit, iI_nI, iI_add, iI_sub, iI_mul, iI_neg, c_lt_t, c_lt_f, c_le_t, c_le_f, c_eq_t, c_eq_f, c_in_t, iI_clamp, Int.toNat_natCast, forall_eq, true_and, and_true, false_and, and_false, not_true_eq_false, not_false_eq_true, true_implies, false_implies, implies_true, forall_const, true_or, or_true, false_or, or_false, pk_us, vu_s, vL_s, vb_0, vb_1, if_true, if_false, ite_true, ite_false]
        refine ih (t + 1) _ _ (by omega) (by omega) rfl (congrArg iI (by omega)) (fun u hu hu1 => ?_)
        by_cases c : u = t
        · subst c
          exact q1
        · exact hp u (by omega) hu1
      · simp (disch := omega) only [iI_lit, lI_lit, iI_nI, iI_add, iI_sub, iI_mul, iI_neg, c_lt_t, c_lt_f, c_le_t, c_le_f, c_eq_t, c_eq_f, c_in_t, iI_clamp, Int.toNat_natCast, forall_eq, true_and, and_true, false_and, and_false, not_true_eq_false, not_false_eq_true, true_implies, false_implies, implies_true, forall_const, true_or, or_true, false_or, or_false, pk_us, vu_s, vL_s, vb_0, vb_1, if_true, if_false, ite_true, ite_false]
        refine h0 (decide_eq_false (fun hh => ?_))
        rw [hh t (by omega) h1t] at q1
        exact absurd q1 (by decide)
  have e9 : (n : Int) - ((e * s : Nat) : Int) = ((n - e * s : Nat) : Int) := by omega
  simp (disch := omega) only [VX11_isPower, ee, e9, iI_lit, lI_lit, iI_nI, iI_add, iI_sub, iI_mul, iI_neg, c_lt_t, c_lt_f, c_le_t, c_le_f, c_eq_t, c_eq_f, c_in_t, iI_clamp, Int.toNat_natCast, forall_eq, true_and, and_true, false_and, and_false, not_true_eq_false, not_false_eq_true, true_implies, false_implies, implies_true, forall_const, true_or, or_true, false_or, or_false, pk_us, vu_s, vL_s, vb_0, vb_1, if_true, if_false, ite_true, ite_false]
  exact ⟨e - 1 + 1, key (e - 1) 1 _ _ (by omega) (by omega) rfl rfl (fun u h1 h2 => absurd h1 (by omega))⟩
theorem s11_endsAt {post : Int32 → Prop} {row values : Nat → Int32} {K N : Nat} {V : Nat → Int} {e : Nat} {f : Nat → Nat} {n : Nat} (hK : K ≤ 3) (hN : 2 ≤ N ∧ N ≤ 4) (he : 2 ≤ e ∧ e ≤ 4) (hV : ∀ x, x < 4 → (-9 ≤ V x ∧ V x ≤ 9) ∧ values x = iI (V x)) (hn : n ≤ 41) (hf : ∀ j, j < n → row j = iI (f j) ∧ f j < 4)
    (hp : post (iI (shp K N V e f n))) : VX11_endsAt post (iI K) (iI e) (iI N) values row (iI n) := by
  have key : ∀ (q s : Nat) (x1 : Int32), n < s + q → s ≤ n + 1 → x1 = iI s → post (iI (sfr (pwr K N V e f n) e n (q + 1) s)) → VX11_endsAt_2 post (iI K) (iI e) (iI N) values row (iI n) (q + 1) x1 := by
    intro q
    induction q with
    | zero =>
      intro s x1 hs hs2 ex hpp
      subst ex
      have ee : (e : Int) * (s : Int) = ((e * s : Nat) : Int) := by rw [Int.natCast_mul]
      have h2s : 2 * s ≤ e * s := Nat.mul_le_mul_right s he.1
      have h4s : e * s ≤ 4 * s := Nat.mul_le_mul_right s he.2
      simp only [sfr, if_pos (show n < e * s by omega)] at hpp
      rw [VX11_endsAt_2]
      simp (disch := omega) only [ee, iI_lit, lI_lit, iI_nI, iI_add, iI_sub, iI_mul, iI_neg, c_lt_t, c_lt_f, c_le_t, c_le_f, c_eq_t, c_eq_f, c_in_t, iI_clamp, Int.toNat_natCast, forall_eq, true_and, and_true, false_and, and_false, not_true_eq_false, not_false_eq_true, true_implies, false_implies, implies_true, forall_const, true_or, or_true, false_or, or_false, pk_us, vu_s, vL_s, vb_0, vb_1, if_true, if_false, ite_true, ite_false]
      exact hpp
    | succ q ih =>
      intro s x1 hs hs2 ex hpp
      subst ex
      have ee : (e : Int) * (s : Int) = ((e * s : Nat) : Int) := by rw [Int.natCast_mul]
      have h2s : 2 * s ≤ e * s := Nat.mul_le_mul_right s he.1
      have h4s : e * s ≤ 4 * s := Nat.mul_le_mul_right s he.2
      rw [VX11_endsAt_2]
      rw [sfr] at hpp
      by_cases c : n < e * s
      · rw [if_pos c] at hpp
        simp (disch := omega) only [ee, iI_lit, lI_lit, iI_nI, iI_add, iI_sub, iI_mul, iI_neg, c_lt_t, c_lt_f, c_le_t, c_le_f, c_eq_t, c_eq_f, c_in_t, iI_clamp, Int.toNat_natCast, forall_eq, true_and, and_true, false_and, and_false, not_true_eq_false, not_false_eq_true, true_implies, false_implies, implies_true, forall_const, true_or, or_true, false_or, or_false, pk_us, vu_s, vL_s, vb_0, vb_1, if_true, if_false, ite_true, ite_false]
        exact hpp
      · rw [if_neg c] at hpp
        simp (disch := omega) only [ee, iI_lit, lI_lit, iI_nI, iI_add, iI_sub, iI_mul, iI_neg, c_lt_t, c_lt_f, c_le_t, c_le_f, c_eq_t, c_eq_f, c_in_t, iI_clamp, Int.toNat_natCast, forall_eq, true_and, and_true, false_and, and_false, not_true_eq_false, not_false_eq_true, true_implies, false_implies, implies_true, forall_const, true_or, or_true, false_or, or_false, pk_us, vu_s, vL_s, vb_0, vb_1, if_true, if_false, ite_true, ite_false]
        refine s11_isPower (f := f) hK hN he hV hn hf (by omega) (fun q1 => ?_) (fun q1 => ?_)
        · rw [if_pos q1] at hpp
          simp (disch := omega) only [iI_lit, lI_lit, iI_nI, iI_add, iI_sub, iI_mul, iI_neg, c_lt_t, c_lt_f, c_le_t, c_le_f, c_eq_t, c_eq_f, c_in_t, iI_clamp, Int.toNat_natCast, forall_eq, true_and, and_true, false_and, and_false, not_true_eq_false, not_false_eq_true, true_implies, false_implies, implies_true, forall_const, true_or, or_true, false_or, or_false, pk_us, vu_s, vL_s, vb_0, vb_1, if_true, if_false, ite_true, ite_false]
          exact hpp
        · rw [if_neg (by rw [q1]; decide)] at hpp
          simp (disch := omega) only [iI_lit, lI_lit, iI_nI, iI_add, iI_sub, iI_mul, iI_neg, c_lt_t, c_lt_f, c_le_t, c_le_f, c_eq_t, c_eq_f, c_in_t, iI_clamp, Int.toNat_natCast, forall_eq, true_and, and_true, false_and, and_false, not_true_eq_false, not_false_eq_true, true_implies, false_implies, implies_true, forall_const, true_or, or_true, false_or, or_false, pk_us, vu_s, vL_s, vb_0, vb_1, if_true, if_false, ite_true, ite_false]
          exact ih (s + 1) _ (by omega) (by omega) (congrArg iI (by omega)) hpp
  exact ⟨n + 1, key n 1 _ (by omega) (by omega) rfl hp⟩
