/-! THE ADJUGATE, THE KEY OF A PARENT -/
theorem d_2 {m : Nat} (h : m < 2147483648) : iI (m : Int) / iI 2 = iI ((m / 2 : Nat) : Int) := d_nat (d := 2) h (by omega)
theorem adj_c : ∀ N, N < 5 → ∀ y, y < N → (iI ((2 ^ N - 1 : Nat) : Int) &&& ((iI 1 <<< (iI ((y : Nat) : Int) &&& iI 31)) ^^^ iI (-1))) = iI ((clr (2 ^ N - 1) y : Nat) : Int) := by decide +kernel
theorem adj_l : ∀ N, N < 5 → ∀ y, y < N → clr (2 ^ N - 1) y < 16 := by decide +kernel
theorem adj_b : ∀ N, N < 5 → ∀ y, y < N → ∀ j, j < N → bit (clr (2 ^ N - 1) y) j = (true && !(j == y)) := by decide +kernel
theorem s2_adjugate {post : Int32 → Prop} {ent : Nat → Int32} {M : Nat → Nat → Int} {N y x : Nat} (hN : N ≤ 4) (hy : y < N) (hx : x < N) (hM : ∀ i, i < N → ∀ j, j < N → (-4 ≤ M i j ∧ M i j ≤ 4) ∧ ent (4 * i + j) = iI (M i j)) (h : post (iI (adjM M N y x))) : VX2_adjugate post ent (iI N) (iI y) (iI x) := by
  have e := all_cols N (by omega)
  have ec := adj_c N (by omega) y hy
  unfold VX2_adjugate VX2_allColumns
  rintro w rfl y2 rfl
  simp only [iI_lit, iI_neg]
  rw [e, ec]
  refine s2_minor (M := M) hN (by omega) hM N 8 0 _ (fun i => true && !(i == y)) _ (by omega) (by omega) (adj_l N (by omega) y hy) (adj_b N (by omega) y hy) ?_
  rintro y5 rfl
  have es : iI (y : Int) + iI (x : Int) = iI ((y + x : Nat) : Int) := by
    rw [iI_add]
    exact congrArg iI (by omega)
  rw [es, d_2 (by omega), iI_mul, iI_sub]
  have em : ((y + x : Nat) : Int) - (((y + x) / 2 : Nat) : Int) * 2 = (((y + x) % 2 : Nat) : Int) := by omega
  rw [em]
  unfold adjM at h
  by_cases c : (y + x) % 2 = 0
  · rw [sgn, if_pos c, Int.one_mul] at h
    rw [c]
    exact ⟨fun q => absurd rfl q, fun _ => h⟩
  · have c1 : (y + x) % 2 = 1 := by omega
    rw [sgn, if_neg c, Int.neg_mul, Int.one_mul] at h
    rw [c1]
    refine ⟨fun _ => ?_, fun q => absurd q (by decide)⟩
    rw [iI_neg]
    exact h
theorem s0_loadInverse {post : (Nat → Int32) → Int32 → Int32 → Prop} {ent adj : Nat → Int32} {dv bl : Int32} {M : Nat → Nat → Int} {N : Nat} (hN : 2 ≤ N ∧ N ≤ 4) (hM : ∀ i, i < N → ∀ j, j < N → (-4 ≤ M i j ∧ M i j ≤ 4) ∧ ent (4 * i + j) = iI (M i j))
    (h : ∀ adj', (∀ y, y < 4 → ∀ x, x < 4 → adj' (4 * y + x) = iI (AD M N y x)) → post adj' (iI (dtm M N)) (iI N)) : VX0_loadInverse post ent (iI N) adj dv bl := by
  unfold VX0_loadInverse
  refine s2_whole hN.2 hM ?_
  have inner : ∀ (K18 : (Nat → Int32) → Int32 → Int32 → Int32 → Prop) (y : Nat), y < 4 → (∀ a', (∀ z, z < y + 1 → ∀ x, x < 4 → a' (4 * z + x) = iI (AD M N z x)) → K18 a' (iI (dtm M N)) (iI N) (iI ((y + 1 : Nat) : Int))) → ∀ (q x : Nat) (a : Nat → Int32) (x3 : Int32), x + q = 4 → x3 = iI x → (∀ z, z < y → ∀ x, x < 4 → a (4 * z + x) = iI (AD M N z x)) → (∀ z, z < x → a (4 * y + z) = iI (AD M N y z)) → VX0_loadInverse_25 post K18 ent (iI N) (q + 1) a (iI (dtm M N)) (iI N) (iI y) x3 := by
    intro K18 y hy hk q
    induction q with
    | zero =>
      intro x a x3 hx e3 h1 h2
      have : x = 4 := by omega
      subst this e3
      have e1 : (y : Int) + 1 = ((y + 1 : Nat) : Int) := by omega
      rw [VX0_loadInverse_25]
      simp (disch := omega) only [e1, iI_lit, lI_lit, iI_nI, iI_add, iI_sub, iI_mul, iI_neg, c_lt_t, c_lt_f, c_le_t, c_le_f, c_eq_t, c_eq_f, c_in_t, iI_clamp, Int.toNat_natCast, forall_eq, true_and, and_true, false_and, and_false, not_true_eq_false, not_false_eq_true, true_implies, false_implies, implies_true, forall_const, true_or, or_true, false_or, or_false, pk_us, vu_s, vL_s, vb_0, vb_1, if_true, if_false, ite_true, ite_false]
      refine hk a (fun z hz x hx => ?_)
      by_cases c : z = y
      · rw [c]
        exact h2 x hx
      · exact h1 z (by omega) x hx
    | succ q ih =>
      intro x a x3 hx e3 h1 h2
      subst e3
      have e4 : (4 * (y : Int) + (x : Int)).toNat = 4 * y + x := by omega
      have nx : ∀ v : Int, v = AD M N y x → VX0_loadInverse_25 post K18 ent (iI N) (q + 1) (upd a (4 * y + x) (iI v)) (iI (dtm M N)) (iI N) (iI y) (iI ((x : Int) + 1)) := by
        intro v hv
        refine ih (x + 1) _ _ (by omega) (congrArg iI (by omega)) (fun z hz w hw => ?_) (fun z hz => ?_)
        · rw [pk_un (by omega)]
          exact h1 z hz w hw
        · by_cases c : z = x
          · rw [c, pk_us, hv]
          · rw [pk_un (by omega)]
            exact h2 z (by omega)
      rw [VX0_loadInverse_25]
      by_cases c1 : N ≤ x
      · simp (disch := omega) only [VX0_loadInverse_51, e4, iI_lit, lI_lit, iI_nI, iI_add, iI_sub, iI_mul, iI_neg, c_lt_t, c_lt_f, c_le_t, c_le_f, c_eq_t, c_eq_f, c_in_t, iI_clamp, Int.toNat_natCast, forall_eq, true_and, and_true, false_and, and_false, not_true_eq_false, not_false_eq_true, true_implies, false_implies, implies_true, forall_const, true_or, or_true, false_or, or_false, pk_us, vu_s, vL_s, vb_0, vb_1, if_true, if_false, ite_true, ite_false]
        exact nx 0 (by rw [AD, if_neg (by omega)])
      · by_cases c2 : N ≤ y
        · simp (disch := omega) only [VX0_loadInverse_51, e4, iI_lit, lI_lit, iI_nI, iI_add, iI_sub, iI_mul, iI_neg, c_lt_t, c_lt_f, c_le_t, c_le_f, c_eq_t, c_eq_f, c_in_t, iI_clamp, Int.toNat_natCast, forall_eq, true_and, and_true, false_and, and_false, not_true_eq_false, not_false_eq_true, true_implies, false_implies, implies_true, forall_const, true_or, or_true, false_or, or_false, pk_us, vu_s, vL_s, vb_0, vb_1, if_true, if_false, ite_true, ite_false]
          exact nx 0 (by rw [AD, if_neg (by omega)])
        · simp (disch := omega) only [VX0_loadInverse_51, e4, iI_lit, lI_lit, iI_nI, iI_add, iI_sub, iI_mul, iI_neg, c_lt_t, c_lt_f, c_le_t, c_le_f, c_eq_t, c_eq_f, c_in_t, iI_clamp, Int.toNat_natCast, forall_eq, true_and, and_true, false_and, and_false, not_true_eq_false, not_false_eq_true, true_implies, false_implies, implies_true, forall_const, true_or, or_true, false_or, or_false, pk_us, vu_s, vL_s, vb_0, vb_1, if_true, if_false, ite_true, ite_false]
          refine s2_adjugate hN.2 (by omega) (by omega) hM ?_
          exact nx _ (by rw [AD, if_pos (by omega)])
  have outer : ∀ (q y : Nat) (a : Nat → Int32) (x2 : Int32), y + q = 4 → x2 = iI y → (∀ z, z < y → ∀ x, x < 4 → a (4 * z + x) = iI (AD M N z x)) → VX0_loadInverse_18 post ent (iI N) (q + 1) a (iI (dtm M N)) (iI N) x2 := by
    intro q
    induction q with
    | zero =>
      intro y a x2 hy e2 h1
      have : y = 4 := by omega
      subst this e2
      rw [VX0_loadInverse_18]
      simp (disch := omega) only [iI_lit, lI_lit, iI_nI, iI_add, iI_sub, iI_mul, iI_neg, c_lt_t, c_lt_f, c_le_t, c_le_f, c_eq_t, c_eq_f, c_in_t, iI_clamp, Int.toNat_natCast, forall_eq, true_and, and_true, false_and, and_false, not_true_eq_false, not_false_eq_true, true_implies, false_implies, implies_true, forall_const, true_or, or_true, false_or, or_false, pk_us, vu_s, vL_s, vb_0, vb_1, if_true, if_false, ite_true, ite_false]
      exact h a h1
    | succ q ih =>
      intro y a x2 hy e2 h1
      subst e2
      rw [VX0_loadInverse_18]
      simp (disch := omega) only [iI_lit, lI_lit, iI_nI, iI_add, iI_sub, iI_mul, iI_neg, c_lt_t, c_lt_f, c_le_t, c_le_f, c_eq_t, c_eq_f, c_in_t, iI_clamp, Int.toNat_natCast, forall_eq, true_and, and_true, false_and, and_false, not_true_eq_false, not_false_eq_true, true_implies, false_implies, implies_true, forall_const, true_or, or_true, false_or, or_false, pk_us, vu_s, vL_s, vb_0, vb_1, if_true, if_false, ite_true, ite_false]
      exact ⟨5, inner _ y (by omega) (fun a' ha' => ih (y + 1) a' _ (by omega) rfl ha') 4 0 a _ (by omega) rfl h1 (fun z hz => absurd hz (Nat.not_lt_zero z))⟩
  exact ⟨5, outer 4 0 adj _ (by omega) rfl (fun z hz => absurd hz (Nat.not_lt_zero z))⟩
def smk (g : Nat → Int) : Nat → Int
  | 0 => 0
  | k + 1 => smk g k + g k
theorem smk_4 (g : Nat → Int) : smk g 4 = sm4 g := by
  simp only [smk, sm4]
  omega
theorem s0_loadBase {post : (Nat → Int32) → Prop} {nu adj base : Nat → Int32} {Ad : Nat → Nat → Int} {nd : Nat → Int} (hA : ∀ y, y < 4 → ∀ x, x < 4 → adj (4 * y + x) = iI (Ad y x)) (hn : ∀ x, x < 4 → nu x = iI (nd x)) (h : ∀ b', (∀ y, y < 4 → b' y = iI (sm4 (fun x => Ad y x * nd x))) → post b') : VX0_loadBase post nu adj base := by
  have inner : ∀ (K2 : (Nat → Int32) → Int32 → Prop) (y : Nat), y < 4 → (∀ b', (∀ z, z < y + 1 → b' z = iI (sm4 (fun x => Ad z x * nd x))) → K2 b' (iI ((y + 1 : Nat) : Int))) → ∀ (q x : Nat) (b : Nat → Int32) (x2 : Int32), x + q = 4 → x2 = iI x → (∀ z, z < y → b z = iI (sm4 (fun x => Ad z x * nd x))) → b y = iI (smk (fun x => Ad y x * nd x) x) → VX0_loadBase_16 post K2 nu adj (q + 1) b (iI y) x2 := by
    intro K2 y hy hk q
    induction q with
    | zero =>
      intro x b x2 hx e2 h1 h2
      have : x = 4 := by omega
      subst this e2
      have e1 : (y : Int) + 1 = ((y + 1 : Nat) : Int) := by omega
      rw [smk_4] at h2
      rw [VX0_loadBase_16]
      simp (disch := omega) only [e1, iI_lit, lI_lit, iI_nI, iI_add, iI_sub, iI_mul, iI_neg, c_lt_t, c_lt_f, c_le_t, c_le_f, c_eq_t, c_eq_f, c_in_t, iI_clamp, Int.toNat_natCast, forall_eq, true_and, and_true, false_and, and_false, not_true_eq_false, not_false_eq_true, true_implies, false_implies, implies_true, forall_const, true_or, or_true, false_or, or_false, pk_us, vu_s, vL_s, vb_0, vb_1, if_true, if_false, ite_true, ite_false]
      refine hk b (fun z hz => ?_)
      by_cases c : z = y
      · rw [c]
        exact h2
      · exact h1 z (by omega)
    | succ q ih =>
      intro x b x2 hx e2 h1 h2
      subst e2
      have e4 : (4 * (y : Int) + (x : Int)).toNat = 4 * y + x := by omega
      have q1 := hA y hy x (by omega)
      have q2 := hn x (by omega)
      rw [VX0_loadBase_16]
      simp (disch := omega) only [e4, q1, q2, h2, iI_lit, lI_lit, iI_nI, iI_add, iI_sub, iI_mul, iI_neg, c_lt_t, c_lt_f, c_le_t, c_le_f, c_eq_t, c_eq_f, c_in_t, iI_clamp, Int.toNat_natCast, forall_eq, true_and, and_true, false_and, and_false, not_true_eq_false, not_false_eq_true, true_implies, false_implies, implies_true, forall_const, true_or, or_true, false_or, or_false, pk_us, vu_s, vL_s, vb_0, vb_1, if_true, if_false, ite_true, ite_false]
      refine ih (x + 1) _ _ (by omega) (congrArg iI (by omega)) (fun z hz => ?_) ?_
      · rw [pk_un (by omega)]
        exact h1 z hz
      · rw [pk_us]
        rfl
  have outer : ∀ (q y : Nat) (b : Nat → Int32) (x1 : Int32), y + q = 4 → x1 = iI y → (∀ z, z < y → b z = iI (sm4 (fun x => Ad z x * nd x))) → VX0_loadBase_2 post nu adj (q + 1) b x1 := by
    intro q
    induction q with
    | zero =>
      intro y b x1 hy e1 h1
      have : y = 4 := by omega
      subst this e1
      rw [VX0_loadBase_2]
      simp (disch := omega) only [iI_lit, lI_lit, iI_nI, iI_add, iI_sub, iI_mul, iI_neg, c_lt_t, c_lt_f, c_le_t, c_le_f, c_eq_t, c_eq_f, c_in_t, iI_clamp, Int.toNat_natCast, forall_eq, true_and, and_true, false_and, and_false, not_true_eq_false, not_false_eq_true, true_implies, false_implies, implies_true, forall_const, true_or, or_true, false_or, or_false, pk_us, vu_s, vL_s, vb_0, vb_1, if_true, if_false, ite_true, ite_false]
      exact h b h1
    | succ q ih =>
      intro y b x1 hy e1 h1
      subst e1
      rw [VX0_loadBase_2]
      simp (disch := omega) only [iI_lit, lI_lit, iI_nI, iI_add, iI_sub, iI_mul, iI_neg, c_lt_t, c_lt_f, c_le_t, c_le_f, c_eq_t, c_eq_f, c_in_t, iI_clamp, Int.toNat_natCast, forall_eq, true_and, and_true, false_and, and_false, not_true_eq_false, not_false_eq_true, true_implies, false_implies, implies_true, forall_const, true_or, or_true, false_or, or_false, pk_us, vu_s, vL_s, vb_0, vb_1, if_true, if_false, ite_true, ite_false]
      refine ⟨5, inner _ y (by omega) (fun b' hb' => ih (y + 1) b' _ (by omega) rfl hb') 4 0 _ _ (by omega) rfl (fun z hz => ?_) (by rw [pk_us]; rfl)⟩
      rw [pk_un (by omega)]
      exact h1 z hz
  exact ⟨5, outer 4 0 base _ (by omega) rfl (fun z hz => absurd hz (Nat.not_lt_zero z))⟩
/-- the digits of a parent: its ends and whole numbers -/
def PD (N : Nat) (A0 A1 A2 : Nat) (dt : Int) (S : Nat → Int) (c : Nat → Nat) : Prop := VD N c ∧ c 0 = A0 ∧ c 1 = A1 ∧ c 2 = A2 ∧ ∀ y, y < N → ((c (3 + y) : Int) - 9) * dt = S y
theorem tq {s d : Int} : s.tdiv d * d = s ∨ ∀ m : Int, m * d ≠ s := by
  by_cases c : s.tdiv d * d = s
  · exact Or.inl c
  · refine Or.inr (fun m hm => c ?_)
    by_cases e : d = 0
    · subst e
      rw [Int.mul_zero] at hm
      rw [← hm, Int.mul_zero]
    · rw [← hm, Int.mul_tdiv_cancel m e]
theorem tq_le {s d : Int} (h : -100000000 ≤ s ∧ s ≤ 100000000) : -100000000 ≤ s.tdiv d ∧ s.tdiv d ≤ 100000000 := by
  have h1 : (s.tdiv d).natAbs = s.natAbs / d.natAbs := Int.natAbs_tdiv s d
  have h2 := Nat.div_le_self s.natAbs d.natAbs
  omega
theorem tm_le {s d : Int} (h : -100000000 ≤ s ∧ s ≤ 100000000) : -200000000 ≤ s.tdiv d * d ∧ s.tdiv d * d ≤ 200000000 := by
  have h1 := Int.tmod_add_tdiv_mul s d
  have h2 := Int.natAbs_tmod s d
  have h3 := Nat.mod_le s.natAbs d.natAbs
  omega
theorem s0_parentKey {post : Int32 → Prop} {N : Nat} {dt : Int} {base e0 g0 e1 g1 e2 g2 : Nat → Int32} {c0 : Nat → Nat} {B : Nat → Int} {G0 G1 G2 : Nat → Int} {i j k : Nat} (hN : 2 ≤ N ∧ N ≤ 4) (hdt : dt ≠ 0) (hdb : -65536 ≤ dt ∧ dt ≤ 65536) (hi : i < 21) (hj : j < 21) (hk : k < 21)
    (hc : ∀ t, t < 3 → c0 t ≤ N) (hb : ∀ y, y < 4 → base y = iI (B y)) (a0 : e0 i = iI ((c0 0 : Int) - 1)) (a1 : e1 j = iI ((c0 1 : Int) - 1)) (a2 : e2 k = iI ((c0 2 : Int) - 1)) (q0 : ∀ y, y < 4 → g0 (4 * i + y) = iI (G0 y)) (q1 : ∀ y, y < 4 → g1 (4 * j + y) = iI (G1 y)) (q2 : ∀ y, y < 4 → g2 (4 * k + y) = iI (G2 y)) (hS : ∀ y, y < 4 → -100000000 ≤ B y + G0 y + G1 y + G2 y ∧ B y + G0 y + G1 y + G2 y ≤ 100000000)
    (h1 : ∀ c, PD N (c0 0) (c0 1) (c0 2) dt (fun y => B y + G0 y + G1 y + G2 y) c → post (iI ((kk c (3 + N) : Nat) : Int))) (h0 : (¬ ∃ c, PD N (c0 0) (c0 1) (c0 2) dt (fun y => B y + G0 y + G1 y + G2 y) c) → post (iI (-1))) :
    VX0_parentKey post (iI dt) (iI N) base e0 g0 e1 g1 e2 g2 (iI i) (iI j) (iI k) := by
  have key : ∀ (q y : Nat) (c : Nat → Nat) (x4 x5 : Int32), y + q = N → x4 = iI ((kk c (3 + y) : Nat) : Int) → x5 = iI y → VD N c → c 0 = c0 0 → c 1 = c0 1 → c 2 = c0 2 → (∀ z, z < y → ((c (3 + z) : Int) - 9) * dt = B z + G0 z + G1 z + G2 z) → VX0_parentKey_44 post (iI dt) (iI N) base e0 g0 e1 g1 e2 g2 (iI i) (iI j) (iI k) (q + 1) x4 x5 := by
    intro q
    induction q with
    | zero =>
      intro y c x4 x5 hy e4 e5 v d0 d1 d2 hz
      have : y = N := by omega
      subst this e4 e5
      rw [VX0_parentKey_44]
      simp (disch := omega) only [iI_lit, lI_lit, iI_nI, iI_add, iI_sub, iI_mul, iI_neg, c_lt_t, c_lt_f, c_le_t, c_le_f, c_eq_t, c_eq_f, c_in_t, iI_clamp, Int.toNat_natCast, forall_eq, true_and, and_true, false_and, and_false, not_true_eq_false, not_false_eq_true, true_implies, false_implies, implies_true, forall_const, true_or, or_true, false_or, or_false, pk_us, vu_s, vL_s, vb_0, vb_1, if_true, if_false, ite_true, ite_false]
      exact h1 c ⟨v, d0, d1, d2, hz⟩
    | succ q ih =>
      intro y c x4 x5 hy e4 e5 v d0 d1 d2 hz
      subst e4 e5
      have f0 : (4 * (i : Int) + (y : Int)).toNat = 4 * i + y := by omega
      have f1 : (4 * (j : Int) + (y : Int)).toNat = 4 * j + y := by omega
      have f2 : (4 * (k : Int) + (y : Int)).toNat = 4 * k + y := by omega
      have r0 := q0 y (by omega)
      have r1 := q1 y (by omega)
      have r2 := q2 y (by omega)
      have rb := hb y (by omega)
      have hs := hS y (by omega)
      have ht := tq_le (d := dt) hs
      have hm := tm_le (d := dt) hs
      have ed : iI (B y + G0 y + G1 y + G2 y) / iI dt = iI ((B y + G0 y + G1 y + G2 y).tdiv dt) := iI_div (by omega) (by omega) (by omega) (by omega)
      rw [VX0_parentKey_44]
      simp (disch := omega) only [f0, f1, f2, r0, r1, r2, rb, ed, iI_lit, lI_lit, iI_nI, iI_add, iI_sub, iI_mul, iI_neg, c_lt_t, c_lt_f, c_le_t, c_le_f, c_eq_t, c_eq_f, c_in_t, iI_clamp, Int.toNat_natCast, forall_eq, true_and, and_true, false_and, and_false, not_true_eq_false, not_false_eq_true, true_implies, false_implies, implies_true, forall_const, true_or, or_true, false_or, or_false, pk_us, vu_s, vL_s, vb_0, vb_1, if_true, if_false, ite_true, ite_false]
      rcases tq (s := B y + G0 y + G1 y + G2 y) (d := dt) with t1 | t1
      · have t1' := eq_true (congrArg iI t1)
        by_cases c9 : (B y + G0 y + G1 y + G2 y).tdiv dt < -9
        · simp (disch := omega) only [t1', iI_lit, lI_lit, iI_nI, iI_add, iI_sub, iI_mul, iI_neg, c_lt_t, c_lt_f, c_le_t, c_le_f, c_eq_t, c_eq_f, c_in_t, iI_clamp, Int.toNat_natCast, forall_eq, true_and, and_true, false_and, and_false, not_true_eq_false, not_false_eq_true, true_implies, false_implies, implies_true, forall_const, true_or, or_true, false_or, or_false, pk_us, vu_s, vL_s, vb_0, vb_1, if_true, if_false, ite_true, ite_false]
          refine h0 (fun ⟨c', v', _, _, _, hz'⟩ => ?_)
          have : ((c' (3 + y) : Int) - 9) * dt = B y + G0 y + G1 y + G2 y := hz' y (by omega)
          rw [← t1] at this
          have := Int.eq_of_mul_eq_mul_right hdt this
          omega
        · by_cases c10 : 9 < (B y + G0 y + G1 y + G2 y).tdiv dt
          · simp (disch := omega) only [t1', iI_lit, lI_lit, iI_nI, iI_add, iI_sub, iI_mul, iI_neg, c_lt_t, c_lt_f, c_le_t, c_le_f, c_eq_t, c_eq_f, c_in_t, iI_clamp, Int.toNat_natCast, forall_eq, true_and, and_true, false_and, and_false, not_true_eq_false, not_false_eq_true, true_implies, false_implies, implies_true, forall_const, true_or, or_true, false_or, or_false, pk_us, vu_s, vL_s, vb_0, vb_1, if_true, if_false, ite_true, ite_false]
            refine h0 (fun ⟨c', v', _, _, _, hz'⟩ => ?_)
            have : ((c' (3 + y) : Int) - 9) * dt = B y + G0 y + G1 y + G2 y := hz' y (by omega)
            rw [← t1] at this
            have := Int.eq_of_mul_eq_mul_right hdt this
            have := v'.2.1 (3 + y) (by omega) (by omega)
            omega
          · simp (disch := omega) only [t1', VX7_keyWithNumber, iI_lit, lI_lit, iI_nI, iI_add, iI_sub, iI_mul, iI_neg, c_lt_t, c_lt_f, c_le_t, c_le_f, c_eq_t, c_eq_f, c_in_t, iI_clamp, Int.toNat_natCast, forall_eq, true_and, and_true, false_and, and_false, not_true_eq_false, not_false_eq_true, true_implies, false_implies, implies_true, forall_const, true_or, or_true, false_or, or_false, pk_us, vu_s, vL_s, vb_0, vb_1, if_true, if_false, ite_true, ite_false]
            obtain ⟨m, hm9⟩ : ∃ m : Nat, (m : Int) = (B y + G0 y + G1 y + G2 y).tdiv dt + 9 := ⟨((B y + G0 y + G1 y + G2 y).tdiv dt + 9).toNat, by omega⟩
            refine ih (y + 1) (va_up c (3 + y) m) _ _ (by omega) (congrArg iI ?_) (congrArg iI (by omega)) ⟨fun t ht => ?_, fun t ht1 ht2 => ?_, fun t ht => ?_⟩ (by rw [vu_n (by omega)]; exact d0) (by rw [vu_n (by omega)]; exact d1) (by rw [vu_n (by omega)]; exact d2) (fun z hz1 => ?_)
            · rw [show 3 + (y + 1) = 3 + y + 1 by omega, kk, vu_s, kk_cg (d := c) (3 + y) (fun t ht => vu_n (by omega))]
              unfold bs
              rw [if_neg (by omega)]
              omega
            · rw [vu_n (by omega)]
              exact v.1 t ht
            · by_cases e : t = 3 + y
              · rw [e, vu_s]
                omega
              · rw [vu_n e]
                exact v.2.1 t ht1 ht2
            · rw [vu_n (by omega)]
              exact v.2.2 t ht
            · by_cases e : z = y
              · rw [e, vu_s, hm9, Int.add_sub_cancel]
                exact t1
              · rw [vu_n (by omega)]
                exact hz z (by omega)
      · have t2 : (B y + G0 y + G1 y + G2 y).tdiv dt * dt ≠ B y + G0 y + G1 y + G2 y := t1 _
        simp (disch := omega) only [iI_lit, lI_lit, iI_nI, iI_add, iI_sub, iI_mul, iI_neg, c_lt_t, c_lt_f, c_le_t, c_le_f, c_eq_t, c_eq_f, c_in_t, iI_clamp, Int.toNat_natCast, forall_eq, true_and, and_true, false_and, and_false, not_true_eq_false, not_false_eq_true, true_implies, false_implies, implies_true, forall_const, true_or, or_true, false_or, or_false, pk_us, vu_s, vL_s, vb_0, vb_1, if_true, if_false, ite_true, ite_false]
        refine h0 (fun ⟨c', v', _, _, _, hz'⟩ => ?_)
        exact t1 _ (hz' y (by omega))
  have hne : ¬ iI dt = iI 0 := fun q => hdt ((iI_eq (by omega) (by omega) (by omega) (by omega)).mp q)
  have hne' := eq_false hne
  simp (disch := omega) only [VX0_parentKey, hne', a0, a1, a2, iI_lit, lI_lit, iI_nI, iI_add, iI_sub, iI_mul, iI_neg, c_lt_t, c_lt_f, c_le_t, c_le_f, c_eq_t, c_eq_f, c_in_t, iI_clamp, Int.toNat_natCast, forall_eq, true_and, and_true, false_and, and_false, not_true_eq_false, not_false_eq_true, true_implies, false_implies, implies_true, forall_const, true_or, or_true, false_or, or_false, pk_us, vu_s, vL_s, vb_0, vb_1, if_true, if_false, ite_true, ite_false]
  have e := s7_keyOfEnds (c := fun t => if t < 3 then c0 t else 9) (post := fun r_7 => ∃ n44 : Nat, VX0_parentKey_44 post (iI dt) (iI N) base e0 g0 e1 g1 e2 g2 (iI i) (iI j) (iI k) n44 r_7 (iI 0)) ⟨N + 1, key N 0 (fun t => if t < 3 then c0 t else 9) _ _ (by omega) rfl rfl ⟨fun t ht => by simp only [ht, if_true]; exact hc t ht, fun t h1 h2 => by simp only [show ¬ t < 3 by omega, if_false]; omega, fun t ht => by simp only [show ¬ t < 3 by omega, if_false]⟩ rfl rfl rfl (fun z hz => absurd hz (Nat.not_lt_zero z))⟩
  exact e
