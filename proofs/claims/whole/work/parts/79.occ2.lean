/-! OCCURRENCES: the searches -/
def NB (N S : Nat) (f : Nat → Nat) (a b c : Nat) (d : Nat → Int) (s x y : Nat) : Prop := ∀ s' x' y', s' < S → Occ N S f a b c d s' x' y' → s < s' ∨ (s = s' ∧ (x < x' ∨ (x = x' ∧ y ≤ y')))
section
variable {N S i : Nat} {f e : Nat → Nat} {row kept words lengths : TA} {km kl p1 : Int32}
theorem s11_occLoop {post : Int32 → TA → Int32 → Prop} (hN : 2 ≤ N ∧ N ≤ 4) (hi : i < 200) (hS : S ≤ 40) (hr : ∀ j, j < S → row j = iI (f j) ∧ f j < 4) (hk : ∀ k, k < 7 → kept (7 * i + k) = iI ((e k : Int) - of7 k)) (he : ∀ k, k < 7 → e k ≤ 18)
    (hmin : ∀ s x y, OMin N S f (e 0) (e 1) (e 2) (fun l => (e (3 + l) : Int) - 9) s x y → post (iI (10000 * (s : Int) + 100 * (x : Int) + (y : Int))) row (iI S)) (hnone : ONone N S f (e 0) (e 1) (e 2) (fun l => (e (3 + l) : Int) - 9) → post (iI (-2)) row (iI S)) :
    ∃ n, VX11_occurrence_44 post (iI N) words lengths kept km kl p1 (iI i) n row (iI S) 0 := by
  have up : ∀ m : Nat, iI (m : Int) + 1 = iI ((m + 1 : Nat) : Int) := fun m => by
    rw [show (1 : Int32) = iI 1 from rfl, iI_add]
    exact congrArg iI (by omega)
  have L69 : ∀ (K55 : TA → Int32 → Int32 → Int32 → Prop) (s x : Nat), s < S → s + x ≤ S → (NB N S f (e 0) (e 1) (e 2) (fun l => (e (3 + l) : Int) - 9) s (x + 1) 0 → K55 row (iI S) (iI s) (iI ((x + 1 : Nat) : Int))) → ∀ (r y : Nat) (x5 : Int32), y + r = S - s - x + 1 → x5 = iI y → NB N S f (e 0) (e 1) (e 2) (fun l => (e (3 + l) : Int) - 9) s x y → VX11_occurrence_69 post K55 (iI N) words lengths kept km kl p1 (iI i) (r + 1) row (iI S) (iI s) (iI x) x5 := by
    intro K55 s x hs hx hk55 r
    have es : iI (S : Int) - iI (s : Int) - iI (x : Int) = iI ((S - s - x : Nat) : Int) := by
      rw [iI_sub, iI_sub]
      exact congrArg iI (by omega)
    induction r with
    | zero =>
      intro y x5 hy e5 hnb
      subst e5
      rw [VX11_occurrence_69, es, up]
      refine ⟨fun _ => hk55 (fun s' x' y' h1 h2 => ?_), fun q => absurd ((iI_lt (by omega) (by omega) (by omega) (by omega)).mpr (by omega)) q⟩
      have h3 := hnb s' x' y' h1 h2
      have h4 := h2.2.1
      omega
    | succ r ih =>
      intro y x5 hy e5 hnb
      subst e5
      rw [VX11_occurrence_69, es, up]
      refine ⟨fun q => absurd ((iI_lt (by omega) (by omega) (by omega) (by omega)).mp q) (by omega), fun _ => ?_⟩
      refine s11_occurs (e := e) (f := f) hN hi hS hr hk he (by omega) (by omega) (by omega) (fun ho => ?_) (fun ho => ?_)
      · refine ⟨fun q => absurd q n10, fun _ => ?_⟩
        unfold VX11_occurrence_96
        rintro y20 rfl
        rw [show (10000 : Int32) = iI 10000 from iI_lit 10000, show (100 : Int32) = iI 100 from iI_lit 100, iI_mul, iI_mul, iI_add, iI_add]
        refine hmin s x y ⟨ho, hs, fun s' x' y' h1 h2 => ?_⟩
        have := hnb s' x' y' h1 h2
        omega
      · refine ⟨fun _ => ih (y + 1) _ (by omega) (up y) (fun s' x' y' h1 h2 => ?_), fun q => absurd rfl q⟩
        have h3 := hnb s' x' y' h1 h2
        by_cases c : s' = s ∧ x' = x ∧ y' = y
        · obtain ⟨rfl, rfl, rfl⟩ := c
          exact absurd h2 ho
        · omega
  have L55 : ∀ (K44 : TA → Int32 → Int32 → Prop) (s : Nat), s < S → (NB N S f (e 0) (e 1) (e 2) (fun l => (e (3 + l) : Int) - 9) (s + 1) 0 0 → K44 row (iI S) (iI ((s + 1 : Nat) : Int))) → ∀ (r x : Nat) (x4 : Int32), x + r = S - s + 1 → x4 = iI x → NB N S f (e 0) (e 1) (e 2) (fun l => (e (3 + l) : Int) - 9) s x 0 → VX11_occurrence_55 post K44 (iI N) words lengths kept km kl p1 (iI i) (r + 1) row (iI S) (iI s) x4 := by
    intro K44 s hs hk44 r
    have es : iI (S : Int) - iI (s : Int) = iI ((S - s : Nat) : Int) := by
      rw [iI_sub]
      exact congrArg iI (by omega)
    induction r with
    | zero =>
      intro x x4 hx e4 hnb
      subst e4
      rw [VX11_occurrence_55, es, up]
      refine ⟨fun _ => hk44 (fun s' x' y' h1 h2 => ?_), fun q => absurd ((iI_lt (by omega) (by omega) (by omega) (by omega)).mpr (by omega)) q⟩
      have h3 := hnb s' x' y' h1 h2
      have h4 := h2.2.1
      omega
    | succ r ih =>
      intro x x4 hx e4 hnb
      subst e4
      rw [VX11_occurrence_55, es]
      refine ⟨fun q => absurd ((iI_lt (by omega) (by omega) (by omega) (by omega)).mp q) (by omega), fun _ => ?_⟩
      exact ⟨S - s - x + 1 + 1, L69 _ s x hs (by omega) (fun hnb' => ih (x + 1) _ (by omega) rfl hnb') (S - s - x + 1) 0 _ (by omega) rfl hnb⟩
  have L44 : ∀ (r s : Nat) (x3 : Int32), s + r = S → x3 = iI s → NB N S f (e 0) (e 1) (e 2) (fun l => (e (3 + l) : Int) - 9) s 0 0 → VX11_occurrence_44 post (iI N) words lengths kept km kl p1 (iI i) (r + 1) row (iI S) x3 := by
    intro r
    induction r with
    | zero =>
      intro s x3 hs e3 hnb
      have : s = S := by omega
      subst this e3
      rw [VX11_occurrence_44]
      refine ⟨fun _ => hnone (fun s' x' y' h1 h2 => ?_), fun q => absurd ((iI_le (by omega) (by omega) (by omega) (by omega)).mpr (by omega)) q⟩
      have := hnb s' x' y' h1 h2
      omega
    | succ r ih =>
      intro s x3 hs e3 hnb
      subst e3
      rw [VX11_occurrence_44]
      refine ⟨fun q => absurd ((iI_le (by omega) (by omega) (by omega) (by omega)).mp q) (by omega), fun _ => ?_⟩
      exact ⟨S - s + 1 + 1, L55 _ s (by omega) (fun hnb' => ih (s + 1) _ (by omega) rfl hnb') (S - s + 1) 0 _ (by omega) rfl hnb⟩
  exact ⟨S + 1, L44 S 0 _ (by omega) rfl (fun s' x' y' h1 h2 => by omega)⟩
end
/-! the class -/
def hE (S : Nat) (f : Nat → Nat) (a p : Nat) : Prop := (a = 0 → p ≤ S) ∧ (a ≠ 0 → p < S ∧ f p + 1 = a)
theorem s8_hasEnd {post : Int32 → Prop} {L : TA} {S a p : Nat} {f : Nat → Nat} (hS : S ≤ 40) (hL : ∀ j, j < S → L j = iI (f j) ∧ f j < 4) (ha : a ≤ 18) (hp : p < 1000) (h1 : hE S f a p → post (iI 1)) (h0 : ¬ hE S f a p → post (iI 0)) : VX8_hasEnd post L (iI S) (iI ((a : Int) - 1)) (iI p) := by
  by_cases c : a = 0
  · by_cases d : p ≤ S
    · simp (disch := omega) only [VX8_hasEnd, iI_lit, lI_lit, iI_nI, iI_add, iI_sub, iI_mul, iI_neg, c_lt_t, c_lt_f, c_le_t, c_le_f, c_eq_t, c_eq_f, c_in_t, iI_clamp, Int.toNat_natCast, forall_eq, true_and, and_true, false_and, and_false, not_true_eq_false, not_false_eq_true, true_implies, false_implies, implies_true, forall_const, true_or, or_true, false_or, or_false, pk_us, vu_s, vL_s, vb_0, vb_1, if_true, if_false, ite_true, ite_false]
      exact h1 ⟨fun _ => d, fun q => absurd c q⟩
    · simp (disch := omega) only [VX8_hasEnd, iI_lit, lI_lit, iI_nI, iI_add, iI_sub, iI_mul, iI_neg, c_lt_t, c_lt_f, c_le_t, c_le_f, c_eq_t, c_eq_f, c_in_t, iI_clamp, Int.toNat_natCast, forall_eq, true_and, and_true, false_and, and_false, not_true_eq_false, not_false_eq_true, true_implies, false_implies, implies_true, forall_const, true_or, or_true, false_or, or_false, pk_us, vu_s, vL_s, vb_0, vb_1, if_true, if_false, ite_true, ite_false]
      exact h0 (fun q => d (q.1 c))
  · by_cases d : p < S
    · obtain ⟨l1, l2⟩ := hL p d
      by_cases g : f p + 1 = a
      · simp (disch := omega) only [VX8_hasEnd, l1, iI_lit, lI_lit, iI_nI, iI_add, iI_sub, iI_mul, iI_neg, c_lt_t, c_lt_f, c_le_t, c_le_f, c_eq_t, c_eq_f, c_in_t, iI_clamp, Int.toNat_natCast, forall_eq, true_and, and_true, false_and, and_false, not_true_eq_false, not_false_eq_true, true_implies, false_implies, implies_true, forall_const, true_or, or_true, false_or, or_false, pk_us, vu_s, vL_s, vb_0, vb_1, if_true, if_false, ite_true, ite_false]
        exact h1 ⟨fun q => absurd q c, fun _ => ⟨d, g⟩⟩
      · simp (disch := omega) only [VX8_hasEnd, l1, iI_lit, lI_lit, iI_nI, iI_add, iI_sub, iI_mul, iI_neg, c_lt_t, c_lt_f, c_le_t, c_le_f, c_eq_t, c_eq_f, c_in_t, iI_clamp, Int.toNat_natCast, forall_eq, true_and, and_true, false_and, and_false, not_true_eq_false, not_false_eq_true, true_implies, false_implies, implies_true, forall_const, true_or, or_true, false_or, or_false, pk_us, vu_s, vL_s, vb_0, vb_1, if_true, if_false, ite_true, ite_false]
        exact h0 (fun q => g (q.2 c).2)
    · simp (disch := omega) only [VX8_hasEnd, iI_lit, lI_lit, iI_nI, iI_add, iI_sub, iI_mul, iI_neg, c_lt_t, c_lt_f, c_le_t, c_le_f, c_eq_t, c_eq_f, c_in_t, iI_clamp, Int.toNat_natCast, forall_eq, true_and, and_true, false_and, and_false, not_true_eq_false, not_false_eq_true, true_implies, false_implies, implies_true, forall_const, true_or, or_true, false_or, or_false, pk_us, vu_s, vL_s, vb_0, vb_1, if_true, if_false, ite_true, ite_false]
      exact h0 (fun q => d (q.2 c).1)
theorem s7_length {post : Int32 → Prop} {nu : TA} {d : Nat → Int} (hn : ∀ x, x < 4 → nu x = iI (d x)) (h : post (iI (sm4 d))) : VX7_lengthDifference post nu := by
  have loop : ∀ (q m : Nat) (x1 x2 : Int32), m + q = 4 → x1 = iI (smk d m) → x2 = iI m → VX7_lengthDifference_4 post nu (q + 1) x1 x2 := by
    intro q
    induction q with
    | zero =>
      intro m x1 x2 hm e1 e2
      have : m = 4 := by omega
      subst this e1 e2
      rw [VX7_lengthDifference_4]
      simp (disch := omega) only [iI_lit, lI_lit, iI_nI, iI_add, iI_sub, iI_mul, iI_neg, c_lt_t, c_lt_f, c_le_t, c_le_f, c_eq_t, c_eq_f, c_in_t, iI_clamp, Int.toNat_natCast, forall_eq, true_and, and_true, false_and, and_false, not_true_eq_false, not_false_eq_true, true_implies, false_implies, implies_true, forall_const, true_or, or_true, false_or, or_false, pk_us, vu_s, vL_s, vb_0, vb_1, if_true, if_false, ite_true, ite_false]
      rw [smk_4]
      exact h
    | succ q ih =>
      intro m x1 x2 hm e1 e2
      subst e1 e2
      have a := hn m (by omega)
      rw [VX7_lengthDifference_4]
      simp (disch := omega) only [a, iI_lit, lI_lit, iI_nI, iI_add, iI_sub, iI_mul, iI_neg, c_lt_t, c_lt_f, c_le_t, c_le_f, c_eq_t, c_eq_f, c_in_t, iI_clamp, Int.toNat_natCast, forall_eq, true_and, and_true, false_and, and_false, not_true_eq_false, not_false_eq_true, true_implies, false_implies, implies_true, forall_const, true_or, or_true, false_or, or_false, pk_us, vu_s, vL_s, vb_0, vb_1, if_true, if_false, ite_true, ite_false]
      exact ih (m + 1) _ _ (by omega) rfl (congrArg iI (by omega))
  exact ⟨5, loop 4 0 _ _ (by omega) rfl rfl⟩
theorem s8_sumOf {post : Int64 → Prop} {wt : Nat → Int64} {nu : TA} {d : Nat → Int} (hw : ∀ x, x < 4 → wt x = lI (65536 ^ x)) (hn : ∀ x, x < 4 → nu x = iI (d x)) (hd : ∀ x, x < 4 → -9 ≤ d x ∧ d x ≤ 9) (h : post (lI (smk (fun x => d x * 65536 ^ x) 4))) : VX8_sumOf post wt nu := by
  have loop : ∀ (q m : Nat) (x2 : Int64) (x4 : Int32), m + q = 4 → x2 = lI (smk (fun x => d x * 65536 ^ x) m) → x4 = iI m → VX8_sumOf_5 post wt nu (q + 1) x2 x4 := by
    intro q
    induction q with
    | zero =>
      intro m x2 x4 hm e2 e4
      have : m = 4 := by omega
      subst this e2 e4
      rw [VX8_sumOf_5]
      simp (disch := omega) only [iI_lit, lI_lit, iI_nI, iI_add, iI_sub, iI_mul, iI_neg, c_lt_t, c_lt_f, c_le_t, c_le_f, c_eq_t, c_eq_f, c_in_t, iI_clamp, Int.toNat_natCast, forall_eq, true_and, and_true, false_and, and_false, not_true_eq_false, not_false_eq_true, true_implies, false_implies, implies_true, forall_const, true_or, or_true, false_or, or_false, pk_us, vu_s, vL_s, vb_0, vb_1, if_true, if_false, ite_true, ite_false]
      exact h
    | succ q ih =>
      intro m x2 x4 hm e2 e4
      subst e2 e4
      have a := hn m (by omega)
      have b := hw m (by omega)
      have c := hd m (by omega)
      rw [VX8_sumOf_5]
      simp (disch := omega) only [a, b, iI_lit, lI_lit, iI_nI, iI_add, iI_sub, iI_mul, iI_neg, c_lt_t, c_lt_f, c_le_t, c_le_f, c_eq_t, c_eq_f, c_in_t, iI_clamp, Int.toNat_natCast, forall_eq, true_and, and_true, false_and, and_false, not_true_eq_false, not_false_eq_true, true_implies, false_implies, implies_true, forall_const, true_or, or_true, false_or, or_false, pk_us, vu_s, vL_s, vb_0, vb_1, if_true, if_false, ite_true, ite_false]
      rw [iI_long (by omega) (by omega), lI_mul, lI_add]
      exact ih (m + 1) _ _ (by omega) rfl (congrArg iI (by omega))
  exact ⟨5, loop 4 0 _ _ (by omega) rfl rfl⟩
theorem dgd {c c' : Nat → Nat} {d : Nat → Int} (h1 : ∀ l, c l ≤ 41) (h2 : ∀ l, c' l ≤ 41) (h3 : ∀ l, l < 4 → -9 ≤ d l ∧ d l ≤ 9) : (lI (((dg 65536 c 0 4 : Nat) : Int) - ((dg 65536 c' 0 4 : Nat) : Int)) = lI (smk (fun x => d x * 65536 ^ x) 4)) ↔ ∀ l, l < 4 → (c l : Int) - (c' l : Int) = d l := by
  have a0 := h1 0
  have a1 := h1 1
  have a2 := h1 2
  have a3 := h1 3
  have b0 := h2 0
  have b1 := h2 1
  have b2 := h2 2
  have b3 := h2 3
  have d0 := h3 0 (by omega)
  have d1 := h3 1 (by omega)
  have d2 := h3 2 (by omega)
  have d3 := h3 3 (by omega)
  have e1 : smk (fun x => d x * 65536 ^ x) 4 = d 0 + d 1 * 65536 + d 2 * 4294967296 + d 3 * 281474976710656 := by
    simp [smk]
  have e2 : ∀ c : Nat → Nat, ((dg 65536 c 0 4 : Nat) : Int) = (c 0 : Int) + 65536 * (c 1 : Int) + 4294967296 * (c 2 : Int) + 281474976710656 * (c 3 : Int) := by
    intro c
    have z1 : c (0 + 1) = c 1 := rfl
    have z2 : c (0 + 1 + 1) = c 2 := rfl
    have z3 : c (0 + 1 + 1 + 1) = c 3 := rfl
    simp only [dg]
    omega
  rw [e1, e2, e2, lI_eq (by omega) (by omega) (by omega) (by omega)]
  constructor
  · intro q l hl
    obtain rfl | rfl | rfl | rfl : l = 0 ∨ l = 1 ∨ l = 2 ∨ l = 3 := by omega
    all_goals omega
  · intro q
    have q0 := q 0 (by omega)
    have q1 := q 1 (by omega)
    have q2 := q 2 (by omega)
    have q3 := q 3 (by omega)
    omega
theorem s8_matchAt {post : Int32 → Prop} {N S s : Nat} {f : Nat → Nat} {L T : TA} {SS A B wt : Nat → Int64} {V : Nat → Int} {en nu : TA} {a b c : Nat} {d : Nat → Int} (hN : 2 ≤ N ∧ N ≤ 4) (hS : S ≤ 40) (hs : s < S) (hf : ∀ j, j < S → f j < N) (hTI : TI 1 (wK 1 V) f S L T SS A B) (hw : ∀ x, x < 4 → wt x = lI (wK 1 V x)) (ha : a ≤ 18) (hb : b ≤ 18) (hc : c ≤ 18) (e0 : en 0 = iI ((a : Int) - 1)) (e1 : en 1 = iI ((b : Int) - 1)) (e2 : en 2 = iI ((c : Int) - 1)) (hn : ∀ x, x < 4 → nu x = iI (d x)) (hd : ∀ x, x < 4 → -9 ≤ d x ∧ d x ≤ 9) (hd0 : ∀ l, N ≤ l → d l = 0) (hfs : hE S f a s)
    (hit : ∀ x y, Occ N S f a b c d s x y → (∀ x' y', Occ N S f a b c d s x' y' → x ≤ x') → post (iI (10000 * (s : Int) + 100 * (x : Int) + (y : Int)))) (miss : (∀ x y, ¬ Occ N S f a b c d s x y) → post (iI (-2))) : VX8_matchAt post L SS wt (iI S) en nu (iI s) := by
  have w0 := wdt_le a
  have w1 := wdt_le b
  have w2 := wdt_le c
  have hL : ∀ j, j < S → L j = iI (f j) ∧ f j < 4 := fun j hj => ⟨(hTI.2 j hj).2.1, (hTI.2 j hj).1⟩
  have hlg : -36 ≤ sm4 d ∧ sm4 d ≤ 36 := by
    have d0 := hd 0 (by omega)
    have d1 := hd 1 (by omega)
    have d2 := hd 2 (by omega)
    have d3 := hd 3 (by omega)
    unfold sm4
    omega
  have hW : wK 1 V = fun x => 65536 ^ x := by
    funext x
    rw [wK, if_neg (by omega)]
  have hSu : ∀ a m, a + m ≤ S → SS (a + m) = SS a + lI (((dg 65536 (fun x => cn f x a m) 0 4 : Nat) : Int)) := by
    intro a m hm
    have g := psum_S (a := a) (fun j hj => (hTI.2 j hj).2.2.1) m hm
    rw [psum_vs, hW, vs_dg m (fun j hj => by have := hf (a + j) (by omega); omega)] at g
    exact g
  have v3 : ∀ k : Nat, k < 3 → vp_in (iI (k : Int)) 3 := fun k hk => (iI_in (by omega) (by omega)).mpr ⟨by omega, by omega⟩
  have ew : ∀ v : Nat, iI (if v = 0 then 0 else 1) = iI ((wdt v : Nat) : Int) := fun v => by
    unfold wdt
    split <;> rfl
  have cl : ∀ m : Nat, m < 2000 → (iI (m : Int)).toNatClampNeg = m := fun m hm => by rw [iI_clamp (by omega) (by omega), Int.toNat_natCast]
  have loop : ∀ (r x : Nat) (x5 : Int32), x + r = S + 1 → x5 = iI x → 0 ≤ (x : Int) + sm4 d → (∀ x' y', Occ N S f a b c d s x' y' → x ≤ x') → VX8_matchAt_27 post L SS wt (iI S) en nu (iI s) (r + 1) (iI ((s + wdt a : Nat) : Int)) (iI (sm4 d)) x5 := by
    intro r
    induction r with
    | zero =>
      intro x x5 hx e5 hp hnb
      subst e5
      have ea : iI ((s + wdt a : Nat) : Int) + iI (x : Int) = iI ((s + wdt a + x : Nat) : Int) := by
        rw [iI_add]
        exact congrArg iI (by omega)
      rw [VX8_matchAt_27, ea]
      refine ⟨fun _ => miss (fun x' y' ho => ?_), fun q => absurd ((iI_lt (by omega) (by omega) (by omega) (by omega)).mpr (by omega)) q⟩
      have := hnb x' y' ho
      have := ho.2.1
      omega
    | succ r ih =>
      intro x x5 hx e5 hp hnb
      subst e5
      obtain ⟨y, hy⟩ : ∃ y : Nat, (y : Int) = (x : Int) + sm4 d := ⟨((x : Int) + sm4 d).toNat, by omega⟩
      have ea : iI ((s + wdt a : Nat) : Int) + iI (x : Int) = iI ((s + wdt a + x : Nat) : Int) := by
        rw [iI_add]
        exact congrArg iI (by omega)
      have eup : iI (x : Int) + 1 = iI ((x + 1 : Nat) : Int) := by
        rw [show (1 : Int32) = iI 1 from rfl, iI_add]
        exact congrArg iI (by omega)
      have next : ¬ Occ N S f a b c d s x y → VX8_matchAt_27 post L SS wt (iI S) en nu (iI s) (r + 1) (iI ((s + wdt a : Nat) : Int)) (iI (sm4 d)) (iI ((x + 1 : Nat) : Int)) := by
        intro hno
        refine ih (x + 1) _ (by omega) rfl (by omega) (fun x' y' ho => ?_)
        have h1 := hnb x' y' ho
        have h2 := Occ_y hN.2 hf hd0 ho
        by_cases q : x' = x
        · subst q
          have : y' = y := by omega
          subst this
          exact absurd ho hno
        · omega
      rw [VX8_matchAt_27, ea, eup]
      by_cases c1 : S < s + wdt a + x
      · refine ⟨fun _ => miss (fun x' y' ho => ?_), fun q => absurd ((iI_lt (by omega) (by omega) (by omega) (by omega)).mpr (by omega)) q⟩
        have := hnb x' y' ho
        have := ho.2.1
        omega
      · refine ⟨fun q => absurd ((iI_lt (by omega) (by omega) (by omega) (by omega)).mp q) (by omega), fun _ => ?_⟩
        rw [cl_1, cl_2, e1, e2]
        refine ⟨v3 1 (by omega), ?_⟩
        rintro y9 rfl
        refine s7_width (by omega) ?_
        rw [ew b]
        have eb : iI ((s + wdt a + x : Nat) : Int) + iI ((wdt b : Nat) : Int) = iI ((s + wdt a + x + wdt b : Nat) : Int) := by
          rw [iI_add]
          exact congrArg iI (by omega)
        have ec : iI ((s + wdt a + x + wdt b : Nat) : Int) + iI (x : Int) + iI (sm4 d) = iI ((s + wdt a + x + wdt b + y : Nat) : Int) := by
          rw [iI_add, iI_add]
          exact congrArg iI (by omega)
        rw [eb, ec]
        rintro y12 rfl
        refine ⟨v3 1 (by omega), ?_⟩
        rintro y13 rfl
        refine s8_hasEnd (f := f) hS hL hb (by omega) (fun h1 => ?_) (fun h1 => ?_)
        · refine ⟨fun q => absurd q n10, fun _ => ⟨v3 2 (by omega), ?_⟩⟩
          rintro y16 rfl
          refine s8_hasEnd (f := f) hS hL hc (by omega) (fun h2 => ?_) (fun h2 => ?_)
          · refine ⟨fun q => absurd q n10, fun _ => ⟨v3 2 (by omega), ?_⟩⟩
            rintro y19 rfl
            refine s7_width (by omega) ?_
            rw [ew c]
            have ez : iI ((s + wdt a + x + wdt b + y : Nat) : Int) + iI ((wdt c : Nat) : Int) = iI ((s + (wdt a + x + wdt b + y + wdt c) : Nat) : Int) := by
              rw [iI_add]
              exact congrArg iI (by omega)
            rw [ez]
            have hend : s + (wdt a + x + wdt b + y + wdt c) ≤ S := by
              by_cases q : c = 0
              · have := h2.1 q
                have : wdt c = 0 := by rw [wdt, if_pos q]
                omega
              · have := (h2.2 q).1
                omega
            by_cases c2 : wdt a + x + wdt b + y + wdt c = 0
            · refine ⟨fun _ => next (fun ho => ho.1 c2), fun q => absurd ((iI_le (by omega) (by omega) (by omega) (by omega)).mpr (by omega)) q⟩
            · refine ⟨fun q => absurd ((iI_le (by omega) (by omega) (by omega) (by omega)).mp q) (by omega), fun _ => ?_⟩
              rw [cl _ (by omega), cl _ (by omega), cl _ (by omega), cl _ (by omega)]
              refine ⟨(iI_in (by omega) (by omega)).mpr ⟨by omega, by omega⟩, (iI_in (by omega) (by omega)).mpr ⟨by omega, by omega⟩, ?_⟩
              rintro y23 rfl y25 rfl
              refine ⟨(iI_in (by omega) (by omega)).mpr ⟨by omega, by omega⟩, ?_⟩
              rintro y26 rfl
              refine ⟨(iI_in (by omega) (by omega)).mpr ⟨by omega, by omega⟩, ?_⟩
              rintro y29 rfl
              refine s8_sumOf (d := d) (fun x hx => by rw [hw x hx, hW]) hn hd ?_
              rw [hSu (s + wdt a + x + wdt b) y (by omega), hSu (s + wdt a) x (by omega), l_cancel, l_cancel, lI_sub]
              have hiff := dgd (c := fun l => cn f l (s + wdt a + x + wdt b) y) (c' := fun l => cn f l (s + wdt a) x) (d := d) (fun l => by have := cn_le f l (s + wdt a + x + wdt b) y; omega) (fun l => by have := cn_le f l (s + wdt a) x; omega) hd
              refine ⟨fun q => next (fun ho => q ((lg_cmp_eq _ _).mpr (hiff.mpr (fun l hl => Occ_4 (S := S) hN.2 (by omega) (by omega) hf hd0 ho.2.2.2.2.2 l)))), fun q => ?_⟩
              have hall := hiff.mp ((lg_cmp_eq _ _).mp q)
              have ho : Occ N S f a b c d s x y := ⟨c2, hend, fun q => (hfs.2 q).2, fun q => (h1.2 q).2, fun q => (h2.2 q).2, fun l hl => hall l (by omega)⟩
              unfold VX8_matchAt_153
              rintro y41 rfl
              rw [show (10000 : Int32) = iI 10000 from iI_lit 10000, show (100 : Int32) = iI 100 from iI_lit 100, iI_mul, iI_mul, iI_add, iI_add, iI_add]
              have g := hit x y ho hnb
              rw [hy] at g
              rwa [Int.add_assoc (10000 * (s : Int) + 100 * (x : Int))]
          · refine ⟨fun _ => next (fun ho => h2 ⟨fun q => ?_, fun q => ?_⟩), fun q => absurd rfl q⟩
            · have := ho.2.1
              omega
            · have h3 := ho.2.1
              have h4 : wdt c = 1 := by rw [wdt, if_neg q]
              exact ⟨by omega, ho.2.2.2.2.1 q⟩
        · refine ⟨fun _ => next (fun ho => h1 ⟨fun q => ?_, fun q => ?_⟩), fun q => absurd rfl q⟩
          · have := ho.2.1
            omega
          · have h3 := ho.2.1
            have h4 : wdt b = 1 := by rw [wdt, if_neg q]
            exact ⟨by omega, ho.2.2.2.1 q⟩
  unfold VX8_matchAt
  rw [cl_0, e0]
  refine ⟨v3 0 (by omega), ?_⟩
  rintro y1 rfl
  refine s7_width (by omega) ?_
  rw [ew a]
  refine s7_length hn ?_
  rintro y5 rfl
  have es : iI (s : Int) + iI ((wdt a : Nat) : Int) = iI ((s + wdt a : Nat) : Int) := by
    rw [iI_add]
    exact congrArg iI (by omega)
  rw [es, iI_neg, show (0 : Int32) = iI 0 from rfl]
  obtain ⟨x0, hx0, hx1⟩ : ∃ x0 : Nat, (if iI 0 < iI (-sm4 d) then iI (-sm4 d) else iI 0) = iI ((x0 : Nat) : Int) ∧ ((x0 : Int) = -sm4 d ∧ sm4 d < 0 ∨ x0 = 0 ∧ 0 ≤ sm4 d) := by
    by_cases q : sm4 d < 0
    · refine ⟨(-sm4 d).toNat, ?_, Or.inl ⟨by omega, q⟩⟩
      rw [if_pos ((iI_lt (by omega) (by omega) (by omega) (by omega)).mpr (by omega))]
      exact congrArg iI (by omega)
    · refine ⟨0, ?_, Or.inr ⟨rfl, by omega⟩⟩
      rw [if_neg (fun q2 => q (by have := (iI_lt (by omega) (by omega) (by omega) (by omega)).mp q2; omega))]
      rfl
  rw [hx0]
  have hnb0 : ∀ x' y', Occ N S f a b c d s x' y' → x0 ≤ x' := by
    intro x' y' ho
    have := Occ_y hN.2 hf hd0 ho
    omega
  by_cases q : x0 ≤ S + 1
  · exact ⟨S + 1 - x0 + 1, loop (S + 1 - x0) x0 _ (by omega) rfl (by omega) hnb0⟩
  · refine ⟨0 + 1, ?_⟩
    have ea : iI ((s + wdt a : Nat) : Int) + iI (x0 : Int) = iI ((s + wdt a + x0 : Nat) : Int) := by
      rw [iI_add]
      exact congrArg iI (by omega)
    rw [VX8_matchAt_27, ea]
    refine ⟨fun _ => miss (fun x' y' ho => ?_), fun q => absurd ((iI_lt (by omega) (by omega) (by omega) (by omega)).mpr (by omega)) q⟩
    have := hnb0 x' y' ho
    have := ho.2.1
    omega
