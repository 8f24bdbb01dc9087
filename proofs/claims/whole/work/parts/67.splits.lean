/-! SPLITS -/
def szE (il : Nat → Nat) (A : Nat) : Nat := if A = 0 then 0 else il (A - 1)
def wdt (a : Nat) : Nat := if a = 0 then 0 else 1
def cutOK (il : Nat → Nat) (im : Nat → Nat → Nat) (A a q : Nat) : Prop := q + wdt a ≤ szE il A ∧ (a ≠ 0 → im (A - 1) q + 1 = a)
def bef (im : Nat → Nat → Nat) (A q x : Nat) : Nat := cn (im (A - 1)) x 0 q
def beh (il : Nat → Nat) (im : Nat → Nat → Nat) (A a q x : Nat) : Nat := cn (im (A - 1)) x (q + wdt a) (szE il A - (q + wdt a))
def psg (p : Nat) : Int := if p = 0 then 0 else if p = 1 then 1 else -1
def ssg (p : Nat) : Int := if p = 0 then 1 else if p = 1 then -1 else 0
def GS (Ad : Nat → Nat → Int) (il : Nat → Nat) (im : Nat → Nat → Nat) (p a y A q : Nat) : Int := psg p * sm4 (fun x => Ad y x * (bef im A q x : Nat)) + ssg p * sm4 (fun x => Ad y x * (beh il im A a q x : Nat))
theorem vs_cn {V : Nat → Int} {f : Nat → Nat} {a : Nat} : ∀ n, (∀ j, j < n → f (a + j) < 4) → vs V f a n = sm4 (fun x => V x * (cn f x a n : Nat))
  | 0, _ => by
    simp [vs, sm4, cn]
  | n + 1, h => by
    have h1 := vs_cn (V := V) (f := f) (a := a) n (fun j hj => h j (by omega))
    have h2 := h n (by omega)
    simp only [vs]
    rw [h1]
    simp only [sm4, cn, Int.natCast_add, Int.mul_add]
    obtain e | e | e | e : f (a + n) = 0 ∨ f (a + n) = 1 ∨ f (a + n) = 2 ∨ f (a + n) = 3 := by omega
    all_goals
      rw [e]
      simp
      omega
theorem s6_pre {post : Int32 → Prop} {p : Nat} (hp : p < 3) (h : post (iI (psg p))) : VX6_prefixSign post (iI p) := by
  obtain rfl | rfl | rfl : p = 0 ∨ p = 1 ∨ p = 2 := by omega
  all_goals
    simp (disch := omega) only [VX6_prefixSign, iI_lit, lI_lit, iI_nI, iI_add, iI_sub, iI_mul, iI_neg, c_lt_t, c_lt_f, c_le_t, c_le_f, c_eq_t, c_eq_f, c_in_t, iI_clamp, Int.toNat_natCast, forall_eq, true_and, and_true, false_and, and_false, not_true_eq_false, not_false_eq_true, true_implies, false_implies, implies_true, forall_const, true_or, or_true, false_or, or_false, pk_us, vu_s, vL_s, vb_0, vb_1, if_true, if_false, ite_true, ite_false]
    exact h
theorem s6_suf {post : Int32 → Prop} {p : Nat} (hp : p < 3) (h : post (iI (ssg p))) : VX6_suffixSign post (iI p) := by
  obtain rfl | rfl | rfl : p = 0 ∨ p = 1 ∨ p = 2 := by omega
  all_goals
    simp (disch := omega) only [VX6_suffixSign, iI_lit, lI_lit, iI_nI, iI_add, iI_sub, iI_mul, iI_neg, c_lt_t, c_lt_f, c_le_t, c_le_f, c_eq_t, c_eq_f, c_in_t, iI_clamp, Int.toNat_natCast, forall_eq, true_and, and_true, false_and, and_false, not_true_eq_false, not_false_eq_true, true_implies, false_implies, implies_true, forall_const, true_or, or_true, false_or, or_false, pk_us, vu_s, vL_s, vb_0, vb_1, if_true, if_false, ite_true, ite_false]
    exact h
theorem s6_put {post : (Nat → Int32) → (Nat → Int32) → Int32 → Prop} {e : Int32} {ends gains : Nat → Int32} {sz : Nat} (hs : sz < 21) (h : ∀ g', (∀ y, y < 4 → g' (4 * sz + y) = iI 0) → (∀ t, t < 4 * sz → g' t = gains t) → post (upd ends sz e) g' (iI ((sz + 1 : Nat) : Int))) : VX6_put post e ends gains (iI sz) := by
  have key : ∀ (q m : Nat) (g : Nat → Int32) (x2 : Int32), m + q = 4 → x2 = iI m → (∀ y, y < m → g (4 * sz + y) = iI 0) → (∀ t, t < 4 * sz → g t = gains t) → VX6_put_21 post e (q + 1) (upd ends sz e) g (iI sz) x2 := by
    intro q
    induction q with
    | zero =>
      intro m g x2 hm ex h1 h2
      have : m = 4 := by omega
      subst this ex
      have e1 : (sz : Int) + 1 = ((sz + 1 : Nat) : Int) := by omega
      rw [VX6_put_21]
      simp (disch := omega) only [VX6_put_46, e1, iI_lit, lI_lit, iI_nI, iI_add, iI_sub, iI_mul, iI_neg, c_lt_t, c_lt_f, c_le_t, c_le_f, c_eq_t, c_eq_f, c_in_t, iI_clamp, Int.toNat_natCast, forall_eq, true_and, and_true, false_and, and_false, not_true_eq_false, not_false_eq_true, true_implies, false_implies, implies_true, forall_const, true_or, or_true, false_or, or_false, pk_us, vu_s, vL_s, vb_0, vb_1, if_true, if_false, ite_true, ite_false]
      exact h g h1 h2
    | succ q ih =>
      intro m g x2 hm ex h1 h2
      subst ex
      have e4 : (4 * (sz : Int) + (m : Int)).toNat = 4 * sz + m := by omega
      rw [VX6_put_21]
      simp (disch := omega) only [e4, iI_lit, lI_lit, iI_nI, iI_add, iI_sub, iI_mul, iI_neg, c_lt_t, c_lt_f, c_le_t, c_le_f, c_eq_t, c_eq_f, c_in_t, iI_clamp, Int.toNat_natCast, forall_eq, true_and, and_true, false_and, and_false, not_true_eq_false, not_false_eq_true, true_implies, false_implies, implies_true, forall_const, true_or, or_true, false_or, or_false, pk_us, vu_s, vL_s, vb_0, vb_1, if_true, if_false, ite_true, ite_false]
      refine ih (m + 1) _ _ (by omega) (congrArg iI (by omega)) (fun y hy => ?_) (fun t ht => ?_)
      · by_cases c : y = m
        · rw [c, pk_us]
        · rw [pk_un (by omega)]
          exact h1 y (by omega)
      · rw [pk_un (by omega)]
        exact h2 t ht
  simp (disch := omega) only [VX6_put, iI_lit, lI_lit, iI_nI, iI_add, iI_sub, iI_mul, iI_neg, c_lt_t, c_lt_f, c_le_t, c_le_f, c_eq_t, c_eq_f, c_in_t, iI_clamp, Int.toNat_natCast, forall_eq, true_and, and_true, false_and, and_false, not_true_eq_false, not_false_eq_true, true_implies, false_implies, implies_true, forall_const, true_or, or_true, false_or, or_false, pk_us, vu_s, vL_s, vb_0, vb_1, if_true, if_false, ite_true, ite_false]
  exact ⟨5, key 4 0 _ _ (by omega) rfl (fun j hj => absurd hj (Nat.not_lt_zero j)) (fun _ _ => rfl)⟩
theorem s6_gain {post : (Nat → Int32) → Prop} {L adj gains : Nat → Int32} {f : Nat → Nat} {Ad : Nat → Nat → Int} {G : Nat → Int} {t a n : Nat} {sg : Int} (ht : t < 21) (han : a + n ≤ 4) (hL : ∀ j, j < a + n → L j = iI (f j) ∧ f j < 4) (hA : ∀ y, y < 4 → ∀ x, x < 4 → adj (4 * y + x) = iI (Ad y x)) (hG : ∀ y, y < 4 → gains (4 * t + y) = iI (G y)) (hsg : -1 ≤ sg ∧ sg ≤ 1)
    (h : ∀ g', (∀ y, y < 4 → g' (4 * t + y) = iI (G y + sg * vs (Ad y) f a n)) → (∀ j, j < 4 * t → g' j = gains j) → post g') : VX6_gain post 4 (iI ((t + 1 : Nat) : Int)) L adj (iI a) (iI ((a + n : Nat) : Int)) (iI sg) gains := by
  have e0 : ((t + 1 : Nat) : Int) - 1 = (t : Int) := by omega
  have inner : ∀ (K3 : (Nat → Int32) → Int32 → Prop) (m : Nat), m < n → ∀ (q y : Nat) (g : Nat → Int32) (x7 : Int32), y + q = 4 → x7 = iI y → (∀ z, z < y → g (4 * t + z) = iI (G z + sg * vs (Ad z) f a (m + 1))) → (∀ z, y ≤ z → z < 4 → g (4 * t + z) = iI (G z + sg * vs (Ad z) f a m)) → (∀ j, j < 4 * t → g j = gains j) → (∀ g', (∀ z, z < 4 → g' (4 * t + z) = iI (G z + sg * vs (Ad z) f a (m + 1))) → (∀ j, j < 4 * t → g' j = gains j) → K3 g' (iI ((a + m + 1 : Nat) : Int))) → VX6_gain_17 post K3 4 (iI ((t + 1 : Nat) : Int)) L adj (iI a) (iI ((a + n : Nat) : Int)) (iI sg) (q + 1) g (iI ((a + m : Nat) : Int)) x7 := by
    intro K3 m hm q
    induction q with
    | zero =>
      intro y g x7 hy ex h1 h2 h3 hk
      have : y = 4 := by omega
      subst this ex
      have e1 : ((a + m : Nat) : Int) + 1 = ((a + m + 1 : Nat) : Int) := by omega
      rw [VX6_gain_17]
      simp (disch := omega) only [e1, iI_lit, lI_lit, iI_nI, iI_add, iI_sub, iI_mul, iI_neg, c_lt_t, c_lt_f, c_le_t, c_le_f, c_eq_t, c_eq_f, c_in_t, iI_clamp, Int.toNat_natCast, forall_eq, true_and, and_true, false_and, and_false, not_true_eq_false, not_false_eq_true, true_implies, false_implies, implies_true, forall_const, true_or, or_true, false_or, or_false, pk_us, vu_s, vL_s, vb_0, vb_1, if_true, if_false, ite_true, ite_false]
      exact hk g h1 h3
    | succ q ih =>
      intro y g x7 hy ex h1 h2 h3 hk
      subst ex
      obtain ⟨l1, l2⟩ := hL (a + m) (by omega)
      have e4 : (4 * (t : Int) + (y : Int)).toNat = 4 * t + y := by omega
      have e5 : (4 * (y : Int) + (f (a + m) : Int)).toNat = 4 * y + f (a + m) := by omega
      have hAd := hA y (by omega) (f (a + m)) l2
      have hg := h2 y (by omega) (by omega)
      rw [VX6_gain_17]
      simp (disch := omega) only [e0, e4, l1, e5, hAd, hg, iI_lit, lI_lit, iI_nI, iI_add, iI_sub, iI_mul, iI_neg, c_lt_t, c_lt_f, c_le_t, c_le_f, c_eq_t, c_eq_f, c_in_t, iI_clamp, Int.toNat_natCast, forall_eq, true_and, and_true, false_and, and_false, not_true_eq_false, not_false_eq_true, true_implies, false_implies, implies_true, forall_const, true_or, or_true, false_or, or_false, pk_us, vu_s, vL_s, vb_0, vb_1, if_true, if_false, ite_true, ite_false]
      refine ih (y + 1) _ _ (by omega) (congrArg iI (by omega)) (fun z hz => ?_) (fun z hz1 hz2 => ?_) (fun j hj => ?_) hk
      · by_cases c : z = y
        · rw [c, pk_us]
          refine congrArg iI ?_
          simp only [vs]
          rw [Int.mul_add]
          omega
        · rw [pk_un (by omega)]
          exact h1 z (by omega)
      · rw [pk_un (by omega)]
        exact h2 z (by omega) hz2
      · rw [pk_un (by omega)]
        exact h3 j hj
  have outer : ∀ (q m : Nat) (g : Nat → Int32) (x6 : Int32), m + q = n → x6 = iI ((a + m : Nat) : Int) → (∀ z, z < 4 → g (4 * t + z) = iI (G z + sg * vs (Ad z) f a m)) → (∀ j, j < 4 * t → g j = gains j) → VX6_gain_3 post 4 (iI ((t + 1 : Nat) : Int)) L adj (iI a) (iI ((a + n : Nat) : Int)) (iI sg) (q + 1) g x6 := by
    intro q
    induction q with
    | zero =>
      intro m g x6 hm ex h1 h2
      have : m = n := by omega
      subst this ex
      rw [VX6_gain_3]
      simp (disch := omega) only [iI_lit, lI_lit, iI_nI, iI_add, iI_sub, iI_mul, iI_neg, c_lt_t, c_lt_f, c_le_t, c_le_f, c_eq_t, c_eq_f, c_in_t, iI_clamp, Int.toNat_natCast, forall_eq, true_and, and_true, false_and, and_false, not_true_eq_false, not_false_eq_true, true_implies, false_implies, implies_true, forall_const, true_or, or_true, false_or, or_false, pk_us, vu_s, vL_s, vb_0, vb_1, if_true, if_false, ite_true, ite_false]
      exact h g h1 h2
    | succ q ih =>
      intro m g x6 hm ex h1 h2
      subst ex
      rw [VX6_gain_3]
      by_cases c : sg = 0
      · subst c
        simp (disch := omega) only [iI_lit, lI_lit, iI_nI, iI_add, iI_sub, iI_mul, iI_neg, c_lt_t, c_lt_f, c_le_t, c_le_f, c_eq_t, c_eq_f, c_in_t, iI_clamp, Int.toNat_natCast, forall_eq, true_and, and_true, false_and, and_false, not_true_eq_false, not_false_eq_true, true_implies, false_implies, implies_true, forall_const, true_or, or_true, false_or, or_false, pk_us, vu_s, vL_s, vb_0, vb_1, if_true, if_false, ite_true, ite_false]
        refine h g (fun y hy => ?_) h2
        rw [h1 y hy, Int.zero_mul, Int.zero_mul]
      · simp (disch := omega) only [iI_lit, lI_lit, iI_nI, iI_add, iI_sub, iI_mul, iI_neg, c_lt_t, c_lt_f, c_le_t, c_le_f, c_eq_t, c_eq_f, c_in_t, iI_clamp, Int.toNat_natCast, forall_eq, true_and, and_true, false_and, and_false, not_true_eq_false, not_false_eq_true, true_implies, false_implies, implies_true, forall_const, true_or, or_true, false_or, or_false, pk_us, vu_s, vL_s, vb_0, vb_1, if_true, if_false, ite_true, ite_false]
        exact ⟨5, inner _ m (by omega) 4 0 g _ (by omega) rfl (fun j hj => absurd hj (Nat.not_lt_zero j)) (fun z _ hz => h1 z hz) h2 (fun g' a1 a2 => ih (m + 1) g' _ (by omega) rfl a1 a2)⟩
  refine ⟨n + 1, outer n 0 gains _ (by omega) rfl (fun z hz => ?_) (fun _ _ => rfl)⟩
  rw [hG z hz]
  simp only [vs]
  rw [Int.mul_zero, Int.add_zero]
/-- the splits found so far -/
def SPI (N : Nat) (ok : Nat → Nat → Prop) (G : Nat → Nat → Nat → Int) (sz : Nat) (En Cu : Nat → Nat) (ends gains : Nat → Int32) : Prop := ∀ t, t < sz → ends t = iI ((En t : Int) - 1) ∧ (∀ y, y < 4 → gains (4 * t + y) = iI (G y (En t) (Cu t))) ∧ En t ≤ N ∧ ok (En t) (Cu t)
theorem s6_71 {post : (Nat → Int32) → (Nat → Int32) → Int32 → Prop} {K39 : (Nat → Int32) → (Nat → Int32) → Int32 → Int32 → Int32 → Prop} {N p a sz x q : Nat} {Ad : Nat → Nat → Int} {il : Nat → Nat} {im : Nat → Nat → Nat} {iL : Nat → Nat → Int32} {iS adj ends gains : Nat → Int32} {En Cu : Nat → Nat} (hN : N ≤ 4) (hp : p < 3) (ha : a ≤ N) (hx : x < N) (hs : sz < 21)
    (hI : ∀ x, x < 4 → il x ≤ 4 ∧ iS x = iI (il x) ∧ ∀ j, j < il x → im x j < 4 ∧ iL x j = iI (im x j)) (hA : ∀ y, y < 4 → ∀ x, x < 4 → adj (4 * y + x) = iI (Ad y x)) (hok : cutOK il im (x + 1) a q) (hS : SPI N (fun A q => cutOK il im A a q) (GS Ad il im p a) sz En Cu ends gains)
    (h : ∀ ends' gains', SPI N (fun A q => cutOK il im A a q) (GS Ad il im p a) (sz + 1) (va_up En sz (x + 1)) (va_up Cu sz q) ends' gains' → K39 ends' gains' (iI ((sz + 1 : Nat) : Int)) (iI x) (iI ((q + 1 : Nat) : Int))) :
    VX6_find_71 post K39 (iI p) (iI N) iL iS adj (iI ((a : Int) - 1)) ends gains (iI sz) (iI x) (iI q) := by
  obtain ⟨b1, b2, b3⟩ := hI x (by omega)
  have hsz : szE il (x + 1) = il x := by
    unfold szE
    rw [if_neg (by omega), Nat.add_sub_cancel]
  have hw : wdt a ≤ 1 := by
    unfold wdt
    split <;> omega
  have hok2 := hok.1
  rw [hsz] at hok2
  unfold VX6_find_71
  refine s6_put hs (fun g1 hg1 hg2 => ?_)
  refine s6_pre hp ?_
  rw [show (0 : Int32) = iI ((0 : Nat) : Int) from rfl]
  have hpb : -1 ≤ psg p ∧ psg p ≤ 1 := by
    unfold psg
    split
    · omega
    · split <;> omega
  have hsb : -1 ≤ ssg p ∧ ssg p ≤ 1 := by
    unfold ssg
    split
    · omega
    · split <;> omega
  have cl : (iI (x : Int)).toNatClampNeg = x := by rw [iI_clamp (by omega) (by omega), Int.toNat_natCast]
  rw [cl]
  have g := s6_gain (f := im x) (Ad := Ad) (G := fun _ => 0) (t := sz) (a := 0) (n := q) (sg := psg p) (L := iL x) (adj := adj) (gains := g1) hs (by omega) (fun j hj => ⟨(b3 j (by omega)).2, (b3 j (by omega)).1⟩) hA (fun y hy => hg1 y hy) hpb (post := fun u_23 => VX7_width (fun r_24 => VX6_suffixSign (fun r_25 => VX6_gain (fun u_26 => K39 (upd ends sz (iI x)) u_26 (iI ((sz + 1 : Nat) : Int)) (iI x) (iI q + 1)) 4 (iI ((sz + 1 : Nat) : Int)) (iL x) adj (iI q + r_24) (iS x) r_25 u_23) (iI p)) (iI ((a : Int) - 1)))
  rw [Nat.zero_add] at g
  refine g (fun g2 hg3 hg4 => ?_)
  refine s7_width (by omega) ?_
  refine s6_suf hp ?_
  have ew : iI (q : Int) + iI (if a = 0 then 0 else 1) = iI ((q + wdt a : Nat) : Int) := by
    rw [iI_add]
    refine congrArg iI ?_
    unfold wdt
    split <;> omega
  have e1 : iI (q : Int) + 1 = iI ((q + 1 : Nat) : Int) := by
    rw [show (1 : Int32) = iI 1 from rfl, iI_add]
    exact congrArg iI (by omega)
  rw [ew, e1, b2]
  have g' := s6_gain (f := im x) (Ad := Ad) (G := fun y => 0 + psg p * vs (Ad y) (im x) 0 q) (t := sz) (a := q + wdt a) (n := il x - (q + wdt a)) (sg := ssg p) (L := iL x) (adj := adj) (gains := g2) hs (by omega) (fun j hj => ⟨(b3 j (by omega)).2, (b3 j (by omega)).1⟩) hA (fun y hy => hg3 y hy) hsb (post := fun u_26 => K39 (upd ends sz (iI x)) u_26 (iI ((sz + 1 : Nat) : Int)) (iI x) (iI ((q + 1 : Nat) : Int)))
  rw [Nat.add_sub_cancel' hok2] at g'
  refine g' (fun g3 hg5 hg6 => ?_)
  refine h _ _ (fun t ht => ?_)
  by_cases c : t = sz
  · subst c
    rw [vu_s, vu_s, pk_us]
    refine ⟨congrArg iI (by omega), fun y hy => ?_, by omega, hok⟩
    rw [hg5 y hy]
    refine congrArg iI ?_
    unfold GS
    rw [vs_cn q (fun j hj => (b3 _ (by omega)).1), vs_cn _ (fun j hj => (b3 _ (by omega)).1), Int.zero_add]
    simp only [bef, beh, hsz, Nat.add_sub_cancel]
  · rw [vu_n c, vu_n c, pk_un c]
    obtain ⟨c1, c2, c3, c4⟩ := hS t (by omega)
    refine ⟨c1, fun y hy => ?_, c3, c4⟩
    rw [hg6 _ (by omega), hg4 _ (by omega), hg2 _ (by omega)]
    exact c2 y hy
def CPL (N : Nat) (ok : Nat → Nat → Prop) (x c sz : Nat) (En Cu : Nat → Nat) : Prop := ∀ A q, A ≤ N → ok A q → (A = 0 ∨ A - 1 < x ∨ (A - 1 = x ∧ q < c)) → ∃ t, t < sz ∧ En t = A ∧ Cu t = q
theorem CPL_add {N : Nat} {ok : Nat → Nat → Prop} {x c sz : Nat} {En Cu : Nat → Nat} (h : CPL N ok x c sz En Cu) : CPL N ok x (c + 1) (sz + 1) (va_up En sz (x + 1)) (va_up Cu sz c) := by
  intro A q h1 h2 h3
  by_cases d : A - 1 = x ∧ q = c ∧ A ≠ 0
  · exact ⟨sz, by omega, by rw [vu_s]; omega, by rw [vu_s]; omega⟩
  · obtain ⟨t, t1, t2, t3⟩ := h A q h1 h2 (by omega)
    exact ⟨t, by omega, by rw [vu_n (by omega)]; exact t2, by rw [vu_n (by omega)]; exact t3⟩
theorem CPL_skip {N : Nat} {ok : Nat → Nat → Prop} {x c sz : Nat} {En Cu : Nat → Nat} (h : CPL N ok x c sz En Cu) (hn : ¬ ok (x + 1) c) : CPL N ok x (c + 1) sz En Cu := by
  intro A q h1 h2 h3
  by_cases d : A - 1 = x ∧ q = c ∧ A ≠ 0
  · obtain ⟨d1, rfl, d3⟩ := d
    have : A = x + 1 := by omega
    subst this
    exact absurd h2 hn
  · exact h A q h1 h2 (by omega)
/-- the splits of an end -/
theorem s6_find {post : (Nat → Int32) → (Nat → Int32) → Int32 → Prop} {N p a : Nat} {Ad : Nat → Nat → Int} {il : Nat → Nat} {im : Nat → Nat → Nat} {iL : Nat → Nat → Int32} {iS adj ends gains : Nat → Int32} {s0 : Int32} (hN : N ≤ 4) (hp : p < 3) (ha : a ≤ N)
    (hI : ∀ x, x < 4 → il x ≤ 4 ∧ iS x = iI (il x) ∧ ∀ j, j < il x → im x j < 4 ∧ iL x j = iI (im x j)) (hA : ∀ y, y < 4 → ∀ x, x < 4 → adj (4 * y + x) = iI (Ad y x))
    (h : ∀ ends' gains' sz En Cu, sz ≤ 21 → SPI N (fun A q => cutOK il im A a q) (GS Ad il im p a) sz En Cu ends' gains' → (∀ A q, A ≤ N → cutOK il im A a q → ∃ t, t < sz ∧ En t = A ∧ Cu t = q) → post ends' gains' (iI ((sz : Nat) : Int))) :
    VX6_find post (iI p) (iI N) iL iS adj (iI ((a : Int) - 1)) ends gains s0 := by
  have hw : wdt a ≤ 1 := by
    unfold wdt
    split <;> omega
  have inner : ∀ (K18 : (Nat → Int32) → (Nat → Int32) → Int32 → Int32 → Prop) (x : Nat), x < N → (∀ ends' gains' sz En Cu, sz ≤ 1 + 5 * (x + 1) → SPI N (fun A q => cutOK il im A a q) (GS Ad il im p a) sz En Cu ends' gains' → CPL N (fun A q => cutOK il im A a q) (x + 1) 0 sz En Cu → K18 ends' gains' (iI ((sz : Nat) : Int)) (iI ((x + 1 : Nat) : Int))) → ∀ (r c : Nat) (ends gains : Nat → Int32) (sz : Nat) (En Cu : Nat → Nat) (x6 : Int32), c + r = il x + 1 → x6 = iI c → sz ≤ 1 + 5 * x + c → SPI N (fun A q => cutOK il im A a q) (GS Ad il im p a) sz En Cu ends gains → CPL N (fun A q => cutOK il im A a q) x c sz En Cu → VX6_find_39 post K18 (iI p) (iI N) iL iS adj (iI ((a : Int) - 1)) (r + 1) ends gains (iI sz) (iI x) x6 := by
    intro K18 x hx hk r
    obtain ⟨b1, b2, b3⟩ := hI x (by omega)
    have hsz : szE il (x + 1) = il x := by
      unfold szE
      rw [if_neg (by omega), Nat.add_sub_cancel]
    have cl : (iI (x : Int)).toNatClampNeg = x := by rw [iI_clamp (by omega) (by omega), Int.toNat_natCast]
    induction r with
    | zero =>
      intro c ends gains sz En Cu x6 hc e6 hs hS hC
      subst e6
      rw [VX6_find_39]
      refine s7_width (by omega) ?_
      rw [cl, b2]
      have ew : iI (c : Int) + iI (if a = 0 then 0 else 1) = iI ((c + wdt a : Nat) : Int) := by
        rw [iI_add]
        refine congrArg iI ?_
        unfold wdt
        split <;> omega
      rw [ew]
      have e1 : (x : Int) + 1 = ((x + 1 : Nat) : Int) := by omega
      simp (disch := omega) only [e1, iI_lit, lI_lit, iI_nI, iI_add, iI_sub, iI_mul, iI_neg, c_lt_t, c_lt_f, c_le_t, c_le_f, c_eq_t, c_eq_f, c_in_t, iI_clamp, Int.toNat_natCast, forall_eq, true_and, and_true, false_and, and_false, not_true_eq_false, not_false_eq_true, true_implies, false_implies, implies_true, forall_const, true_or, or_true, false_or, or_false, pk_us, vu_s, vL_s, vb_0, vb_1, if_true, if_false, ite_true, ite_false]
      refine hk _ _ _ _ _ (by omega) hS (fun A q h1 h2 h3 => hC A q h1 h2 ?_)
      have h4 := h2.1
      by_cases d : A - 1 = x ∧ A ≠ 0
      · have : A = x + 1 := by omega
        rw [this, hsz] at h4
        omega
      · omega
    | succ r ih =>
      intro c ends gains sz En Cu x6 hc e6 hs hS hC
      subst e6
      rw [VX6_find_39]
      refine s7_width (by omega) ?_
      rw [cl, b2]
      have ew : iI (c : Int) + iI (if a = 0 then 0 else 1) = iI ((c + wdt a : Nat) : Int) := by
        rw [iI_add]
        refine congrArg iI ?_
        unfold wdt
        split <;> omega
      rw [ew]
      have e1 : (x : Int) + 1 = ((x + 1 : Nat) : Int) := by omega
      have e2 : (c : Int) + 1 = ((c + 1 : Nat) : Int) := by omega
      by_cases c1 : il x < c + wdt a
      · simp (disch := omega) only [e1, iI_lit, lI_lit, iI_nI, iI_add, iI_sub, iI_mul, iI_neg, c_lt_t, c_lt_f, c_le_t, c_le_f, c_eq_t, c_eq_f, c_in_t, iI_clamp, Int.toNat_natCast, forall_eq, true_and, and_true, false_and, and_false, not_true_eq_false, not_false_eq_true, true_implies, false_implies, implies_true, forall_const, true_or, or_true, false_or, or_false, pk_us, vu_s, vL_s, vb_0, vb_1, if_true, if_false, ite_true, ite_false]
        refine hk _ _ _ _ _ (by omega) hS (fun A q h1 h2 h3 => hC A q h1 h2 ?_)
        have h4 := h2.1
        by_cases d : A - 1 = x ∧ A ≠ 0
        · have : A = x + 1 := by omega
          rw [this, hsz] at h4
          omega
        · omega
      · by_cases c2 : a = 0
        · have hok : cutOK il im (x + 1) a c := ⟨by rw [hsz]; omega, fun q => absurd c2 q⟩
          have c2' : (a : Int) - 1 = -1 := by omega
          have g := s6_71 (post := post) (K39 := fun t_ends t_gains t_size x4 x6 => VX6_find_39 post K18 (iI p) (iI N) iL iS adj (iI ((a : Int) - 1)) (r + 1) t_ends t_gains t_size x4 x6) hN hp ha hx (by omega) hI hA hok hS (fun ends' gains' hS' => ih (c + 1) _ _ (sz + 1) _ _ _ (by omega) rfl (by omega) hS' (CPL_add hC))
          refine ⟨fun q => absurd ((iI_lt (by omega) (by omega) (by omega) (by omega)).mp q) (by omega), fun _ => ⟨fun _ => g, fun q => absurd (by rw [c2']; rfl) q⟩⟩
        · have hw1 : wdt a = 1 := by
            unfold wdt
            rw [if_neg c2]
          obtain ⟨l1, l2⟩ := b3 c (by omega)
          refine ⟨fun q => absurd ((iI_lt (by omega) (by omega) (by omega) (by omega)).mp q) (by omega), fun _ => ⟨fun q => absurd ((iI_eq (by omega) (by omega) (by omega) (by omega)).mp (q.trans (show (-1 : Int32) = iI (-1) from rfl))) (by omega), fun _ => ⟨(iI_in (by omega) (by omega)).mpr ⟨by omega, by omega⟩, ?_⟩⟩⟩
          rw [iI_clamp (by omega) (by omega), Int.toNat_natCast, l2]
          rintro y rfl
          by_cases c3 : im x c + 1 = a
          · have hok : cutOK il im (x + 1) a c := ⟨by rw [hsz]; omega, fun _ => by rw [Nat.add_sub_cancel]; exact c3⟩
            refine ⟨fun q => absurd ((iI_eq (by omega) (by omega) (by omega) (by omega)).mpr (by omega)) q, fun _ => ?_⟩
            exact s6_71 hN hp ha hx (by omega) hI hA hok hS (fun ends' gains' hS' => ih (c + 1) _ _ (sz + 1) _ _ _ (by omega) rfl (by omega) hS' (CPL_add hC))
          · have hnok : ¬ cutOK il im (x + 1) a c := by
              intro q
              have := q.2 c2
              rw [Nat.add_sub_cancel] at this
              exact c3 this
            refine ⟨fun _ => ?_, fun q => absurd ((iI_eq (by omega) (by omega) (by omega) (by omega)).mp q) (by omega)⟩
            rw [show (1 : Int32) = iI 1 from rfl, iI_add]
            exact ih (c + 1) _ _ sz _ _ _ (by omega) (congrArg iI (by omega)) (by omega) hS (CPL_skip hC hnok)
  have outer : ∀ (r x : Nat) (ends gains : Nat → Int32) (sz : Nat) (En Cu : Nat → Nat) (x4 : Int32), x + r = N → x4 = iI x → sz ≤ 1 + 5 * x → SPI N (fun A q => cutOK il im A a q) (GS Ad il im p a) sz En Cu ends gains → CPL N (fun A q => cutOK il im A a q) x 0 sz En Cu → VX6_find_18 post (iI p) (iI N) iL iS adj (iI ((a : Int) - 1)) (r + 1) ends gains (iI sz) x4 := by
    intro r
    induction r with
    | zero =>
      intro x ends gains sz En Cu x4 hx e4 hs hS hC
      have : x = N := by omega
      subst this e4
      rw [VX6_find_18]
      simp (disch := omega) only [iI_lit, lI_lit, iI_nI, iI_add, iI_sub, iI_mul, iI_neg, c_lt_t, c_lt_f, c_le_t, c_le_f, c_eq_t, c_eq_f, c_in_t, iI_clamp, Int.toNat_natCast, forall_eq, true_and, and_true, false_and, and_false, not_true_eq_false, not_false_eq_true, true_implies, false_implies, implies_true, forall_const, true_or, or_true, false_or, or_false, pk_us, vu_s, vL_s, vb_0, vb_1, if_true, if_false, ite_true, ite_false]
      exact h _ _ sz En Cu (by omega) hS (fun A q h1 h2 => hC A q h1 h2 (by omega))
    | succ r ih =>
      intro x ends gains sz En Cu x4 hx e4 hs hS hC
      subst e4
      rw [VX6_find_18]
      refine ⟨fun q => absurd ((iI_le (by omega) (by omega) (by omega) (by omega)).mp q) (by omega), fun _ => ⟨(iI_in (by omega) (by omega)).mpr ⟨by omega, by omega⟩, ?_⟩⟩
      exact ⟨il x + 1 + 1, inner _ x (by omega) (fun ends' gains' sz' En' Cu' q1 q2 q3 => ih (x + 1) _ _ sz' _ _ _ (by omega) rfl q1 q2 q3) (il x + 1) 0 _ _ sz _ _ _ (by omega) rfl (by omega) hS hC⟩
  unfold VX6_find
  by_cases c : a = 0
  · have c2' : (a : Int) - 1 = -1 := by omega
    refine ⟨fun q => absurd (by rw [c2']; rfl) q, fun _ => ?_⟩
    rw [show (0 : Int32) = iI ((0 : Nat) : Int) from rfl]
    refine s6_put (by omega) (fun g' h1 h2 => ⟨N + 1, outer N 0 _ _ 1 (fun _ => 0) (fun _ => 0) _ (by omega) rfl (by omega) (fun t ht => ?_) (fun A q h1 h2 h3 => ?_)⟩)
    · have : t = 0 := by omega
      subst this
      refine ⟨by rw [pk_us]; rfl, fun y hy => ?_, Nat.zero_le _, ⟨by simp [szE, wdt, c], fun q => absurd c q⟩⟩
      rw [h1 y hy]
      refine congrArg iI ?_
      simp [GS, bef, beh, szE, wdt, c, cn, sm4]
    · have h4 := h2.1
      have : A = 0 := by omega
      subst this
      simp [szE, wdt, c] at h4
      exact ⟨0, by omega, rfl, h4.symm⟩
  · refine ⟨fun _ => ⟨N + 1, outer N 0 _ _ 0 (fun _ => 0) (fun _ => 0) _ (by omega) rfl (by omega) (fun t ht => absurd ht (Nat.not_lt_zero t)) (fun A q h1 h2 h3 => ?_)⟩, fun q => absurd ((iI_eq (by omega) (by omega) (by omega) (by omega)).mp (q.trans (show (-1 : Int32) = iI (-1) from rfl))) (by omega)⟩
    have h4 := h2.1
    have : A = 0 := by omega
    subst this
    simp [szE, wdt, c] at h4
