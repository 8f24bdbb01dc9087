/-! THE REFERENCE: the numbers of a parent -/
theorem s11_rloop {post : Int64 → Prop} {rc : (Int64 → Prop) → Int32 → Int32 → Int32 → Prop} {images sizes wanted : TA} {il : Nat → Nat} {im : Nat → Nat → Nat} {w : Nat → Int} {N row c y : Nat} {C : Nat → Bool} {R : Nat → Int} (hN : N ≤ 4) (hrow : row < N) (hy : y < N) (hc : c < 16) (hC : ∀ j, j < N → (!(bit c j)) = C j) (hI : ∀ j, j < 4 → il j ≤ 4 ∧ sizes j = iI (il j) ∧ ∀ t, t < il j → im j t < 4 ∧ images (4 * j + t) = iI (im j t)) (hw : ∀ x, x < N → wanted x = iI (w x) ∧ -1000 ≤ w x ∧ w x ≤ 1000)
    (hrc : ∀ j, j < N → ∀ p : Int64 → Prop, p (lI (R j)) → rc p (iI y) (iI ((row + 1 : Nat) : Int)) (iI ((stt c j : Nat) : Int))) :
    ∀ (k j : Nat) (s sg : Int) (x4 : Int64) (x6 x7 : Int32), j + k = N → (sg = 1 ∨ sg = -1) → x4 = lI s → x6 = iI sg → x7 = iI j → post (lI (s + lap (fun j => mrep (mM il im) y w row j * R j) C k j sg)) → VX11_replaced_19 post rc (iI N) images sizes wanted (iI y) (iI row) (iI c) (k + 1) x4 x6 x7 := by
  intro k
  induction k with
  | zero =>
    intro j s sg x4 x6 x7 hj hs e4 e6 e7 hp
    have : j = N := by omega
    subst this e4 e6 e7
    rw [VX11_replaced_19]
    simp (disch := omega) only [iI_lit, lI_lit, iI_nI, iI_add, iI_sub, iI_mul, iI_neg, c_lt_t, c_lt_f, c_le_t, c_le_f, c_eq_t, c_eq_f, c_in_t, iI_clamp, Int.toNat_natCast, forall_eq, true_and, and_true, false_and, and_false, not_true_eq_false, not_false_eq_true, true_implies, false_implies, implies_true, forall_const, true_or, or_true, false_or, or_false, pk_us, vu_s, vL_s, vb_0, vb_1, if_true, if_false, ite_true, ite_false]
    simp only [lap, Int.add_zero] at hp
    exact hp
  | succ k ih =>
    intro j s sg x4 x6 x7 hj hs e4 e6 e7 hp
    subst e4 e6 e7
    have er' : iI (row : Int) + iI 1 = iI ((row + 1 : Nat) : Int) := by
      rw [iI_add]
      exact congrArg iI (by omega)
    have hmb := mM_b (il := il) (im := im) (fun x hx => (hI x hx).1) row j (by omega)
    obtain ⟨w1, w2⟩ := hw row hrow
    rw [VX11_replaced_19]
    simp only [lap] at hp
    by_cases cb : C j = true
    · rw [if_pos cb] at hp
      have hb := eq_true (bt_0 c hc j (by omega) (by have := hC j (by omega); rw [cb] at this; simpa using this))
      have hst := bt_set c hc j (by omega)
      have nx : ∀ v : Int, v = mrep (mM il im) y w row j → -1000 ≤ v → v ≤ 1000 → VX11_replaced_59 post (fun x4 x6 x7 => VX11_replaced_19 post rc (iI N) images sizes wanted (iI y) (iI row) (iI c) (k + 1) x4 x6 x7) rc (iI N) images sizes wanted (iI y) (iI row) (iI c) (lI s) (iI sg) (iI j) (iI v) := by
        intro v hv v1 v2
        unfold VX11_replaced_59
        rintro y9 rfl
        rw [show (1 : Int32) = iI 1 from rfl, show (31 : Int32) = iI 31 from rfl, hst, er']
        refine hrc j (by omega) _ ?_
        rintro y11 rfl
        rw [iI_long (by omega) (by omega), iI_long (by omega) (by omega), lI_mul, lI_mul, lI_add, iI_neg, iI_add]
        refine ih (j + 1) (s + sg * v * R j) (-sg) _ _ _ (by omega) (by omega) rfl rfl (congrArg iI (by omega)) ?_
        rw [hv]
        rwa [Int.mul_assoc sg, Int.add_assoc]
      by_cases cy : j = y
      · subst cy
        simp (disch := omega) only [hb, w1, iI_lit, lI_lit, iI_nI, iI_add, iI_sub, iI_mul, iI_neg, c_lt_t, c_lt_f, c_le_t, c_le_f, c_eq_t, c_eq_f, c_in_t, iI_clamp, Int.toNat_natCast, forall_eq, true_and, and_true, false_and, and_false, not_true_eq_false, not_false_eq_true, true_implies, false_implies, implies_true, forall_const, true_or, or_true, false_or, or_false, pk_us, vu_s, vL_s, vb_0, vb_1, if_true, if_false, ite_true, ite_false]
        exact nx (w row) (by rw [mrep, if_pos rfl]) (by omega) (by omega)
      · simp (disch := omega) only [hb, iI_lit, lI_lit, iI_nI, iI_add, iI_sub, iI_mul, iI_neg, c_lt_t, c_lt_f, c_le_t, c_le_f, c_eq_t, c_eq_f, c_in_t, iI_clamp, Int.toNat_natCast, forall_eq, true_and, and_true, false_and, and_false, not_true_eq_false, not_false_eq_true, true_implies, false_implies, implies_true, forall_const, true_or, or_true, false_or, or_false, pk_us, vu_s, vL_s, vb_0, vb_1, if_true, if_false, ite_true, ite_false]
        refine s11_entry (il := il) (im := im) (by omega) (by omega) (hI j (by omega)) ?_
        exact nx (mM il im row j) (by rw [mrep, if_neg cy]) (by omega) (by omega)
    · rw [if_neg cb] at hp
      have hb := eq_false (bt_1 c hc j (by omega) (by have := hC j (by omega); rw [Bool.eq_false_iff.mpr cb] at this; simpa using this))
      simp (disch := omega) only [hb, iI_lit, lI_lit, iI_nI, iI_add, iI_sub, iI_mul, iI_neg, c_lt_t, c_lt_f, c_le_t, c_le_f, c_eq_t, c_eq_f, c_in_t, iI_clamp, Int.toNat_natCast, forall_eq, true_and, and_true, false_and, and_false, not_true_eq_false, not_false_eq_true, true_implies, false_implies, implies_true, forall_const, true_or, or_true, false_or, or_false, pk_us, vu_s, vL_s, vb_0, vb_1, if_true, if_false, ite_true, ite_false]
      exact ih (j + 1) s sg _ _ _ (by omega) hs rfl rfl (congrArg iI (by omega)) hp
theorem s11_replaced {images sizes wanted : TA} {il : Nat → Nat} {im : Nat → Nat → Nat} {w : Nat → Int} {N y : Nat} (hN : N ≤ 4) (hy : y < N) (hI : ∀ j, j < 4 → il j ≤ 4 ∧ sizes j = iI (il j) ∧ ∀ t, t < il j → im j t < 4 ∧ images (4 * j + t) = iI (im j t)) (hw : ∀ x, x < N → wanted x = iI (w x) ∧ -1000 ≤ w x ∧ w x ≤ 1000) :
    ∀ (k d row c : Nat) (C : Nat → Bool) (post : Int64 → Prop), row + k = N → k < d → c < 16 → (∀ j, j < N → (!(bit c j)) = C j) → post (lI (mnr (mrep (mM il im) y w) N (rws N k row) C)) → VX11_replaced (iI N) images sizes wanted d post (iI y) (iI row) (iI c) := by
  intro k
  induction k with
  | zero =>
    intro d row c C post hr hd hc hC hp
    obtain ⟨d', rfl⟩ : ∃ d', d = d' + 1 := ⟨d - 1, by omega⟩
    have : row = N := by omega
    subst this
    rw [VX11_replaced]
    unfold VX11_replaceds
    refine ⟨fun q => absurd rfl q, fun _ => ?_⟩
    exact hp
  | succ k ih =>
    intro d row c C post hr hd hc hC hp
    obtain ⟨d', rfl⟩ : ∃ d', d = d' + 1 := ⟨d - 1, by omega⟩
    rw [VX11_replaced]
    rw [rws, if_neg (by omega)] at hp
    simp (disch := omega) only [VX11_replaceds, iI_lit, lI_lit, iI_nI, iI_add, iI_sub, iI_mul, iI_neg, c_lt_t, c_lt_f, c_le_t, c_le_f, c_eq_t, c_eq_f, c_in_t, iI_clamp, Int.toNat_natCast, forall_eq, true_and, and_true, false_and, and_false, not_true_eq_false, not_false_eq_true, true_implies, false_implies, implies_true, forall_const, true_or, or_true, false_or, or_false, pk_us, vu_s, vL_s, vb_0, vb_1, if_true, if_false, ite_true, ite_false]
    refine ⟨N + 1, s11_rloop (il := il) (im := im) (w := w) (C := C) (R := fun j => mnr (mrep (mM il im) y w) N (rws N k (row + 1)) (fun i => C i && !(i == j))) hN (by omega) hy hc hC hI hw (fun j hj p hpp => ?_) N 0 0 1 _ _ _ (by omega) (Or.inl rfl) rfl rfl rfl ?_⟩
    · exact ih d' (row + 1) (stt c j) _ p (by omega) (by omega) (stt_lt c hc j (by omega)) (fun i hi => by rw [stt_bit c hc j (by omega) i (by omega), hC i hi]) hpp
    · rw [Int.zero_add]
      exact hp
theorem s11_solves {post : Int32 → TA → Prop} {images sizes wanted made : TA} {il : Nat → Nat} {im : Nat → Nat → Nat} {w T : Nat → Int} {dt : Int} {N : Nat} {c0 : Nat → Nat} (hN : 2 ≤ N ∧ N ≤ 4) (hI : ∀ j, j < 4 → il j ≤ 4 ∧ sizes j = iI (il j) ∧ ∀ t, t < il j → im j t < 4 ∧ images (4 * j + t) = iI (im j t)) (hw : ∀ x, x < N → wanted x = iI (w x) ∧ -1000 ≤ w x ∧ w x ≤ 1000) (hT : ∀ y, y < N → dtm (mrep (mM il im) y w) N = T y) (hTb : ∀ y, y < N → -100000000 ≤ T y ∧ T y ≤ 100000000) (hdt : dt ≠ 0) (hdb : -65536 ≤ dt ∧ dt ≤ 65536)
    (hc0 : ∀ k, k < 3 → c0 k ≤ N) (hm : ∀ k, k < 3 → made k = iI ((c0 k : Int) - 1)) (hm0 : ∀ k, 3 ≤ k → k < 7 → made k = iI 0)
    (h1 : ∀ c, PD N (c0 0) (c0 1) (c0 2) dt T c → ∀ m', (∀ k, k < 7 → m' k = iI ((c k : Int) - of7 k)) → post (iI 1) m') (h0 : (¬ ∃ c, PD N (c0 0) (c0 1) (c0 2) dt T c) → ∀ m', (∀ k, k < 3 → m' k = made k) → post (iI 0) m') : VX11_solves post (iI N) images sizes wanted (lI dt) made := by
  have hne : ¬ lI dt = 0 := fun q => hdt ((lI_eq (by omega) (by omega) (by omega) (by omega)).mp (q.trans (show (0 : Int64) = lI 0 from rfl)))
  have loop : ∀ (q y : Nat) (c : Nat → Nat) (m' : TA) (x3 : Int32), y + q = N → x3 = iI y → VD N c → (∀ k, k < 3 → c k = c0 k) → (∀ k, k < 7 → m' k = iI ((c k : Int) - of7 k)) → (∀ z, z < y → ((c (3 + z) : Int) - 9) * dt = T z) → VX11_solves_2 post (iI N) images sizes wanted (lI dt) (q + 1) m' x3 := by
    intro q
    induction q with
    | zero =>
      intro y c m' x3 hy e3 v hc3 hmk hz
      have : y = N := by omega
      subst this e3
      rw [VX11_solves_2]
      simp (disch := omega) only [iI_lit, lI_lit, iI_nI, iI_add, iI_sub, iI_mul, iI_neg, c_lt_t, c_lt_f, c_le_t, c_le_f, c_eq_t, c_eq_f, c_in_t, iI_clamp, Int.toNat_natCast, forall_eq, true_and, and_true, false_and, and_false, not_true_eq_false, not_false_eq_true, true_implies, false_implies, implies_true, forall_const, true_or, or_true, false_or, or_false, pk_us, vu_s, vL_s, vb_0, vb_1, if_true, if_false, ite_true, ite_false]
      exact h1 c ⟨v, hc3 0 (by omega), hc3 1 (by omega), hc3 2 (by omega), hz⟩ m' hmk
    | succ q ih =>
      intro y c m' x3 hy e3 v hc3 hmk hz
      subst e3
      have hs := hTb y (by omega)
      have ht := tq_le (d := dt) hs
      have hmm := tm_le (d := dt) hs
      have keep : ∀ k, k < 3 → m' k = made k := by
        intro k hk
        rw [hmk k (by omega), hm k hk, hc3 k hk]
        unfold of7
        rw [if_pos hk]
      rw [VX11_solves_2]
      refine ⟨fun q => absurd ((iI_le (by omega) (by omega) (by omega) (by omega)).mp q) (by omega), fun _ => ?_⟩
      rw [show (0 : Int32) = iI ((0 : Nat) : Int) from rfl]
      refine s11_replaced (w := w) hN.2 (show y < N by omega) hI hw N 8 0 0 (fun _ => true) _ (by omega) (by omega) (by omega) (fun j hj => by
        have : ∀ j, j < 4 → (!(bit 0 j)) = true := by decide
        exact this j (by omega)) ?_
      have e0 : mnr (mrep (mM il im) y w) N (rws N N 0) (fun _ => true) = T y := hT y (by omega)
      have ed : lI (T y) / lI dt = lI ((T y).tdiv dt) := lI_div (by omega) (by omega) (by omega) (by omega)
      rw [e0, ed, lI_mul, lI_sub]
      have z64 : (0 : Int64) = lI 0 := rfl
      refine ⟨hne, fun cc => ?_, fun cc => ⟨hne, ?_⟩⟩
      · refine h0 (fun ⟨c', v', _, _, _, hz'⟩ => cc ?_) m' keep
        have hzy := hz' y (by omega)
        rcases tq (s := T y) (d := dt) with t1 | t1
        · rw [t1, Int.sub_self]
          exact (lg_cmp_eq _ _).mpr rfl
        · exact absurd hzy (t1 _)
      · have c1 := (lI_eq (by omega) (by omega) (by omega) (by omega)).mp (((lg_cmp_eq _ _).mp cc).trans z64)
        rintro y5 rfl
        have e5 : (if 0 < lI ((T y).tdiv dt) then lI ((T y).tdiv dt) else -lI ((T y).tdiv dt)) = lI (((T y).tdiv dt).natAbs : Int) := by
          rw [z64]
          by_cases c : 0 < (T y).tdiv dt
          · rw [if_pos ((lI_lt (by omega) (by omega) (by omega) (by omega)).mpr c)]
            exact congrArg lI (by omega)
          · rw [if_neg (fun q => c ((lI_lt (by omega) (by omega) (by omega) (by omega)).mp q)), lI_neg]
            exact congrArg lI (by omega)
        rw [e5]
        have n64 : (9 : Int64) = lI 9 := rfl
        by_cases c9 : ((T y).tdiv dt).natAbs ≤ 9
        · have hin : vp_in ((3 : Int32) + iI (y : Int)) 7 := by
            rw [show (3 : Int32) = iI 3 from rfl, iI_add]
            exact (iI_in (by omega) (by omega)).mpr ⟨by omega, by omega⟩
          refine ⟨fun _ => ⟨hne, hin, ?_⟩, fun q => absurd ((lg_cmp_le _ _).mpr (by rw [n64, lI_le (by omega) (by omega) (by omega) (by omega)]; omega)) q⟩
          have e3 : ((3 : Int32) + iI (y : Int)).toNatClampNeg = 3 + y := by
            rw [show (3 : Int32) = iI 3 from rfl, iI_add, iI_clamp (by omega) (by omega)]
            omega
          have e32 : (lI ((T y).tdiv dt)).toInt32 = iI ((T y).tdiv dt) := Int64.toInt32_ofInt
          rw [e3, e32, show (1 : Int32) = iI 1 from rfl, iI_add]
          obtain ⟨m, hm9⟩ : ∃ m : Nat, (m : Int) = (T y).tdiv dt + 9 := ⟨((T y).tdiv dt + 9).toNat, by omega⟩
          refine ih (y + 1) (va_up c (3 + y) m) _ _ (by omega) (congrArg iI (by omega)) ⟨fun t ht => ?_, fun t ht1 ht2 => ?_, fun t ht => ?_⟩ (fun k hk => by rw [vu_n (by omega)]; exact hc3 k hk) (fun k hk => ?_) (fun z hz1 => ?_)
          · rw [vu_n (by omega)]
            exact v.1 t ht
          · by_cases e : t = 3 + y
            · rw [e, vu_s]
              omega
            · rw [vu_n e]
              exact v.2.1 t ht1 ht2
          · rw [vu_n (by omega)]
            exact v.2.2 t ht
          · by_cases e : k = 3 + y
            · rw [e, vu_s, pk_us, hm9]
              unfold of7
              rw [if_neg (by omega)]
              exact congrArg iI (by omega)
            · rw [vu_n e, pk_un e]
              exact hmk k hk
          · by_cases e : z = y
            · rw [e, vu_s, hm9, Int.add_sub_cancel]
              omega
            · rw [vu_n (by omega)]
              exact hz z (by omega)
        · refine ⟨fun q => absurd ((lg_cmp_le _ _).mp q) (by rw [n64, lI_le (by omega) (by omega) (by omega) (by omega)]; omega), fun _ => ?_⟩
          refine h0 (fun ⟨c', v', _, _, _, hz'⟩ => ?_) m' keep
          have hzy := hz' y (by omega)
          have c2 : (T y).tdiv dt * dt = T y := by omega
          rw [← c2] at hzy
          have := Int.eq_of_mul_eq_mul_right hdt hzy
          have := v'.2.1 (3 + y) (by omega) (by omega)
          omega
  refine ⟨N + 1, loop N 0 (fun k => if k < 3 then c0 k else 9) made _ (by omega) rfl ⟨fun t ht => by simp only [ht, if_true]; exact hc0 t ht, fun t h1 h2 => by simp only [show ¬ t < 3 by omega, if_false]; omega, fun t ht => by simp only [show ¬ t < 3 by omega, if_false]⟩ (fun k hk => by simp only [hk, if_true]) (fun k hk => ?_) (fun z hz => absurd hz (Nat.not_lt_zero z))⟩
  by_cases c : k < 3
  · simp only [c, if_true, of7]
    exact hm k c
  · simp only [c, if_false, of7]
    exact hm0 k (by omega) hk
/-! cuts and parts of images -/
theorem s11_endSize {post : Int32 → Prop} {sizes : TA} {il : Nat → Nat} {A : Nat} (hA : A ≤ 4) (hs : ∀ j, j < 4 → sizes j = iI (il j)) (h : post (iI (szE il A))) : VX11_endSize post sizes (iI ((A : Int) - 1)) := by
  unfold szE at h
  by_cases c : A = 0
  · rw [if_pos c] at h
    simp (disch := omega) only [VX11_endSize, iI_lit, lI_lit, iI_nI, iI_add, iI_sub, iI_mul, iI_neg, c_lt_t, c_lt_f, c_le_t, c_le_f, c_eq_t, c_eq_f, c_in_t, iI_clamp, Int.toNat_natCast, forall_eq, true_and, and_true, false_and, and_false, not_true_eq_false, not_false_eq_true, true_implies, false_implies, implies_true, forall_const, true_or, or_true, false_or, or_false, pk_us, vu_s, vL_s, vb_0, vb_1, if_true, if_false, ite_true, ite_false]
    exact h
  · rw [if_neg c] at h
    have e : (A : Int) - 1 = ((A - 1 : Nat) : Int) := by omega
    have a := hs (A - 1) (by omega)
    simp (disch := omega) only [VX11_endSize, e, a, iI_lit, lI_lit, iI_nI, iI_add, iI_sub, iI_mul, iI_neg, c_lt_t, c_lt_f, c_le_t, c_le_f, c_eq_t, c_eq_f, c_in_t, iI_clamp, Int.toNat_natCast, forall_eq, true_and, and_true, false_and, and_false, not_true_eq_false, not_false_eq_true, true_implies, false_implies, implies_true, forall_const, true_or, or_true, false_or, or_false, pk_us, vu_s, vL_s, vb_0, vb_1, if_true, if_false, ite_true, ite_false]
    exact h
section
variable {images sizes : TA} {il : Nat → Nat} {im : Nat → Nat → Nat} (hI : ∀ j, j < 4 → il j ≤ 4 ∧ sizes j = iI (il j) ∧ ∀ t, t < il j → im j t < 4 ∧ images (4 * j + t) = iI (im j t))
theorem szE_le {il : Nat → Nat} {A : Nat} (hI : ∀ j, j < 4 → il j ≤ 4) (hA : A ≤ 4) : szE il A ≤ 4 := by
  unfold szE
  split
  · omega
  · exact hI _ (by omega)
theorem s11_isCut {post : Int32 → Prop} {images sizes : TA} {il : Nat → Nat} {im : Nat → Nat → Nat} {A a q : Nat} (hI : ∀ j, j < 4 → il j ≤ 4 ∧ sizes j = iI (il j) ∧ ∀ t, t < il j → im j t < 4 ∧ images (4 * j + t) = iI (im j t)) (hA : A ≤ 4) (ha : a ≤ 4) (hq : q < 5) (h1 : cutOK il im A a q → post (iI 1)) (h0 : ¬ cutOK il im A a q → post (iI 0)) : VX11_isCut post images sizes (iI ((A : Int) - 1)) (iI ((a : Int) - 1)) (iI q) := by
  have hsz := szE_le (il := il) (fun j hj => (hI j hj).1) hA
  unfold VX11_isCut
  refine s11_endSize hA (fun j hj => (hI j hj).2.1) ?_
  by_cases c : a = 0
  · have hw : wdt a = 0 := by
      unfold wdt
      rw [if_pos c]
    by_cases d : szE il A < q
    · simp (disch := omega) only [iI_lit, lI_lit, iI_nI, iI_add, iI_sub, iI_mul, iI_neg, c_lt_t, c_lt_f, c_le_t, c_le_f, c_eq_t, c_eq_f, c_in_t, iI_clamp, Int.toNat_natCast, forall_eq, true_and, and_true, false_and, and_false, not_true_eq_false, not_false_eq_true, true_implies, false_implies, implies_true, forall_const, true_or, or_true, false_or, or_false, pk_us, vu_s, vL_s, vb_0, vb_1, if_true, if_false, ite_true, ite_false]
      exact h0 (fun q => by have := q.1; omega)
    · simp (disch := omega) only [iI_lit, lI_lit, iI_nI, iI_add, iI_sub, iI_mul, iI_neg, c_lt_t, c_lt_f, c_le_t, c_le_f, c_eq_t, c_eq_f, c_in_t, iI_clamp, Int.toNat_natCast, forall_eq, true_and, and_true, false_and, and_false, not_true_eq_false, not_false_eq_true, true_implies, false_implies, implies_true, forall_const, true_or, or_true, false_or, or_false, pk_us, vu_s, vL_s, vb_0, vb_1, if_true, if_false, ite_true, ite_false]
      exact h1 ⟨by omega, fun q => absurd c q⟩
  · have hw : wdt a = 1 := by
      unfold wdt
      rw [if_neg c]
    by_cases d : szE il A ≤ q
    · simp (disch := omega) only [iI_lit, lI_lit, iI_nI, iI_add, iI_sub, iI_mul, iI_neg, c_lt_t, c_lt_f, c_le_t, c_le_f, c_eq_t, c_eq_f, c_in_t, iI_clamp, Int.toNat_natCast, forall_eq, true_and, and_true, false_and, and_false, not_true_eq_false, not_false_eq_true, true_implies, false_implies, implies_true, forall_const, true_or, or_true, false_or, or_false, pk_us, vu_s, vL_s, vb_0, vb_1, if_true, if_false, ite_true, ite_false]
      exact h0 (fun q => by have := q.1; omega)
    · have hA0 : A ≠ 0 := by
        intro e
        rw [szE, if_pos e] at d
        omega
      have hse : szE il A = il (A - 1) := by rw [szE, if_neg hA0]
      obtain ⟨-, -, b3⟩ := hI (A - 1) (by omega)
      obtain ⟨l1, l2⟩ := b3 q (by omega)
      have e : (A : Int) - 1 = ((A - 1 : Nat) : Int) := by omega
      have e4 : (4 * ((A - 1 : Nat) : Int) + (q : Int)).toNat = 4 * (A - 1) + q := by omega
      by_cases f : im (A - 1) q + 1 = a
      · have f' : ((im (A - 1) q : Nat) : Int) = (a : Int) - 1 := by omega
        simp (disch := omega) only [e, e4, l2, f', iI_lit, lI_lit, iI_nI, iI_add, iI_sub, iI_mul, iI_neg, c_lt_t, c_lt_f, c_le_t, c_le_f, c_eq_t, c_eq_f, c_in_t, iI_clamp, Int.toNat_natCast, forall_eq, true_and, and_true, false_and, and_false, not_true_eq_false, not_false_eq_true, true_implies, false_implies, implies_true, forall_const, true_or, or_true, false_or, or_false, pk_us, vu_s, vL_s, vb_0, vb_1, if_true, if_false, ite_true, ite_false]
        exact h1 ⟨by omega, fun _ => f⟩
      · simp (disch := omega) only [e, e4, l2, iI_lit, lI_lit, iI_nI, iI_add, iI_sub, iI_mul, iI_neg, c_lt_t, c_lt_f, c_le_t, c_le_f, c_eq_t, c_eq_f, c_in_t, iI_clamp, Int.toNat_natCast, forall_eq, true_and, and_true, false_and, and_false, not_true_eq_false, not_false_eq_true, true_implies, false_implies, implies_true, forall_const, true_or, or_true, false_or, or_false, pk_us, vu_s, vL_s, vb_0, vb_1, if_true, if_false, ite_true, ite_false]
        exact h0 (fun q => f (q.2 c))
theorem s11_inPart {post : Int32 → Prop} {images : TA} {f : Nat → Nat} {A a n x : Nat} (hA : 1 ≤ A ∧ A ≤ 4) (hn : a + n ≤ 4) (hx : x < 1000) (hI : ∀ t, t < a + n → f t < 4 ∧ images (4 * (A - 1) + t) = iI (f t)) (h : post (iI (cn f x a n))) : VX11_inPart post images (iI ((A : Int) - 1)) (iI a) (iI ((a + n : Nat) : Int)) (iI x) := by
  have e : (A : Int) - 1 = ((A - 1 : Nat) : Int) := by omega
  rw [e]
  have loop : ∀ (q m : Nat) (x5 x6 : Int32), m + q = n → x5 = iI (cn f x a m) → x6 = iI ((a + m : Nat) : Int) → VX11_inPart_6 post images (iI ((A - 1 : Nat) : Int)) (iI a) (iI ((a + n : Nat) : Int)) (iI x) (q + 1) x5 x6 := by
    intro q
    induction q with
    | zero =>
      intro m x5 x6 hm e5 e6
      have : m = n := by omega
      subst this e5 e6
      rw [VX11_inPart_6]
      simp (disch := omega) only [iI_lit, lI_lit, iI_nI, iI_add, iI_sub, iI_mul, iI_neg, c_lt_t, c_lt_f, c_le_t, c_le_f, c_eq_t, c_eq_f, c_in_t, iI_clamp, Int.toNat_natCast, forall_eq, true_and, and_true, false_and, and_false, not_true_eq_false, not_false_eq_true, true_implies, false_implies, implies_true, forall_const, true_or, or_true, false_or, or_false, pk_us, vu_s, vL_s, vb_0, vb_1, if_true, if_false, ite_true, ite_false]
      exact h
    | succ q ih =>
      intro m x5 x6 hm e5 e6
      subst e5 e6
      obtain ⟨l1, l2⟩ := hI (a + m) (by omega)
      have e4 : (4 * ((A - 1 : Nat) : Int) + ((a + m : Nat) : Int)).toNat = 4 * (A - 1) + (a + m) := by omega
      rw [VX11_inPart_6]
      by_cases c : f (a + m) = x
      · simp (disch := omega) only [e4, l2, iI_lit, lI_lit, iI_nI, iI_add, iI_sub, iI_mul, iI_neg, c_lt_t, c_lt_f, c_le_t, c_le_f, c_eq_t, c_eq_f, c_in_t, iI_clamp, Int.toNat_natCast, forall_eq, true_and, and_true, false_and, and_false, not_true_eq_false, not_false_eq_true, true_implies, false_implies, implies_true, forall_const, true_or, or_true, false_or, or_false, pk_us, vu_s, vL_s, vb_0, vb_1, if_true, if_false, ite_true, ite_false]
        exact ih (m + 1) _ _ (by omega) (congrArg iI (by simp only [cn, c, if_true]; omega)) (congrArg iI (by omega))
      · simp (disch := omega) only [e4, l2, iI_lit, lI_lit, iI_nI, iI_add, iI_sub, iI_mul, iI_neg, c_lt_t, c_lt_f, c_le_t, c_le_f, c_eq_t, c_eq_f, c_in_t, iI_clamp, Int.toNat_natCast, forall_eq, true_and, and_true, false_and, and_false, not_true_eq_false, not_false_eq_true, true_implies, false_implies, implies_true, forall_const, true_or, or_true, false_or, or_false, pk_us, vu_s, vL_s, vb_0, vb_1, if_true, if_false, ite_true, ite_false]
        exact ih (m + 1) _ _ (by omega) (congrArg iI (by simp only [cn, c, if_false]; omega)) (congrArg iI (by omega))
  exact ⟨n + 1, loop n 0 _ _ (by omega) rfl rfl⟩
theorem s11_inPart0 {post : Int32 → Prop} {images : TA} {A x : Int32} {a : Nat} (ha : a < 100) (h : post (iI 0)) : VX11_inPart post images A (iI a) (iI a) x := by
  refine ⟨1, ?_⟩
  rw [VX11_inPart_6]
  simp (disch := omega) only [iI_lit, lI_lit, iI_nI, iI_add, iI_sub, iI_mul, iI_neg, c_lt_t, c_lt_f, c_le_t, c_le_f, c_eq_t, c_eq_f, c_in_t, iI_clamp, Int.toNat_natCast, forall_eq, true_and, and_true, false_and, and_false, not_true_eq_false, not_false_eq_true, true_implies, false_implies, implies_true, forall_const, true_or, or_true, false_or, or_false, pk_us, vu_s, vL_s, vb_0, vb_1, if_true, if_false, ite_true, ite_false]
  exact h
end
