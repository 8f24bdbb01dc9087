/-! THE CLOSURE AND ITS TEMPLATES: both sides -/
def RCl (rem : TA) (size letters : Int32) (kept : TA) (keptMany keptLetters : Int32) : Prop := ∃ (n Nk : Nat) (ok : Nat → Nat), n ≤ 200 ∧ (2 ≤ Nk ∧ Nk ≤ 4) ∧ size = iI n ∧ keptMany = iI n ∧ (n = 0 ∨ (letters = iI Nk ∧ keptLetters = iI Nk)) ∧ (∀ i, i < n → rem i = iI (ok i) ∧ ∃ c, VD Nk c ∧ ok i = kk c (3 + Nk)) ∧ FCe Nk n ok kept
theorem L_computeClosure {N : Nat} (hN : 2 ≤ N ∧ N ≤ 4) {iL : Nat → TA} {iS images sizes : TA} (hI : EI N iL iS images sizes) {rem kept : TA} {size letters keptMany keptLetters : Int32} (hR : RCl rem size letters kept keptMany keptLetters) (ent : TA) (esz : Int32) (o f : TA) (m : Int32) (ce cm aj : TA) (dv bl : Int32) (base e0 g0 : TA) (z0 : Int32) (e1 g1 : TA) (z1 : Int32) (e2 g2 : TA) (z2 : Int32) (fo : TA) (fm : Int32) (ma cu wa dn ch : TA) (fl : Int32)
    {P : Int32 → TA → Int32 → TA → Int32 → Int32 → TA → TA → Int32 → TA → TA → TA → Int32 → Int32 → TA → TA → TA → Int32 → TA → TA → Int32 → TA → TA → Int32 → Int32 → TA → Int32 → TA → Int32 → Int32 → TA → TA → TA → TA → TA → Int32 → Prop}
    (hP : ∀ r a1 a2 rem' sz' lt' a3 a4 a5 a6 a7 a8 a9 a10 a11 a12 a13 a14 a15 a16 a17 a18 a19 a20 b1 b2 kept' km' kl' b3 b4 b5 b6 b7 b8, RCl rem' sz' lt' kept' km' kl' → P r a1 a2 rem' sz' lt' a3 a4 a5 a6 a7 a8 a9 a10 a11 a12 a13 a14 a15 a16 a17 a18 a19 a20 r b1 b2 kept' km' kl' b3 b4 b5 b6 b7 b8) :
    VX10_computeClosure (fun r a1 a2 rem' sz' lt' a3 a4 a5 a6 a7 a8 a9 a10 a11 a12 a13 a14 a15 a16 a17 a18 a19 a20 => VX11_computeClosure (fun r2 b1 b2 kept' km' kl' b3 b4 b5 b6 b7 b8 => P r a1 a2 rem' sz' lt' a3 a4 a5 a6 a7 a8 a9 a10 a11 a12 a13 a14 a15 a16 a17 a18 a19 a20 r2 b1 b2 kept' km' kl' b3 b4 b5 b6 b7 b8) (iI N) images sizes fo fm kept keptMany keptLetters ma cu wa dn ch fl) (iI N) iL iS (iI 0) (iI 1) (iI 2) ent esz rem size letters o f m ce cm aj dv bl base e0 g0 z0 e1 g1 z1 e2 g2 z2 := by
  obtain ⟨il, im, hIm⟩ := hI
  have hIc : ∀ x, x < 4 → il x ≤ 4 ∧ iS x = iI (il x) ∧ ∀ j, j < il x → im x j < 4 ∧ iL x j = iI (im x j) := fun x hx => ⟨(hIm x hx).1, (hIm x hx).2.1, fun j hj => ⟨by have := ((hIm x hx).2.2.2 j hj).1; omega, ((hIm x hx).2.2.2 j hj).2.1⟩⟩
  have hIr : ∀ x, x < 4 → il x ≤ 4 ∧ sizes x = iI (il x) ∧ ∀ j, j < il x → im x j < 4 ∧ images (4 * x + j) = iI (im x j) := fun x hx => ⟨(hIm x hx).1, (hIm x hx).2.2.1, fun j hj => ⟨by have := ((hIm x hx).2.2.2 j hj).1; omega, ((hIm x hx).2.2.2 j hj).2.2⟩⟩
  have hIl : ∀ x, x < 4 → il x ≤ 4 := fun x hx => (hIm x hx).1
  have hdb : -65536 ≤ dtm (mM il im) N ∧ dtm (mM il im) N ≤ 65536 := mnr_b (M := mM il im) hN.2 (fun i j hj => mM_b hIl i j (by omega)) N 0 (fun _ => true)
  unfold VX10_computeClosure
  refine s5_lacks hN.2 (fun x hx => ⟨(hIm x hx).1, (hIm x hx).2.1⟩) (fun q => ?_) (fun q => ?_)
  · refine ⟨fun c => absurd c n10, fun _ => ?_⟩
    unfold VX11_computeClosure
    refine s11_missing hN.2 (fun x hx => ⟨(hIm x hx).1, (hIm x hx).2.2.1⟩) (fun _ => ?_) (fun q2 => ?_)
    · refine ⟨fun c => absurd c n10, fun _ => ?_⟩
      exact hP _ _ _ _ _ _ _ _ _ _ _ _ _ _ _ _ _ _ _ _ _ _ _ _ _ _ _ _ _ _ _ _ _ _ _ hR
    · obtain ⟨x, h1, h2⟩ := q
      exact absurd h2 (q2 x h1)
  · refine ⟨fun _ => ?_, fun c => absurd rfl c⟩
    refine s2_load (il := il) (im := im) hN.2 hIc (fun e' he' => ?_)
    refine s2_whole (M := mM il im) hN.2 (fun i hi j hj => ⟨mM_b hIl i j (by omega), he' i hi j hj⟩) ?_
    have href : ∀ post : Int32 → TA → Int32 → TA → Int32 → Int32 → TA → TA → TA → TA → TA → Int32 → Prop, (dtm (mM il im) N = 0 → post (iI (-8)) fo fm kept keptMany keptLetters ma cu wa dn ch fl) → (dtm (mM il im) N ≠ 0 → ∃ q, VX11_computeClosure_38 post (iI N) images sizes q fo 0 kept keptMany keptLetters ma cu wa dn ch 0 (lI (dtm (mM il im) N)) 0) → VX11_computeClosure post (iI N) images sizes fo fm kept keptMany keptLetters ma cu wa dn ch fl := by
      intro post g1 g2
      unfold VX11_computeClosure
      refine s11_missing hN.2 (fun x hx => ⟨(hIm x hx).1, (hIm x hx).2.2.1⟩) (fun q2 => ?_) (fun _ => ?_)
      · obtain ⟨x, h1, h2⟩ := q2
        exact absurd h2 (q x h1)
      · refine ⟨fun _ => ?_, fun c => absurd rfl c⟩
        rw [show (0 : Int32) = iI ((0 : Nat) : Int) from rfl]
        refine s11_minor (il := il) (im := im) hN.2 hIr N 8 0 0 (fun _ => true) _ (by omega) (by omega) (by omega) (fun j hj => by
          have : ∀ j, j < 4 → (!(bit 0 j)) = true := by decide
          exact this j (by omega)) ?_
        have z64 : (0 : Int64) = lI 0 := rfl
        have ed : mnr (mM il im) N (rws N N 0) (fun _ => true) = dtm (mM il im) N := rfl
        rw [ed]
        refine ⟨fun c => g2 (fun e => c ((lg_cmp_eq _ _).mpr (by rw [e]; rfl))), fun c => g1 ?_⟩
        exact (lI_eq (by omega) (by omega) (by omega) (by omega)).mp (((lg_cmp_eq _ _).mp c).trans z64)
    refine ⟨fun c => ?_, fun c => ?_⟩
    · have hdt : dtm (mM il im) N ≠ 0 := by
        intro e
        apply c
        rw [e]
        rfl
      refine s0_build hN hIc he' hdt (fun hBig a1 a2 a3 a4 a5 a6 a7 a8 a9 a10 a11 a12 a13 a14 a15 a16 a17 a18 => ?_) (fun n ok r' hfin hr' a1 a2 a3 a4 a5 a6 a7 a8 a9 a10 a11 a12 a13 a14 a15 a16 a17 a18 => ?_)
      · refine href _ (fun e => absurd e hdt) (fun _ => s11_closure hN hIr hdt (fun _ b1 b2 b3 b4 b5 b6 b7 b8 => ?_) (fun n rk k' hf => absurd hBig (fun hb => Fin_Big hf hb)))
        exact hP _ _ _ _ _ _ _ _ _ _ _ _ _ _ _ _ _ _ _ _ _ _ _ _ _ _ _ _ _ _ _ _ _ _ _ hR
      · refine href _ (fun e => absurd e hdt) (fun _ => s11_closure hN hIr hdt (fun hBig => absurd hBig (fun hb => Fin_Big hfin hb)) (fun n' rk k' hf hk' b1 b2 b3 b4 b5 b6 b7 b8 => ?_))
        obtain ⟨en, ek⟩ := Fin_eq hfin hf
        subst en
        refine hP _ _ _ _ _ _ _ _ _ _ _ _ _ _ _ _ _ _ _ _ _ _ _ _ _ _ _ _ _ _ _ _ _ _ _ ⟨n, N, ok, hfin.1, hN, rfl, rfl, Or.inr ⟨rfl, rfl⟩, fun i hi => ⟨hr' i hi, rch_VD ((hfin.2.2 (ok i)).mpr ⟨i, hi, rfl⟩)⟩, fun i hi k hk => ?_⟩
        rw [ek i hi]
        exact hk' i hi k hk
    · have hdt : dtm (mM il im) N = 0 := (iI_eq (by omega) (by omega) (by omega) (by omega)).mp (c.trans (show (0 : Int32) = iI 0 from rfl))
      refine href _ (fun _ => ?_) (fun e => absurd hdt e)
      exact hP _ _ _ _ _ _ _ _ _ _ _ _ _ _ _ _ _ _ _ _ _ _ _ _ _ _ _ _ _ _ _ _ _ _ _ hR
theorem L_template {rem kept : TA} {size letters keptMany keptLetters : Int32} (hR : RCl rem size letters kept keptMany keptLetters) (p1 p2 : Int32) (ce cm : TA) {P : Int32 → TA → TA → Int32 → Prop} (hP : ∀ r a b, P r a b r) :
    VX10_template (fun r a b => VX11_template (fun r2 => P r a b r2) kept keptMany keptLetters p1 p2) rem size letters p1 p2 ce cm := by
  obtain ⟨n, Nk, ok, hn, hNk, rfl, rfl, hl, hok, hk⟩ := hR
  rcases ix_cases p1 n (by omega) with ⟨i, hi, rfl⟩ | ⟨z, rfl, h1, h2, h3 | h3⟩
  · obtain ⟨e1, c, hc, ec⟩ := hok i hi
    obtain ⟨rfl, rfl⟩ := hl.resolve_left (by omega)
    have hlt := kk_le hNk hc
    have hd := dig_kk hNk hc
    rw [← ec] at hd hlt
    rcases ix_cases p2 (3 + Nk) (by omega) with ⟨k, hk3, rfl⟩ | ⟨z, rfl, h1, h2, h3 | h3⟩
    · have hb := VD_b hNk.2 hc k
      have hcell := hk i hi k (by omega)
      rw [hd k (by omega)] at hcell
      have e7 : (7 * (i : Int) + (k : Int)).toNat = 7 * i + k := by omega
      have e3 : 3 + (Nk : Int) = ((3 + Nk : Nat) : Int) := by omega
      simp (disch := omega) only [VX10_template, VX0_has, e3, iI_lit, lI_lit, iI_nI, iI_add, iI_sub, iI_mul, iI_neg, c_lt_t, c_lt_f, c_le_t, c_le_f, c_eq_t, c_eq_f, c_in_t, iI_clamp, Int.toNat_natCast, forall_eq, true_and, and_true, false_and, and_false, not_true_eq_false, not_false_eq_true, true_implies, false_implies, implies_true, forall_const, true_or, or_true, false_or, or_false, pk_us, vu_s, vL_s, vb_0, vb_1, if_true, if_false, ite_true, ite_false]
      refine ⟨(iI_in (by omega) (by omega)).mpr ⟨by omega, by omega⟩, ?_⟩
      rw [iI_clamp (by omega) (by omega), Int.toNat_natCast, e1]
      rintro y rfl
      refine s7_readKey hNk.2 (by omega) (fun en nu hen hnu => ?_)
      have ref : P (iI ((c k : Int) - of7 k + 10)) en nu (iI ((c k : Int) - of7 k + 10)) → VX11_template (fun r2 => P (iI ((c k : Int) - of7 k + 10)) en nu r2) kept (iI n) (iI Nk) (iI i) (iI k) := by
        intro hp
        simp (disch := omega) only [VX11_template, VX11_isIn, e7, hcell, iI_lit, lI_lit, iI_nI, iI_add, iI_sub, iI_mul, iI_neg, c_lt_t, c_lt_f, c_le_t, c_le_f, c_eq_t, c_eq_f, c_in_t, iI_clamp, Int.toNat_natCast, forall_eq, true_and, and_true, false_and, and_false, not_true_eq_false, not_false_eq_true, true_implies, false_implies, implies_true, forall_const, true_or, or_true, false_or, or_false, pk_us, vu_s, vL_s, vb_0, vb_1, if_true, if_false, ite_true, ite_false]
        exact hp
      by_cases c3 : k < 3
      · have e := hen k c3
        rw [hd k (by omega)] at e
        have eo : of7 k = 1 := by rw [of7, if_pos c3]
        rw [eo] at ref
        simp (disch := omega) only [e, iI_lit, lI_lit, iI_nI, iI_add, iI_sub, iI_mul, iI_neg, c_lt_t, c_lt_f, c_le_t, c_le_f, c_eq_t, c_eq_f, c_in_t, iI_clamp, Int.toNat_natCast, forall_eq, true_and, and_true, false_and, and_false, not_true_eq_false, not_false_eq_true, true_implies, false_implies, implies_true, forall_const, true_or, or_true, false_or, or_false, pk_us, vu_s, vL_s, vb_0, vb_1, if_true, if_false, ite_true, ite_false]
        exact ref (hP _ _ _)
      · have e := hnu (k - 3) (by omega)
        rw [show 3 + (k - 3) = k by omega, hd k (by omega)] at e
        have eo : of7 k = 9 := by rw [of7, if_neg c3]
        rw [eo] at ref
        have ek : (k : Int) - 3 = ((k - 3 : Nat) : Int) := by omega
        simp (disch := omega) only [ek, e, iI_lit, lI_lit, iI_nI, iI_add, iI_sub, iI_mul, iI_neg, c_lt_t, c_lt_f, c_le_t, c_le_f, c_eq_t, c_eq_f, c_in_t, iI_clamp, Int.toNat_natCast, forall_eq, true_and, and_true, false_and, and_false, not_true_eq_false, not_false_eq_true, true_implies, false_implies, implies_true, forall_const, true_or, or_true, false_or, or_false, pk_us, vu_s, vL_s, vb_0, vb_1, if_true, if_false, ite_true, ite_false]
        exact ref (hP _ _ _)
    · simp (disch := omega) only [VX10_template, VX0_has, VX11_template, VX11_isIn, iI_lit, lI_lit, iI_nI, iI_add, iI_sub, iI_mul, iI_neg, c_lt_t, c_lt_f, c_le_t, c_le_f, c_eq_t, c_eq_f, c_in_t, iI_clamp, Int.toNat_natCast, forall_eq, true_and, and_true, false_and, and_false, not_true_eq_false, not_false_eq_true, true_implies, false_implies, implies_true, forall_const, true_or, or_true, false_or, or_false, pk_us, vu_s, vL_s, vb_0, vb_1, if_true, if_false, ite_true, ite_false]
      exact hP _ _ _
    · have h3' : 3 + (Nk : Int) ≤ z := by omega
      simp (disch := omega) only [VX10_template, VX0_has, VX11_template, VX11_isIn, iI_lit, lI_lit, iI_nI, iI_add, iI_sub, iI_mul, iI_neg, c_lt_t, c_lt_f, c_le_t, c_le_f, c_eq_t, c_eq_f, c_in_t, iI_clamp, Int.toNat_natCast, forall_eq, true_and, and_true, false_and, and_false, not_true_eq_false, not_false_eq_true, true_implies, false_implies, implies_true, forall_const, true_or, or_true, false_or, or_false, pk_us, vu_s, vL_s, vb_0, vb_1, if_true, if_false, ite_true, ite_false]
      exact hP _ _ _
  · simp (disch := omega) only [VX10_template, VX0_has, VX11_template, VX11_isIn, iI_lit, lI_lit, iI_nI, iI_add, iI_sub, iI_mul, iI_neg, c_lt_t, c_lt_f, c_le_t, c_le_f, c_eq_t, c_eq_f, c_in_t, iI_clamp, Int.toNat_natCast, forall_eq, true_and, and_true, false_and, and_false, not_true_eq_false, not_false_eq_true, true_implies, false_implies, implies_true, forall_const, true_or, or_true, false_or, or_false, pk_us, vu_s, vL_s, vb_0, vb_1, if_true, if_false, ite_true, ite_false]
    exact hP _ _ _
  · simp (disch := omega) only [VX10_template, VX0_has, VX11_template, VX11_isIn, iI_lit, lI_lit, iI_nI, iI_add, iI_sub, iI_mul, iI_neg, c_lt_t, c_lt_f, c_le_t, c_le_f, c_eq_t, c_eq_f, c_in_t, iI_clamp, Int.toNat_natCast, forall_eq, true_and, and_true, false_and, and_false, not_true_eq_false, not_false_eq_true, true_implies, false_implies, implies_true, forall_const, true_or, or_true, false_or, or_false, pk_us, vu_s, vL_s, vb_0, vb_1, if_true, if_false, ite_true, ite_false]
    exact hP _ _ _
