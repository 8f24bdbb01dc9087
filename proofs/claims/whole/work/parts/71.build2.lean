theorem cl_0 : (0 : Int32).toNatClampNeg = 0 := rfl
theorem cl_1 : (1 : Int32).toNatClampNeg = 1 := rfl
theorem cl_2 : (2 : Int32).toNatClampNeg = 2 := rfl
theorem dig_le {N : Nat} (hN : 2 ≤ N ∧ N ≤ 4) {il : Nat → Nat} {im : Nat → Nat → Nat} {x : Nat} (h : rch N il im x) {i : Nat} (hi : i < 3) : dig N x i ≤ N := by
  obtain ⟨c, hc, rfl⟩ := rch_VD h
  rw [dig_kk hN hc i (by omega)]
  exact hc.1 i hi
section
variable {N : Nat} {il : Nat → Nat} {im : Nat → Nat → Nat} {iL : Nat → TA} {iS adj : TA}
theorem s0_admitParents {post : Int32 → TA → TA → Int32 → TA → TA → TA → Int32 → TA → TA → Int32 → TA → TA → Int32 → Prop} {ck n0 : Nat} {ok0 fk0 : Nat → Nat} {ce cm o0 f0 base e0 g0 e1 g1 e2 g2 : TA} {z0 z1 z2 : Int32} (hN : 2 ≤ N ∧ N ≤ 4) (hI : ∀ x, x < 4 → il x ≤ 4 ∧ iS x = iI (il x) ∧ ∀ j, j < il x → im x j < 4 ∧ iL x j = iI (im x j)) (hdt : dtm (mM il im) N ≠ 0) (hck : rch N il im ck)
    (hce : ∀ i, i < 3 → ce i = iI ((dig N ck i : Nat) - 1)) (hcm : ∀ x, x < 4 → cm x = iI ((dig N ck (3 + x) : Nat) - 9)) (hA : ∀ y, y < 4 → ∀ x, x < 4 → adj (4 * y + x) = iI (AD (mM il im) N y x)) (hC0 : CST N il im n0 ok0 fk0 o0 f0)
    (hF : Big N il im → ∀ o f m a1 a2 a3 a4 a5 a6 a7 a8 a9 a10, post (iI 0) o f m a1 a2 a3 a4 a5 a6 a7 a8 a9 a10)
    (hk : ∀ n ok fk o f, CST N il im n ok fk o f → n0 ≤ n → (∀ t, t < n0 → fk t = fk0 t) → (∀ pk, Par N il im ck pk → ∃ t, t < n ∧ fk t = pk) → ∀ a1 a2 a3 a4 a5 a6 a7 a8 a9 a10, post (iI 1) o f (iI ((n : Nat) : Int)) a1 a2 a3 a4 a5 a6 a7 a8 a9 a10) :
    VX0_admitParents post ce cm adj (iI (dtm (mM il im) N)) (iI N) (iI 0) (iI 1) (iI 2) (iI N) iL iS o0 f0 (iI n0) base e0 g0 z0 e1 g1 z1 e2 g2 z2 := by
  have v3 : ∀ i : Nat, i < 3 → vp_in (iI (i : Int)) 3 := fun i hi => (iI_in (by omega) (by omega)).mpr ⟨by omega, by omega⟩
  unfold VX0_admitParents
  refine s0_loadBase (nd := fun x => ((dig N ck (3 + x) : Nat) : Int) - 9) hA hcm (fun b' hb' => ⟨v3 0 (by omega), ?_⟩)
  rw [cl_0, hce 0 (by omega)]
  rintro y rfl
  refine s6_find (p := 0) (a := dig N ck 0) hN.2 (by omega) (dig_le hN hck (by omega)) hI hA (fun u4 u5 s0 E0 C0 hs0 S0 F0 => ⟨v3 1 (by omega), ?_⟩)
  rw [cl_1, hce 1 (by omega)]
  rintro y rfl
  refine s6_find (p := 1) (a := dig N ck 1) hN.2 (by omega) (dig_le hN hck (by omega)) hI hA (fun u9 u10 s1 E1 C1 hs1 S1 F1 => ⟨v3 2 (by omega), ?_⟩)
  rw [cl_2, hce 2 (by omega)]
  rintro y rfl
  refine s6_find (p := 2) (a := dig N ck 2) hN.2 (by omega) (dig_le hN hck (by omega)) hI hA (fun u14 u15 s2 E2 C2 hs2 S2 F2 => ?_)
  refine s0_parents hN (fun x hx => (hI x hx).1) hdt hck hs0 hs1 hs2 hb' S0 S1 S2 (fun hB o f m => hF hB _ _ _ _ _ _ _ _ _ _ _ _ _) hC0 (fun n ok fk o f q1 q2 q3 q4 => hk n ok fk o f q1 q2 q3 (fun pk hp => ?_) _ _ _ _ _ _ _ _ _ _)
  obtain ⟨A, q, hAq, c, hc, rfl⟩ := hp
  obtain ⟨t0, a1, a2, a3⟩ := F0 (A 0) (q 0) (hAq 0 (by omega)).1 (hAq 0 (by omega)).2
  obtain ⟨t1, b1, b2, b3⟩ := F1 (A 1) (q 1) (hAq 1 (by omega)).1 (hAq 1 (by omega)).2
  obtain ⟨t2, c1, c2, c3⟩ := F2 (A 2) (q 2) (hAq 2 (by omega)).1 (hAq 2 (by omega)).2
  have hcov := q4 t0 t1 t2 a1 b1 c1
  rw [a2, a3, b2, b3, c2, c3] at hcov
  exact hcov c hc
theorem s0_remember {post : TA → Int32 → Int32 → Prop} {ordered rem : TA} {bl sz lt : Int32} {n : Nat} (hn : n ≤ 200) (h : ∀ r', (∀ i, i < n → r' i = ordered i) → post r' (iI n) bl) : VX0_remember post ordered (iI n) bl rem sz lt := by
  have key : ∀ (q m : Nat) (r : TA) (x1 : Int32), m + q = n → x1 = iI m → (∀ i, i < m → r i = ordered i) → VX0_remember_18 post ordered (iI n) bl (q + 1) r (iI n) bl x1 := by
    intro q
    induction q with
    | zero =>
      intro m r x1 hm e1 h1
      have : m = n := by omega
      subst this e1
      rw [VX0_remember_18]
      simp (disch := omega) only [iI_lit, lI_lit, iI_nI, iI_add, iI_sub, iI_mul, iI_neg, c_lt_t, c_lt_f, c_le_t, c_le_f, c_eq_t, c_eq_f, c_in_t, iI_clamp, Int.toNat_natCast, forall_eq, true_and, and_true, false_and, and_false, not_true_eq_false, not_false_eq_true, true_implies, false_implies, implies_true, forall_const, true_or, or_true, false_or, or_false, pk_us, vu_s, vL_s, vb_0, vb_1, if_true, if_false, ite_true, ite_false]
      exact h r h1
    | succ q ih =>
      intro m r x1 hm e1 h1
      subst e1
      rw [VX0_remember_18]
      simp (disch := omega) only [iI_lit, lI_lit, iI_nI, iI_add, iI_sub, iI_mul, iI_neg, c_lt_t, c_lt_f, c_le_t, c_le_f, c_eq_t, c_eq_f, c_in_t, iI_clamp, Int.toNat_natCast, forall_eq, true_and, and_true, false_and, and_false, not_true_eq_false, not_false_eq_true, true_implies, false_implies, implies_true, forall_const, true_or, or_true, false_or, or_false, pk_us, vu_s, vL_s, vb_0, vb_1, if_true, if_false, ite_true, ite_false]
      refine ih (m + 1) _ _ (by omega) (congrArg iI (by omega)) (fun i hi => ?_)
      by_cases c : i = m
      · rw [c, pk_us]
      · rw [pk_un c]
        exact h1 i (by omega)
  exact ⟨n + 1, key n 0 rem _ (by omega) rfl (fun i hi => absurd hi (Nat.not_lt_zero i))⟩
theorem s0_build {post : Int32 → TA → Int32 → Int32 → TA → TA → Int32 → TA → TA → TA → Int32 → Int32 → TA → TA → TA → Int32 → TA → TA → Int32 → TA → TA → Int32 → Prop} {ent rem o0 f0 ce cm aj base e0 g0 e1 g1 e2 g2 : TA} {sz lt m0 dv bl z0 z1 z2 : Int32} (hN : 2 ≤ N ∧ N ≤ 4) (hI : ∀ x, x < 4 → il x ≤ 4 ∧ iS x = iI (il x) ∧ ∀ j, j < il x → im x j < 4 ∧ iL x j = iI (im x j)) (hM : ∀ i, i < N → ∀ j, j < N → ent (4 * i + j) = iI (mM il im i j)) (hdt : dtm (mM il im) N ≠ 0)
    (hB : Big N il im → ∀ a1 a2 a3 a4 a5 a6 a7 a8 a9 a10 a11 a12 a13 a14 a15 a16 a17 a18, post (iI (-4)) rem sz lt a1 a2 a3 a4 a5 a6 a7 a8 a9 a10 a11 a12 a13 a14 a15 a16 a17 a18)
    (hF : ∀ n ok r', Fin0 N il im n ok → (∀ i, i < n → r' i = iI (ok i)) → ∀ a1 a2 a3 a4 a5 a6 a7 a8 a9 a10 a11 a12 a13 a14 a15 a16 a17 a18, post (iI ((n : Nat) : Int)) r' (iI ((n : Nat) : Int)) (iI N) a1 a2 a3 a4 a5 a6 a7 a8 a9 a10 a11 a12 a13 a14 a15 a16 a17 a18) :
    VX0_build post (iI 0) (iI 1) (iI 2) (iI N) iL iS ent (iI N) rem sz lt o0 f0 m0 ce cm aj dv bl base e0 g0 z0 e1 g1 z1 e2 g2 z2 := by
  have hIl : ∀ x, x < 4 → il x ≤ 4 := fun x hx => (hI x hx).1
  unfold VX0_build
  refine s0_loadInverse (M := mM il im) hN (fun i hi j hj => ⟨mM_b hIl i j (by omega), hM i hi j hj⟩) (fun adj hA => ?_)
  refine s7_squareKey hN.2 ?_
  rw [show (0 : Int32) = iI ((0 : Nat) : Int) from rfl]
  have loop : ∀ (r i n : Nat) (ok fk : Nat → Nat) (o f ce cm base e0 g0 e1 g1 e2 g2 : TA) (z0 z1 z2 x3 : Int32), i + r = 200 → x3 = iI i → CST N il im n ok fk o f → 1 ≤ n → fk 0 = kk sqc (3 + N) → (∀ t, t < i → t < n → ∀ pk, Par N il im (fk t) pk → ∃ u, u < n ∧ fk u = pk) → VX0_build_24 post (iI 0) (iI 1) (iI 2) (iI N) iL iS ent (iI N) (r + 1) rem sz lt o f (iI n) ce cm adj (iI (dtm (mM il im) N)) (iI N) base e0 g0 z0 e1 g1 z1 e2 g2 z2 x3 := by
    intro r
    induction r with
    | zero =>
      intro i n ok fk o f ce cm base e0 g0 e1 g1 e2 g2 z0 z1 z2 x3 hi e3 hC h1 h0 hp
      subst e3
      obtain ⟨c1, c2, c3, c4, c5, c6⟩ := hC
      rw [VX0_build_24]
      refine ⟨fun _ => ?_, fun q => absurd ((iI_le (by omega) (by omega) (by omega) (by omega)).mpr (by omega)) q⟩
      refine s0_remember c1 (fun r' hr' => ?_)
      refine hF n ok r' ⟨c1, c2, fun x => ⟨fun hx => ?_, fun ⟨t, t1, t2⟩ => by rw [← t2]; exact c6 t t1⟩⟩ (fun t ht => by rw [hr' t ht]; exact c3 t ht) _ _ _ _ _ _ _ _ _ _ _ _ _ _ _ _ _ _
      refine (c5 x).mpr (hx (fun x => ∃ t, t < n ∧ fk t = x) ⟨0, by omega, h0⟩ (fun a b ⟨t, t1, t2⟩ hpar => ?_))
      rw [← t2] at hpar
      exact hp t (by omega) t1 b hpar
    | succ r ih =>
      intro i n ok fk o f ce cm base e0 g0 e1 g1 e2 g2 z0 z1 z2 x3 hi e3 hC h1 h0 hp
      subst e3
      have hC0 := hC
      obtain ⟨c1, c2, c3, c4, c5, c6⟩ := hC
      rw [VX0_build_24]
      by_cases c : n ≤ i
      · refine ⟨fun _ => ?_, fun q => absurd ((iI_le (by omega) (by omega) (by omega) (by omega)).mpr (by omega)) q⟩
        refine s0_remember c1 (fun r' hr' => ?_)
        refine hF n ok r' ⟨c1, c2, fun x => ⟨fun hx => ?_, fun ⟨t, t1, t2⟩ => by rw [← t2]; exact c6 t t1⟩⟩ (fun t ht => by rw [hr' t ht]; exact c3 t ht) _ _ _ _ _ _ _ _ _ _ _ _ _ _ _ _ _ _
        refine (c5 x).mpr (hx (fun x => ∃ t, t < n ∧ fk t = x) ⟨0, by omega, h0⟩ (fun a b ⟨t, t1, t2⟩ hpar => ?_))
        rw [← t2] at hpar
        exact hp t (by omega) t1 b hpar
      · have hfi : rch N il im (fk i) := by
          obtain ⟨t, t1, t2⟩ := (c5 (fk i)).mpr ⟨i, by omega, rfl⟩
          rw [← t2]
          exact c6 t t1
        have hlt := rch_lt hN hfi
        have h200 : ¬ ((200 : Int32) ≤ iI (i : Int)) := by
          rw [iI_lit, iI_le (by omega) (by omega) (by omega) (by omega)]
          omega
        refine ⟨fun q => absurd ((iI_le (by omega) (by omega) (by omega) (by omega)).mp q) (by omega), fun _ => ⟨fun q => absurd q h200, fun _ => ⟨(iI_in (by omega) (by omega)).mpr ⟨by omega, by omega⟩, ?_⟩⟩⟩
        rw [iI_clamp (by omega) (by omega), Int.toNat_natCast, c4 i (by omega)]
        refine s7_readKey hN.2 (by omega) (fun en nu hen hnu => ?_)
        refine s0_admitParents hN hI hdt hfi hen hnu hA hC0 (fun hBig o f m a1 a2 a3 a4 a5 a6 a7 a8 a9 a10 => ?_) (fun n' ok' fk' o' f' q1 q2 q3 q4 a1 a2 a3 a4 a5 a6 a7 a8 a9 a10 => ?_)
        · exact ⟨fun q => absurd rfl q, fun _ => hB hBig _ _ _ _ _ _ _ _ _ _ _ _ _ _ _ _ _ _⟩
        · refine ⟨fun _ => ?_, fun q => absurd q n10⟩
          refine ih (i + 1) n' ok' fk' o' f' _ _ _ _ _ _ _ _ _ _ _ _ _ (by omega) ?_ q1 (by omega) (by rw [q3 0 (by omega)]; exact h0) (fun t t1 t2 pk hpk => ?_)
          · rw [show (1 : Int32) = iI 1 from rfl, iI_add]
            exact congrArg iI (by omega)
          · by_cases e : t = i
            · rw [e, q3 i (by omega)] at hpk
              exact q4 pk hpk
            · rw [q3 t (by omega)] at hpk
              obtain ⟨u, u1, u2⟩ := hp t (by omega) (by omega) pk hpk
              exact ⟨u, by omega, by rw [q3 u u1]; exact u2⟩
  have hsq := rch_lt hN (rch_sq (N := N) (il := il) (im := im))
  refine s0_admit (n := 0) (ok := fun _ => 0) (by omega) (by omega) (fun i hi => absurd hi (Nat.not_lt_zero i)) (fun i j h1 h2 => absurd h2 (Nat.not_lt_zero j)) (fun ⟨i, hi, _⟩ => absurd hi (Nat.not_lt_zero i)) (fun _ _ p o' hp hS ho => ?_) (fun _ h => absurd h (by omega))
  have hp0 : p = 0 := by omega
  subst hp0
  refine ⟨200 + 1, loop 200 0 1 (ins (fun _ => 0) 0 (kk sqc (3 + N))) (fun _ => kk sqc (3 + N)) o' _ _ _ _ _ _ _ _ _ _ _ _ _ _ (by omega) rfl ⟨by omega, hS, ho, fun i hi => ?_, fun x => ⟨fun ⟨i, hi, e⟩ => ?_, fun ⟨i, hi, e⟩ => ?_⟩, fun i hi => ?_⟩ (by omega) rfl (fun t ht => absurd ht (Nat.not_lt_zero t))⟩
  · have : i = 0 := by omega
    rw [this, pk_us]
  · have : i = 0 := by omega
    rw [this, ins_m] at e
    exact ⟨0, by omega, e⟩
  · exact ⟨0, by omega, by rw [ins_m]; exact e⟩
  · have : i = 0 := by omega
    rw [this, ins_m]
    exact rch_sq
end
