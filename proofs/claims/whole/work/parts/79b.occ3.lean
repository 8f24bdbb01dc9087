theorem s8_firstMatch {post : Int32 → Prop} {N S : Nat} {f : Nat → Nat} {L T : TA} {SS A B wt : Nat → Int64} {V : Nat → Int} {en nu : TA} {a b c : Nat} {d : Nat → Int} (hN : 2 ≤ N ∧ N ≤ 4) (hS : S ≤ 40) (hf : ∀ j, j < S → f j < N) (hTI : TI 1 (wK 1 V) f S L T SS A B) (hw : ∀ x, x < 4 → wt x = lI (wK 1 V x)) (ha : a ≤ 18) (hb : b ≤ 18) (hc : c ≤ 18) (e0 : en 0 = iI ((a : Int) - 1)) (e1 : en 1 = iI ((b : Int) - 1)) (e2 : en 2 = iI ((c : Int) - 1)) (hn : ∀ x, x < 4 → nu x = iI (d x)) (hd : ∀ x, x < 4 → -9 ≤ d x ∧ d x ≤ 9) (hd0 : ∀ l, N ≤ l → d l = 0)
    (hmin : ∀ s x y, OMin N S f a b c d s x y → post (iI (10000 * (s : Int) + 100 * (x : Int) + (y : Int)))) (hnone : ONone N S f a b c d → post (iI (-2))) : VX8_firstMatch post L SS wt (iI S) en nu := by
  have hL : ∀ j, j < S → L j = iI (f j) ∧ f j < 4 := fun j hj => ⟨(hTI.2 j hj).2.1, (hTI.2 j hj).1⟩
  have n2 : (-2 : Int32) = iI (-2) := rfl
  have loop : ∀ (r s : Nat) (x2 : Int32), s + r = S → x2 = iI s → (∀ s' x' y', s' < s → ¬ Occ N S f a b c d s' x' y') → VX8_firstMatch_2 post L SS wt (iI S) en nu (r + 1) x2 := by
    intro r
    induction r with
    | zero =>
      intro s x2 hs ex hnb
      have : s = S := by omega
      subst this ex
      rw [VX8_firstMatch_2]
      exact ⟨fun _ => hnone (fun s' x' y' h1 => hnb s' x' y' h1), fun q => absurd ((iI_le (by omega) (by omega) (by omega) (by omega)).mpr (by omega)) q⟩
    | succ r ih =>
      intro s x2 hs ex hnb
      subst ex
      have eup : iI (s : Int) + 1 = iI ((s + 1 : Nat) : Int) := by
        rw [show (1 : Int32) = iI 1 from rfl, iI_add]
        exact congrArg iI (by omega)
      have next : (∀ x y, ¬ Occ N S f a b c d s x y) → VX8_firstMatch_2 post L SS wt (iI S) en nu (r + 1) (iI (s : Int) + 1) := by
        intro hno
        refine ih (s + 1) _ (by omega) eup (fun s' x' y' h1 => ?_)
        by_cases q : s' = s
        · rw [q]
          exact hno x' y'
        · exact hnb s' x' y' (by omega)
      rw [VX8_firstMatch_2]
      refine ⟨fun q => absurd ((iI_le (by omega) (by omega) (by omega) (by omega)).mp q) (by omega), fun _ => ?_⟩
      rw [cl_0, e0]
      refine ⟨(iI_in (a := 0) (n := 3) (by omega) (by omega)).mpr ⟨by omega, by omega⟩, ?_⟩
      rintro y2 rfl
      refine s8_hasEnd (f := f) hS hL ha (by omega) (fun h1 => ?_) (fun h1 => ?_)
      · refine ⟨fun q => absurd q n10, fun _ => ?_⟩
        refine s8_matchAt hN hS (by omega) hf hTI hw ha hb hc e0 e1 e2 hn hd hd0 h1 (fun x y ho hx => ?_) (fun hno => ?_)
        · unfold VX8_firstMatch_35
          have hy := Occ_y hN.2 hf hd0 ho
          have h2 := ho.2.1
          have hxy : 10000 * (s : Int) + 100 * (x : Int) + (y : Int) < 2147483648 := by omega
          refine ⟨fun q => absurd ((iI_eq (by omega) hxy (by omega) (by omega)).mp (q.trans n2)) (by omega), fun _ => hmin s x y ⟨ho, by omega, fun s' x' y' h3 h4 => ?_⟩⟩
          by_cases q1 : s' < s
          · exact absurd h4 (hnb s' x' y' q1)
          · by_cases q2 : s' = s
            · subst q2
              exact Or.inr ⟨rfl, hx x' y' h4⟩
            · exact Or.inl (by omega)
        · unfold VX8_firstMatch_35
          exact ⟨fun _ => next hno, fun q => absurd rfl q⟩
      · refine ⟨fun _ => ?_, fun q => absurd rfl q⟩
        unfold VX8_firstMatch_35
        refine ⟨fun _ => next (fun x y ho => h1 ⟨fun q => by omega, fun q => ⟨by omega, ho.2.2.1 q⟩⟩), fun q => absurd rfl q⟩
  exact ⟨S + 1, loop S 0 _ (by omega) rfl (fun s' x' y' h => absurd h (Nat.not_lt_zero s'))⟩
theorem L_occurrence {N : Nat} (hN : 2 ≤ N ∧ N ≤ 4) {ex0 : Int32} {cv mv : TA} (hv : EV cv mv) {wL : Nat → TA} {wS words lengths : TA} (h : EW N wL wS words lengths) {rem kept : TA} {size letters keptMany keptLetters : Int32} (hR : RCl rem size letters kept keptMany keptLetters) (p1 p2 : Int32) {L T : TA} {S A B wt : Nat → Int64} {sz kd ex : Int32} (hT : T 0 = iI 0) (ce cm : TA) (row : TA) (rowSize : Int32)
    {P : Int32 → TA → TA → (Nat → Int64) → (Nat → Int64) → (Nat → Int64) → (Nat → Int64) → Int32 → Int32 → Int32 → TA → TA → Int32 → TA → Int32 → Prop} (hP : ∀ r L T S A B wt sz kd ex ce cm a b, T 0 = iI 0 → P r L T S A B wt sz kd ex ce cm r a b) :
    VX10_occurrence (fun r L T S A B wt sz kd ex ce cm => VX11_occurrence (fun r2 a b => P r L T S A B wt sz kd ex ce cm r2 a b) (iI N) words lengths kept keptMany keptLetters p1 p2 row rowSize) ex0 (iI N) cv wL wS rem size letters p1 p2 L T S A B wt sz kd ex ce cm := by
  obtain ⟨wl, w, hW⟩ := h
  obtain ⟨V, hV⟩ := hv
  obtain ⟨n, Nk, ok, hn, hNk, rfl, rfl, hl, hok, hk⟩ := hR
  rcases ix_cases p1 3 (by omega) with ⟨i, hi, rfl⟩ | ⟨z, rfl, h1, h2, h3 | h3⟩
  · obtain ⟨hw, w1, w2, w3⟩ := hW i hi
    rcases ix_cases p2 n (by omega) with ⟨j, hj, rfl⟩ | ⟨z, rfl, h1, h2, h3 | h3⟩
    · obtain ⟨e1, c, hc, ec⟩ := hok j hj
      obtain ⟨rfl, rfl⟩ := hl.resolve_left (by omega)
      have hlt := kk_le hNk hc
      have hd := dig_kk hNk hc
      rw [← ec] at hd hlt
      by_cases cN : Nk = N
      · subst cN
        have hb := VD_b hN.2 hc
        have hd3 : ∀ l, (fun l => ((c (3 + l) : Nat) : Int) - 9) l = ((c (3 + l) : Nat) : Int) - 9 := fun l => rfl
        have hd0 : ∀ l, Nk ≤ l → (fun l => ((c (3 + l) : Nat) : Int) - 9) l = 0 := by
          intro l hl
          rw [hd3, hc.2.2 (3 + l) (by omega)]
          omega
        have hf : ∀ t, t < wl i → w i t < Nk := fun t ht => (w3 t ht).1
        have v3 : vp_in (iI (i : Int)) 3 := (iI_in (by omega) (by omega)).mpr ⟨by omega, by omega⟩
        have cl : (iI (i : Int)).toNatClampNeg = i := by rw [iI_clamp (by omega) (by omega), Int.toNat_natCast]
        have href : ∀ post : Int32 → TA → Int32 → Prop, (∀ row', (∀ s x y, OMin Nk (wl i) (w i) (c 0) (c 1) (c 2) (fun l => ((c (3 + l) : Nat) : Int) - 9) s x y → post (iI (10000 * (s : Int) + 100 * (x : Int) + (y : Int))) row' (iI (wl i))) ∧ (ONone Nk (wl i) (w i) (c 0) (c 1) (c 2) (fun l => ((c (3 + l) : Nat) : Int) - 9) → post (iI (-2)) row' (iI (wl i)))) → VX11_occurrence post (iI Nk) words lengths kept (iI n) (iI Nk) (iI i) (iI j) row rowSize := by
          intro post hpost
          simp (disch := omega) only [VX11_occurrence, VX11_isWord, VX11_isIn, iI_lit, lI_lit, iI_nI, iI_add, iI_sub, iI_mul, iI_neg, c_lt_t, c_lt_f, c_le_t, c_le_f, c_eq_t, c_eq_f, c_in_t, iI_clamp, Int.toNat_natCast, forall_eq, true_and, and_true, false_and, and_false, not_true_eq_false, not_false_eq_true, true_implies, false_implies, implies_true, forall_const, true_or, or_true, false_or, or_false, pk_us, vu_s, vL_s, vb_0, vb_1, if_true, if_false, ite_true, ite_false]
          refine s11_take hi hw w2 (fun r h1 h2 => ?_)
          have := s11_occLoop (e := c) (f := w i) (row := r) (kept := kept) (words := words) (lengths := lengths) (km := iI n) (kl := iI Nk) (p1 := iI i) (post := post) hN (show j < 200 by omega) hw (fun t ht => by rw [h1 t ht]; exact ⟨(w3 t ht).2.2, by have := hf t ht; omega⟩) (fun k hk7 => by rw [hk j hj k hk7, hd k hk7]) (fun k _ => hb k) (hpost r).1 (hpost r).2
          exact this
        unfold VX10_occurrence
        simp (disch := omega) only [VX10_isWord, VX0_has, w1, iI_lit, lI_lit, iI_nI, iI_add, iI_sub, iI_mul, iI_neg, c_lt_t, c_lt_f, c_le_t, c_le_f, c_eq_t, c_eq_f, c_in_t, iI_clamp, Int.toNat_natCast, forall_eq, true_and, and_true, false_and, and_false, not_true_eq_false, not_false_eq_true, true_implies, false_implies, implies_true, forall_const, true_or, or_true, false_or, or_false, pk_us, vu_s, vL_s, vb_0, vb_1, if_true, if_false, ite_true, ite_false]
        refine s8_begin (K := 1) (V := V) (by omega) (fun x hx => ⟨(hV x hx).1, (hV x hx).2.1⟩) (fun wt' hwt => ?_)
        refine s8_pushAll (K := 1) (f := w i) (by omega) hw (fun t ht => ⟨by have := hf t ht; omega, (w3 t ht).2.1⟩) hwt hT (fun L' T' S' A' B' hTI => ?_)
        unfold VX0_read
        refine ⟨(iI_in (by omega) (by omega)).mpr ⟨by omega, by omega⟩, ?_⟩
        rw [iI_clamp (by omega) (by omega), Int.toNat_natCast, e1]
        rintro y rfl
        refine s7_readKey hN.2 (by omega) (fun en nu hen hnu => ?_)
        refine s8_firstMatch (a := c 0) (b := c 1) (c := c 2) (d := fun l => ((c (3 + l) : Nat) : Int) - 9) (V := V) hN hw hf hTI hwt (hb 0) (hb 1) (hb 2) (by rw [hen 0 (by omega), hd 0 (by omega)]) (by rw [hen 1 (by omega), hd 1 (by omega)]) (by rw [hen 2 (by omega), hd 2 (by omega)]) (fun x hx => by rw [hnu x hx, hd (3 + x) (by omega)]) (fun x hx => by have := hb (3 + x); omega) hd0 (fun s x y hm => ?_) (fun hno => ?_)
        · refine href _ (fun row' => ⟨fun s2 x2 y2 hm2 => ?_, fun hno => absurd hm.1 (hno s x y hm.2.1)⟩)
          obtain ⟨rfl, rfl, rfl⟩ := OMin_u hN.2 hf hd0 hm hm2
          exact hP _ _ _ _ _ _ _ _ _ _ _ _ _ _ hTI.1
        · refine href _ (fun row' => ⟨fun s2 x2 y2 hm2 => absurd hm2.1 (hno s2 x2 y2 hm2.2.1), fun _ => ?_⟩)
          exact hP _ _ _ _ _ _ _ _ _ _ _ _ _ _ hTI.1
      · simp (disch := omega) only [VX10_occurrence, VX10_isWord, VX0_has, VX11_occurrence, VX11_isWord, VX11_isIn, iI_lit, lI_lit, iI_nI, iI_add, iI_sub, iI_mul, iI_neg, c_lt_t, c_lt_f, c_le_t, c_le_f, c_eq_t, c_eq_f, c_in_t, iI_clamp, Int.toNat_natCast, forall_eq, true_and, and_true, false_and, and_false, not_true_eq_false, not_false_eq_true, true_implies, false_implies, implies_true, forall_const, true_or, or_true, false_or, or_false, pk_us, vu_s, vL_s, vb_0, vb_1, if_true, if_false, ite_true, ite_false]
        exact hP _ _ _ _ _ _ _ _ _ _ _ _ _ _ hT
    · simp (disch := omega) only [VX10_occurrence, VX10_isWord, VX0_has, VX11_occurrence, VX11_isWord, VX11_isIn, iI_lit, lI_lit, iI_nI, iI_add, iI_sub, iI_mul, iI_neg, c_lt_t, c_lt_f, c_le_t, c_le_f, c_eq_t, c_eq_f, c_in_t, iI_clamp, Int.toNat_natCast, forall_eq, true_and, and_true, false_and, and_false, not_true_eq_false, not_false_eq_true, true_implies, false_implies, implies_true, forall_const, true_or, or_true, false_or, or_false, pk_us, vu_s, vL_s, vb_0, vb_1, if_true, if_false, ite_true, ite_false]
      exact hP _ _ _ _ _ _ _ _ _ _ _ _ _ _ hT
    · simp (disch := omega) only [VX10_occurrence, VX10_isWord, VX0_has, VX11_occurrence, VX11_isWord, VX11_isIn, iI_lit, lI_lit, iI_nI, iI_add, iI_sub, iI_mul, iI_neg, c_lt_t, c_lt_f, c_le_t, c_le_f, c_eq_t, c_eq_f, c_in_t, iI_clamp, Int.toNat_natCast, forall_eq, true_and, and_true, false_and, and_false, not_true_eq_false, not_false_eq_true, true_implies, false_implies, implies_true, forall_const, true_or, or_true, false_or, or_false, pk_us, vu_s, vL_s, vb_0, vb_1, if_true, if_false, ite_true, ite_false]
      exact hP _ _ _ _ _ _ _ _ _ _ _ _ _ _ hT
  · simp (disch := omega) only [VX10_occurrence, VX10_isWord, VX11_occurrence, VX11_isWord, VX11_isIn, iI_lit, lI_lit, iI_nI, iI_add, iI_sub, iI_mul, iI_neg, c_lt_t, c_lt_f, c_le_t, c_le_f, c_eq_t, c_eq_f, c_in_t, iI_clamp, Int.toNat_natCast, forall_eq, true_and, and_true, false_and, and_false, not_true_eq_false, not_false_eq_true, true_implies, false_implies, implies_true, forall_const, true_or, or_true, false_or, or_false, pk_us, vu_s, vL_s, vb_0, vb_1, if_true, if_false, ite_true, ite_false]
    exact hP _ _ _ _ _ _ _ _ _ _ _ _ _ _ hT
  · simp (disch := omega) only [VX10_occurrence, VX10_isWord, VX11_occurrence, VX11_isWord, VX11_isIn, iI_lit, lI_lit, iI_nI, iI_add, iI_sub, iI_mul, iI_neg, c_lt_t, c_lt_f, c_le_t, c_le_f, c_eq_t, c_eq_f, c_in_t, iI_clamp, Int.toNat_natCast, forall_eq, true_and, and_true, false_and, and_false, not_true_eq_false, not_false_eq_true, true_implies, false_implies, implies_true, forall_const, true_or, or_true, false_or, or_false, pk_us, vu_s, vL_s, vb_0, vb_1, if_true, if_false, ite_true, ite_false]
    exact hP _ _ _ _ _ _ _ _ _ _ _ _ _ _ hT
