/-! THE CLASS BUILDS THE CLOSURE -/
theorem mul_b {a b : Int} {A B : Nat} (ha : a.natAbs ≤ A) (hb : b.natAbs ≤ B) : (a * b).natAbs ≤ A * B := by
  rw [Int.natAbs_mul]
  exact Nat.mul_le_mul ha hb
theorem AD_b {il : Nat → Nat} {im : Nat → Nat → Nat} {N : Nat} (hN : N ≤ 4) (hI : ∀ x, x < 4 → il x ≤ 4) (y x : Nat) : (AD (mM il im) N y x).natAbs ≤ 65536 := by
  have h := mnr_b (M := mM il im) hN (fun i j hj => mM_b hI i j (by omega)) x 0 (fun i => true && !(i == y))
  unfold AD
  split
  · unfold adjM sgn
    split
    · rw [Int.one_mul]
      omega
    · rw [Int.neg_mul, Int.one_mul]
      omega
  · omega
theorem sm4_b {g : Nat → Int} {B : Nat} (h : ∀ x, x < 4 → (g x).natAbs ≤ B) : (sm4 g).natAbs ≤ 4 * B := by
  have h0 := h 0 (by omega)
  have h1 := h 1 (by omega)
  have h2 := h 2 (by omega)
  have h3 := h 3 (by omega)
  unfold sm4
  omega
theorem GS_b {il : Nat → Nat} {im : Nat → Nat → Nat} {N p a y A q : Nat} (hN : N ≤ 4) (hI : ∀ x, x < 4 → il x ≤ 4) (hA : A ≤ N) (hok : cutOK il im A a q) : (GS (AD (mM il im) N) il im p a y A q).natAbs ≤ 4194304 := by
  have hs : szE il A ≤ 4 := by
    unfold szE
    split
    · omega
    · exact hI (A - 1) (by omega)
  have hq := hok.1
  have h1 := sm4_b (g := fun x => AD (mM il im) N y x * ((bef im A q x : Nat) : Int)) (B := 65536 * 4) (fun x _ => mul_b (AD_b hN hI y x) (by have := cn_le (im (A - 1)) x 0 q; unfold bef; omega))
  have h2 := sm4_b (g := fun x => AD (mM il im) N y x * ((beh il im A a q x : Nat) : Int)) (B := 65536 * 4) (fun x _ => mul_b (AD_b hN hI y x) (by have := cn_le (im (A - 1)) x (q + wdt a) (szE il A - (q + wdt a)); unfold beh; omega))
  have hp : (psg p).natAbs ≤ 1 := by
    unfold psg
    split
    · omega
    · split <;> omega
  have hss : (ssg p).natAbs ≤ 1 := by
    unfold ssg
    split
    · omega
    · split <;> omega
  have h3 := mul_b hp h1
  have h4 := mul_b hss h2
  unfold GS
  omega
theorem Sp_b {il : Nat → Nat} {im : Nat → Nat → Nat} {N ck : Nat} {c A q : Nat → Nat} (hN : 2 ≤ N ∧ N ≤ 4) (hI : ∀ x, x < 4 → il x ≤ 4) (hc : VD N c) (hck : ck = kk c (3 + N)) (hA : ∀ i, i < 3 → A i ≤ N ∧ cutOK il im (A i) (dig N ck i) (q i)) (y : Nat) : (Sp N il im ck A q y).natAbs ≤ 20000000 := by
  have h1 := sm4_b (g := fun x => AD (mM il im) N y x * ((dig N ck (3 + x) : Int) - 9)) (B := 65536 * 9) (fun x hx => mul_b (AD_b hN.2 hI y x) (by
    have e : dig N ck (3 + x) = c (3 + x) := by
      rw [hck]
      exact dig_kk hN hc (3 + x) (by omega)
    have : dig N ck (3 + x) ≤ 18 := by
      rw [e]
      by_cases d : 3 + x < 3 + N
      · exact hc.2.1 _ (by omega) d
      · rw [hc.2.2 _ (by omega)]
        omega
    omega))
  have g0 := GS_b (p := 0) (y := y) hN.2 hI (hA 0 (by omega)).1 (hA 0 (by omega)).2
  have g1 := GS_b (p := 1) (y := y) hN.2 hI (hA 1 (by omega)).1 (hA 1 (by omega)).2
  have g2 := GS_b (p := 2) (y := y) hN.2 hI (hA 2 (by omega)).1 (hA 2 (by omega)).2
  unfold Sp
  omega
def trp (a b c : Nat) (i : Nat) : Nat := if i = 0 then a else if i = 1 then b else c
/-- all parents of a template that three splits give are found -/
def Cov (N : Nat) (il : Nat → Nat) (im : Nat → Nat → Nat) (ck n : Nat) (fk : Nat → Nat) (A q : Nat → Nat) : Prop := ∀ c, PD N (A 0) (A 1) (A 2) (dtm (mM il im) N) (Sp N il im ck A q) c → ∃ t, t < n ∧ fk t = kk c (3 + N)
theorem Cov_ext {N : Nat} {il : Nat → Nat} {im : Nat → Nat → Nat} {ck n n' : Nat} {fk fk' : Nat → Nat} {A q : Nat → Nat} (h : Cov N il im ck n fk A q) (hn : n ≤ n') (he : ∀ i, i < n → fk' i = fk i) : Cov N il im ck n' fk' A q := by
  intro c hc
  obtain ⟨t, t1, t2⟩ := h c hc
  exact ⟨t, by omega, by rw [he t t1]; exact t2⟩
def DnT (N : Nat) (il : Nat → Nat) (im : Nat → Nat → Nat) (ck : Nat) (E0 C0 E1 C1 E2 C2 : Nat → Nat) (s0 s1 s2 i j k n : Nat) (fk : Nat → Nat) : Prop := ∀ a b c, a < s0 → b < s1 → c < s2 → (a < i ∨ (a = i ∧ (b < j ∨ (b = j ∧ c < k)))) → Cov N il im ck n fk (trp (E0 a) (E1 b) (E2 c)) (trp (C0 a) (C1 b) (C2 c))
section
variable {post : Int32 → TA → TA → Int32 → TA → TA → TA → Int32 → TA → TA → Int32 → TA → TA → Int32 → Prop} {N : Nat} {il : Nat → Nat} {im : Nat → Nat → Nat} {ck : Nat} {E0 C0 E1 C1 E2 C2 : Nat → Nat} {s0 s1 s2 : Nat} {ce cm adj base e0 g0 e1 g1 e2 g2 iS : TA} {P0 P1 P2 l : Int32} {iL : Nat → TA}
theorem s0_96 {K82 : TA → TA → Int32 → TA → TA → TA → Int32 → TA → TA → Int32 → TA → TA → Int32 → Int32 → Int32 → Prop} (hN : 2 ≤ N ∧ N ≤ 4) (hI : ∀ x, x < 4 → il x ≤ 4) (hdt : dtm (mM il im) N ≠ 0) (hck : rch N il im ck) (hs0 : s0 ≤ 21) (hs1 : s1 ≤ 21) (hs2 : s2 ≤ 21)
    (hb : ∀ y, y < 4 → base y = iI (sm4 (fun x => AD (mM il im) N y x * ((dig N ck (3 + x) : Int) - 9))))
    (S0 : SPI N (fun A q => cutOK il im A (dig N ck 0) q) (GS (AD (mM il im) N) il im 0 (dig N ck 0)) s0 E0 C0 e0 g0) (S1 : SPI N (fun A q => cutOK il im A (dig N ck 1) q) (GS (AD (mM il im) N) il im 1 (dig N ck 1)) s1 E1 C1 e1 g1) (S2 : SPI N (fun A q => cutOK il im A (dig N ck 2) q) (GS (AD (mM il im) N) il im 2 (dig N ck 2)) s2 E2 C2 e2 g2)
    (hF : Big N il im → ∀ o f m, post (iI 0) o f m base e0 g0 (iI s0) e1 g1 (iI s1) e2 g2 (iI s2)) {i j : Nat} (hi : i < s0) (hj : j < s1) {n0 : Nat} {fk0 : Nat → Nat}
    (hk : ∀ n ok fk o f, CST N il im n ok fk o f → n0 ≤ n → (∀ t, t < n0 → fk t = fk0 t) → DnT N il im ck E0 C0 E1 C1 E2 C2 s0 s1 s2 i (j + 1) 0 n fk → K82 o f (iI ((n : Nat) : Int)) base e0 g0 (iI s0) e1 g1 (iI s1) e2 g2 (iI s2) (iI i) (iI ((j + 1 : Nat) : Int))) :
    ∀ (r k : Nat) (n : Nat) (ok fk : Nat → Nat) (o f : TA) (x4 : Int32), k + r = s2 → x4 = iI k → CST N il im n ok fk o f → n0 ≤ n → (∀ t, t < n0 → fk t = fk0 t) → DnT N il im ck E0 C0 E1 C1 E2 C2 s0 s1 s2 i j k n fk → VX0_admitParents_96 post K82 ce cm adj (iI (dtm (mM il im) N)) (iI N) P0 P1 P2 l iL iS (r + 1) o f (iI n) base e0 g0 (iI s0) e1 g1 (iI s1) e2 g2 (iI s2) (iI i) (iI j) x4 := by
  intro r
  induction r with
  | zero =>
    intro k n ok fk o f x4 hkr e4 hC hn he hD
    have : k = s2 := by omega
    subst this e4
    have ej : (j : Int) + 1 = ((j + 1 : Nat) : Int) := by omega
    rw [VX0_admitParents_96]
    simp (disch := omega) only [ej, iI_lit, lI_lit, iI_nI, iI_add, iI_sub, iI_mul, iI_neg, c_lt_t, c_lt_f, c_le_t, c_le_f, c_eq_t, c_eq_f, c_in_t, iI_clamp, Int.toNat_natCast, forall_eq, true_and, and_true, false_and, and_false, not_true_eq_false, not_false_eq_true, true_implies, false_implies, implies_true, forall_const, true_or, or_true, false_or, or_false, pk_us, vu_s, vL_s, vb_0, vb_1, if_true, if_false, ite_true, ite_false]
    exact hk n ok fk o f hC hn he (fun a b c h1 h2 h3 h4 => hD a b c h1 h2 h3 (by omega))
  | succ r ih =>
    intro k n ok fk o f x4 hkr e4 hC hn he hD
    subst e4
    obtain ⟨c, hc, hcx⟩ := rch_VD hck
    obtain ⟨a1, a2, a3, a4⟩ := S0 i hi
    obtain ⟨b1, b2, b3, b4⟩ := S1 j hj
    obtain ⟨d1, d2, d3, d4⟩ := S2 k (by omega)
    have hA : ∀ t, t < 3 → trp (E0 i) (E1 j) (E2 k) t ≤ N ∧ cutOK il im (trp (E0 i) (E1 j) (E2 k) t) (dig N ck t) (trp (C0 i) (C1 j) (C2 k) t) := by
      intro t ht
      obtain rfl | rfl | rfl : t = 0 ∨ t = 1 ∨ t = 2 := by omega
      · exact ⟨a3, a4⟩
      · exact ⟨b3, b4⟩
      · exact ⟨d3, d4⟩
    have hSb := Sp_b hN hI hc hcx hA
    have hdb := mnr_b (M := mM il im) hN.2 (fun i j hj => mM_b hI i j (by omega)) N 0 (fun _ => true)
    have ek : (k : Int) + 1 = ((k + 1 : Nat) : Int) := by omega
    rw [VX0_admitParents_96]
    simp (disch := omega) only [ek, iI_lit, lI_lit, iI_nI, iI_add, iI_sub, iI_mul, iI_neg, c_lt_t, c_lt_f, c_le_t, c_le_f, c_eq_t, c_eq_f, c_in_t, iI_clamp, Int.toNat_natCast, forall_eq, true_and, and_true, false_and, and_false, not_true_eq_false, not_false_eq_true, true_implies, false_implies, implies_true, forall_const, true_or, or_true, false_or, or_false, pk_us, vu_s, vL_s, vb_0, vb_1, if_true, if_false, ite_true, ite_false]
    refine s0_parentKey (c0 := trp (E0 i) (E1 j) (E2 k)) (B := fun y => sm4 (fun x => AD (mM il im) N y x * ((dig N ck (3 + x) : Int) - 9))) (G0 := fun y => GS (AD (mM il im) N) il im 0 (dig N ck 0) y (E0 i) (C0 i)) (G1 := fun y => GS (AD (mM il im) N) il im 1 (dig N ck 1) y (E1 j) (C1 j)) (G2 := fun y => GS (AD (mM il im) N) il im 2 (dig N ck 2) y (E2 k) (C2 k)) hN hdt hdb (by omega) (by omega) (by omega) (fun t ht => (hA t ht).1) hb a1 b1 d1 a2 b2 d2 (fun y hy => ?_) (fun c' hc' => ?_) (fun hno => ?_)
    · have h4 : ∀ z : Int, z.natAbs ≤ 20000000 → -100000000 ≤ z ∧ z ≤ 100000000 := fun z hz => by omega
      exact h4 _ (hSb y)
    · have hPD : PD N (trp (E0 i) (E1 j) (E2 k) 0) (trp (E0 i) (E1 j) (E2 k) 1) (trp (E0 i) (E1 j) (E2 k) 2) (dtm (mM il im) N) (Sp N il im ck (trp (E0 i) (E1 j) (E2 k)) (trp (C0 i) (C1 j) (C2 k))) c' := hc'
      have hr : rch N il im (kk c' (3 + N)) := rch_par hck ⟨_, _, hA, c', hPD, rfl⟩
      have hkl := rch_lt hN hr
      simp (disch := omega) only [iI_lit, lI_lit, iI_nI, iI_add, iI_sub, iI_mul, iI_neg, c_lt_t, c_lt_f, c_le_t, c_le_f, c_eq_t, c_eq_f, c_in_t, iI_clamp, Int.toNat_natCast, forall_eq, true_and, and_true, false_and, and_false, not_true_eq_false, not_false_eq_true, true_implies, false_implies, implies_true, forall_const, true_or, or_true, false_or, or_false, pk_us, vu_s, vL_s, vb_0, vb_1, if_true, if_false, ite_true, ite_false]
      refine s0_admitC hN hC hr (fun n' ok' fk' o' f' hC' h1 h2 h3 => ?_) (fun hB o f m => ?_)
      · simp (disch := omega) only [iI_lit, lI_lit, iI_nI, iI_add, iI_sub, iI_mul, iI_neg, c_lt_t, c_lt_f, c_le_t, c_le_f, c_eq_t, c_eq_f, c_in_t, iI_clamp, Int.toNat_natCast, forall_eq, true_and, and_true, false_and, and_false, not_true_eq_false, not_false_eq_true, true_implies, false_implies, implies_true, forall_const, true_or, or_true, false_or, or_false, pk_us, vu_s, vL_s, vb_0, vb_1, if_true, if_false, ite_true, ite_false]
        refine ih (k + 1) n' ok' fk' o' f' _ (by omega) rfl hC' (by omega) (fun t ht => by rw [h2 t (by omega)]; exact he t ht) (fun a b d q1 q2 q3 q4 => ?_)
        by_cases e : a = i ∧ b = j ∧ d = k
        · obtain ⟨rfl, rfl, rfl⟩ := e
          intro c2 hc2
          obtain ⟨t, t1, t2⟩ := h3
          refine ⟨t, t1, ?_⟩
          rw [t2]
          refine kk_cg _ (fun z hz => ?_)
          obtain ⟨v1, w0, w1, w2, w3⟩ := hPD
          obtain ⟨v1', w0', w1', w2', w3'⟩ := hc2
          by_cases z3 : z < 3
          · obtain rfl | rfl | rfl : z = 0 ∨ z = 1 ∨ z = 2 := by omega
            · rw [w0, w0']
            · rw [w1, w1']
            · rw [w2, w2']
          · have u1 := w3 (z - 3) (by omega)
            have u2 := w3' (z - 3) (by omega)
            rw [← u2] at u1
            have u3 := Int.eq_of_mul_eq_mul_right hdt u1
            rw [show 3 + (z - 3) = z by omega] at u3
            omega
        · exact Cov_ext (hD a b d q1 q2 q3 (by omega)) h1 h2
      · simp (disch := omega) only [iI_lit, lI_lit, iI_nI, iI_add, iI_sub, iI_mul, iI_neg, c_lt_t, c_lt_f, c_le_t, c_le_f, c_eq_t, c_eq_f, c_in_t, iI_clamp, Int.toNat_natCast, forall_eq, true_and, and_true, false_and, and_false, not_true_eq_false, not_false_eq_true, true_implies, false_implies, implies_true, forall_const, true_or, or_true, false_or, or_false, pk_us, vu_s, vL_s, vb_0, vb_1, if_true, if_false, ite_true, ite_false]
        exact hF hB o f m
    · simp (disch := omega) only [iI_lit, lI_lit, iI_nI, iI_add, iI_sub, iI_mul, iI_neg, c_lt_t, c_lt_f, c_le_t, c_le_f, c_eq_t, c_eq_f, c_in_t, iI_clamp, Int.toNat_natCast, forall_eq, true_and, and_true, false_and, and_false, not_true_eq_false, not_false_eq_true, true_implies, false_implies, implies_true, forall_const, true_or, or_true, false_or, or_false, pk_us, vu_s, vL_s, vb_0, vb_1, if_true, if_false, ite_true, ite_false]
      refine ih (k + 1) n ok fk o f _ (by omega) rfl hC hn he (fun a b d q1 q2 q3 q4 => ?_)
      by_cases e : a = i ∧ b = j ∧ d = k
      · obtain ⟨rfl, rfl, rfl⟩ := e
        intro c2 hc2
        exact absurd ⟨c2, hc2⟩ hno
      · exact hD a b d q1 q2 q3 (by omega)
theorem s0_parents (hN : 2 ≤ N ∧ N ≤ 4) (hI : ∀ x, x < 4 → il x ≤ 4) (hdt : dtm (mM il im) N ≠ 0) (hck : rch N il im ck) (hs0 : s0 ≤ 21) (hs1 : s1 ≤ 21) (hs2 : s2 ≤ 21)
    (hb : ∀ y, y < 4 → base y = iI (sm4 (fun x => AD (mM il im) N y x * ((dig N ck (3 + x) : Int) - 9))))
    (S0 : SPI N (fun A q => cutOK il im A (dig N ck 0) q) (GS (AD (mM il im) N) il im 0 (dig N ck 0)) s0 E0 C0 e0 g0) (S1 : SPI N (fun A q => cutOK il im A (dig N ck 1) q) (GS (AD (mM il im) N) il im 1 (dig N ck 1)) s1 E1 C1 e1 g1) (S2 : SPI N (fun A q => cutOK il im A (dig N ck 2) q) (GS (AD (mM il im) N) il im 2 (dig N ck 2)) s2 E2 C2 e2 g2)
    (hF : Big N il im → ∀ o f m, post (iI 0) o f m base e0 g0 (iI s0) e1 g1 (iI s1) e2 g2 (iI s2)) {n0 : Nat} {ok0 fk0 : Nat → Nat} {o0 f0 : TA} (hC0 : CST N il im n0 ok0 fk0 o0 f0)
    (hk : ∀ n ok fk o f, CST N il im n ok fk o f → n0 ≤ n → (∀ t, t < n0 → fk t = fk0 t) → (∀ a b c, a < s0 → b < s1 → c < s2 → Cov N il im ck n fk (trp (E0 a) (E1 b) (E2 c)) (trp (C0 a) (C1 b) (C2 c))) → post (iI 1) o f (iI ((n : Nat) : Int)) base e0 g0 (iI s0) e1 g1 (iI s1) e2 g2 (iI s2)) :
    ∃ q, VX0_admitParents_69 post ce cm adj (iI (dtm (mM il im) N)) (iI N) P0 P1 P2 l iL iS q o0 f0 (iI n0) base e0 g0 (iI s0) e1 g1 (iI s1) e2 g2 (iI s2) (iI 0) := by
  have L82 : ∀ (K69 : TA → TA → Int32 → TA → TA → TA → Int32 → TA → TA → Int32 → TA → TA → Int32 → Int32 → Prop) (i : Nat), i < s0 → (∀ n ok fk o f, CST N il im n ok fk o f → n0 ≤ n → (∀ t, t < n0 → fk t = fk0 t) → DnT N il im ck E0 C0 E1 C1 E2 C2 s0 s1 s2 (i + 1) 0 0 n fk → K69 o f (iI ((n : Nat) : Int)) base e0 g0 (iI s0) e1 g1 (iI s1) e2 g2 (iI s2) (iI ((i + 1 : Nat) : Int))) → ∀ (r j : Nat) (n : Nat) (ok fk : Nat → Nat) (o f : TA) (x3 : Int32), j + r = s1 → x3 = iI j → CST N il im n ok fk o f → n0 ≤ n → (∀ t, t < n0 → fk t = fk0 t) → DnT N il im ck E0 C0 E1 C1 E2 C2 s0 s1 s2 i j 0 n fk → VX0_admitParents_82 post K69 ce cm adj (iI (dtm (mM il im) N)) (iI N) P0 P1 P2 l iL iS (r + 1) o f (iI n) base e0 g0 (iI s0) e1 g1 (iI s1) e2 g2 (iI s2) (iI i) x3 := by
    intro K69 i hi hk69 r
    induction r with
    | zero =>
      intro j n ok fk o f x3 hj e3 hC hn he hD
      have : j = s1 := by omega
      subst this e3
      have ei : (i : Int) + 1 = ((i + 1 : Nat) : Int) := by omega
      rw [VX0_admitParents_82]
      simp (disch := omega) only [ei, iI_lit, lI_lit, iI_nI, iI_add, iI_sub, iI_mul, iI_neg, c_lt_t, c_lt_f, c_le_t, c_le_f, c_eq_t, c_eq_f, c_in_t, iI_clamp, Int.toNat_natCast, forall_eq, true_and, and_true, false_and, and_false, not_true_eq_false, not_false_eq_true, true_implies, false_implies, implies_true, forall_const, true_or, or_true, false_or, or_false, pk_us, vu_s, vL_s, vb_0, vb_1, if_true, if_false, ite_true, ite_false]
      exact hk69 n ok fk o f hC hn he (fun a b c h1 h2 h3 h4 => hD a b c h1 h2 h3 (by omega))
    | succ r ih =>
      intro j n ok fk o f x3 hj e3 hC hn he hD
      subst e3
      rw [VX0_admitParents_82]
      refine ⟨fun q => absurd ((iI_le (by omega) (by omega) (by omega) (by omega)).mp q) (by omega), fun _ => ?_⟩
      exact ⟨s2 + 1, s0_96 hN hI hdt hck hs0 hs1 hs2 hb S0 S1 S2 hF hi (by omega) (fun n' ok' fk' o' f' q1 q2 q3 q4 => ih (j + 1) n' ok' fk' o' f' _ (by omega) rfl q1 q2 q3 q4) s2 0 n ok fk o f _ (by omega) rfl hC hn he hD⟩
  have L69 : ∀ (r i : Nat) (n : Nat) (ok fk : Nat → Nat) (o f : TA) (x2 : Int32), i + r = s0 → x2 = iI i → CST N il im n ok fk o f → n0 ≤ n → (∀ t, t < n0 → fk t = fk0 t) → DnT N il im ck E0 C0 E1 C1 E2 C2 s0 s1 s2 i 0 0 n fk → VX0_admitParents_69 post ce cm adj (iI (dtm (mM il im) N)) (iI N) P0 P1 P2 l iL iS (r + 1) o f (iI n) base e0 g0 (iI s0) e1 g1 (iI s1) e2 g2 (iI s2) x2 := by
    intro r
    induction r with
    | zero =>
      intro i n ok fk o f x2 hi e2 hC hn he hD
      have : i = s0 := by omega
      subst this e2
      rw [VX0_admitParents_69]
      refine ⟨fun _ => ?_, fun q => absurd ((iI_le (by omega) (by omega) (by omega) (by omega)).mpr (by omega)) q⟩
      exact hk n ok fk o f hC hn he (fun a b c h1 h2 h3 => hD a b c h1 h2 h3 (by omega))
    | succ r ih =>
      intro i n ok fk o f x2 hi e2 hC hn he hD
      subst e2
      rw [VX0_admitParents_69]
      refine ⟨fun q => absurd ((iI_le (by omega) (by omega) (by omega) (by omega)).mp q) (by omega), fun _ => ?_⟩
      exact ⟨s1 + 1, L82 _ i (by omega) (fun n' ok' fk' o' f' q1 q2 q3 q4 => ih (i + 1) n' ok' fk' o' f' _ (by omega) rfl q1 q2 q3 q4) s1 0 n ok fk o f _ (by omega) rfl hC hn he hD⟩
  exact ⟨s0 + 1, L69 s0 0 n0 ok0 fk0 o0 f0 _ (by omega) rfl hC0 (Nat.le_refl _) (fun _ _ => rfl) (fun a b c h1 h2 h3 h4 => absurd h4 (by omega))⟩
end
