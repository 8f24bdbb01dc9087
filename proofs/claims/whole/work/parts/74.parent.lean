/-! THE REFERENCE: one parent -/
theorem s11_before {post : Int32 → Prop} {images sizes made cutAt : TA} {il : Nat → Nat} {im : Nat → Nat → Nat} {i A q x : Nat} {p : Int32} (hp : p = iI i) (hI : ∀ j, j < 4 → il j ≤ 4 ∧ sizes j = iI (il j) ∧ ∀ t, t < il j → im j t < 4 ∧ images (4 * j + t) = iI (im j t)) (hi : i < 3) (hA : A ≤ 4) (hx : x < 1000) (hq : q ≤ szE il A) (hm : made i = iI ((A : Int) - 1)) (hc : cutAt i = iI q) (h : post (iI (bef im A q x))) : VX11_before post images made cutAt p (iI x) := by
  subst hp
  have hsz := szE_le (il := il) (fun j hj => (hI j hj).1) hA
  unfold VX11_before
  refine ⟨(iI_in (by omega) (by omega)).mpr ⟨by omega, by omega⟩, (iI_in (by omega) (by omega)).mpr ⟨by omega, by omega⟩, ?_⟩
  rw [iI_clamp (by omega) (by omega), Int.toNat_natCast, hm, hc, show (0 : Int32) = iI ((0 : Nat) : Int) from rfl]
  unfold bef at h
  by_cases c : A = 0
  · have q0 : q = 0 := by
      rw [szE, if_pos c] at hq
      omega
    subst q0
    exact s11_inPart0 (by omega) h
  · have hse : szE il A = il (A - 1) := by rw [szE, if_neg c]
    obtain ⟨-, -, b3⟩ := hI (A - 1) (by omega)
    have g := s11_inPart (post := post) (images := images) (f := im (A - 1)) (A := A) (a := 0) (n := q) (x := x) (by omega) (by omega) hx (fun t ht => b3 t (by omega)) h
    rw [Nat.zero_add] at g
    exact g
theorem s11_behind {post : Int32 → Prop} {images sizes made cutAt : TA} {il : Nat → Nat} {im : Nat → Nat → Nat} {i A a q x : Nat} {p : Int32} (hp : p = iI i) (hI : ∀ j, j < 4 → il j ≤ 4 ∧ sizes j = iI (il j) ∧ ∀ t, t < il j → im j t < 4 ∧ images (4 * j + t) = iI (im j t)) (hi : i < 3) (hA : A ≤ 4) (ha : a ≤ 4) (hx : x < 1000) (hq : q + wdt a ≤ szE il A) (hm : made i = iI ((A : Int) - 1)) (hc : cutAt i = iI q) (h : post (iI (beh il im A a q x))) : VX11_behind post images sizes made cutAt p (iI ((a : Int) - 1)) (iI x) := by
  subst hp
  have hsz := szE_le (il := il) (fun j hj => (hI j hj).1) hA
  have v7 : vp_in (iI (i : Int)) 7 := (iI_in (by omega) (by omega)).mpr ⟨by omega, by omega⟩
  have v3 : vp_in (iI (i : Int)) 3 := (iI_in (by omega) (by omega)).mpr ⟨by omega, by omega⟩
  have e : (iI (i : Int)).toNatClampNeg = i := by rw [iI_clamp (by omega) (by omega), Int.toNat_natCast]
  have fin : ∀ s : Int32, s = iI ((wdt a : Nat) : Int) → VX11_behind_22 post images sizes made cutAt (iI i) (iI ((a : Int) - 1)) (iI x) s (iI q) (iI ((A : Int) - 1)) := by
    intro s hs
    subst hs
    unfold VX11_behind_22
    refine ⟨v7, ?_⟩
    rw [e, hm]
    refine s11_endSize hA (fun j hj => (hI j hj).2.1) ?_
    rw [iI_add, show (q : Int) + ((wdt a : Nat) : Int) = ((q + wdt a : Nat) : Int) by omega]
    unfold beh at h
    by_cases c : A = 0
    · have z : szE il A = 0 := by rw [szE, if_pos c]
      have q0 : q + wdt a = 0 := by omega
      rw [z, q0] at h ⊢
      exact s11_inPart0 (by omega) h
    · have hse : szE il A = il (A - 1) := by rw [szE, if_neg c]
      obtain ⟨-, -, b3⟩ := hI (A - 1) (by omega)
      have g := s11_inPart (post := post) (images := images) (f := im (A - 1)) (A := A) (a := q + wdt a) (n := szE il A - (q + wdt a)) (x := x) (by omega) (by omega) hx (fun t ht => b3 t (by omega)) h
      rw [Nat.add_sub_cancel' hq] at g
      exact g
  unfold VX11_behind
  refine ⟨v7, v3, ?_⟩
  rw [e, hm, hc]
  by_cases c : a = 0
  · refine ⟨fun q => absurd ((iI_le (by omega) (by omega) (by omega) (by omega)).mp ((show (0 : Int32) = iI 0 from rfl) ▸ q)) (by omega), fun _ => fin _ (by rw [wdt, if_pos c]; rfl)⟩
  · refine ⟨fun _ => fin _ (by rw [wdt, if_neg c]; rfl), fun q => absurd ?_ q⟩
    rw [show (0 : Int32) = iI 0 from rfl]
    exact (iI_le (by omega) (by omega) (by omega) (by omega)).mpr (by omega)
/-- what is wanted of the parent's numbers -/
def wnt (N : Nat) (il : Nat → Nat) (im : Nat → Nat → Nat) (ck : Nat) (A q : Nat → Nat) (x : Nat) : Int := ((dig N ck (3 + x) : Int) - 9) - (beh il im (A 1) (dig N ck 1) (q 1) x : Nat) - (bef im (A 2) (q 2) x : Nat) + (beh il im (A 0) (dig N ck 0) (q 0) x : Nat) + (bef im (A 1) (q 1) x : Nat)
theorem Sp_w (N : Nat) (il : Nat → Nat) (im : Nat → Nat → Nat) (ck : Nat) (A q : Nat → Nat) (y : Nat) : Sp N il im ck A q y = sm4 (fun x => AD (mM il im) N y x * wnt N il im ck A q x) := by
  simp only [Sp, GS, sm4, wnt, psg, ssg]
  simp
  grind
theorem cramer {N : Nat} (hN : 2 ≤ N ∧ N ≤ 4) (M : Nat → Nat → Int) (w : Nat → Int) (y : Nat) (hy : y < N) : dtm (mrep M y w) N = sm4 (fun x => AD M N y x * w x) := by
  obtain rfl | rfl | rfl : N = 2 ∨ N = 3 ∨ N = 4 := by omega
  · exact cramer2 M w y hy
  · exact cramer3 M w y hy
  · exact cramer4 M w y hy
def cntB (g : Nat → Bool) : Nat → Nat
  | 0 => 0
  | n + 1 => cntB g n + (if g n = true then 1 else 0)
theorem cntB_cg {g h : Nat → Bool} : ∀ n, (∀ i, i < n → g i = h i) → cntB g n = cntB h n
  | 0, _ => rfl
  | n + 1, e => by
    simp only [cntB]
    rw [cntB_cg n (fun i hi => e i (by omega)), e n (by omega)]
theorem cntB_le {g : Nat → Bool} : ∀ n, cntB g n ≤ n
  | 0 => Nat.le_refl 0
  | n + 1 => by
    have := cntB_le (g := g) n
    simp only [cntB]
    split <;> omega
theorem cntB_ins {D : Nat → Bool} {rk : Nat → Nat} {p key : Nat} (hk : D key = false) : ∀ n, p ≤ n → cntB (fun i => D (ins rk p key i)) (n + 1) = cntB (fun i => D (rk i)) n := by
  intro n
  induction n with
  | zero =>
    intro hp
    have : p = 0 := by omega
    subst this
    simp only [cntB, ins_m, hk]
    simp
  | succ n ih =>
    intro hp
    by_cases c : p = n + 1
    · subst c
      rw [cntB, ins_m, hk]
      simp only [Bool.false_eq_true, if_false, Nat.add_zero]
      exact cntB_cg _ (fun i hi => by rw [ins_l hi])
    · rw [cntB, ih (by omega), ins_r (show p < n + 1 by omega), Nat.add_sub_cancel]
      rfl
theorem cntB_add {g h : Nat → Bool} {o : Nat} (h1 : g o = false) (h2 : h o = true) (h3 : ∀ i, i ≠ o → h i = g i) : ∀ n, o < n → cntB h n = cntB g n + 1 := by
  intro n
  induction n with
  | zero => intro q; exact absurd q (Nat.not_lt_zero o)
  | succ n ih =>
    intro q
    simp only [cntB]
    by_cases c : o = n
    · subst c
      rw [h1, h2, cntB_cg o (fun i hi => h3 i (by omega))]
      simp
    · rw [ih (by omega), h3 n (by omega)]
      omega
/-- what the reference has found and done -/
def RST (N : Nat) (il : Nat → Nat) (im : Nat → Nat → Nat) (n : Nat) (rk : Nat → Nat) (D : Nat → Bool) (t : Nat) (found isDone : TA) : Prop := n ≤ 201 ∧ SRT n rk ∧ (∀ i, i < n → rch N il im (rk i)) ∧ FCe N n rk found ∧ (∀ i, i < n → isDone i = iI (if D (rk i) = true then 1 else 0)) ∧ (∀ x, D x = true → ∃ i, i < n ∧ rk i = x) ∧ cntB (fun i => D (rk i)) n = t
theorem nar_b (b : Bool) : vp_nar .boolean (iI (if b = true then 1 else 0)) = iI (if b = true then 1 else 0) := by
  cases b
  · exact nar_0
  · exact nar_1
theorem Cov_mem {N : Nat} {il : Nat → Nat} {im : Nat → Nat → Nat} {ck n n' : Nat} {fk fk' : Nat → Nat} {A q : Nat → Nat} (h : Cov N il im ck n fk A q) (he : ∀ x, (∃ i, i < n ∧ fk i = x) → ∃ i, i < n' ∧ fk' i = x) : Cov N il im ck n' fk' A q := fun c hc => he _ (h c hc)
theorem PD_uq {N : Nat} {A0 A1 A2 : Nat} {dt : Int} {S : Nat → Int} {c d : Nat → Nat} (hdt : dt ≠ 0) (h : PD N A0 A1 A2 dt S c) (h' : PD N A0 A1 A2 dt S d) : kk c (3 + N) = kk d (3 + N) := by
  refine kk_cg _ (fun z hz => ?_)
  obtain ⟨v1, w0, w1, w2, w3⟩ := h
  obtain ⟨v1', w0', w1', w2', w3'⟩ := h'
  by_cases z3 : z < 3
  · obtain rfl | rfl | rfl : z = 0 ∨ z = 1 ∨ z = 2 := by omega
    · rw [w0, w0']
    · rw [w1, w1']
    · rw [w2, w2']
  · have u1 := w3 (z - 3) (by omega)
    have u2 := w3' (z - 3) (by omega)
    rw [← u2] at u1
    have u3 := Int.eq_of_mul_eq_mul_right hdt u1
    rw [show 3 + (z - 3) = z by omega] at u3
    omega
theorem s11_findParent {post : TA → Int32 → TA → TA → TA → Int32 → Prop} {N : Nat} {il : Nat → Nat} {im : Nat → Nat → Nat} {images sizes cutAt child found made wanted isDone : TA} {ck n t : Nat} {rk A q : Nat → Nat} {D : Nat → Bool} (hN : 2 ≤ N ∧ N ≤ 4) (hI : ∀ j, j < 4 → il j ≤ 4 ∧ sizes j = iI (il j) ∧ ∀ t, t < il j → im j t < 4 ∧ images (4 * j + t) = iI (im j t)) (hdt : dtm (mM il im) N ≠ 0) (hck : rch N il im ck) (hch : ∀ k, k < 7 → child k = iI ((dig N ck k : Int) - of7 k)) (hn : n ≤ 200) (hR : RST N il im n rk D t found isDone) (hm : ∀ k, k < 3 → made k = iI ((A k : Int) - 1)) (hc : ∀ k, k < 3 → cutAt k = iI (q k)) (hok : ∀ i, i < 3 → A i ≤ N ∧ cutOK il im (A i) (dig N ck i) (q i))
    (h : ∀ n' rk' f' m' w' d', RST N il im n' rk' D t f' d' → (∀ x, (∃ i, i < n ∧ rk i = x) → ∃ i, i < n' ∧ rk' i = x) → Cov N il im ck n' rk' A q → (∀ k, k < 3 → m' k = made k) → post f' (iI ((n' : Nat) : Int)) m' w' d' (iI (if n' = 201 then 1 else 0))) :
    VX11_findParent post (iI N) images sizes cutAt child (lI (dtm (mM il im) N)) found (iI n) made wanted isDone (iI 0) := by
  have hIl : ∀ x, x < 4 → il x ≤ 4 := fun x hx => (hI x hx).1
  obtain ⟨cc, hcc, hckc⟩ := rch_VD hck
  have hSb := Sp_b hN hIl hcc hckc hok
  have hdb := mnr_b (M := mM il im) hN.2 (fun i j hj => mM_b hIl i j (by omega)) N 0 (fun _ => true)
  have hd3 : ∀ i, i < 3 → dig N ck i ≤ N := fun i hi => dig_le hN hck hi
  have hd18 : ∀ k, k < 7 → dig N ck k ≤ 18 := by
    intro k hk
    have := dig_kk hN hcc k hk
    rw [← hckc] at this
    rw [this]
    exact VD_b hN.2 hcc k
  have hwb : ∀ x, x < 4 → -1000 ≤ wnt N il im ck A q x ∧ wnt N il im ck A q x ≤ 1000 := by
    intro x hx
    have b1 := hd18 (3 + x) (by omega)
    have s0 := szE_le (il := il) hIl (show A 0 ≤ 4 by have := (hok 0 (by omega)).1; omega)
    have s1 := szE_le (il := il) hIl (show A 1 ≤ 4 by have := (hok 1 (by omega)).1; omega)
    have s2 := szE_le (il := il) hIl (show A 2 ≤ 4 by have := (hok 2 (by omega)).1; omega)
    have q1 := (hok 1 (by omega)).2.1
    have q2 := (hok 2 (by omega)).2.1
    have c1 := cn_le (im (A 1 - 1)) x (q 1 + wdt (dig N ck 1)) (szE il (A 1) - (q 1 + wdt (dig N ck 1)))
    have c2 := cn_le (im (A 2 - 1)) x 0 (q 2)
    have c3 := cn_le (im (A 0 - 1)) x (q 0 + wdt (dig N ck 0)) (szE il (A 0) - (q 0 + wdt (dig N ck 0)))
    have c4 := cn_le (im (A 1 - 1)) x 0 (q 1)
    unfold wnt beh bef
    omega
  obtain ⟨r1, r2, r3, r4, r5, r6, r7⟩ := hR
  have k91 : ∀ (w' m0 : TA), (∀ x, x < N → w' x = iI (wnt N il im ck A q x)) → (∀ k, k < 3 → m0 k = made k) → (∀ k, 3 ≤ k → k < 7 → m0 k = iI 0) → VX11_findParent_91 post (iI N) images sizes cutAt child (lI (dtm (mM il im) N)) found (iI n) m0 w' isDone (iI 0) := by
    intro w' m0 hw' hm0 hm1
    unfold VX11_findParent_91
    refine s11_solves (il := il) (im := im) (w := wnt N il im ck A q) (T := Sp N il im ck A q) (c0 := A) hN hI (fun x hx => ⟨hw' x hx, hwb x (by omega)⟩) (fun y hy => by rw [cramer hN _ _ y hy, Sp_w]) (fun y hy => by have := hSb y; omega) hdt hdb (fun k hk => (hok k hk).1) (fun k hk => by rw [hm0 k hk]; exact hm k hk) hm1 (fun c hc' m' hm' => ?_) (fun hno m' hm' => ?_)
    · have hrk : rch N il im (kk c (3 + N)) := rch_par hck ⟨A, q, hok, c, hc', rfl⟩
      have hcov : ∀ n' rk', (∃ i, i < n' ∧ rk' i = kk c (3 + N)) → Cov N il im ck n' rk' A q := by
        intro n' rk' hmem c2 hc2
        rw [PD_uq hdt hc2 hc']
        exact hmem
      have hkeep : ∀ k, k < 3 → m' k = made k := by
        intro k hk
        rw [hm' k (by omega), hm k hk]
        have : c k = A k := by
          obtain rfl | rfl | rfl : k = 0 ∨ k = 1 ∨ k = 2 := by omega
          · exact hc'.2.1
          · exact hc'.2.2.1
          · exact hc'.2.2.2.1
        rw [this, of7, if_pos hk]
      refine ⟨fun q => absurd q n10, fun _ => ?_⟩
      refine s11_enter (mc := c) hN hn r2 r3 r4 hc'.1 hm' (fun hin => ?_) (fun hnot p f' hp hS hF => ?_)
      · refine ⟨fun _ => ?_, fun q => absurd rfl q⟩
        have g := h n rk found m' w' isDone ⟨r1, r2, r3, r4, r5, r6, r7⟩ (fun x hx => hx) (hcov n rk hin) hkeep
        rw [if_neg (by omega)] at g
        exact g
      · have hDk : D (kk c (3 + N)) = false := by
          cases e : D (kk c (3 + N)) with
          | false => rfl
          | true => exact absurd (r6 _ e) hnot
        refine ⟨fun q => absurd ((iI_eq (by omega) (by omega) (by omega) (by omega)).mp (q.trans (show (-2 : Int32) = iI (-2) from rfl))) (by omega), fun _ => ?_⟩
        rintro y27 rfl
        have e27 : (if (200 : Int32) < iI ((n + 1 : Nat) : Int) then (200 : Int32) else iI ((n + 1 : Nat) : Int)) = iI ((min (n + 1) 200 : Nat) : Int) := by
          rw [show (200 : Int32) = iI 200 from iI_lit 200]
          by_cases c : 200 < n + 1
          · rw [if_pos ((iI_lt (by omega) (by omega) (by omega) (by omega)).mpr (by omega))]
            exact congrArg iI (by omega)
          · rw [if_neg (fun q => c (by have := (iI_lt (by omega) (by omega) (by omega) (by omega)).mp q; omega))]
            exact congrArg iI (by omega)
        rw [e27]
        have loop : ∀ (r m : Nat) (dn : TA) (x4 : Int32), m = p + r → m ≤ min (n + 1) 200 ∨ r = 0 → x4 = iI m ∨ (r = 0 ∧ ∃ z : Nat, z ≤ p ∧ x4 = iI z) → (∀ j, j < m → dn j = isDone j) → (∀ j, m < j → j < n + 1 → dn j = isDone (j - 1)) → VX11_findParent_122 post (iI N) images sizes cutAt child (lI (dtm (mM il im) N)) (r + 1) f' (iI ((n + 1 : Nat) : Int)) m' w' dn (iI 0) (iI p) x4 := by
          intro r
          induction r with
          | zero =>
            intro m dn x4 hm hmb e4 h1 h2
            have : m = p := by omega
            subst this
            have hx4 : ∃ z : Nat, z ≤ m ∧ x4 = iI z := by
              rcases e4 with e | ⟨_, e⟩
              · exact ⟨m, Nat.le_refl _, e⟩
              · exact e
            obtain ⟨z, hz, rfl⟩ := hx4
            rw [VX11_findParent_122]
            refine ⟨fun _ => ?_, fun q => absurd ((iI_le (by omega) (by omega) (by omega) (by omega)).mpr (by omega)) q⟩
            unfold VX11_findParent_150
            rw [show (0 : Int32) = iI 0 from rfl, nar_0, iI_clamp (by omega) (by omega), Int.toNat_natCast]
            have hR' : RST N il im (n + 1) (ins rk m (kk c (3 + N))) D t f' (upd dn m (iI 0)) := by
              refine ⟨by omega, hS, fun i hi => ?_, hF, fun i hi => ?_, fun x hx => ?_, ?_⟩
              · obtain e | ⟨j, hj, e⟩ := (ins_mem (ok := rk) (key := kk c (3 + N)) hp (ins rk m (kk c (3 + N)) i)).mp ⟨i, hi, rfl⟩
                · rw [e]
                  exact hrk
                · rw [← e]
                  exact r3 j hj
              · by_cases d : i = m
                · rw [d, pk_us, ins_m, hDk]
                  rfl
                · rw [pk_un d]
                  by_cases e : i < m
                  · rw [ins_l e, h1 i e]
                    exact r5 i (by omega)
                  · rw [ins_r (by omega), h2 i (by omega) hi]
                    exact r5 (i - 1) (by omega)
              · exact (ins_mem hp x).mpr (Or.inr (r6 x hx))
              · rw [cntB_ins hDk n hp]
                exact r7
            have g := h (n + 1) (ins rk m (kk c (3 + N))) f' m' w' (upd dn m (iI 0)) hR' (fun x hx => (ins_mem hp x).mpr (Or.inr hx)) (hcov _ _ ⟨m, by omega, ins_m⟩) hkeep
            refine ⟨(iI_in (by omega) (by omega)).mpr ⟨by omega, by omega⟩, fun q => ?_, fun q => ?_⟩
            · have : ¬ n + 1 = 201 := by
                have := (iI_le (by omega) (by omega) (by omega) (by omega)).mp ((show (200 : Int32) = iI 200 from iI_lit 200) ▸ q)
                omega
              rw [if_neg this] at g
              exact g
            · have : n + 1 = 201 := by
                by_cases c2 : n + 1 ≤ 200
                · exfalso
                  apply q
                  rw [show (200 : Int32) = iI 200 from iI_lit 200]
                  exact (iI_le (by omega) (by omega) (by omega) (by omega)).mpr (by omega)
                · omega
              rw [if_pos this] at g
              exact g
          | succ r ih =>
            intro m dn x4 hm hmb e4 h1 h2
            have hmb' : m ≤ min (n + 1) 200 := by omega
            have e4' : x4 = iI m := by
              rcases e4 with e | ⟨e, _⟩
              · exact e
              · omega
            subst e4'
            have e0 : iI (m : Int) - 1 = iI ((m - 1 : Nat) : Int) := by
              rw [show (1 : Int32) = iI 1 from rfl, iI_sub]
              exact congrArg iI (by omega)
            rw [VX11_findParent_122]
            refine ⟨fun q => absurd ((iI_le (by omega) (by omega) (by omega) (by omega)).mp q) (by omega), fun _ => ?_⟩
            rw [e0, iI_clamp (by omega) (by omega), Int.toNat_natCast]
            refine ⟨(iI_in (by omega) (by omega)).mpr ⟨by omega, by omega⟩, ?_⟩
            rintro y33 rfl
            refine ⟨(iI_in (by omega) (by omega)).mpr ⟨by omega, by omega⟩, ?_⟩
            rw [iI_clamp (by omega) (by omega), Int.toNat_natCast]
            refine ih (m - 1) _ _ (by omega) (Or.inl (by omega)) (Or.inl ?_) (fun j hj => ?_) (fun j hj1 hj2 => ?_)
            · rw [show (-1 : Int32) = iI (-1) from rfl, iI_add]
              exact congrArg iI (by omega)
            · rw [pk_un (by omega)]
              exact h1 j (by omega)
            · by_cases e : j = m
              · rw [e, pk_us, h1 (m - 1) (by omega), r5 (m - 1) (by omega), nar_b]
              · rw [pk_un e]
                exact h2 j (by omega) hj2
        by_cases cp : p ≤ min (n + 1) 200
        · exact ⟨min (n + 1) 200 - p + 1, loop (min (n + 1) 200 - p) (min (n + 1) 200) isDone _ (by omega) (Or.inl (Nat.le_refl _)) (Or.inl rfl) (fun _ _ => rfl) (fun j h1 h2 => absurd h1 (by omega))⟩
        · exact ⟨0 + 1, loop 0 p isDone _ (by omega) (Or.inr rfl) (Or.inr ⟨rfl, min (n + 1) 200, by omega, rfl⟩) (fun _ _ => rfl) (fun j h1 h2 => absurd h1 (by omega))⟩
    · refine ⟨fun _ => ?_, fun q => absurd rfl q⟩
      have g := h n rk found m' w' isDone ⟨r1, r2, r3, r4, r5, r6, r7⟩ (fun x hx => hx) (fun c2 hc2 => absurd ⟨c2, hc2⟩ hno) (fun k hk => by rw [hm' k hk]; exact hm0 k hk)
      rw [if_neg (by omega)] at g
      exact g
  have k72 : ∀ (w' : TA), (∀ x, x < N → w' x = iI (wnt N il im ck A q x)) → ∀ (r m : Nat) (m0 : TA) (x3 : Int32), m + r = 7 → 3 ≤ m → x3 = iI m → (∀ k, k < 3 → m0 k = made k) → (∀ k, 3 ≤ k → k < m → m0 k = iI 0) → VX11_findParent_72 post (iI N) images sizes cutAt child (lI (dtm (mM il im) N)) (r + 1) found (iI n) m0 w' isDone (iI 0) x3 := by
    intro w' hw' r
    induction r with
    | zero =>
      intro m m0 x3 hm7 h3 e3 a1 a2
      have : m = 7 := by omega
      subst this e3
      rw [VX11_findParent_72]
      refine ⟨fun _ => k91 w' m0 hw' a1 a2, fun q => absurd ?_ q⟩
      rw [show (7 : Int32) = iI 7 from rfl]
      exact (iI_le (by omega) (by omega) (by omega) (by omega)).mpr (by omega)
    | succ r ih =>
      intro m m0 x3 hm7 h3 e3 a1 a2
      subst e3
      rw [VX11_findParent_72]
      refine ⟨fun q => absurd ((iI_le (by omega) (by omega) (by omega) (by omega)).mp ((show (7 : Int32) = iI 7 from rfl) ▸ q)) (by omega), fun _ => ⟨(iI_in (by omega) (by omega)).mpr ⟨by omega, by omega⟩, ?_⟩⟩
      rw [iI_clamp (by omega) (by omega), Int.toNat_natCast]
      refine ih (m + 1) _ _ (by omega) (by omega) ?_ (fun k hk => ?_) (fun k hk1 hk2 => ?_)
      · rw [show (1 : Int32) = iI 1 from rfl, iI_add]
        exact congrArg iI (by omega)
      · rw [pk_un (by omega)]
        exact a1 k hk
      · by_cases e : k = m
        · rw [e, pk_us]
          rfl
        · rw [pk_un e]
          exact a2 k hk1 (by omega)
  have k2 : ∀ (r x : Nat) (w' : TA) (x3 : Int32), x + r = N → x3 = iI x → (∀ z, z < x → w' z = iI (wnt N il im ck A q z)) → VX11_findParent_2 post (iI N) images sizes cutAt child (lI (dtm (mM il im) N)) (r + 1) found (iI n) made w' isDone (iI 0) x3 := by
    intro r
    induction r with
    | zero =>
      intro x w' x3 hx e3 a1
      have : x = N := by omega
      subst this e3
      rw [VX11_findParent_2]
      refine ⟨fun _ => ⟨5, k72 w' a1 4 3 made _ (by omega) (by omega) rfl (fun _ _ => rfl) (fun k h1 h2 => absurd h1 (by omega))⟩, fun q => absurd ((iI_le (by omega) (by omega) (by omega) (by omega)).mpr (by omega)) q⟩
    | succ r ih =>
      intro x w' x3 hx e3 a1
      subst e3
      have e3 : (3 : Int32) + iI (x : Int) = iI ((3 + x : Nat) : Int) := by
        rw [show (3 : Int32) = iI 3 from rfl, iI_add]
        exact congrArg iI (by omega)
      have v7 : ∀ k : Nat, k < 7 → vp_in (iI (k : Int)) 7 := fun k hk => (iI_in (by omega) (by omega)).mpr ⟨by omega, by omega⟩
      have z0 := hok 0 (by omega)
      have z1 := hok 1 (by omega)
      have z2 := hok 2 (by omega)
      have y0 := hd3 0 (by omega)
      have y1 := hd3 1 (by omega)
      have q1 := z1.2.1
      have q2 := z2.2.1
      rw [VX11_findParent_2]
      refine ⟨fun q => absurd ((iI_le (by omega) (by omega) (by omega) (by omega)).mp q) (by omega), fun _ => ?_⟩
      rw [e3, iI_clamp (by omega) (by omega), Int.toNat_natCast, cl_1, cl_0, hch (3 + x) (by omega), hch 1 (by omega), hch 0 (by omega)]
      refine ⟨v7 (3 + x) (by omega), ?_⟩
      rintro y3 rfl
      refine ⟨v7 1 (by omega), ?_⟩
      rintro y5 rfl
      refine s11_behind (i := 1) rfl hI (by omega) (by omega) (by omega) (by omega) z1.2.1 (hm 1 (by omega)) (hc 1 (by omega)) ?_
      refine s11_before (i := 2) rfl hI (by omega) (by omega) (by omega) (by omega) (hm 2 (by omega)) (hc 2 (by omega)) ?_
      refine ⟨v7 0 (by omega), ?_⟩
      rintro y9 rfl
      refine s11_behind (i := 0) rfl hI (by omega) (by omega) (by omega) (by omega) z0.2.1 (hm 0 (by omega)) (hc 0 (by omega)) ?_
      refine s11_before (i := 1) rfl hI (by omega) (by omega) (by omega) (by omega) (hm 1 (by omega)) (hc 1 (by omega)) ?_
      rintro y13 rfl
      refine ⟨(iI_in (by omega) (by omega)).mpr ⟨by omega, by omega⟩, ?_⟩
      rw [iI_clamp (by omega) (by omega), Int.toNat_natCast, iI_sub, iI_sub, iI_add, iI_add, show (1 : Int32) = iI 1 from rfl, iI_add]
      refine ih (x + 1) _ _ (by omega) (congrArg iI (by omega)) (fun z hz => ?_)
      by_cases e : z = x
      · rw [e, pk_us]
        refine congrArg iI ?_
        unfold wnt
        rw [of7, if_neg (by omega)]
      · rw [pk_un e]
        exact a1 z (by omega)
  exact ⟨N + 1, k2 N 0 wanted _ (by omega) rfl (fun z hz => absurd hz (Nat.not_lt_zero z))⟩
