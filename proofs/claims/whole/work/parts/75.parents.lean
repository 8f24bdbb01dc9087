/-! THE REFERENCE: all parents, the closure -/
theorem d_25 {m : Nat} (h : m < 2147483648) : iI (m : Int) / iI 25 = iI ((m / 25 : Nat) : Int) := d_nat (d := 25) h (by omega)
def qd (C : Nat) (i : Nat) : Nat := trp (C / 25) (C / 5 % 5) (C % 5) i
def ed (b E : Nat) (i : Nat) : Nat := trp (E / (b * b)) (E / b % b) (E % b) i
section
variable {N : Nat} {il : Nat → Nat} {im : Nat → Nat → Nat} {images sizes child : TA} {ck : Nat}
theorem s11_91 {post : TA → Int32 → TA → TA → TA → TA → Int32 → Prop} {K2 : TA → Int32 → TA → TA → TA → TA → Int32 → Int32 → Prop} {n0 t E : Nat} {rk0 A : Nat → Nat} {D : Nat → Bool} (hN : 2 ≤ N ∧ N ≤ 4) (hI : ∀ j, j < 4 → il j ≤ 4 ∧ sizes j = iI (il j) ∧ ∀ t, t < il j → im j t < 4 ∧ images (4 * j + t) = iI (im j t)) (hdt : dtm (mM il im) N ≠ 0) (hck : rch N il im ck) (hch : ∀ k, k < 7 → child k = iI ((dig N ck k : Int) - of7 k)) (hA : ∀ k, k < 3 → A k ≤ N) (hE : E < 1000)
    (hk : ∀ n rk f m c w d, RST N il im n rk D t f d → (∀ x, (∃ i, i < n0 ∧ rk0 i = x) → ∃ i, i < n ∧ rk i = x) → (n ≤ 200 → ∀ C, C < 125 → (∀ i, i < 3 → cutOK il im (A i) (dig N ck i) (qd C i)) → Cov N il im ck n rk A (qd C)) → K2 f (iI ((n : Nat) : Int)) m c w d (iI (if n = 201 then 1 else 0)) (iI ((E + 1 : Nat) : Int))) :
    ∀ (r C n : Nat) (rk : Nat → Nat) (f m c w d : TA) (x4 : Int32), C + r = 125 → x4 = iI C → RST N il im n rk D t f d → (∀ k, k < 3 → m k = iI ((A k : Int) - 1)) → (∀ x, (∃ i, i < n0 ∧ rk0 i = x) → ∃ i, i < n ∧ rk i = x) → (n ≤ 200 → ∀ C', C' < C → (∀ i, i < 3 → cutOK il im (A i) (dig N ck i) (qd C' i)) → Cov N il im ck n rk A (qd C')) → VX11_findParents_91 post K2 (iI N) images sizes child (lI (dtm (mM il im) N)) (r + 1) f (iI n) m c w d (iI (if n = 201 then 1 else 0)) (iI E) x4 := by
  intro r
  have eE : iI (E : Int) + 1 = iI ((E + 1 : Nat) : Int) := by
    rw [show (1 : Int32) = iI 1 from rfl, iI_add]
    exact congrArg iI (by omega)
  have n125 : (125 : Int32) = iI 125 := iI_lit 125
  induction r with
  | zero =>
    intro C n rk f m c w d x4 hC e4 hR hm hext hcov
    have : C = 125 := by omega
    subst this e4
    rw [VX11_findParents_91]
    refine ⟨fun _ => ?_, fun q => absurd ?_ q⟩
    · rw [eE]
      exact hk n rk f m c w d hR hext hcov
    · rw [n125]
      exact (iI_le (by omega) (by omega) (by omega) (by omega)).mpr (by omega)
  | succ r ih =>
    intro C n rk f m c w d x4 hC e4 hR hm hext hcov
    subst e4
    rw [VX11_findParents_91]
    refine ⟨fun q => absurd ((iI_le (by omega) (by omega) (by omega) (by omega)).mp (n125 ▸ q)) (by omega), fun _ => ⟨fun q => ?_, fun q => ?_⟩⟩
    · have hn : n = 201 := by
        by_cases c : n = 201
        · exact c
        · exfalso
          apply q
          rw [if_neg c]
          rfl
      rw [eE]
      exact hk n rk f m c w d hR hext (fun h => absurd h (by omega))
    · have hn : n ≠ 201 := by
        intro c
        rw [if_pos c] at q
        exact n10 q
      have hn2 : n ≤ 200 := by
        have := hR.1
        omega
      have v3 : ∀ k : Nat, k < 3 → vp_in (iI (k : Int)) 3 := fun k hk => (iI_in (by omega) (by omega)).mpr ⟨by omega, by omega⟩
      have v7 : ∀ k : Nat, k < 7 → vp_in (iI (k : Int)) 7 := fun k hk => (iI_in (by omega) (by omega)).mpr ⟨by omega, by omega⟩
      have g1 : iI (C : Int) / 25 = iI ((C / 25 : Nat) : Int) := d_25 (by omega)
      have g2 : iI (C : Int) / 5 = iI ((C / 5 : Nat) : Int) := d_5 (by omega)
      have g3 : iI ((C / 5 : Nat) : Int) / 5 = iI ((C / 5 / 5 : Nat) : Int) := d_5 (by omega)
      have g4 : iI ((C / 5 : Nat) : Int) - iI ((C / 5 / 5 : Nat) : Int) * 5 = iI ((C / 5 % 5 : Nat) : Int) := by
        rw [show (5 : Int32) = iI 5 from rfl, iI_mul, iI_sub]
        exact congrArg iI (by omega)
      have g5 : iI (C : Int) - iI ((C / 5 : Nat) : Int) * 5 = iI ((C % 5 : Nat) : Int) := by
        rw [show (5 : Int32) = iI 5 from rfl, iI_mul, iI_sub]
        exact congrArg iI (by omega)
      have g6 : iI (C : Int) + 1 = iI ((C + 1 : Nat) : Int) := by
        rw [show (1 : Int32) = iI 1 from rfl, iI_add]
        exact congrArg iI (by omega)
      have f0 : (if n = 201 then (1 : Int) else 0) = 0 := if_neg hn
      rw [cl_0, cl_1, cl_2, g1, g2, g3, g4, g5, g6]
      refine ⟨v3 0 (by omega), ?_⟩
      rintro y19 rfl
      refine ⟨v3 1 (by omega), v3 2 (by omega), v7 0 (by omega), ?_⟩
      rintro y23 rfl
      refine ⟨v7 0 (by omega), ?_⟩
      rintro y25 rfl
      refine ⟨v3 0 (by omega), ?_⟩
      rintro y27 rfl
      obtain ⟨ca, hca⟩ : ∃ ca : TA, upd (upd (upd c 0 (iI ((C / 25 : Nat) : Int))) 1 (iI ((C / 5 % 5 : Nat) : Int))) 2 (iI ((C % 5 : Nat) : Int)) = ca := ⟨_, rfl⟩
      have hcut : ∀ k, k < 3 → ca k = iI ((qd C k : Nat) : Int) := by
        intro k hk
        rw [← hca]
        obtain rfl | rfl | rfl : k = 0 ∨ k = 1 ∨ k = 2 := by omega
        · rw [pk_un (by omega), pk_un (by omega), pk_us]
          rfl
        · rw [pk_un (by omega), pk_us]
          rfl
        · rw [pk_us]
          rfl
      have hq5 : ∀ k, k < 3 → qd C k < 5 := by
        intro k hk
        obtain rfl | rfl | rfl : k = 0 ∨ k = 1 ∨ k = 2 := by omega
        · show C / 25 < 5
          omega
        · show C / 5 % 5 < 5
          omega
        · show C % 5 < 5
          omega
      rw [hca]
      have hd4 : ∀ i, i < 3 → dig N ck i ≤ 4 := fun i hi => by
        have := dig_le hN hck hi
        omega
      have hA4 : ∀ i, i < 3 → A i ≤ 4 := fun i hi => by
        have := hA i hi
        omega
      have skip : ∀ k, k < 3 → ¬ cutOK il im (A k) (dig N ck k) (qd C k) → VX11_findParents_91 post K2 (iI N) images sizes child (lI (dtm (mM il im) N)) (r + 1) f (iI n) m ca w d (iI (if n = 201 then 1 else 0)) (iI E) (iI ((C + 1 : Nat) : Int)) := by
        intro k hk3 hno
        refine ih (C + 1) n rk f m ca w d _ (by omega) rfl hR hm hext (fun h C' hC' hok => ?_)
        by_cases e : C' = C
        · rw [e] at hok
          exact absurd (hok k hk3) hno
        · exact hcov h C' (by omega) hok
      rw [hm 0 (by omega), hch 0 (by omega), hcut 0 (by omega)]
      refine s11_isCut (A := A 0) (a := dig N ck 0) (q := qd C 0) hI (hA4 0 (by omega)) (hd4 0 (by omega)) (hq5 0 (by omega)) (fun k0 => ?_) (fun k0 => ⟨fun _ => skip 0 (by omega) k0, fun q => absurd rfl q⟩)
      refine ⟨fun q => absurd q n10, fun _ => ⟨v7 1 (by omega), ?_⟩⟩
      rintro y30 rfl
      refine ⟨v7 1 (by omega), ?_⟩
      rintro y32 rfl
      refine ⟨v3 1 (by omega), ?_⟩
      rintro y34 rfl
      rw [hm 1 (by omega), hch 1 (by omega), hcut 1 (by omega)]
      refine s11_isCut (A := A 1) (a := dig N ck 1) (q := qd C 1) hI (hA4 1 (by omega)) (hd4 1 (by omega)) (hq5 1 (by omega)) (fun k1 => ?_) (fun k1 => ⟨fun _ => skip 1 (by omega) k1, fun q => absurd rfl q⟩)
      refine ⟨fun q => absurd q n10, fun _ => ⟨v7 2 (by omega), ?_⟩⟩
      rintro y37 rfl
      refine ⟨v7 2 (by omega), ?_⟩
      rintro y39 rfl
      refine ⟨v3 2 (by omega), ?_⟩
      rintro y41 rfl
      rw [hm 2 (by omega), hch 2 (by omega), hcut 2 (by omega)]
      refine s11_isCut (A := A 2) (a := dig N ck 2) (q := qd C 2) hI (hA4 2 (by omega)) (hd4 2 (by omega)) (hq5 2 (by omega)) (fun k2 => ?_) (fun k2 => ⟨fun _ => skip 2 (by omega) k2, fun q => absurd rfl q⟩)
      refine ⟨fun q => absurd q n10, fun _ => ?_⟩
      rw [f0]
      refine s11_findParent (A := A) (q := qd C) hN hI hdt hck hch hn2 hR hm hcut (fun i hi => ⟨hA i hi, ?_⟩) (fun n' rk' f' m' w' d' s1 s2 s3 s4 => ?_)
      · obtain rfl | rfl | rfl : i = 0 ∨ i = 1 ∨ i = 2 := by omega
        · exact k0
        · exact k1
        · exact k2
      · refine ih (C + 1) n' rk' f' m' ca w' d' _ (by omega) rfl s1 (fun k hk => by rw [s4 k hk]; exact hm k hk) (fun x hx => s2 x (hext x hx)) (fun h C' hC' hok => ?_)
        by_cases e : C' = C
        · rw [e]
          exact s3
        · exact Cov_mem (hcov (by omega) C' (by omega) hok) s2
theorem dec_E {N : Nat} (hN : 2 ≤ N ∧ N ≤ 4) {A : Nat → Nat} (hA : ∀ k, k < 3 → A k ≤ N) : ((A 0 * (N + 1) + A 1) * (N + 1) + A 2) < (N + 1) * (N + 1) * (N + 1) ∧ ed (N + 1) ((A 0 * (N + 1) + A 1) * (N + 1) + A 2) 0 = A 0 ∧ ed (N + 1) ((A 0 * (N + 1) + A 1) * (N + 1) + A 2) 1 = A 1 ∧ ed (N + 1) ((A 0 * (N + 1) + A 1) * (N + 1) + A 2) 2 = A 2 := by
  have a0 := hA 0 (by omega)
  have a1 := hA 1 (by omega)
  have a2 := hA 2 (by omega)
  simp only [ed, trp]
  obtain rfl | rfl | rfl : N = 2 ∨ N = 3 ∨ N = 4 := by omega
  all_goals
    simp
    omega
theorem ed_le {N : Nat} (hN : 2 ≤ N ∧ N ≤ 4) {E : Nat} (hE : E < (N + 1) * (N + 1) * (N + 1)) : ∀ k, k < 3 → ed (N + 1) E k ≤ N := by
  intro k hk
  simp only [ed, trp]
  obtain rfl | rfl | rfl : N = 2 ∨ N = 3 ∨ N = 4 := by omega
  all_goals
    obtain rfl | rfl | rfl : k = 0 ∨ k = 1 ∨ k = 2 := by omega
    all_goals
      simp
      omega
theorem s11_findParents {post : TA → Int32 → TA → TA → TA → TA → Int32 → Prop} {n0 t : Nat} {rk0 : Nat → Nat} {D : Nat → Bool} {f0 m0 c0 w0 d0 : TA} (hN : 2 ≤ N ∧ N ≤ 4) (hI : ∀ j, j < 4 → il j ≤ 4 ∧ sizes j = iI (il j) ∧ ∀ t, t < il j → im j t < 4 ∧ images (4 * j + t) = iI (im j t)) (hdt : dtm (mM il im) N ≠ 0) (hck : rch N il im ck) (hch : ∀ k, k < 7 → child k = iI ((dig N ck k : Int) - of7 k)) (hn0 : n0 ≤ 200) (hR0 : RST N il im n0 rk0 D t f0 d0)
    (h : ∀ n rk f m c w d, RST N il im n rk D t f d → (∀ x, (∃ i, i < n0 ∧ rk0 i = x) → ∃ i, i < n ∧ rk i = x) → (n ≤ 200 → ∀ pk, Par N il im ck pk → ∃ i, i < n ∧ rk i = pk) → post f (iI ((n : Nat) : Int)) m c w d (iI (if n = 201 then 1 else 0))) :
    VX11_findParents post (iI N) images sizes child (lI (dtm (mM il im) N)) f0 (iI n0) m0 c0 w0 d0 (iI 0) := by
  have hb25 : (N + 1) * (N + 1) ≤ 25 := Nat.mul_le_mul (show N + 1 ≤ 5 by omega) (show N + 1 ≤ 5 by omega)
  have hb125 : (N + 1) * (N + 1) * (N + 1) ≤ 125 := Nat.mul_le_mul hb25 (show N + 1 ≤ 5 by omega)
  have hb9 : 3 * 3 ≤ (N + 1) * (N + 1) := Nat.mul_le_mul (show 3 ≤ N + 1 by omega) (show 3 ≤ N + 1 by omega)
  have e1 : iI (N : Int) + 1 = iI ((N + 1 : Nat) : Int) := by
    rw [show (1 : Int32) = iI 1 from rfl, iI_add]
    exact congrArg iI (by omega)
  have e2 : iI ((N + 1 : Nat) : Int) * iI ((N + 1 : Nat) : Int) = iI (((N + 1) * (N + 1) : Nat) : Int) := by
    rw [iI_mul, ← Int.natCast_mul]
  have e3 : iI (((N + 1) * (N + 1) : Nat) : Int) * iI ((N + 1 : Nat) : Int) = iI (((N + 1) * (N + 1) * (N + 1) : Nat) : Int) := by
    rw [iI_mul, ← Int.natCast_mul]
  have v7 : ∀ k : Nat, k < 7 → vp_in (iI (k : Int)) 7 := fun k hk => (iI_in (by omega) (by omega)).mpr ⟨by omega, by omega⟩
  have ne0 : ∀ m : Nat, 0 < m → m < 1000 → ¬ iI (m : Int) = 0 := fun m h1 h2 q => absurd ((iI_eq (by omega) (by omega) (by omega) (by omega)).mp (q.trans (show (0 : Int32) = iI 0 from rfl))) (by omega)
  have loop : ∀ (r E n : Nat) (rk : Nat → Nat) (f m c w d : TA) (x3 : Int32), E + r = (N + 1) * (N + 1) * (N + 1) → x3 = iI E → RST N il im n rk D t f d → (∀ x, (∃ i, i < n0 ∧ rk0 i = x) → ∃ i, i < n ∧ rk i = x) → (n ≤ 200 → ∀ E', E' < E → ∀ C, C < 125 → (∀ i, i < 3 → cutOK il im (ed (N + 1) E' i) (dig N ck i) (qd C i)) → Cov N il im ck n rk (ed (N + 1) E') (qd C)) → VX11_findParents_2 post (iI N) images sizes child (lI (dtm (mM il im) N)) (r + 1) f (iI n) m c w d (iI (if n = 201 then 1 else 0)) x3 := by
    intro r
    induction r with
    | zero =>
      intro E n rk f m c w d x3 hE e x1 x2 x5
      subst e
      rw [VX11_findParents_2, e1]
      rintro y2 rfl
      rw [e2, e3]
      refine ⟨fun _ => ?_, fun q => absurd ((iI_le (by omega) (by omega) (by omega) (by omega)).mpr (by omega)) q⟩
      refine h n rk f m c w d x1 x2 (fun hn pk hp => ?_)
      obtain ⟨A, q, hAq, cc, hcc, rfl⟩ := hp
      obtain ⟨d1, d2, d3, d4⟩ := dec_E hN (A := A) (fun k hk => (hAq k hk).1)
      have hsz : ∀ k, k < 3 → q k ≤ 4 := by
        intro k hk
        have s1 := szE_le (il := il) (fun j hj => (hI j hj).1) (show A k ≤ 4 by have := (hAq k hk).1; omega)
        have s2 := (hAq k hk).2.1
        omega
      have z0 := hsz 0 (by omega)
      have z1 := hsz 1 (by omega)
      have z2 := hsz 2 (by omega)
      have w0 : qd ((q 0 * 5 + q 1) * 5 + q 2) 0 = q 0 := by
        show ((q 0 * 5 + q 1) * 5 + q 2) / 25 = q 0
        omega
      have w1 : qd ((q 0 * 5 + q 1) * 5 + q 2) 1 = q 1 := by
        show ((q 0 * 5 + q 1) * 5 + q 2) / 5 % 5 = q 1
        omega
      have w2 : qd ((q 0 * 5 + q 1) * 5 + q 2) 2 = q 2 := by
        show ((q 0 * 5 + q 1) * 5 + q 2) % 5 = q 2
        omega
      have hcov := x5 hn ((A 0 * (N + 1) + A 1) * (N + 1) + A 2) (by omega) ((q 0 * 5 + q 1) * 5 + q 2) (by omega) (fun i hi => by
        obtain rfl | rfl | rfl : i = 0 ∨ i = 1 ∨ i = 2 := by omega
        · rw [d2, w0]
          exact (hAq 0 (by omega)).2
        · rw [d3, w1]
          exact (hAq 1 (by omega)).2
        · rw [d4, w2]
          exact (hAq 2 (by omega)).2)
      unfold Cov Sp at hcov
      rw [d2, d3, d4, w0, w1, w2] at hcov
      exact hcov cc hcc
    | succ r ih =>
      intro E n rk f m c w d x3 hE e x1 x2 x5
      subst e
      have g1 : iI (E : Int) / iI (((N + 1) * (N + 1) : Nat) : Int) = iI ((E / ((N + 1) * (N + 1)) : Nat) : Int) := d_nat (by omega) (by omega)
      have g2 : iI (E : Int) / iI ((N + 1 : Nat) : Int) = iI ((E / (N + 1) : Nat) : Int) := d_nat (by omega) (by omega)
      have hdl := Nat.div_le_self E (N + 1)
      have g3 : iI ((E / (N + 1) : Nat) : Int) / iI ((N + 1 : Nat) : Int) = iI ((E / (N + 1) / (N + 1) : Nat) : Int) := d_nat (by omega) (by omega)
      have md : ∀ m b : Nat, iI (m : Int) - iI ((m / b : Nat) : Int) * iI (b : Int) = iI ((m % b : Nat) : Int) := by
        intro m b
        rw [iI_mul, iI_sub]
        refine congrArg iI ?_
        have := Nat.div_add_mod m b
        rw [← Int.natCast_mul, Nat.mul_comm]
        omega
      rw [VX11_findParents_2, e1]
      rintro y2 rfl
      rw [e2, e3]
      refine ⟨fun q => absurd ((iI_le (by omega) (by omega) (by omega) (by omega)).mp q) (by omega), fun _ => ?_⟩
      rintro y3 rfl
      rw [g1, g2, g3, md, md, cl_0, cl_1, cl_2]
      refine ⟨ne0 _ (by omega) (by omega), v7 0 (by omega), ne0 _ (by omega) (by omega), ne0 _ (by omega) (by omega), ?_⟩
      rintro y8 rfl
      refine ⟨v7 1 (by omega), ne0 _ (by omega) (by omega), ?_⟩
      rintro y11 rfl
      refine ⟨v7 2 (by omega), 125 + 1, ?_⟩
      refine s11_91 (n0 := n) (rk0 := rk) (A := ed (N + 1) E) hN hI hdt hck hch (ed_le hN (by omega)) (by omega) (fun n' rk' f' m' c' w' d' s1 s2 s3 => ?_) 125 0 n rk f _ c w d _ (by omega) rfl x1 (fun k hk => ?_) (fun x hx => hx) (fun _ C' hC' => absurd hC' (Nat.not_lt_zero C'))
      · refine ih (E + 1) n' rk' f' m' c' w' d' _ (by omega) rfl s1 (fun x hx => s2 x (x2 x hx)) (fun hn' E' hE' C hC hok => ?_)
        by_cases e : E' = E
        · rw [e] at hok ⊢
          exact s3 hn' C hC hok
        · have hle := SRT_le x1.2.1 s1.2.1 (fun i hi => s2 (rk i) ⟨i, hi, rfl⟩)
          exact Cov_mem (x5 (by omega) E' (by omega) C hC hok) s2
      · have e0 : ∀ z : Nat, iI (z : Int) - 1 = iI ((z : Int) - 1) := fun z => by
          rw [show (1 : Int32) = iI 1 from rfl, iI_sub]
        rw [e0, e0, e0]
        obtain rfl | rfl | rfl : k = 0 ∨ k = 1 ∨ k = 2 := by omega
        · rw [pk_un (by omega), pk_un (by omega), pk_us]
          rfl
        · rw [pk_un (by omega), pk_us]
          rfl
        · rw [pk_us]
          rfl
  have g := loop ((N + 1) * (N + 1) * (N + 1)) 0 n0 rk0 f0 m0 c0 w0 d0 _ (by omega) rfl hR0 (fun x hx => hx) (fun _ E' hE' => absurd hE' (Nat.not_lt_zero E'))
  rw [if_neg (by omega)] at g
  exact ⟨_, g⟩
end
