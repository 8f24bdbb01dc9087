/-! OCCURRENCES OF TEMPLATES -/
/-- a template occurs: ends a b c, numbers d -/
def Occ (N S : Nat) (f : Nat → Nat) (a b c : Nat) (d : Nat → Int) (s x y : Nat) : Prop := wdt a + x + wdt b + y + wdt c ≠ 0 ∧ s + (wdt a + x + wdt b + y + wdt c) ≤ S ∧ (a ≠ 0 → f s + 1 = a) ∧ (b ≠ 0 → f (s + wdt a + x) + 1 = b) ∧ (c ≠ 0 → f (s + wdt a + x + wdt b + y) + 1 = c) ∧ ∀ l, l < N → ((cn f l (s + wdt a + x + wdt b) y : Nat) : Int) - ((cn f l (s + wdt a) x : Nat) : Int) = d l
def OMin (N S : Nat) (f : Nat → Nat) (a b c : Nat) (d : Nat → Int) (s x y : Nat) : Prop := Occ N S f a b c d s x y ∧ s < S ∧ ∀ s' x' y', s' < S → Occ N S f a b c d s' x' y' → s < s' ∨ (s = s' ∧ x ≤ x')
def ONone (N S : Nat) (f : Nat → Nat) (a b c : Nat) (d : Nat → Int) : Prop := ∀ s x y, s < S → ¬ Occ N S f a b c d s x y
theorem wdt_le (a : Nat) : wdt a ≤ 1 := by
  unfold wdt
  split <;> omega
theorem cn_sum {f : Nat → Nat} {a : Nat} : ∀ n, (∀ j, j < n → f (a + j) < 4) → cn f 0 a n + cn f 1 a n + cn f 2 a n + cn f 3 a n = n
  | 0, _ => rfl
  | n + 1, h => by
    have h1 := cn_sum (f := f) (a := a) n (fun j hj => h j (by omega))
    have h2 := h n (by omega)
    simp only [cn]
    obtain e | e | e | e : f (a + n) = 0 ∨ f (a + n) = 1 ∨ f (a + n) = 2 ∨ f (a + n) = 3 := by omega
    all_goals
      rw [e]
      simp
      omega
/-- the numbers for all four letters -/
theorem Occ_4 {N S : Nat} {f : Nat → Nat} {d : Nat → Int} {p x q y : Nat} (hN : N ≤ 4) (hp : p + x ≤ S) (hq : q + y ≤ S) (hf : ∀ j, j < S → f j < N) (hd : ∀ l, N ≤ l → d l = 0) (h : ∀ l, l < N → ((cn f l q y : Nat) : Int) - ((cn f l p x : Nat) : Int) = d l) : ∀ l, ((cn f l q y : Nat) : Int) - ((cn f l p x : Nat) : Int) = d l := by
  intro l
  by_cases c : l < N
  · exact h l c
  · rw [cn_0 (N := N) (by omega) y (fun j hj => hf _ (by omega)), cn_0 (N := N) (by omega) x (fun j hj => hf _ (by omega)), hd l (by omega)]
    omega
theorem Occ_y {N S : Nat} {f : Nat → Nat} {a b c : Nat} {d : Nat → Int} {s x y : Nat} (hN : N ≤ 4) (hf : ∀ j, j < S → f j < N) (hd : ∀ l, N ≤ l → d l = 0) (h : Occ N S f a b c d s x y) : (y : Int) = x + sm4 d := by
  obtain ⟨h1, h2, -, -, -, h6⟩ := h
  have g := Occ_4 (S := S) hN (by omega) (by omega) hf hd h6
  have g0 := g 0
  have g1 := g 1
  have g2 := g 2
  have g3 := g 3
  have s1 := cn_sum (f := f) (a := s + wdt a + x + wdt b) y (fun j hj => by have := hf (s + wdt a + x + wdt b + j) (by omega); omega)
  have s2 := cn_sum (f := f) (a := s + wdt a) x (fun j hj => by have := hf (s + wdt a + j) (by omega); omega)
  unfold sm4
  omega
theorem OMin_u {N S : Nat} {f : Nat → Nat} {a b c : Nat} {d : Nat → Int} {s x y s' x' y' : Nat} (hN : N ≤ 4) (hf : ∀ j, j < S → f j < N) (hd : ∀ l, N ≤ l → d l = 0) (h : OMin N S f a b c d s x y) (h' : OMin N S f a b c d s' x' y') : s = s' ∧ x = x' ∧ y = y' := by
  have q1 := h.2.2 s' x' y' h'.2.1 h'.1
  have q2 := h'.2.2 s x y h.2.1 h.1
  have e1 := Occ_y hN hf hd h.1
  have e2 := Occ_y hN hf hd h'.1
  omega
/-! the reference -/
section
variable {N S i : Nat} {f e : Nat → Nat} {row kept : TA}
theorem s11_191 {post : Int32 → Prop} {s x y : Nat} {x5 x6 x9 : Int32} (hN : 2 ≤ N ∧ N ≤ 4) (hi : i < 200) (hS : S ≤ 40) (hr : ∀ j, j < S → row j = iI (f j) ∧ f j < 4) (hk : ∀ k, k < 7 → kept (7 * i + k) = iI ((e k : Int) - of7 k)) (he : ∀ k, k < 7 → e k ≤ 18) {p q : Nat} (hp : p + x ≤ S) (hq : q + y ≤ S) (e5 : iI s + x5 = iI p) (e9 : x9 + x6 = iI q)
    (h1 : (∀ l, l < N → ((cn f l q y : Nat) : Int) - ((cn f l p x : Nat) : Int) = (e (3 + l) : Int) - 9) → post (iI 1)) (h0 : ¬ (∀ l, l < N → ((cn f l q y : Nat) : Int) - ((cn f l p x : Nat) : Int) = (e (3 + l) : Int) - 9) → post (iI 0)) :
    ∃ n, VX11_occurs_191 post (iI N) row (iI S) kept (iI i) (iI s) (iI x) (iI y) n x5 x6 x9 1 0 := by
  have stop : ∀ (r m : Nat), m < 1000 → ¬ (∀ l, l < N → ((cn f l q y : Nat) : Int) - ((cn f l p x : Nat) : Int) = (e (3 + l) : Int) - 9) → VX11_occurs_191 post (iI N) row (iI S) kept (iI i) (iI s) (iI x) (iI y) (r + 1) x5 x6 x9 0 (iI m) := by
    intro r m hm hno
    rw [VX11_occurs_191]
    have v0 : vbo (0 : Int32) := of_eq_true vb_0
    exact ⟨fun _ => ⟨v0, h0 hno⟩, fun _ => ⟨fun _ => ⟨v0, h0 hno⟩, fun q => absurd rfl q⟩⟩
  have loop : ∀ (r m : Nat) (x11 : Int32), m + r = N → x11 = iI m → (∀ l, l < m → ((cn f l q y : Nat) : Int) - ((cn f l p x : Nat) : Int) = (e (3 + l) : Int) - 9) → VX11_occurs_191 post (iI N) row (iI S) kept (iI i) (iI s) (iI x) (iI y) (r + 1 + 1) x5 x6 x9 1 x11 := by
    intro r
    induction r with
    | zero =>
      intro m x11 hm e11 ha
      have : m = N := by omega
      subst this e11
      rw [VX11_occurs_191]
      refine ⟨fun _ => ⟨of_eq_true vb_1, h1 ha⟩, fun q => absurd ((iI_le (by omega) (by omega) (by omega) (by omega)).mpr (by omega)) q⟩
    | succ r ih =>
      intro m x11 hm e11 ha
      subst e11
      have hkm := hk (3 + m) (by omega)
      have hem := he (3 + m) (by omega)
      have ho : of7 (3 + m) = 9 := by rw [of7, if_neg (by omega)]
      rw [ho] at hkm
      have e32 : (7 : Int32) * iI (i : Int) + 3 + iI (m : Int) = iI ((7 * i + (3 + m) : Nat) : Int) := by
        rw [show (7 : Int32) = iI 7 from rfl, show (3 : Int32) = iI 3 from rfl, iI_mul, iI_add, iI_add]
        exact congrArg iI (by omega)
      have c1 := cn_le f m q y
      have c2 := cn_le f m p x
      rw [VX11_occurs_191]
      refine ⟨fun q => absurd ((iI_le (by omega) (by omega) (by omega) (by omega)).mp q) (by omega), fun _ => ⟨fun q => absurd q (by decide), fun _ => ?_⟩⟩
      rw [e5, e9]
      refine s11_count (f := f) (by omega) (by omega) (fun j _ hj => ⟨(hr j (by omega)).1, by have := (hr j (by omega)).2; omega⟩) ?_
      refine s11_count (f := f) (by omega) (by omega) (fun j _ hj => ⟨(hr j (by omega)).1, by have := (hr j (by omega)).2; omega⟩) ?_
      rintro y32 rfl
      rw [e32]
      refine ⟨(iI_in (by omega) (by omega)).mpr ⟨by omega, by omega⟩, ?_⟩
      rw [iI_clamp (by omega) (by omega), Int.toNat_natCast, hkm, iI_sub]
      have e1 : iI (m : Int) + 1 = iI ((m + 1 : Nat) : Int) := by
        rw [show (1 : Int32) = iI 1 from rfl, iI_add]
        exact congrArg iI (by omega)
      rw [e1]
      by_cases c : ((cn f m q y : Nat) : Int) - ((cn f m p x : Nat) : Int) = (e (3 + m) : Int) - 9
      · refine ⟨fun q => absurd (congrArg iI c) q, fun _ => ih (m + 1) _ (by omega) rfl (fun l hl => ?_)⟩
        by_cases d : l = m
        · rw [d]
          exact c
        · exact ha l (by omega)
      · refine ⟨fun _ => stop (r + 1) (m + 1) (by omega) (fun hh => c (hh m (by omega))), fun q => absurd ((iI_eq (by omega) (by omega) (by omega) (by omega)).mp q) c⟩
  exact ⟨N + 1 + 1, loop N 0 _ (by omega) rfl (fun l hl => absurd hl (Nat.not_lt_zero l))⟩
theorem s11_occurs {post : Int32 → Prop} {s x y : Nat} (hN : 2 ≤ N ∧ N ≤ 4) (hi : i < 200) (hS : S ≤ 40) (hr : ∀ j, j < S → row j = iI (f j) ∧ f j < 4) (hk : ∀ k, k < 7 → kept (7 * i + k) = iI ((e k : Int) - of7 k)) (he : ∀ k, k < 7 → e k ≤ 18) (hs : s ≤ 40) (hx : x ≤ 40) (hy : y ≤ 40)
    (h1 : Occ N S f (e 0) (e 1) (e 2) (fun l => (e (3 + l) : Int) - 9) s x y → post (iI 1)) (h0 : ¬ Occ N S f (e 0) (e 1) (e 2) (fun l => (e (3 + l) : Int) - 9) s x y → post (iI 0)) : VX11_occurs post (iI N) row (iI S) kept (iI i) (iI s) (iI x) (iI y) := by
  have w0 := wdt_le (e 0)
  have w1 := wdt_le (e 1)
  have w2 := wdt_le (e 2)
  have b0 := he 0 (by omega)
  have b1 := he 1 (by omega)
  have b2 := he 2 (by omega)
  have k0 : kept (7 * i) = iI ((e 0 : Int) - 1) := hk 0 (by omega)
  have k1 : kept (7 * i + 1) = iI ((e 1 : Int) - 1) := hk 1 (by omega)
  have k2 : kept (7 * i + 2) = iI ((e 2 : Int) - 1) := hk 2 (by omega)
  have z0 : (0 : Int32) = iI 0 := rfl
  have z1 : (1 : Int32) = iI 1 := rfl
  have a0 : (7 : Int32) * iI (i : Int) = iI ((7 * i : Nat) : Int) := by
    rw [show (7 : Int32) = iI 7 from rfl, iI_mul]
    exact congrArg iI (by omega)
  have a1 : iI ((7 * i : Nat) : Int) + 1 = iI ((7 * i + 1 : Nat) : Int) := by
    rw [z1, iI_add]
    exact congrArg iI (by omega)
  have a2 : iI ((7 * i : Nat) : Int) + 2 = iI ((7 * i + 2 : Nat) : Int) := by
    rw [show (2 : Int32) = iI 2 from rfl, iI_add]
    exact congrArg iI (by omega)
  have cl : ∀ m : Nat, m < 2000 → (iI (m : Int)).toNatClampNeg = m := fun m hm => by rw [iI_clamp (by omega) (by omega), Int.toNat_natCast]
  have vi : ∀ m : Nat, m < 1400 → vp_in (iI (m : Int)) 1400 := fun m hm => (iI_in (by omega) (by omega)).mpr ⟨by omega, by omega⟩
  have wd : ∀ (v : Nat) (A B : Prop), v ≤ 18 → (v ≠ 0 → A) → (v = 0 → B) → ((0 : Int32) ≤ iI ((v : Int) - 1) → A) ∧ (¬ ((0 : Int32) ≤ iI ((v : Int) - 1)) → B) := by
    intro v A B hv hA hB
    rw [z0]
    refine ⟨fun q => hA (by have := (iI_le (by omega) (by omega) (by omega) (by omega)).mp q; omega), fun q => hB ?_⟩
    by_cases c : v = 0
    · exact c
    · exact absurd ((iI_le (by omega) (by omega) (by omega) (by omega)).mpr (by omega)) q
  have k191 : ∀ g : Prop, (g → (∀ l, l < N → ((cn f l (s + wdt (e 0) + x + wdt (e 1)) y : Nat) : Int) - ((cn f l (s + wdt (e 0)) x : Nat) : Int) = (e (3 + l) : Int) - 9) → post (iI 1)) → (g → s + (wdt (e 0) + x + wdt (e 1) + y + wdt (e 2)) ≤ S) → g → ∃ n191, VX11_occurs_191 post (iI N) row (iI S) kept (iI i) (iI s) (iI x) (iI y) n191 (iI ((wdt (e 0) : Nat) : Int)) (iI ((wdt (e 1) : Nat) : Int)) (iI ((s + wdt (e 0) + x : Nat) : Int)) 1 0 := by
    intro g g1 g2 hg
    have hle := g2 hg
    refine s11_191 (e := e) hN hi hS hr hk he (p := s + wdt (e 0)) (q := s + wdt (e 0) + x + wdt (e 1)) (by omega) (by omega) ?_ ?_ (fun q => g1 hg q) (fun q => h0 (fun ho => q ho.2.2.2.2.2))
    · rw [iI_add]
      exact congrArg iI (by omega)
    · rw [iI_add]
      exact congrArg iI (by omega)
  have k191f : ¬ Occ N S f (e 0) (e 1) (e 2) (fun l => (e (3 + l) : Int) - 9) s x y → ∀ x5 x6 x9, ∃ n191, VX11_occurs_191 post (iI N) row (iI S) kept (iI i) (iI s) (iI x) (iI y) n191 x5 x6 x9 0 0 := by
    intro hno x5 x6 x9
    refine ⟨1, ?_⟩
    rw [VX11_occurs_191]
    exact ⟨fun _ => ⟨of_eq_true vb_0, h0 hno⟩, fun _ => ⟨fun _ => ⟨of_eq_true vb_0, h0 hno⟩, fun q => absurd rfl q⟩⟩
  have k59 : VX11_occurs_59 post (iI N) row (iI S) kept (iI i) (iI s) (iI x) (iI y) (iI ((wdt (e 0) : Nat) : Int)) (iI ((wdt (e 1) : Nat) : Int)) (iI ((wdt (e 2) : Nat) : Int)) := by
    unfold VX11_occurs_59
    rintro y10 rfl
    have e10 : iI ((wdt (e 0) : Nat) : Int) + iI (x : Int) + iI ((wdt (e 1) : Nat) : Int) + iI (y : Int) + iI ((wdt (e 2) : Nat) : Int) = iI ((wdt (e 0) + x + wdt (e 1) + y + wdt (e 2) : Nat) : Int) := by
      rw [iI_add, iI_add, iI_add, iI_add]
      exact congrArg iI (by omega)
    have e11 : iI (s : Int) + iI ((wdt (e 0) + x + wdt (e 1) + y + wdt (e 2) : Nat) : Int) = iI ((s + (wdt (e 0) + x + wdt (e 1) + y + wdt (e 2)) : Nat) : Int) := by
      rw [iI_add]
      exact congrArg iI (by omega)
    have e12 : iI (s : Int) + iI ((wdt (e 0) : Nat) : Int) + iI (x : Int) = iI ((s + wdt (e 0) + x : Nat) : Int) := by
      rw [iI_add, iI_add]
      exact congrArg iI (by omega)
    rw [e10, e11, e12]
    by_cases c0 : wdt (e 0) + x + wdt (e 1) + y + wdt (e 2) = 0
    · rw [c0]
      exact ⟨fun _ => h0 (fun ho => ho.1 c0), fun q => absurd rfl q⟩
    · refine ⟨fun q => absurd ((iI_eq (by omega) (by omega) (by omega) (by omega)).mp (q.trans z0)) (by omega), fun _ => ?_⟩
      by_cases cS : s + (wdt (e 0) + x + wdt (e 1) + y + wdt (e 2)) ≤ S
      · refine ⟨fun _ => ?_, fun q => absurd ((iI_le (by omega) (by omega) (by omega) (by omega)).mpr (by omega)) q⟩
        have k151 : (e 0 ≠ 0 → f s + 1 = e 0) → (e 1 ≠ 0 → f (s + wdt (e 0) + x) + 1 = e 1) → VX11_occurs_151 post (fun x5 x6 x9 x10 x11 => ∃ n191 : Nat, VX11_occurs_191 post (iI N) row (iI S) kept (iI i) (iI s) (iI x) (iI y) n191 x5 x6 x9 x10 x11) (iI N) row (iI S) kept (iI i) (iI s) (iI x) (iI y) (iI ((wdt (e 0) : Nat) : Int)) (iI ((wdt (e 1) : Nat) : Int)) (iI ((wdt (e 2) : Nat) : Int)) (iI ((wdt (e 0) + x + wdt (e 1) + y + wdt (e 2) : Nat) : Int)) (iI ((s + wdt (e 0) + x : Nat) : Int)) := by
          intro hA hB
          unfold VX11_occurs_151
          by_cases c2 : e 2 = 0
          · have q2 : wdt (e 2) = 0 := by rw [wdt, if_pos c2]
            refine ⟨fun _ => ?_, fun q => absurd (by rw [q2]; rfl) q⟩
            exact k191 True (fun _ hh => h1 ⟨c0, cS, hA, hB, fun q => absurd c2 q, hh⟩) (fun _ => cS) trivial
          · have q2 : wdt (e 2) = 1 := by rw [wdt, if_neg c2]
            have ep : iI (s : Int) + iI ((wdt (e 0) + x + wdt (e 1) + y + wdt (e 2) : Nat) : Int) - 1 = iI ((s + wdt (e 0) + x + wdt (e 1) + y : Nat) : Int) := by
              rw [z1, iI_add, iI_sub]
              exact congrArg iI (by omega)
            obtain ⟨l1, l2⟩ := hr (s + wdt (e 0) + x + wdt (e 1) + y) (by omega)
            refine ⟨fun q => absurd ((iI_eq (by omega) (by omega) (by omega) (by omega)).mp (q.trans z0)) (by omega), fun _ => ?_⟩
            rw [ep, a0, a2, cl _ (by omega), cl _ (by omega), l1, k2]
            refine ⟨(iI_in (by omega) (by omega)).mpr ⟨by omega, by omega⟩, ?_⟩
            rintro y24 rfl
            refine ⟨vi _ (by omega), ?_⟩
            rintro y26 rfl
            by_cases c3 : f (s + wdt (e 0) + x + wdt (e 1) + y) + 1 = e 2
            · refine ⟨fun q => absurd (congrArg iI (by omega)) q, fun _ => ?_⟩
              exact k191 True (fun _ hh => h1 ⟨c0, cS, hA, hB, fun _ => c3, hh⟩) (fun _ => cS) trivial
            · refine ⟨fun _ => k191f (fun ho => c3 (ho.2.2.2.2.1 c2)) _ _ _, fun q => absurd ((iI_eq (by omega) (by omega) (by omega) (by omega)).mp q) (by omega)⟩
        have k125 : (e 0 ≠ 0 → f s + 1 = e 0) → VX11_occurs_125 post (fun x5 x6 x9 x10 x11 => ∃ n191 : Nat, VX11_occurs_191 post (iI N) row (iI S) kept (iI i) (iI s) (iI x) (iI y) n191 x5 x6 x9 x10 x11) (iI N) row (iI S) kept (iI i) (iI s) (iI x) (iI y) (iI ((wdt (e 0) : Nat) : Int)) (iI ((wdt (e 1) : Nat) : Int)) (iI ((wdt (e 2) : Nat) : Int)) (iI ((wdt (e 0) + x + wdt (e 1) + y + wdt (e 2) : Nat) : Int)) (iI ((s + wdt (e 0) + x : Nat) : Int)) := by
          intro hA
          unfold VX11_occurs_125
          by_cases c2 : e 1 = 0
          · have q2 : wdt (e 1) = 0 := by rw [wdt, if_pos c2]
            refine ⟨fun _ => k151 hA (fun q => absurd c2 q), fun q => absurd (by rw [q2]; rfl) q⟩
          · have q2 : wdt (e 1) = 1 := by rw [wdt, if_neg c2]
            obtain ⟨l1, l2⟩ := hr (s + wdt (e 0) + x) (by omega)
            refine ⟨fun q => absurd ((iI_eq (by omega) (by omega) (by omega) (by omega)).mp (q.trans z0)) (by omega), fun _ => ?_⟩
            rw [a0, a1, cl _ (by omega), cl _ (by omega), l1, k1]
            refine ⟨(iI_in (by omega) (by omega)).mpr ⟨by omega, by omega⟩, vi _ (by omega), ?_⟩
            rintro y20 rfl
            by_cases c3 : f (s + wdt (e 0) + x) + 1 = e 1
            · exact ⟨fun q => absurd (congrArg iI (by omega)) q, fun _ => k151 hA (fun _ => c3)⟩
            · refine ⟨fun _ => k191f (fun ho => c3 (ho.2.2.2.1 c2)) _ _ _, fun q => absurd ((iI_eq (by omega) (by omega) (by omega) (by omega)).mp q) (by omega)⟩
        by_cases c2 : e 0 = 0
        · have q2 : wdt (e 0) = 0 := by rw [wdt, if_pos c2]
          exact ⟨fun _ => k125 (fun q => absurd c2 q), fun q => absurd (by rw [q2]; rfl) q⟩
        · have q2 : wdt (e 0) = 1 := by rw [wdt, if_neg c2]
          obtain ⟨l1, l2⟩ := hr s (by omega)
          refine ⟨fun q => absurd ((iI_eq (by omega) (by omega) (by omega) (by omega)).mp (q.trans z0)) (by omega), fun _ => ?_⟩
          rw [a0, cl _ (by omega), cl _ (by omega), l1, k0]
          refine ⟨(iI_in (by omega) (by omega)).mpr ⟨by omega, by omega⟩, vi _ (by omega), ?_⟩
          rintro y12 rfl
          by_cases c3 : f s + 1 = e 0
          · exact ⟨fun q => absurd (congrArg iI (by omega)) q, fun _ => k125 (fun _ => c3)⟩
          · refine ⟨fun _ => k191f (fun ho => c3 (ho.2.2.1 c2)) _ _ _, fun q => absurd ((iI_eq (by omega) (by omega) (by omega) (by omega)).mp q) (by omega)⟩
      · exact ⟨fun q => absurd ((iI_le (by omega) (by omega) (by omega) (by omega)).mp q) (by omega), fun _ => h0 (fun ho => cS ho.2.1)⟩
  have ww : ∀ v : Nat, (v ≠ 0 → (1 : Int32) = iI ((wdt v : Nat) : Int)) ∧ (v = 0 → (0 : Int32) = iI ((wdt v : Nat) : Int)) := fun v => ⟨fun q => by rw [wdt, if_neg q]; rfl, fun q => by rw [wdt, if_pos q]; rfl⟩
  have k38 : VX11_occurs_38 post (iI N) row (iI S) kept (iI i) (iI s) (iI x) (iI y) (iI ((wdt (e 0) : Nat) : Int)) (iI ((wdt (e 1) : Nat) : Int)) := by
    unfold VX11_occurs_38
    rw [a0, a2, cl _ (by omega), k2]
    refine ⟨vi _ (by omega), ?_⟩
    rintro y7 rfl
    exact wd _ _ _ b2 (fun q => by rw [(ww (e 2)).1 q]; exact k59) (fun q => by rw [(ww (e 2)).2 q]; exact k59)
  have k17 : VX11_occurs_17 post (iI N) row (iI S) kept (iI i) (iI s) (iI x) (iI y) (iI ((wdt (e 0) : Nat) : Int)) := by
    unfold VX11_occurs_17
    rw [a0, a1, cl _ (by omega), k1]
    refine ⟨vi _ (by omega), ?_⟩
    rintro y4 rfl
    exact wd _ _ _ b1 (fun q => by rw [(ww (e 1)).1 q]; exact k38) (fun q => by rw [(ww (e 1)).2 q]; exact k38)
  unfold VX11_occurs
  rw [a0, cl _ (by omega), k0]
  refine ⟨vi _ (by omega), ?_⟩
  rintro y1 rfl
  exact wd _ _ _ b0 (fun q => by rw [(ww (e 0)).1 q]; exact k17) (fun q => by rw [(ww (e 0)).2 q]; exact k17)
end
