/-! THE CLOSURE: what it is -/
abbrev TA : Type := Nat → Int32
def Sp (N : Nat) (il : Nat → Nat) (im : Nat → Nat → Nat) (ck : Nat) (A q : Nat → Nat) (y : Nat) : Int := sm4 (fun x => AD (mM il im) N y x * ((dig N ck (3 + x) : Int) - 9)) + GS (AD (mM il im) N) il im 0 (dig N ck 0) y (A 0) (q 0) + GS (AD (mM il im) N) il im 1 (dig N ck 1) y (A 1) (q 1) + GS (AD (mM il im) N) il im 2 (dig N ck 2) y (A 2) (q 2)
def Par (N : Nat) (il : Nat → Nat) (im : Nat → Nat → Nat) (ck pk : Nat) : Prop := ∃ A q : Nat → Nat, (∀ i, i < 3 → A i ≤ N ∧ cutOK il im (A i) (dig N ck i) (q i)) ∧ ∃ c, PD N (A 0) (A 1) (A 2) (dtm (mM il im) N) (Sp N il im ck A q) c ∧ pk = kk c (3 + N)
def rch (N : Nat) (il : Nat → Nat) (im : Nat → Nat → Nat) (x : Nat) : Prop := ∀ S : Nat → Prop, S (kk sqc (3 + N)) → (∀ a b, S a → Par N il im a b → S b) → S x
theorem rch_sq {N : Nat} {il : Nat → Nat} {im : Nat → Nat → Nat} : rch N il im (kk sqc (3 + N)) := fun _ h _ => h
theorem rch_par {N : Nat} {il : Nat → Nat} {im : Nat → Nat → Nat} {a b : Nat} (h : rch N il im a) (hp : Par N il im a b) : rch N il im b := fun S h1 h2 => h2 a b (h S h1 h2) hp
theorem rch_VD {N : Nat} {il : Nat → Nat} {im : Nat → Nat → Nat} {x : Nat} (h : rch N il im x) : ∃ c, VD N c ∧ x = kk c (3 + N) := by
  refine h (fun x => ∃ c, VD N c ∧ x = kk c (3 + N)) ⟨sqc, sqc_VD N, rfl⟩ (fun a b _ hp => ?_)
  obtain ⟨A, q, -, c, hc, e⟩ := hp
  exact ⟨c, hc.1, e⟩
def SRT (n : Nat) (ok : Nat → Nat) : Prop := ∀ i j, i < j → j < n → ok i < ok j
def Big (N : Nat) (il : Nat → Nat) (im : Nat → Nat → Nat) : Prop := ∃ ok, SRT 201 ok ∧ ∀ i, i < 201 → rch N il im (ok i)
def Fin0 (N : Nat) (il : Nat → Nat) (im : Nat → Nat → Nat) (n : Nat) (ok : Nat → Nat) : Prop := n ≤ 200 ∧ SRT n ok ∧ ∀ x, rch N il im x ↔ ∃ i, i < n ∧ ok i = x
/-- an ordered row inside an ordered row -/
theorem SRT_in {n m : Nat} {f g : Nat → Nat} (hf : SRT n f) (hg : SRT m g) (h : ∀ i, i < n → ∃ j, j < m ∧ g j = f i) : ∀ i, i < n → ∃ j, i ≤ j ∧ j < m ∧ g j = f i := by
  intro i
  induction i with
  | zero =>
    intro hi
    obtain ⟨j, h1, h2⟩ := h 0 hi
    exact ⟨j, by omega, h1, h2⟩
  | succ i ih =>
    intro hi
    obtain ⟨j, h1, h2, h3⟩ := ih (by omega)
    obtain ⟨k, k1, k2⟩ := h (i + 1) hi
    refine ⟨k, ?_, k1, k2⟩
    have h4 := hf i (i + 1) (by omega) hi
    by_cases c : i + 1 ≤ k
    · exact c
    · exfalso
      by_cases d : k = j
      · rw [d] at k2
        omega
      · have := hg k j (by omega) h2
        omega
theorem SRT_le {n m : Nat} {f g : Nat → Nat} (hf : SRT n f) (hg : SRT m g) (h : ∀ i, i < n → ∃ j, j < m ∧ g j = f i) : n ≤ m := by
  by_cases c : n = 0
  · omega
  · obtain ⟨j, h1, h2, h3⟩ := SRT_in hf hg h (n - 1) (by omega)
    omega
theorem SRT_eq {n : Nat} {f g : Nat → Nat} (hf : SRT n f) (hg : SRT n g) (h : ∀ i, i < n → ∃ j, j < n ∧ g j = f i) (h' : ∀ i, i < n → ∃ j, j < n ∧ f j = g i) : ∀ i, i < n → f i = g i := by
  intro i hi
  obtain ⟨j, j1, j2, j3⟩ := SRT_in hf hg h i hi
  obtain ⟨k, k1, k2, k3⟩ := SRT_in hg hf h' i hi
  have e1 : g i ≤ f i := by
    by_cases c : i = j
    · rw [c, j3, ← c]
      omega
    · have := hg i j (by omega) j2
      omega
  have e2 : f i ≤ g i := by
    by_cases c : i = k
    · rw [c, k3, ← c]
      omega
    · have := hf i k (by omega) k2
      omega
  omega
theorem Fin_eq {N : Nat} {il : Nat → Nat} {im : Nat → Nat → Nat} {n m : Nat} {f g : Nat → Nat} (hf : Fin0 N il im n f) (hg : Fin0 N il im m g) : n = m ∧ ∀ i, i < n → f i = g i := by
  have h1 : ∀ i, i < n → ∃ j, j < m ∧ g j = f i := fun i hi => (hg.2.2 (f i)).mp ((hf.2.2 (f i)).mpr ⟨i, hi, rfl⟩)
  have h2 : ∀ i, i < m → ∃ j, j < n ∧ f j = g i := fun i hi => (hf.2.2 (g i)).mp ((hg.2.2 (g i)).mpr ⟨i, hi, rfl⟩)
  have e1 := SRT_le hf.2.1 hg.2.1 h1
  have e2 := SRT_le hg.2.1 hf.2.1 h2
  have e : n = m := by omega
  subst e
  exact ⟨rfl, SRT_eq hf.2.1 hg.2.1 h1 h2⟩
theorem Fin_Big {N : Nat} {il : Nat → Nat} {im : Nat → Nat → Nat} {n : Nat} {f : Nat → Nat} (hf : Fin0 N il im n f) (hb : Big N il im) : False := by
  obtain ⟨g, g1, g2⟩ := hb
  have := SRT_le g1 hf.2.1 (fun i hi => (hf.2.2 (g i)).mp (g2 i hi))
  have := hf.1
  omega
/-! one more in an ordered row -/
def ins (ok : Nat → Nat) (p key j : Nat) : Nat := if j < p then ok j else if j = p then key else ok (j - 1)
theorem ins_l {ok : Nat → Nat} {p key j : Nat} (h : j < p) : ins ok p key j = ok j := by rw [ins, if_pos h]
theorem ins_m {ok : Nat → Nat} {p key : Nat} : ins ok p key p = key := by rw [ins, if_neg (by omega), if_pos rfl]
theorem ins_r {ok : Nat → Nat} {p key j : Nat} (h : p < j) : ins ok p key j = ok (j - 1) := by rw [ins, if_neg (by omega), if_neg (by omega)]
theorem ins_SRT {n p key : Nat} {ok : Nat → Nat} (hs : SRT n ok) (hp : p ≤ n) (h1 : ∀ i, i < p → ok i < key) (h2 : ∀ i, p ≤ i → i < n → key < ok i) : SRT (n + 1) (ins ok p key) := by
  intro i j hij hj
  by_cases c1 : j < p
  · rw [ins_l c1, ins_l (by omega)]
    exact hs i j hij (by omega)
  · by_cases c2 : j = p
    · subst c2
      rw [ins_m, ins_l hij]
      exact h1 i hij
    · rw [ins_r (j := j) (by omega)]
      by_cases d1 : i < p
      · rw [ins_l d1]
        have e1 := h1 i d1
        have e2 := h2 (j - 1) (by omega) (by omega)
        omega
      · by_cases d2 : i = p
        · subst d2
          rw [ins_m]
          exact h2 (j - 1) (by omega) (by omega)
        · rw [ins_r (by omega)]
          exact hs (i - 1) (j - 1) (by omega) (by omega)
theorem ins_mem {n p key : Nat} {ok : Nat → Nat} (hp : p ≤ n) (x : Nat) : (∃ i, i < n + 1 ∧ ins ok p key i = x) ↔ (x = key ∨ ∃ i, i < n ∧ ok i = x) := by
  constructor
  · rintro ⟨i, hi, e⟩
    by_cases c1 : i < p
    · rw [ins_l c1] at e
      exact Or.inr ⟨i, by omega, e⟩
    · by_cases c2 : i = p
      · subst c2
        rw [ins_m] at e
        exact Or.inl e.symm
      · rw [ins_r (by omega)] at e
        exact Or.inr ⟨i - 1, by omega, e⟩
  · rintro (e | ⟨i, hi, e⟩)
    · exact ⟨p, by omega, by rw [ins_m]; exact e.symm⟩
    · by_cases c : i < p
      · exact ⟨i, by omega, by rw [ins_l c]; exact e⟩
      · exact ⟨i + 1, by omega, by rw [ins_r (by omega), Nat.add_sub_cancel]; exact e⟩
theorem s0_placeOf {post : Int32 → Prop} {ordered : Nat → Int32} {ok : Nat → Nat} {n key : Nat} (hn : n ≤ 200) (hk : key < 2147483648) (ho : ∀ i, i < n → ordered i = iI (ok i) ∧ ok i < 2147483648) (hs : SRT n ok) (h : ∀ p, p ≤ n → (∀ i, i < p → ok i < key) → (∀ i, p ≤ i → i < n → key ≤ ok i) → post (iI p)) : VX0_placeOf post ordered (iI n) (iI key) := by
  have loop : ∀ (r lo hi u : Nat) (x2 x3 x4 : Int32), hi - lo < r → hi - lo + u ≤ 200 → lo ≤ hi → hi ≤ n → x2 = iI lo → x3 = iI hi → x4 = iI u → (∀ i, i < lo → ok i < key) → (∀ i, hi ≤ i → i < n → key ≤ ok i) → VX0_placeOf_10 post ordered (iI n) (iI key) r x2 x3 x4 := by
    intro r
    induction r with
    | zero =>
      intro lo hi u x2 x3 x4 hr
      exact absurd hr (Nat.not_lt_zero _)
    | succ r ih =>
      intro lo hi u x2 x3 x4 hr hu h1 h2 e2 e3 e4 p1 p2
      subst e2 e3 e4
      rw [VX0_placeOf_10]
      by_cases c : hi ≤ lo
      · have : lo = hi := by omega
        subst this
        by_cases c2 : 200 ≤ u
        · simp (disch := omega) only [iI_lit, lI_lit, iI_nI, iI_add, iI_sub, iI_mul, iI_neg, c_lt_t, c_lt_f, c_le_t, c_le_f, c_eq_t, c_eq_f, c_in_t, iI_clamp, Int.toNat_natCast, forall_eq, true_and, and_true, false_and, and_false, not_true_eq_false, not_false_eq_true, true_implies, false_implies, implies_true, forall_const, true_or, or_true, false_or, or_false, pk_us, vu_s, vL_s, vb_0, vb_1, if_true, if_false, ite_true, ite_false]
          exact h lo h2 p1 p2
        · simp (disch := omega) only [iI_lit, lI_lit, iI_nI, iI_add, iI_sub, iI_mul, iI_neg, c_lt_t, c_lt_f, c_le_t, c_le_f, c_eq_t, c_eq_f, c_in_t, iI_clamp, Int.toNat_natCast, forall_eq, true_and, and_true, false_and, and_false, not_true_eq_false, not_false_eq_true, true_implies, false_implies, implies_true, forall_const, true_or, or_true, false_or, or_false, pk_us, vu_s, vL_s, vb_0, vb_1, if_true, if_false, ite_true, ite_false]
          exact h lo h2 p1 p2
      · have es : (lo : Int) + (hi : Int) = ((lo + hi : Nat) : Int) := by omega
        obtain ⟨o1, o2⟩ := ho ((lo + hi) / 2) (by omega)
        by_cases d : key ≤ ok ((lo + hi) / 2)
        · simp (disch := omega) only [es, d_2, o1, iI_lit, lI_lit, iI_nI, iI_add, iI_sub, iI_mul, iI_neg, c_lt_t, c_lt_f, c_le_t, c_le_f, c_eq_t, c_eq_f, c_in_t, iI_clamp, Int.toNat_natCast, forall_eq, true_and, and_true, false_and, and_false, not_true_eq_false, not_false_eq_true, true_implies, false_implies, implies_true, forall_const, true_or, or_true, false_or, or_false, pk_us, vu_s, vL_s, vb_0, vb_1, if_true, if_false, ite_true, ite_false]
          refine ih lo ((lo + hi) / 2) (u + 1) _ _ _ (by omega) (by omega) (by omega) (by omega) rfl rfl (congrArg iI (by omega)) p1 (fun i hi1 hi2 => ?_)
          by_cases e : i = (lo + hi) / 2
          · rw [e]
            exact d
          · have := hs ((lo + hi) / 2) i (by omega) hi2
            omega
        · simp (disch := omega) only [es, d_2, o1, iI_lit, lI_lit, iI_nI, iI_add, iI_sub, iI_mul, iI_neg, c_lt_t, c_lt_f, c_le_t, c_le_f, c_eq_t, c_eq_f, c_in_t, iI_clamp, Int.toNat_natCast, forall_eq, true_and, and_true, false_and, and_false, not_true_eq_false, not_false_eq_true, true_implies, false_implies, implies_true, forall_const, true_or, or_true, false_or, or_false, pk_us, vu_s, vL_s, vb_0, vb_1, if_true, if_false, ite_true, ite_false]
          refine ih ((lo + hi) / 2 + 1) hi (u + 1) _ _ _ (by omega) (by omega) (by omega) h2 (congrArg iI (by omega)) rfl (congrArg iI (by omega)) (fun i hi1 => ?_) p2
          by_cases e : i = (lo + hi) / 2
          · rw [e]
            omega
          · have := hs i ((lo + hi) / 2) (by omega) (by omega)
            omega
  exact ⟨n + 1, loop (n + 1) 0 n 0 _ _ _ (by omega) (by omega) (by omega) (Nat.le_refl n) rfl rfl rfl (fun i hi => absurd hi (Nat.not_lt_zero i)) (fun i h1 h2 => absurd h1 (by omega))⟩
theorem s0_admit {post : Int32 → (Nat → Int32) → (Nat → Int32) → Int32 → Prop} {ordered found : Nat → Int32} {ok : Nat → Nat} {n key : Nat} (hn : n ≤ 200) (hk : key < 2147483648) (ho : ∀ i, i < n → ordered i = iI (ok i) ∧ ok i < 2147483648) (hs : SRT n ok)
    (hIn : (∃ i, i < n ∧ ok i = key) → post (iI 1) ordered found (iI n)) (hNew : (¬ ∃ i, i < n ∧ ok i = key) → n < 200 → ∀ p o', p ≤ n → SRT (n + 1) (ins ok p key) → (∀ i, i < n + 1 → o' i = iI (ins ok p key i)) → post (iI 1) o' (upd found n (iI key)) (iI ((n + 1 : Nat) : Int))) (hFull : (¬ ∃ i, i < n ∧ ok i = key) → n = 200 → ∀ p, p ≤ n → SRT (n + 1) (ins ok p key) → post (iI 0) ordered found (iI n)) :
    VX0_admit post (iI key) ordered found (iI n) := by
  unfold VX0_admit
  refine s0_placeOf hn hk ho hs (fun p hp p1 p2 => ?_)
  have fin : (¬ ∃ i, i < n ∧ ok i = key) → VX0_admit_26 post (iI key) ordered found (iI n) (iI p) := by
    intro hnot
    have p3 : ∀ i, p ≤ i → i < n → key < ok i := by
      intro i hi1 hi2
      have := p2 i hi1 hi2
      by_cases c : ok i = key
      · exact absurd ⟨i, hi2, c⟩ hnot
      · omega
    have hS := ins_SRT hs hp p1 p3
    by_cases c : n < 200
    · have loop : ∀ (r m : Nat) (o : Nat → Int32) (x3 : Int32), m = p + r → m ≤ n → x3 = iI m → (∀ j, j < m → o j = iI (ok j)) → (∀ j, m < j → j < n + 1 → o j = iI (ok (j - 1))) → VX0_admit_43 post (iI key) (r + 1) o found (iI n) (iI p) x3 := by
        intro r
        induction r with
        | zero =>
          intro m o x3 hm hmn e3 h1 h2
          have : m = p := by omega
          subst this e3
          have e1 : (n : Int) + 1 = ((n + 1 : Nat) : Int) := by omega
          rw [VX0_admit_43]
          simp (disch := omega) only [VX0_admit_68, e1, iI_lit, lI_lit, iI_nI, iI_add, iI_sub, iI_mul, iI_neg, c_lt_t, c_lt_f, c_le_t, c_le_f, c_eq_t, c_eq_f, c_in_t, iI_clamp, Int.toNat_natCast, forall_eq, true_and, and_true, false_and, and_false, not_true_eq_false, not_false_eq_true, true_implies, false_implies, implies_true, forall_const, true_or, or_true, false_or, or_false, pk_us, vu_s, vL_s, vb_0, vb_1, if_true, if_false, ite_true, ite_false]
          refine hNew hnot c m _ hp hS (fun i hi => ?_)
          by_cases d : i = m
          · rw [d, pk_us, ins_m]
          · rw [pk_un d]
            by_cases e : i < m
            · rw [ins_l e]
              exact h1 i e
            · rw [ins_r (by omega)]
              exact h2 i (by omega) hi
        | succ r ih =>
          intro m o x3 hm hmn e3 h1 h2
          subst e3
          have e0 : (m : Int) - 1 = ((m - 1 : Nat) : Int) := by omega
          have h3 := h1 (m - 1) (by omega)
          rw [VX0_admit_43]
          simp (disch := omega) only [e0, h3, iI_lit, lI_lit, iI_nI, iI_add, iI_sub, iI_mul, iI_neg, c_lt_t, c_lt_f, c_le_t, c_le_f, c_eq_t, c_eq_f, c_in_t, iI_clamp, Int.toNat_natCast, forall_eq, true_and, and_true, false_and, and_false, not_true_eq_false, not_false_eq_true, true_implies, false_implies, implies_true, forall_const, true_or, or_true, false_or, or_false, pk_us, vu_s, vL_s, vb_0, vb_1, if_true, if_false, ite_true, ite_false]
          refine ih (m - 1) _ _ (by omega) (by omega) (congrArg iI (by omega)) (fun j hj => ?_) (fun j hj1 hj2 => ?_)
          · rw [pk_un (by omega)]
            exact h1 j (by omega)
          · by_cases d : j = m
            · rw [d, pk_us]
            · rw [pk_un d]
              exact h2 j (by omega) hj2
      simp (disch := omega) only [VX0_admit_26, iI_lit, lI_lit, iI_nI, iI_add, iI_sub, iI_mul, iI_neg, c_lt_t, c_lt_f, c_le_t, c_le_f, c_eq_t, c_eq_f, c_in_t, iI_clamp, Int.toNat_natCast, forall_eq, true_and, and_true, false_and, and_false, not_true_eq_false, not_false_eq_true, true_implies, false_implies, implies_true, forall_const, true_or, or_true, false_or, or_false, pk_us, vu_s, vL_s, vb_0, vb_1, if_true, if_false, ite_true, ite_false]
      exact ⟨n - p + 1, loop (n - p) n ordered _ (by omega) (Nat.le_refl n) rfl (fun j hj => (ho j hj).1) (fun j h1 h2 => absurd h1 (by omega))⟩
    · simp (disch := omega) only [VX0_admit_26, iI_lit, lI_lit, iI_nI, iI_add, iI_sub, iI_mul, iI_neg, c_lt_t, c_lt_f, c_le_t, c_le_f, c_eq_t, c_eq_f, c_in_t, iI_clamp, Int.toNat_natCast, forall_eq, true_and, and_true, false_and, and_false, not_true_eq_false, not_false_eq_true, true_implies, false_implies, implies_true, forall_const, true_or, or_true, false_or, or_false, pk_us, vu_s, vL_s, vb_0, vb_1, if_true, if_false, ite_true, ite_false]
      exact hFull hnot (by omega) p hp hS
  by_cases c : n ≤ p
  · simp (disch := omega) only [iI_lit, lI_lit, iI_nI, iI_add, iI_sub, iI_mul, iI_neg, c_lt_t, c_lt_f, c_le_t, c_le_f, c_eq_t, c_eq_f, c_in_t, iI_clamp, Int.toNat_natCast, forall_eq, true_and, and_true, false_and, and_false, not_true_eq_false, not_false_eq_true, true_implies, false_implies, implies_true, forall_const, true_or, or_true, false_or, or_false, pk_us, vu_s, vL_s, vb_0, vb_1, if_true, if_false, ite_true, ite_false]
    refine fin (fun ⟨i, hi, e⟩ => ?_)
    have := p1 i (by omega)
    omega
  · obtain ⟨o1, o2⟩ := ho p (by omega)
    by_cases d : ok p = key
    · simp (disch := omega) only [o1, iI_lit, lI_lit, iI_nI, iI_add, iI_sub, iI_mul, iI_neg, c_lt_t, c_lt_f, c_le_t, c_le_f, c_eq_t, c_eq_f, c_in_t, iI_clamp, Int.toNat_natCast, forall_eq, true_and, and_true, false_and, and_false, not_true_eq_false, not_false_eq_true, true_implies, false_implies, implies_true, forall_const, true_or, or_true, false_or, or_false, pk_us, vu_s, vL_s, vb_0, vb_1, if_true, if_false, ite_true, ite_false]
      exact hIn ⟨p, by omega, d⟩
    · simp (disch := omega) only [o1, iI_lit, lI_lit, iI_nI, iI_add, iI_sub, iI_mul, iI_neg, c_lt_t, c_lt_f, c_le_t, c_le_f, c_eq_t, c_eq_f, c_in_t, iI_clamp, Int.toNat_natCast, forall_eq, true_and, and_true, false_and, and_false, not_true_eq_false, not_false_eq_true, true_implies, false_implies, implies_true, forall_const, true_or, or_true, false_or, or_false, pk_us, vu_s, vL_s, vb_0, vb_1, if_true, if_false, ite_true, ite_false]
      refine fin (fun ⟨i, hi, e⟩ => ?_)
      by_cases f : i < p
      · have := p1 i f
        omega
      · have h1 := p2 p (Nat.le_refl p) (by omega)
        by_cases g : i = p
        · rw [g] at e
          exact d e
        · have := hs p i (by omega) hi
          omega
/-- what the class has found -/
def CST (N : Nat) (il : Nat → Nat) (im : Nat → Nat → Nat) (n : Nat) (ok fk : Nat → Nat) (ordered found : Nat → Int32) : Prop := n ≤ 200 ∧ SRT n ok ∧ (∀ i, i < n → ordered i = iI (ok i)) ∧ (∀ i, i < n → found i = iI (fk i)) ∧ (∀ x, (∃ i, i < n ∧ ok i = x) ↔ ∃ i, i < n ∧ fk i = x) ∧ ∀ i, i < n → rch N il im (ok i)
theorem rch_lt {N : Nat} (hN : 2 ≤ N ∧ N ≤ 4) {il : Nat → Nat} {im : Nat → Nat → Nat} {x : Nat} (h : rch N il im x) : x < 16290125 := by
  obtain ⟨c, h1, rfl⟩ := rch_VD h
  exact kk_le hN h1
theorem s0_admitC {post : Int32 → (Nat → Int32) → (Nat → Int32) → Int32 → Prop} {N : Nat} {il : Nat → Nat} {im : Nat → Nat → Nat} {ordered found : Nat → Int32} {ok fk : Nat → Nat} {n key : Nat} (hN : 2 ≤ N ∧ N ≤ 4) (hC : CST N il im n ok fk ordered found) (hr : rch N il im key)
    (h1 : ∀ n' ok' fk' o' f', CST N il im n' ok' fk' o' f' → n ≤ n' → (∀ i, i < n → fk' i = fk i) → (∃ i, i < n' ∧ fk' i = key) → post (iI 1) o' f' (iI ((n' : Nat) : Int))) (h0 : Big N il im → ∀ o f m, post (iI 0) o f m) : VX0_admit post (iI key) ordered found (iI n) := by
  have hC0 := hC
  obtain ⟨c1, c2, c3, c4, c5, c6⟩ := hC
  have hkl := rch_lt hN hr
  refine s0_admit (ok := ok) c1 (by omega) (fun i hi => ⟨c3 i hi, by have := rch_lt hN (c6 i hi); omega⟩) c2 (fun hin => ?_) (fun hnot hlt p o' hp hS ho => ?_) (fun hnot he p hp hS => ?_)
  · exact h1 n ok fk ordered found hC0 (Nat.le_refl n) (fun _ _ => rfl) ((c5 key).mp hin)
  · refine h1 (n + 1) (ins ok p key) (va_up fk n key) o' _ ⟨by omega, hS, ho, fun i hi => ?_, fun x => ?_, fun i hi => ?_⟩ (by omega) (fun i hi => vu_n (by omega)) ⟨n, by omega, vu_s fk n key⟩
    · by_cases c : i = n
      · rw [c, pk_us, vu_s]
      · rw [pk_un c, vu_n c]
        exact c4 i (by omega)
    · rw [ins_mem hp, c5 x]
      constructor
      · rintro (e | ⟨i, hi, e⟩)
        · exact ⟨n, by omega, by rw [vu_s]; exact e.symm⟩
        · exact ⟨i, by omega, by rw [vu_n (by omega)]; exact e⟩
      · rintro ⟨i, hi, e⟩
        by_cases c : i = n
        · rw [c, vu_s] at e
          exact Or.inl e.symm
        · rw [vu_n c] at e
          exact Or.inr ⟨i, by omega, e⟩
    · obtain e | ⟨j, hj, e⟩ := (ins_mem (ok := ok) (key := key) hp (ins ok p key i)).mp ⟨i, hi, rfl⟩
      · rw [e]
        exact hr
      · rw [← e]
        exact c6 j hj
  · refine h0 ⟨ins ok p key, ?_, fun i hi => ?_⟩ _ _ _
    · subst he
      exact hS
    · obtain e | ⟨j, hj, e⟩ := (ins_mem (ok := ok) (key := key) (n := n) hp (ins ok p key i)).mp ⟨i, by omega, rfl⟩
      · rw [e]
        exact hr
      · rw [← e]
        exact c6 j hj
