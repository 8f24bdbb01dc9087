/-! PARSING: bytes, texts, names -/
def txL : List (List Nat) := [[101, 113, 117, 97, 108, 32], [97, 98, 101, 108, 105, 97, 110, 32], [97, 100, 100, 105, 116, 105, 118, 101, 32], [109, 105, 120, 101, 100, 32]]
def tx (w k : Nat) : Nat := (txL.getD w []).getD k 0
def lnT (w : Nat) : Nat := lenJ.getD w 0
theorem ch_tx : ∀ w, w < 4 → ∀ k, k < lnT w → chJ w k = iI ((tx w k : Nat) : Int) := by decide +kernel
theorem tx_pos : ∀ w, w < 4 → ∀ k, k < lnT w → 1 ≤ tx w k ∧ tx w k ≤ 127 := by decide +kernel
theorem tx_32 : ∀ w, w < 4 → tx w (lnT w - 1) = 32 := by decide +kernel
theorem tx_two : ∀ w, w < 4 → ∀ v, v < 4 → tx w 0 = tx v 0 → tx w 1 = tx v 1 → w = v := by decide +kernel
theorem lnT_b : ∀ w, w < 4 → 6 ≤ lnT w ∧ lnT w ≤ 9 := by decide +kernel
def bt (f : Nat → Nat) (n i : Nat) : Nat := if i < n then f i else 0
theorem bt_le {f : Nat → Nat} {n : Nat} (hf : ∀ j, j < n → 1 ≤ f j ∧ f j ≤ 127) (i : Nat) : bt f n i ≤ 127 := by
  unfold bt
  split
  · exact (hf i (by assumption)).2
  · omega
def MT (t b : Nat → Nat) (len k : Nat) : Prop := k ≤ len ∧ (∀ j, j < k → b j = t j) ∧ (k < len → b k ≠ t k)
theorem MT_u {t b : Nat → Nat} {len k k' : Nat} (h : MT t b len k) (h' : MT t b len k') : k = k' := by
  obtain ⟨a1, a2, a3⟩ := h
  obtain ⟨b1, b2, b3⟩ := h'
  by_cases c : k < k'
  · exact absurd (b2 k c) (a3 (by omega))
  · by_cases d : k' < k
    · exact absurd (a2 k' d) (b3 (by omega))
    · omega
theorem MT_ex (t b : Nat → Nat) : ∀ len, ∃ k, MT t b len k
  | 0 => ⟨0, Nat.le_refl 0, fun j hj => absurd hj (Nat.not_lt_zero j), fun h => absurd h (Nat.not_lt_zero 0)⟩
  | len + 1 => by
    obtain ⟨k, a1, a2, a3⟩ := MT_ex t b len
    by_cases c : k < len
    · exact ⟨k, by omega, a2, fun _ => a3 c⟩
    · have : k = len := by omega
      subst this
      by_cases d : b k = t k
      · refine ⟨k + 1, Nat.le_refl _, fun j hj => ?_, fun h => absurd h (by omega)⟩
        by_cases e : j = k
        · rw [e]
          exact d
        · exact a2 j (by omega)
      · exact ⟨k, by omega, a2, fun _ => d⟩
theorem s1_byteAt {post : Int32 → Prop} {bytes : Nat → Int32} {f : Nat → Nat} {n i : Nat} (hn : n ≤ 16) (hi : i < 1000) (hb : ∀ j, j < n → bytes j = iI (f j)) (h : post (iI (bt f n i))) : VX1_byteAt post bytes (iI n) (iI i) := by
  by_cases c : i < n
  · have e := hb i c
    rw [bt, if_pos c] at h
    simp (disch := omega) only [VX1_byteAt, e, iI_lit, lI_lit, iI_nI, iI_add, iI_sub, iI_mul, iI_neg, c_lt_t, c_lt_f, c_le_t, c_le_f, c_eq_t, c_eq_f, c_in_t, iI_clamp, Int.toNat_natCast, forall_eq, true_and, and_true, false_and, and_false, not_true_eq_false, not_false_eq_true, true_implies, false_implies, implies_true, forall_const, true_or, or_true, false_or, or_false, pk_us, vu_s, vL_s, vb_0, vb_1, if_true, if_false, ite_true, ite_false]
    exact h
  · rw [bt, if_neg c] at h
    simp (disch := omega) only [VX1_byteAt, iI_lit, lI_lit, iI_nI, iI_add, iI_sub, iI_mul, iI_neg, c_lt_t, c_lt_f, c_le_t, c_le_f, c_eq_t, c_eq_f, c_in_t, iI_clamp, Int.toNat_natCast, forall_eq, true_and, and_true, false_and, and_false, not_true_eq_false, not_false_eq_true, true_implies, false_implies, implies_true, forall_const, true_or, or_true, false_or, or_false, pk_us, vu_s, vL_s, vb_0, vb_1, if_true, if_false, ite_true, ite_false]
    exact h
theorem s11_sign {post : Int32 → Prop} {input : Nat → Int32} {f : Nat → Nat} {n i : Nat} (hn : n ≤ 16) (hi : i < 1000) (hb : ∀ j, j < n → input j = iI (f j)) (h : post (iI (bt f n i))) : VX11_sign post input (iI i) (iI n) := by
  by_cases c : i < n
  · have e := hb i c
    rw [bt, if_pos c] at h
    simp (disch := omega) only [VX11_sign, e, iI_lit, lI_lit, iI_nI, iI_add, iI_sub, iI_mul, iI_neg, c_lt_t, c_lt_f, c_le_t, c_le_f, c_eq_t, c_eq_f, c_in_t, iI_clamp, Int.toNat_natCast, forall_eq, true_and, and_true, false_and, and_false, not_true_eq_false, not_false_eq_true, true_implies, false_implies, implies_true, forall_const, true_or, or_true, false_or, or_false, pk_us, vu_s, vL_s, vb_0, vb_1, if_true, if_false, ite_true, ite_false]
    exact h
  · rw [bt, if_neg c] at h
    simp (disch := omega) only [VX11_sign, iI_lit, lI_lit, iI_nI, iI_add, iI_sub, iI_mul, iI_neg, c_lt_t, c_lt_f, c_le_t, c_le_f, c_eq_t, c_eq_f, c_in_t, iI_clamp, Int.toNat_natCast, forall_eq, true_and, and_true, false_and, and_false, not_true_eq_false, not_false_eq_true, true_implies, false_implies, implies_true, forall_const, true_or, or_true, false_or, or_false, pk_us, vu_s, vL_s, vb_0, vb_1, if_true, if_false, ite_true, ite_false]
    exact h
def dgt (b : Nat) : Nat := if 50 ≤ b ∧ b ≤ 52 then b - 48 else 0
theorem s1_digitAt {post : Int32 → Prop} {bytes : Nat → Int32} {f : Nat → Nat} {n i : Nat} (hn : n ≤ 16) (hi : i < 1000) (hb : ∀ j, j < n → bytes j = iI (f j)) (hf : ∀ j, j < n → 1 ≤ f j ∧ f j ≤ 127) (h : post (iI (dgt (bt f n i)))) : VX1_digitAt post bytes (iI n) (iI i) := by
  unfold VX1_digitAt
  refine s1_byteAt (f := f) hn hi hb ?_
  have hle := bt_le hf i
  by_cases c : bt f n i < 50
  · rw [dgt, if_neg (by omega)] at h
    simp (disch := omega) only [iI_lit, lI_lit, iI_nI, iI_add, iI_sub, iI_mul, iI_neg, c_lt_t, c_lt_f, c_le_t, c_le_f, c_eq_t, c_eq_f, c_in_t, iI_clamp, Int.toNat_natCast, forall_eq, true_and, and_true, false_and, and_false, not_true_eq_false, not_false_eq_true, true_implies, false_implies, implies_true, forall_const, true_or, or_true, false_or, or_false, pk_us, vu_s, vL_s, vb_0, vb_1, if_true, if_false, ite_true, ite_false]
    exact h
  · by_cases d : 52 < bt f n i
    · rw [dgt, if_neg (by omega)] at h
      simp (disch := omega) only [iI_lit, lI_lit, iI_nI, iI_add, iI_sub, iI_mul, iI_neg, c_lt_t, c_lt_f, c_le_t, c_le_f, c_eq_t, c_eq_f, c_in_t, iI_clamp, Int.toNat_natCast, forall_eq, true_and, and_true, false_and, and_false, not_true_eq_false, not_false_eq_true, true_implies, false_implies, implies_true, forall_const, true_or, or_true, false_or, or_false, pk_us, vu_s, vL_s, vb_0, vb_1, if_true, if_false, ite_true, ite_false]
      exact h
    · rw [dgt, if_pos (by omega)] at h
      have e : ((bt f n i : Nat) : Int) - 48 = ((bt f n i - 48 : Nat) : Int) := by omega
      simp (disch := omega) only [e, iI_lit, lI_lit, iI_nI, iI_add, iI_sub, iI_mul, iI_neg, c_lt_t, c_lt_f, c_le_t, c_le_f, c_eq_t, c_eq_f, c_in_t, iI_clamp, Int.toNat_natCast, forall_eq, true_and, and_true, false_and, and_false, not_true_eq_false, not_false_eq_true, true_implies, false_implies, implies_true, forall_const, true_or, or_true, false_or, or_false, pk_us, vu_s, vL_s, vb_0, vb_1, if_true, if_false, ite_true, ite_false]
      exact h
theorem s1_kindText {post : Nat → Prop} {w : Nat} (hw : w < 4) (h : post w) : VX1_kindText post (iI w) := by
  unfold VX1_kindText
  rw [iI_toInt (by omega) (by omega), show (0 : Int32) = iI 0 from rfl, show (1 : Int32) = iI 1 from rfl, show (2 : Int32) = iI 2 from rfl]
  rw [iI_eq (by omega) (by omega) (by omega) (by omega), iI_eq (by omega) (by omega) (by omega) (by omega), iI_eq (by omega) (by omega) (by omega) (by omega)]
  refine ⟨fun c => ?_, fun c => ?_, fun c => ?_, fun c => ?_⟩
  · have : w = 3 := by omega
    subst this
    exact h
  · have : w = 0 := by omega
    subst this
    exact h
  · have : w = 1 := by omega
    subst this
    exact h
  · have : w = 2 := by omega
    subst this
    exact h
theorem s1_matched {post : Int32 → Prop} {bytes : Nat → Int32} {f : Nat → Nat} {n w : Nat} (hw : w < 4) (hn : n ≤ 16) (hb : ∀ j, j < n → bytes j = iI (f j)) (hf : ∀ j, j < n → 1 ≤ f j ∧ f j ≤ 127) (h : ∀ k, MT (tx w) (bt f n) (lnT w) k → post (iI k)) : VX1_matched post bytes (iI n) w := by
  have hl := lnT_b w hw
  have el : lenJ.getD w 0 = lnT w := rfl
  have key : ∀ (q k : Nat) (x2 : Int32), k + q = lnT w → x2 = iI k → (∀ j, j < k → bt f n j = tx w j) → VX1_matched_2 post bytes (iI n) w (q + 1) x2 := by
    intro q
    induction q with
    | zero =>
      intro k x2 hk e hp
      subst e
      rw [VX1_matched_2]
      simp (disch := omega) only [el, iI_lit, lI_lit, iI_nI, iI_add, iI_sub, iI_mul, iI_neg, c_lt_t, c_lt_f, c_le_t, c_le_f, c_eq_t, c_eq_f, c_in_t, iI_clamp, Int.toNat_natCast, forall_eq, true_and, and_true, false_and, and_false, not_true_eq_false, not_false_eq_true, true_implies, false_implies, implies_true, forall_const, true_or, or_true, false_or, or_false, pk_us, vu_s, vL_s, vb_0, vb_1, if_true, if_false, ite_true, ite_false]
      exact h k ⟨by omega, hp, fun c => absurd c (by omega)⟩
    | succ q ih =>
      intro k x2 hk e hp
      subst e
      have ec := ch_tx w hw k (by omega)
      have htx := tx_pos w hw k (by omega)
      have hbt := bt_le hf k
      rw [VX1_matched_2]
      simp (disch := omega) only [el, ec, iI_lit, lI_lit, iI_nI, iI_add, iI_sub, iI_mul, iI_neg, c_lt_t, c_lt_f, c_le_t, c_le_f, c_eq_t, c_eq_f, c_in_t, iI_clamp, Int.toNat_natCast, forall_eq, true_and, and_true, false_and, and_false, not_true_eq_false, not_false_eq_true, true_implies, false_implies, implies_true, forall_const, true_or, or_true, false_or, or_false, pk_us, vu_s, vL_s, vb_0, vb_1, if_true, if_false, ite_true, ite_false]
      refine s1_byteAt (f := f) hn (by omega) hb ?_
      by_cases c : bt f n k = tx w k
      · simp (disch := omega) only [iI_lit, lI_lit, iI_nI, iI_add, iI_sub, iI_mul, iI_neg, c_lt_t, c_lt_f, c_le_t, c_le_f, c_eq_t, c_eq_f, c_in_t, iI_clamp, Int.toNat_natCast, forall_eq, true_and, and_true, false_and, and_false, not_true_eq_false, not_false_eq_true, true_implies, false_implies, implies_true, forall_const, true_or, or_true, false_or, or_false, pk_us, vu_s, vL_s, vb_0, vb_1, if_true, if_false, ite_true, ite_false]
        refine ih (k + 1) _ (by omega) (congrArg iI (by omega)) (fun j hj => ?_)
        by_cases d : j = k
        · rw [d]
          exact c
        · exact hp j (by omega)
      · simp (disch := omega) only [iI_lit, lI_lit, iI_nI, iI_add, iI_sub, iI_mul, iI_neg, c_lt_t, c_lt_f, c_le_t, c_le_f, c_eq_t, c_eq_f, c_in_t, iI_clamp, Int.toNat_natCast, forall_eq, true_and, and_true, false_and, and_false, not_true_eq_false, not_false_eq_true, true_implies, false_implies, implies_true, forall_const, true_or, or_true, false_or, or_false, pk_us, vu_s, vL_s, vb_0, vb_1, if_true, if_false, ite_true, ite_false]
        exact h k ⟨by omega, hp, fun _ => c⟩
  exact ⟨lnT w + 1, key (lnT w) 0 _ (by omega) rfl (fun j hj => absurd hj (Nat.not_lt_zero j))⟩
/-- the kind with whose text the input agrees for longest -/
theorem s1_likeliest {post : Int32 → Prop} {bytes : Nat → Int32} {f : Nat → Nat} {n : Nat} {k : Nat → Nat} (hn : n ≤ 16) (hb : ∀ j, j < n → bytes j = iI (f j)) (hf : ∀ j, j < n → 1 ≤ f j ∧ f j ≤ 127) (hk : ∀ w, w < 4 → MT (tx w) (bt f n) (lnT w) (k w)) (h : ∀ B, B < 4 → (∀ w, w < 4 → k w ≤ k B) → post (iI B)) : VX1_likeliestKind post bytes (iI n) := by
  have key : ∀ (q v B : Nat) (x1 x2 : Int32), v + q = 4 → 1 ≤ v → B < v → x1 = iI B → x2 = iI v → (∀ w, w < v → k w ≤ k B) → VX1_likeliestKind_4 post bytes (iI n) (q + 1) x1 x2 := by
    intro q
    induction q with
    | zero =>
      intro v B x1 x2 hv h1 hB e1 e2 hp
      have : v = 4 := by omega
      subst this e1 e2
      rw [VX1_likeliestKind_4]
      simp (disch := omega) only [iI_lit, lI_lit, iI_nI, iI_add, iI_sub, iI_mul, iI_neg, c_lt_t, c_lt_f, c_le_t, c_le_f, c_eq_t, c_eq_f, c_in_t, iI_clamp, Int.toNat_natCast, forall_eq, true_and, and_true, false_and, and_false, not_true_eq_false, not_false_eq_true, true_implies, false_implies, implies_true, forall_const, true_or, or_true, false_or, or_false, pk_us, vu_s, vL_s, vb_0, vb_1, if_true, if_false, ite_true, ite_false]
      exact h B hB hp
    | succ q ih =>
      intro v B x1 x2 hv h1 hB e1 e2 hp
      subst e1 e2
      have hv4 : v < 4 := by omega
      have hB4 : B < 4 := by omega
      have b1 := lnT_b v hv4
      have b2 := lnT_b B hB4
      have c1 := (hk v hv4).1
      have c2 := (hk B hB4).1
      rw [VX1_likeliestKind_4]
      simp (disch := omega) only [iI_lit, lI_lit, iI_nI, iI_add, iI_sub, iI_mul, iI_neg, c_lt_t, c_lt_f, c_le_t, c_le_f, c_eq_t, c_eq_f, c_in_t, iI_clamp, Int.toNat_natCast, forall_eq, true_and, and_true, false_and, and_false, not_true_eq_false, not_false_eq_true, true_implies, false_implies, implies_true, forall_const, true_or, or_true, false_or, or_false, pk_us, vu_s, vL_s, vb_0, vb_1, if_true, if_false, ite_true, ite_false]
      refine s1_kindText hv4 ?_
      refine s1_matched hv4 hn hb hf (fun k1 hk1 => ?_)
      have e1 := MT_u hk1 (hk v hv4)
      subst e1
      refine s1_kindText hB4 ?_
      refine s1_matched hB4 hn hb hf (fun k2 hk2 => ?_)
      have e2 := MT_u hk2 (hk B hB4)
      subst e2
      by_cases c : k v ≤ k B
      · simp (disch := omega) only [iI_lit, lI_lit, iI_nI, iI_add, iI_sub, iI_mul, iI_neg, c_lt_t, c_lt_f, c_le_t, c_le_f, c_eq_t, c_eq_f, c_in_t, iI_clamp, Int.toNat_natCast, forall_eq, true_and, and_true, false_and, and_false, not_true_eq_false, not_false_eq_true, true_implies, false_implies, implies_true, forall_const, true_or, or_true, false_or, or_false, pk_us, vu_s, vL_s, vb_0, vb_1, if_true, if_false, ite_true, ite_false]
        refine ih (v + 1) B _ _ (by omega) (by omega) (by omega) rfl (congrArg iI (by omega)) (fun w hw => ?_)
        by_cases d : w = v
        · rw [d]
          exact c
        · exact hp w (by omega)
      · simp (disch := omega) only [iI_lit, lI_lit, iI_nI, iI_add, iI_sub, iI_mul, iI_neg, c_lt_t, c_lt_f, c_le_t, c_le_f, c_eq_t, c_eq_f, c_in_t, iI_clamp, Int.toNat_natCast, forall_eq, true_and, and_true, false_and, and_false, not_true_eq_false, not_false_eq_true, true_implies, false_implies, implies_true, forall_const, true_or, or_true, false_or, or_false, pk_us, vu_s, vL_s, vb_0, vb_1, if_true, if_false, ite_true, ite_false]
        refine ih (v + 1) v _ _ (by omega) (by omega) (by omega) rfl (congrArg iI (by omega)) (fun w hw => ?_)
        by_cases d : w = v
        · rw [d]
          exact Nat.le_refl _
        · exact Nat.le_trans (hp w (by omega)) (by omega)
  exact ⟨4, key 3 1 0 _ _ (by omega) (by omega) (by omega) rfl rfl (fun w hw => Nat.le_of_eq (congrArg k (show w = 0 by omega)))⟩
/-- the names of the reference -/
def nmw (w k : Nat) : Nat := if k + 1 < lnT w then tx w k else 0
theorem s11_nameAt {post : Int32 → Prop} {w k : Nat} (hw : w < 4) (hk : k < 1000) (h : post (iI (nmw w k))) : VX11_nameAt post (iI w) (iI k) := by
  obtain rfl | rfl | rfl | rfl : w = 0 ∨ w = 1 ∨ w = 2 ∨ w = 3 := by omega
  · unfold VX11_nameAt
    rw [iI_toInt (by omega) (by omega)]
    by_cases c0 : k = 0
    · subst c0
      rw [show nmw 0 0 = 101 by decide] at h
      simp (disch := omega) only [iI_lit, lI_lit, iI_nI, iI_add, iI_sub, iI_mul, iI_neg, c_lt_t, c_lt_f, c_le_t, c_le_f, c_eq_t, c_eq_f, c_in_t, iI_clamp, Int.toNat_natCast, forall_eq, true_and, and_true, false_and, and_false, not_true_eq_false, not_false_eq_true, true_implies, false_implies, implies_true, forall_const, true_or, or_true, false_or, or_false, pk_us, vu_s, vL_s, vb_0, vb_1, if_true, if_false, ite_true, ite_false]
      first | exact h | (refine ⟨fun c => absurd c (by omega), ?_⟩; exact h) | exact fun _ => h
    · skip
      by_cases c1 : k = 1
      · subst c1
        rw [show nmw 0 1 = 113 by decide] at h
        simp (disch := omega) only [iI_lit, lI_lit, iI_nI, iI_add, iI_sub, iI_mul, iI_neg, c_lt_t, c_lt_f, c_le_t, c_le_f, c_eq_t, c_eq_f, c_in_t, iI_clamp, Int.toNat_natCast, forall_eq, true_and, and_true, false_and, and_false, not_true_eq_false, not_false_eq_true, true_implies, false_implies, implies_true, forall_const, true_or, or_true, false_or, or_false, pk_us, vu_s, vL_s, vb_0, vb_1, if_true, if_false, ite_true, ite_false]
        first | exact h | (refine ⟨fun c => absurd c (by omega), ?_⟩; exact h) | exact fun _ => h
      · skip
        by_cases c2 : k = 2
        · subst c2
          rw [show nmw 0 2 = 117 by decide] at h
          simp (disch := omega) only [iI_lit, lI_lit, iI_nI, iI_add, iI_sub, iI_mul, iI_neg, c_lt_t, c_lt_f, c_le_t, c_le_f, c_eq_t, c_eq_f, c_in_t, iI_clamp, Int.toNat_natCast, forall_eq, true_and, and_true, false_and, and_false, not_true_eq_false, not_false_eq_true, true_implies, false_implies, implies_true, forall_const, true_or, or_true, false_or, or_false, pk_us, vu_s, vL_s, vb_0, vb_1, if_true, if_false, ite_true, ite_false]
          first | exact h | (refine ⟨fun c => absurd c (by omega), ?_⟩; exact h) | exact fun _ => h
        · skip
          by_cases c3 : k = 3
          · subst c3
            rw [show nmw 0 3 = 97 by decide] at h
            simp (disch := omega) only [iI_lit, lI_lit, iI_nI, iI_add, iI_sub, iI_mul, iI_neg, c_lt_t, c_lt_f, c_le_t, c_le_f, c_eq_t, c_eq_f, c_in_t, iI_clamp, Int.toNat_natCast, forall_eq, true_and, and_true, false_and, and_false, not_true_eq_false, not_false_eq_true, true_implies, false_implies, implies_true, forall_const, true_or, or_true, false_or, or_false, pk_us, vu_s, vL_s, vb_0, vb_1, if_true, if_false, ite_true, ite_false]
            first | exact h | (refine ⟨fun c => absurd c (by omega), ?_⟩; exact h) | exact fun _ => h
          · skip
            by_cases c4 : k = 4
            · subst c4
              rw [show nmw 0 4 = 108 by decide] at h
              simp (disch := omega) only [iI_lit, lI_lit, iI_nI, iI_add, iI_sub, iI_mul, iI_neg, c_lt_t, c_lt_f, c_le_t, c_le_f, c_eq_t, c_eq_f, c_in_t, iI_clamp, Int.toNat_natCast, forall_eq, true_and, and_true, false_and, and_false, not_true_eq_false, not_false_eq_true, true_implies, false_implies, implies_true, forall_const, true_or, or_true, false_or, or_false, pk_us, vu_s, vL_s, vb_0, vb_1, if_true, if_false, ite_true, ite_false]
              first | exact h | (refine ⟨fun c => absurd c (by omega), ?_⟩; exact h) | exact fun _ => h
            · skip
              have hz : nmw 0 k = 0 := by
                unfold nmw
                rw [if_neg (by rw [show lnT 0 = 6 by decide]; omega)]
              rw [hz] at h
              simp (disch := omega) only [iI_lit, lI_lit, iI_nI, iI_add, iI_sub, iI_mul, iI_neg, c_lt_t, c_lt_f, c_le_t, c_le_f, c_eq_t, c_eq_f, c_in_t, iI_clamp, Int.toNat_natCast, forall_eq, true_and, and_true, false_and, and_false, not_true_eq_false, not_false_eq_true, true_implies, false_implies, implies_true, forall_const, true_or, or_true, false_or, or_false, pk_us, vu_s, vL_s, vb_0, vb_1, if_true, if_false, ite_true, ite_false]
              first | exact h | (refine ⟨fun c => absurd c (by omega), ?_⟩; exact h) | exact fun _ => h
  · unfold VX11_nameAt
    rw [iI_toInt (by omega) (by omega)]
    by_cases c0 : k = 0
    · subst c0
      rw [show nmw 1 0 = 97 by decide] at h
      simp (disch := omega) only [iI_lit, lI_lit, iI_nI, iI_add, iI_sub, iI_mul, iI_neg, c_lt_t, c_lt_f, c_le_t, c_le_f, c_eq_t, c_eq_f, c_in_t, iI_clamp, Int.toNat_natCast, forall_eq, true_and, and_true, false_and, and_false, not_true_eq_false, not_false_eq_true, true_implies, false_implies, implies_true, forall_const, true_or, or_true, false_or, or_false, pk_us, vu_s, vL_s, vb_0, vb_1, if_true, if_false, ite_true, ite_false]
      first | exact h | (refine ⟨fun c => absurd c (by omega), ?_⟩; exact h) | exact fun _ => h
    · skip
      by_cases c1 : k = 1
      · subst c1
        rw [show nmw 1 1 = 98 by decide] at h
        simp (disch := omega) only [iI_lit, lI_lit, iI_nI, iI_add, iI_sub, iI_mul, iI_neg, c_lt_t, c_lt_f, c_le_t, c_le_f, c_eq_t, c_eq_f, c_in_t, iI_clamp, Int.toNat_natCast, forall_eq, true_and, and_true, false_and, and_false, not_true_eq_false, not_false_eq_true, true_implies, false_implies, implies_true, forall_const, true_or, or_true, false_or, or_false, pk_us, vu_s, vL_s, vb_0, vb_1, if_true, if_false, ite_true, ite_false]
        first | exact h | (refine ⟨fun c => absurd c (by omega), ?_⟩; exact h) | exact fun _ => h
      · skip
        by_cases c2 : k = 2
        · subst c2
          rw [show nmw 1 2 = 101 by decide] at h
          simp (disch := omega) only [iI_lit, lI_lit, iI_nI, iI_add, iI_sub, iI_mul, iI_neg, c_lt_t, c_lt_f, c_le_t, c_le_f, c_eq_t, c_eq_f, c_in_t, iI_clamp, Int.toNat_natCast, forall_eq, true_and, and_true, false_and, and_false, not_true_eq_false, not_false_eq_true, true_implies, false_implies, implies_true, forall_const, true_or, or_true, false_or, or_false, pk_us, vu_s, vL_s, vb_0, vb_1, if_true, if_false, ite_true, ite_false]
          first | exact h | (refine ⟨fun c => absurd c (by omega), ?_⟩; exact h) | exact fun _ => h
        · skip
          by_cases c3 : k = 3
          · subst c3
            rw [show nmw 1 3 = 108 by decide] at h
            simp (disch := omega) only [iI_lit, lI_lit, iI_nI, iI_add, iI_sub, iI_mul, iI_neg, c_lt_t, c_lt_f, c_le_t, c_le_f, c_eq_t, c_eq_f, c_in_t, iI_clamp, Int.toNat_natCast, forall_eq, true_and, and_true, false_and, and_false, not_true_eq_false, not_false_eq_true, true_implies, false_implies, implies_true, forall_const, true_or, or_true, false_or, or_false, pk_us, vu_s, vL_s, vb_0, vb_1, if_true, if_false, ite_true, ite_false]
            first | exact h | (refine ⟨fun c => absurd c (by omega), ?_⟩; exact h) | exact fun _ => h
          · skip
            by_cases c4 : k = 4
            · subst c4
              rw [show nmw 1 4 = 105 by decide] at h
              simp (disch := omega) only [iI_lit, lI_lit, iI_nI, iI_add, iI_sub, iI_mul, iI_neg, c_lt_t, c_lt_f, c_le_t, c_le_f, c_eq_t, c_eq_f, c_in_t, iI_clamp, Int.toNat_natCast, forall_eq, true_and, and_true, false_and, and_false, not_true_eq_false, not_false_eq_true, true_implies, false_implies, implies_true, forall_const, true_or, or_true, false_or, or_false, pk_us, vu_s, vL_s, vb_0, vb_1, if_true, if_false, ite_true, ite_false]
              first | exact h | (refine ⟨fun c => absurd c (by omega), ?_⟩; exact h) | exact fun _ => h
            · skip
              by_cases c5 : k = 5
              · subst c5
                rw [show nmw 1 5 = 97 by decide] at h
                simp (disch := omega) only [iI_lit, lI_lit, iI_nI, iI_add, iI_sub, iI_mul, iI_neg, c_lt_t, c_lt_f, c_le_t, c_le_f, c_eq_t, c_eq_f, c_in_t, iI_clamp, Int.toNat_natCast, forall_eq, true_and, and_true, false_and, and_false, not_true_eq_false, not_false_eq_true, true_implies, false_implies, implies_true, forall_const, true_or, or_true, false_or, or_false, pk_us, vu_s, vL_s, vb_0, vb_1, if_true, if_false, ite_true, ite_false]
                first | exact h | (refine ⟨fun c => absurd c (by omega), ?_⟩; exact h) | exact fun _ => h
              · skip
                by_cases c6 : k = 6
                · subst c6
                  rw [show nmw 1 6 = 110 by decide] at h
                  simp (disch := omega) only [iI_lit, lI_lit, iI_nI, iI_add, iI_sub, iI_mul, iI_neg, c_lt_t, c_lt_f, c_le_t, c_le_f, c_eq_t, c_eq_f, c_in_t, iI_clamp, Int.toNat_natCast, forall_eq, true_and, and_true, false_and, and_false, not_true_eq_false, not_false_eq_true, true_implies, false_implies, implies_true, forall_const, true_or, or_true, false_or, or_false, pk_us, vu_s, vL_s, vb_0, vb_1, if_true, if_false, ite_true, ite_false]
                  first | exact h | (refine ⟨fun c => absurd c (by omega), ?_⟩; exact h) | exact fun _ => h
                · skip
                  have hz : nmw 1 k = 0 := by
                    unfold nmw
                    rw [if_neg (by rw [show lnT 1 = 8 by decide]; omega)]
                  rw [hz] at h
                  simp (disch := omega) only [iI_lit, lI_lit, iI_nI, iI_add, iI_sub, iI_mul, iI_neg, c_lt_t, c_lt_f, c_le_t, c_le_f, c_eq_t, c_eq_f, c_in_t, iI_clamp, Int.toNat_natCast, forall_eq, true_and, and_true, false_and, and_false, not_true_eq_false, not_false_eq_true, true_implies, false_implies, implies_true, forall_const, true_or, or_true, false_or, or_false, pk_us, vu_s, vL_s, vb_0, vb_1, if_true, if_false, ite_true, ite_false]
                  first | exact h | (refine ⟨fun c => absurd c (by omega), ?_⟩; exact h) | exact fun _ => h
  · unfold VX11_nameAt
    rw [iI_toInt (by omega) (by omega)]
    by_cases c0 : k = 0
    · subst c0
      rw [show nmw 2 0 = 97 by decide] at h
      simp (disch := omega) only [iI_lit, lI_lit, iI_nI, iI_add, iI_sub, iI_mul, iI_neg, c_lt_t, c_lt_f, c_le_t, c_le_f, c_eq_t, c_eq_f, c_in_t, iI_clamp, Int.toNat_natCast, forall_eq, true_and, and_true, false_and, and_false, not_true_eq_false, not_false_eq_true, true_implies, false_implies, implies_true, forall_const, true_or, or_true, false_or, or_false, pk_us, vu_s, vL_s, vb_0, vb_1, if_true, if_false, ite_true, ite_false]
      first | exact h | (refine ⟨fun c => absurd c (by omega), ?_⟩; exact h) | exact fun _ => h
    · skip
      by_cases c1 : k = 1
      · subst c1
        rw [show nmw 2 1 = 100 by decide] at h
        simp (disch := omega) only [iI_lit, lI_lit, iI_nI, iI_add, iI_sub, iI_mul, iI_neg, c_lt_t, c_lt_f, c_le_t, c_le_f, c_eq_t, c_eq_f, c_in_t, iI_clamp, Int.toNat_natCast, forall_eq, true_and, and_true, false_and, and_false, not_true_eq_false, not_false_eq_true, true_implies, false_implies, implies_true, forall_const, true_or, or_true, false_or, or_false, pk_us, vu_s, vL_s, vb_0, vb_1, if_true, if_false, ite_true, ite_false]
        first | exact h | (refine ⟨fun c => absurd c (by omega), ?_⟩; exact h) | exact fun _ => h
      · skip
        by_cases c2 : k = 2
        · subst c2
          rw [show nmw 2 2 = 100 by decide] at h
          simp (disch := omega) only [iI_lit, lI_lit, iI_nI, iI_add, iI_sub, iI_mul, iI_neg, c_lt_t, c_lt_f, c_le_t, c_le_f, c_eq_t, c_eq_f, c_in_t, iI_clamp, Int.toNat_natCast, forall_eq, true_and, and_true, false_and, and_false, not_true_eq_false, not_false_eq_true, true_implies, false_implies, implies_true, forall_const, true_or, or_true, false_or, or_false, pk_us, vu_s, vL_s, vb_0, vb_1, if_true, if_false, ite_true, ite_false]
          first | exact h | (refine ⟨fun c => absurd c (by omega), ?_⟩; exact h) | exact fun _ => h
        · skip
          by_cases c3 : k = 3
          · subst c3
            rw [show nmw 2 3 = 105 by decide] at h
            simp (disch := omega) only [iI_lit, lI_lit, iI_nI, iI_add, iI_sub, iI_mul, iI_neg, c_lt_t, c_lt_f, c_le_t, c_le_f, c_eq_t, c_eq_f, c_in_t, iI_clamp, Int.toNat_natCast, forall_eq, true_and, and_true, false_and, and_false, not_true_eq_false, not_false_eq_true, true_implies, false_implies, implies_true, forall_const, true_or, or_true, false_or, or_false, pk_us, vu_s, vL_s, vb_0, vb_1, if_true, if_false, ite_true, ite_false]
            first | exact h | (refine ⟨fun c => absurd c (by omega), ?_⟩; exact h) | exact fun _ => h
          · skip
            by_cases c4 : k = 4
            · subst c4
              rw [show nmw 2 4 = 116 by decide] at h
              simp (disch := omega) only [iI_lit, lI_lit, iI_nI, iI_add, iI_sub, iI_mul, iI_neg, c_lt_t, c_lt_f, c_le_t, c_le_f, c_eq_t, c_eq_f, c_in_t, iI_clamp, Int.toNat_natCast, forall_eq, true_and, and_true, false_and, and_false, not_true_eq_false, not_false_eq_true, true_implies, false_implies, implies_true, forall_const, true_or, or_true, false_or, or_false, pk_us, vu_s, vL_s, vb_0, vb_1, if_true, if_false, ite_true, ite_false]
              first | exact h | (refine ⟨fun c => absurd c (by omega), ?_⟩; exact h) | exact fun _ => h
            · skip
              by_cases c5 : k = 5
              · subst c5
                rw [show nmw 2 5 = 105 by decide] at h
                simp (disch := omega) only [iI_lit, lI_lit, iI_nI, iI_add, iI_sub, iI_mul, iI_neg, c_lt_t, c_lt_f, c_le_t, c_le_f, c_eq_t, c_eq_f, c_in_t, iI_clamp, Int.toNat_natCast, forall_eq, true_and, and_true, false_and, and_false, not_true_eq_false, not_false_eq_true, true_implies, false_implies, implies_true, forall_const, true_or, or_true, false_or, or_false, pk_us, vu_s, vL_s, vb_0, vb_1, if_true, if_false, ite_true, ite_false]
                first | exact h | (refine ⟨fun c => absurd c (by omega), ?_⟩; exact h) | exact fun _ => h
              · skip
                by_cases c6 : k = 6
                · subst c6
                  rw [show nmw 2 6 = 118 by decide] at h
                  simp (disch := omega) only [iI_lit, lI_lit, iI_nI, iI_add, iI_sub, iI_mul, iI_neg, c_lt_t, c_lt_f, c_le_t, c_le_f, c_eq_t, c_eq_f, c_in_t, iI_clamp, Int.toNat_natCast, forall_eq, true_and, and_true, false_and, and_false, not_true_eq_false, not_false_eq_true, true_implies, false_implies, implies_true, forall_const, true_or, or_true, false_or, or_false, pk_us, vu_s, vL_s, vb_0, vb_1, if_true, if_false, ite_true, ite_false]
                  first | exact h | (refine ⟨fun c => absurd c (by omega), ?_⟩; exact h) | exact fun _ => h
                · skip
                  by_cases c7 : k = 7
                  · subst c7
                    rw [show nmw 2 7 = 101 by decide] at h
                    simp (disch := omega) only [iI_lit, lI_lit, iI_nI, iI_add, iI_sub, iI_mul, iI_neg, c_lt_t, c_lt_f, c_le_t, c_le_f, c_eq_t, c_eq_f, c_in_t, iI_clamp, Int.toNat_natCast, forall_eq, true_and, and_true, false_and, and_false, not_true_eq_false, not_false_eq_true, true_implies, false_implies, implies_true, forall_const, true_or, or_true, false_or, or_false, pk_us, vu_s, vL_s, vb_0, vb_1, if_true, if_false, ite_true, ite_false]
                    first | exact h | (refine ⟨fun c => absurd c (by omega), ?_⟩; exact h) | exact fun _ => h
                  · skip
                    have hz : nmw 2 k = 0 := by
                      unfold nmw
                      rw [if_neg (by rw [show lnT 2 = 9 by decide]; omega)]
                    rw [hz] at h
                    simp (disch := omega) only [iI_lit, lI_lit, iI_nI, iI_add, iI_sub, iI_mul, iI_neg, c_lt_t, c_lt_f, c_le_t, c_le_f, c_eq_t, c_eq_f, c_in_t, iI_clamp, Int.toNat_natCast, forall_eq, true_and, and_true, false_and, and_false, not_true_eq_false, not_false_eq_true, true_implies, false_implies, implies_true, forall_const, true_or, or_true, false_or, or_false, pk_us, vu_s, vL_s, vb_0, vb_1, if_true, if_false, ite_true, ite_false]
                    first | exact h | (refine ⟨fun c => absurd c (by omega), ?_⟩; exact h) | exact fun _ => h
  · unfold VX11_nameAt
    rw [iI_toInt (by omega) (by omega)]
    by_cases c0 : k = 0
    · subst c0
      rw [show nmw 3 0 = 109 by decide] at h
      simp (disch := omega) only [iI_lit, lI_lit, iI_nI, iI_add, iI_sub, iI_mul, iI_neg, c_lt_t, c_lt_f, c_le_t, c_le_f, c_eq_t, c_eq_f, c_in_t, iI_clamp, Int.toNat_natCast, forall_eq, true_and, and_true, false_and, and_false, not_true_eq_false, not_false_eq_true, true_implies, false_implies, implies_true, forall_const, true_or, or_true, false_or, or_false, pk_us, vu_s, vL_s, vb_0, vb_1, if_true, if_false, ite_true, ite_false]
      first | exact h | (refine ⟨fun c => absurd c (by omega), ?_⟩; exact h) | exact fun _ => h
    · skip
      by_cases c1 : k = 1
      · subst c1
        rw [show nmw 3 1 = 105 by decide] at h
        simp (disch := omega) only [iI_lit, lI_lit, iI_nI, iI_add, iI_sub, iI_mul, iI_neg, c_lt_t, c_lt_f, c_le_t, c_le_f, c_eq_t, c_eq_f, c_in_t, iI_clamp, Int.toNat_natCast, forall_eq, true_and, and_true, false_and, and_false, not_true_eq_false, not_false_eq_true, true_implies, false_implies, implies_true, forall_const, true_or, or_true, false_or, or_false, pk_us, vu_s, vL_s, vb_0, vb_1, if_true, if_false, ite_true, ite_false]
        first | exact h | (refine ⟨fun c => absurd c (by omega), ?_⟩; exact h) | exact fun _ => h
      · skip
        by_cases c2 : k = 2
        · subst c2
          rw [show nmw 3 2 = 120 by decide] at h
          simp (disch := omega) only [iI_lit, lI_lit, iI_nI, iI_add, iI_sub, iI_mul, iI_neg, c_lt_t, c_lt_f, c_le_t, c_le_f, c_eq_t, c_eq_f, c_in_t, iI_clamp, Int.toNat_natCast, forall_eq, true_and, and_true, false_and, and_false, not_true_eq_false, not_false_eq_true, true_implies, false_implies, implies_true, forall_const, true_or, or_true, false_or, or_false, pk_us, vu_s, vL_s, vb_0, vb_1, if_true, if_false, ite_true, ite_false]
          first | exact h | (refine ⟨fun c => absurd c (by omega), ?_⟩; exact h) | exact fun _ => h
        · skip
          by_cases c3 : k = 3
          · subst c3
            rw [show nmw 3 3 = 101 by decide] at h
            simp (disch := omega) only [iI_lit, lI_lit, iI_nI, iI_add, iI_sub, iI_mul, iI_neg, c_lt_t, c_lt_f, c_le_t, c_le_f, c_eq_t, c_eq_f, c_in_t, iI_clamp, Int.toNat_natCast, forall_eq, true_and, and_true, false_and, and_false, not_true_eq_false, not_false_eq_true, true_implies, false_implies, implies_true, forall_const, true_or, or_true, false_or, or_false, pk_us, vu_s, vL_s, vb_0, vb_1, if_true, if_false, ite_true, ite_false]
            first | exact h | (refine ⟨fun c => absurd c (by omega), ?_⟩; exact h) | exact fun _ => h
          · skip
            by_cases c4 : k = 4
            · subst c4
              rw [show nmw 3 4 = 100 by decide] at h
              simp (disch := omega) only [iI_lit, lI_lit, iI_nI, iI_add, iI_sub, iI_mul, iI_neg, c_lt_t, c_lt_f, c_le_t, c_le_f, c_eq_t, c_eq_f, c_in_t, iI_clamp, Int.toNat_natCast, forall_eq, true_and, and_true, false_and, and_false, not_true_eq_false, not_false_eq_true, true_implies, false_implies, implies_true, forall_const, true_or, or_true, false_or, or_false, pk_us, vu_s, vL_s, vb_0, vb_1, if_true, if_false, ite_true, ite_false]
              first | exact h | (refine ⟨fun c => absurd c (by omega), ?_⟩; exact h) | exact fun _ => h
            · skip
              have hz : nmw 3 k = 0 := by
                unfold nmw
                rw [if_neg (by rw [show lnT 3 = 6 by decide]; omega)]
              rw [hz] at h
              simp (disch := omega) only [iI_lit, lI_lit, iI_nI, iI_add, iI_sub, iI_mul, iI_neg, c_lt_t, c_lt_f, c_le_t, c_le_f, c_eq_t, c_eq_f, c_in_t, iI_clamp, Int.toNat_natCast, forall_eq, true_and, and_true, false_and, and_false, not_true_eq_false, not_false_eq_true, true_implies, false_implies, implies_true, forall_const, true_or, or_true, false_or, or_false, pk_us, vu_s, vL_s, vb_0, vb_1, if_true, if_false, ite_true, ite_false]
              first | exact h | (refine ⟨fun c => absurd c (by omega), ?_⟩; exact h) | exact fun _ => h
