theorem s5_copyFrom {post : Int32 → Int32 → Int32 → (Nat → Int32) → (Nat → Nat → Int32) → (Nat → Int32) → (Nat → Nat → Int32) → (Nat → Int32) → Prop} {k e l k0 e0 l0 : Int32} {v v0 : Nat → Int32} {wL wL0 iL iL0 : Nat → Nat → Int32} {wS wS0 iS iS0 : Nat → Int32} {wl il : Nat → Nat}
    (hw : ∀ i, i < 3 → wl i ≤ 40 ∧ wS i = iI (wl i)) (hi : ∀ x, x < 4 → il x ≤ 4 ∧ iS x = iI (il x))
    (h : ∀ v' wL' wS' iL' iS', (∀ x, x < 4 → v' x = v x) → (∀ i, i < 3 → wS' i = iI (wl i) ∧ ∀ j, j < wl i → wL' i j = wL i j) → (∀ x, x < 4 → iS' x = iI (il x) ∧ ∀ j, j < il x → iL' x j = iL x j) → post k e l v' wL' wS' iL' iS') :
    VX5_copyFrom post k e l v wL wS iL iS k0 e0 l0 v0 wL0 wS0 iL0 iS0 := by
  have key2 : ∀ (q m : Nat) (v' : Nat → Int32) (wL' : Nat → Nat → Int32) (wS' : Nat → Int32) (iL' : Nat → Nat → Int32) (iS' : Nat → Int32) (x : Int32), m + q = 4 → x = iI m → (∀ i, i < 3 → wS' i = iI (wl i) ∧ ∀ j, j < wl i → wL' i j = wL i j) → (∀ x, x < m → v' x = v x) → (∀ x, x < m → iS' x = iI (il x) ∧ ∀ j, j < il x → iL' x j = iL x j) → VX5_copyFrom_54 post k e l v wL wS iL iS (q + 1) k e l v' wL' wS' iL' iS' x := by
    intro q
    induction q with
    | zero =>
      intro m v' wL' wS' iL' iS' x hm ex h1 h2 h3
      have : m = 4 := by omega
      subst this
      subst ex
      simp (disch := omega) only [VX5_copyFrom_54, iI_lit, lI_lit, iI_nI, iI_add, iI_sub, iI_mul, iI_neg, c_lt_t, c_lt_f, c_le_t, c_le_f, c_eq_t, c_eq_f, c_in_t, iI_clamp, Int.toNat_natCast, forall_eq, true_and, and_true, false_and, and_false, not_true_eq_false, not_false_eq_true, true_implies, false_implies, implies_true, forall_const, true_or, or_true, false_or, or_false, pk_us, vu_s, vL_s, vb_0, vb_1, if_true, if_false, ite_true, ite_false]
      exact h _ _ _ _ _ h2 h1 h3
    | succ q ih =>
      intro m v' wL' wS' iL' iS' x hm ex h1 h2 h3
      subst ex
      obtain ⟨a1, a2⟩ := hi m (by omega)
      rw [VX5_copyFrom_54]
      simp (disch := omega) only [a2, iI_lit, lI_lit, iI_nI, iI_add, iI_sub, iI_mul, iI_neg, c_lt_t, c_lt_f, c_le_t, c_le_f, c_eq_t, c_eq_f, c_in_t, iI_clamp, Int.toNat_natCast, forall_eq, true_and, and_true, false_and, and_false, not_true_eq_false, not_false_eq_true, true_implies, false_implies, implies_true, forall_const, true_or, or_true, false_or, or_false, pk_us, vu_s, vL_s, vb_0, vb_1, if_true, if_false, ite_true, ite_false]
      refine s9_copyFrom (by omega) (by omega) (by omega) (by omega) (fun u hu => ?_)
      refine ih (m + 1) _ _ _ _ _ _ (by omega) (congrArg iI (by omega)) h1 (fun y hy => ?_) (fun y hy => ?_)
      · by_cases f : y = m
        · subst f
          rw [pk_us]
        · rw [pk_un f]
          exact h2 y (by omega)
      · by_cases f : y = m
        · subst f
          rw [vu_s, vu_s]
          exact ⟨rfl, hu⟩
        · rw [vu_n f, vu_n f]
          exact h3 y (by omega)
  have key1 : ∀ (q m : Nat) (wL' : Nat → Nat → Int32) (wS' : Nat → Int32) (x : Int32), m + q = 3 → x = iI m → (∀ i, i < m → wS' i = iI (wl i) ∧ ∀ j, j < wl i → wL' i j = wL i j) → VX5_copyFrom_26 post k e l v wL wS iL iS (q + 1) k e l v0 wL' wS' iL0 iS0 x := by
    intro q
    induction q with
    | zero =>
      intro m wL' wS' x hm ex h1
      have : m = 3 := by omega
      subst this
      subst ex
      simp (disch := omega) only [VX5_copyFrom_26, iI_lit, lI_lit, iI_nI, iI_add, iI_sub, iI_mul, iI_neg, c_lt_t, c_lt_f, c_le_t, c_le_f, c_eq_t, c_eq_f, c_in_t, iI_clamp, Int.toNat_natCast, forall_eq, true_and, and_true, false_and, and_false, not_true_eq_false, not_false_eq_true, true_implies, false_implies, implies_true, forall_const, true_or, or_true, false_or, or_false, pk_us, vu_s, vL_s, vb_0, vb_1, if_true, if_false, ite_true, ite_false]
      exact ⟨5, key2 4 0 _ _ _ _ _ _ (by omega) rfl h1 (fun j hj => absurd hj (Nat.not_lt_zero j)) (fun j hj => absurd hj (Nat.not_lt_zero j))⟩
    | succ q ih =>
      intro m wL' wS' x hm ex h1
      subst ex
      obtain ⟨a1, a2⟩ := hw m (by omega)
      rw [VX5_copyFrom_26]
      simp (disch := omega) only [a2, iI_lit, lI_lit, iI_nI, iI_add, iI_sub, iI_mul, iI_neg, c_lt_t, c_lt_f, c_le_t, c_le_f, c_eq_t, c_eq_f, c_in_t, iI_clamp, Int.toNat_natCast, forall_eq, true_and, and_true, false_and, and_false, not_true_eq_false, not_false_eq_true, true_implies, false_implies, implies_true, forall_const, true_or, or_true, false_or, or_false, pk_us, vu_s, vL_s, vb_0, vb_1, if_true, if_false, ite_true, ite_false]
      refine s9_copyFrom (by omega) (by omega) (by omega) (by omega) (fun u hu => ?_)
      refine ih (m + 1) _ _ _ (by omega) (congrArg iI (by omega)) (fun y hy => ?_)
      by_cases f : y = m
      · subst f
        rw [vu_s, vu_s]
        exact ⟨rfl, hu⟩
      · rw [vu_n f, vu_n f]
        exact h1 y (by omega)
  exact ⟨4, key1 3 0 _ _ _ (by omega) rfl (fun j hj => absurd hj (Nat.not_lt_zero j))⟩
theorem s11_save {post : Int32 → Int32 → Int32 → Int32 → Int32 → (Nat → Int32) → (Nat → Int32) → (Nat → Int32) → (Nat → Int32) → (Nat → Int32) → Prop} {k e l : Int32} {v w ln im sz v0 w0 ln0 im0 sz0 : Nat → Int32} {a b c d : Int32} {wl : Nat → Nat} (hw : ∀ i, i < 3 → wl i ≤ 40 ∧ ln i = iI (wl i))
    (h : ∀ v' w' ln' im' sz', (∀ x, x < 4 → v' x = v x) → (∀ x, x < 120 → w' x = w x) → (∀ x, x < 3 → ln' x = ln x) → (∀ x, x < 16 → im' x = im x) → (∀ x, x < 4 → sz' x = sz x) → post (iI ((wl 0 + wl 1 + wl 2 : Nat) : Int)) 1 k e l v' w' ln' im' sz') :
    VX11_saveSnapshot post k e l v w ln im sz a b c d v0 w0 ln0 im0 sz0 := by
  have key : ∀ (q m : Nat) (v' w' ln' im' sz' : Nat → Int32) (x : Int32), m + q = 120 → x = iI m → (∀ x, x < 4 → x < m → v' x = v x) → (∀ x, x < m → w' x = w x) → (∀ x, x < 3 → x < m → ln' x = ln x) → (∀ x, x < 16 → x < m → im' x = im x) → (∀ x, x < 4 → x < m → sz' x = sz x) → VX11_saveSnapshot_31 post k e l v w ln im sz (q + 1) 1 k e l v' w' ln' im' sz' x := by
    intro q
    induction q with
    | zero =>
      intro m v' w' ln' im' sz' x hm ex h1 h2 h3 h4 h5
      have : m = 120 := by omega
      subst this
      subst ex
      rw [VX11_saveSnapshot_31]
      refine ⟨fun _ => s11_letters hw (h _ _ _ _ _ (fun x hx => h1 x hx (by omega)) (fun x hx => h2 x hx) (fun x hx => h3 x hx (by omega)) (fun x hx => h4 x hx (by omega)) (fun x hx => h5 x hx (by omega))), fun c => absurd ?_ c⟩
      rw [iI_lit, iI_le (by omega) (by omega) (by omega) (by omega)]
      omega
    | succ q ih =>
      intro m v' w' ln' im' sz' x hm ex h1 h2 h3 h4 h5
      subst ex
      rw [VX11_saveSnapshot_31]
      refine ⟨fun c => absurd c ?_, fun _ => ?_⟩
      · rw [iI_lit, iI_le (by omega) (by omega) (by omega) (by omega)]
        omega
      · simp (disch := omega) only [r_3, r_4, r_16, iI_lit, lI_lit, iI_nI, iI_add, iI_sub, iI_mul, iI_neg, c_lt_t, c_lt_f, c_le_t, c_le_f, c_eq_t, c_eq_f, c_in_t, iI_clamp, Int.toNat_natCast, forall_eq, true_and, and_true, false_and, and_false, not_true_eq_false, not_false_eq_true, true_implies, false_implies, implies_true, forall_const, true_or, or_true, false_or, or_false, pk_us, vu_s, vL_s, vb_0, vb_1, if_true, if_false, ite_true, ite_false]
        refine ih (m + 1) _ _ _ _ _ _ (by omega) (congrArg iI (by omega)) (fun x hx hx2 => ?_) (fun x hx => ?_) (fun x hx hx2 => ?_) (fun x hx hx2 => ?_) (fun x hx hx2 => ?_)
        · by_cases f : x = m % 4
          · rw [f, pk_us]
          · rw [pk_un f]
            exact h1 x hx (by omega)
        · by_cases f : x = m
          · rw [f, pk_us]
          · rw [pk_un f]
            exact h2 x (by omega)
        · by_cases f : x = m % 3
          · rw [f, pk_us]
          · rw [pk_un f]
            exact h3 x hx (by omega)
        · by_cases f : x = m % 16
          · rw [f, pk_us]
          · rw [pk_un f]
            exact h4 x hx (by omega)
        · by_cases f : x = m % 4
          · rw [f, pk_us]
          · rw [pk_un f]
            exact h5 x hx (by omega)
  exact ⟨121, key 120 0 _ _ _ _ _ _ (by omega) rfl (fun x _ hx => absurd hx (Nat.not_lt_zero x)) (fun x hx => absurd hx (Nat.not_lt_zero x)) (fun x _ hx => absurd hx (Nat.not_lt_zero x)) (fun x _ hx => absurd hx (Nat.not_lt_zero x)) (fun x _ hx => absurd hx (Nat.not_lt_zero x))⟩
theorem s11_restore {post : Int32 → Int32 → Int32 → Int32 → (Nat → Int32) → (Nat → Int32) → (Nat → Int32) → (Nat → Int32) → (Nat → Int32) → Prop} {k e l : Int32} {v w ln im sz v0 w0 ln0 im0 sz0 : Nat → Int32} {b c d : Int32} {wl : Nat → Nat} (hw : ∀ i, i < 3 → wl i ≤ 40 ∧ ln i = iI (wl i))
    (h : ∀ v' w' ln' im' sz', (∀ x, x < 4 → v' x = v x) → (∀ x, x < 120 → w' x = w x) → (∀ x, x < 3 → ln' x = ln x) → (∀ x, x < 16 → im' x = im x) → (∀ x, x < 4 → sz' x = sz x) → post (iI ((wl 0 + wl 1 + wl 2 : Nat) : Int)) k e l v' w' ln' im' sz') :
    VX11_restoreSnapshot post (iI 1) k e l v w ln im sz b c d v0 w0 ln0 im0 sz0 := by
  have key : ∀ (q m : Nat) (v' w' ln' im' sz' : Nat → Int32) (x : Int32), m + q = 120 → x = iI m → (∀ x, x < 4 → x < m → v' x = v x) → (∀ x, x < m → w' x = w x) → (∀ x, x < 3 → x < m → ln' x = ln x) → (∀ x, x < 16 → x < m → im' x = im x) → (∀ x, x < 4 → x < m → sz' x = sz x) → VX11_restoreSnapshot_36 post (iI 1) k e l v w ln im sz (q + 1) k e l v' w' ln' im' sz' x := by
    intro q
    induction q with
    | zero =>
      intro m v' w' ln' im' sz' x hm ex h1 h2 h3 h4 h5
      have : m = 120 := by omega
      subst this
      subst ex
      rw [VX11_restoreSnapshot_36]
      refine ⟨fun _ => s11_letters (fun i hi => ⟨(hw i hi).1, (h3 i hi (by omega)).trans (hw i hi).2⟩) (h _ _ _ _ _ (fun x hx => h1 x hx (by omega)) (fun x hx => h2 x hx) (fun x hx => h3 x hx (by omega)) (fun x hx => h4 x hx (by omega)) (fun x hx => h5 x hx (by omega))), fun c => absurd ?_ c⟩
      rw [iI_lit, iI_le (by omega) (by omega) (by omega) (by omega)]
      omega
    | succ q ih =>
      intro m v' w' ln' im' sz' x hm ex h1 h2 h3 h4 h5
      subst ex
      rw [VX11_restoreSnapshot_36]
      refine ⟨fun c => absurd c ?_, fun _ => ?_⟩
      · rw [iI_lit, iI_le (by omega) (by omega) (by omega) (by omega)]
        omega
      · simp (disch := omega) only [r_3, r_4, r_16, iI_lit, lI_lit, iI_nI, iI_add, iI_sub, iI_mul, iI_neg, c_lt_t, c_lt_f, c_le_t, c_le_f, c_eq_t, c_eq_f, c_in_t, iI_clamp, Int.toNat_natCast, forall_eq, true_and, and_true, false_and, and_false, not_true_eq_false, not_false_eq_true, true_implies, false_implies, implies_true, forall_const, true_or, or_true, false_or, or_false, pk_us, vu_s, vL_s, vb_0, vb_1, if_true, if_false, ite_true, ite_false]
        refine ih (m + 1) _ _ _ _ _ _ (by omega) (congrArg iI (by omega)) (fun x hx hx2 => ?_) (fun x hx => ?_) (fun x hx hx2 => ?_) (fun x hx hx2 => ?_) (fun x hx hx2 => ?_)
        · by_cases f : x = m % 4
          · rw [f, pk_us]
          · rw [pk_un f]
            exact h1 x hx (by omega)
        · by_cases f : x = m
          · rw [f, pk_us]
          · rw [pk_un f]
            exact h2 x (by omega)
        · by_cases f : x = m % 3
          · rw [f, pk_us]
          · rw [pk_un f]
            exact h3 x hx (by omega)
        · by_cases f : x = m % 16
          · rw [f, pk_us]
          · rw [pk_un f]
            exact h4 x hx (by omega)
        · by_cases f : x = m % 4
          · rw [f, pk_us]
          · rw [pk_un f]
            exact h5 x hx (by omega)
  have hne : ¬ iI 1 = (0 : Int32) := by decide
  exact ⟨fun _ => ⟨121, key 120 0 _ _ _ _ _ _ (by omega) rfl (fun x _ hx => absurd hx (Nat.not_lt_zero x)) (fun x hx => absurd hx (Nat.not_lt_zero x)) (fun x _ hx => absurd hx (Nat.not_lt_zero x)) (fun x _ hx => absurd hx (Nat.not_lt_zero x)) (fun x _ hx => absurd hx (Nat.not_lt_zero x))⟩, fun c => absurd c hne⟩
def RS (k e l : Int32) (cv : Nat → Int32) (wL : Nat → Nat → Int32) (wS : Nat → Int32) (iL : Nat → Nat → Int32) (iS : Nat → Int32) (mk me ml : Int32) (mv words lengths images sizes : Nat → Int32) : Prop :=
  ∃ K E N : Nat, K < 4 ∧ (2 ≤ E ∧ E ≤ 4) ∧ (2 ≤ N ∧ N ≤ 4) ∧ k = iI K ∧ e = iI E ∧ l = iI N ∧ mk = iI K ∧ me = iI E ∧ ml = iI N ∧ EV cv mv ∧ EW N wL wS words lengths ∧ EI N iL iS images sizes
/-- what a copy of both sides keeps -/
theorem RS_copy {k e l mk me ml : Int32} {cv mv words lengths images sizes cv' mv' words' lengths' images' sizes' wS iS wS' iS' : Nat → Int32} {wL iL wL' iL' : Nat → Nat → Int32} {wl il : Nat → Nat} {N : Nat} {w im : Nat → Nat → Nat} {V : Nat → Int}
    (hV : RVal V cv mv) (hW : RWd N wl w wL wS words lengths) (hI : RIm N il im iL iS images sizes)
    (h1 : ∀ x, x < 4 → cv' x = cv x) (h2 : ∀ i, i < 3 → wS' i = iI (wl i) ∧ ∀ j, j < wl i → wL' i j = wL i j) (h3 : ∀ x, x < 4 → iS' x = iI (il x) ∧ ∀ j, j < il x → iL' x j = iL x j)
    (g1 : ∀ x, x < 4 → mv' x = mv x) (g2 : ∀ x, x < 120 → words' x = words x) (g3 : ∀ x, x < 3 → lengths' x = lengths x) (g4 : ∀ x, x < 16 → images' x = images x) (g5 : ∀ x, x < 4 → sizes' x = sizes x) : EV cv' mv' ∧ EW N wL' wS' words' lengths' ∧ EI N iL' iS' images' sizes' := by
  refine ⟨⟨V, fun x hx => ?_⟩, ⟨wl, w, fun i hi => ?_⟩, ⟨il, im, fun x hx => ?_⟩⟩
  · rw [h1 x hx, g1 x hx]
    exact hV x hx
  · obtain ⟨a1, a2, a3, a4⟩ := hW i hi
    refine ⟨a1, (h2 i hi).1, by rw [g3 i hi]; exact a3, fun j hj => ?_⟩
    rw [(h2 i hi).2 j hj, g2 _ (by omega)]
    exact a4 j hj
  · obtain ⟨a1, a2, a3, a4⟩ := hI x hx
    refine ⟨a1, (h3 x hx).1, by rw [g5 x hx]; exact a3, fun j hj => ?_⟩
    rw [(h3 x hx).2 j hj, g4 _ (by omega)]
    exact a4 j hj
