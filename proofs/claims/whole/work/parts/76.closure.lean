/-! THE REFERENCE: the closure -/
theorem s11_firstOpen {post : Int32 → Prop} {isDone : TA} {n : Nat} {g : Nat → Bool} (hn : n ≤ 200) (hd : ∀ i, i < n → isDone i = iI (if g i = true then 1 else 0)) (h1 : ∀ o, o < n → g o = false → post (iI ((o : Nat) : Int))) (h0 : (∀ i, i < n → g i = true) → post (iI (-2))) : VX11_firstOpen post (iI n) isDone := by
  have loop : ∀ (q m : Nat) (x1 : Int32), m + q = n → x1 = iI m → (∀ i, i < m → g i = true) → VX11_firstOpen_2 post (iI n) isDone (q + 1) x1 := by
    intro q
    induction q with
    | zero =>
      intro m x1 hm e1 hp
      have : m = n := by omega
      subst this e1
      rw [VX11_firstOpen_2]
      exact ⟨fun _ => h0 hp, fun q => absurd ((iI_le (by omega) (by omega) (by omega) (by omega)).mpr (by omega)) q⟩
    | succ q ih =>
      intro m x1 hm e1 hp
      subst e1
      rw [VX11_firstOpen_2]
      refine ⟨fun q => absurd ((iI_le (by omega) (by omega) (by omega) (by omega)).mp q) (by omega), fun _ => ⟨(iI_in (by omega) (by omega)).mpr ⟨by omega, by omega⟩, ?_⟩⟩
      rw [iI_clamp (by omega) (by omega), Int.toNat_natCast, hd m (by omega)]
      cases c : g m with
      | false => exact ⟨fun q => absurd rfl q, fun _ => h1 m (by omega) c⟩
      | true =>
        refine ⟨fun _ => ih (m + 1) _ (by omega) ?_ (fun i hi => ?_), fun q => absurd q n10⟩
        · rw [show (1 : Int32) = iI 1 from rfl, iI_add]
          exact congrArg iI (by omega)
        · by_cases e : i = m
          · rw [e]
            exact c
          · exact hp i (by omega)
  exact ⟨n + 1, loop n 0 _ (by omega) rfl (fun i hi => absurd hi (Nat.not_lt_zero i))⟩
section
variable {N : Nat} {il : Nat → Nat} {im : Nat → Nat → Nat} {images sizes : TA}
theorem s11_closure {post : Int32 → TA → Int32 → TA → Int32 → Int32 → TA → TA → TA → TA → TA → Int32 → Prop} {kept found0 made0 cut0 wan0 don0 chi0 : TA} {keptMany keptLetters : Int32} (hN : 2 ≤ N ∧ N ≤ 4) (hI : ∀ j, j < 4 → il j ≤ 4 ∧ sizes j = iI (il j) ∧ ∀ t, t < il j → im j t < 4 ∧ images (4 * j + t) = iI (im j t)) (hdt : dtm (mM il im) N ≠ 0)
    (hB : Big N il im → ∀ a1 a2 a3 a4 a5 a6 a7 a8, post (iI (-4)) a1 a2 kept keptMany keptLetters a3 a4 a5 a6 a7 a8)
    (hF : ∀ n rk k', Fin0 N il im n rk → FCe N n rk k' → ∀ a1 a2 a3 a4 a5 a6 a7 a8, post (iI ((n : Nat) : Int)) a1 a2 k' (iI ((n : Nat) : Int)) (iI N) a3 a4 a5 a6 a7 a8) :
    ∃ q, VX11_computeClosure_38 post (iI N) images sizes q found0 0 kept keptMany keptLetters made0 cut0 wan0 don0 chi0 0 (lI (dtm (mM il im) N)) 0 := by
  have L149 : ∀ (n : Nat) (rk : Nat → Nat) (f m c w d ch : TA) (fl : Int32), Fin0 N il im n rk → FCe N n rk f → VX11_computeClosure_149 post (iI N) images sizes f (iI n) kept keptMany keptLetters m c w d ch fl := by
    intro n rk f m c w d ch fl hf hc
    have hn := hf.1
    have e7 : (7 : Int32) * iI (n : Int) = iI ((7 * n : Nat) : Int) := by
      rw [show (7 : Int32) = iI 7 from rfl, iI_mul]
      exact congrArg iI (by omega)
    have loop : ∀ (q x : Nat) (k' : TA) (x4 : Int32), x + q = 7 * n → x4 = iI x → (∀ i, i < x → k' i = f i) → VX11_computeClosure_168 post (iI N) images sizes (q + 1) f (iI n) k' (iI n) (iI N) m c w d ch fl x4 := by
      intro q
      induction q with
      | zero =>
        intro x k' x4 hx e4 h1
        subst e4
        rw [VX11_computeClosure_168, e7]
        refine ⟨fun _ => ?_, fun q => absurd ((iI_le (by omega) (by omega) (by omega) (by omega)).mpr (by omega)) q⟩
        exact hF n rk k' hf (fun i hi k hk => by rw [h1 _ (by omega)]; exact hc i hi k hk) _ _ _ _ _ _ _ _
      | succ q ih =>
        intro x k' x4 hx e4 h1
        subst e4
        rw [VX11_computeClosure_168, e7]
        refine ⟨fun q => absurd ((iI_le (by omega) (by omega) (by omega) (by omega)).mp q) (by omega), fun _ => ⟨(iI_in (by omega) (by omega)).mpr ⟨by omega, by omega⟩, (iI_in (by omega) (by omega)).mpr ⟨by omega, by omega⟩, ?_⟩⟩
        rw [iI_clamp (by omega) (by omega), Int.toNat_natCast]
        refine ih (x + 1) _ _ (by omega) ?_ (fun i hi => ?_)
        · rw [show (1 : Int32) = iI 1 from rfl, iI_add]
          exact congrArg iI (by omega)
        · by_cases e : i = x
          · rw [e, pk_us]
          · rw [pk_un e]
            exact h1 i (by omega)
    exact ⟨7 * n + 1, loop (7 * n) 0 kept _ (by omega) rfl (fun i hi => absurd hi (Nat.not_lt_zero i))⟩
  have L78 : ∀ (r t n : Nat) (rk : Nat → Nat) (D : Nat → Bool) (f m c w d ch : TA) (x3 : Int32), t + r = 200 → n ≤ 200 → RST N il im n rk D t f d → (∃ i, i < n ∧ rk i = kk sqc (3 + N)) → (∀ x, D x = true → ∀ pk, Par N il im x pk → ∃ i, i < n ∧ rk i = pk) → ((x3 = iI (-2) ∧ ∀ i, i < n → D (rk i) = true) ∨ ∃ o, o < n ∧ D (rk o) = false ∧ x3 = iI ((o : Nat) : Int)) → VX11_computeClosure_78 post (iI N) images sizes (r + 1) f (iI n) kept keptMany keptLetters m c w d ch (iI 0) (lI (dtm (mM il im) N)) x3 := by
    intro r
    have fin : ∀ (t n : Nat) (rk : Nat → Nat) (D : Nat → Bool) (f d : TA), n ≤ 200 → RST N il im n rk D t f d → (∃ i, i < n ∧ rk i = kk sqc (3 + N)) → (∀ x, D x = true → ∀ pk, Par N il im x pk → ∃ i, i < n ∧ rk i = pk) → (∀ i, i < n → D (rk i) = true) → Fin0 N il im n rk := by
      intro t n rk D f d hn hR hsq hcl hall
      refine ⟨hn, hR.2.1, fun x => ⟨fun hx => ?_, fun ⟨i, hi, e⟩ => by rw [← e]; exact hR.2.2.1 i hi⟩⟩
      refine hx (fun x => ∃ i, i < n ∧ rk i = x) hsq (fun a b ⟨i, hi, e⟩ hp => ?_)
      exact hcl a (by rw [← e]; exact hall i hi) b hp
    induction r with
    | zero =>
      intro t n rk D f m c w d ch x3 ht hn hR hsq hcl hx
      rw [VX11_computeClosure_78]
      rcases hx with ⟨e3, hall⟩ | ⟨o, ho, hD, e3⟩
      · subst e3
        exact ⟨fun _ => L149 n rk f m c w d ch _ (fin t n rk D f d hn hR hsq hcl hall) hR.2.2.2.1, fun q => absurd rfl q⟩
      · exfalso
        have h1 := cntB_add (g := fun i => D (rk i)) (h := fun i => if i = o then true else D (rk i)) (o := o) hD (by simp) (fun i hi => by simp [hi]) n ho
        have h2 := cntB_le (g := fun i => if i = o then true else D (rk i)) n
        have h3 := hR.2.2.2.2.2.2
        omega
    | succ r ih =>
      intro t n rk D f m c w d ch x3 ht hn hR hsq hcl hx
      rw [VX11_computeClosure_78]
      rcases hx with ⟨e3, hall⟩ | ⟨o, ho, hD, e3⟩
      · subst e3
        exact ⟨fun _ => L149 n rk f m c w d ch _ (fin t n rk D f d hn hR hsq hcl hall) hR.2.2.2.1, fun q => absurd rfl q⟩
      · subst e3
        obtain ⟨r1, r2, r3, r4, r5, r6, r7⟩ := hR
        refine ⟨fun q => absurd ((iI_eq (by omega) (by omega) (by omega) (by omega)).mp (q.trans (show (-2 : Int32) = iI (-2) from rfl))) (by omega), fun _ => ⟨(iI_in (by omega) (by omega)).mpr ⟨by omega, by omega⟩, ?_⟩⟩
        rw [show (1 : Int32) = iI 1 from rfl, nar_1, iI_clamp (by omega) (by omega), Int.toNat_natCast]
        have hinj : ∀ i, i < n → rk i = rk o → i = o := by
          intro i hi e
          by_cases c1 : i < o
          · have := r2 i o c1 ho
            omega
          · by_cases c2 : o < i
            · have := r2 o i c2 hi
              omega
            · omega
        have hR2 : RST N il im n rk (fun x => D x || (x == rk o)) (t + 1) f (upd d o (iI 1)) := by
          refine ⟨r1, r2, r3, r4, fun i hi => ?_, fun x hx => ?_, ?_⟩
          · by_cases e : i = o
            · rw [e, pk_us]
              simp
            · rw [pk_un e, r5 i hi]
              have : (rk i == rk o) = false := by
                simp only [beq_eq_false_iff_ne]
                exact fun q => e (hinj i hi q)
              simp only [this, Bool.or_false]
          · by_cases e : x = rk o
            · exact ⟨o, ho, e.symm⟩
            · have : (x == rk o) = false := by
                simp only [beq_eq_false_iff_ne]
                exact e
              simp only [this, Bool.or_false] at hx
              exact r6 x hx
          · have h1 := cntB_add (g := fun i => D (rk i)) (h := fun i => if i = o then true else D (rk i)) (o := o) hD (by simp) (fun i hi => by simp [hi]) n ho
            rw [← r7, ← h1]
            refine cntB_cg n (fun i hi => ?_)
            by_cases e : i = o
            · subst e
              simp
            · have : (rk i == rk o) = false := by
                simp only [beq_eq_false_iff_ne]
                exact fun q => e (hinj i hi q)
              simp [this, e]
        have L94 : ∀ (q x : Nat) (ch' : TA) (x4 : Int32), x + q = 7 → x4 = iI x → (∀ k, k < x → ch' k = iI ((dig N (rk o) k : Int) - of7 k)) → VX11_computeClosure_94 post (fun t_found t_foundMany t_kept t_keptMany t_keptLetters t_made t_cutAt t_wanted t_isDone t_child t_isFull x1 x3 => VX11_computeClosure_78 post (iI N) images sizes (r + 1) t_found t_foundMany t_kept t_keptMany t_keptLetters t_made t_cutAt t_wanted t_isDone t_child t_isFull x1 x3) (iI N) images sizes (q + 1) f (iI n) kept keptMany keptLetters m c w (upd d o (iI 1)) ch' (iI 0) (lI (dtm (mM il im) N)) (iI ((o : Nat) : Int)) x4 := by
          intro q
          induction q with
          | zero =>
            intro x ch' x4 hx e4 h1
            have : x = 7 := by omega
            subst this e4
            rw [VX11_computeClosure_94]
            refine ⟨fun _ => ?_, fun q => absurd ?_ q⟩
            · unfold VX11_computeClosure_126
              refine s11_findParents (ck := rk o) hN hI hdt (r3 o ho) h1 hn hR2 (fun n' rk' f' m' c' w' d' s1 s2 s3 => ?_)
              by_cases c : n' = 201
              · rw [if_pos c]
                refine ⟨fun q => absurd q n10, fun _ => ?_⟩
                refine hB ⟨rk', ?_, fun i hi => s1.2.2.1 i (by omega)⟩ _ _ _ _ _ _ _ _
                have := s1.2.1
                rw [c] at this
                exact this
              · have hn' : n' ≤ 200 := by
                  have := s1.1
                  omega
                rw [if_neg c]
                refine ⟨fun _ => ?_, fun q => absurd rfl q⟩
                have hcl' : ∀ x, (fun x => D x || (x == rk o)) x = true → ∀ pk, Par N il im x pk → ∃ i, i < n' ∧ rk' i = pk := by
                  intro x hx pk hp
                  by_cases e : x = rk o
                  · rw [e] at hp
                    exact s3 hn' pk hp
                  · have : (x == rk o) = false := by
                      simp only [beq_eq_false_iff_ne]
                      exact e
                    simp only [this, Bool.or_false] at hx
                    exact s2 pk (hcl x hx pk hp)
                refine s11_firstOpen (g := fun i => D (rk' i) || (rk' i == rk o)) hn' s1.2.2.2.2.1 (fun o' ho' hD' => ?_) (fun hall => ?_)
                · exact ih (t + 1) n' rk' _ f' m' c' w' d' ch' _ (by omega) hn' s1 (s2 _ hsq) hcl' (Or.inr ⟨o', ho', hD', rfl⟩)
                · exact ih (t + 1) n' rk' _ f' m' c' w' d' ch' _ (by omega) hn' s1 (s2 _ hsq) hcl' (Or.inl ⟨rfl, hall⟩)
            · rw [show (7 : Int32) = iI 7 from rfl]
              exact (iI_le (by omega) (by omega) (by omega) (by omega)).mpr (by omega)
          | succ q ihq =>
            intro x ch' x4 hx e4 h1
            subst e4
            have e7 : (7 : Int32) * iI ((o : Nat) : Int) + iI (x : Int) = iI ((7 * o + x : Nat) : Int) := by
              rw [show (7 : Int32) = iI 7 from rfl, iI_mul, iI_add]
              exact congrArg iI (by omega)
            rw [VX11_computeClosure_94]
            refine ⟨fun q => absurd ((iI_le (by omega) (by omega) (by omega) (by omega)).mp ((show (7 : Int32) = iI 7 from rfl) ▸ q)) (by omega), fun _ => ?_⟩
            rw [e7, iI_clamp (by omega) (by omega), Int.toNat_natCast]
            refine ⟨(iI_in (by omega) (by omega)).mpr ⟨by omega, by omega⟩, ?_⟩
            rintro y21 rfl
            refine ⟨(iI_in (by omega) (by omega)).mpr ⟨by omega, by omega⟩, ?_⟩
            rw [iI_clamp (by omega) (by omega), Int.toNat_natCast, r4 o ho x (by omega)]
            refine ihq (x + 1) _ _ (by omega) ?_ (fun k hk => ?_)
            · rw [show (1 : Int32) = iI 1 from rfl, iI_add]
              exact congrArg iI (by omega)
            · by_cases e : k = x
              · rw [e, pk_us]
              · rw [pk_un e]
                exact h1 k (by omega)
        exact ⟨8, L94 7 0 ch _ (by omega) rfl (fun k hk => absurd hk (Nat.not_lt_zero k))⟩
  have L66 : ∀ (m : TA), (∀ k, k < 7 → m k = iI ((sqc k : Int) - of7 k)) → VX11_computeClosure_66 post (iI N) images sizes found0 (iI ((0 : Nat) : Int)) kept keptMany keptLetters m cut0 wan0 don0 chi0 (iI 0) (lI (dtm (mM il im) N)) := by
    intro m hm
    unfold VX11_computeClosure_66
    refine s11_enter (n := 0) (il := il) (im := im) (rk := fun _ => 0) (mc := sqc) hN (by omega) (fun i j h1 h2 => absurd h2 (Nat.not_lt_zero j)) (fun i hi => absurd hi (Nat.not_lt_zero i)) (fun i hi => absurd hi (Nat.not_lt_zero i)) (sqc_VD N) hm (fun ⟨i, hi, _⟩ => absurd hi (Nat.not_lt_zero i)) (fun _ p f' hp hS hFc => ?_)
    have hp0 : p = 0 := by omega
    subst hp0
    refine ⟨(iI_in (by omega) (by omega)).mpr ⟨by omega, by omega⟩, ?_⟩
    have hR : RST N il im 1 (ins (fun _ => 0) 0 (kk sqc (3 + N))) (fun _ => false) 0 f' (upd don0 (iI ((0 : Nat) : Int)).toNatClampNeg (vp_nar .boolean (0 : Int32))) := by
      refine ⟨by omega, hS, fun i hi => ?_, hFc, fun i hi => ?_, fun x hx => by simp at hx, rfl⟩
      · have : i = 0 := by omega
        rw [this, ins_m]
        exact rch_sq
      · have : i = 0 := by omega
        rw [this, iI_clamp (by omega) (by omega), Int.toNat_natCast, pk_us]
        exact nar_0
    exact ⟨200 + 1, L78 200 0 1 _ (fun _ => false) f' m cut0 wan0 _ chi0 _ (by omega) (by omega) hR ⟨0, by omega, ins_m⟩ (fun x hx => by simp at hx) (Or.inr ⟨0, by omega, rfl, rfl⟩)⟩
  have L38 : ∀ (q x : Nat) (m : TA) (x3 : Int32), x + q = 7 → x3 = iI x → (∀ k, k < x → m k = iI ((sqc k : Int) - of7 k)) → VX11_computeClosure_38 post (iI N) images sizes (q + 1) found0 (iI ((0 : Nat) : Int)) kept keptMany keptLetters m cut0 wan0 don0 chi0 (iI 0) (lI (dtm (mM il im) N)) x3 := by
    intro q
    induction q with
    | zero =>
      intro x m x3 hx e3 h1
      have : x = 7 := by omega
      subst this e3
      rw [VX11_computeClosure_38]
      refine ⟨fun _ => L66 m h1, fun q => absurd ?_ q⟩
      rw [show (7 : Int32) = iI 7 from rfl]
      exact (iI_le (by omega) (by omega) (by omega) (by omega)).mpr (by omega)
    | succ q ih =>
      intro x m x3 hx e3 h1
      subst e3
      rw [VX11_computeClosure_38]
      refine ⟨fun q => absurd ((iI_le (by omega) (by omega) (by omega) (by omega)).mp ((show (7 : Int32) = iI 7 from rfl) ▸ q)) (by omega), fun _ => ?_⟩
      rw [iI_clamp (by omega) (by omega), Int.toNat_natCast]
      have v7 : vp_in (iI (x : Int)) 7 := (iI_in (by omega) (by omega)).mpr ⟨by omega, by omega⟩
      have e1 : iI (x : Int) + 1 = iI ((x + 1 : Nat) : Int) := by
        rw [show (1 : Int32) = iI 1 from rfl, iI_add]
        exact congrArg iI (by omega)
      have nx : ∀ v : Int32, v = iI ((sqc x : Int) - of7 x) → VX11_computeClosure_38 post (iI N) images sizes (q + 1) found0 (iI ((0 : Nat) : Int)) kept keptMany keptLetters (upd m x v) cut0 wan0 don0 chi0 (iI 0) (lI (dtm (mM il im) N)) (iI (x : Int) + 1) := by
        intro v hv
        refine ih (x + 1) _ _ (by omega) e1 (fun k hk => ?_)
        by_cases e : k = x
        · rw [e, pk_us, hv]
        · rw [pk_un e]
          exact h1 k (by omega)
      refine ⟨fun q => ⟨v7, nx _ ?_⟩, fun q => ⟨v7, nx _ ?_⟩⟩
      · have := (iI_le (by omega) (by omega) (by omega) (by omega)).mp ((show (3 : Int32) = iI 3 from rfl) ▸ q)
        rw [sqc, of7, if_neg (by omega), if_neg (by omega)]
        rfl
      · have : x < 3 := by
          by_cases c : x < 3
          · exact c
          · exfalso
            apply q
            rw [show (3 : Int32) = iI 3 from rfl]
            exact (iI_le (by omega) (by omega) (by omega) (by omega)).mpr (by omega)
        rw [sqc, of7, if_pos this, if_pos this]
        rfl
  exact ⟨8, L38 7 0 made0 _ (by omega) rfl (fun k hk => absurd hk (Nat.not_lt_zero k))⟩
end
