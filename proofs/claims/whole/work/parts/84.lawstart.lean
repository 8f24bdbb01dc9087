set_option maxHeartbeats 8000000 in
set_option maxRecDepth 100000 in
theorem lw_texts {s : State} {b : Nat} (hts : ∀ w ∈ lw_tbl, w.before #[Value.ref b] s = true) (hgv : (Jvm.Cond.and given_1 narrow_1).before #[Value.ref b] s = true) : ∃ adK adV : Nat → Nat, JS adK adV (fun q : Nat => s.heap.size ≤ q) s s.heap := by
  have hs := flat_of_before _ hgv
  have hA : ∀ a : Nat, a < s.heap.size → ¬ (fun q : Nat => s.heap.size ≤ q) a := fun a h => Nat.not_le.mpr h
  have hel : ∀ i : Nat, i < 4 → ∀ j : Nat, j < lenJ.getD i 0 → (Cond.eq (.elem (Term.field (Term.string "AbelianPowers$Input" ([23, 25, 27, 29].getD i 0)) "java/lang/String" "value" "[B") (.int (Int32.ofNat j))) (.int ((bytJ.getD i []).getD j 0))).before #[Value.ref b] s = true := by
    intro i hi
    refine co_4 (P := fun i => ∀ j : Nat, j < lenJ.getD i 0 → (Cond.eq (.elem (Term.field (Term.string "AbelianPowers$Input" ([23, 25, 27, 29].getD i 0)) "java/lang/String" "value" "[B") (.int (Int32.ofNat j))) (.int ((bytJ.getD i []).getD j 0))).before #[Value.ref b] s = true) ?_ ?_ ?_ ?_ hi
    · intro j hj
      have hj : j < 6 := hj
      rcases (show j = 0 ∨ j = 1 ∨ j = 2 ∨ j = 3 ∨ j = 4 ∨ j = 5 by omega) with rfl | rfl | rfl | rfl | rfl | rfl
      · exact hs _ (List.mem_of_getElem? (i := 13) rfl)
      · exact hs _ (List.mem_of_getElem? (i := 14) rfl)
      · exact hs _ (List.mem_of_getElem? (i := 15) rfl)
      · exact hs _ (List.mem_of_getElem? (i := 16) rfl)
      · exact hs _ (List.mem_of_getElem? (i := 17) rfl)
      · exact hs _ (List.mem_of_getElem? (i := 18) rfl)
    · intro j hj
      have hj : j < 8 := hj
      rcases (show j = 0 ∨ j = 1 ∨ j = 2 ∨ j = 3 ∨ j = 4 ∨ j = 5 ∨ j = 6 ∨ j = 7 by omega) with rfl | rfl | rfl | rfl | rfl | rfl | rfl | rfl
      · exact hs _ (List.mem_of_getElem? (i := 23) rfl)
      · exact hs _ (List.mem_of_getElem? (i := 24) rfl)
      · exact hs _ (List.mem_of_getElem? (i := 25) rfl)
      · exact hs _ (List.mem_of_getElem? (i := 26) rfl)
      · exact hs _ (List.mem_of_getElem? (i := 27) rfl)
      · exact hs _ (List.mem_of_getElem? (i := 28) rfl)
      · exact hs _ (List.mem_of_getElem? (i := 29) rfl)
      · exact hs _ (List.mem_of_getElem? (i := 30) rfl)
    · intro j hj
      have hj : j < 9 := hj
      rcases (show j = 0 ∨ j = 1 ∨ j = 2 ∨ j = 3 ∨ j = 4 ∨ j = 5 ∨ j = 6 ∨ j = 7 ∨ j = 8 by omega) with rfl | rfl | rfl | rfl | rfl | rfl | rfl | rfl | rfl
      · exact hs _ (List.mem_of_getElem? (i := 36) rfl)
      · exact hs _ (List.mem_of_getElem? (i := 37) rfl)
      · exact hs _ (List.mem_of_getElem? (i := 38) rfl)
      · exact hs _ (List.mem_of_getElem? (i := 39) rfl)
      · exact hs _ (List.mem_of_getElem? (i := 40) rfl)
      · exact hs _ (List.mem_of_getElem? (i := 41) rfl)
      · exact hs _ (List.mem_of_getElem? (i := 42) rfl)
      · exact hs _ (List.mem_of_getElem? (i := 43) rfl)
      · exact hs _ (List.mem_of_getElem? (i := 44) rfl)
    · intro j hj
      have hj : j < 6 := hj
      rcases (show j = 0 ∨ j = 1 ∨ j = 2 ∨ j = 3 ∨ j = 4 ∨ j = 5 by omega) with rfl | rfl | rfl | rfl | rfl | rfl
      · exact hs _ (List.mem_of_getElem? (i := 51) rfl)
      · exact hs _ (List.mem_of_getElem? (i := 52) rfl)
      · exact hs _ (List.mem_of_getElem? (i := 53) rfl)
      · exact hs _ (List.mem_of_getElem? (i := 54) rfl)
      · exact hs _ (List.mem_of_getElem? (i := 55) rfl)
      · exact hs _ (List.mem_of_getElem? (i := 56) rfl)
  have hne : ∀ i j : Nat, i < 4 → j < 4 → i ≠ j → (Cond.not (Cond.eq (Term.string "AbelianPowers$Input" ([23, 25, 27, 29].getD i 0)) (Term.string "AbelianPowers$Input" ([23, 25, 27, 29].getD j 0)))).before #[Value.ref b] s = true ∨ (Cond.not (Cond.eq (Term.string "AbelianPowers$Input" ([23, 25, 27, 29].getD j 0)) (Term.string "AbelianPowers$Input" ([23, 25, 27, 29].getD i 0)))).before #[Value.ref b] s = true := by
    intro i j hi hj hij
    rcases (show i = 0 ∨ i = 1 ∨ i = 2 ∨ i = 3 by omega) with rfl | rfl | rfl | rfl
    · rcases (show j = 0 ∨ j = 1 ∨ j = 2 ∨ j = 3 by omega) with rfl | rfl | rfl | rfl
      · exact absurd rfl hij
      · exact Or.inl (hs _ (List.mem_of_getElem? (i := 31) rfl))
      · exact Or.inl (hs _ (List.mem_of_getElem? (i := 45) rfl))
      · exact Or.inl (hs _ (List.mem_of_getElem? (i := 57) rfl))
    · rcases (show j = 0 ∨ j = 1 ∨ j = 2 ∨ j = 3 by omega) with rfl | rfl | rfl | rfl
      · exact Or.inr (hs _ (List.mem_of_getElem? (i := 31) rfl))
      · exact absurd rfl hij
      · exact Or.inl (hs _ (List.mem_of_getElem? (i := 46) rfl))
      · exact Or.inl (hs _ (List.mem_of_getElem? (i := 58) rfl))
    · rcases (show j = 0 ∨ j = 1 ∨ j = 2 ∨ j = 3 by omega) with rfl | rfl | rfl | rfl
      · exact Or.inr (hs _ (List.mem_of_getElem? (i := 45) rfl))
      · exact Or.inr (hs _ (List.mem_of_getElem? (i := 46) rfl))
      · exact absurd rfl hij
      · exact Or.inl (hs _ (List.mem_of_getElem? (i := 59) rfl))
    · rcases (show j = 0 ∨ j = 1 ∨ j = 2 ∨ j = 3 by omega) with rfl | rfl | rfl | rfl
      · exact Or.inr (hs _ (List.mem_of_getElem? (i := 57) rfl))
      · exact Or.inr (hs _ (List.mem_of_getElem? (i := 58) rfl))
      · exact Or.inr (hs _ (List.mem_of_getElem? (i := 59) rfl))
      · exact absurd rfl hij
  obtain ⟨adK, adV, h1, h2⟩ := vk_Sof (args := #[Value.ref b]) (N := 4) (tm := fun i => (Term.string "AbelianPowers$Input" ([23, 25, 27, 29].getD i 0))) (len := lenJ) (byt := bytJ) (A := fun q : Nat => s.heap.size ≤ q) (fun i hi => co_4 (P := fun i => lenJ.getD i 0 < 2 ^ 31) (by decide) (by decide) (by decide) (by decide) hi) (fun i hi => co_4 (P := fun i => (Cond.exactly (Term.string "AbelianPowers$Input" ([23, 25, 27, 29].getD i 0)) "java/lang/String").before #[Value.ref b] s = true) (hs _ (List.mem_of_getElem? (i := 9) rfl)) (hs _ (List.mem_of_getElem? (i := 19) rfl)) (hs _ (List.mem_of_getElem? (i := 32) rfl)) (hs _ (List.mem_of_getElem? (i := 47) rfl)) hi) (fun i hi => co_4 (P := fun i => (Cond.eq (Term.field (Term.string "AbelianPowers$Input" ([23, 25, 27, 29].getD i 0)) "java/lang/String" "coder" "B") (.int 0)).before #[Value.ref b] s = true) (hs _ (List.mem_of_getElem? (i := 10) rfl)) (hs _ (List.mem_of_getElem? (i := 20) rfl)) (hs _ (List.mem_of_getElem? (i := 33) rfl)) (hs _ (List.mem_of_getElem? (i := 48) rfl)) hi) (fun i hi => co_4 (P := fun i => (Cond.arrayOf (Term.field (Term.string "AbelianPowers$Input" ([23, 25, 27, 29].getD i 0)) "java/lang/String" "value" "[B") .byte).before #[Value.ref b] s = true) (hs _ (List.mem_of_getElem? (i := 11) rfl)) (hs _ (List.mem_of_getElem? (i := 21) rfl)) (hs _ (List.mem_of_getElem? (i := 34) rfl)) (hs _ (List.mem_of_getElem? (i := 49) rfl)) hi) (fun i hi => co_4 (P := fun i => (Cond.eq (.length (Term.field (Term.string "AbelianPowers$Input" ([23, 25, 27, 29].getD i 0)) "java/lang/String" "value" "[B")) (.int (Int32.ofNat (lenJ.getD i 0)))).before #[Value.ref b] s = true) (hs _ (List.mem_of_getElem? (i := 12) rfl)) (hs _ (List.mem_of_getElem? (i := 22) rfl)) (hs _ (List.mem_of_getElem? (i := 35) rfl)) (hs _ (List.mem_of_getElem? (i := 50) rfl)) hi) hel hne hA
  refine ⟨adK, adV, h1, va_Zof (hts (.laysStatic "java/lang/String" "COMPACT_STRINGS" "Z") (List.mem_of_getElem? (i := 407) rfl)) (hts (.initialized "java/lang/String") (List.mem_of_getElem? (i := 71) rfl)) (va_eqt (hs _ (List.mem_of_getElem? (i := 4) rfl))) hA, va_Zqof (hts (.laysStatic "jdk/internal/util/Preconditions" "SIOOBE_FORMATTER" "Ljava/util/function/BiFunction;") (List.mem_of_getElem? (i := 427) rfl)) (hts (.initialized "jdk/internal/util/Preconditions") (List.mem_of_getElem? (i := 73) rfl)) (hs _ (List.mem_of_getElem? (i := 5) rfl)) hA, vk_R.of (hts (.stringRef "AbelianPowers$Input" 23 "equal ") (List.mem_of_getElem? (i := 390) rfl)) (h2 0 (by decide)), vk_R.of (hts (.stringRef "AbelianPowers$Input" 25 "abelian ") (List.mem_of_getElem? (i := 391) rfl)) (h2 1 (by decide)), vk_R.of (hts (.stringRef "AbelianPowers$Input" 27 "additive ") (List.mem_of_getElem? (i := 392) rfl)) (h2 2 (by decide)), vk_R.of (hts (.stringRef "AbelianPowers$Input" 29 "mixed ") (List.mem_of_getElem? (i := 393) rfl)) (h2 3 (by decide))⟩
theorem lw_cX {s : State} {b : Nat} (hts : ∀ w ∈ lw_tbl, w.before #[Value.ref b] s = true) : cX s := ⟨va_AO.of (hts (.arrayOver (.object "AbelianPowers$Word")) (List.mem_of_getElem? (i := 105) rfl)), va_AO.of (hts (.arrayOver (.object "AbelianPowers$Row")) (List.mem_of_getElem? (i := 322) rfl)), va_Nw.of rfl (hts (.methodLinkNest RX10 9 yX1_init "AbelianPowers") (List.mem_of_getElem? (i := 85) rfl)), va_Nw.of rfl (hts (.methodLinkNest RX10 37 yX8_init "AbelianPowers") (List.mem_of_getElem? (i := 169) rfl)), va_Nw.of rfl (hts (.methodLinkNest RX10 44 yX4_init "AbelianPowers") (List.mem_of_getElem? (i := 207) rfl)), va_Nw.of rfl (hts (.methodLinkNest RX10 51 yX2_init "AbelianPowers") (List.mem_of_getElem? (i := 218) rfl)), va_Nw.of rfl (hts (.methodLinkNest RX10 58 yX0_init "AbelianPowers") (List.mem_of_getElem? (i := 232) rfl)), va_Nw.of rfl (hts (.methodLinkNest RX10 69 yX3_init "AbelianPowers") (List.mem_of_getElem? (i := 324) rfl)), va_Nw.of rfl (hts (.methodLinkNest RX0 23 yX7_init "AbelianPowers") (List.mem_of_getElem? (i := 238) rfl))⟩
set_option maxHeartbeats 8000000 in
set_option maxRecDepth 100000 in
theorem lw_known {s : State} {b : Nat} (hts : ∀ w ∈ lw_tbl, w.before #[Value.ref b] s = true) : ∃ (dC : Nat → ClassId) (dI : Nat → Nat → Nat) (cy : Nat → ClassId), va_K (dC, dI) vwCl (vTy cy) s := by
  obtain ⟨c0, i0, h0⟩ := u_known (C := RX0) (T := TX0) (N := 14) (n := 14) hts wsL_in_wsX00 (hts (.instantiable RX0 14) (List.mem_of_getElem? (i := 231) rfl))
  obtain ⟨c1, i1, h1⟩ := u_known (C := RX1) (T := TX1) (N := 2) (n := 2) hts wsL_in_wsX10 (hts (.instantiable RX1 2) (List.mem_of_getElem? (i := 84) rfl))
  obtain ⟨c2, i2, h2⟩ := u_known (C := RX2) (T := TX2) (N := 2) (n := 2) hts wsL_in_wsX20 (hts (.instantiable RX2 2) (List.mem_of_getElem? (i := 217) rfl))
  obtain ⟨c3, i3, h3⟩ := u_known (C := RX3) (T := TX3) (N := 3) (n := 3) hts wsL_in_wsX30 (hts (.instantiable RX3 3) (List.mem_of_getElem? (i := 323) rfl))
  obtain ⟨c4, i4, h4⟩ := u_known (C := RX4) (T := TX4) (N := 1) (n := 1) hts wsL_in_wsX40 (hts (.instantiable RX4 1) (List.mem_of_getElem? (i := 206) rfl))
  obtain ⟨c5, i5, h5⟩ := u_known (C := RX5) (T := TX5) (N := 6) (n := 6) hts wsL_in_wsX50 (hts (.instantiable RX5 6) (List.mem_of_getElem? (i := 99) rfl))
  obtain ⟨c6, i6, h6⟩ := u_known (C := RX6) (T := TX6) (N := 4) (n := 4) hts wsL_in_wsX60 (hts (.instantiable RX6 4) (List.mem_of_getElem? (i := 256) rfl))
  obtain ⟨c7, i7, h7⟩ := u_known (C := RX7) (T := TX7) (N := 2) (n := 2) hts wsL_in_wsX70 (hts (.instantiable RX7 2) (List.mem_of_getElem? (i := 237) rfl))
  obtain ⟨c8, i8, h8⟩ := u_known (C := RX8) (T := TX8) (N := 9) (n := 9) hts wsL_in_wsX80 (hts (.instantiable RX8 9) (List.mem_of_getElem? (i := 168) rfl))
  obtain ⟨c9, i9, h9⟩ := u_known (C := RX9) (T := TX9) (N := 2) (n := 2) hts wsL_in_wsX90 (hts (.instantiable RX9 2) (List.mem_of_getElem? (i := 106) rfl))
  obtain ⟨c10, i10, h10⟩ := u_known (C := RX10) (T := TX10) (N := 10) (n := 10) hts wsL_in_wsX100 (hts (.instantiable RX10 10) (List.mem_of_getElem? (i := 76) rfl))
  obtain ⟨c11, i11, h11⟩ := u_known (C := RX11) (T := TX11) (N := 36) (n := 36) hts wsL_in_wsX110 (hts (.instantiable RX11 36) (List.mem_of_getElem? (i := 844) rfl))
  have hc : ∀ (k : Nat) (q : vw_C), vwCl[k]? = some q → u_Kn s q.1 q.2.1 q.2.2 ((fun k => [c0, c1, c2, c3, c4, c5, c6, c7, c8, c9, c10, c11].getD k c0) k) ((fun k => [i0, i1, i2, i3, i4, i5, i6, i7, i8, i9, i10, i11].getD k i0) k) := by
    intro k q hq
    match k, hq with
    | 0, hq => cases hq; exact h0
    | 1, hq => cases hq; exact h1
    | 2, hq => cases hq; exact h2
    | 3, hq => cases hq; exact h3
    | 4, hq => cases hq; exact h4
    | 5, hq => cases hq; exact h5
    | 6, hq => cases hq; exact h6
    | 7, hq => cases hq; exact h7
    | 8, hq => cases hq; exact h8
    | 9, hq => cases hq; exact h9
    | 10, hq => cases hq; exact h10
    | 11, hq => cases hq; exact h11
    | k + 12, hq => simp [vwCl] at hq
  obtain ⟨cy, hK⟩ := vTy_of hc (hts (.arrayClass .int) (List.mem_of_getElem? (i := 97) rfl)) (hts (.arrayClass .long) (List.mem_of_getElem? (i := 204) rfl)) (hts (.arrayClass .boolean) (List.mem_of_getElem? (i := 958) rfl)) (lw_cX hts).1 (lw_cX hts).2.1
  exact ⟨_, _, cy, hK⟩
/-- what is left: pure -/
def LawPure : Prop := ∀ (L : Nat) (xs : Nat → Int32), L ≤ 2560 → VX10_init (fun (c0 : Int32) (c1 : Nat → Int32) (c2 : Nat → Int32) (c3 : Nat → Int32) (c4 : Int32) (c5 : Nat → Int32) (c6 : Nat → Int32) (c7 : Nat → Int32) => ∃ n : Nat, VL_18 L xs 0 1 2 n (fun _ => 0) 0 1 2 c0 c1 (fun _ => (fun _ => 0)) c2 (fun _ => (fun _ => 0)) c3 1 2 c4 c5 (fun _ => (fun _ => 0)) c6 (fun _ => (fun _ => 0)) c7 0 (fun _ => 0) 0 (fun _ => 0) (fun _ => 0) (fun _ => 0) (fun _ => 0) (fun _ => 0) (fun _ => 0) 0 0 0 0 (fun _ => 0) 0 (fun _ => 0) 0 0 (fun _ => 0) (fun _ => 0) 0 (fun _ => 0) (fun _ => 0) (fun _ => 0) 0 0 (fun _ => 0) (fun _ => 0) (fun _ => 0) 0 (fun _ => 0) (fun _ => 0) 0 (fun _ => 0) (fun _ => 0) 0 (fun _ => (fun _ => 0)) (fun _ => 0) (fun _ => 0) 1 2 3 (upd (upd (upd (upd (fun _ => 0) (0 : Int32).toNatClampNeg 0) (1 : Int32).toNatClampNeg 1) (2 : Int32).toNatClampNeg 2) (3 : Int32).toNatClampNeg 3) (fun _ => 0) (fun _ => 0) (fun _ => 0) (fun _ => 0) (fun _ => 0) 0 0 (fun _ => 0) 0 0 (fun _ => 0) 0 (fun _ => 0) 0 0 (fun _ => 0) (fun _ => 0) (fun _ => 0) (fun _ => 0) (fun _ => 0) 0 (upd (upd (upd (fun _ => 0) (0 : Int32).toNatClampNeg (-1)) (1 : Int32).toNatClampNeg (-1)) (2 : Int32).toNatClampNeg (-1)) (fun _ => 0) 0 0 0 0 (fun _ => 0) (fun _ => 0) (fun _ => 0) (fun _ => 0) (fun _ => 0) 0)
set_option maxHeartbeats 40000000 in
set_option maxRecDepth 100000 in
theorem lw_start (hpure : LawPure) {p : Program} {e : Env} {s : State} {m : MethodId} {below : List Frame} {meth : Method} {c : Code} (l : Launch) {b L : Nat} {xs : Nat → Int32} (hL : L ≤ 2560) (C0 : lw_At p s m meth c b L xs) : W p l e room_1 s m #[Value.ref b] below meth c s.heap [] 0 0 (lw_Z below #[Value.ref b] s) (entryFrame m ([Value.ref b] : List Value).toArray 4) := by
  obtain ⟨hx, hb, hr, hml, hown, hts, hX, hbl, hlocks, hgv⟩ := id C0
  have htsL : ∀ w ∈ wsL_law, w.before #[Value.ref b] s = true := fun w h => hts w (wsL_law_in w h)
  have hA : ∀ q : Nat, s.heap.size ≤ q → (fun q : Nat => s.heap.size ≤ q) q := fun _ h => h
  obtain ⟨dC, dI, cy, hK⟩ := lw_known hts
  obtain ⟨adK, adV, hJ⟩ := lw_texts hts hgv
  have hcx := lw_cX hts
  have hS : va_S (fun q : Nat => s.heap.size ≤ q) s.heap s.heap [] := va_S.rf
  have hP : va_P (dC, dI) vwCl [] s.heap := fun k q h => by simp at h
  have hD : va_D (fun q : Nat => s.heap.size ≤ q) [] := ⟨fun i j p q h => by simp at h, fun k q h => by simp at h⟩
  have hl := lv_entry ([.ref b]) (n := 4) (Nat.le_of_ble_eq_true rfl)
  rw [lg_entry_eq]
  generalize (lg_sl ([.ref b]) ++ List.replicate (4 - (lg_sl ([.ref b])).length) Slot.unset).toArray = ls at hl ⊢
  have hl : lv_has ls 4 [(0, .ref b)] := hl
  refine va_new (ci := 10) (fs := [.null, .null, .null, .int 0, .null, .null, .null, .null, .null, .null]) (C := RX10) (T := TX10) (N := 10) hx hb hts wsL_in_wsX100 tyX10 tyX10_ok hown (hts (.classLink RL 7 RX10) (List.mem_of_getElem? (i := 75) rfl)) (hts (.instantiable RX10 10) (List.mem_of_getElem? (i := 76) rfl)) (hts (.initialized RX10) (List.mem_of_getElem? (i := 58) rfl)) hK hP hD hS hA rfl (fun j hj => by rcases (show j = 0 ∨ j = 1 ∨ j = 2 ∨ j = 3 ∨ j = 4 ∨ j = 5 ∨ j = 6 ∨ j = 7 ∨ j = 8 ∨ j = 9 by omega) with rfl | rfl | rfl | rfl | rfl | rfl | rfl | rfl | rfl | rfl <;> rfl) (Nat.le_of_ble_eq_true rfl) (Nat.le_of_ble_eq_true rfl) dL_law_0 (fun q1 H hP hD hS => ?_)
  have hP : va_P (dC, dI) vwCl [(q1, .inr (10, [.null, .null, .null, .int 0, .null, .null, .null, .null, .null, .null]))] H := hP
  have hD : va_D (fun q : Nat => s.heap.size ≤ q) [(q1, .inr (10, [.null, .null, .null, .int 0, .null, .null, .null, .null, .null, .null]))] := hD
  refine W.widen (k := 1) (n := 10) (Nat.le_of_ble_eq_true rfl) (Nat.le_of_ble_eq_true rfl) ?_
  refine lv_dup hx hb dL_law_3 rfl ?_
  refine cn_call (As := []) (rest := [.ref q1]) ⟨hx, hb, hml, hown, htsL⟩ (kX10_init l dC dI cy q1 _ (hpure L xs hL)) (cwI 0 htsL gL_law_X10_init rfl rfl rfl (hts (.initialized RX10) (List.mem_of_getElem? (i := 58) rfl)) (hts (.methodLink RL 9 yX10_init) (List.mem_of_getElem? (i := 77) rfl)) (hts (.instanceMethod yX10_init) (List.mem_of_getElem? (i := 78) rfl)) rfl (by decide +kernel) ⟨Nat.le_of_ble_eq_true rfl, Nat.le_of_ble_eq_true rfl⟩) hcx hK hP hD hS hA 0 rfl [] (wr := []) rfl rfl (by decide) rfl hl.1 rfl (Nat.le_of_ble_eq_true rfl) ⟨Nat.le_of_ble_eq_true rfl, Nat.le_of_ble_eq_true rfl⟩ dL_law_4 (fun w H locs hv hP1 hD1 hS => ?_)
  obtain ⟨h1, xA0, xA1, xA2, xA3, xA4, xA5, xA6, xA7, xA8, xA9, c0, c1, c2, c3, c4, c5, c6, c7⟩ := w
  obtain ⟨e1, hv⟩ := hv
  replace e1 : h1 0 = q1 := e1
  subst e1
  have hP : va_P (dC, dI) vwCl (qX10 cy h1 xA0 xA1 xA2 xA3 xA4 xA5 xA6 xA7 xA8 xA9 (fun _ => 0) 0 1 2 c0 c1 (fun _ => (fun _ => 0)) c2 (fun _ => (fun _ => 0)) c3 1 2 c4 c5 (fun _ => (fun _ => 0)) c6 (fun _ => (fun _ => 0)) c7 0 (fun _ => 0) 0 (fun _ => 0) (fun _ => 0) (fun _ => 0) (fun _ => 0) (fun _ => 0) (fun _ => 0) 0 0 0 0 (fun _ => 0) 0 (fun _ => 0) 0 0 (fun _ => 0) (fun _ => 0) 0 (fun _ => 0) (fun _ => 0) (fun _ => 0) 0 0 (fun _ => 0) 0 (fun _ => 0) (fun _ => 0) 0 1 (fun _ => 0) (fun _ => 0) 0 2 (fun _ => 0) (fun _ => 0) 0 (fun _ => (fun _ => 0)) (fun _ => 0) (fun _ => 0)) H := hP1
  have hD : va_D (fun q : Nat => s.heap.size ≤ q) (qX10 cy h1 xA0 xA1 xA2 xA3 xA4 xA5 xA6 xA7 xA8 xA9 (fun _ => 0) 0 1 2 c0 c1 (fun _ => (fun _ => 0)) c2 (fun _ => (fun _ => 0)) c3 1 2 c4 c5 (fun _ => (fun _ => 0)) c6 (fun _ => (fun _ => 0)) c7 0 (fun _ => 0) 0 (fun _ => 0) (fun _ => 0) (fun _ => 0) (fun _ => 0) (fun _ => 0) (fun _ => 0) 0 0 0 0 (fun _ => 0) 0 (fun _ => 0) 0 0 (fun _ => 0) (fun _ => 0) 0 (fun _ => 0) (fun _ => 0) (fun _ => 0) 0 0 (fun _ => 0) 0 (fun _ => 0) (fun _ => 0) 0 1 (fun _ => 0) (fun _ => 0) 0 2 (fun _ => 0) (fun _ => 0) 0 (fun _ => (fun _ => 0)) (fun _ => 0) (fun _ => 0)) := hD1
  refine W.widen (k := 76) (n := 1750) (Nat.le_of_ble_eq_true rfl) (Nat.le_of_ble_eq_true rfl) ?_
  refine lv_astore_n (lv' := [(1, .ref (h1 0)), (0, .ref b)]) hx hb dL_law_7 rfl hl (by decide) rfl (fun ls hl => ?_)
  refine va_new (ci := 11) (fs := [.int 0, .int 0, .int 0, .null, .null, .null, .null, .null, .null, .int 0, .int 0, .null, .int 0, .int 0, .null, .int 0, .null, .int 0, .int 0, .null, .null, .null, .null, .null, .int 0, .null, .null, .int 0, .int 0, .int 0, .int 0, .null, .null, .null, .null, .null]) (C := RX11) (T := TX11) (N := 36) hx hb hts wsL_in_wsX110 tyX11 tyX11_ok hown (hts (.classLink RL 10 RX11) (List.mem_of_getElem? (i := 843) rfl)) (hts (.instantiable RX11 36) (List.mem_of_getElem? (i := 844) rfl)) (hts (.initialized RX11) (List.mem_of_getElem? (i := 70) rfl)) hK hP hD hS hA rfl (fun j hj => by rcases (show j = 0 ∨ j = 1 ∨ j = 2 ∨ j = 3 ∨ j = 4 ∨ j = 5 ∨ j = 6 ∨ j = 7 ∨ j = 8 ∨ j = 9 ∨ j = 10 ∨ j = 11 ∨ j = 12 ∨ j = 13 ∨ j = 14 ∨ j = 15 ∨ j = 16 ∨ j = 17 ∨ j = 18 ∨ j = 19 ∨ j = 20 ∨ j = 21 ∨ j = 22 ∨ j = 23 ∨ j = 24 ∨ j = 25 ∨ j = 26 ∨ j = 27 ∨ j = 28 ∨ j = 29 ∨ j = 30 ∨ j = 31 ∨ j = 32 ∨ j = 33 ∨ j = 34 ∨ j = 35 by omega) with rfl | rfl | rfl | rfl | rfl | rfl | rfl | rfl | rfl | rfl | rfl | rfl | rfl | rfl | rfl | rfl | rfl | rfl | rfl | rfl | rfl | rfl | rfl | rfl | rfl | rfl | rfl | rfl | rfl | rfl | rfl | rfl | rfl | rfl | rfl | rfl <;> rfl) (Nat.le_of_ble_eq_true rfl) (Nat.le_of_ble_eq_true rfl) dL_law_8 (fun q2 H hP hD hS => ?_)
  have hP : va_P (dC, dI) vwCl (qX10 cy h1 xA0 xA1 xA2 xA3 xA4 xA5 xA6 xA7 xA8 xA9 (fun _ => 0) 0 1 2 c0 c1 (fun _ => (fun _ => 0)) c2 (fun _ => (fun _ => 0)) c3 1 2 c4 c5 (fun _ => (fun _ => 0)) c6 (fun _ => (fun _ => 0)) c7 0 (fun _ => 0) 0 (fun _ => 0) (fun _ => 0) (fun _ => 0) (fun _ => 0) (fun _ => 0) (fun _ => 0) 0 0 0 0 (fun _ => 0) 0 (fun _ => 0) 0 0 (fun _ => 0) (fun _ => 0) 0 (fun _ => 0) (fun _ => 0) (fun _ => 0) 0 0 (fun _ => 0) 0 (fun _ => 0) (fun _ => 0) 0 1 (fun _ => 0) (fun _ => 0) 0 2 (fun _ => 0) (fun _ => 0) 0 (fun _ => (fun _ => 0)) (fun _ => 0) (fun _ => 0) ++ [(q2, .inr (11, [.int 0, .int 0, .int 0, .null, .null, .null, .null, .null, .null, .int 0, .int 0, .null, .int 0, .int 0, .null, .int 0, .null, .int 0, .int 0, .null, .null, .null, .null, .null, .int 0, .null, .null, .int 0, .int 0, .int 0, .int 0, .null, .null, .null, .null, .null]))]) H := hP
  have hD : va_D (fun q : Nat => s.heap.size ≤ q) (qX10 cy h1 xA0 xA1 xA2 xA3 xA4 xA5 xA6 xA7 xA8 xA9 (fun _ => 0) 0 1 2 c0 c1 (fun _ => (fun _ => 0)) c2 (fun _ => (fun _ => 0)) c3 1 2 c4 c5 (fun _ => (fun _ => 0)) c6 (fun _ => (fun _ => 0)) c7 0 (fun _ => 0) 0 (fun _ => 0) (fun _ => 0) (fun _ => 0) (fun _ => 0) (fun _ => 0) (fun _ => 0) 0 0 0 0 (fun _ => 0) 0 (fun _ => 0) 0 0 (fun _ => 0) (fun _ => 0) 0 (fun _ => 0) (fun _ => 0) (fun _ => 0) 0 0 (fun _ => 0) 0 (fun _ => 0) (fun _ => 0) 0 1 (fun _ => 0) (fun _ => 0) 0 2 (fun _ => 0) (fun _ => 0) 0 (fun _ => (fun _ => 0)) (fun _ => 0) (fun _ => 0) ++ [(q2, .inr (11, [.int 0, .int 0, .int 0, .null, .null, .null, .null, .null, .null, .int 0, .int 0, .null, .int 0, .int 0, .null, .int 0, .null, .int 0, .int 0, .null, .null, .null, .null, .null, .int 0, .null, .null, .int 0, .int 0, .int 0, .int 0, .null, .null, .null, .null, .null]))]) := hD
  refine W.widen (k := 77) (n := 1786) (Nat.le_of_ble_eq_true rfl) (Nat.le_of_ble_eq_true rfl) ?_
  refine lv_dup hx hb dL_law_11 rfl ?_
  refine cn_call (As := []) (rest := [.ref q2]) ⟨hx, hb, hml, hown, htsL⟩ (kX11_init l dC dI cy q2) (cwI 0 htsL gL_law_X11_init rfl rfl rfl (hts (.initialized RX11) (List.mem_of_getElem? (i := 70) rfl)) (hts (.methodLink RL 12 yX11_init) (List.mem_of_getElem? (i := 845) rfl)) (hts (.instanceMethod yX11_init) (List.mem_of_getElem? (i := 846) rfl)) rfl (by decide +kernel) ⟨Nat.le_of_ble_eq_true rfl, Nat.le_of_ble_eq_true rfl⟩) hcx hK hP hD hS hA 76 rfl [0, 1, 2, 3, 4, 5, 6, 7, 8, 9, 10, 11, 12, 13, 14, 15, 16, 17, 18, 19, 20, 21, 22, 23, 24, 25, 26, 27, 28, 29, 30, 31, 32, 33, 34, 35, 36, 37, 38, 39, 40, 41, 42, 43, 44, 45, 46, 47, 48, 49, 50, 51, 52, 53, 54, 55, 56, 57, 58, 59, 60, 61, 62, 63, 64, 65, 66, 67, 68, 69, 70, 71, 72, 73, 74, 75] (wr := qX10 cy h1 xA0 xA1 xA2 xA3 xA4 xA5 xA6 xA7 xA8 xA9 (fun _ => 0) 0 1 2 c0 c1 (fun _ => (fun _ => 0)) c2 (fun _ => (fun _ => 0)) c3 1 2 c4 c5 (fun _ => (fun _ => 0)) c6 (fun _ => (fun _ => 0)) c7 0 (fun _ => 0) 0 (fun _ => 0) (fun _ => 0) (fun _ => 0) (fun _ => 0) (fun _ => 0) (fun _ => 0) 0 0 0 0 (fun _ => 0) 0 (fun _ => 0) 0 0 (fun _ => 0) (fun _ => 0) 0 (fun _ => 0) (fun _ => 0) (fun _ => 0) 0 0 (fun _ => 0) 0 (fun _ => 0) (fun _ => 0) 0 1 (fun _ => 0) (fun _ => 0) 0 2 (fun _ => 0) (fun _ => 0) 0 (fun _ => (fun _ => 0)) (fun _ => 0) (fun _ => 0)) rfl rfl (by decide) rfl hl.1 rfl (Nat.le_of_ble_eq_true rfl) ⟨Nat.le_of_ble_eq_true rfl, Nat.le_of_ble_eq_true rfl⟩ dL_law_12 (fun h2 H locs e2 hP1 hD1 hS => ?_)
  replace e2 : h2 0 = q2 := e2
  subst e2
  have hP : va_P (dC, dI) vwCl (pL_law cy (adl [h1 0, h1 1, h1 2, h1 3, h1 4, h1 5, h1 6, h1 7, h1 8, h1 9, h1 10, h1 11, h1 12, h1 13, h1 14, h1 15, h1 16, h1 17, h1 18, h1 19, h1 20, h1 21, h1 22, h1 23, h1 24, h1 25, h1 26, h1 27, h1 28, h1 29, h1 30, h1 31, h1 32, h1 33, h1 34, h1 35, h1 36, h1 37, h1 38, h1 39, h1 40, h1 41, h2 0, h2 1, h2 2, h2 3, h2 4, h2 5, h2 6, h2 7, h2 8, h2 9, h2 10, h2 11, h2 12, h2 13, h2 14, h2 15, h2 16, h2 17, h2 18, h2 19, h2 20, h2 21]) xA0 xA1 xA2 xA3 xA4 xA5 xA6 xA7 xA8 xA9 (fun _ => 0) 0 1 2 c0 c1 (fun _ => (fun _ => 0)) c2 (fun _ => (fun _ => 0)) c3 1 2 c4 c5 (fun _ => (fun _ => 0)) c6 (fun _ => (fun _ => 0)) c7 0 (fun _ => 0) 0 (fun _ => 0) (fun _ => 0) (fun _ => 0) (fun _ => 0) (fun _ => 0) (fun _ => 0) 0 0 0 0 (fun _ => 0) 0 (fun _ => 0) 0 0 (fun _ => 0) (fun _ => 0) 0 (fun _ => 0) (fun _ => 0) (fun _ => 0) 0 0 (fun _ => 0) 0 (fun _ => 0) (fun _ => 0) 0 1 (fun _ => 0) (fun _ => 0) 0 2 (fun _ => 0) (fun _ => 0) 0 (fun _ => (fun _ => 0)) (fun _ => 0) (fun _ => 0) 1 2 3 (upd (upd (upd (upd (fun _ => 0) (0 : Int32).toNatClampNeg 0) (1 : Int32).toNatClampNeg 1) (2 : Int32).toNatClampNeg 2) (3 : Int32).toNatClampNeg 3) (fun _ => 0) (fun _ => 0) (fun _ => 0) (fun _ => 0) (fun _ => 0) 0 0 (fun _ => 0) 0 0 (fun _ => 0) 0 (fun _ => 0) 0 0 (fun _ => 0) (fun _ => 0) (fun _ => 0) (fun _ => 0) (fun _ => 0) 0 (upd (upd (upd (fun _ => 0) (0 : Int32).toNatClampNeg (-1)) (1 : Int32).toNatClampNeg (-1)) (2 : Int32).toNatClampNeg (-1)) (fun _ => 0) 0 0 0 0 (fun _ => 0) (fun _ => 0) (fun _ => 0) (fun _ => 0) (fun _ => 0)) H := hP1
  have hD : va_D (fun q : Nat => s.heap.size ≤ q) (pL_law cy (adl [h1 0, h1 1, h1 2, h1 3, h1 4, h1 5, h1 6, h1 7, h1 8, h1 9, h1 10, h1 11, h1 12, h1 13, h1 14, h1 15, h1 16, h1 17, h1 18, h1 19, h1 20, h1 21, h1 22, h1 23, h1 24, h1 25, h1 26, h1 27, h1 28, h1 29, h1 30, h1 31, h1 32, h1 33, h1 34, h1 35, h1 36, h1 37, h1 38, h1 39, h1 40, h1 41, h2 0, h2 1, h2 2, h2 3, h2 4, h2 5, h2 6, h2 7, h2 8, h2 9, h2 10, h2 11, h2 12, h2 13, h2 14, h2 15, h2 16, h2 17, h2 18, h2 19, h2 20, h2 21]) xA0 xA1 xA2 xA3 xA4 xA5 xA6 xA7 xA8 xA9 (fun _ => 0) 0 1 2 c0 c1 (fun _ => (fun _ => 0)) c2 (fun _ => (fun _ => 0)) c3 1 2 c4 c5 (fun _ => (fun _ => 0)) c6 (fun _ => (fun _ => 0)) c7 0 (fun _ => 0) 0 (fun _ => 0) (fun _ => 0) (fun _ => 0) (fun _ => 0) (fun _ => 0) (fun _ => 0) 0 0 0 0 (fun _ => 0) 0 (fun _ => 0) 0 0 (fun _ => 0) (fun _ => 0) 0 (fun _ => 0) (fun _ => 0) (fun _ => 0) 0 0 (fun _ => 0) 0 (fun _ => 0) (fun _ => 0) 0 1 (fun _ => 0) (fun _ => 0) 0 2 (fun _ => 0) (fun _ => 0) 0 (fun _ => (fun _ => 0)) (fun _ => 0) (fun _ => 0) 1 2 3 (upd (upd (upd (upd (fun _ => 0) (0 : Int32).toNatClampNeg 0) (1 : Int32).toNatClampNeg 1) (2 : Int32).toNatClampNeg 2) (3 : Int32).toNatClampNeg 3) (fun _ => 0) (fun _ => 0) (fun _ => 0) (fun _ => 0) (fun _ => 0) 0 0 (fun _ => 0) 0 0 (fun _ => 0) 0 (fun _ => 0) 0 0 (fun _ => 0) (fun _ => 0) (fun _ => 0) (fun _ => 0) (fun _ => 0) 0 (upd (upd (upd (fun _ => 0) (0 : Int32).toNatClampNeg (-1)) (1 : Int32).toNatClampNeg (-1)) (2 : Int32).toNatClampNeg (-1)) (fun _ => 0) 0 0 0 0 (fun _ => 0) (fun _ => 0) (fun _ => 0) (fun _ => 0) (fun _ => 0)) := hD1
  refine W.widen (k := 98) (n := 5296) (Nat.le_of_ble_eq_true rfl) (Nat.le_of_ble_eq_true rfl) ?_
  refine lv_astore_n (lv' := [(2, .ref (h2 0)), (1, .ref (h1 0)), (0, .ref b)]) hx hb dL_law_15 rfl hl (by decide) rfl (fun ls hl => ?_)
  refine lv_iconst (v := 0) hx hb dL_law_16 (by decide) ?_
  refine lv_istore_n (lv' := [(3, .int 0), (2, .ref (h2 0)), (1, .ref (h1 0)), (0, .ref b)]) hx hb dL_law_17 rfl hl (by decide) rfl (fun ls hl => ?_)
  obtain ⟨n, hv⟩ := hv
  exact wL_18 l (adl [h1 0, h1 1, h1 2, h1 3, h1 4, h1 5, h1 6, h1 7, h1 8, h1 9, h1 10, h1 11, h1 12, h1 13, h1 14, h1 15, h1 16, h1 17, h1 18, h1 19, h1 20, h1 21, h1 22, h1 23, h1 24, h1 25, h1 26, h1 27, h1 28, h1 29, h1 30, h1 31, h1 32, h1 33, h1 34, h1 35, h1 36, h1 37, h1 38, h1 39, h1 40, h1 41, h2 0, h2 1, h2 2, h2 3, h2 4, h2 5, h2 6, h2 7, h2 8, h2 9, h2 10, h2 11, h2 12, h2 13, h2 14, h2 15, h2 16, h2 17, h2 18, h2 19, h2 20, h2 21]) xA0 xA1 xA2 xA3 xA4 xA5 xA6 xA7 xA8 xA9 0 1 2 C0 hK hJ n (fun _ => 0) 0 1 2 c0 c1 (fun _ => (fun _ => 0)) c2 (fun _ => (fun _ => 0)) c3 1 2 c4 c5 (fun _ => (fun _ => 0)) c6 (fun _ => (fun _ => 0)) c7 0 (fun _ => 0) 0 (fun _ => 0) (fun _ => 0) (fun _ => 0) (fun _ => 0) (fun _ => 0) (fun _ => 0) 0 0 0 0 (fun _ => 0) 0 (fun _ => 0) 0 0 (fun _ => 0) (fun _ => 0) 0 (fun _ => 0) (fun _ => 0) (fun _ => 0) 0 0 (fun _ => 0) (fun _ => 0) (fun _ => 0) 0 (fun _ => 0) (fun _ => 0) 0 (fun _ => 0) (fun _ => 0) 0 (fun _ => (fun _ => 0)) (fun _ => 0) (fun _ => 0) 1 2 3 (upd (upd (upd (upd (fun _ => 0) (0 : Int32).toNatClampNeg 0) (1 : Int32).toNatClampNeg 1) (2 : Int32).toNatClampNeg 2) (3 : Int32).toNatClampNeg 3) (fun _ => 0) (fun _ => 0) (fun _ => 0) (fun _ => 0) (fun _ => 0) 0 0 (fun _ => 0) 0 0 (fun _ => 0) 0 (fun _ => 0) 0 0 (fun _ => 0) (fun _ => 0) (fun _ => 0) (fun _ => 0) (fun _ => 0) 0 (upd (upd (upd (fun _ => 0) (0 : Int32).toNatClampNeg (-1)) (1 : Int32).toNatClampNeg (-1)) (2 : Int32).toNatClampNeg (-1)) (fun _ => 0) 0 0 0 0 (fun _ => 0) (fun _ => 0) (fun _ => 0) (fun _ => 0) (fun _ => 0) 0 hv _ _ _ hP hD hS (lv_sub hl [3, 2, 1, 0] rfl)
