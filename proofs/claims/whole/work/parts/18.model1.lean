theorem zX11_isIn : yX11_isIn.cls ≠ "java/lang/invoke/MethodHandle" ∧ yX11_isIn.cls ≠ "java/lang/invoke/VarHandle" ∧ (parseMethodDescriptor yX11_isIn.desc).map (fun d => d.parameters.length) = some 3 := by decide +kernel
abbrev rX11_isIn : Room := { frames := 0, cells := 0, slots := 0, locals := 0 }
abbrev pX11_isIn (cy : Nat → ClassId) (h : Nat → Nat)  : va_W := []
def VX11_isIn (post : Int32 → Prop)  (p0 : Int32) (p1 : Int32) (p2 : Int32)  : Prop := ((p0 < p1) → post (0 : Int32)) ∧ (¬ (p0 < p1) → ((p2 < p0) → post (0 : Int32)) ∧ (¬ (p2 < p0) → post (1 : Int32)))
set_option maxHeartbeats 4000000 in
set_option maxRecDepth 100000 in
theorem wX11_isIn_0 {p : Program} (l : Launch) {e : Env} {s : State} {m : MethodId} {args : Array Value} {below : List Frame} {meth : Method} {c : Code} {dC : Nat → ClassId} {dI : Nat → Nat → Nat} {cy : Nat → ClassId} {A : Nat → Prop} (h : Nat → Nat) (post : Int32 → Prop)    (p0 : Int32) (p1 : Int32) (p2 : Int32) (C0 : cx p s m args meth c cX11_isIn 3 (some .boolean) wsX11_isIn RX11 dC dI cy A)  : VX11_isIn post p0 p1 p2  → ∀ (H : Heap) (locs : List Loc) (ls : Array Slot), va_P (dC, dI) vwCl (pX11_isIn cy h ) H → va_D A (pX11_isIn cy h ) → va_S A s.heap H locs → lv_has ls 3 [(0, .int p0), (1, .int p1), (2, .int p2)] → W p l e rX11_isIn s m args below meth c H locs 0 0 (MQ below (va_Qi (fun (r : Int32) (_ : Unit) => post r) (fun (_ : Unit) (t : State) => va_P (dC, dI) vwCl (pX11_isIn cy h ) t.heap) A) args s 0 0 A) (F0 m 0 ls []) := by
  have C1 := C0
  obtain ⟨hx, hb, hr, hml, hown, hts, hlocks, hK, hA⟩ := C1
  intro  hv H locs ls hP hD hS hl
  refine lv_iload_n hx hb dX11_isIn_0 rfl (lv_at hl 0 rfl) ?_
  refine lv_iload_n hx hb dX11_isIn_1 rfl (lv_at hl 1 rfl) ?_
  refine lv_icmp_lt (tgt := 14) hx hb dX11_isIn_2 (by decide) (fun c_2 => ?_) (fun c_2 => ?_)
  · have hv := hv.1 c_2
    refine lv_iconst (v := 0) hx hb dX11_isIn_14 (by decide) ?_
    exact W.zret (v := 0) hx hb hr rfl (fun t ht hW => ⟨⟨0, (), rfl, hv, va_Ph ht hP⟩, hS.F ht⟩) hS.2.2 dX11_isIn_15
  · have hv := hv.2 c_2
    refine lv_iload_n hx hb dX11_isIn_5 rfl (lv_at hl 0 rfl) ?_
    refine lv_iload_n hx hb dX11_isIn_6 rfl (lv_at hl 2 rfl) ?_
    refine lv_icmp_gt (tgt := 14) hx hb dX11_isIn_7 (by decide) (fun c_1 => ?_) (fun c_1 => ?_)
    · have hv := hv.1 c_1
      refine lv_iconst (v := 0) hx hb dX11_isIn_14 (by decide) ?_
      exact W.zret (v := 0) hx hb hr rfl (fun t ht hW => ⟨⟨0, (), rfl, hv, va_Ph ht hP⟩, hS.F ht⟩) hS.2.2 dX11_isIn_15
    · have hv := hv.2 c_1
      refine lv_iconst (v := 1) hx hb dX11_isIn_10 (by decide) ?_
      refine lv_goto (tgt := 15) hx hb dX11_isIn_11 (by decide) ?_
      exact W.zret (v := 1) hx hb hr rfl (fun t ht hW => ⟨⟨1, (), rfl, hv, va_Ph ht hP⟩, hS.F ht⟩) hS.2.2 dX11_isIn_15
theorem kX11_isIn (l : Launch) (dC : Nat → ClassId) (dI : Nat → Nat → Nat) (cy : Nat → ClassId) (h : Nat → Nat)  (p0 : Int32) (p1 : Int32) (p2 : Int32) (post : Int32 → Prop) (hv : VX11_isIn post p0 p1 p2 ) : CtI l yX11_isIn wsX11_isIn rX11_isIn dC dI cy [.int p0, .int p1, .int p2] (pX11_isIn cy h ) (fun (_ : Unit) => pX11_isIn cy h ) (fun (r : Int32) (_ : Unit) => post r) :=
  ct_ofI (by decide) rfl (Nat.le_of_ble_eq_true rfl) (fun p e s m below meth c A ls C0 hP hD hS hl => wX11_isIn_0 l h post p0 p1 p2 C0  hv _ _ _ hP hD hS hl)
theorem mX11_feed_1 : (Cond.fieldLink RX11 89 "AbelianPowersModel" "fed" "I") ∈ wsX11_feed := List.mem_of_getElem? (i := 1) rfl
theorem mX11_feed_2 : (Cond.fieldLink RX11 35 "AbelianPowersModel" "input" "[I") ∈ wsX11_feed := List.mem_of_getElem? (i := 2) rfl
theorem nX11_feed_X11 : ∀ w ∈ wsX110, w ∈ wsX11_feed := fun _ h => List.mem_cons_of_mem _ (List.mem_append_right _ h)
theorem zX11_feed : yX11_feed.cls = RX11 ∧ yX11_feed.cls ≠ "java/lang/invoke/MethodHandle" ∧ yX11_feed.cls ≠ "java/lang/invoke/VarHandle" ∧ (parseMethodDescriptor yX11_feed.desc).map (fun d => d.parameters.length) = some 1 := by decide +kernel
abbrev rX11_feed : Room := { frames := 1, cells := 0, slots := 0, locals := 22 }
abbrev pX11_feed (cy : Nat → ClassId) (h : Nat → Nat) (t_kind : Int32) (t_exponent : Int32) (t_letters : Int32) (t_input : Nat → Int32) (t_fed : Int32) (t_at : Int32) (t_rowSize : Int32) (t_steps : Int32) (t_foundMany : Int32) (t_keptMany : Int32) (t_keptLetters : Int32) (t_isFull : Int32) (t_isSaved : Int32) (t_savedKind : Int32) (t_savedExponent : Int32) (t_savedLetters : Int32) : va_W := [(h 0, .inr (11, [.int t_kind, .int t_exponent, .int t_letters, .ref (h 2), .ref (h 3), .ref (h 4), .ref (h 5), .ref (h 6), .ref (h 1), .int t_fed, .int t_at, .ref (h 7), .int t_rowSize, .int t_steps, .ref (h 8), .int t_foundMany, .ref (h 9), .int t_keptMany, .int t_keptLetters, .ref (h 10), .ref (h 11), .ref (h 12), .ref (h 13), .ref (h 14), .int t_isFull, .ref (h 15), .ref (h 16), .int t_isSaved, .int t_savedKind, .int t_savedExponent, .int t_savedLetters, .ref (h 17), .ref (h 18), .ref (h 19), .ref (h 20), .ref (h 21)])), (h 1, .inl (cy 0, 16, .inl t_input))]
def VX11_feed (post : Int32 → (Nat → Int32) → Int32 → Prop)  (p1 : Int32) (t_input : Nat → Int32) (t_fed : Int32) : Prop := VX11_isIn (fun r_1 => (¬ (r_1 = 0) → (¬ (t_fed = 16) → vp_in t_fed 16 ∧ (post (t_fed + 1) (upd t_input t_fed.toNatClampNeg p1) (t_fed + 1))) ∧ ((t_fed = 16) → post (-3 : Int32) t_input t_fed)) ∧ ((r_1 = 0) → post (-1 : Int32) t_input t_fed)) p1 1 127
set_option maxHeartbeats 4000000 in
set_option maxRecDepth 100000 in
theorem wX11_feed_0 {p : Program} (l : Launch) {e : Env} {s : State} {m : MethodId} {args : Array Value} {below : List Frame} {meth : Method} {c : Code} {dC : Nat → ClassId} {dI : Nat → Nat → Nat} {cy : Nat → ClassId} {A : Nat → Prop} (h : Nat → Nat) (post : Int32 → (Nat → Int32) → Int32 → Prop)   (t_kind : Int32) (t_exponent : Int32) (t_letters : Int32) (t_at : Int32) (t_rowSize : Int32) (t_steps : Int32) (t_foundMany : Int32) (t_keptMany : Int32) (t_keptLetters : Int32) (t_isFull : Int32) (t_isSaved : Int32) (t_savedKind : Int32) (t_savedExponent : Int32) (t_savedLetters : Int32) (p1 : Int32) (C0 : cx p s m args meth c cX11_feed 2 (some .int) wsX11_feed RX11 dC dI cy A)  : ∀ (t_input : Nat → Int32) (t_fed : Int32), VX11_feed post p1 t_input t_fed → ∀ (H : Heap) (locs : List Loc) (ls : Array Slot), va_P (dC, dI) vwCl (pX11_feed cy h t_kind t_exponent t_letters t_input t_fed t_at t_rowSize t_steps t_foundMany t_keptMany t_keptLetters t_isFull t_isSaved t_savedKind t_savedExponent t_savedLetters) H → va_D A (pX11_feed cy h t_kind t_exponent t_letters t_input t_fed t_at t_rowSize t_steps t_foundMany t_keptMany t_keptLetters t_isFull t_isSaved t_savedKind t_savedExponent t_savedLetters) → va_S A s.heap H locs → lv_has ls 2 [(0, .ref (h 0)), (1, .int p1)] → W p l e rX11_feed s m args below meth c H locs 0 0 (MQ below (va_Qi (fun (r : Int32) (u : (Nat → Int32) × Int32) => post r u.1 u.2) (fun (u : (Nat → Int32) × Int32) (t : State) => va_P (dC, dI) vwCl (pX11_feed cy h t_kind t_exponent t_letters u.1 u.2 t_at t_rowSize t_steps t_foundMany t_keptMany t_keptLetters t_isFull t_isSaved t_savedKind t_savedExponent t_savedLetters) t.heap) A) args s 0 0 A) (F0 m 0 ls []) := by
  have C1 := C0
  obtain ⟨hx, hb, hr, hml, hown, hts, hlocks, hK, hA⟩ := C1
  intro t_input t_fed hv H locs ls hP hD hS hl
  refine lv_iload_n hx hb dX11_feed_0 rfl (lv_at hl 1 rfl) ?_
  refine lv_iconst (v := 1) hx hb dX11_feed_1 (by decide) ?_
  refine lv_bipush (v := 127) hx hb dX11_feed_2 (by decide) ?_
  refine cb_SI (As := [.int p1, .int 1, .int 127]) (rest := []) ⟨hx, hb, hml, hown, hts⟩ (kX11_isIn l dC dI cy (adl []) p1 1 127 _ hv) (va_cwS 3 hts gX11_feed_X11_isIn rfl rfl rfl zX11_isIn ⟨Nat.le_of_ble_eq_true rfl, Nat.le_of_ble_eq_true rfl⟩) hK hP hD hS hA [] [none, none] rfl rfl rfl (fun _ => rfl) rfl hl.1 rfl (Nat.le_of_ble_eq_true rfl) dX11_feed_4 (fun r_1 w_5 H locs hv hP hD hS => ?_)
  have hP : va_P (dC, dI) vwCl (pX11_feed cy h t_kind t_exponent t_letters t_input t_fed t_at t_rowSize t_steps t_foundMany t_keptMany t_keptLetters t_isFull t_isSaved t_savedKind t_savedExponent t_savedLetters) H := hP
  have hD : va_D A (pX11_feed cy h t_kind t_exponent t_letters t_input t_fed t_at t_rowSize t_steps t_foundMany t_keptMany t_keptLetters t_isFull t_isSaved t_savedKind t_savedExponent t_savedLetters) := hD
  refine lv_if_ne (tgt := 12) hx hb dX11_feed_7 (by decide) (fun c_4 => ?_) (fun c_4 => ?_)
  · have hv := hv.1 c_4
    refine lv_aload_n hx hb dX11_feed_12 rfl (lv_at hl 0 rfl) ?_
    refine va_get (D := (dC, dI)) (ci := 11) (v := .int t_fed) (C := RX11) (T := TX11) (N := 36) hx hb hts nX11_feed_X11 hown hK hP 0 rfl rfl 9 (by decide) (hts _ mX11_feed_1) (fun _ h9 => h9) rfl dX11_feed_13 ?_
    refine lv_bipush (v := 16) hx hb dX11_feed_16 (by decide) ?_
    refine lv_icmp_ne (tgt := 24) hx hb dX11_feed_18 (by decide) (fun c_3 => ?_) (fun c_3 => ?_)
    · have hv := hv.1 c_3
      refine lv_aload_n hx hb dX11_feed_24 rfl (lv_at hl 0 rfl) ?_
      refine va_get (D := (dC, dI)) (ci := 11) (v := .ref (h 1)) (C := RX11) (T := TX11) (N := 36) hx hb hts nX11_feed_X11 hown hK hP 0 rfl rfl 8 (by decide) (hts _ mX11_feed_2) (fun _ h9 => h9) rfl dX11_feed_25 ?_
      refine lv_aload_n hx hb dX11_feed_28 rfl (lv_at hl 0 rfl) ?_
      refine va_get (D := (dC, dI)) (ci := 11) (v := .int t_fed) (C := RX11) (T := TX11) (N := 36) hx hb hts nX11_feed_X11 hown hK hP 0 rfl rfl 9 (by decide) (hts _ mX11_feed_1) (fun _ h9 => h9) rfl dX11_feed_29 ?_
      refine lv_iload_n hx hb dX11_feed_32 rfl (lv_at hl 1 rfl) ?_
      have h_2 := hv.1
      have hv := hv.2
      refine va_iast hx hb hK hP hD hS 1 0 rfl rfl h_2 dX11_feed_33 (fun H locs hP hD hS => ?_)
      have hP : va_P (dC, dI) vwCl (pX11_feed cy h t_kind t_exponent t_letters (upd t_input t_fed.toNatClampNeg p1) t_fed t_at t_rowSize t_steps t_foundMany t_keptMany t_keptLetters t_isFull t_isSaved t_savedKind t_savedExponent t_savedLetters) H := hP
      have hD : va_D A (pX11_feed cy h t_kind t_exponent t_letters (upd t_input t_fed.toNatClampNeg p1) t_fed t_at t_rowSize t_steps t_foundMany t_keptMany t_keptLetters t_isFull t_isSaved t_savedKind t_savedExponent t_savedLetters) := hD
      refine lv_aload_n hx hb dX11_feed_34 rfl (lv_at hl 0 rfl) ?_
      refine lv_dup hx hb dX11_feed_35 rfl ?_
      refine va_get (D := (dC, dI)) (ci := 11) (v := .int t_fed) (C := RX11) (T := TX11) (N := 36) hx hb hts nX11_feed_X11 hown hK hP 0 rfl rfl 9 (by decide) (hts _ mX11_feed_1) (fun _ h9 => h9) rfl dX11_feed_36 ?_
      refine lv_iconst (v := 1) hx hb dX11_feed_39 (by decide) ?_
      refine lv_iadd hx hb dX11_feed_40 ?_
      refine va_put (D := (dC, dI)) (ci := 11) (v := .int (t_fed + 1)) (ty := .int) (C := RX11) (T := TX11) (N := 36) hx hb hts nX11_feed_X11 tyX11 tyX11_ok nmX11 hown hK hP hD hS 0 rfl rfl 9 (by decide) (hts _ mX11_feed_1) (fun _ h9 => h9) rfl (by decide +kernel) rfl rfl (Nat.le_of_ble_eq_true rfl) dX11_feed_41 (fun H locs hP hD hS => ?_)
      have hP : va_P (dC, dI) vwCl (pX11_feed cy h t_kind t_exponent t_letters (upd t_input t_fed.toNatClampNeg p1) (t_fed + 1) t_at t_rowSize t_steps t_foundMany t_keptMany t_keptLetters t_isFull t_isSaved t_savedKind t_savedExponent t_savedLetters) H := hP
      have hD : va_D A (pX11_feed cy h t_kind t_exponent t_letters (upd t_input t_fed.toNatClampNeg p1) (t_fed + 1) t_at t_rowSize t_steps t_foundMany t_keptMany t_keptLetters t_isFull t_isSaved t_savedKind t_savedExponent t_savedLetters) := hD
      refine lv_aload_n hx hb dX11_feed_44 rfl (lv_at hl 0 rfl) ?_
      refine va_get (D := (dC, dI)) (ci := 11) (v := .int ((t_fed + 1))) (C := RX11) (T := TX11) (N := 36) hx hb hts nX11_feed_X11 hown hK hP 0 rfl rfl 9 (by decide) (hts _ mX11_feed_1) (fun _ h9 => h9) rfl dX11_feed_45 ?_
      exact W.iret (v := (t_fed + 1)) hx hb hr (fun t ht hW => ⟨⟨(t_fed + 1), ((upd t_input t_fed.toNatClampNeg p1), (t_fed + 1)), rfl, hv, va_Ph ht hP⟩, hS.F ht⟩) hS.2.2 dX11_feed_48
    · have hv := hv.2 c_3
      refine lv_bipush (v := (-3)) hx hb dX11_feed_21 (by decide) ?_
      exact W.iret (v := (-3)) hx hb hr (fun t ht hW => ⟨⟨(-3), (t_input, t_fed), rfl, hv, va_Ph ht hP⟩, hS.F ht⟩) hS.2.2 dX11_feed_23
  · have hv := hv.2 c_4
    refine lv_iconst (v := (-1)) hx hb dX11_feed_10 (by decide) ?_
    exact W.iret (v := (-1)) hx hb hr (fun t ht hW => ⟨⟨(-1), (t_input, t_fed), rfl, hv, va_Ph ht hP⟩, hS.F ht⟩) hS.2.2 dX11_feed_11
theorem kX11_feed (l : Launch) (dC : Nat → ClassId) (dI : Nat → Nat → Nat) (cy : Nat → ClassId) (h : Nat → Nat) (t_kind : Int32) (t_exponent : Int32) (t_letters : Int32) (t_input : Nat → Int32) (t_fed : Int32) (t_at : Int32) (t_rowSize : Int32) (t_steps : Int32) (t_foundMany : Int32) (t_keptMany : Int32) (t_keptLetters : Int32) (t_isFull : Int32) (t_isSaved : Int32) (t_savedKind : Int32) (t_savedExponent : Int32) (t_savedLetters : Int32) (p1 : Int32) (post : Int32 → (Nat → Int32) → Int32 → Prop) (hv : VX11_feed post p1 t_input t_fed) : CtI l yX11_feed wsX11_feed rX11_feed dC dI cy [.ref (h 0), .int p1] (pX11_feed cy h t_kind t_exponent t_letters t_input t_fed t_at t_rowSize t_steps t_foundMany t_keptMany t_keptLetters t_isFull t_isSaved t_savedKind t_savedExponent t_savedLetters) (fun (u : (Nat → Int32) × Int32) => pX11_feed cy h t_kind t_exponent t_letters u.1 u.2 t_at t_rowSize t_steps t_foundMany t_keptMany t_keptLetters t_isFull t_isSaved t_savedKind t_savedExponent t_savedLetters) (fun (r : Int32) (u : (Nat → Int32) × Int32) => post r u.1 u.2) :=
  ct_ofI (by decide) rfl (Nat.le_of_ble_eq_true rfl) (fun p e s m below meth c A ls C0 hP hD hS hl => wX11_feed_0 l h post t_kind t_exponent t_letters t_at t_rowSize t_steps t_foundMany t_keptMany t_keptLetters t_isFull t_isSaved t_savedKind t_savedExponent t_savedLetters p1 C0 t_input t_fed hv _ _ _ hP hD hS hl)
theorem zX11_nameAt : yX11_nameAt.cls ≠ "java/lang/invoke/MethodHandle" ∧ yX11_nameAt.cls ≠ "java/lang/invoke/VarHandle" ∧ (parseMethodDescriptor yX11_nameAt.desc).map (fun d => d.parameters.length) = some 2 := by decide +kernel
abbrev rX11_nameAt : Room := { frames := 0, cells := 0, slots := 0, locals := 0 }
abbrev pX11_nameAt (cy : Nat → ClassId) (h : Nat → Nat)  : va_W := []
def VX11_nameAt (post : Int32 → Prop)  (p0 : Int32) (p1 : Int32)  : Prop := ((p0.toInt < 0 ∨ 2 < p0.toInt) → (¬ (p1 = 0) → (¬ (p1 = 1) → (¬ (p1 = 2) → (¬ (p1 = 3) → (¬ (p1 = 4) → post (0 : Int32)) ∧ ((p1 = 4) → post (100 : Int32))) ∧ ((p1 = 3) → post (101 : Int32))) ∧ ((p1 = 2) → post (120 : Int32))) ∧ ((p1 = 1) → post (105 : Int32))) ∧ ((p1 = 0) → post (109 : Int32))) ∧ (p0 = 0 → (¬ (p1 = 0) → (¬ (p1 = 1) → (¬ (p1 = 2) → (¬ (p1 = 3) → (¬ (p1 = 4) → post (0 : Int32)) ∧ ((p1 = 4) → post (108 : Int32))) ∧ ((p1 = 3) → post (97 : Int32))) ∧ ((p1 = 2) → post (117 : Int32))) ∧ ((p1 = 1) → post (113 : Int32))) ∧ ((p1 = 0) → post (101 : Int32))) ∧ (p0 = 1 → (¬ (p1 = 0) → (¬ (p1 = 1) → (¬ (p1 = 2) → (¬ (p1 = 3) → (¬ (p1 = 4) → (¬ (p1 = 5) → (¬ (p1 = 6) → post (0 : Int32)) ∧ ((p1 = 6) → post (110 : Int32))) ∧ ((p1 = 5) → post (97 : Int32))) ∧ ((p1 = 4) → post (105 : Int32))) ∧ ((p1 = 3) → post (108 : Int32))) ∧ ((p1 = 2) → post (101 : Int32))) ∧ ((p1 = 1) → post (98 : Int32))) ∧ ((p1 = 0) → post (97 : Int32))) ∧ (p0 = 2 → (¬ (p1 = 0) → (¬ (p1 = 1) → (¬ (p1 = 2) → (¬ (p1 = 3) → (¬ (p1 = 4) → (¬ (p1 = 5) → (¬ (p1 = 6) → (¬ (p1 = 7) → post (0 : Int32)) ∧ ((p1 = 7) → post (101 : Int32))) ∧ ((p1 = 6) → post (118 : Int32))) ∧ ((p1 = 5) → post (105 : Int32))) ∧ ((p1 = 4) → post (116 : Int32))) ∧ ((p1 = 3) → post (105 : Int32))) ∧ ((p1 = 2) → post (100 : Int32))) ∧ ((p1 = 1) → post (100 : Int32))) ∧ ((p1 = 0) → post (97 : Int32)))
set_option maxHeartbeats 4000000 in
set_option maxRecDepth 100000 in
theorem wX11_nameAt_0 {p : Program} (l : Launch) {e : Env} {s : State} {m : MethodId} {args : Array Value} {below : List Frame} {meth : Method} {c : Code} {dC : Nat → ClassId} {dI : Nat → Nat → Nat} {cy : Nat → ClassId} {A : Nat → Prop} (h : Nat → Nat) (post : Int32 → Prop)    (p0 : Int32) (p1 : Int32) (C0 : cx p s m args meth c cX11_nameAt 2 (some .int) wsX11_nameAt RX11 dC dI cy A)  : VX11_nameAt post p0 p1  → ∀ (H : Heap) (locs : List Loc) (ls : Array Slot), va_P (dC, dI) vwCl (pX11_nameAt cy h ) H → va_D A (pX11_nameAt cy h ) → va_S A s.heap H locs → lv_has ls 2 [(0, .int p0), (1, .int p1)] → W p l e rX11_nameAt s m args below meth c H locs 0 0 (MQ below (va_Qi (fun (r : Int32) (_ : Unit) => post r) (fun (_ : Unit) (t : State) => va_P (dC, dI) vwCl (pX11_nameAt cy h ) t.heap) A) args s 0 0 A) (F0 m 0 ls []) := by
  have C1 := C0
  obtain ⟨hx, hb, hr, hml, hown, hts, hlocks, hK, hA⟩ := C1
  intro  hv H locs ls hP hD hS hl
  refine lv_iload_n hx hb dX11_nameAt_0 rfl (lv_at hl 0 rfl) ?_
  by_cases c_26 : (p0.toInt < 0 ∨ 2 < p0.toInt)
  · have hv := hv.1 c_26
    refine lv_tableOut (tgt := 234) hx hb dX11_nameAt_1 c_26 (by decide) ?_
    refine lv_iload_n hx hb dX11_nameAt_234 rfl (lv_at hl 1 rfl) ?_
    refine lv_if_ne (tgt := 243) hx hb dX11_nameAt_235 (by decide) (fun c_25 => ?_) (fun c_25 => ?_)
    · have hv := hv.1 c_25
      refine lv_iload_n hx hb dX11_nameAt_243 rfl (lv_at hl 1 rfl) ?_
      refine lv_iconst (v := 1) hx hb dX11_nameAt_244 (by decide) ?_
      refine lv_icmp_ne (tgt := 253) hx hb dX11_nameAt_245 (by decide) (fun c_24 => ?_) (fun c_24 => ?_)
      · have hv := hv.1 c_24
        refine lv_iload_n hx hb dX11_nameAt_253 rfl (lv_at hl 1 rfl) ?_
        refine lv_iconst (v := 2) hx hb dX11_nameAt_254 (by decide) ?_
        refine lv_icmp_ne (tgt := 263) hx hb dX11_nameAt_255 (by decide) (fun c_23 => ?_) (fun c_23 => ?_)
        · have hv := hv.1 c_23
          refine lv_iload_n hx hb dX11_nameAt_263 rfl (lv_at hl 1 rfl) ?_
          refine lv_iconst (v := 3) hx hb dX11_nameAt_264 (by decide) ?_
          refine lv_icmp_ne (tgt := 273) hx hb dX11_nameAt_265 (by decide) (fun c_22 => ?_) (fun c_22 => ?_)
          · have hv := hv.1 c_22
            refine lv_iload_n hx hb dX11_nameAt_273 rfl (lv_at hl 1 rfl) ?_
            refine lv_iconst (v := 4) hx hb dX11_nameAt_274 (by decide) ?_
            refine lv_icmp_ne (tgt := 283) hx hb dX11_nameAt_275 (by decide) (fun c_21 => ?_) (fun c_21 => ?_)
            · have hv := hv.1 c_21
              refine lv_iconst (v := 0) hx hb dX11_nameAt_283 (by decide) ?_
              exact W.iret (v := 0) hx hb hr (fun t ht hW => ⟨⟨0, (), rfl, hv, va_Ph ht hP⟩, hS.F ht⟩) hS.2.2 dX11_nameAt_284
            · have hv := hv.2 c_21
              refine lv_bipush (v := 100) hx hb dX11_nameAt_278 (by decide) ?_
              refine lv_goto (tgt := 284) hx hb dX11_nameAt_280 (by decide) ?_
              exact W.iret (v := 100) hx hb hr (fun t ht hW => ⟨⟨100, (), rfl, hv, va_Ph ht hP⟩, hS.F ht⟩) hS.2.2 dX11_nameAt_284
          · have hv := hv.2 c_22
            refine lv_bipush (v := 101) hx hb dX11_nameAt_268 (by decide) ?_
            refine lv_goto (tgt := 284) hx hb dX11_nameAt_270 (by decide) ?_
            exact W.iret (v := 101) hx hb hr (fun t ht hW => ⟨⟨101, (), rfl, hv, va_Ph ht hP⟩, hS.F ht⟩) hS.2.2 dX11_nameAt_284
        · have hv := hv.2 c_23
          refine lv_bipush (v := 120) hx hb dX11_nameAt_258 (by decide) ?_
          refine lv_goto (tgt := 284) hx hb dX11_nameAt_260 (by decide) ?_
          exact W.iret (v := 120) hx hb hr (fun t ht hW => ⟨⟨120, (), rfl, hv, va_Ph ht hP⟩, hS.F ht⟩) hS.2.2 dX11_nameAt_284
      · have hv := hv.2 c_24
        refine lv_bipush (v := 105) hx hb dX11_nameAt_248 (by decide) ?_
        refine lv_goto (tgt := 284) hx hb dX11_nameAt_250 (by decide) ?_
        exact W.iret (v := 105) hx hb hr (fun t ht hW => ⟨⟨105, (), rfl, hv, va_Ph ht hP⟩, hS.F ht⟩) hS.2.2 dX11_nameAt_284
    · have hv := hv.2 c_25
      refine lv_bipush (v := 109) hx hb dX11_nameAt_238 (by decide) ?_
      refine lv_goto (tgt := 284) hx hb dX11_nameAt_240 (by decide) ?_
      exact W.iret (v := 109) hx hb hr (fun t ht hW => ⟨⟨109, (), rfl, hv, va_Ph ht hP⟩, hS.F ht⟩) hS.2.2 dX11_nameAt_284
  · rcases sw_3 p0 c_26 with c_26 | c_26 | c_26
    · have hv := hv.2.1 c_26
      refine lv_tableIn (tgt := 28) hx hb dX11_nameAt_1 (by rw [c_26]; decide) (by rw [c_26]; decide) (by rw [c_26]; rfl) (by decide) ?_
      refine lv_iload_n hx hb dX11_nameAt_28 rfl (lv_at hl 1 rfl) ?_
      refine lv_if_ne (tgt := 37) hx hb dX11_nameAt_29 (by decide) (fun c_5 => ?_) (fun c_5 => ?_)
      · have hv := hv.1 c_5
        refine lv_iload_n hx hb dX11_nameAt_37 rfl (lv_at hl 1 rfl) ?_
        refine lv_iconst (v := 1) hx hb dX11_nameAt_38 (by decide) ?_
        refine lv_icmp_ne (tgt := 47) hx hb dX11_nameAt_39 (by decide) (fun c_4 => ?_) (fun c_4 => ?_)
        · have hv := hv.1 c_4
          refine lv_iload_n hx hb dX11_nameAt_47 rfl (lv_at hl 1 rfl) ?_
          refine lv_iconst (v := 2) hx hb dX11_nameAt_48 (by decide) ?_
          refine lv_icmp_ne (tgt := 57) hx hb dX11_nameAt_49 (by decide) (fun c_3 => ?_) (fun c_3 => ?_)
          · have hv := hv.1 c_3
            refine lv_iload_n hx hb dX11_nameAt_57 rfl (lv_at hl 1 rfl) ?_
            refine lv_iconst (v := 3) hx hb dX11_nameAt_58 (by decide) ?_
            refine lv_icmp_ne (tgt := 67) hx hb dX11_nameAt_59 (by decide) (fun c_2 => ?_) (fun c_2 => ?_)
            · have hv := hv.1 c_2
              refine lv_iload_n hx hb dX11_nameAt_67 rfl (lv_at hl 1 rfl) ?_
              refine lv_iconst (v := 4) hx hb dX11_nameAt_68 (by decide) ?_
              refine lv_icmp_ne (tgt := 77) hx hb dX11_nameAt_69 (by decide) (fun c_1 => ?_) (fun c_1 => ?_)
              · have hv := hv.1 c_1
                refine lv_iconst (v := 0) hx hb dX11_nameAt_77 (by decide) ?_
                exact W.iret (v := 0) hx hb hr (fun t ht hW => ⟨⟨0, (), rfl, hv, va_Ph ht hP⟩, hS.F ht⟩) hS.2.2 dX11_nameAt_78
              · have hv := hv.2 c_1
                refine lv_bipush (v := 108) hx hb dX11_nameAt_72 (by decide) ?_
                refine lv_goto (tgt := 78) hx hb dX11_nameAt_74 (by decide) ?_
                exact W.iret (v := 108) hx hb hr (fun t ht hW => ⟨⟨108, (), rfl, hv, va_Ph ht hP⟩, hS.F ht⟩) hS.2.2 dX11_nameAt_78
            · have hv := hv.2 c_2
              refine lv_bipush (v := 97) hx hb dX11_nameAt_62 (by decide) ?_
              refine lv_goto (tgt := 78) hx hb dX11_nameAt_64 (by decide) ?_
              exact W.iret (v := 97) hx hb hr (fun t ht hW => ⟨⟨97, (), rfl, hv, va_Ph ht hP⟩, hS.F ht⟩) hS.2.2 dX11_nameAt_78
          · have hv := hv.2 c_3
            refine lv_bipush (v := 117) hx hb dX11_nameAt_52 (by decide) ?_
            refine lv_goto (tgt := 78) hx hb dX11_nameAt_54 (by decide) ?_
            exact W.iret (v := 117) hx hb hr (fun t ht hW => ⟨⟨117, (), rfl, hv, va_Ph ht hP⟩, hS.F ht⟩) hS.2.2 dX11_nameAt_78
        · have hv := hv.2 c_4
          refine lv_bipush (v := 113) hx hb dX11_nameAt_42 (by decide) ?_
          refine lv_goto (tgt := 78) hx hb dX11_nameAt_44 (by decide) ?_
          exact W.iret (v := 113) hx hb hr (fun t ht hW => ⟨⟨113, (), rfl, hv, va_Ph ht hP⟩, hS.F ht⟩) hS.2.2 dX11_nameAt_78
      · have hv := hv.2 c_5
        refine lv_bipush (v := 101) hx hb dX11_nameAt_32 (by decide) ?_
        refine lv_goto (tgt := 78) hx hb dX11_nameAt_34 (by decide) ?_
        exact W.iret (v := 101) hx hb hr (fun t ht hW => ⟨⟨101, (), rfl, hv, va_Ph ht hP⟩, hS.F ht⟩) hS.2.2 dX11_nameAt_78
    · have hv := hv.2.2.1 c_26
      refine lv_tableIn (tgt := 79) hx hb dX11_nameAt_1 (by rw [c_26]; decide) (by rw [c_26]; decide) (by rw [c_26]; rfl) (by decide) ?_
      refine lv_iload_n hx hb dX11_nameAt_79 rfl (lv_at hl 1 rfl) ?_
      refine lv_if_ne (tgt := 88) hx hb dX11_nameAt_80 (by decide) (fun c_12 => ?_) (fun c_12 => ?_)
      · have hv := hv.1 c_12
        refine lv_iload_n hx hb dX11_nameAt_88 rfl (lv_at hl 1 rfl) ?_
        refine lv_iconst (v := 1) hx hb dX11_nameAt_89 (by decide) ?_
        refine lv_icmp_ne (tgt := 98) hx hb dX11_nameAt_90 (by decide) (fun c_11 => ?_) (fun c_11 => ?_)
        · have hv := hv.1 c_11
          refine lv_iload_n hx hb dX11_nameAt_98 rfl (lv_at hl 1 rfl) ?_
          refine lv_iconst (v := 2) hx hb dX11_nameAt_99 (by decide) ?_
          refine lv_icmp_ne (tgt := 108) hx hb dX11_nameAt_100 (by decide) (fun c_10 => ?_) (fun c_10 => ?_)
          · have hv := hv.1 c_10
            refine lv_iload_n hx hb dX11_nameAt_108 rfl (lv_at hl 1 rfl) ?_
            refine lv_iconst (v := 3) hx hb dX11_nameAt_109 (by decide) ?_
            refine lv_icmp_ne (tgt := 118) hx hb dX11_nameAt_110 (by decide) (fun c_9 => ?_) (fun c_9 => ?_)
            · have hv := hv.1 c_9
              refine lv_iload_n hx hb dX11_nameAt_118 rfl (lv_at hl 1 rfl) ?_
              refine lv_iconst (v := 4) hx hb dX11_nameAt_119 (by decide) ?_
              refine lv_icmp_ne (tgt := 128) hx hb dX11_nameAt_120 (by decide) (fun c_8 => ?_) (fun c_8 => ?_)
              · have hv := hv.1 c_8
                refine lv_iload_n hx hb dX11_nameAt_128 rfl (lv_at hl 1 rfl) ?_
                refine lv_iconst (v := 5) hx hb dX11_nameAt_129 (by decide) ?_
                refine lv_icmp_ne (tgt := 138) hx hb dX11_nameAt_130 (by decide) (fun c_7 => ?_) (fun c_7 => ?_)
                · have hv := hv.1 c_7
                  refine lv_iload_n hx hb dX11_nameAt_138 rfl (lv_at hl 1 rfl) ?_
                  refine lv_bipush (v := 6) hx hb dX11_nameAt_139 (by decide) ?_
                  refine lv_icmp_ne (tgt := 149) hx hb dX11_nameAt_141 (by decide) (fun c_6 => ?_) (fun c_6 => ?_)
                  · have hv := hv.1 c_6
                    refine lv_iconst (v := 0) hx hb dX11_nameAt_149 (by decide) ?_
                    exact W.iret (v := 0) hx hb hr (fun t ht hW => ⟨⟨0, (), rfl, hv, va_Ph ht hP⟩, hS.F ht⟩) hS.2.2 dX11_nameAt_150
                  · have hv := hv.2 c_6
                    refine lv_bipush (v := 110) hx hb dX11_nameAt_144 (by decide) ?_
                    refine lv_goto (tgt := 150) hx hb dX11_nameAt_146 (by decide) ?_
                    exact W.iret (v := 110) hx hb hr (fun t ht hW => ⟨⟨110, (), rfl, hv, va_Ph ht hP⟩, hS.F ht⟩) hS.2.2 dX11_nameAt_150
                · have hv := hv.2 c_7
                  refine lv_bipush (v := 97) hx hb dX11_nameAt_133 (by decide) ?_
                  refine lv_goto (tgt := 150) hx hb dX11_nameAt_135 (by decide) ?_
                  exact W.iret (v := 97) hx hb hr (fun t ht hW => ⟨⟨97, (), rfl, hv, va_Ph ht hP⟩, hS.F ht⟩) hS.2.2 dX11_nameAt_150
              · have hv := hv.2 c_8
                refine lv_bipush (v := 105) hx hb dX11_nameAt_123 (by decide) ?_
                refine lv_goto (tgt := 150) hx hb dX11_nameAt_125 (by decide) ?_
                exact W.iret (v := 105) hx hb hr (fun t ht hW => ⟨⟨105, (), rfl, hv, va_Ph ht hP⟩, hS.F ht⟩) hS.2.2 dX11_nameAt_150
            · have hv := hv.2 c_9
              refine lv_bipush (v := 108) hx hb dX11_nameAt_113 (by decide) ?_
              refine lv_goto (tgt := 150) hx hb dX11_nameAt_115 (by decide) ?_
              exact W.iret (v := 108) hx hb hr (fun t ht hW => ⟨⟨108, (), rfl, hv, va_Ph ht hP⟩, hS.F ht⟩) hS.2.2 dX11_nameAt_150
          · have hv := hv.2 c_10
            refine lv_bipush (v := 101) hx hb dX11_nameAt_103 (by decide) ?_
            refine lv_goto (tgt := 150) hx hb dX11_nameAt_105 (by decide) ?_
            exact W.iret (v := 101) hx hb hr (fun t ht hW => ⟨⟨101, (), rfl, hv, va_Ph ht hP⟩, hS.F ht⟩) hS.2.2 dX11_nameAt_150
        · have hv := hv.2 c_11
          refine lv_bipush (v := 98) hx hb dX11_nameAt_93 (by decide) ?_
          refine lv_goto (tgt := 150) hx hb dX11_nameAt_95 (by decide) ?_
          exact W.iret (v := 98) hx hb hr (fun t ht hW => ⟨⟨98, (), rfl, hv, va_Ph ht hP⟩, hS.F ht⟩) hS.2.2 dX11_nameAt_150
      · have hv := hv.2 c_12
        refine lv_bipush (v := 97) hx hb dX11_nameAt_83 (by decide) ?_
        refine lv_goto (tgt := 150) hx hb dX11_nameAt_85 (by decide) ?_
        exact W.iret (v := 97) hx hb hr (fun t ht hW => ⟨⟨97, (), rfl, hv, va_Ph ht hP⟩, hS.F ht⟩) hS.2.2 dX11_nameAt_150
    · have hv := hv.2.2.2 c_26
      refine lv_tableIn (tgt := 151) hx hb dX11_nameAt_1 (by rw [c_26]; decide) (by rw [c_26]; decide) (by rw [c_26]; rfl) (by decide) ?_
      refine lv_iload_n hx hb dX11_nameAt_151 rfl (lv_at hl 1 rfl) ?_
      refine lv_if_ne (tgt := 160) hx hb dX11_nameAt_152 (by decide) (fun c_20 => ?_) (fun c_20 => ?_)
      · have hv := hv.1 c_20
        refine lv_iload_n hx hb dX11_nameAt_160 rfl (lv_at hl 1 rfl) ?_
        refine lv_iconst (v := 1) hx hb dX11_nameAt_161 (by decide) ?_
        refine lv_icmp_ne (tgt := 170) hx hb dX11_nameAt_162 (by decide) (fun c_19 => ?_) (fun c_19 => ?_)
        · have hv := hv.1 c_19
          refine lv_iload_n hx hb dX11_nameAt_170 rfl (lv_at hl 1 rfl) ?_
          refine lv_iconst (v := 2) hx hb dX11_nameAt_171 (by decide) ?_
          refine lv_icmp_ne (tgt := 180) hx hb dX11_nameAt_172 (by decide) (fun c_18 => ?_) (fun c_18 => ?_)
          · have hv := hv.1 c_18
            refine lv_iload_n hx hb dX11_nameAt_180 rfl (lv_at hl 1 rfl) ?_
            refine lv_iconst (v := 3) hx hb dX11_nameAt_181 (by decide) ?_
            refine lv_icmp_ne (tgt := 190) hx hb dX11_nameAt_182 (by decide) (fun c_17 => ?_) (fun c_17 => ?_)
            · have hv := hv.1 c_17
              refine lv_iload_n hx hb dX11_nameAt_190 rfl (lv_at hl 1 rfl) ?_
              refine lv_iconst (v := 4) hx hb dX11_nameAt_191 (by decide) ?_
              refine lv_icmp_ne (tgt := 200) hx hb dX11_nameAt_192 (by decide) (fun c_16 => ?_) (fun c_16 => ?_)
              · have hv := hv.1 c_16
                refine lv_iload_n hx hb dX11_nameAt_200 rfl (lv_at hl 1 rfl) ?_
                refine lv_iconst (v := 5) hx hb dX11_nameAt_201 (by decide) ?_
                refine lv_icmp_ne (tgt := 210) hx hb dX11_nameAt_202 (by decide) (fun c_15 => ?_) (fun c_15 => ?_)
                · have hv := hv.1 c_15
                  refine lv_iload_n hx hb dX11_nameAt_210 rfl (lv_at hl 1 rfl) ?_
                  refine lv_bipush (v := 6) hx hb dX11_nameAt_211 (by decide) ?_
                  refine lv_icmp_ne (tgt := 221) hx hb dX11_nameAt_213 (by decide) (fun c_14 => ?_) (fun c_14 => ?_)
                  · have hv := hv.1 c_14
                    refine lv_iload_n hx hb dX11_nameAt_221 rfl (lv_at hl 1 rfl) ?_
                    refine lv_bipush (v := 7) hx hb dX11_nameAt_222 (by decide) ?_
                    refine lv_icmp_ne (tgt := 232) hx hb dX11_nameAt_224 (by decide) (fun c_13 => ?_) (fun c_13 => ?_)
                    · have hv := hv.1 c_13
                      refine lv_iconst (v := 0) hx hb dX11_nameAt_232 (by decide) ?_
                      exact W.iret (v := 0) hx hb hr (fun t ht hW => ⟨⟨0, (), rfl, hv, va_Ph ht hP⟩, hS.F ht⟩) hS.2.2 dX11_nameAt_233
                    · have hv := hv.2 c_13
                      refine lv_bipush (v := 101) hx hb dX11_nameAt_227 (by decide) ?_
                      refine lv_goto (tgt := 233) hx hb dX11_nameAt_229 (by decide) ?_
                      exact W.iret (v := 101) hx hb hr (fun t ht hW => ⟨⟨101, (), rfl, hv, va_Ph ht hP⟩, hS.F ht⟩) hS.2.2 dX11_nameAt_233
                  · have hv := hv.2 c_14
                    refine lv_bipush (v := 118) hx hb dX11_nameAt_216 (by decide) ?_
                    refine lv_goto (tgt := 233) hx hb dX11_nameAt_218 (by decide) ?_
                    exact W.iret (v := 118) hx hb hr (fun t ht hW => ⟨⟨118, (), rfl, hv, va_Ph ht hP⟩, hS.F ht⟩) hS.2.2 dX11_nameAt_233
                · have hv := hv.2 c_15
                  refine lv_bipush (v := 105) hx hb dX11_nameAt_205 (by decide) ?_
                  refine lv_goto (tgt := 233) hx hb dX11_nameAt_207 (by decide) ?_
                  exact W.iret (v := 105) hx hb hr (fun t ht hW => ⟨⟨105, (), rfl, hv, va_Ph ht hP⟩, hS.F ht⟩) hS.2.2 dX11_nameAt_233
              · have hv := hv.2 c_16
                refine lv_bipush (v := 116) hx hb dX11_nameAt_195 (by decide) ?_
                refine lv_goto (tgt := 233) hx hb dX11_nameAt_197 (by decide) ?_
                exact W.iret (v := 116) hx hb hr (fun t ht hW => ⟨⟨116, (), rfl, hv, va_Ph ht hP⟩, hS.F ht⟩) hS.2.2 dX11_nameAt_233
            · have hv := hv.2 c_17
              refine lv_bipush (v := 105) hx hb dX11_nameAt_185 (by decide) ?_
              refine lv_goto (tgt := 233) hx hb dX11_nameAt_187 (by decide) ?_
              exact W.iret (v := 105) hx hb hr (fun t ht hW => ⟨⟨105, (), rfl, hv, va_Ph ht hP⟩, hS.F ht⟩) hS.2.2 dX11_nameAt_233
          · have hv := hv.2 c_18
            refine lv_bipush (v := 100) hx hb dX11_nameAt_175 (by decide) ?_
            refine lv_goto (tgt := 233) hx hb dX11_nameAt_177 (by decide) ?_
            exact W.iret (v := 100) hx hb hr (fun t ht hW => ⟨⟨100, (), rfl, hv, va_Ph ht hP⟩, hS.F ht⟩) hS.2.2 dX11_nameAt_233
        · have hv := hv.2 c_19
          refine lv_bipush (v := 100) hx hb dX11_nameAt_165 (by decide) ?_
          refine lv_goto (tgt := 233) hx hb dX11_nameAt_167 (by decide) ?_
          exact W.iret (v := 100) hx hb hr (fun t ht hW => ⟨⟨100, (), rfl, hv, va_Ph ht hP⟩, hS.F ht⟩) hS.2.2 dX11_nameAt_233
      · have hv := hv.2 c_20
        refine lv_bipush (v := 97) hx hb dX11_nameAt_155 (by decide) ?_
        refine lv_goto (tgt := 233) hx hb dX11_nameAt_157 (by decide) ?_
        exact W.iret (v := 97) hx hb hr (fun t ht hW => ⟨⟨97, (), rfl, hv, va_Ph ht hP⟩, hS.F ht⟩) hS.2.2 dX11_nameAt_233
theorem kX11_nameAt (l : Launch) (dC : Nat → ClassId) (dI : Nat → Nat → Nat) (cy : Nat → ClassId) (h : Nat → Nat)  (p0 : Int32) (p1 : Int32) (post : Int32 → Prop) (hv : VX11_nameAt post p0 p1 ) : CtI l yX11_nameAt wsX11_nameAt rX11_nameAt dC dI cy [.int p0, .int p1] (pX11_nameAt cy h ) (fun (_ : Unit) => pX11_nameAt cy h ) (fun (r : Int32) (_ : Unit) => post r) :=
  ct_ofI (by decide) rfl (Nat.le_of_ble_eq_true rfl) (fun p e s m below meth c A ls C0 hP hD hS hl => wX11_nameAt_0 l h post p0 p1 C0  hv _ _ _ hP hD hS hl)
theorem mX11_sign_1 : (Cond.fieldLink RX11 92 "AbelianPowersModel" "at" "I") ∈ wsX11_sign := List.mem_of_getElem? (i := 1) rfl
theorem mX11_sign_2 : (Cond.fieldLink RX11 35 "AbelianPowersModel" "input" "[I") ∈ wsX11_sign := List.mem_of_getElem? (i := 2) rfl
theorem nX11_sign_X11 : ∀ w ∈ wsX110, w ∈ wsX11_sign := fun _ h => List.mem_cons_of_mem _ (List.mem_append_right _ h)
theorem zX11_sign : yX11_sign.cls = RX11 ∧ yX11_sign.cls ≠ "java/lang/invoke/MethodHandle" ∧ yX11_sign.cls ≠ "java/lang/invoke/VarHandle" ∧ (parseMethodDescriptor yX11_sign.desc).map (fun d => d.parameters.length) = some 1 := by decide +kernel
abbrev rX11_sign : Room := { frames := 0, cells := 0, slots := 0, locals := 0 }
abbrev pX11_sign (cy : Nat → ClassId) (h : Nat → Nat) (t_kind : Int32) (t_exponent : Int32) (t_letters : Int32) (t_input : Nat → Int32) (t_fed : Int32) (t_at : Int32) (t_rowSize : Int32) (t_steps : Int32) (t_foundMany : Int32) (t_keptMany : Int32) (t_keptLetters : Int32) (t_isFull : Int32) (t_isSaved : Int32) (t_savedKind : Int32) (t_savedExponent : Int32) (t_savedLetters : Int32) : va_W := [(h 0, .inr (11, [.int t_kind, .int t_exponent, .int t_letters, .ref (h 2), .ref (h 3), .ref (h 4), .ref (h 5), .ref (h 6), .ref (h 1), .int t_fed, .int t_at, .ref (h 7), .int t_rowSize, .int t_steps, .ref (h 8), .int t_foundMany, .ref (h 9), .int t_keptMany, .int t_keptLetters, .ref (h 10), .ref (h 11), .ref (h 12), .ref (h 13), .ref (h 14), .int t_isFull, .ref (h 15), .ref (h 16), .int t_isSaved, .int t_savedKind, .int t_savedExponent, .int t_savedLetters, .ref (h 17), .ref (h 18), .ref (h 19), .ref (h 20), .ref (h 21)])), (h 1, .inl (cy 0, 16, .inl t_input))]
def VX11_sign (post : Int32 → Prop)  (t_input : Nat → Int32) (t_at : Int32) (p1 : Int32)  : Prop := ((p1 ≤ t_at) → post (0 : Int32)) ∧ (¬ (p1 ≤ t_at) → vp_in t_at 16 ∧ (post (t_input t_at.toNatClampNeg)))
set_option maxHeartbeats 4000000 in
set_option maxRecDepth 100000 in
theorem wX11_sign_0 {p : Program} (l : Launch) {e : Env} {s : State} {m : MethodId} {args : Array Value} {below : List Frame} {meth : Method} {c : Code} {dC : Nat → ClassId} {dI : Nat → Nat → Nat} {cy : Nat → ClassId} {A : Nat → Prop} (h : Nat → Nat) (post : Int32 → Prop)   (t_kind : Int32) (t_exponent : Int32) (t_letters : Int32) (t_input : Nat → Int32) (t_fed : Int32) (t_at : Int32) (t_rowSize : Int32) (t_steps : Int32) (t_foundMany : Int32) (t_keptMany : Int32) (t_keptLetters : Int32) (t_isFull : Int32) (t_isSaved : Int32) (t_savedKind : Int32) (t_savedExponent : Int32) (t_savedLetters : Int32) (p1 : Int32) (C0 : cx p s m args meth c cX11_sign 2 (some .int) wsX11_sign RX11 dC dI cy A)  : VX11_sign post t_input t_at p1  → ∀ (H : Heap) (locs : List Loc) (ls : Array Slot), va_P (dC, dI) vwCl (pX11_sign cy h t_kind t_exponent t_letters t_input t_fed t_at t_rowSize t_steps t_foundMany t_keptMany t_keptLetters t_isFull t_isSaved t_savedKind t_savedExponent t_savedLetters) H → va_D A (pX11_sign cy h t_kind t_exponent t_letters t_input t_fed t_at t_rowSize t_steps t_foundMany t_keptMany t_keptLetters t_isFull t_isSaved t_savedKind t_savedExponent t_savedLetters) → va_S A s.heap H locs → lv_has ls 2 [(0, .ref (h 0)), (1, .int p1)] → W p l e rX11_sign s m args below meth c H locs 0 0 (MQ below (va_Qi (fun (r : Int32) (_ : Unit) => post r) (fun (_ : Unit) (t : State) => va_P (dC, dI) vwCl (pX11_sign cy h t_kind t_exponent t_letters t_input t_fed t_at t_rowSize t_steps t_foundMany t_keptMany t_keptLetters t_isFull t_isSaved t_savedKind t_savedExponent t_savedLetters) t.heap) A) args s 0 0 A) (F0 m 0 ls []) := by
  have C1 := C0
  obtain ⟨hx, hb, hr, hml, hown, hts, hlocks, hK, hA⟩ := C1
  intro  hv H locs ls hP hD hS hl
  refine lv_aload_n hx hb dX11_sign_0 rfl (lv_at hl 0 rfl) ?_
  refine va_get (D := (dC, dI)) (ci := 11) (v := .int t_at) (C := RX11) (T := TX11) (N := 36) hx hb hts nX11_sign_X11 hown hK hP 0 rfl rfl 10 (by decide) (hts _ mX11_sign_1) (fun _ h9 => h9) rfl dX11_sign_1 ?_
  refine lv_iload_n hx hb dX11_sign_4 rfl (lv_at hl 1 rfl) ?_
  refine lv_icmp_ge (tgt := 20) hx hb dX11_sign_5 (by decide) (fun c_2 => ?_) (fun c_2 => ?_)
  · have hv := hv.1 c_2
    refine lv_iconst (v := 0) hx hb dX11_sign_20 (by decide) ?_
    exact W.iret (v := 0) hx hb hr (fun t ht hW => ⟨⟨0, (), rfl, hv, va_Ph ht hP⟩, hS.F ht⟩) hS.2.2 dX11_sign_21
  · have hv := hv.2 c_2
    refine lv_aload_n hx hb dX11_sign_8 rfl (lv_at hl 0 rfl) ?_
    refine va_get (D := (dC, dI)) (ci := 11) (v := .ref (h 1)) (C := RX11) (T := TX11) (N := 36) hx hb hts nX11_sign_X11 hown hK hP 0 rfl rfl 8 (by decide) (hts _ mX11_sign_2) (fun _ h9 => h9) rfl dX11_sign_9 ?_
    refine lv_aload_n hx hb dX11_sign_12 rfl (lv_at hl 0 rfl) ?_
    refine va_get (D := (dC, dI)) (ci := 11) (v := .int t_at) (C := RX11) (T := TX11) (N := 36) hx hb hts nX11_sign_X11 hown hK hP 0 rfl rfl 10 (by decide) (hts _ mX11_sign_1) (fun _ h9 => h9) rfl dX11_sign_13 ?_
    have h_1 := hv.1
    have hv := hv.2
    refine va_iald hx hb hK hP 1 0 rfl rfl h_1 dX11_sign_16 ?_
    refine lv_goto (tgt := 21) hx hb dX11_sign_17 (by decide) ?_
    exact W.iret (v := (t_input t_at.toNatClampNeg)) hx hb hr (fun t ht hW => ⟨⟨(t_input t_at.toNatClampNeg), (), rfl, hv, va_Ph ht hP⟩, hS.F ht⟩) hS.2.2 dX11_sign_21
theorem kX11_sign (l : Launch) (dC : Nat → ClassId) (dI : Nat → Nat → Nat) (cy : Nat → ClassId) (h : Nat → Nat) (t_kind : Int32) (t_exponent : Int32) (t_letters : Int32) (t_input : Nat → Int32) (t_fed : Int32) (t_at : Int32) (t_rowSize : Int32) (t_steps : Int32) (t_foundMany : Int32) (t_keptMany : Int32) (t_keptLetters : Int32) (t_isFull : Int32) (t_isSaved : Int32) (t_savedKind : Int32) (t_savedExponent : Int32) (t_savedLetters : Int32) (p1 : Int32) (post : Int32 → Prop) (hv : VX11_sign post t_input t_at p1 ) : CtI l yX11_sign wsX11_sign rX11_sign dC dI cy [.ref (h 0), .int p1] (pX11_sign cy h t_kind t_exponent t_letters t_input t_fed t_at t_rowSize t_steps t_foundMany t_keptMany t_keptLetters t_isFull t_isSaved t_savedKind t_savedExponent t_savedLetters) (fun (_ : Unit) => pX11_sign cy h t_kind t_exponent t_letters t_input t_fed t_at t_rowSize t_steps t_foundMany t_keptMany t_keptLetters t_isFull t_isSaved t_savedKind t_savedExponent t_savedLetters) (fun (r : Int32) (_ : Unit) => post r) :=
  ct_ofI (by decide) rfl (Nat.le_of_ble_eq_true rfl) (fun p e s m below meth c A ls C0 hP hD hS hl => wX11_sign_0 l h post t_kind t_exponent t_letters t_input t_fed t_at t_rowSize t_steps t_foundMany t_keptMany t_keptLetters t_isFull t_isSaved t_savedKind t_savedExponent t_savedLetters p1 C0  hv _ _ _ hP hD hS hl)
theorem mX11_readKind_2 : (Cond.fieldLink RX11 92 "AbelianPowersModel" "at" "I") ∈ wsX11_readKind := List.mem_of_getElem? (i := 2) rfl
theorem mX11_readKind_1 : (Cond.fieldLink RX11 35 "AbelianPowersModel" "input" "[I") ∈ wsX11_readKind := List.mem_of_getElem? (i := 1) rfl
theorem mX11_readKind_3 : (Cond.methodLink RX11 99 Lib.Math.max.name) ∈ wsX11_readKind := List.mem_of_getElem? (i := 3) rfl
theorem mX11_readKind_4 : (Cond.static Lib.Math.max.name) ∈ wsX11_readKind := List.mem_of_getElem? (i := 4) rfl
theorem mX11_readKind_5 : (Cond.initialized "java/lang/Math") ∈ wsX11_readKind := List.mem_of_getElem? (i := 5) rfl
theorem mX11_readKind_6 : (Cond.code Lib.Math.max.name Lib.Math.max.code 2 (some .int)) ∈ wsX11_readKind := List.mem_of_getElem? (i := 6) rfl
theorem nX11_readKind_X11 : ∀ w ∈ wsX110, w ∈ wsX11_readKind := fun _ h => List.mem_cons_of_mem _ (List.mem_append_right _ h)
theorem zX11_readKind : yX11_readKind.cls = RX11 ∧ yX11_readKind.cls ≠ "java/lang/invoke/MethodHandle" ∧ yX11_readKind.cls ≠ "java/lang/invoke/VarHandle" ∧ (parseMethodDescriptor yX11_readKind.desc).map (fun d => d.parameters.length) = some 1 := by decide +kernel
abbrev rX11_readKind : Room := { frames := 1, cells := 0, slots := 0, locals := 21 }
abbrev pX11_readKind (cy : Nat → ClassId) (h : Nat → Nat) (t_kind : Int32) (t_exponent : Int32) (t_letters : Int32) (t_input : Nat → Int32) (t_fed : Int32) (t_at : Int32) (t_rowSize : Int32) (t_steps : Int32) (t_foundMany : Int32) (t_keptMany : Int32) (t_keptLetters : Int32) (t_isFull : Int32) (t_isSaved : Int32) (t_savedKind : Int32) (t_savedExponent : Int32) (t_savedLetters : Int32) : va_W := [(h 0, .inr (11, [.int t_kind, .int t_exponent, .int t_letters, .ref (h 2), .ref (h 3), .ref (h 4), .ref (h 5), .ref (h 6), .ref (h 1), .int t_fed, .int t_at, .ref (h 7), .int t_rowSize, .int t_steps, .ref (h 8), .int t_foundMany, .ref (h 9), .int t_keptMany, .int t_keptLetters, .ref (h 10), .ref (h 11), .ref (h 12), .ref (h 13), .ref (h 14), .int t_isFull, .ref (h 15), .ref (h 16), .int t_isSaved, .int t_savedKind, .int t_savedExponent, .int t_savedLetters, .ref (h 17), .ref (h 18), .ref (h 19), .ref (h 20), .ref (h 21)])), (h 1, .inl (cy 0, 16, .inl t_input))]
def VX11_readKind_49 (post : Int32 → Int32 → Prop) (K4 : Int32 → Int32 → Int32 → Prop) (t_input : Nat → Int32) (p1 : Int32) (t_at : Int32) (x2 : Int32) (x3 : Int32) (x4 : Int32) : Prop := VX11_nameAt (fun r_12 => (¬ (r_12 = 0) → K4 t_at (if x2 < x4 then x4 else x2) (x3 + 1)) ∧ ((r_12 = 0) → post x3 x4)) x3 x4
def VX11_readKind_12 (post : Int32 → Int32 → Prop) (K4 : Int32 → Int32 → Int32 → Prop) (t_input : Nat → Int32) (p1 : Int32) : Nat → Int32 → Int32 → Int32 → Int32 → Prop
  | 0, _, _, _, _ => False
  | n + 1, t_at, x2, x3, x4 => ((p1 ≤ x4) → VX11_readKind_49 post K4 t_input p1 t_at x2 x3 x4) ∧ (¬ (p1 ≤ x4) → VX11_nameAt (fun r_4 => ((r_4 = 0) → VX11_readKind_49 post K4 t_input p1 t_at x2 x3 x4) ∧ (¬ (r_4 = 0) → VX11_nameAt (fun r_5 => vp_in x4 16 ∧ ((¬ (r_5 = (t_input x4.toNatClampNeg)) → VX11_readKind_49 post K4 t_input p1 t_at x2 x3 x4) ∧ ((r_5 = (t_input x4.toNatClampNeg)) → VX11_readKind_12 post K4 t_input p1 n t_at x2 x3 (x4 + 1)))) x3 x4)) x3 x4)
def VX11_readKind_4 (post : Int32 → Int32 → Prop)  (t_input : Nat → Int32) (p1 : Int32) : Nat → Int32 → Int32 → Int32 → Prop
  | 0, _, _, _ => False
  | n + 1, t_at, x2, x3 => ((4 ≤ x3) → post (-2 : Int32) x2) ∧ (¬ (4 ≤ x3) → ∃ n12 : Nat, VX11_readKind_12 post (fun t_at x2 x3 => VX11_readKind_4 post t_input p1 n t_at x2 x3) t_input p1 n12 t_at x2 x3 0)
def VX11_readKind (post : Int32 → Int32 → Prop)  (t_input : Nat → Int32) (p1 : Int32) (t_at : Int32) : Prop := ∃ n4 : Nat, VX11_readKind_4 post t_input p1 n4 t_at 0 0
set_option maxHeartbeats 4000000 in
set_option maxRecDepth 100000 in
theorem wX11_readKind_49 {p : Program} (l : Launch) {e : Env} {s : State} {m : MethodId} {args : Array Value} {below : List Frame} {meth : Method} {c : Code} {dC : Nat → ClassId} {dI : Nat → Nat → Nat} {cy : Nat → ClassId} {A : Nat → Prop} (h : Nat → Nat) (post : Int32 → Int32 → Prop) (K4 : Int32 → Int32 → Int32 → Prop)  (t_kind : Int32) (t_exponent : Int32) (t_letters : Int32) (t_input : Nat → Int32) (t_fed : Int32) (t_rowSize : Int32) (t_steps : Int32) (t_foundMany : Int32) (t_keptMany : Int32) (t_keptLetters : Int32) (t_isFull : Int32) (t_isSaved : Int32) (t_savedKind : Int32) (t_savedExponent : Int32) (t_savedLetters : Int32) (p1 : Int32) (C0 : cx p s m args meth c cX11_readKind 5 (some .int) wsX11_readKind RX11 dC dI cy A) (hK4 : ∀ (t_at : Int32) (x2 : Int32) (x3 : Int32), K4 t_at x2 x3 → ∀ (H : Heap) (locs : List Loc) (ls : Array Slot), va_P (dC, dI) vwCl (pX11_readKind cy h t_kind t_exponent t_letters t_input t_fed t_at t_rowSize t_steps t_foundMany t_keptMany t_keptLetters t_isFull t_isSaved t_savedKind t_savedExponent t_savedLetters) H → va_D A (pX11_readKind cy h t_kind t_exponent t_letters t_input t_fed t_at t_rowSize t_steps t_foundMany t_keptMany t_keptLetters t_isFull t_isSaved t_savedKind t_savedExponent t_savedLetters) → va_S A s.heap H locs → lv_has ls 5 [(0, .ref (h 0)), (1, .int p1), (2, .int x2), (3, .int x3)] → W p l e rX11_readKind s m args below meth c H locs 0 0 (MQ below (va_Qi (fun (r : Int32) (u : Int32) => post r u) (fun (u : Int32) (t : State) => va_P (dC, dI) vwCl (pX11_readKind cy h t_kind t_exponent t_letters t_input t_fed u t_rowSize t_steps t_foundMany t_keptMany t_keptLetters t_isFull t_isSaved t_savedKind t_savedExponent t_savedLetters) t.heap) A) args s 0 0 A) (F0 m 4 ls [])) : ∀ (t_at : Int32) (x2 : Int32) (x3 : Int32) (x4 : Int32), VX11_readKind_49 post K4 t_input p1 t_at x2 x3 x4 → ∀ (H : Heap) (locs : List Loc) (ls : Array Slot), va_P (dC, dI) vwCl (pX11_readKind cy h t_kind t_exponent t_letters t_input t_fed t_at t_rowSize t_steps t_foundMany t_keptMany t_keptLetters t_isFull t_isSaved t_savedKind t_savedExponent t_savedLetters) H → va_D A (pX11_readKind cy h t_kind t_exponent t_letters t_input t_fed t_at t_rowSize t_steps t_foundMany t_keptMany t_keptLetters t_isFull t_isSaved t_savedKind t_savedExponent t_savedLetters) → va_S A s.heap H locs → lv_has ls 5 [(0, .ref (h 0)), (1, .int p1), (2, .int x2), (3, .int x3), (4, .int x4)] → W p l e rX11_readKind s m args below meth c H locs 0 0 (MQ below (va_Qi (fun (r : Int32) (u : Int32) => post r u) (fun (u : Int32) (t : State) => va_P (dC, dI) vwCl (pX11_readKind cy h t_kind t_exponent t_letters t_input t_fed u t_rowSize t_steps t_foundMany t_keptMany t_keptLetters t_isFull t_isSaved t_savedKind t_savedExponent t_savedLetters) t.heap) A) args s 0 0 A) (F0 m 49 ls []) := by
  have C1 := C0
  obtain ⟨hx, hb, hr, hml, hown, hts, hlocks, hK, hA⟩ := C1
  intro t_at x2 x3 x4 hv H locs ls hP hD hS hl
  refine lv_iload_n hx hb dX11_readKind_49 rfl (lv_at hl 3 rfl) ?_
  refine lv_iload hx hb dX11_readKind_50 (lv_at hl 4 rfl) ?_
  refine cb_SI (As := [.int x3, .int x4]) (rest := []) ⟨hx, hb, hml, hown, hts⟩ (kX11_nameAt l dC dI cy (adl []) x3 x4 _ hv) (va_cwS 2 hts gX11_readKind_X11_nameAt rfl rfl rfl zX11_nameAt ⟨Nat.le_of_ble_eq_true rfl, Nat.le_of_ble_eq_true rfl⟩) hK hP hD hS hA [] [none, none] rfl rfl rfl (fun _ => rfl) rfl hl.1 rfl (Nat.le_of_ble_eq_true rfl) dX11_readKind_52 (fun r_12 w_14 H locs hv hP hD hS => ?_)
  have hP : va_P (dC, dI) vwCl (pX11_readKind cy h t_kind t_exponent t_letters t_input t_fed t_at t_rowSize t_steps t_foundMany t_keptMany t_keptLetters t_isFull t_isSaved t_savedKind t_savedExponent t_savedLetters) H := hP
  have hD : va_D A (pX11_readKind cy h t_kind t_exponent t_letters t_input t_fed t_at t_rowSize t_steps t_foundMany t_keptMany t_keptLetters t_isFull t_isSaved t_savedKind t_savedExponent t_savedLetters) := hD
  refine lv_if_ne (tgt := 66) hx hb dX11_readKind_55 (by decide) (fun c_13 => ?_) (fun c_13 => ?_)
  · have hv := hv.1 c_13
    refine lv_iload_n hx hb dX11_readKind_66 rfl (lv_at hl 2 rfl) ?_
    refine lv_iload hx hb dX11_readKind_67 (lv_at hl 4 rfl) ?_
    refine va_mmax hx hb (hml.trans hl.1.symm) hown (hts _ mX11_readKind_3) (hts _ mX11_readKind_4) (hts _ mX11_readKind_5) (hts _ mX11_readKind_6) (Nat.le_of_ble_eq_true rfl) (Nat.le_of_ble_eq_true rfl) (Nat.zero_le _) (Nat.zero_le _) dX11_readKind_69 ?_
    refine lv_istore_n (lv' := [(2, .int ((if x2 < x4 then x4 else x2))), (0, .ref (h 0)), (1, .int p1), (3, .int x3), (4, .int x4)]) hx hb dX11_readKind_72 rfl hl (by decide) rfl (fun ls hl => ?_)
    refine lv_iinc (v := (x3 + 1)) (lv' := [(3, .int ((x3 + 1))), (2, .int ((if x2 < x4 then x4 else x2))), (0, .ref (h 0)), (1, .int p1), (4, .int x4)]) hx hb dX11_readKind_73 hl (k := 3) rfl rfl (by decide) rfl (fun ls hl => ?_)
    refine lv_goto (tgt := 4) hx hb dX11_readKind_76 (by decide) ?_
    exact hK4 t_at (if x2 < x4 then x4 else x2) (x3 + 1) hv _ _ _ hP hD hS (lv_sub hl [2, 3, 1, 0] rfl)
  · have hv := hv.2 c_13
    refine lv_aload_n hx hb dX11_readKind_58 rfl (lv_at hl 0 rfl) ?_
    refine lv_iload hx hb dX11_readKind_59 (lv_at hl 4 rfl) ?_
    refine va_put (D := (dC, dI)) (ci := 11) (v := .int x4) (ty := .int) (C := RX11) (T := TX11) (N := 36) hx hb hts nX11_readKind_X11 tyX11 tyX11_ok nmX11 hown hK hP hD hS 0 rfl rfl 10 (by decide) (hts _ mX11_readKind_2) (fun _ h9 => h9) rfl (by decide +kernel) rfl rfl (Nat.le_of_ble_eq_true rfl) dX11_readKind_61 (fun H locs hP hD hS => ?_)
    have hP : va_P (dC, dI) vwCl (pX11_readKind cy h t_kind t_exponent t_letters t_input t_fed x4 t_rowSize t_steps t_foundMany t_keptMany t_keptLetters t_isFull t_isSaved t_savedKind t_savedExponent t_savedLetters) H := hP
    have hD : va_D A (pX11_readKind cy h t_kind t_exponent t_letters t_input t_fed x4 t_rowSize t_steps t_foundMany t_keptMany t_keptLetters t_isFull t_isSaved t_savedKind t_savedExponent t_savedLetters) := hD
    refine lv_iload_n hx hb dX11_readKind_64 rfl (lv_at hl 3 rfl) ?_
    exact W.iret (v := x3) hx hb hr (fun t ht hW => ⟨⟨x3, (x4), rfl, hv, va_Ph ht hP⟩, hS.F ht⟩) hS.2.2 dX11_readKind_65
set_option maxHeartbeats 4000000 in
set_option maxRecDepth 100000 in
theorem wX11_readKind_12 {p : Program} (l : Launch) {e : Env} {s : State} {m : MethodId} {args : Array Value} {below : List Frame} {meth : Method} {c : Code} {dC : Nat → ClassId} {dI : Nat → Nat → Nat} {cy : Nat → ClassId} {A : Nat → Prop} (h : Nat → Nat) (post : Int32 → Int32 → Prop) (K4 : Int32 → Int32 → Int32 → Prop)  (t_kind : Int32) (t_exponent : Int32) (t_letters : Int32) (t_input : Nat → Int32) (t_fed : Int32) (t_rowSize : Int32) (t_steps : Int32) (t_foundMany : Int32) (t_keptMany : Int32) (t_keptLetters : Int32) (t_isFull : Int32) (t_isSaved : Int32) (t_savedKind : Int32) (t_savedExponent : Int32) (t_savedLetters : Int32) (p1 : Int32) (C0 : cx p s m args meth c cX11_readKind 5 (some .int) wsX11_readKind RX11 dC dI cy A) (hK4 : ∀ (t_at : Int32) (x2 : Int32) (x3 : Int32), K4 t_at x2 x3 → ∀ (H : Heap) (locs : List Loc) (ls : Array Slot), va_P (dC, dI) vwCl (pX11_readKind cy h t_kind t_exponent t_letters t_input t_fed t_at t_rowSize t_steps t_foundMany t_keptMany t_keptLetters t_isFull t_isSaved t_savedKind t_savedExponent t_savedLetters) H → va_D A (pX11_readKind cy h t_kind t_exponent t_letters t_input t_fed t_at t_rowSize t_steps t_foundMany t_keptMany t_keptLetters t_isFull t_isSaved t_savedKind t_savedExponent t_savedLetters) → va_S A s.heap H locs → lv_has ls 5 [(0, .ref (h 0)), (1, .int p1), (2, .int x2), (3, .int x3)] → W p l e rX11_readKind s m args below meth c H locs 0 0 (MQ below (va_Qi (fun (r : Int32) (u : Int32) => post r u) (fun (u : Int32) (t : State) => va_P (dC, dI) vwCl (pX11_readKind cy h t_kind t_exponent t_letters t_input t_fed u t_rowSize t_steps t_foundMany t_keptMany t_keptLetters t_isFull t_isSaved t_savedKind t_savedExponent t_savedLetters) t.heap) A) args s 0 0 A) (F0 m 4 ls [])) : ∀ (n : Nat) (t_at : Int32) (x2 : Int32) (x3 : Int32) (x4 : Int32), VX11_readKind_12 post K4 t_input p1 n t_at x2 x3 x4 → ∀ (H : Heap) (locs : List Loc) (ls : Array Slot), va_P (dC, dI) vwCl (pX11_readKind cy h t_kind t_exponent t_letters t_input t_fed t_at t_rowSize t_steps t_foundMany t_keptMany t_keptLetters t_isFull t_isSaved t_savedKind t_savedExponent t_savedLetters) H → va_D A (pX11_readKind cy h t_kind t_exponent t_letters t_input t_fed t_at t_rowSize t_steps t_foundMany t_keptMany t_keptLetters t_isFull t_isSaved t_savedKind t_savedExponent t_savedLetters) → va_S A s.heap H locs → lv_has ls 5 [(0, .ref (h 0)), (1, .int p1), (2, .int x2), (3, .int x3), (4, .int x4)] → W p l e rX11_readKind s m args below meth c H locs 0 0 (MQ below (va_Qi (fun (r : Int32) (u : Int32) => post r u) (fun (u : Int32) (t : State) => va_P (dC, dI) vwCl (pX11_readKind cy h t_kind t_exponent t_letters t_input t_fed u t_rowSize t_steps t_foundMany t_keptMany t_keptLetters t_isFull t_isSaved t_savedKind t_savedExponent t_savedLetters) t.heap) A) args s 0 0 A) (F0 m 12 ls []) := by
  have C1 := C0
  obtain ⟨hx, hb, hr, hml, hown, hts, hlocks, hK, hA⟩ := C1
  intro n
  induction n with
  | zero => intro t_at x2 x3 x4 hv; exact hv.elim
  | succ n ih =>
    intro t_at x2 x3 x4 hv H locs ls hP hD hS hl
    refine lv_iload hx hb dX11_readKind_12 (lv_at hl 4 rfl) ?_
    refine lv_iload_n hx hb dX11_readKind_14 rfl (lv_at hl 1 rfl) ?_
    refine lv_icmp_ge (tgt := 49) hx hb dX11_readKind_15 (by decide) (fun c_11 => ?_) (fun c_11 => ?_)
    · have hv := hv.1 c_11
      exact wX11_readKind_49 l h post K4  t_kind t_exponent t_letters t_input t_fed t_rowSize t_steps t_foundMany t_keptMany t_keptLetters t_isFull t_isSaved t_savedKind t_savedExponent t_savedLetters p1 C0 hK4 t_at x2 x3 x4 hv _ _ _ hP hD hS (lv_sub hl [0, 1, 2, 3, 4] rfl)
    · have hv := hv.2 c_11
      refine lv_iload_n hx hb dX11_readKind_18 rfl (lv_at hl 3 rfl) ?_
      refine lv_iload hx hb dX11_readKind_19 (lv_at hl 4 rfl) ?_
      refine cb_SI (As := [.int x3, .int x4]) (rest := []) ⟨hx, hb, hml, hown, hts⟩ (kX11_nameAt l dC dI cy (adl []) x3 x4 _ hv) (va_cwS 2 hts gX11_readKind_X11_nameAt rfl rfl rfl zX11_nameAt ⟨Nat.le_of_ble_eq_true rfl, Nat.le_of_ble_eq_true rfl⟩) hK hP hD hS hA [] [none, none] rfl rfl rfl (fun _ => rfl) rfl hl.1 rfl (Nat.le_of_ble_eq_true rfl) dX11_readKind_21 (fun r_4 w_10 H locs hv hP hD hS => ?_)
      have hP : va_P (dC, dI) vwCl (pX11_readKind cy h t_kind t_exponent t_letters t_input t_fed t_at t_rowSize t_steps t_foundMany t_keptMany t_keptLetters t_isFull t_isSaved t_savedKind t_savedExponent t_savedLetters) H := hP
      have hD : va_D A (pX11_readKind cy h t_kind t_exponent t_letters t_input t_fed t_at t_rowSize t_steps t_foundMany t_keptMany t_keptLetters t_isFull t_isSaved t_savedKind t_savedExponent t_savedLetters) := hD
      refine lv_if_eq (tgt := 49) hx hb dX11_readKind_24 (by decide) (fun c_9 => ?_) (fun c_9 => ?_)
      · have hv := hv.1 c_9
        exact wX11_readKind_49 l h post K4  t_kind t_exponent t_letters t_input t_fed t_rowSize t_steps t_foundMany t_keptMany t_keptLetters t_isFull t_isSaved t_savedKind t_savedExponent t_savedLetters p1 C0 hK4 t_at x2 x3 x4 hv _ _ _ hP hD hS (lv_sub hl [0, 1, 2, 3, 4] rfl)
      · have hv := hv.2 c_9
        refine lv_iload_n hx hb dX11_readKind_27 rfl (lv_at hl 3 rfl) ?_
        refine lv_iload hx hb dX11_readKind_28 (lv_at hl 4 rfl) ?_
        refine cb_SI (As := [.int x3, .int x4]) (rest := []) ⟨hx, hb, hml, hown, hts⟩ (kX11_nameAt l dC dI cy (adl []) x3 x4 _ hv) (va_cwS 2 hts gX11_readKind_X11_nameAt rfl rfl rfl zX11_nameAt ⟨Nat.le_of_ble_eq_true rfl, Nat.le_of_ble_eq_true rfl⟩) hK hP hD hS hA [] [none, none] rfl rfl rfl (fun _ => rfl) rfl hl.1 rfl (Nat.le_of_ble_eq_true rfl) dX11_readKind_30 (fun r_5 w_8 H locs hv hP hD hS => ?_)
        have hP : va_P (dC, dI) vwCl (pX11_readKind cy h t_kind t_exponent t_letters t_input t_fed t_at t_rowSize t_steps t_foundMany t_keptMany t_keptLetters t_isFull t_isSaved t_savedKind t_savedExponent t_savedLetters) H := hP
        have hD : va_D A (pX11_readKind cy h t_kind t_exponent t_letters t_input t_fed t_at t_rowSize t_steps t_foundMany t_keptMany t_keptLetters t_isFull t_isSaved t_savedKind t_savedExponent t_savedLetters) := hD
        refine lv_aload_n hx hb dX11_readKind_33 rfl (lv_at hl 0 rfl) ?_
        refine va_get (D := (dC, dI)) (ci := 11) (v := .ref (h 1)) (C := RX11) (T := TX11) (N := 36) hx hb hts nX11_readKind_X11 hown hK hP 0 rfl rfl 8 (by decide) (hts _ mX11_readKind_1) (fun _ h9 => h9) rfl dX11_readKind_34 ?_
        refine lv_iload hx hb dX11_readKind_37 (lv_at hl 4 rfl) ?_
        have h_6 := hv.1
        have hv := hv.2
        refine va_iald hx hb hK hP 1 0 rfl rfl h_6 dX11_readKind_39 ?_
        refine lv_icmp_ne (tgt := 49) hx hb dX11_readKind_40 (by decide) (fun c_7 => ?_) (fun c_7 => ?_)
        · have hv := hv.1 c_7
          exact wX11_readKind_49 l h post K4  t_kind t_exponent t_letters t_input t_fed t_rowSize t_steps t_foundMany t_keptMany t_keptLetters t_isFull t_isSaved t_savedKind t_savedExponent t_savedLetters p1 C0 hK4 t_at x2 x3 x4 hv _ _ _ hP hD hS (lv_sub hl [0, 1, 2, 3, 4] rfl)
        · have hv := hv.2 c_7
          refine lv_iinc (v := (x4 + 1)) (lv' := [(4, .int ((x4 + 1))), (0, .ref (h 0)), (1, .int p1), (2, .int x2), (3, .int x3)]) hx hb dX11_readKind_43 hl (k := 4) rfl rfl (by decide) rfl (fun ls hl => ?_)
          refine lv_goto (tgt := 12) hx hb dX11_readKind_46 (by decide) ?_
          exact ih t_at x2 x3 (x4 + 1) hv _ _ _ hP hD hS (lv_sub hl [1, 2, 3, 4, 0] rfl)
set_option maxHeartbeats 4000000 in
set_option maxRecDepth 100000 in
theorem wX11_readKind_4 {p : Program} (l : Launch) {e : Env} {s : State} {m : MethodId} {args : Array Value} {below : List Frame} {meth : Method} {c : Code} {dC : Nat → ClassId} {dI : Nat → Nat → Nat} {cy : Nat → ClassId} {A : Nat → Prop} (h : Nat → Nat) (post : Int32 → Int32 → Prop)   (t_kind : Int32) (t_exponent : Int32) (t_letters : Int32) (t_input : Nat → Int32) (t_fed : Int32) (t_rowSize : Int32) (t_steps : Int32) (t_foundMany : Int32) (t_keptMany : Int32) (t_keptLetters : Int32) (t_isFull : Int32) (t_isSaved : Int32) (t_savedKind : Int32) (t_savedExponent : Int32) (t_savedLetters : Int32) (p1 : Int32) (C0 : cx p s m args meth c cX11_readKind 5 (some .int) wsX11_readKind RX11 dC dI cy A)  : ∀ (n : Nat) (t_at : Int32) (x2 : Int32) (x3 : Int32), VX11_readKind_4 post t_input p1 n t_at x2 x3 → ∀ (H : Heap) (locs : List Loc) (ls : Array Slot), va_P (dC, dI) vwCl (pX11_readKind cy h t_kind t_exponent t_letters t_input t_fed t_at t_rowSize t_steps t_foundMany t_keptMany t_keptLetters t_isFull t_isSaved t_savedKind t_savedExponent t_savedLetters) H → va_D A (pX11_readKind cy h t_kind t_exponent t_letters t_input t_fed t_at t_rowSize t_steps t_foundMany t_keptMany t_keptLetters t_isFull t_isSaved t_savedKind t_savedExponent t_savedLetters) → va_S A s.heap H locs → lv_has ls 5 [(0, .ref (h 0)), (1, .int p1), (2, .int x2), (3, .int x3)] → W p l e rX11_readKind s m args below meth c H locs 0 0 (MQ below (va_Qi (fun (r : Int32) (u : Int32) => post r u) (fun (u : Int32) (t : State) => va_P (dC, dI) vwCl (pX11_readKind cy h t_kind t_exponent t_letters t_input t_fed u t_rowSize t_steps t_foundMany t_keptMany t_keptLetters t_isFull t_isSaved t_savedKind t_savedExponent t_savedLetters) t.heap) A) args s 0 0 A) (F0 m 4 ls []) := by
  have C1 := C0
  obtain ⟨hx, hb, hr, hml, hown, hts, hlocks, hK, hA⟩ := C1
  intro n
  induction n with
  | zero => intro t_at x2 x3 hv; exact hv.elim
  | succ n ih =>
    intro t_at x2 x3 hv H locs ls hP hD hS hl
    refine lv_iload_n hx hb dX11_readKind_4 rfl (lv_at hl 3 rfl) ?_
    refine lv_iconst (v := 4) hx hb dX11_readKind_5 (by decide) ?_
    refine lv_icmp_ge (tgt := 79) hx hb dX11_readKind_6 (by decide) (fun c_3 => ?_) (fun c_3 => ?_)
    · have hv := hv.1 c_3
      refine lv_aload_n hx hb dX11_readKind_79 rfl (lv_at hl 0 rfl) ?_
      refine lv_iload_n hx hb dX11_readKind_80 rfl (lv_at hl 2 rfl) ?_
      refine va_put (D := (dC, dI)) (ci := 11) (v := .int x2) (ty := .int) (C := RX11) (T := TX11) (N := 36) hx hb hts nX11_readKind_X11 tyX11 tyX11_ok nmX11 hown hK hP hD hS 0 rfl rfl 10 (by decide) (hts _ mX11_readKind_2) (fun _ h9 => h9) rfl (by decide +kernel) rfl rfl (Nat.le_of_ble_eq_true rfl) dX11_readKind_81 (fun H locs hP hD hS => ?_)
      have hP : va_P (dC, dI) vwCl (pX11_readKind cy h t_kind t_exponent t_letters t_input t_fed x2 t_rowSize t_steps t_foundMany t_keptMany t_keptLetters t_isFull t_isSaved t_savedKind t_savedExponent t_savedLetters) H := hP
      have hD : va_D A (pX11_readKind cy h t_kind t_exponent t_letters t_input t_fed x2 t_rowSize t_steps t_foundMany t_keptMany t_keptLetters t_isFull t_isSaved t_savedKind t_savedExponent t_savedLetters) := hD
      refine lv_bipush (v := (-2)) hx hb dX11_readKind_84 (by decide) ?_
      exact W.iret (v := (-2)) hx hb hr (fun t ht hW => ⟨⟨(-2), (x2), rfl, hv, va_Ph ht hP⟩, hS.F ht⟩) hS.2.2 dX11_readKind_86
    · have hv := hv.2 c_3
      refine lv_iconst (v := 0) hx hb dX11_readKind_9 (by decide) ?_
      refine lv_istore (lv' := [(4, .int 0), (0, .ref (h 0)), (1, .int p1), (2, .int x2), (3, .int x3)]) hx hb dX11_readKind_10 hl (by decide) rfl (fun ls hl => ?_)
      obtain ⟨n_2, hv⟩ := hv
      exact wX11_readKind_12 l h post (fun t_at x2 x3 => VX11_readKind_4 post t_input p1 n t_at x2 x3)  t_kind t_exponent t_letters t_input t_fed t_rowSize t_steps t_foundMany t_keptMany t_keptLetters t_isFull t_isSaved t_savedKind t_savedExponent t_savedLetters p1 C0 ih n_2 t_at x2 x3 0 hv _ _ _ hP hD hS (lv_sub hl [1, 2, 3, 4, 0] rfl)
set_option maxHeartbeats 4000000 in
set_option maxRecDepth 100000 in
theorem wX11_readKind_0 {p : Program} (l : Launch) {e : Env} {s : State} {m : MethodId} {args : Array Value} {below : List Frame} {meth : Method} {c : Code} {dC : Nat → ClassId} {dI : Nat → Nat → Nat} {cy : Nat → ClassId} {A : Nat → Prop} (h : Nat → Nat) (post : Int32 → Int32 → Prop)   (t_kind : Int32) (t_exponent : Int32) (t_letters : Int32) (t_input : Nat → Int32) (t_fed : Int32) (t_rowSize : Int32) (t_steps : Int32) (t_foundMany : Int32) (t_keptMany : Int32) (t_keptLetters : Int32) (t_isFull : Int32) (t_isSaved : Int32) (t_savedKind : Int32) (t_savedExponent : Int32) (t_savedLetters : Int32) (p1 : Int32) (C0 : cx p s m args meth c cX11_readKind 5 (some .int) wsX11_readKind RX11 dC dI cy A)  : ∀ (t_at : Int32), VX11_readKind post t_input p1 t_at → ∀ (H : Heap) (locs : List Loc) (ls : Array Slot), va_P (dC, dI) vwCl (pX11_readKind cy h t_kind t_exponent t_letters t_input t_fed t_at t_rowSize t_steps t_foundMany t_keptMany t_keptLetters t_isFull t_isSaved t_savedKind t_savedExponent t_savedLetters) H → va_D A (pX11_readKind cy h t_kind t_exponent t_letters t_input t_fed t_at t_rowSize t_steps t_foundMany t_keptMany t_keptLetters t_isFull t_isSaved t_savedKind t_savedExponent t_savedLetters) → va_S A s.heap H locs → lv_has ls 5 [(0, .ref (h 0)), (1, .int p1)] → W p l e rX11_readKind s m args below meth c H locs 0 0 (MQ below (va_Qi (fun (r : Int32) (u : Int32) => post r u) (fun (u : Int32) (t : State) => va_P (dC, dI) vwCl (pX11_readKind cy h t_kind t_exponent t_letters t_input t_fed u t_rowSize t_steps t_foundMany t_keptMany t_keptLetters t_isFull t_isSaved t_savedKind t_savedExponent t_savedLetters) t.heap) A) args s 0 0 A) (F0 m 0 ls []) := by
  have C1 := C0
  obtain ⟨hx, hb, hr, hml, hown, hts, hlocks, hK, hA⟩ := C1
  intro t_at hv H locs ls hP hD hS hl
  refine lv_iconst (v := 0) hx hb dX11_readKind_0 (by decide) ?_
  refine lv_istore_n (lv' := [(2, .int 0), (0, .ref (h 0)), (1, .int p1)]) hx hb dX11_readKind_1 rfl hl (by decide) rfl (fun ls hl => ?_)
  refine lv_iconst (v := 0) hx hb dX11_readKind_2 (by decide) ?_
  refine lv_istore_n (lv' := [(3, .int 0), (2, .int 0), (0, .ref (h 0)), (1, .int p1)]) hx hb dX11_readKind_3 rfl hl (by decide) rfl (fun ls hl => ?_)
  obtain ⟨n_1, hv⟩ := hv
  exact wX11_readKind_4 l h post  t_kind t_exponent t_letters t_input t_fed t_rowSize t_steps t_foundMany t_keptMany t_keptLetters t_isFull t_isSaved t_savedKind t_savedExponent t_savedLetters p1 C0 n_1 t_at 0 0 hv _ _ _ hP hD hS (lv_sub hl [2, 3, 1, 0] rfl)
theorem kX11_readKind (l : Launch) (dC : Nat → ClassId) (dI : Nat → Nat → Nat) (cy : Nat → ClassId) (h : Nat → Nat) (t_kind : Int32) (t_exponent : Int32) (t_letters : Int32) (t_input : Nat → Int32) (t_fed : Int32) (t_at : Int32) (t_rowSize : Int32) (t_steps : Int32) (t_foundMany : Int32) (t_keptMany : Int32) (t_keptLetters : Int32) (t_isFull : Int32) (t_isSaved : Int32) (t_savedKind : Int32) (t_savedExponent : Int32) (t_savedLetters : Int32) (p1 : Int32) (post : Int32 → Int32 → Prop) (hv : VX11_readKind post t_input p1 t_at) : CtI l yX11_readKind wsX11_readKind rX11_readKind dC dI cy [.ref (h 0), .int p1] (pX11_readKind cy h t_kind t_exponent t_letters t_input t_fed t_at t_rowSize t_steps t_foundMany t_keptMany t_keptLetters t_isFull t_isSaved t_savedKind t_savedExponent t_savedLetters) (fun (u : Int32) => pX11_readKind cy h t_kind t_exponent t_letters t_input t_fed u t_rowSize t_steps t_foundMany t_keptMany t_keptLetters t_isFull t_isSaved t_savedKind t_savedExponent t_savedLetters) (fun (r : Int32) (u : Int32) => post r u) :=
  ct_ofI (by decide) rfl (Nat.le_of_ble_eq_true rfl) (fun p e s m below meth c A ls C0 hP hD hS hl => wX11_readKind_0 l h post t_kind t_exponent t_letters t_input t_fed t_rowSize t_steps t_foundMany t_keptMany t_keptLetters t_isFull t_isSaved t_savedKind t_savedExponent t_savedLetters p1 C0 t_at hv _ _ _ hP hD hS hl)
theorem mX11_parseProblem_1 : (Cond.fieldLink RX11 89 "AbelianPowersModel" "fed" "I") ∈ wsX11_parseProblem := List.mem_of_getElem? (i := 1) rfl
theorem mX11_parseProblem_2 : (Cond.fieldLink RX11 92 "AbelianPowersModel" "at" "I") ∈ wsX11_parseProblem := List.mem_of_getElem? (i := 2) rfl
theorem mX11_parseProblem_3 : (Cond.fieldLink RX11 7 "AbelianPowersModel" "kind" "I") ∈ wsX11_parseProblem := List.mem_of_getElem? (i := 3) rfl
theorem mX11_parseProblem_4 : (Cond.fieldLink RX11 13 "AbelianPowersModel" "exponent" "I") ∈ wsX11_parseProblem := List.mem_of_getElem? (i := 4) rfl
theorem mX11_parseProblem_5 : (Cond.fieldLink RX11 16 "AbelianPowersModel" "letters" "I") ∈ wsX11_parseProblem := List.mem_of_getElem? (i := 5) rfl
theorem mX11_parseProblem_6 : (Cond.fieldLink RX11 26 "AbelianPowersModel" "lengths" "[I") ∈ wsX11_parseProblem := List.mem_of_getElem? (i := 6) rfl
theorem mX11_parseProblem_7 : (Cond.fieldLink RX11 32 "AbelianPowersModel" "imageSizes" "[I") ∈ wsX11_parseProblem := List.mem_of_getElem? (i := 7) rfl
theorem mX11_parseProblem_8 : (Cond.fieldLink RX11 19 "AbelianPowersModel" "values" "[I") ∈ wsX11_parseProblem := List.mem_of_getElem? (i := 8) rfl
theorem nX11_parseProblem_X11 : ∀ w ∈ wsX110, w ∈ wsX11_parseProblem := fun _ h => List.mem_cons_of_mem _ (List.mem_append_right _ h)
theorem zX11_parseProblem : yX11_parseProblem.cls = RX11 ∧ yX11_parseProblem.cls ≠ "java/lang/invoke/MethodHandle" ∧ yX11_parseProblem.cls ≠ "java/lang/invoke/VarHandle" ∧ (parseMethodDescriptor yX11_parseProblem.desc).map (fun d => d.parameters.length) = some 0 := by decide +kernel
abbrev rX11_parseProblem : Room := { frames := 2, cells := 0, slots := 0, locals := 45 }
abbrev pX11_parseProblem (cy : Nat → ClassId) (h : Nat → Nat) (t_kind : Int32) (t_exponent : Int32) (t_letters : Int32) (t_values : Nat → Int32) (t_lengths : Nat → Int32) (t_imageSizes : Nat → Int32) (t_input : Nat → Int32) (t_fed : Int32) (t_at : Int32) (t_rowSize : Int32) (t_steps : Int32) (t_foundMany : Int32) (t_keptMany : Int32) (t_keptLetters : Int32) (t_isFull : Int32) (t_isSaved : Int32) (t_savedKind : Int32) (t_savedExponent : Int32) (t_savedLetters : Int32) : va_W := [(h 0, .inr (11, [.int t_kind, .int t_exponent, .int t_letters, .ref (h 1), .ref (h 5), .ref (h 2), .ref (h 6), .ref (h 3), .ref (h 4), .int t_fed, .int t_at, .ref (h 7), .int t_rowSize, .int t_steps, .ref (h 8), .int t_foundMany, .ref (h 9), .int t_keptMany, .int t_keptLetters, .ref (h 10), .ref (h 11), .ref (h 12), .ref (h 13), .ref (h 14), .int t_isFull, .ref (h 15), .ref (h 16), .int t_isSaved, .int t_savedKind, .int t_savedExponent, .int t_savedLetters, .ref (h 17), .ref (h 18), .ref (h 19), .ref (h 20), .ref (h 21)])), (h 1, .inl (cy 0, 4, .inl t_values)), (h 2, .inl (cy 0, 3, .inl t_lengths)), (h 3, .inl (cy 0, 4, .inl t_imageSizes)), (h 4, .inl (cy 0, 16, .inl t_input))]
def VX11_parseProblem_196 (post : Int32 → Int32 → Int32 → Int32 → (Nat → Int32) → (Nat → Int32) → (Nat → Int32) → Int32 → Int32 → Prop)  (t_input : Nat → Int32) : Nat → Int32 → Int32 → Int32 → (Nat → Int32) → (Nat → Int32) → (Nat → Int32) → Int32 → Int32 → Int32 → Int32 → Prop
  | 0, _, _, _, _, _, _, _, _, _, _ => False
  | n + 1, t_kind, t_exponent, t_letters, t_values, t_lengths, t_imageSizes, t_fed, t_at, x3, x5 => ((4 ≤ x5) → post x3 t_kind t_exponent t_letters t_values t_lengths t_imageSizes t_fed t_at) ∧ (¬ (4 ≤ x5) → vp_in (x5 - x5 / 3 * 3) 3 ∧ (vp_in x5 4 ∧ (vp_in x5 4 ∧ (VX11_parseProblem_196 post t_input n t_kind t_exponent t_letters (upd t_values x5.toNatClampNeg x5) (upd t_lengths (x5 - x5 / 3 * 3).toNatClampNeg 0) (upd t_imageSizes x5.toNatClampNeg 0) t_fed t_at x3 (x5 + 1)))))
def VX11_parseProblem (post : Int32 → Int32 → Int32 → Int32 → (Nat → Int32) → (Nat → Int32) → (Nat → Int32) → Int32 → Int32 → Prop)  (t_input : Nat → Int32) (t_kind : Int32) (t_exponent : Int32) (t_letters : Int32) (t_values : Nat → Int32) (t_lengths : Nat → Int32) (t_imageSizes : Nat → Int32) (t_fed : Int32) (t_at : Int32) : Prop := VX11_readKind (fun r_1 u_2 => ((r_1 = (-2)) → post ((-100 : Int32) - u_2) t_kind t_exponent t_letters t_values t_lengths t_imageSizes 0 u_2) ∧ (¬ (r_1 = (-2)) → VX11_sign (fun r_3 => ((r_3 = 32) → VX11_sign (fun r_4 => VX11_isIn (fun r_5 => (¬ (r_5 = 0) → VX11_sign (fun r_6 => ((r_6 = 32) → VX11_sign (fun r_7 => VX11_isIn (fun r_8 => (¬ (r_8 = 0) → ((t_fed ≤ ((((u_2 + 1) + 1) + 1) + 1)) → (((r_7 - 48) = t_letters) → post (r_4 - 48) r_1 (r_4 - 48) t_letters t_values t_lengths t_imageSizes 0 ((((u_2 + 1) + 1) + 1) + 1)) ∧ (¬ ((r_7 - 48) = t_letters) → ∃ n196 : Nat, VX11_parseProblem_196 post t_input n196 r_1 (r_4 - 48) (r_7 - 48) t_values t_lengths t_imageSizes 0 ((((u_2 + 1) + 1) + 1) + 1) (r_4 - 48) 0)) ∧ (¬ (t_fed ≤ ((((u_2 + 1) + 1) + 1) + 1)) → ∀ y_11 : Int32, y_11 = ((-100 : Int32) - ((((u_2 + 1) + 1) + 1) + 1)) → post y_11 t_kind t_exponent t_letters t_values t_lengths t_imageSizes 0 ((((u_2 + 1) + 1) + 1) + 1))) ∧ ((r_8 = 0) → ∀ y_13 : Int32, y_13 = ((-100 : Int32) - (((u_2 + 1) + 1) + 1)) → post y_13 t_kind t_exponent t_letters t_values t_lengths t_imageSizes 0 (((u_2 + 1) + 1) + 1))) (r_7 - 48) 2 4) t_input (((u_2 + 1) + 1) + 1) t_fed) ∧ (¬ (r_6 = 32) → ∀ y_17 : Int32, y_17 = ((-100 : Int32) - ((u_2 + 1) + 1)) → post y_17 t_kind t_exponent t_letters t_values t_lengths t_imageSizes 0 ((u_2 + 1) + 1))) t_input ((u_2 + 1) + 1) t_fed) ∧ ((r_5 = 0) → post ((-100 : Int32) - (u_2 + 1)) t_kind t_exponent t_letters t_values t_lengths t_imageSizes 0 (u_2 + 1))) (r_4 - 48) 2 4) t_input (u_2 + 1) t_fed) ∧ (¬ (r_3 = 32) → post ((-100 : Int32) - u_2) t_kind t_exponent t_letters t_values t_lengths t_imageSizes 0 u_2)) t_input u_2 t_fed)) t_input t_fed t_at
set_option maxHeartbeats 4000000 in
set_option maxRecDepth 100000 in
theorem wX11_parseProblem_196 {p : Program} (l : Launch) {e : Env} {s : State} {m : MethodId} {args : Array Value} {below : List Frame} {meth : Method} {c : Code} {dC : Nat → ClassId} {dI : Nat → Nat → Nat} {cy : Nat → ClassId} {A : Nat → Prop} (h : Nat → Nat) (post : Int32 → Int32 → Int32 → Int32 → (Nat → Int32) → (Nat → Int32) → (Nat → Int32) → Int32 → Int32 → Prop)   (t_input : Nat → Int32) (t_rowSize : Int32) (t_steps : Int32) (t_foundMany : Int32) (t_keptMany : Int32) (t_keptLetters : Int32) (t_isFull : Int32) (t_isSaved : Int32) (t_savedKind : Int32) (t_savedExponent : Int32) (t_savedLetters : Int32)  (C0 : cx p s m args meth c cX11_parseProblem 6 (some .int) wsX11_parseProblem RX11 dC dI cy A)  : ∀ (n : Nat) (t_kind : Int32) (t_exponent : Int32) (t_letters : Int32) (t_values : Nat → Int32) (t_lengths : Nat → Int32) (t_imageSizes : Nat → Int32) (t_fed : Int32) (t_at : Int32) (x3 : Int32) (x5 : Int32), VX11_parseProblem_196 post t_input n t_kind t_exponent t_letters t_values t_lengths t_imageSizes t_fed t_at x3 x5 → ∀ (H : Heap) (locs : List Loc) (ls : Array Slot), va_P (dC, dI) vwCl (pX11_parseProblem cy h t_kind t_exponent t_letters t_values t_lengths t_imageSizes t_input t_fed t_at t_rowSize t_steps t_foundMany t_keptMany t_keptLetters t_isFull t_isSaved t_savedKind t_savedExponent t_savedLetters) H → va_D A (pX11_parseProblem cy h t_kind t_exponent t_letters t_values t_lengths t_imageSizes t_input t_fed t_at t_rowSize t_steps t_foundMany t_keptMany t_keptLetters t_isFull t_isSaved t_savedKind t_savedExponent t_savedLetters) → va_S A s.heap H locs → lv_has ls 6 [(0, .ref (h 0)), (3, .int x3), (5, .int x5)] → W p l e rX11_parseProblem s m args below meth c H locs 0 0 (MQ below (va_Qi (fun (r : Int32) (u : Int32 × Int32 × Int32 × (Nat → Int32) × (Nat → Int32) × (Nat → Int32) × Int32 × Int32) => post r u.1 u.2.1 u.2.2.1 u.2.2.2.1 u.2.2.2.2.1 u.2.2.2.2.2.1 u.2.2.2.2.2.2.1 u.2.2.2.2.2.2.2) (fun (u : Int32 × Int32 × Int32 × (Nat → Int32) × (Nat → Int32) × (Nat → Int32) × Int32 × Int32) (t : State) => va_P (dC, dI) vwCl (pX11_parseProblem cy h u.1 u.2.1 u.2.2.1 u.2.2.2.1 u.2.2.2.2.1 u.2.2.2.2.2.1 t_input u.2.2.2.2.2.2.1 u.2.2.2.2.2.2.2 t_rowSize t_steps t_foundMany t_keptMany t_keptLetters t_isFull t_isSaved t_savedKind t_savedExponent t_savedLetters) t.heap) A) args s 0 0 A) (F0 m 196 ls []) := by
  have C1 := C0
  obtain ⟨hx, hb, hr, hml, hown, hts, hlocks, hK, hA⟩ := C1
  intro n
  induction n with
  | zero => intro t_kind t_exponent t_letters t_values t_lengths t_imageSizes t_fed t_at x3 x5 hv; exact hv.elim
  | succ n ih =>
    intro t_kind t_exponent t_letters t_values t_lengths t_imageSizes t_fed t_at x3 x5 hv H locs ls hP hD hS hl
    refine lv_iload hx hb dX11_parseProblem_196 (lv_at hl 2 rfl) ?_
    refine lv_iconst (v := 4) hx hb dX11_parseProblem_198 (by decide) ?_
    refine lv_icmp_ge (tgt := 235) hx hb dX11_parseProblem_199 (by decide) (fun c_31 => ?_) (fun c_31 => ?_)
    · have hv := hv.1 c_31
      refine lv_iload_n hx hb dX11_parseProblem_235 rfl (lv_at hl 1 rfl) ?_
      exact W.iret (v := x3) hx hb hr (fun t ht hW => ⟨⟨x3, (t_kind, t_exponent, t_letters, t_values, t_lengths, t_imageSizes, t_fed, t_at), rfl, hv, va_Ph ht hP⟩, hS.F ht⟩) hS.2.2 dX11_parseProblem_236
    · have hv := hv.2 c_31
      refine lv_aload_n hx hb dX11_parseProblem_202 rfl (lv_at hl 0 rfl) ?_
      refine va_get (D := (dC, dI)) (ci := 11) (v := .ref (h 2)) (C := RX11) (T := TX11) (N := 36) hx hb hts nX11_parseProblem_X11 hown hK hP 0 rfl rfl 5 (by decide) (hts _ mX11_parseProblem_6) (fun _ h9 => h9) rfl dX11_parseProblem_203 ?_
      refine lv_iload hx hb dX11_parseProblem_206 (lv_at hl 2 rfl) ?_
      refine lv_iconst (v := 3) hx hb dX11_parseProblem_208 (by decide) ?_
      refine lv_irem hx hb dX11_parseProblem_209 (by decide) ?_
      refine lv_iconst (v := 0) hx hb dX11_parseProblem_210 (by decide) ?_
      have h_28 := hv.1
      have hv := hv.2
      refine va_iast hx hb hK hP hD hS 2 0 rfl rfl h_28 dX11_parseProblem_211 (fun H locs hP hD hS => ?_)
      have hP : va_P (dC, dI) vwCl (pX11_parseProblem cy h t_kind t_exponent t_letters t_values (upd t_lengths (x5 - x5 / 3 * 3).toNatClampNeg 0) t_imageSizes t_input t_fed t_at t_rowSize t_steps t_foundMany t_keptMany t_keptLetters t_isFull t_isSaved t_savedKind t_savedExponent t_savedLetters) H := hP
      have hD : va_D A (pX11_parseProblem cy h t_kind t_exponent t_letters t_values (upd t_lengths (x5 - x5 / 3 * 3).toNatClampNeg 0) t_imageSizes t_input t_fed t_at t_rowSize t_steps t_foundMany t_keptMany t_keptLetters t_isFull t_isSaved t_savedKind t_savedExponent t_savedLetters) := hD
      refine lv_aload_n hx hb dX11_parseProblem_212 rfl (lv_at hl 0 rfl) ?_
      refine va_get (D := (dC, dI)) (ci := 11) (v := .ref (h 3)) (C := RX11) (T := TX11) (N := 36) hx hb hts nX11_parseProblem_X11 hown hK hP 0 rfl rfl 7 (by decide) (hts _ mX11_parseProblem_7) (fun _ h9 => h9) rfl dX11_parseProblem_213 ?_
      refine lv_iload hx hb dX11_parseProblem_216 (lv_at hl 2 rfl) ?_
      refine lv_iconst (v := 0) hx hb dX11_parseProblem_218 (by decide) ?_
      have h_29 := hv.1
      have hv := hv.2
      refine va_iast hx hb hK hP hD hS 3 0 rfl rfl h_29 dX11_parseProblem_219 (fun H locs hP hD hS => ?_)
      have hP : va_P (dC, dI) vwCl (pX11_parseProblem cy h t_kind t_exponent t_letters t_values (upd t_lengths (x5 - x5 / 3 * 3).toNatClampNeg 0) (upd t_imageSizes x5.toNatClampNeg 0) t_input t_fed t_at t_rowSize t_steps t_foundMany t_keptMany t_keptLetters t_isFull t_isSaved t_savedKind t_savedExponent t_savedLetters) H := hP
      have hD : va_D A (pX11_parseProblem cy h t_kind t_exponent t_letters t_values (upd t_lengths (x5 - x5 / 3 * 3).toNatClampNeg 0) (upd t_imageSizes x5.toNatClampNeg 0) t_input t_fed t_at t_rowSize t_steps t_foundMany t_keptMany t_keptLetters t_isFull t_isSaved t_savedKind t_savedExponent t_savedLetters) := hD
      refine lv_aload_n hx hb dX11_parseProblem_220 rfl (lv_at hl 0 rfl) ?_
      refine va_get (D := (dC, dI)) (ci := 11) (v := .ref (h 1)) (C := RX11) (T := TX11) (N := 36) hx hb hts nX11_parseProblem_X11 hown hK hP 0 rfl rfl 3 (by decide) (hts _ mX11_parseProblem_8) (fun _ h9 => h9) rfl dX11_parseProblem_221 ?_
      refine lv_iload hx hb dX11_parseProblem_224 (lv_at hl 2 rfl) ?_
      refine lv_iload hx hb dX11_parseProblem_226 (lv_at hl 2 rfl) ?_
      have h_30 := hv.1
      have hv := hv.2
      refine va_iast hx hb hK hP hD hS 1 0 rfl rfl h_30 dX11_parseProblem_228 (fun H locs hP hD hS => ?_)
      have hP : va_P (dC, dI) vwCl (pX11_parseProblem cy h t_kind t_exponent t_letters (upd t_values x5.toNatClampNeg x5) (upd t_lengths (x5 - x5 / 3 * 3).toNatClampNeg 0) (upd t_imageSizes x5.toNatClampNeg 0) t_input t_fed t_at t_rowSize t_steps t_foundMany t_keptMany t_keptLetters t_isFull t_isSaved t_savedKind t_savedExponent t_savedLetters) H := hP
      have hD : va_D A (pX11_parseProblem cy h t_kind t_exponent t_letters (upd t_values x5.toNatClampNeg x5) (upd t_lengths (x5 - x5 / 3 * 3).toNatClampNeg 0) (upd t_imageSizes x5.toNatClampNeg 0) t_input t_fed t_at t_rowSize t_steps t_foundMany t_keptMany t_keptLetters t_isFull t_isSaved t_savedKind t_savedExponent t_savedLetters) := hD
      refine lv_iinc (v := (x5 + 1)) (lv' := [(5, .int ((x5 + 1))), (0, .ref (h 0)), (3, .int x3)]) hx hb dX11_parseProblem_229 hl (k := 2) rfl rfl (by decide) rfl (fun ls hl => ?_)
      refine lv_goto (tgt := 196) hx hb dX11_parseProblem_232 (by decide) ?_
      exact ih t_kind t_exponent t_letters (upd t_values x5.toNatClampNeg x5) (upd t_lengths (x5 - x5 / 3 * 3).toNatClampNeg 0) (upd t_imageSizes x5.toNatClampNeg 0) t_fed t_at x3 (x5 + 1) hv _ _ _ hP hD hS (lv_sub hl [1, 2, 0] rfl)
set_option maxHeartbeats 4000000 in
set_option maxRecDepth 100000 in
theorem wX11_parseProblem_0 {p : Program} (l : Launch) {e : Env} {s : State} {m : MethodId} {args : Array Value} {below : List Frame} {meth : Method} {c : Code} {dC : Nat → ClassId} {dI : Nat → Nat → Nat} {cy : Nat → ClassId} {A : Nat → Prop} (h : Nat → Nat) (post : Int32 → Int32 → Int32 → Int32 → (Nat → Int32) → (Nat → Int32) → (Nat → Int32) → Int32 → Int32 → Prop)   (t_input : Nat → Int32) (t_rowSize : Int32) (t_steps : Int32) (t_foundMany : Int32) (t_keptMany : Int32) (t_keptLetters : Int32) (t_isFull : Int32) (t_isSaved : Int32) (t_savedKind : Int32) (t_savedExponent : Int32) (t_savedLetters : Int32)  (C0 : cx p s m args meth c cX11_parseProblem 6 (some .int) wsX11_parseProblem RX11 dC dI cy A)  : ∀ (t_kind : Int32) (t_exponent : Int32) (t_letters : Int32) (t_values : Nat → Int32) (t_lengths : Nat → Int32) (t_imageSizes : Nat → Int32) (t_fed : Int32) (t_at : Int32), VX11_parseProblem post t_input t_kind t_exponent t_letters t_values t_lengths t_imageSizes t_fed t_at → ∀ (H : Heap) (locs : List Loc) (ls : Array Slot), va_P (dC, dI) vwCl (pX11_parseProblem cy h t_kind t_exponent t_letters t_values t_lengths t_imageSizes t_input t_fed t_at t_rowSize t_steps t_foundMany t_keptMany t_keptLetters t_isFull t_isSaved t_savedKind t_savedExponent t_savedLetters) H → va_D A (pX11_parseProblem cy h t_kind t_exponent t_letters t_values t_lengths t_imageSizes t_input t_fed t_at t_rowSize t_steps t_foundMany t_keptMany t_keptLetters t_isFull t_isSaved t_savedKind t_savedExponent t_savedLetters) → va_S A s.heap H locs → lv_has ls 6 [(0, .ref (h 0))] → W p l e rX11_parseProblem s m args below meth c H locs 0 0 (MQ below (va_Qi (fun (r : Int32) (u : Int32 × Int32 × Int32 × (Nat → Int32) × (Nat → Int32) × (Nat → Int32) × Int32 × Int32) => post r u.1 u.2.1 u.2.2.1 u.2.2.2.1 u.2.2.2.2.1 u.2.2.2.2.2.1 u.2.2.2.2.2.2.1 u.2.2.2.2.2.2.2) (fun (u : Int32 × Int32 × Int32 × (Nat → Int32) × (Nat → Int32) × (Nat → Int32) × Int32 × Int32) (t : State) => va_P (dC, dI) vwCl (pX11_parseProblem cy h u.1 u.2.1 u.2.2.1 u.2.2.2.1 u.2.2.2.2.1 u.2.2.2.2.2.1 t_input u.2.2.2.2.2.2.1 u.2.2.2.2.2.2.2 t_rowSize t_steps t_foundMany t_keptMany t_keptLetters t_isFull t_isSaved t_savedKind t_savedExponent t_savedLetters) t.heap) A) args s 0 0 A) (F0 m 0 ls []) := by
  have C1 := C0
  obtain ⟨hx, hb, hr, hml, hown, hts, hlocks, hK, hA⟩ := C1
  intro t_kind t_exponent t_letters t_values t_lengths t_imageSizes t_fed t_at hv H locs ls hP hD hS hl
  refine lv_aload_n hx hb dX11_parseProblem_0 rfl (lv_at hl 0 rfl) ?_
  refine va_get (D := (dC, dI)) (ci := 11) (v := .int t_fed) (C := RX11) (T := TX11) (N := 36) hx hb hts nX11_parseProblem_X11 hown hK hP 0 rfl rfl 9 (by decide) (hts _ mX11_parseProblem_1) (fun _ h9 => h9) rfl dX11_parseProblem_1 ?_
  refine lv_istore_n (lv' := [(1, .int t_fed), (0, .ref (h 0))]) hx hb dX11_parseProblem_4 rfl hl (by decide) rfl (fun ls hl => ?_)
  refine lv_aload_n hx hb dX11_parseProblem_5 rfl (lv_at hl 1 rfl) ?_
  refine lv_iconst (v := 0) hx hb dX11_parseProblem_6 (by decide) ?_
  refine va_put (D := (dC, dI)) (ci := 11) (v := .int 0) (ty := .int) (C := RX11) (T := TX11) (N := 36) hx hb hts nX11_parseProblem_X11 tyX11 tyX11_ok nmX11 hown hK hP hD hS 0 rfl rfl 9 (by decide) (hts _ mX11_parseProblem_1) (fun _ h9 => h9) rfl (by decide +kernel) rfl rfl (Nat.le_of_ble_eq_true rfl) dX11_parseProblem_7 (fun H locs hP hD hS => ?_)
  have hP : va_P (dC, dI) vwCl (pX11_parseProblem cy h t_kind t_exponent t_letters t_values t_lengths t_imageSizes t_input 0 t_at t_rowSize t_steps t_foundMany t_keptMany t_keptLetters t_isFull t_isSaved t_savedKind t_savedExponent t_savedLetters) H := hP
  have hD : va_D A (pX11_parseProblem cy h t_kind t_exponent t_letters t_values t_lengths t_imageSizes t_input 0 t_at t_rowSize t_steps t_foundMany t_keptMany t_keptLetters t_isFull t_isSaved t_savedKind t_savedExponent t_savedLetters) := hD
  refine lv_aload_n hx hb dX11_parseProblem_10 rfl (lv_at hl 1 rfl) ?_
  refine lv_iload_n hx hb dX11_parseProblem_11 rfl (lv_at hl 0 rfl) ?_
  refine cb_VI (As := [.int t_fed]) (rest := []) ⟨hx, hb, hml, hown, hts⟩ (kX11_readKind l dC dI cy (adl [h 0, h 4, h 1, h 5, h 2, h 6, h 3, h 7, h 8, h 9, h 10, h 11, h 12, h 13, h 14, h 15, h 16, h 17, h 18, h 19, h 20, h 21]) t_kind t_exponent t_letters t_input 0 t_at t_rowSize t_steps t_foundMany t_keptMany t_keptLetters t_isFull t_isSaved t_savedKind t_savedExponent t_savedLetters t_fed _ hv) (cwV 1 hts gX11_parseProblem_X11_readKind rfl rfl rfl zX11_readKind ⟨Nat.le_of_ble_eq_true rfl, Nat.le_of_ble_eq_true rfl⟩) hK hP hD hS hA [0, 4] [some 0, none, none, none, some 1] rfl rfl rfl (ci := 11) rfl rfl (fun _ => rfl) rfl hl.1 rfl (Nat.le_of_ble_eq_true rfl) dX11_parseProblem_12 (fun r_1 u_2 H locs hv hP hD hS => ?_)
  have hP : va_P (dC, dI) vwCl (pX11_parseProblem cy h t_kind t_exponent t_letters t_values t_lengths t_imageSizes t_input 0 u_2 t_rowSize t_steps t_foundMany t_keptMany t_keptLetters t_isFull t_isSaved t_savedKind t_savedExponent t_savedLetters) H := hP
  have hD : va_D A (pX11_parseProblem cy h t_kind t_exponent t_letters t_values t_lengths t_imageSizes t_input 0 u_2 t_rowSize t_steps t_foundMany t_keptMany t_keptLetters t_isFull t_isSaved t_savedKind t_savedExponent t_savedLetters) := hD
  refine lv_istore_n (lv' := [(2, .int r_1), (1, .int t_fed), (0, .ref (h 0))]) hx hb dX11_parseProblem_15 rfl hl (by decide) rfl (fun ls hl => ?_)
  refine lv_iload_n hx hb dX11_parseProblem_16 rfl (lv_at hl 0 rfl) ?_
  refine lv_bipush (v := (-2)) hx hb dX11_parseProblem_17 (by decide) ?_
  refine lv_icmp_eq (tgt := 32) hx hb dX11_parseProblem_19 (by decide) (fun c_25 => ?_) (fun c_25 => ?_)
  · have hv := hv.1 c_25
    refine lv_bipush (v := (-100)) hx hb dX11_parseProblem_32 (by decide) ?_
    refine lv_aload_n hx hb dX11_parseProblem_34 rfl (lv_at hl 2 rfl) ?_
    refine va_get (D := (dC, dI)) (ci := 11) (v := .int u_2) (C := RX11) (T := TX11) (N := 36) hx hb hts nX11_parseProblem_X11 hown hK hP 0 rfl rfl 10 (by decide) (hts _ mX11_parseProblem_2) (fun _ h9 => h9) rfl dX11_parseProblem_35 ?_
    refine lv_isub hx hb dX11_parseProblem_38 ?_
    exact W.iret (v := ((-100 : Int32) - u_2)) hx hb hr (fun t ht hW => ⟨⟨((-100 : Int32) - u_2), (t_kind, t_exponent, t_letters, t_values, t_lengths, t_imageSizes, 0, u_2), rfl, hv, va_Ph ht hP⟩, hS.F ht⟩) hS.2.2 dX11_parseProblem_39
  · have hv := hv.2 c_25
    refine lv_aload_n hx hb dX11_parseProblem_22 rfl (lv_at hl 2 rfl) ?_
    refine lv_iload_n hx hb dX11_parseProblem_23 rfl (lv_at hl 1 rfl) ?_
    refine cb_VI (As := [.int t_fed]) (rest := []) ⟨hx, hb, hml, hown, hts⟩ (kX11_sign l dC dI cy (adl [h 0, h 4, h 1, h 5, h 2, h 6, h 3, h 7, h 8, h 9, h 10, h 11, h 12, h 13, h 14, h 15, h 16, h 17, h 18, h 19, h 20, h 21]) t_kind t_exponent t_letters t_input 0 u_2 t_rowSize t_steps t_foundMany t_keptMany t_keptLetters t_isFull t_isSaved t_savedKind t_savedExponent t_savedLetters t_fed _ hv) (cwV 1 hts gX11_parseProblem_X11_sign rfl rfl rfl zX11_sign ⟨Nat.le_of_ble_eq_true rfl, Nat.le_of_ble_eq_true rfl⟩) hK hP hD hS hA [0, 4] [some 0, none, none, none, some 1] rfl rfl rfl (ci := 11) rfl rfl (fun _ => rfl) rfl hl.1 rfl (Nat.le_of_ble_eq_true rfl) dX11_parseProblem_24 (fun r_3 w_24 H locs hv hP hD hS => ?_)
    have hP : va_P (dC, dI) vwCl (pX11_parseProblem cy h t_kind t_exponent t_letters t_values t_lengths t_imageSizes t_input 0 u_2 t_rowSize t_steps t_foundMany t_keptMany t_keptLetters t_isFull t_isSaved t_savedKind t_savedExponent t_savedLetters) H := hP
    have hD : va_D A (pX11_parseProblem cy h t_kind t_exponent t_letters t_values t_lengths t_imageSizes t_input 0 u_2 t_rowSize t_steps t_foundMany t_keptMany t_keptLetters t_isFull t_isSaved t_savedKind t_savedExponent t_savedLetters) := hD
    refine lv_bipush (v := 32) hx hb dX11_parseProblem_27 (by decide) ?_
    refine lv_icmp_eq (tgt := 40) hx hb dX11_parseProblem_29 (by decide) (fun c_23 => ?_) (fun c_23 => ?_)
    · have hv := hv.1 c_23
      refine lv_aload_n hx hb dX11_parseProblem_40 rfl (lv_at hl 2 rfl) ?_
      refine lv_dup hx hb dX11_parseProblem_41 rfl ?_
      refine va_get (D := (dC, dI)) (ci := 11) (v := .int u_2) (C := RX11) (T := TX11) (N := 36) hx hb hts nX11_parseProblem_X11 hown hK hP 0 rfl rfl 10 (by decide) (hts _ mX11_parseProblem_2) (fun _ h9 => h9) rfl dX11_parseProblem_42 ?_
      refine lv_iconst (v := 1) hx hb dX11_parseProblem_45 (by decide) ?_
      refine lv_iadd hx hb dX11_parseProblem_46 ?_
      refine va_put (D := (dC, dI)) (ci := 11) (v := .int (u_2 + 1)) (ty := .int) (C := RX11) (T := TX11) (N := 36) hx hb hts nX11_parseProblem_X11 tyX11 tyX11_ok nmX11 hown hK hP hD hS 0 rfl rfl 10 (by decide) (hts _ mX11_parseProblem_2) (fun _ h9 => h9) rfl (by decide +kernel) rfl rfl (Nat.le_of_ble_eq_true rfl) dX11_parseProblem_47 (fun H locs hP hD hS => ?_)
      have hP : va_P (dC, dI) vwCl (pX11_parseProblem cy h t_kind t_exponent t_letters t_values t_lengths t_imageSizes t_input 0 (u_2 + 1) t_rowSize t_steps t_foundMany t_keptMany t_keptLetters t_isFull t_isSaved t_savedKind t_savedExponent t_savedLetters) H := hP
      have hD : va_D A (pX11_parseProblem cy h t_kind t_exponent t_letters t_values t_lengths t_imageSizes t_input 0 (u_2 + 1) t_rowSize t_steps t_foundMany t_keptMany t_keptLetters t_isFull t_isSaved t_savedKind t_savedExponent t_savedLetters) := hD
      refine lv_aload_n hx hb dX11_parseProblem_50 rfl (lv_at hl 2 rfl) ?_
      refine lv_iload_n hx hb dX11_parseProblem_51 rfl (lv_at hl 1 rfl) ?_
      refine cb_VI (As := [.int t_fed]) (rest := []) ⟨hx, hb, hml, hown, hts⟩ (kX11_sign l dC dI cy (adl [h 0, h 4, h 1, h 5, h 2, h 6, h 3, h 7, h 8, h 9, h 10, h 11, h 12, h 13, h 14, h 15, h 16, h 17, h 18, h 19, h 20, h 21]) t_kind t_exponent t_letters t_input 0 (u_2 + 1) t_rowSize t_steps t_foundMany t_keptMany t_keptLetters t_isFull t_isSaved t_savedKind t_savedExponent t_savedLetters t_fed _ hv) (cwV 1 hts gX11_parseProblem_X11_sign rfl rfl rfl zX11_sign ⟨Nat.le_of_ble_eq_true rfl, Nat.le_of_ble_eq_true rfl⟩) hK hP hD hS hA [0, 4] [some 0, none, none, none, some 1] rfl rfl rfl (ci := 11) rfl rfl (fun _ => rfl) rfl hl.1 rfl (Nat.le_of_ble_eq_true rfl) dX11_parseProblem_52 (fun r_4 w_22 H locs hv hP hD hS => ?_)
      have hP : va_P (dC, dI) vwCl (pX11_parseProblem cy h t_kind t_exponent t_letters t_values t_lengths t_imageSizes t_input 0 (u_2 + 1) t_rowSize t_steps t_foundMany t_keptMany t_keptLetters t_isFull t_isSaved t_savedKind t_savedExponent t_savedLetters) H := hP
      have hD : va_D A (pX11_parseProblem cy h t_kind t_exponent t_letters t_values t_lengths t_imageSizes t_input 0 (u_2 + 1) t_rowSize t_steps t_foundMany t_keptMany t_keptLetters t_isFull t_isSaved t_savedKind t_savedExponent t_savedLetters) := hD
      refine lv_bipush (v := 48) hx hb dX11_parseProblem_55 (by decide) ?_
      refine lv_isub hx hb dX11_parseProblem_57 ?_
      refine lv_istore_n (lv' := [(3, .int ((r_4 - 48))), (2, .int r_1), (1, .int t_fed), (0, .ref (h 0))]) hx hb dX11_parseProblem_58 rfl hl (by decide) rfl (fun ls hl => ?_)
      refine lv_iload_n hx hb dX11_parseProblem_59 rfl (lv_at hl 0 rfl) ?_
      refine lv_iconst (v := 2) hx hb dX11_parseProblem_60 (by decide) ?_
      refine lv_iconst (v := 4) hx hb dX11_parseProblem_61 (by decide) ?_
      refine cb_SI (As := [.int ((r_4 - 48)), .int 2, .int 4]) (rest := []) ⟨hx, hb, hml, hown, hts⟩ (kX11_isIn l dC dI cy (adl []) (r_4 - 48) 2 4 _ hv) (va_cwS 3 hts gX11_parseProblem_X11_isIn rfl rfl rfl zX11_isIn ⟨Nat.le_of_ble_eq_true rfl, Nat.le_of_ble_eq_true rfl⟩) hK hP hD hS hA [] [none, none, none, none, none] rfl rfl rfl (fun _ => rfl) rfl hl.1 rfl (Nat.le_of_ble_eq_true rfl) dX11_parseProblem_62 (fun r_5 w_21 H locs hv hP hD hS => ?_)
      have hP : va_P (dC, dI) vwCl (pX11_parseProblem cy h t_kind t_exponent t_letters t_values t_lengths t_imageSizes t_input 0 (u_2 + 1) t_rowSize t_steps t_foundMany t_keptMany t_keptLetters t_isFull t_isSaved t_savedKind t_savedExponent t_savedLetters) H := hP
      have hD : va_D A (pX11_parseProblem cy h t_kind t_exponent t_letters t_values t_lengths t_imageSizes t_input 0 (u_2 + 1) t_rowSize t_steps t_foundMany t_keptMany t_keptLetters t_isFull t_isSaved t_savedKind t_savedExponent t_savedLetters) := hD
      refine lv_if_ne (tgt := 76) hx hb dX11_parseProblem_65 (by decide) (fun c_20 => ?_) (fun c_20 => ?_)
      · have hv := hv.1 c_20
        refine lv_aload_n hx hb dX11_parseProblem_76 rfl (lv_at hl 3 rfl) ?_
        refine lv_dup hx hb dX11_parseProblem_77 rfl ?_
        refine va_get (D := (dC, dI)) (ci := 11) (v := .int ((u_2 + 1))) (C := RX11) (T := TX11) (N := 36) hx hb hts nX11_parseProblem_X11 hown hK hP 0 rfl rfl 10 (by decide) (hts _ mX11_parseProblem_2) (fun _ h9 => h9) rfl dX11_parseProblem_78 ?_
        refine lv_iconst (v := 1) hx hb dX11_parseProblem_81 (by decide) ?_
        refine lv_iadd hx hb dX11_parseProblem_82 ?_
        refine va_put (D := (dC, dI)) (ci := 11) (v := .int ((u_2 + 1) + 1)) (ty := .int) (C := RX11) (T := TX11) (N := 36) hx hb hts nX11_parseProblem_X11 tyX11 tyX11_ok nmX11 hown hK hP hD hS 0 rfl rfl 10 (by decide) (hts _ mX11_parseProblem_2) (fun _ h9 => h9) rfl (by decide +kernel) rfl rfl (Nat.le_of_ble_eq_true rfl) dX11_parseProblem_83 (fun H locs hP hD hS => ?_)
        have hP : va_P (dC, dI) vwCl (pX11_parseProblem cy h t_kind t_exponent t_letters t_values t_lengths t_imageSizes t_input 0 ((u_2 + 1) + 1) t_rowSize t_steps t_foundMany t_keptMany t_keptLetters t_isFull t_isSaved t_savedKind t_savedExponent t_savedLetters) H := hP
        have hD : va_D A (pX11_parseProblem cy h t_kind t_exponent t_letters t_values t_lengths t_imageSizes t_input 0 ((u_2 + 1) + 1) t_rowSize t_steps t_foundMany t_keptMany t_keptLetters t_isFull t_isSaved t_savedKind t_savedExponent t_savedLetters) := hD
        refine lv_aload_n hx hb dX11_parseProblem_86 rfl (lv_at hl 3 rfl) ?_
        refine lv_iload_n hx hb dX11_parseProblem_87 rfl (lv_at hl 2 rfl) ?_
        refine cb_VI (As := [.int t_fed]) (rest := []) ⟨hx, hb, hml, hown, hts⟩ (kX11_sign l dC dI cy (adl [h 0, h 4, h 1, h 5, h 2, h 6, h 3, h 7, h 8, h 9, h 10, h 11, h 12, h 13, h 14, h 15, h 16, h 17, h 18, h 19, h 20, h 21]) t_kind t_exponent t_letters t_input 0 ((u_2 + 1) + 1) t_rowSize t_steps t_foundMany t_keptMany t_keptLetters t_isFull t_isSaved t_savedKind t_savedExponent t_savedLetters t_fed _ hv) (cwV 1 hts gX11_parseProblem_X11_sign rfl rfl rfl zX11_sign ⟨Nat.le_of_ble_eq_true rfl, Nat.le_of_ble_eq_true rfl⟩) hK hP hD hS hA [0, 4] [some 0, none, none, none, some 1] rfl rfl rfl (ci := 11) rfl rfl (fun _ => rfl) rfl hl.1 rfl (Nat.le_of_ble_eq_true rfl) dX11_parseProblem_88 (fun r_6 w_19 H locs hv hP hD hS => ?_)
        have hP : va_P (dC, dI) vwCl (pX11_parseProblem cy h t_kind t_exponent t_letters t_values t_lengths t_imageSizes t_input 0 ((u_2 + 1) + 1) t_rowSize t_steps t_foundMany t_keptMany t_keptLetters t_isFull t_isSaved t_savedKind t_savedExponent t_savedLetters) H := hP
        have hD : va_D A (pX11_parseProblem cy h t_kind t_exponent t_letters t_values t_lengths t_imageSizes t_input 0 ((u_2 + 1) + 1) t_rowSize t_steps t_foundMany t_keptMany t_keptLetters t_isFull t_isSaved t_savedKind t_savedExponent t_savedLetters) := hD
        refine lv_bipush (v := 32) hx hb dX11_parseProblem_91 (by decide) ?_
        refine lv_icmp_eq (tgt := 104) hx hb dX11_parseProblem_93 (by decide) (fun c_18 => ?_) (fun c_18 => ?_)
        · have hv := hv.1 c_18
          refine lv_aload_n hx hb dX11_parseProblem_104 rfl (lv_at hl 3 rfl) ?_
          refine lv_dup hx hb dX11_parseProblem_105 rfl ?_
          refine va_get (D := (dC, dI)) (ci := 11) (v := .int (((u_2 + 1) + 1))) (C := RX11) (T := TX11) (N := 36) hx hb hts nX11_parseProblem_X11 hown hK hP 0 rfl rfl 10 (by decide) (hts _ mX11_parseProblem_2) (fun _ h9 => h9) rfl dX11_parseProblem_106 ?_
          refine lv_iconst (v := 1) hx hb dX11_parseProblem_109 (by decide) ?_
          refine lv_iadd hx hb dX11_parseProblem_110 ?_
          refine va_put (D := (dC, dI)) (ci := 11) (v := .int (((u_2 + 1) + 1) + 1)) (ty := .int) (C := RX11) (T := TX11) (N := 36) hx hb hts nX11_parseProblem_X11 tyX11 tyX11_ok nmX11 hown hK hP hD hS 0 rfl rfl 10 (by decide) (hts _ mX11_parseProblem_2) (fun _ h9 => h9) rfl (by decide +kernel) rfl rfl (Nat.le_of_ble_eq_true rfl) dX11_parseProblem_111 (fun H locs hP hD hS => ?_)
          have hP : va_P (dC, dI) vwCl (pX11_parseProblem cy h t_kind t_exponent t_letters t_values t_lengths t_imageSizes t_input 0 (((u_2 + 1) + 1) + 1) t_rowSize t_steps t_foundMany t_keptMany t_keptLetters t_isFull t_isSaved t_savedKind t_savedExponent t_savedLetters) H := hP
          have hD : va_D A (pX11_parseProblem cy h t_kind t_exponent t_letters t_values t_lengths t_imageSizes t_input 0 (((u_2 + 1) + 1) + 1) t_rowSize t_steps t_foundMany t_keptMany t_keptLetters t_isFull t_isSaved t_savedKind t_savedExponent t_savedLetters) := hD
          refine lv_aload_n hx hb dX11_parseProblem_114 rfl (lv_at hl 3 rfl) ?_
          refine lv_iload_n hx hb dX11_parseProblem_115 rfl (lv_at hl 2 rfl) ?_
          refine cb_VI (As := [.int t_fed]) (rest := []) ⟨hx, hb, hml, hown, hts⟩ (kX11_sign l dC dI cy (adl [h 0, h 4, h 1, h 5, h 2, h 6, h 3, h 7, h 8, h 9, h 10, h 11, h 12, h 13, h 14, h 15, h 16, h 17, h 18, h 19, h 20, h 21]) t_kind t_exponent t_letters t_input 0 (((u_2 + 1) + 1) + 1) t_rowSize t_steps t_foundMany t_keptMany t_keptLetters t_isFull t_isSaved t_savedKind t_savedExponent t_savedLetters t_fed _ hv) (cwV 1 hts gX11_parseProblem_X11_sign rfl rfl rfl zX11_sign ⟨Nat.le_of_ble_eq_true rfl, Nat.le_of_ble_eq_true rfl⟩) hK hP hD hS hA [0, 4] [some 0, none, none, none, some 1] rfl rfl rfl (ci := 11) rfl rfl (fun _ => rfl) rfl hl.1 rfl (Nat.le_of_ble_eq_true rfl) dX11_parseProblem_116 (fun r_7 w_16 H locs hv hP hD hS => ?_)
          have hP : va_P (dC, dI) vwCl (pX11_parseProblem cy h t_kind t_exponent t_letters t_values t_lengths t_imageSizes t_input 0 (((u_2 + 1) + 1) + 1) t_rowSize t_steps t_foundMany t_keptMany t_keptLetters t_isFull t_isSaved t_savedKind t_savedExponent t_savedLetters) H := hP
          have hD : va_D A (pX11_parseProblem cy h t_kind t_exponent t_letters t_values t_lengths t_imageSizes t_input 0 (((u_2 + 1) + 1) + 1) t_rowSize t_steps t_foundMany t_keptMany t_keptLetters t_isFull t_isSaved t_savedKind t_savedExponent t_savedLetters) := hD
          refine lv_bipush (v := 48) hx hb dX11_parseProblem_119 (by decide) ?_
          refine lv_isub hx hb dX11_parseProblem_121 ?_
          refine lv_istore (lv' := [(4, .int ((r_7 - 48))), (3, .int ((r_4 - 48))), (2, .int r_1), (1, .int t_fed), (0, .ref (h 0))]) hx hb dX11_parseProblem_122 hl (by decide) rfl (fun ls hl => ?_)
          refine lv_iload hx hb dX11_parseProblem_124 (lv_at hl 0 rfl) ?_
          refine lv_iconst (v := 2) hx hb dX11_parseProblem_126 (by decide) ?_
          refine lv_iconst (v := 4) hx hb dX11_parseProblem_127 (by decide) ?_
          refine cb_SI (As := [.int ((r_7 - 48)), .int 2, .int 4]) (rest := []) ⟨hx, hb, hml, hown, hts⟩ (kX11_isIn l dC dI cy (adl []) (r_7 - 48) 2 4 _ hv) (va_cwS 3 hts gX11_parseProblem_X11_isIn rfl rfl rfl zX11_isIn ⟨Nat.le_of_ble_eq_true rfl, Nat.le_of_ble_eq_true rfl⟩) hK hP hD hS hA [] [none, none, none, none, none] rfl rfl rfl (fun _ => rfl) rfl hl.1 rfl (Nat.le_of_ble_eq_true rfl) dX11_parseProblem_128 (fun r_8 w_15 H locs hv hP hD hS => ?_)
          have hP : va_P (dC, dI) vwCl (pX11_parseProblem cy h t_kind t_exponent t_letters t_values t_lengths t_imageSizes t_input 0 (((u_2 + 1) + 1) + 1) t_rowSize t_steps t_foundMany t_keptMany t_keptLetters t_isFull t_isSaved t_savedKind t_savedExponent t_savedLetters) H := hP
          have hD : va_D A (pX11_parseProblem cy h t_kind t_exponent t_letters t_values t_lengths t_imageSizes t_input 0 (((u_2 + 1) + 1) + 1) t_rowSize t_steps t_foundMany t_keptMany t_keptLetters t_isFull t_isSaved t_savedKind t_savedExponent t_savedLetters) := hD
          refine lv_if_ne (tgt := 142) hx hb dX11_parseProblem_131 (by decide) (fun c_14 => ?_) (fun c_14 => ?_)
          · have hv := hv.1 c_14
            refine lv_aload_n hx hb dX11_parseProblem_142 rfl (lv_at hl 4 rfl) ?_
            refine lv_dup hx hb dX11_parseProblem_143 rfl ?_
            refine va_get (D := (dC, dI)) (ci := 11) (v := .int ((((u_2 + 1) + 1) + 1))) (C := RX11) (T := TX11) (N := 36) hx hb hts nX11_parseProblem_X11 hown hK hP 0 rfl rfl 10 (by decide) (hts _ mX11_parseProblem_2) (fun _ h9 => h9) rfl dX11_parseProblem_144 ?_
            refine lv_iconst (v := 1) hx hb dX11_parseProblem_147 (by decide) ?_
            refine lv_iadd hx hb dX11_parseProblem_148 ?_
            refine va_put (D := (dC, dI)) (ci := 11) (v := .int ((((u_2 + 1) + 1) + 1) + 1)) (ty := .int) (C := RX11) (T := TX11) (N := 36) hx hb hts nX11_parseProblem_X11 tyX11 tyX11_ok nmX11 hown hK hP hD hS 0 rfl rfl 10 (by decide) (hts _ mX11_parseProblem_2) (fun _ h9 => h9) rfl (by decide +kernel) rfl rfl (Nat.le_of_ble_eq_true rfl) dX11_parseProblem_149 (fun H locs hP hD hS => ?_)
            have hP : va_P (dC, dI) vwCl (pX11_parseProblem cy h t_kind t_exponent t_letters t_values t_lengths t_imageSizes t_input 0 ((((u_2 + 1) + 1) + 1) + 1) t_rowSize t_steps t_foundMany t_keptMany t_keptLetters t_isFull t_isSaved t_savedKind t_savedExponent t_savedLetters) H := hP
            have hD : va_D A (pX11_parseProblem cy h t_kind t_exponent t_letters t_values t_lengths t_imageSizes t_input 0 ((((u_2 + 1) + 1) + 1) + 1) t_rowSize t_steps t_foundMany t_keptMany t_keptLetters t_isFull t_isSaved t_savedKind t_savedExponent t_savedLetters) := hD
            refine lv_aload_n hx hb dX11_parseProblem_152 rfl (lv_at hl 4 rfl) ?_
            refine va_get (D := (dC, dI)) (ci := 11) (v := .int (((((u_2 + 1) + 1) + 1) + 1))) (C := RX11) (T := TX11) (N := 36) hx hb hts nX11_parseProblem_X11 hown hK hP 0 rfl rfl 10 (by decide) (hts _ mX11_parseProblem_2) (fun _ h9 => h9) rfl dX11_parseProblem_153 ?_
            refine lv_iload_n hx hb dX11_parseProblem_156 rfl (lv_at hl 3 rfl) ?_
            refine lv_icmp_ge (tgt := 168) hx hb dX11_parseProblem_157 (by decide) (fun c_12 => ?_) (fun c_12 => ?_)
            · have hv := hv.1 c_12
              refine lv_aload_n hx hb dX11_parseProblem_168 rfl (lv_at hl 4 rfl) ?_
              refine lv_iload_n hx hb dX11_parseProblem_169 rfl (lv_at hl 2 rfl) ?_
              refine va_put (D := (dC, dI)) (ci := 11) (v := .int r_1) (ty := .int) (C := RX11) (T := TX11) (N := 36) hx hb hts nX11_parseProblem_X11 tyX11 tyX11_ok nmX11 hown hK hP hD hS 0 rfl rfl 0 (by decide) (hts _ mX11_parseProblem_3) (fun _ h9 => h9) rfl (by decide +kernel) rfl rfl (Nat.le_of_ble_eq_true rfl) dX11_parseProblem_170 (fun H locs hP hD hS => ?_)
              have hP : va_P (dC, dI) vwCl (pX11_parseProblem cy h r_1 t_exponent t_letters t_values t_lengths t_imageSizes t_input 0 ((((u_2 + 1) + 1) + 1) + 1) t_rowSize t_steps t_foundMany t_keptMany t_keptLetters t_isFull t_isSaved t_savedKind t_savedExponent t_savedLetters) H := hP
              have hD : va_D A (pX11_parseProblem cy h r_1 t_exponent t_letters t_values t_lengths t_imageSizes t_input 0 ((((u_2 + 1) + 1) + 1) + 1) t_rowSize t_steps t_foundMany t_keptMany t_keptLetters t_isFull t_isSaved t_savedKind t_savedExponent t_savedLetters) := hD
              refine lv_aload_n hx hb dX11_parseProblem_173 rfl (lv_at hl 4 rfl) ?_
              refine lv_iload_n hx hb dX11_parseProblem_174 rfl (lv_at hl 1 rfl) ?_
              refine va_put (D := (dC, dI)) (ci := 11) (v := .int (r_4 - 48)) (ty := .int) (C := RX11) (T := TX11) (N := 36) hx hb hts nX11_parseProblem_X11 tyX11 tyX11_ok nmX11 hown hK hP hD hS 0 rfl rfl 1 (by decide) (hts _ mX11_parseProblem_4) (fun _ h9 => h9) rfl (by decide +kernel) rfl rfl (Nat.le_of_ble_eq_true rfl) dX11_parseProblem_175 (fun H locs hP hD hS => ?_)
              have hP : va_P (dC, dI) vwCl (pX11_parseProblem cy h r_1 (r_4 - 48) t_letters t_values t_lengths t_imageSizes t_input 0 ((((u_2 + 1) + 1) + 1) + 1) t_rowSize t_steps t_foundMany t_keptMany t_keptLetters t_isFull t_isSaved t_savedKind t_savedExponent t_savedLetters) H := hP
              have hD : va_D A (pX11_parseProblem cy h r_1 (r_4 - 48) t_letters t_values t_lengths t_imageSizes t_input 0 ((((u_2 + 1) + 1) + 1) + 1) t_rowSize t_steps t_foundMany t_keptMany t_keptLetters t_isFull t_isSaved t_savedKind t_savedExponent t_savedLetters) := hD
              refine lv_iload hx hb dX11_parseProblem_178 (lv_at hl 0 rfl) ?_
              refine lv_aload_n hx hb dX11_parseProblem_180 rfl (lv_at hl 4 rfl) ?_
              refine va_get (D := (dC, dI)) (ci := 11) (v := .int t_letters) (C := RX11) (T := TX11) (N := 36) hx hb hts nX11_parseProblem_X11 hown hK hP 0 rfl rfl 2 (by decide) (hts _ mX11_parseProblem_5) (fun _ h9 => h9) rfl dX11_parseProblem_181 ?_
              refine lv_icmp_eq (tgt := 235) hx hb dX11_parseProblem_184 (by decide) (fun c_10 => ?_) (fun c_10 => ?_)
              · have hv := hv.1 c_10
                refine lv_iload_n hx hb dX11_parseProblem_235 rfl (lv_at hl 1 rfl) ?_
                exact W.iret (v := (r_4 - 48)) hx hb hr (fun t ht hW => ⟨⟨(r_4 - 48), (r_1, (r_4 - 48), t_letters, t_values, t_lengths, t_imageSizes, 0, ((((u_2 + 1) + 1) + 1) + 1)), rfl, hv, va_Ph ht hP⟩, hS.F ht⟩) hS.2.2 dX11_parseProblem_236
              · have hv := hv.2 c_10
                refine lv_aload_n hx hb dX11_parseProblem_187 rfl (lv_at hl 4 rfl) ?_
                refine lv_iload hx hb dX11_parseProblem_188 (lv_at hl 0 rfl) ?_
                refine va_put (D := (dC, dI)) (ci := 11) (v := .int (r_7 - 48)) (ty := .int) (C := RX11) (T := TX11) (N := 36) hx hb hts nX11_parseProblem_X11 tyX11 tyX11_ok nmX11 hown hK hP hD hS 0 rfl rfl 2 (by decide) (hts _ mX11_parseProblem_5) (fun _ h9 => h9) rfl (by decide +kernel) rfl rfl (Nat.le_of_ble_eq_true rfl) dX11_parseProblem_190 (fun H locs hP hD hS => ?_)
                have hP : va_P (dC, dI) vwCl (pX11_parseProblem cy h r_1 (r_4 - 48) (r_7 - 48) t_values t_lengths t_imageSizes t_input 0 ((((u_2 + 1) + 1) + 1) + 1) t_rowSize t_steps t_foundMany t_keptMany t_keptLetters t_isFull t_isSaved t_savedKind t_savedExponent t_savedLetters) H := hP
                have hD : va_D A (pX11_parseProblem cy h r_1 (r_4 - 48) (r_7 - 48) t_values t_lengths t_imageSizes t_input 0 ((((u_2 + 1) + 1) + 1) + 1) t_rowSize t_steps t_foundMany t_keptMany t_keptLetters t_isFull t_isSaved t_savedKind t_savedExponent t_savedLetters) := hD
                refine lv_iconst (v := 0) hx hb dX11_parseProblem_193 (by decide) ?_
                refine lv_istore (lv' := [(5, .int 0), (4, .int ((r_7 - 48))), (3, .int ((r_4 - 48))), (2, .int r_1), (1, .int t_fed), (0, .ref (h 0))]) hx hb dX11_parseProblem_194 hl (by decide) rfl (fun ls hl => ?_)
                obtain ⟨n_9, hv⟩ := hv
                exact wX11_parseProblem_196 l h post  t_input t_rowSize t_steps t_foundMany t_keptMany t_keptLetters t_isFull t_isSaved t_savedKind t_savedExponent t_savedLetters C0 n_9 r_1 (r_4 - 48) (r_7 - 48) t_values t_lengths t_imageSizes 0 ((((u_2 + 1) + 1) + 1) + 1) (r_4 - 48) 0 hv _ _ _ hP hD hS (lv_sub hl [5, 2, 0] rfl)
            · have hv := hv.2 c_12
              refine lv_bipush (v := (-100)) hx hb dX11_parseProblem_160 (by decide) ?_
              refine lv_aload_n hx hb dX11_parseProblem_162 rfl (lv_at hl 4 rfl) ?_
              refine va_get (D := (dC, dI)) (ci := 11) (v := .int (((((u_2 + 1) + 1) + 1) + 1))) (C := RX11) (T := TX11) (N := 36) hx hb hts nX11_parseProblem_X11 hown hK hP 0 rfl rfl 10 (by decide) (hts _ mX11_parseProblem_2) (fun _ h9 => h9) rfl dX11_parseProblem_163 ?_
              refine lv_isub hx hb dX11_parseProblem_166 ?_
              refine lv_topi (fun y_11 ey_11 => ?_)
              have hv := hv y_11 ey_11
              exact W.iret (v := y_11) hx hb hr (fun t ht hW => ⟨⟨y_11, (t_kind, t_exponent, t_letters, t_values, t_lengths, t_imageSizes, 0, ((((u_2 + 1) + 1) + 1) + 1)), rfl, hv, va_Ph ht hP⟩, hS.F ht⟩) hS.2.2 dX11_parseProblem_167
          · have hv := hv.2 c_14
            refine lv_bipush (v := (-100)) hx hb dX11_parseProblem_134 (by decide) ?_
            refine lv_aload_n hx hb dX11_parseProblem_136 rfl (lv_at hl 4 rfl) ?_
            refine va_get (D := (dC, dI)) (ci := 11) (v := .int ((((u_2 + 1) + 1) + 1))) (C := RX11) (T := TX11) (N := 36) hx hb hts nX11_parseProblem_X11 hown hK hP 0 rfl rfl 10 (by decide) (hts _ mX11_parseProblem_2) (fun _ h9 => h9) rfl dX11_parseProblem_137 ?_
            refine lv_isub hx hb dX11_parseProblem_140 ?_
            refine lv_topi (fun y_13 ey_13 => ?_)
            have hv := hv y_13 ey_13
            exact W.iret (v := y_13) hx hb hr (fun t ht hW => ⟨⟨y_13, (t_kind, t_exponent, t_letters, t_values, t_lengths, t_imageSizes, 0, (((u_2 + 1) + 1) + 1)), rfl, hv, va_Ph ht hP⟩, hS.F ht⟩) hS.2.2 dX11_parseProblem_141
        · have hv := hv.2 c_18
          refine lv_bipush (v := (-100)) hx hb dX11_parseProblem_96 (by decide) ?_
          refine lv_aload_n hx hb dX11_parseProblem_98 rfl (lv_at hl 3 rfl) ?_
          refine va_get (D := (dC, dI)) (ci := 11) (v := .int (((u_2 + 1) + 1))) (C := RX11) (T := TX11) (N := 36) hx hb hts nX11_parseProblem_X11 hown hK hP 0 rfl rfl 10 (by decide) (hts _ mX11_parseProblem_2) (fun _ h9 => h9) rfl dX11_parseProblem_99 ?_
          refine lv_isub hx hb dX11_parseProblem_102 ?_
          refine lv_topi (fun y_17 ey_17 => ?_)
          have hv := hv y_17 ey_17
          exact W.iret (v := y_17) hx hb hr (fun t ht hW => ⟨⟨y_17, (t_kind, t_exponent, t_letters, t_values, t_lengths, t_imageSizes, 0, ((u_2 + 1) + 1)), rfl, hv, va_Ph ht hP⟩, hS.F ht⟩) hS.2.2 dX11_parseProblem_103
      · have hv := hv.2 c_20
        refine lv_bipush (v := (-100)) hx hb dX11_parseProblem_68 (by decide) ?_
        refine lv_aload_n hx hb dX11_parseProblem_70 rfl (lv_at hl 3 rfl) ?_
        refine va_get (D := (dC, dI)) (ci := 11) (v := .int ((u_2 + 1))) (C := RX11) (T := TX11) (N := 36) hx hb hts nX11_parseProblem_X11 hown hK hP 0 rfl rfl 10 (by decide) (hts _ mX11_parseProblem_2) (fun _ h9 => h9) rfl dX11_parseProblem_71 ?_
        refine lv_isub hx hb dX11_parseProblem_74 ?_
        exact W.iret (v := ((-100 : Int32) - (u_2 + 1))) hx hb hr (fun t ht hW => ⟨⟨((-100 : Int32) - (u_2 + 1)), (t_kind, t_exponent, t_letters, t_values, t_lengths, t_imageSizes, 0, (u_2 + 1)), rfl, hv, va_Ph ht hP⟩, hS.F ht⟩) hS.2.2 dX11_parseProblem_75
    · have hv := hv.2 c_23
      refine lv_bipush (v := (-100)) hx hb dX11_parseProblem_32 (by decide) ?_
      refine lv_aload_n hx hb dX11_parseProblem_34 rfl (lv_at hl 2 rfl) ?_
      refine va_get (D := (dC, dI)) (ci := 11) (v := .int u_2) (C := RX11) (T := TX11) (N := 36) hx hb hts nX11_parseProblem_X11 hown hK hP 0 rfl rfl 10 (by decide) (hts _ mX11_parseProblem_2) (fun _ h9 => h9) rfl dX11_parseProblem_35 ?_
      refine lv_isub hx hb dX11_parseProblem_38 ?_
      exact W.iret (v := ((-100 : Int32) - u_2)) hx hb hr (fun t ht hW => ⟨⟨((-100 : Int32) - u_2), (t_kind, t_exponent, t_letters, t_values, t_lengths, t_imageSizes, 0, u_2), rfl, hv, va_Ph ht hP⟩, hS.F ht⟩) hS.2.2 dX11_parseProblem_39
theorem kX11_parseProblem (l : Launch) (dC : Nat → ClassId) (dI : Nat → Nat → Nat) (cy : Nat → ClassId) (h : Nat → Nat) (t_kind : Int32) (t_exponent : Int32) (t_letters : Int32) (t_values : Nat → Int32) (t_lengths : Nat → Int32) (t_imageSizes : Nat → Int32) (t_input : Nat → Int32) (t_fed : Int32) (t_at : Int32) (t_rowSize : Int32) (t_steps : Int32) (t_foundMany : Int32) (t_keptMany : Int32) (t_keptLetters : Int32) (t_isFull : Int32) (t_isSaved : Int32) (t_savedKind : Int32) (t_savedExponent : Int32) (t_savedLetters : Int32)  (post : Int32 → Int32 → Int32 → Int32 → (Nat → Int32) → (Nat → Int32) → (Nat → Int32) → Int32 → Int32 → Prop) (hv : VX11_parseProblem post t_input t_kind t_exponent t_letters t_values t_lengths t_imageSizes t_fed t_at) : CtI l yX11_parseProblem wsX11_parseProblem rX11_parseProblem dC dI cy [.ref (h 0)] (pX11_parseProblem cy h t_kind t_exponent t_letters t_values t_lengths t_imageSizes t_input t_fed t_at t_rowSize t_steps t_foundMany t_keptMany t_keptLetters t_isFull t_isSaved t_savedKind t_savedExponent t_savedLetters) (fun (u : Int32 × Int32 × Int32 × (Nat → Int32) × (Nat → Int32) × (Nat → Int32) × Int32 × Int32) => pX11_parseProblem cy h u.1 u.2.1 u.2.2.1 u.2.2.2.1 u.2.2.2.2.1 u.2.2.2.2.2.1 t_input u.2.2.2.2.2.2.1 u.2.2.2.2.2.2.2 t_rowSize t_steps t_foundMany t_keptMany t_keptLetters t_isFull t_isSaved t_savedKind t_savedExponent t_savedLetters) (fun (r : Int32) (u : Int32 × Int32 × Int32 × (Nat → Int32) × (Nat → Int32) × (Nat → Int32) × Int32 × Int32) => post r u.1 u.2.1 u.2.2.1 u.2.2.2.1 u.2.2.2.2.1 u.2.2.2.2.2.1 u.2.2.2.2.2.2.1 u.2.2.2.2.2.2.2) :=
  ct_ofI (by decide) rfl (Nat.le_of_ble_eq_true rfl) (fun p e s m below meth c A ls C0 hP hD hS hl => wX11_parseProblem_0 l h post t_input t_rowSize t_steps t_foundMany t_keptMany t_keptLetters t_isFull t_isSaved t_savedKind t_savedExponent t_savedLetters C0 t_kind t_exponent t_letters t_values t_lengths t_imageSizes t_fed t_at hv _ _ _ hP hD hS hl)
theorem mX11_problem_3 : (Cond.fieldLink RX11 16 "AbelianPowersModel" "letters" "I") ∈ wsX11_problem := List.mem_of_getElem? (i := 3) rfl
theorem mX11_problem_2 : (Cond.fieldLink RX11 13 "AbelianPowersModel" "exponent" "I") ∈ wsX11_problem := List.mem_of_getElem? (i := 2) rfl
theorem mX11_problem_1 : (Cond.fieldLink RX11 7 "AbelianPowersModel" "kind" "I") ∈ wsX11_problem := List.mem_of_getElem? (i := 1) rfl
theorem nX11_problem_X11 : ∀ w ∈ wsX110, w ∈ wsX11_problem := fun _ h => List.mem_cons_of_mem _ (List.mem_append_right _ h)
theorem zX11_problem : yX11_problem.cls = RX11 ∧ yX11_problem.cls ≠ "java/lang/invoke/MethodHandle" ∧ yX11_problem.cls ≠ "java/lang/invoke/VarHandle" ∧ (parseMethodDescriptor yX11_problem.desc).map (fun d => d.parameters.length) = some 1 := by decide +kernel
abbrev rX11_problem : Room := { frames := 0, cells := 0, slots := 0, locals := 0 }
abbrev pX11_problem (cy : Nat → ClassId) (h : Nat → Nat) (t_kind : Int32) (t_exponent : Int32) (t_letters : Int32) (t_fed : Int32) (t_at : Int32) (t_rowSize : Int32) (t_steps : Int32) (t_foundMany : Int32) (t_keptMany : Int32) (t_keptLetters : Int32) (t_isFull : Int32) (t_isSaved : Int32) (t_savedKind : Int32) (t_savedExponent : Int32) (t_savedLetters : Int32) : va_W := [(h 0, .inr (11, [.int t_kind, .int t_exponent, .int t_letters, .ref (h 1), .ref (h 2), .ref (h 3), .ref (h 4), .ref (h 5), .ref (h 6), .int t_fed, .int t_at, .ref (h 7), .int t_rowSize, .int t_steps, .ref (h 8), .int t_foundMany, .ref (h 9), .int t_keptMany, .int t_keptLetters, .ref (h 10), .ref (h 11), .ref (h 12), .ref (h 13), .ref (h 14), .int t_isFull, .ref (h 15), .ref (h 16), .int t_isSaved, .int t_savedKind, .int t_savedExponent, .int t_savedLetters, .ref (h 17), .ref (h 18), .ref (h 19), .ref (h 20), .ref (h 21)]))]
def VX11_problem (post : Int32 → Prop)  (t_kind : Int32) (t_exponent : Int32) (t_letters : Int32) (p1 : Int32)  : Prop := (¬ (p1 = 0) → (¬ (p1 = 1) → (¬ (p1 = 2) → post (-1 : Int32)) ∧ ((p1 = 2) → post t_letters)) ∧ ((p1 = 1) → post t_exponent)) ∧ ((p1 = 0) → post t_kind)
set_option maxHeartbeats 4000000 in
set_option maxRecDepth 100000 in
theorem wX11_problem_0 {p : Program} (l : Launch) {e : Env} {s : State} {m : MethodId} {args : Array Value} {below : List Frame} {meth : Method} {c : Code} {dC : Nat → ClassId} {dI : Nat → Nat → Nat} {cy : Nat → ClassId} {A : Nat → Prop} (h : Nat → Nat) (post : Int32 → Prop)   (t_kind : Int32) (t_exponent : Int32) (t_letters : Int32) (t_fed : Int32) (t_at : Int32) (t_rowSize : Int32) (t_steps : Int32) (t_foundMany : Int32) (t_keptMany : Int32) (t_keptLetters : Int32) (t_isFull : Int32) (t_isSaved : Int32) (t_savedKind : Int32) (t_savedExponent : Int32) (t_savedLetters : Int32) (p1 : Int32) (C0 : cx p s m args meth c cX11_problem 2 (some .int) wsX11_problem RX11 dC dI cy A)  : VX11_problem post t_kind t_exponent t_letters p1  → ∀ (H : Heap) (locs : List Loc) (ls : Array Slot), va_P (dC, dI) vwCl (pX11_problem cy h t_kind t_exponent t_letters t_fed t_at t_rowSize t_steps t_foundMany t_keptMany t_keptLetters t_isFull t_isSaved t_savedKind t_savedExponent t_savedLetters) H → va_D A (pX11_problem cy h t_kind t_exponent t_letters t_fed t_at t_rowSize t_steps t_foundMany t_keptMany t_keptLetters t_isFull t_isSaved t_savedKind t_savedExponent t_savedLetters) → va_S A s.heap H locs → lv_has ls 2 [(0, .ref (h 0)), (1, .int p1)] → W p l e rX11_problem s m args below meth c H locs 0 0 (MQ below (va_Qi (fun (r : Int32) (_ : Unit) => post r) (fun (_ : Unit) (t : State) => va_P (dC, dI) vwCl (pX11_problem cy h t_kind t_exponent t_letters t_fed t_at t_rowSize t_steps t_foundMany t_keptMany t_keptLetters t_isFull t_isSaved t_savedKind t_savedExponent t_savedLetters) t.heap) A) args s 0 0 A) (F0 m 0 ls []) := by
  have C1 := C0
  obtain ⟨hx, hb, hr, hml, hown, hts, hlocks, hK, hA⟩ := C1
  intro  hv H locs ls hP hD hS hl
  refine lv_iload_n hx hb dX11_problem_0 rfl (lv_at hl 1 rfl) ?_
  refine lv_if_ne (tgt := 11) hx hb dX11_problem_1 (by decide) (fun c_3 => ?_) (fun c_3 => ?_)
  · have hv := hv.1 c_3
    refine lv_iload_n hx hb dX11_problem_11 rfl (lv_at hl 1 rfl) ?_
    refine lv_iconst (v := 1) hx hb dX11_problem_12 (by decide) ?_
    refine lv_icmp_ne (tgt := 23) hx hb dX11_problem_13 (by decide) (fun c_2 => ?_) (fun c_2 => ?_)
    · have hv := hv.1 c_2
      refine lv_iload_n hx hb dX11_problem_23 rfl (lv_at hl 1 rfl) ?_
      refine lv_iconst (v := 2) hx hb dX11_problem_24 (by decide) ?_
      refine lv_icmp_ne (tgt := 35) hx hb dX11_problem_25 (by decide) (fun c_1 => ?_) (fun c_1 => ?_)
      · have hv := hv.1 c_1
        refine lv_iconst (v := (-1)) hx hb dX11_problem_35 (by decide) ?_
        exact W.iret (v := (-1)) hx hb hr (fun t ht hW => ⟨⟨(-1), (), rfl, hv, va_Ph ht hP⟩, hS.F ht⟩) hS.2.2 dX11_problem_36
      · have hv := hv.2 c_1
        refine lv_aload_n hx hb dX11_problem_28 rfl (lv_at hl 0 rfl) ?_
        refine va_get (D := (dC, dI)) (ci := 11) (v := .int t_letters) (C := RX11) (T := TX11) (N := 36) hx hb hts nX11_problem_X11 hown hK hP 0 rfl rfl 2 (by decide) (hts _ mX11_problem_3) (fun _ h9 => h9) rfl dX11_problem_29 ?_
        refine lv_goto (tgt := 36) hx hb dX11_problem_32 (by decide) ?_
        exact W.iret (v := t_letters) hx hb hr (fun t ht hW => ⟨⟨t_letters, (), rfl, hv, va_Ph ht hP⟩, hS.F ht⟩) hS.2.2 dX11_problem_36
    · have hv := hv.2 c_2
      refine lv_aload_n hx hb dX11_problem_16 rfl (lv_at hl 0 rfl) ?_
      refine va_get (D := (dC, dI)) (ci := 11) (v := .int t_exponent) (C := RX11) (T := TX11) (N := 36) hx hb hts nX11_problem_X11 hown hK hP 0 rfl rfl 1 (by decide) (hts _ mX11_problem_2) (fun _ h9 => h9) rfl dX11_problem_17 ?_
      refine lv_goto (tgt := 36) hx hb dX11_problem_20 (by decide) ?_
      exact W.iret (v := t_exponent) hx hb hr (fun t ht hW => ⟨⟨t_exponent, (), rfl, hv, va_Ph ht hP⟩, hS.F ht⟩) hS.2.2 dX11_problem_36
  · have hv := hv.2 c_3
    refine lv_aload_n hx hb dX11_problem_4 rfl (lv_at hl 0 rfl) ?_
    refine va_get (D := (dC, dI)) (ci := 11) (v := .int t_kind) (C := RX11) (T := TX11) (N := 36) hx hb hts nX11_problem_X11 hown hK hP 0 rfl rfl 0 (by decide) (hts _ mX11_problem_1) (fun _ h9 => h9) rfl dX11_problem_5 ?_
    refine lv_goto (tgt := 36) hx hb dX11_problem_8 (by decide) ?_
    exact W.iret (v := t_kind) hx hb hr (fun t ht hW => ⟨⟨t_kind, (), rfl, hv, va_Ph ht hP⟩, hS.F ht⟩) hS.2.2 dX11_problem_36
theorem kX11_problem (l : Launch) (dC : Nat → ClassId) (dI : Nat → Nat → Nat) (cy : Nat → ClassId) (h : Nat → Nat) (t_kind : Int32) (t_exponent : Int32) (t_letters : Int32) (t_fed : Int32) (t_at : Int32) (t_rowSize : Int32) (t_steps : Int32) (t_foundMany : Int32) (t_keptMany : Int32) (t_keptLetters : Int32) (t_isFull : Int32) (t_isSaved : Int32) (t_savedKind : Int32) (t_savedExponent : Int32) (t_savedLetters : Int32) (p1 : Int32) (post : Int32 → Prop) (hv : VX11_problem post t_kind t_exponent t_letters p1 ) : CtI l yX11_problem wsX11_problem rX11_problem dC dI cy [.ref (h 0), .int p1] (pX11_problem cy h t_kind t_exponent t_letters t_fed t_at t_rowSize t_steps t_foundMany t_keptMany t_keptLetters t_isFull t_isSaved t_savedKind t_savedExponent t_savedLetters) (fun (_ : Unit) => pX11_problem cy h t_kind t_exponent t_letters t_fed t_at t_rowSize t_steps t_foundMany t_keptMany t_keptLetters t_isFull t_isSaved t_savedKind t_savedExponent t_savedLetters) (fun (r : Int32) (_ : Unit) => post r) :=
  ct_ofI (by decide) rfl (Nat.le_of_ble_eq_true rfl) (fun p e s m below meth c A ls C0 hP hD hS hl => wX11_problem_0 l h post t_kind t_exponent t_letters t_fed t_at t_rowSize t_steps t_foundMany t_keptMany t_keptLetters t_isFull t_isSaved t_savedKind t_savedExponent t_savedLetters p1 C0  hv _ _ _ hP hD hS hl)
theorem mX11_isLetter_1 : (Cond.fieldLink RX11 16 "AbelianPowersModel" "letters" "I") ∈ wsX11_isLetter := List.mem_of_getElem? (i := 1) rfl
theorem nX11_isLetter_X11 : ∀ w ∈ wsX110, w ∈ wsX11_isLetter := fun _ h => List.mem_cons_of_mem _ (List.mem_append_right _ h)
theorem zX11_isLetter : yX11_isLetter.cls = RX11 ∧ yX11_isLetter.cls ≠ "java/lang/invoke/MethodHandle" ∧ yX11_isLetter.cls ≠ "java/lang/invoke/VarHandle" ∧ (parseMethodDescriptor yX11_isLetter.desc).map (fun d => d.parameters.length) = some 1 := by decide +kernel
abbrev rX11_isLetter : Room := { frames := 1, cells := 0, slots := 0, locals := 22 }
abbrev pX11_isLetter (cy : Nat → ClassId) (h : Nat → Nat) (t_kind : Int32) (t_exponent : Int32) (t_letters : Int32) (t_fed : Int32) (t_at : Int32) (t_rowSize : Int32) (t_steps : Int32) (t_foundMany : Int32) (t_keptMany : Int32) (t_keptLetters : Int32) (t_isFull : Int32) (t_isSaved : Int32) (t_savedKind : Int32) (t_savedExponent : Int32) (t_savedLetters : Int32) : va_W := [(h 0, .inr (11, [.int t_kind, .int t_exponent, .int t_letters, .ref (h 1), .ref (h 2), .ref (h 3), .ref (h 4), .ref (h 5), .ref (h 6), .int t_fed, .int t_at, .ref (h 7), .int t_rowSize, .int t_steps, .ref (h 8), .int t_foundMany, .ref (h 9), .int t_keptMany, .int t_keptLetters, .ref (h 10), .ref (h 11), .ref (h 12), .ref (h 13), .ref (h 14), .int t_isFull, .ref (h 15), .ref (h 16), .int t_isSaved, .int t_savedKind, .int t_savedExponent, .int t_savedLetters, .ref (h 17), .ref (h 18), .ref (h 19), .ref (h 20), .ref (h 21)]))]
def VX11_isLetter (post : Int32 → Prop)  (t_letters : Int32) (p1 : Int32)  : Prop := VX11_isIn (fun r_1 => vbo r_1 ∧ post r_1) p1 0 (t_letters - 1)
set_option maxHeartbeats 4000000 in
set_option maxRecDepth 100000 in
theorem wX11_isLetter_0 {p : Program} (l : Launch) {e : Env} {s : State} {m : MethodId} {args : Array Value} {below : List Frame} {meth : Method} {c : Code} {dC : Nat → ClassId} {dI : Nat → Nat → Nat} {cy : Nat → ClassId} {A : Nat → Prop} (h : Nat → Nat) (post : Int32 → Prop)   (t_kind : Int32) (t_exponent : Int32) (t_letters : Int32) (t_fed : Int32) (t_at : Int32) (t_rowSize : Int32) (t_steps : Int32) (t_foundMany : Int32) (t_keptMany : Int32) (t_keptLetters : Int32) (t_isFull : Int32) (t_isSaved : Int32) (t_savedKind : Int32) (t_savedExponent : Int32) (t_savedLetters : Int32) (p1 : Int32) (C0 : cx p s m args meth c cX11_isLetter 2 (some .boolean) wsX11_isLetter RX11 dC dI cy A)  : VX11_isLetter post t_letters p1  → ∀ (H : Heap) (locs : List Loc) (ls : Array Slot), va_P (dC, dI) vwCl (pX11_isLetter cy h t_kind t_exponent t_letters t_fed t_at t_rowSize t_steps t_foundMany t_keptMany t_keptLetters t_isFull t_isSaved t_savedKind t_savedExponent t_savedLetters) H → va_D A (pX11_isLetter cy h t_kind t_exponent t_letters t_fed t_at t_rowSize t_steps t_foundMany t_keptMany t_keptLetters t_isFull t_isSaved t_savedKind t_savedExponent t_savedLetters) → va_S A s.heap H locs → lv_has ls 2 [(0, .ref (h 0)), (1, .int p1)] → W p l e rX11_isLetter s m args below meth c H locs 0 0 (MQ below (va_Qi (fun (r : Int32) (_ : Unit) => post r) (fun (_ : Unit) (t : State) => va_P (dC, dI) vwCl (pX11_isLetter cy h t_kind t_exponent t_letters t_fed t_at t_rowSize t_steps t_foundMany t_keptMany t_keptLetters t_isFull t_isSaved t_savedKind t_savedExponent t_savedLetters) t.heap) A) args s 0 0 A) (F0 m 0 ls []) := by
  have C1 := C0
  obtain ⟨hx, hb, hr, hml, hown, hts, hlocks, hK, hA⟩ := C1
  intro  hv H locs ls hP hD hS hl
  refine lv_iload_n hx hb dX11_isLetter_0 rfl (lv_at hl 1 rfl) ?_
  refine lv_iconst (v := 0) hx hb dX11_isLetter_1 (by decide) ?_
  refine lv_aload_n hx hb dX11_isLetter_2 rfl (lv_at hl 0 rfl) ?_
  refine va_get (D := (dC, dI)) (ci := 11) (v := .int t_letters) (C := RX11) (T := TX11) (N := 36) hx hb hts nX11_isLetter_X11 hown hK hP 0 rfl rfl 2 (by decide) (hts _ mX11_isLetter_1) (fun _ h9 => h9) rfl dX11_isLetter_3 ?_
  refine lv_iconst (v := 1) hx hb dX11_isLetter_6 (by decide) ?_
  refine lv_isub hx hb dX11_isLetter_7 ?_
  refine cb_SI (As := [.int p1, .int 0, .int ((t_letters - 1))]) (rest := []) ⟨hx, hb, hml, hown, hts⟩ (kX11_isIn l dC dI cy (adl []) p1 0 (t_letters - 1) _ hv) (va_cwS 3 hts gX11_isLetter_X11_isIn rfl rfl rfl zX11_isIn ⟨Nat.le_of_ble_eq_true rfl, Nat.le_of_ble_eq_true rfl⟩) hK hP hD hS hA [] [none] rfl rfl rfl (fun _ => rfl) rfl hl.1 rfl (Nat.le_of_ble_eq_true rfl) dX11_isLetter_8 (fun r_1 w_2 H locs hv hP hD hS => ?_)
  have hP : va_P (dC, dI) vwCl (pX11_isLetter cy h t_kind t_exponent t_letters t_fed t_at t_rowSize t_steps t_foundMany t_keptMany t_keptLetters t_isFull t_isSaved t_savedKind t_savedExponent t_savedLetters) H := hP
  have hD : va_D A (pX11_isLetter cy h t_kind t_exponent t_letters t_fed t_at t_rowSize t_steps t_foundMany t_keptMany t_keptLetters t_isFull t_isSaved t_savedKind t_savedExponent t_savedLetters) := hD
  exact W.zret (v := r_1) hx hb hr hv.1 (fun t ht hW => ⟨⟨r_1, (), rfl, hv.2, va_Ph ht hP⟩, hS.F ht⟩) hS.2.2 dX11_isLetter_11
theorem kX11_isLetter (l : Launch) (dC : Nat → ClassId) (dI : Nat → Nat → Nat) (cy : Nat → ClassId) (h : Nat → Nat) (t_kind : Int32) (t_exponent : Int32) (t_letters : Int32) (t_fed : Int32) (t_at : Int32) (t_rowSize : Int32) (t_steps : Int32) (t_foundMany : Int32) (t_keptMany : Int32) (t_keptLetters : Int32) (t_isFull : Int32) (t_isSaved : Int32) (t_savedKind : Int32) (t_savedExponent : Int32) (t_savedLetters : Int32) (p1 : Int32) (post : Int32 → Prop) (hv : VX11_isLetter post t_letters p1 ) : CtI l yX11_isLetter wsX11_isLetter rX11_isLetter dC dI cy [.ref (h 0), .int p1] (pX11_isLetter cy h t_kind t_exponent t_letters t_fed t_at t_rowSize t_steps t_foundMany t_keptMany t_keptLetters t_isFull t_isSaved t_savedKind t_savedExponent t_savedLetters) (fun (_ : Unit) => pX11_isLetter cy h t_kind t_exponent t_letters t_fed t_at t_rowSize t_steps t_foundMany t_keptMany t_keptLetters t_isFull t_isSaved t_savedKind t_savedExponent t_savedLetters) (fun (r : Int32) (_ : Unit) => post r) :=
  ct_ofI (by decide) rfl (Nat.le_of_ble_eq_true rfl) (fun p e s m below meth c A ls C0 hP hD hS hl => wX11_isLetter_0 l h post t_kind t_exponent t_letters t_fed t_at t_rowSize t_steps t_foundMany t_keptMany t_keptLetters t_isFull t_isSaved t_savedKind t_savedExponent t_savedLetters p1 C0  hv _ _ _ hP hD hS hl)
theorem zX11_isWord : yX11_isWord.cls ≠ "java/lang/invoke/MethodHandle" ∧ yX11_isWord.cls ≠ "java/lang/invoke/VarHandle" ∧ (parseMethodDescriptor yX11_isWord.desc).map (fun d => d.parameters.length) = some 1 := by decide +kernel
abbrev rX11_isWord : Room := { frames := 1, cells := 0, slots := 0, locals := 22 }
abbrev pX11_isWord (cy : Nat → ClassId) (h : Nat → Nat)  : va_W := []
def VX11_isWord (post : Int32 → Prop)  (p0 : Int32)  : Prop := VX11_isIn (fun r_1 => vbo r_1 ∧ post r_1) p0 0 2
set_option maxHeartbeats 4000000 in
set_option maxRecDepth 100000 in
theorem wX11_isWord_0 {p : Program} (l : Launch) {e : Env} {s : State} {m : MethodId} {args : Array Value} {below : List Frame} {meth : Method} {c : Code} {dC : Nat → ClassId} {dI : Nat → Nat → Nat} {cy : Nat → ClassId} {A : Nat → Prop} (h : Nat → Nat) (post : Int32 → Prop)    (p0 : Int32) (C0 : cx p s m args meth c cX11_isWord 1 (some .boolean) wsX11_isWord RX11 dC dI cy A)  : VX11_isWord post p0  → ∀ (H : Heap) (locs : List Loc) (ls : Array Slot), va_P (dC, dI) vwCl (pX11_isWord cy h ) H → va_D A (pX11_isWord cy h ) → va_S A s.heap H locs → lv_has ls 1 [(0, .int p0)] → W p l e rX11_isWord s m args below meth c H locs 0 0 (MQ below (va_Qi (fun (r : Int32) (_ : Unit) => post r) (fun (_ : Unit) (t : State) => va_P (dC, dI) vwCl (pX11_isWord cy h ) t.heap) A) args s 0 0 A) (F0 m 0 ls []) := by
  have C1 := C0
  obtain ⟨hx, hb, hr, hml, hown, hts, hlocks, hK, hA⟩ := C1
  intro  hv H locs ls hP hD hS hl
  refine lv_iload_n hx hb dX11_isWord_0 rfl (lv_at hl 0 rfl) ?_
  refine lv_iconst (v := 0) hx hb dX11_isWord_1 (by decide) ?_
  refine lv_iconst (v := 2) hx hb dX11_isWord_2 (by decide) ?_
  refine cb_SI (As := [.int p0, .int 0, .int 2]) (rest := []) ⟨hx, hb, hml, hown, hts⟩ (kX11_isIn l dC dI cy (adl []) p0 0 2 _ hv) (va_cwS 3 hts gX11_isWord_X11_isIn rfl rfl rfl zX11_isIn ⟨Nat.le_of_ble_eq_true rfl, Nat.le_of_ble_eq_true rfl⟩) hK hP hD hS hA [] [] rfl rfl rfl (fun _ => rfl) rfl hl.1 rfl (Nat.le_of_ble_eq_true rfl) dX11_isWord_3 (fun r_1 w_2 H locs hv hP hD hS => ?_)
  have hP : va_P (dC, dI) vwCl (pX11_isWord cy h ) H := hP
  have hD : va_D A (pX11_isWord cy h ) := hD
  exact W.zret (v := r_1) hx hb hr hv.1 (fun t ht hW => ⟨⟨r_1, (), rfl, hv.2, va_Ph ht hP⟩, hS.F ht⟩) hS.2.2 dX11_isWord_6
theorem kX11_isWord (l : Launch) (dC : Nat → ClassId) (dI : Nat → Nat → Nat) (cy : Nat → ClassId) (h : Nat → Nat)  (p0 : Int32) (post : Int32 → Prop) (hv : VX11_isWord post p0 ) : CtI l yX11_isWord wsX11_isWord rX11_isWord dC dI cy [.int p0] (pX11_isWord cy h ) (fun (_ : Unit) => pX11_isWord cy h ) (fun (r : Int32) (_ : Unit) => post r) :=
  ct_ofI (by decide) rfl (Nat.le_of_ble_eq_true rfl) (fun p e s m below meth c A ls C0 hP hD hS hl => wX11_isWord_0 l h post p0 C0  hv _ _ _ hP hD hS hl)
theorem mX11_setValue_1 : (Cond.fieldLink RX11 19 "AbelianPowersModel" "values" "[I") ∈ wsX11_setValue := List.mem_of_getElem? (i := 1) rfl
theorem nX11_setValue_X11 : ∀ w ∈ wsX110, w ∈ wsX11_setValue := fun _ h => List.mem_cons_of_mem _ (List.mem_append_right _ h)
theorem zX11_setValue : yX11_setValue.cls = RX11 ∧ yX11_setValue.cls ≠ "java/lang/invoke/MethodHandle" ∧ yX11_setValue.cls ≠ "java/lang/invoke/VarHandle" ∧ (parseMethodDescriptor yX11_setValue.desc).map (fun d => d.parameters.length) = some 2 := by decide +kernel
abbrev rX11_setValue : Room := { frames := 2, cells := 0, slots := 0, locals := 43 }
abbrev pX11_setValue (cy : Nat → ClassId) (h : Nat → Nat) (t_kind : Int32) (t_exponent : Int32) (t_letters : Int32) (t_values : Nat → Int32) (t_fed : Int32) (t_at : Int32) (t_rowSize : Int32) (t_steps : Int32) (t_foundMany : Int32) (t_keptMany : Int32) (t_keptLetters : Int32) (t_isFull : Int32) (t_isSaved : Int32) (t_savedKind : Int32) (t_savedExponent : Int32) (t_savedLetters : Int32) : va_W := [(h 0, .inr (11, [.int t_kind, .int t_exponent, .int t_letters, .ref (h 1), .ref (h 2), .ref (h 3), .ref (h 4), .ref (h 5), .ref (h 6), .int t_fed, .int t_at, .ref (h 7), .int t_rowSize, .int t_steps, .ref (h 8), .int t_foundMany, .ref (h 9), .int t_keptMany, .int t_keptLetters, .ref (h 10), .ref (h 11), .ref (h 12), .ref (h 13), .ref (h 14), .int t_isFull, .ref (h 15), .ref (h 16), .int t_isSaved, .int t_savedKind, .int t_savedExponent, .int t_savedLetters, .ref (h 17), .ref (h 18), .ref (h 19), .ref (h 20), .ref (h 21)])), (h 1, .inl (cy 0, 4, .inl t_values))]
def VX11_setValue (post : Int32 → (Nat → Int32) → Prop)  (t_letters : Int32) (p1 : Int32) (p2 : Int32) (t_values : Nat → Int32) : Prop := VX11_isLetter (fun r_1 => ((r_1 = 0) → post (-1 : Int32) t_values) ∧ (¬ (r_1 = 0) → VX11_isIn (fun r_2 => (¬ (r_2 = 0) → vp_in p1 4 ∧ (vp_in p1 4 ∧ (∀ y_5 : Int32, y_5 = ((t_values p1.toNatClampNeg) + 10) → post y_5 (upd t_values p1.toNatClampNeg p2)))) ∧ ((r_2 = 0) → post (-1 : Int32) t_values)) p2 (-9) 9)) t_letters p1
set_option maxHeartbeats 4000000 in
set_option maxRecDepth 100000 in
theorem wX11_setValue_0 {p : Program} (l : Launch) {e : Env} {s : State} {m : MethodId} {args : Array Value} {below : List Frame} {meth : Method} {c : Code} {dC : Nat → ClassId} {dI : Nat → Nat → Nat} {cy : Nat → ClassId} {A : Nat → Prop} (h : Nat → Nat) (post : Int32 → (Nat → Int32) → Prop)   (t_kind : Int32) (t_exponent : Int32) (t_letters : Int32) (t_fed : Int32) (t_at : Int32) (t_rowSize : Int32) (t_steps : Int32) (t_foundMany : Int32) (t_keptMany : Int32) (t_keptLetters : Int32) (t_isFull : Int32) (t_isSaved : Int32) (t_savedKind : Int32) (t_savedExponent : Int32) (t_savedLetters : Int32) (p1 : Int32) (p2 : Int32) (C0 : cx p s m args meth c cX11_setValue 4 (some .int) wsX11_setValue RX11 dC dI cy A)  : ∀ (t_values : Nat → Int32), VX11_setValue post t_letters p1 p2 t_values → ∀ (H : Heap) (locs : List Loc) (ls : Array Slot), va_P (dC, dI) vwCl (pX11_setValue cy h t_kind t_exponent t_letters t_values t_fed t_at t_rowSize t_steps t_foundMany t_keptMany t_keptLetters t_isFull t_isSaved t_savedKind t_savedExponent t_savedLetters) H → va_D A (pX11_setValue cy h t_kind t_exponent t_letters t_values t_fed t_at t_rowSize t_steps t_foundMany t_keptMany t_keptLetters t_isFull t_isSaved t_savedKind t_savedExponent t_savedLetters) → va_S A s.heap H locs → lv_has ls 4 [(0, .ref (h 0)), (1, .int p1), (2, .int p2)] → W p l e rX11_setValue s m args below meth c H locs 0 0 (MQ below (va_Qi (fun (r : Int32) (u : (Nat → Int32)) => post r u) (fun (u : (Nat → Int32)) (t : State) => va_P (dC, dI) vwCl (pX11_setValue cy h t_kind t_exponent t_letters u t_fed t_at t_rowSize t_steps t_foundMany t_keptMany t_keptLetters t_isFull t_isSaved t_savedKind t_savedExponent t_savedLetters) t.heap) A) args s 0 0 A) (F0 m 0 ls []) := by
  have C1 := C0
  obtain ⟨hx, hb, hr, hml, hown, hts, hlocks, hK, hA⟩ := C1
  intro t_values hv H locs ls hP hD hS hl
  refine lv_aload_n hx hb dX11_setValue_0 rfl (lv_at hl 0 rfl) ?_
  refine lv_iload_n hx hb dX11_setValue_1 rfl (lv_at hl 1 rfl) ?_
  refine cb_VI (As := [.int p1]) (rest := []) ⟨hx, hb, hml, hown, hts⟩ (kX11_isLetter l dC dI cy (adl [h 0, h 1, h 2, h 3, h 4, h 5, h 6, h 7, h 8, h 9, h 10, h 11, h 12, h 13, h 14, h 15, h 16, h 17, h 18, h 19, h 20, h 21]) t_kind t_exponent t_letters t_fed t_at t_rowSize t_steps t_foundMany t_keptMany t_keptLetters t_isFull t_isSaved t_savedKind t_savedExponent t_savedLetters p1 _ hv) (cwV 1 hts gX11_setValue_X11_isLetter rfl rfl rfl zX11_isLetter ⟨Nat.le_of_ble_eq_true rfl, Nat.le_of_ble_eq_true rfl⟩) hK hP hD hS hA [0] [some 0, none] rfl rfl rfl (ci := 11) rfl rfl (fun _ => rfl) rfl hl.1 rfl (Nat.le_of_ble_eq_true rfl) dX11_setValue_2 (fun r_1 w_9 H locs hv hP hD hS => ?_)
  have hP : va_P (dC, dI) vwCl (pX11_setValue cy h t_kind t_exponent t_letters t_values t_fed t_at t_rowSize t_steps t_foundMany t_keptMany t_keptLetters t_isFull t_isSaved t_savedKind t_savedExponent t_savedLetters) H := hP
  have hD : va_D A (pX11_setValue cy h t_kind t_exponent t_letters t_values t_fed t_at t_rowSize t_steps t_foundMany t_keptMany t_keptLetters t_isFull t_isSaved t_savedKind t_savedExponent t_savedLetters) := hD
  refine lv_if_eq (tgt := 19) hx hb dX11_setValue_5 (by decide) (fun c_8 => ?_) (fun c_8 => ?_)
  · have hv := hv.1 c_8
    refine lv_iconst (v := (-1)) hx hb dX11_setValue_19 (by decide) ?_
    exact W.iret (v := (-1)) hx hb hr (fun t ht hW => ⟨⟨(-1), (t_values), rfl, hv, va_Ph ht hP⟩, hS.F ht⟩) hS.2.2 dX11_setValue_20
  · have hv := hv.2 c_8
    refine lv_iload_n hx hb dX11_setValue_8 rfl (lv_at hl 2 rfl) ?_
    refine lv_bipush (v := (-9)) hx hb dX11_setValue_9 (by decide) ?_
    refine lv_bipush (v := 9) hx hb dX11_setValue_11 (by decide) ?_
    refine cb_SI (As := [.int p2, .int (-9), .int 9]) (rest := []) ⟨hx, hb, hml, hown, hts⟩ (kX11_isIn l dC dI cy (adl []) p2 (-9) 9 _ hv) (va_cwS 3 hts gX11_setValue_X11_isIn rfl rfl rfl zX11_isIn ⟨Nat.le_of_ble_eq_true rfl, Nat.le_of_ble_eq_true rfl⟩) hK hP hD hS hA [] [none, none] rfl rfl rfl (fun _ => rfl) rfl hl.1 rfl (Nat.le_of_ble_eq_true rfl) dX11_setValue_13 (fun r_2 w_7 H locs hv hP hD hS => ?_)
    have hP : va_P (dC, dI) vwCl (pX11_setValue cy h t_kind t_exponent t_letters t_values t_fed t_at t_rowSize t_steps t_foundMany t_keptMany t_keptLetters t_isFull t_isSaved t_savedKind t_savedExponent t_savedLetters) H := hP
    have hD : va_D A (pX11_setValue cy h t_kind t_exponent t_letters t_values t_fed t_at t_rowSize t_steps t_foundMany t_keptMany t_keptLetters t_isFull t_isSaved t_savedKind t_savedExponent t_savedLetters) := hD
    refine lv_if_ne (tgt := 21) hx hb dX11_setValue_16 (by decide) (fun c_6 => ?_) (fun c_6 => ?_)
    · have hv := hv.1 c_6
      refine lv_aload_n hx hb dX11_setValue_21 rfl (lv_at hl 0 rfl) ?_
      refine va_get (D := (dC, dI)) (ci := 11) (v := .ref (h 1)) (C := RX11) (T := TX11) (N := 36) hx hb hts nX11_setValue_X11 hown hK hP 0 rfl rfl 3 (by decide) (hts _ mX11_setValue_1) (fun _ h9 => h9) rfl dX11_setValue_22 ?_
      refine lv_iload_n hx hb dX11_setValue_25 rfl (lv_at hl 1 rfl) ?_
      have h_3 := hv.1
      have hv := hv.2
      refine va_iald hx hb hK hP 1 0 rfl rfl h_3 dX11_setValue_26 ?_
      refine lv_istore_n (lv' := [(3, .int ((t_values p1.toNatClampNeg))), (0, .ref (h 0)), (1, .int p1), (2, .int p2)]) hx hb dX11_setValue_27 rfl hl (by decide) rfl (fun ls hl => ?_)
      refine lv_aload_n hx hb dX11_setValue_28 rfl (lv_at hl 1 rfl) ?_
      refine va_get (D := (dC, dI)) (ci := 11) (v := .ref (h 1)) (C := RX11) (T := TX11) (N := 36) hx hb hts nX11_setValue_X11 hown hK hP 0 rfl rfl 3 (by decide) (hts _ mX11_setValue_1) (fun _ h9 => h9) rfl dX11_setValue_29 ?_
      refine lv_iload_n hx hb dX11_setValue_32 rfl (lv_at hl 2 rfl) ?_
      refine lv_iload_n hx hb dX11_setValue_33 rfl (lv_at hl 3 rfl) ?_
      have h_4 := hv.1
      have hv := hv.2
      refine va_iast hx hb hK hP hD hS 1 0 rfl rfl h_4 dX11_setValue_34 (fun H locs hP hD hS => ?_)
      have hP : va_P (dC, dI) vwCl (pX11_setValue cy h t_kind t_exponent t_letters (upd t_values p1.toNatClampNeg p2) t_fed t_at t_rowSize t_steps t_foundMany t_keptMany t_keptLetters t_isFull t_isSaved t_savedKind t_savedExponent t_savedLetters) H := hP
      have hD : va_D A (pX11_setValue cy h t_kind t_exponent t_letters (upd t_values p1.toNatClampNeg p2) t_fed t_at t_rowSize t_steps t_foundMany t_keptMany t_keptLetters t_isFull t_isSaved t_savedKind t_savedExponent t_savedLetters) := hD
      refine lv_iload_n hx hb dX11_setValue_35 rfl (lv_at hl 0 rfl) ?_
      refine lv_bipush (v := 10) hx hb dX11_setValue_36 (by decide) ?_
      refine lv_iadd hx hb dX11_setValue_38 ?_
      refine lv_topi (fun y_5 ey_5 => ?_)
      have hv := hv y_5 ey_5
      exact W.iret (v := y_5) hx hb hr (fun t ht hW => ⟨⟨y_5, ((upd t_values p1.toNatClampNeg p2)), rfl, hv, va_Ph ht hP⟩, hS.F ht⟩) hS.2.2 dX11_setValue_39
    · have hv := hv.2 c_6
      refine lv_iconst (v := (-1)) hx hb dX11_setValue_19 (by decide) ?_
      exact W.iret (v := (-1)) hx hb hr (fun t ht hW => ⟨⟨(-1), (t_values), rfl, hv, va_Ph ht hP⟩, hS.F ht⟩) hS.2.2 dX11_setValue_20
theorem kX11_setValue (l : Launch) (dC : Nat → ClassId) (dI : Nat → Nat → Nat) (cy : Nat → ClassId) (h : Nat → Nat) (t_kind : Int32) (t_exponent : Int32) (t_letters : Int32) (t_values : Nat → Int32) (t_fed : Int32) (t_at : Int32) (t_rowSize : Int32) (t_steps : Int32) (t_foundMany : Int32) (t_keptMany : Int32) (t_keptLetters : Int32) (t_isFull : Int32) (t_isSaved : Int32) (t_savedKind : Int32) (t_savedExponent : Int32) (t_savedLetters : Int32) (p1 : Int32) (p2 : Int32) (post : Int32 → (Nat → Int32) → Prop) (hv : VX11_setValue post t_letters p1 p2 t_values) : CtI l yX11_setValue wsX11_setValue rX11_setValue dC dI cy [.ref (h 0), .int p1, .int p2] (pX11_setValue cy h t_kind t_exponent t_letters t_values t_fed t_at t_rowSize t_steps t_foundMany t_keptMany t_keptLetters t_isFull t_isSaved t_savedKind t_savedExponent t_savedLetters) (fun (u : (Nat → Int32)) => pX11_setValue cy h t_kind t_exponent t_letters u t_fed t_at t_rowSize t_steps t_foundMany t_keptMany t_keptLetters t_isFull t_isSaved t_savedKind t_savedExponent t_savedLetters) (fun (r : Int32) (u : (Nat → Int32)) => post r u) :=
  ct_ofI (by decide) rfl (Nat.le_of_ble_eq_true rfl) (fun p e s m below meth c A ls C0 hP hD hS hl => wX11_setValue_0 l h post t_kind t_exponent t_letters t_fed t_at t_rowSize t_steps t_foundMany t_keptMany t_keptLetters t_isFull t_isSaved t_savedKind t_savedExponent t_savedLetters p1 p2 C0 t_values hv _ _ _ hP hD hS hl)
theorem mX11_append_1 : (Cond.fieldLink RX11 26 "AbelianPowersModel" "lengths" "[I") ∈ wsX11_append := List.mem_of_getElem? (i := 1) rfl
theorem mX11_append_2 : (Cond.fieldLink RX11 23 "AbelianPowersModel" "words" "[I") ∈ wsX11_append := List.mem_of_getElem? (i := 2) rfl
theorem nX11_append_X11 : ∀ w ∈ wsX110, w ∈ wsX11_append := fun _ h => List.mem_cons_of_mem _ (List.mem_append_right _ h)
theorem zX11_append : yX11_append.cls = RX11 ∧ yX11_append.cls ≠ "java/lang/invoke/MethodHandle" ∧ yX11_append.cls ≠ "java/lang/invoke/VarHandle" ∧ (parseMethodDescriptor yX11_append.desc).map (fun d => d.parameters.length) = some 2 := by decide +kernel
abbrev rX11_append : Room := { frames := 2, cells := 0, slots := 0, locals := 43 }
abbrev pX11_append (cy : Nat → ClassId) (h : Nat → Nat) (t_kind : Int32) (t_exponent : Int32) (t_letters : Int32) (t_words : Nat → Int32) (t_lengths : Nat → Int32) (t_fed : Int32) (t_at : Int32) (t_rowSize : Int32) (t_steps : Int32) (t_foundMany : Int32) (t_keptMany : Int32) (t_keptLetters : Int32) (t_isFull : Int32) (t_isSaved : Int32) (t_savedKind : Int32) (t_savedExponent : Int32) (t_savedLetters : Int32) : va_W := [(h 0, .inr (11, [.int t_kind, .int t_exponent, .int t_letters, .ref (h 3), .ref (h 1), .ref (h 2), .ref (h 4), .ref (h 5), .ref (h 6), .int t_fed, .int t_at, .ref (h 7), .int t_rowSize, .int t_steps, .ref (h 8), .int t_foundMany, .ref (h 9), .int t_keptMany, .int t_keptLetters, .ref (h 10), .ref (h 11), .ref (h 12), .ref (h 13), .ref (h 14), .int t_isFull, .ref (h 15), .ref (h 16), .int t_isSaved, .int t_savedKind, .int t_savedExponent, .int t_savedLetters, .ref (h 17), .ref (h 18), .ref (h 19), .ref (h 20), .ref (h 21)])), (h 1, .inl (cy 0, 120, .inl t_words)), (h 2, .inl (cy 0, 3, .inl t_lengths))]
def VX11_append (post : Int32 → (Nat → Int32) → (Nat → Int32) → Prop)  (t_letters : Int32) (p1 : Int32) (p2 : Int32) (t_words : Nat → Int32) (t_lengths : Nat → Int32) : Prop := VX11_isWord (fun r_1 => ((r_1 = 0) → post (-1 : Int32) t_words t_lengths) ∧ (¬ (r_1 = 0) → VX11_isLetter (fun r_2 => (¬ (r_2 = 0) → vp_in p1 3 ∧ ((¬ ((t_lengths p1.toNatClampNeg) = 40) → vp_in p1 3 ∧ (∀ y_5 : Int32, y_5 = (((40 : Int32) * p1) + (t_lengths p1.toNatClampNeg)) → vp_in y_5 120 ∧ (vp_in p1 3 ∧ (∀ y_8 : Int32, y_8 = ((t_lengths p1.toNatClampNeg) + 1) → vp_in p1 3 ∧ (vp_in p1 3 ∧ (∀ y_10 : Int32, y_10 = ((upd t_lengths p1.toNatClampNeg y_8) p1.toNatClampNeg) → post y_10 (upd t_words y_5.toNatClampNeg p2) (upd t_lengths p1.toNatClampNeg y_8))))))) ∧ (((t_lengths p1.toNatClampNeg) = 40) → post (-3 : Int32) t_words t_lengths))) ∧ ((r_2 = 0) → post (-1 : Int32) t_words t_lengths)) t_letters p2)) p1
set_option maxHeartbeats 4000000 in
set_option maxRecDepth 100000 in
theorem wX11_append_0 {p : Program} (l : Launch) {e : Env} {s : State} {m : MethodId} {args : Array Value} {below : List Frame} {meth : Method} {c : Code} {dC : Nat → ClassId} {dI : Nat → Nat → Nat} {cy : Nat → ClassId} {A : Nat → Prop} (h : Nat → Nat) (post : Int32 → (Nat → Int32) → (Nat → Int32) → Prop)   (t_kind : Int32) (t_exponent : Int32) (t_letters : Int32) (t_fed : Int32) (t_at : Int32) (t_rowSize : Int32) (t_steps : Int32) (t_foundMany : Int32) (t_keptMany : Int32) (t_keptLetters : Int32) (t_isFull : Int32) (t_isSaved : Int32) (t_savedKind : Int32) (t_savedExponent : Int32) (t_savedLetters : Int32) (p1 : Int32) (p2 : Int32) (C0 : cx p s m args meth c cX11_append 3 (some .int) wsX11_append RX11 dC dI cy A)  : ∀ (t_words : Nat → Int32) (t_lengths : Nat → Int32), VX11_append post t_letters p1 p2 t_words t_lengths → ∀ (H : Heap) (locs : List Loc) (ls : Array Slot), va_P (dC, dI) vwCl (pX11_append cy h t_kind t_exponent t_letters t_words t_lengths t_fed t_at t_rowSize t_steps t_foundMany t_keptMany t_keptLetters t_isFull t_isSaved t_savedKind t_savedExponent t_savedLetters) H → va_D A (pX11_append cy h t_kind t_exponent t_letters t_words t_lengths t_fed t_at t_rowSize t_steps t_foundMany t_keptMany t_keptLetters t_isFull t_isSaved t_savedKind t_savedExponent t_savedLetters) → va_S A s.heap H locs → lv_has ls 3 [(0, .ref (h 0)), (1, .int p1), (2, .int p2)] → W p l e rX11_append s m args below meth c H locs 0 0 (MQ below (va_Qi (fun (r : Int32) (u : (Nat → Int32) × (Nat → Int32)) => post r u.1 u.2) (fun (u : (Nat → Int32) × (Nat → Int32)) (t : State) => va_P (dC, dI) vwCl (pX11_append cy h t_kind t_exponent t_letters u.1 u.2 t_fed t_at t_rowSize t_steps t_foundMany t_keptMany t_keptLetters t_isFull t_isSaved t_savedKind t_savedExponent t_savedLetters) t.heap) A) args s 0 0 A) (F0 m 0 ls []) := by
  have C1 := C0
  obtain ⟨hx, hb, hr, hml, hown, hts, hlocks, hK, hA⟩ := C1
  intro t_words t_lengths hv H locs ls hP hD hS hl
  refine lv_iload_n hx hb dX11_append_0 rfl (lv_at hl 1 rfl) ?_
  refine cb_SI (As := [.int p1]) (rest := []) ⟨hx, hb, hml, hown, hts⟩ (kX11_isWord l dC dI cy (adl []) p1 _ hv) (va_cwS 1 hts gX11_append_X11_isWord rfl rfl rfl zX11_isWord ⟨Nat.le_of_ble_eq_true rfl, Nat.le_of_ble_eq_true rfl⟩) hK hP hD hS hA [] [none, none, none] rfl rfl rfl (fun _ => rfl) rfl hl.1 rfl (Nat.le_of_ble_eq_true rfl) dX11_append_1 (fun r_1 w_16 H locs hv hP hD hS => ?_)
  have hP : va_P (dC, dI) vwCl (pX11_append cy h t_kind t_exponent t_letters t_words t_lengths t_fed t_at t_rowSize t_steps t_foundMany t_keptMany t_keptLetters t_isFull t_isSaved t_savedKind t_savedExponent t_savedLetters) H := hP
  have hD : va_D A (pX11_append cy h t_kind t_exponent t_letters t_words t_lengths t_fed t_at t_rowSize t_steps t_foundMany t_keptMany t_keptLetters t_isFull t_isSaved t_savedKind t_savedExponent t_savedLetters) := hD
  refine lv_if_eq (tgt := 15) hx hb dX11_append_4 (by decide) (fun c_15 => ?_) (fun c_15 => ?_)
  · have hv := hv.1 c_15
    refine lv_iconst (v := (-1)) hx hb dX11_append_15 (by decide) ?_
    exact W.iret (v := (-1)) hx hb hr (fun t ht hW => ⟨⟨(-1), (t_words, t_lengths), rfl, hv, va_Ph ht hP⟩, hS.F ht⟩) hS.2.2 dX11_append_16
  · have hv := hv.2 c_15
    refine lv_aload_n hx hb dX11_append_7 rfl (lv_at hl 0 rfl) ?_
    refine lv_iload_n hx hb dX11_append_8 rfl (lv_at hl 2 rfl) ?_
    refine cb_VI (As := [.int p2]) (rest := []) ⟨hx, hb, hml, hown, hts⟩ (kX11_isLetter l dC dI cy (adl [h 0, h 3, h 1, h 2, h 4, h 5, h 6, h 7, h 8, h 9, h 10, h 11, h 12, h 13, h 14, h 15, h 16, h 17, h 18, h 19, h 20, h 21]) t_kind t_exponent t_letters t_fed t_at t_rowSize t_steps t_foundMany t_keptMany t_keptLetters t_isFull t_isSaved t_savedKind t_savedExponent t_savedLetters p2 _ hv) (cwV 1 hts gX11_append_X11_isLetter rfl rfl rfl zX11_isLetter ⟨Nat.le_of_ble_eq_true rfl, Nat.le_of_ble_eq_true rfl⟩) hK hP hD hS hA [0] [some 0, none, none] rfl rfl rfl (ci := 11) rfl rfl (fun _ => rfl) rfl hl.1 rfl (Nat.le_of_ble_eq_true rfl) dX11_append_9 (fun r_2 w_14 H locs hv hP hD hS => ?_)
    have hP : va_P (dC, dI) vwCl (pX11_append cy h t_kind t_exponent t_letters t_words t_lengths t_fed t_at t_rowSize t_steps t_foundMany t_keptMany t_keptLetters t_isFull t_isSaved t_savedKind t_savedExponent t_savedLetters) H := hP
    have hD : va_D A (pX11_append cy h t_kind t_exponent t_letters t_words t_lengths t_fed t_at t_rowSize t_steps t_foundMany t_keptMany t_keptLetters t_isFull t_isSaved t_savedKind t_savedExponent t_savedLetters) := hD
    refine lv_if_ne (tgt := 17) hx hb dX11_append_12 (by decide) (fun c_13 => ?_) (fun c_13 => ?_)
    · have hv := hv.1 c_13
      refine lv_aload_n hx hb dX11_append_17 rfl (lv_at hl 0 rfl) ?_
      refine va_get (D := (dC, dI)) (ci := 11) (v := .ref (h 2)) (C := RX11) (T := TX11) (N := 36) hx hb hts nX11_append_X11 hown hK hP 0 rfl rfl 5 (by decide) (hts _ mX11_append_1) (fun _ h9 => h9) rfl dX11_append_18 ?_
      refine lv_iload_n hx hb dX11_append_21 rfl (lv_at hl 1 rfl) ?_
      have h_3 := hv.1
      have hv := hv.2
      refine va_iald hx hb hK hP 2 0 rfl rfl h_3 dX11_append_22 ?_
      refine lv_bipush (v := 40) hx hb dX11_append_23 (by decide) ?_
      refine lv_icmp_ne (tgt := 31) hx hb dX11_append_25 (by decide) (fun c_12 => ?_) (fun c_12 => ?_)
      · have hv := hv.1 c_12
        refine lv_aload_n hx hb dX11_append_31 rfl (lv_at hl 0 rfl) ?_
        refine va_get (D := (dC, dI)) (ci := 11) (v := .ref (h 1)) (C := RX11) (T := TX11) (N := 36) hx hb hts nX11_append_X11 hown hK hP 0 rfl rfl 4 (by decide) (hts _ mX11_append_2) (fun _ h9 => h9) rfl dX11_append_32 ?_
        refine lv_bipush (v := 40) hx hb dX11_append_35 (by decide) ?_
        refine lv_iload_n hx hb dX11_append_37 rfl (lv_at hl 1 rfl) ?_
        refine lv_imul hx hb dX11_append_38 ?_
        refine lv_aload_n hx hb dX11_append_39 rfl (lv_at hl 0 rfl) ?_
        refine va_get (D := (dC, dI)) (ci := 11) (v := .ref (h 2)) (C := RX11) (T := TX11) (N := 36) hx hb hts nX11_append_X11 hown hK hP 0 rfl rfl 5 (by decide) (hts _ mX11_append_1) (fun _ h9 => h9) rfl dX11_append_40 ?_
        refine lv_iload_n hx hb dX11_append_43 rfl (lv_at hl 1 rfl) ?_
        have h_4 := hv.1
        have hv := hv.2
        refine va_iald hx hb hK hP 2 0 rfl rfl h_4 dX11_append_44 ?_
        refine lv_iadd hx hb dX11_append_45 ?_
        refine lv_topi (fun y_5 ey_5 => ?_)
        have hv := hv y_5 ey_5
        refine lv_iload_n hx hb dX11_append_46 rfl (lv_at hl 2 rfl) ?_
        have h_6 := hv.1
        have hv := hv.2
        refine va_iast hx hb hK hP hD hS 1 0 rfl rfl h_6 dX11_append_47 (fun H locs hP hD hS => ?_)
        have hP : va_P (dC, dI) vwCl (pX11_append cy h t_kind t_exponent t_letters (upd t_words y_5.toNatClampNeg p2) t_lengths t_fed t_at t_rowSize t_steps t_foundMany t_keptMany t_keptLetters t_isFull t_isSaved t_savedKind t_savedExponent t_savedLetters) H := hP
        have hD : va_D A (pX11_append cy h t_kind t_exponent t_letters (upd t_words y_5.toNatClampNeg p2) t_lengths t_fed t_at t_rowSize t_steps t_foundMany t_keptMany t_keptLetters t_isFull t_isSaved t_savedKind t_savedExponent t_savedLetters) := hD
        refine lv_aload_n hx hb dX11_append_48 rfl (lv_at hl 0 rfl) ?_
        refine va_get (D := (dC, dI)) (ci := 11) (v := .ref (h 2)) (C := RX11) (T := TX11) (N := 36) hx hb hts nX11_append_X11 hown hK hP 0 rfl rfl 5 (by decide) (hts _ mX11_append_1) (fun _ h9 => h9) rfl dX11_append_49 ?_
        refine lv_iload_n hx hb dX11_append_52 rfl (lv_at hl 1 rfl) ?_
        refine lv_dup2_11 hx hb dX11_append_53 rfl rfl ?_
        have h_7 := hv.1
        have hv := hv.2
        refine va_iald hx hb hK hP 2 0 rfl rfl h_7 dX11_append_54 ?_
        refine lv_iconst (v := 1) hx hb dX11_append_55 (by decide) ?_
        refine lv_iadd hx hb dX11_append_56 ?_
        refine lv_topi (fun y_8 ey_8 => ?_)
        have hv := hv y_8 ey_8
        have h_9 := hv.1
        have hv := hv.2
        refine va_iast hx hb hK hP hD hS 2 0 rfl rfl h_9 dX11_append_57 (fun H locs hP hD hS => ?_)
        have hP : va_P (dC, dI) vwCl (pX11_append cy h t_kind t_exponent t_letters (upd t_words y_5.toNatClampNeg p2) (upd t_lengths p1.toNatClampNeg y_8) t_fed t_at t_rowSize t_steps t_foundMany t_keptMany t_keptLetters t_isFull t_isSaved t_savedKind t_savedExponent t_savedLetters) H := hP
        have hD : va_D A (pX11_append cy h t_kind t_exponent t_letters (upd t_words y_5.toNatClampNeg p2) (upd t_lengths p1.toNatClampNeg y_8) t_fed t_at t_rowSize t_steps t_foundMany t_keptMany t_keptLetters t_isFull t_isSaved t_savedKind t_savedExponent t_savedLetters) := hD
        refine lv_aload_n hx hb dX11_append_58 rfl (lv_at hl 0 rfl) ?_
        refine va_get (D := (dC, dI)) (ci := 11) (v := .ref (h 2)) (C := RX11) (T := TX11) (N := 36) hx hb hts nX11_append_X11 hown hK hP 0 rfl rfl 5 (by decide) (hts _ mX11_append_1) (fun _ h9 => h9) rfl dX11_append_59 ?_
        refine lv_iload_n hx hb dX11_append_62 rfl (lv_at hl 1 rfl) ?_
        have h_11 := hv.1
        have hv := hv.2
        refine va_iald hx hb hK hP 2 0 rfl rfl h_11 dX11_append_63 ?_
        refine lv_topi (fun y_10 ey_10 => ?_)
        have hv := hv y_10 ey_10
        exact W.iret (v := y_10) hx hb hr (fun t ht hW => ⟨⟨y_10, ((upd t_words y_5.toNatClampNeg p2), (upd t_lengths p1.toNatClampNeg y_8)), rfl, hv, va_Ph ht hP⟩, hS.F ht⟩) hS.2.2 dX11_append_64
      · have hv := hv.2 c_12
        refine lv_bipush (v := (-3)) hx hb dX11_append_28 (by decide) ?_
        exact W.iret (v := (-3)) hx hb hr (fun t ht hW => ⟨⟨(-3), (t_words, t_lengths), rfl, hv, va_Ph ht hP⟩, hS.F ht⟩) hS.2.2 dX11_append_30
    · have hv := hv.2 c_13
      refine lv_iconst (v := (-1)) hx hb dX11_append_15 (by decide) ?_
      exact W.iret (v := (-1)) hx hb hr (fun t ht hW => ⟨⟨(-1), (t_words, t_lengths), rfl, hv, va_Ph ht hP⟩, hS.F ht⟩) hS.2.2 dX11_append_16
theorem kX11_append (l : Launch) (dC : Nat → ClassId) (dI : Nat → Nat → Nat) (cy : Nat → ClassId) (h : Nat → Nat) (t_kind : Int32) (t_exponent : Int32) (t_letters : Int32) (t_words : Nat → Int32) (t_lengths : Nat → Int32) (t_fed : Int32) (t_at : Int32) (t_rowSize : Int32) (t_steps : Int32) (t_foundMany : Int32) (t_keptMany : Int32) (t_keptLetters : Int32) (t_isFull : Int32) (t_isSaved : Int32) (t_savedKind : Int32) (t_savedExponent : Int32) (t_savedLetters : Int32) (p1 : Int32) (p2 : Int32) (post : Int32 → (Nat → Int32) → (Nat → Int32) → Prop) (hv : VX11_append post t_letters p1 p2 t_words t_lengths) : CtI l yX11_append wsX11_append rX11_append dC dI cy [.ref (h 0), .int p1, .int p2] (pX11_append cy h t_kind t_exponent t_letters t_words t_lengths t_fed t_at t_rowSize t_steps t_foundMany t_keptMany t_keptLetters t_isFull t_isSaved t_savedKind t_savedExponent t_savedLetters) (fun (u : (Nat → Int32) × (Nat → Int32)) => pX11_append cy h t_kind t_exponent t_letters u.1 u.2 t_fed t_at t_rowSize t_steps t_foundMany t_keptMany t_keptLetters t_isFull t_isSaved t_savedKind t_savedExponent t_savedLetters) (fun (r : Int32) (u : (Nat → Int32) × (Nat → Int32)) => post r u.1 u.2) :=
  ct_ofI (by decide) rfl (Nat.le_of_ble_eq_true rfl) (fun p e s m below meth c A ls C0 hP hD hS hl => wX11_append_0 l h post t_kind t_exponent t_letters t_fed t_at t_rowSize t_steps t_foundMany t_keptMany t_keptLetters t_isFull t_isSaved t_savedKind t_savedExponent t_savedLetters p1 p2 C0 t_words t_lengths hv _ _ _ hP hD hS hl)
theorem mX11_clearWord_1 : (Cond.fieldLink RX11 26 "AbelianPowersModel" "lengths" "[I") ∈ wsX11_clearWord := List.mem_of_getElem? (i := 1) rfl
theorem nX11_clearWord_X11 : ∀ w ∈ wsX110, w ∈ wsX11_clearWord := fun _ h => List.mem_cons_of_mem _ (List.mem_append_right _ h)
theorem zX11_clearWord : yX11_clearWord.cls = RX11 ∧ yX11_clearWord.cls ≠ "java/lang/invoke/MethodHandle" ∧ yX11_clearWord.cls ≠ "java/lang/invoke/VarHandle" ∧ (parseMethodDescriptor yX11_clearWord.desc).map (fun d => d.parameters.length) = some 1 := by decide +kernel
abbrev rX11_clearWord : Room := { frames := 2, cells := 0, slots := 0, locals := 42 }
abbrev pX11_clearWord (cy : Nat → ClassId) (h : Nat → Nat) (t_kind : Int32) (t_exponent : Int32) (t_letters : Int32) (t_lengths : Nat → Int32) (t_fed : Int32) (t_at : Int32) (t_rowSize : Int32) (t_steps : Int32) (t_foundMany : Int32) (t_keptMany : Int32) (t_keptLetters : Int32) (t_isFull : Int32) (t_isSaved : Int32) (t_savedKind : Int32) (t_savedExponent : Int32) (t_savedLetters : Int32) : va_W := [(h 0, .inr (11, [.int t_kind, .int t_exponent, .int t_letters, .ref (h 2), .ref (h 3), .ref (h 1), .ref (h 4), .ref (h 5), .ref (h 6), .int t_fed, .int t_at, .ref (h 7), .int t_rowSize, .int t_steps, .ref (h 8), .int t_foundMany, .ref (h 9), .int t_keptMany, .int t_keptLetters, .ref (h 10), .ref (h 11), .ref (h 12), .ref (h 13), .ref (h 14), .int t_isFull, .ref (h 15), .ref (h 16), .int t_isSaved, .int t_savedKind, .int t_savedExponent, .int t_savedLetters, .ref (h 17), .ref (h 18), .ref (h 19), .ref (h 20), .ref (h 21)])), (h 1, .inl (cy 0, 3, .inl t_lengths))]
def VX11_clearWord (post : Int32 → (Nat → Int32) → Prop)  (p1 : Int32) (t_lengths : Nat → Int32) : Prop := VX11_isWord (fun r_1 => (¬ (r_1 = 0) → vp_in p1 3 ∧ (vp_in p1 3 ∧ (post (t_lengths p1.toNatClampNeg) (upd t_lengths p1.toNatClampNeg 0)))) ∧ ((r_1 = 0) → post (-1 : Int32) t_lengths)) p1
set_option maxHeartbeats 4000000 in
set_option maxRecDepth 100000 in
theorem wX11_clearWord_0 {p : Program} (l : Launch) {e : Env} {s : State} {m : MethodId} {args : Array Value} {below : List Frame} {meth : Method} {c : Code} {dC : Nat → ClassId} {dI : Nat → Nat → Nat} {cy : Nat → ClassId} {A : Nat → Prop} (h : Nat → Nat) (post : Int32 → (Nat → Int32) → Prop)   (t_kind : Int32) (t_exponent : Int32) (t_letters : Int32) (t_fed : Int32) (t_at : Int32) (t_rowSize : Int32) (t_steps : Int32) (t_foundMany : Int32) (t_keptMany : Int32) (t_keptLetters : Int32) (t_isFull : Int32) (t_isSaved : Int32) (t_savedKind : Int32) (t_savedExponent : Int32) (t_savedLetters : Int32) (p1 : Int32) (C0 : cx p s m args meth c cX11_clearWord 3 (some .int) wsX11_clearWord RX11 dC dI cy A)  : ∀ (t_lengths : Nat → Int32), VX11_clearWord post p1 t_lengths → ∀ (H : Heap) (locs : List Loc) (ls : Array Slot), va_P (dC, dI) vwCl (pX11_clearWord cy h t_kind t_exponent t_letters t_lengths t_fed t_at t_rowSize t_steps t_foundMany t_keptMany t_keptLetters t_isFull t_isSaved t_savedKind t_savedExponent t_savedLetters) H → va_D A (pX11_clearWord cy h t_kind t_exponent t_letters t_lengths t_fed t_at t_rowSize t_steps t_foundMany t_keptMany t_keptLetters t_isFull t_isSaved t_savedKind t_savedExponent t_savedLetters) → va_S A s.heap H locs → lv_has ls 3 [(0, .ref (h 0)), (1, .int p1)] → W p l e rX11_clearWord s m args below meth c H locs 0 0 (MQ below (va_Qi (fun (r : Int32) (u : (Nat → Int32)) => post r u) (fun (u : (Nat → Int32)) (t : State) => va_P (dC, dI) vwCl (pX11_clearWord cy h t_kind t_exponent t_letters u t_fed t_at t_rowSize t_steps t_foundMany t_keptMany t_keptLetters t_isFull t_isSaved t_savedKind t_savedExponent t_savedLetters) t.heap) A) args s 0 0 A) (F0 m 0 ls []) := by
  have C1 := C0
  obtain ⟨hx, hb, hr, hml, hown, hts, hlocks, hK, hA⟩ := C1
  intro t_lengths hv H locs ls hP hD hS hl
  refine lv_iload_n hx hb dX11_clearWord_0 rfl (lv_at hl 1 rfl) ?_
  refine cb_SI (As := [.int p1]) (rest := []) ⟨hx, hb, hml, hown, hts⟩ (kX11_isWord l dC dI cy (adl []) p1 _ hv) (va_cwS 1 hts gX11_clearWord_X11_isWord rfl rfl rfl zX11_isWord ⟨Nat.le_of_ble_eq_true rfl, Nat.le_of_ble_eq_true rfl⟩) hK hP hD hS hA [] [none, none] rfl rfl rfl (fun _ => rfl) rfl hl.1 rfl (Nat.le_of_ble_eq_true rfl) dX11_clearWord_1 (fun r_1 w_5 H locs hv hP hD hS => ?_)
  have hP : va_P (dC, dI) vwCl (pX11_clearWord cy h t_kind t_exponent t_letters t_lengths t_fed t_at t_rowSize t_steps t_foundMany t_keptMany t_keptLetters t_isFull t_isSaved t_savedKind t_savedExponent t_savedLetters) H := hP
  have hD : va_D A (pX11_clearWord cy h t_kind t_exponent t_letters t_lengths t_fed t_at t_rowSize t_steps t_foundMany t_keptMany t_keptLetters t_isFull t_isSaved t_savedKind t_savedExponent t_savedLetters) := hD
  refine lv_if_ne (tgt := 9) hx hb dX11_clearWord_4 (by decide) (fun c_4 => ?_) (fun c_4 => ?_)
  · have hv := hv.1 c_4
    refine lv_aload_n hx hb dX11_clearWord_9 rfl (lv_at hl 0 rfl) ?_
    refine va_get (D := (dC, dI)) (ci := 11) (v := .ref (h 1)) (C := RX11) (T := TX11) (N := 36) hx hb hts nX11_clearWord_X11 hown hK hP 0 rfl rfl 5 (by decide) (hts _ mX11_clearWord_1) (fun _ h9 => h9) rfl dX11_clearWord_10 ?_
    refine lv_iload_n hx hb dX11_clearWord_13 rfl (lv_at hl 1 rfl) ?_
    have h_2 := hv.1
    have hv := hv.2
    refine va_iald hx hb hK hP 1 0 rfl rfl h_2 dX11_clearWord_14 ?_
    refine lv_istore_n (lv' := [(2, .int ((t_lengths p1.toNatClampNeg))), (0, .ref (h 0)), (1, .int p1)]) hx hb dX11_clearWord_15 rfl hl (by decide) rfl (fun ls hl => ?_)
    refine lv_aload_n hx hb dX11_clearWord_16 rfl (lv_at hl 1 rfl) ?_
    refine va_get (D := (dC, dI)) (ci := 11) (v := .ref (h 1)) (C := RX11) (T := TX11) (N := 36) hx hb hts nX11_clearWord_X11 hown hK hP 0 rfl rfl 5 (by decide) (hts _ mX11_clearWord_1) (fun _ h9 => h9) rfl dX11_clearWord_17 ?_
    refine lv_iload_n hx hb dX11_clearWord_20 rfl (lv_at hl 2 rfl) ?_
    refine lv_iconst (v := 0) hx hb dX11_clearWord_21 (by decide) ?_
    have h_3 := hv.1
    have hv := hv.2
    refine va_iast hx hb hK hP hD hS 1 0 rfl rfl h_3 dX11_clearWord_22 (fun H locs hP hD hS => ?_)
    have hP : va_P (dC, dI) vwCl (pX11_clearWord cy h t_kind t_exponent t_letters (upd t_lengths p1.toNatClampNeg 0) t_fed t_at t_rowSize t_steps t_foundMany t_keptMany t_keptLetters t_isFull t_isSaved t_savedKind t_savedExponent t_savedLetters) H := hP
    have hD : va_D A (pX11_clearWord cy h t_kind t_exponent t_letters (upd t_lengths p1.toNatClampNeg 0) t_fed t_at t_rowSize t_steps t_foundMany t_keptMany t_keptLetters t_isFull t_isSaved t_savedKind t_savedExponent t_savedLetters) := hD
    refine lv_iload_n hx hb dX11_clearWord_23 rfl (lv_at hl 0 rfl) ?_
    exact W.iret (v := (t_lengths p1.toNatClampNeg)) hx hb hr (fun t ht hW => ⟨⟨(t_lengths p1.toNatClampNeg), ((upd t_lengths p1.toNatClampNeg 0)), rfl, hv, va_Ph ht hP⟩, hS.F ht⟩) hS.2.2 dX11_clearWord_24
  · have hv := hv.2 c_4
    refine lv_iconst (v := (-1)) hx hb dX11_clearWord_7 (by decide) ?_
    exact W.iret (v := (-1)) hx hb hr (fun t ht hW => ⟨⟨(-1), (t_lengths), rfl, hv, va_Ph ht hP⟩, hS.F ht⟩) hS.2.2 dX11_clearWord_8
theorem kX11_clearWord (l : Launch) (dC : Nat → ClassId) (dI : Nat → Nat → Nat) (cy : Nat → ClassId) (h : Nat → Nat) (t_kind : Int32) (t_exponent : Int32) (t_letters : Int32) (t_lengths : Nat → Int32) (t_fed : Int32) (t_at : Int32) (t_rowSize : Int32) (t_steps : Int32) (t_foundMany : Int32) (t_keptMany : Int32) (t_keptLetters : Int32) (t_isFull : Int32) (t_isSaved : Int32) (t_savedKind : Int32) (t_savedExponent : Int32) (t_savedLetters : Int32) (p1 : Int32) (post : Int32 → (Nat → Int32) → Prop) (hv : VX11_clearWord post p1 t_lengths) : CtI l yX11_clearWord wsX11_clearWord rX11_clearWord dC dI cy [.ref (h 0), .int p1] (pX11_clearWord cy h t_kind t_exponent t_letters t_lengths t_fed t_at t_rowSize t_steps t_foundMany t_keptMany t_keptLetters t_isFull t_isSaved t_savedKind t_savedExponent t_savedLetters) (fun (u : (Nat → Int32)) => pX11_clearWord cy h t_kind t_exponent t_letters u t_fed t_at t_rowSize t_steps t_foundMany t_keptMany t_keptLetters t_isFull t_isSaved t_savedKind t_savedExponent t_savedLetters) (fun (r : Int32) (u : (Nat → Int32)) => post r u) :=
  ct_ofI (by decide) rfl (Nat.le_of_ble_eq_true rfl) (fun p e s m below meth c A ls C0 hP hD hS hl => wX11_clearWord_0 l h post t_kind t_exponent t_letters t_fed t_at t_rowSize t_steps t_foundMany t_keptMany t_keptLetters t_isFull t_isSaved t_savedKind t_savedExponent t_savedLetters p1 C0 t_lengths hv _ _ _ hP hD hS hl)
theorem mX11_length_1 : (Cond.fieldLink RX11 26 "AbelianPowersModel" "lengths" "[I") ∈ wsX11_length := List.mem_of_getElem? (i := 1) rfl
theorem nX11_length_X11 : ∀ w ∈ wsX110, w ∈ wsX11_length := fun _ h => List.mem_cons_of_mem _ (List.mem_append_right _ h)
theorem zX11_length : yX11_length.cls = RX11 ∧ yX11_length.cls ≠ "java/lang/invoke/MethodHandle" ∧ yX11_length.cls ≠ "java/lang/invoke/VarHandle" ∧ (parseMethodDescriptor yX11_length.desc).map (fun d => d.parameters.length) = some 1 := by decide +kernel
abbrev rX11_length : Room := { frames := 2, cells := 0, slots := 0, locals := 42 }
abbrev pX11_length (cy : Nat → ClassId) (h : Nat → Nat) (t_kind : Int32) (t_exponent : Int32) (t_letters : Int32) (t_lengths : Nat → Int32) (t_fed : Int32) (t_at : Int32) (t_rowSize : Int32) (t_steps : Int32) (t_foundMany : Int32) (t_keptMany : Int32) (t_keptLetters : Int32) (t_isFull : Int32) (t_isSaved : Int32) (t_savedKind : Int32) (t_savedExponent : Int32) (t_savedLetters : Int32) : va_W := [(h 0, .inr (11, [.int t_kind, .int t_exponent, .int t_letters, .ref (h 2), .ref (h 3), .ref (h 1), .ref (h 4), .ref (h 5), .ref (h 6), .int t_fed, .int t_at, .ref (h 7), .int t_rowSize, .int t_steps, .ref (h 8), .int t_foundMany, .ref (h 9), .int t_keptMany, .int t_keptLetters, .ref (h 10), .ref (h 11), .ref (h 12), .ref (h 13), .ref (h 14), .int t_isFull, .ref (h 15), .ref (h 16), .int t_isSaved, .int t_savedKind, .int t_savedExponent, .int t_savedLetters, .ref (h 17), .ref (h 18), .ref (h 19), .ref (h 20), .ref (h 21)])), (h 1, .inl (cy 0, 3, .inl t_lengths))]
def VX11_length (post : Int32 → Prop)  (t_lengths : Nat → Int32) (p1 : Int32)  : Prop := VX11_isWord (fun r_1 => ((r_1 = 0) → post (-1 : Int32)) ∧ (¬ (r_1 = 0) → vp_in p1 3 ∧ (post (t_lengths p1.toNatClampNeg)))) p1
set_option maxHeartbeats 4000000 in
set_option maxRecDepth 100000 in
theorem wX11_length_0 {p : Program} (l : Launch) {e : Env} {s : State} {m : MethodId} {args : Array Value} {below : List Frame} {meth : Method} {c : Code} {dC : Nat → ClassId} {dI : Nat → Nat → Nat} {cy : Nat → ClassId} {A : Nat → Prop} (h : Nat → Nat) (post : Int32 → Prop)   (t_kind : Int32) (t_exponent : Int32) (t_letters : Int32) (t_lengths : Nat → Int32) (t_fed : Int32) (t_at : Int32) (t_rowSize : Int32) (t_steps : Int32) (t_foundMany : Int32) (t_keptMany : Int32) (t_keptLetters : Int32) (t_isFull : Int32) (t_isSaved : Int32) (t_savedKind : Int32) (t_savedExponent : Int32) (t_savedLetters : Int32) (p1 : Int32) (C0 : cx p s m args meth c cX11_length 2 (some .int) wsX11_length RX11 dC dI cy A)  : VX11_length post t_lengths p1  → ∀ (H : Heap) (locs : List Loc) (ls : Array Slot), va_P (dC, dI) vwCl (pX11_length cy h t_kind t_exponent t_letters t_lengths t_fed t_at t_rowSize t_steps t_foundMany t_keptMany t_keptLetters t_isFull t_isSaved t_savedKind t_savedExponent t_savedLetters) H → va_D A (pX11_length cy h t_kind t_exponent t_letters t_lengths t_fed t_at t_rowSize t_steps t_foundMany t_keptMany t_keptLetters t_isFull t_isSaved t_savedKind t_savedExponent t_savedLetters) → va_S A s.heap H locs → lv_has ls 2 [(0, .ref (h 0)), (1, .int p1)] → W p l e rX11_length s m args below meth c H locs 0 0 (MQ below (va_Qi (fun (r : Int32) (_ : Unit) => post r) (fun (_ : Unit) (t : State) => va_P (dC, dI) vwCl (pX11_length cy h t_kind t_exponent t_letters t_lengths t_fed t_at t_rowSize t_steps t_foundMany t_keptMany t_keptLetters t_isFull t_isSaved t_savedKind t_savedExponent t_savedLetters) t.heap) A) args s 0 0 A) (F0 m 0 ls []) := by
  have C1 := C0
  obtain ⟨hx, hb, hr, hml, hown, hts, hlocks, hK, hA⟩ := C1
  intro  hv H locs ls hP hD hS hl
  refine lv_iload_n hx hb dX11_length_0 rfl (lv_at hl 1 rfl) ?_
  refine cb_SI (As := [.int p1]) (rest := []) ⟨hx, hb, hml, hown, hts⟩ (kX11_isWord l dC dI cy (adl []) p1 _ hv) (va_cwS 1 hts gX11_length_X11_isWord rfl rfl rfl zX11_isWord ⟨Nat.le_of_ble_eq_true rfl, Nat.le_of_ble_eq_true rfl⟩) hK hP hD hS hA [] [none, none] rfl rfl rfl (fun _ => rfl) rfl hl.1 rfl (Nat.le_of_ble_eq_true rfl) dX11_length_1 (fun r_1 w_4 H locs hv hP hD hS => ?_)
  have hP : va_P (dC, dI) vwCl (pX11_length cy h t_kind t_exponent t_letters t_lengths t_fed t_at t_rowSize t_steps t_foundMany t_keptMany t_keptLetters t_isFull t_isSaved t_savedKind t_savedExponent t_savedLetters) H := hP
  have hD : va_D A (pX11_length cy h t_kind t_exponent t_letters t_lengths t_fed t_at t_rowSize t_steps t_foundMany t_keptMany t_keptLetters t_isFull t_isSaved t_savedKind t_savedExponent t_savedLetters) := hD
  refine lv_if_eq (tgt := 16) hx hb dX11_length_4 (by decide) (fun c_3 => ?_) (fun c_3 => ?_)
  · have hv := hv.1 c_3
    refine lv_iconst (v := (-1)) hx hb dX11_length_16 (by decide) ?_
    exact W.iret (v := (-1)) hx hb hr (fun t ht hW => ⟨⟨(-1), (), rfl, hv, va_Ph ht hP⟩, hS.F ht⟩) hS.2.2 dX11_length_17
  · have hv := hv.2 c_3
    refine lv_aload_n hx hb dX11_length_7 rfl (lv_at hl 0 rfl) ?_
    refine va_get (D := (dC, dI)) (ci := 11) (v := .ref (h 1)) (C := RX11) (T := TX11) (N := 36) hx hb hts nX11_length_X11 hown hK hP 0 rfl rfl 5 (by decide) (hts _ mX11_length_1) (fun _ h9 => h9) rfl dX11_length_8 ?_
    refine lv_iload_n hx hb dX11_length_11 rfl (lv_at hl 1 rfl) ?_
    have h_2 := hv.1
    have hv := hv.2
    refine va_iald hx hb hK hP 1 0 rfl rfl h_2 dX11_length_12 ?_
    refine lv_goto (tgt := 17) hx hb dX11_length_13 (by decide) ?_
    exact W.iret (v := (t_lengths p1.toNatClampNeg)) hx hb hr (fun t ht hW => ⟨⟨(t_lengths p1.toNatClampNeg), (), rfl, hv, va_Ph ht hP⟩, hS.F ht⟩) hS.2.2 dX11_length_17
theorem kX11_length (l : Launch) (dC : Nat → ClassId) (dI : Nat → Nat → Nat) (cy : Nat → ClassId) (h : Nat → Nat) (t_kind : Int32) (t_exponent : Int32) (t_letters : Int32) (t_lengths : Nat → Int32) (t_fed : Int32) (t_at : Int32) (t_rowSize : Int32) (t_steps : Int32) (t_foundMany : Int32) (t_keptMany : Int32) (t_keptLetters : Int32) (t_isFull : Int32) (t_isSaved : Int32) (t_savedKind : Int32) (t_savedExponent : Int32) (t_savedLetters : Int32) (p1 : Int32) (post : Int32 → Prop) (hv : VX11_length post t_lengths p1 ) : CtI l yX11_length wsX11_length rX11_length dC dI cy [.ref (h 0), .int p1] (pX11_length cy h t_kind t_exponent t_letters t_lengths t_fed t_at t_rowSize t_steps t_foundMany t_keptMany t_keptLetters t_isFull t_isSaved t_savedKind t_savedExponent t_savedLetters) (fun (_ : Unit) => pX11_length cy h t_kind t_exponent t_letters t_lengths t_fed t_at t_rowSize t_steps t_foundMany t_keptMany t_keptLetters t_isFull t_isSaved t_savedKind t_savedExponent t_savedLetters) (fun (r : Int32) (_ : Unit) => post r) :=
  ct_ofI (by decide) rfl (Nat.le_of_ble_eq_true rfl) (fun p e s m below meth c A ls C0 hP hD hS hl => wX11_length_0 l h post t_kind t_exponent t_letters t_lengths t_fed t_at t_rowSize t_steps t_foundMany t_keptMany t_keptLetters t_isFull t_isSaved t_savedKind t_savedExponent t_savedLetters p1 C0  hv _ _ _ hP hD hS hl)
theorem mX11_letter_1 : (Cond.fieldLink RX11 26 "AbelianPowersModel" "lengths" "[I") ∈ wsX11_letter := List.mem_of_getElem? (i := 1) rfl
theorem mX11_letter_2 : (Cond.fieldLink RX11 23 "AbelianPowersModel" "words" "[I") ∈ wsX11_letter := List.mem_of_getElem? (i := 2) rfl
theorem nX11_letter_X11 : ∀ w ∈ wsX110, w ∈ wsX11_letter := fun _ h => List.mem_cons_of_mem _ (List.mem_append_right _ h)
theorem zX11_letter : yX11_letter.cls = RX11 ∧ yX11_letter.cls ≠ "java/lang/invoke/MethodHandle" ∧ yX11_letter.cls ≠ "java/lang/invoke/VarHandle" ∧ (parseMethodDescriptor yX11_letter.desc).map (fun d => d.parameters.length) = some 2 := by decide +kernel
abbrev rX11_letter : Room := { frames := 2, cells := 0, slots := 0, locals := 42 }
abbrev pX11_letter (cy : Nat → ClassId) (h : Nat → Nat) (t_kind : Int32) (t_exponent : Int32) (t_letters : Int32) (t_words : Nat → Int32) (t_lengths : Nat → Int32) (t_fed : Int32) (t_at : Int32) (t_rowSize : Int32) (t_steps : Int32) (t_foundMany : Int32) (t_keptMany : Int32) (t_keptLetters : Int32) (t_isFull : Int32) (t_isSaved : Int32) (t_savedKind : Int32) (t_savedExponent : Int32) (t_savedLetters : Int32) : va_W := [(h 0, .inr (11, [.int t_kind, .int t_exponent, .int t_letters, .ref (h 3), .ref (h 1), .ref (h 2), .ref (h 4), .ref (h 5), .ref (h 6), .int t_fed, .int t_at, .ref (h 7), .int t_rowSize, .int t_steps, .ref (h 8), .int t_foundMany, .ref (h 9), .int t_keptMany, .int t_keptLetters, .ref (h 10), .ref (h 11), .ref (h 12), .ref (h 13), .ref (h 14), .int t_isFull, .ref (h 15), .ref (h 16), .int t_isSaved, .int t_savedKind, .int t_savedExponent, .int t_savedLetters, .ref (h 17), .ref (h 18), .ref (h 19), .ref (h 20), .ref (h 21)])), (h 1, .inl (cy 0, 120, .inl t_words)), (h 2, .inl (cy 0, 3, .inl t_lengths))]
def VX11_letter (post : Int32 → Prop)  (t_words : Nat → Int32) (t_lengths : Nat → Int32) (p1 : Int32) (p2 : Int32)  : Prop := VX11_isWord (fun r_1 => (¬ (r_1 = 0) → vp_in p1 3 ∧ (∀ y_3 : Int32, y_3 = ((t_lengths p1.toNatClampNeg) - 1) → VX11_isIn (fun r_4 => ((r_4 = 0) → post (-2 : Int32)) ∧ (¬ (r_4 = 0) → vp_in (((40 : Int32) * p1) + p2) 120 ∧ (∀ y_5 : Int32, y_5 = (t_words (((40 : Int32) * p1) + p2).toNatClampNeg) → post y_5))) p2 0 y_3)) ∧ ((r_1 = 0) → post (-1 : Int32))) p1
set_option maxHeartbeats 4000000 in
set_option maxRecDepth 100000 in
theorem wX11_letter_0 {p : Program} (l : Launch) {e : Env} {s : State} {m : MethodId} {args : Array Value} {below : List Frame} {meth : Method} {c : Code} {dC : Nat → ClassId} {dI : Nat → Nat → Nat} {cy : Nat → ClassId} {A : Nat → Prop} (h : Nat → Nat) (post : Int32 → Prop)   (t_kind : Int32) (t_exponent : Int32) (t_letters : Int32) (t_words : Nat → Int32) (t_lengths : Nat → Int32) (t_fed : Int32) (t_at : Int32) (t_rowSize : Int32) (t_steps : Int32) (t_foundMany : Int32) (t_keptMany : Int32) (t_keptLetters : Int32) (t_isFull : Int32) (t_isSaved : Int32) (t_savedKind : Int32) (t_savedExponent : Int32) (t_savedLetters : Int32) (p1 : Int32) (p2 : Int32) (C0 : cx p s m args meth c cX11_letter 3 (some .int) wsX11_letter RX11 dC dI cy A)  : VX11_letter post t_words t_lengths p1 p2  → ∀ (H : Heap) (locs : List Loc) (ls : Array Slot), va_P (dC, dI) vwCl (pX11_letter cy h t_kind t_exponent t_letters t_words t_lengths t_fed t_at t_rowSize t_steps t_foundMany t_keptMany t_keptLetters t_isFull t_isSaved t_savedKind t_savedExponent t_savedLetters) H → va_D A (pX11_letter cy h t_kind t_exponent t_letters t_words t_lengths t_fed t_at t_rowSize t_steps t_foundMany t_keptMany t_keptLetters t_isFull t_isSaved t_savedKind t_savedExponent t_savedLetters) → va_S A s.heap H locs → lv_has ls 3 [(0, .ref (h 0)), (1, .int p1), (2, .int p2)] → W p l e rX11_letter s m args below meth c H locs 0 0 (MQ below (va_Qi (fun (r : Int32) (_ : Unit) => post r) (fun (_ : Unit) (t : State) => va_P (dC, dI) vwCl (pX11_letter cy h t_kind t_exponent t_letters t_words t_lengths t_fed t_at t_rowSize t_steps t_foundMany t_keptMany t_keptLetters t_isFull t_isSaved t_savedKind t_savedExponent t_savedLetters) t.heap) A) args s 0 0 A) (F0 m 0 ls []) := by
  have C1 := C0
  obtain ⟨hx, hb, hr, hml, hown, hts, hlocks, hK, hA⟩ := C1
  intro  hv H locs ls hP hD hS hl
  refine lv_iload_n hx hb dX11_letter_0 rfl (lv_at hl 1 rfl) ?_
  refine cb_SI (As := [.int p1]) (rest := []) ⟨hx, hb, hml, hown, hts⟩ (kX11_isWord l dC dI cy (adl []) p1 _ hv) (va_cwS 1 hts gX11_letter_X11_isWord rfl rfl rfl zX11_isWord ⟨Nat.le_of_ble_eq_true rfl, Nat.le_of_ble_eq_true rfl⟩) hK hP hD hS hA [] [none, none, none] rfl rfl rfl (fun _ => rfl) rfl hl.1 rfl (Nat.le_of_ble_eq_true rfl) dX11_letter_1 (fun r_1 w_10 H locs hv hP hD hS => ?_)
  have hP : va_P (dC, dI) vwCl (pX11_letter cy h t_kind t_exponent t_letters t_words t_lengths t_fed t_at t_rowSize t_steps t_foundMany t_keptMany t_keptLetters t_isFull t_isSaved t_savedKind t_savedExponent t_savedLetters) H := hP
  have hD : va_D A (pX11_letter cy h t_kind t_exponent t_letters t_words t_lengths t_fed t_at t_rowSize t_steps t_foundMany t_keptMany t_keptLetters t_isFull t_isSaved t_savedKind t_savedExponent t_savedLetters) := hD
  refine lv_if_ne (tgt := 11) hx hb dX11_letter_4 (by decide) (fun c_9 => ?_) (fun c_9 => ?_)
  · have hv := hv.1 c_9
    refine lv_iload_n hx hb dX11_letter_11 rfl (lv_at hl 2 rfl) ?_
    refine lv_iconst (v := 0) hx hb dX11_letter_12 (by decide) ?_
    refine lv_aload_n hx hb dX11_letter_13 rfl (lv_at hl 0 rfl) ?_
    refine va_get (D := (dC, dI)) (ci := 11) (v := .ref (h 2)) (C := RX11) (T := TX11) (N := 36) hx hb hts nX11_letter_X11 hown hK hP 0 rfl rfl 5 (by decide) (hts _ mX11_letter_1) (fun _ h9 => h9) rfl dX11_letter_14 ?_
    refine lv_iload_n hx hb dX11_letter_17 rfl (lv_at hl 1 rfl) ?_
    have h_2 := hv.1
    have hv := hv.2
    refine va_iald hx hb hK hP 2 0 rfl rfl h_2 dX11_letter_18 ?_
    refine lv_iconst (v := 1) hx hb dX11_letter_19 (by decide) ?_
    refine lv_isub hx hb dX11_letter_20 ?_
    refine lv_topi (fun y_3 ey_3 => ?_)
    have hv := hv y_3 ey_3
    refine cb_SI (As := [.int p2, .int 0, .int y_3]) (rest := []) ⟨hx, hb, hml, hown, hts⟩ (kX11_isIn l dC dI cy (adl []) p2 0 y_3 _ hv) (va_cwS 3 hts gX11_letter_X11_isIn rfl rfl rfl zX11_isIn ⟨Nat.le_of_ble_eq_true rfl, Nat.le_of_ble_eq_true rfl⟩) hK hP hD hS hA [] [none, none, none] rfl rfl rfl (fun _ => rfl) rfl hl.1 rfl (Nat.le_of_ble_eq_true rfl) dX11_letter_21 (fun r_4 w_8 H locs hv hP hD hS => ?_)
    have hP : va_P (dC, dI) vwCl (pX11_letter cy h t_kind t_exponent t_letters t_words t_lengths t_fed t_at t_rowSize t_steps t_foundMany t_keptMany t_keptLetters t_isFull t_isSaved t_savedKind t_savedExponent t_savedLetters) H := hP
    have hD : va_D A (pX11_letter cy h t_kind t_exponent t_letters t_words t_lengths t_fed t_at t_rowSize t_steps t_foundMany t_keptMany t_keptLetters t_isFull t_isSaved t_savedKind t_savedExponent t_savedLetters) := hD
    refine lv_if_eq (tgt := 41) hx hb dX11_letter_24 (by decide) (fun c_7 => ?_) (fun c_7 => ?_)
    · have hv := hv.1 c_7
      refine lv_bipush (v := (-2)) hx hb dX11_letter_41 (by decide) ?_
      exact W.iret (v := (-2)) hx hb hr (fun t ht hW => ⟨⟨(-2), (), rfl, hv, va_Ph ht hP⟩, hS.F ht⟩) hS.2.2 dX11_letter_43
    · have hv := hv.2 c_7
      refine lv_aload_n hx hb dX11_letter_27 rfl (lv_at hl 0 rfl) ?_
      refine va_get (D := (dC, dI)) (ci := 11) (v := .ref (h 1)) (C := RX11) (T := TX11) (N := 36) hx hb hts nX11_letter_X11 hown hK hP 0 rfl rfl 4 (by decide) (hts _ mX11_letter_2) (fun _ h9 => h9) rfl dX11_letter_28 ?_
      refine lv_bipush (v := 40) hx hb dX11_letter_31 (by decide) ?_
      refine lv_iload_n hx hb dX11_letter_33 rfl (lv_at hl 1 rfl) ?_
      refine lv_imul hx hb dX11_letter_34 ?_
      refine lv_iload_n hx hb dX11_letter_35 rfl (lv_at hl 2 rfl) ?_
      refine lv_iadd hx hb dX11_letter_36 ?_
      have h_6 := hv.1
      have hv := hv.2
      refine va_iald hx hb hK hP 1 0 rfl rfl h_6 dX11_letter_37 ?_
      refine lv_topi (fun y_5 ey_5 => ?_)
      have hv := hv y_5 ey_5
      refine lv_goto (tgt := 43) hx hb dX11_letter_38 (by decide) ?_
      exact W.iret (v := y_5) hx hb hr (fun t ht hW => ⟨⟨y_5, (), rfl, hv, va_Ph ht hP⟩, hS.F ht⟩) hS.2.2 dX11_letter_43
  · have hv := hv.2 c_9
    refine lv_iconst (v := (-1)) hx hb dX11_letter_7 (by decide) ?_
    refine lv_goto (tgt := 43) hx hb dX11_letter_8 (by decide) ?_
    exact W.iret (v := (-1)) hx hb hr (fun t ht hW => ⟨⟨(-1), (), rfl, hv, va_Ph ht hP⟩, hS.F ht⟩) hS.2.2 dX11_letter_43
theorem kX11_letter (l : Launch) (dC : Nat → ClassId) (dI : Nat → Nat → Nat) (cy : Nat → ClassId) (h : Nat → Nat) (t_kind : Int32) (t_exponent : Int32) (t_letters : Int32) (t_words : Nat → Int32) (t_lengths : Nat → Int32) (t_fed : Int32) (t_at : Int32) (t_rowSize : Int32) (t_steps : Int32) (t_foundMany : Int32) (t_keptMany : Int32) (t_keptLetters : Int32) (t_isFull : Int32) (t_isSaved : Int32) (t_savedKind : Int32) (t_savedExponent : Int32) (t_savedLetters : Int32) (p1 : Int32) (p2 : Int32) (post : Int32 → Prop) (hv : VX11_letter post t_words t_lengths p1 p2 ) : CtI l yX11_letter wsX11_letter rX11_letter dC dI cy [.ref (h 0), .int p1, .int p2] (pX11_letter cy h t_kind t_exponent t_letters t_words t_lengths t_fed t_at t_rowSize t_steps t_foundMany t_keptMany t_keptLetters t_isFull t_isSaved t_savedKind t_savedExponent t_savedLetters) (fun (_ : Unit) => pX11_letter cy h t_kind t_exponent t_letters t_words t_lengths t_fed t_at t_rowSize t_steps t_foundMany t_keptMany t_keptLetters t_isFull t_isSaved t_savedKind t_savedExponent t_savedLetters) (fun (r : Int32) (_ : Unit) => post r) :=
  ct_ofI (by decide) rfl (Nat.le_of_ble_eq_true rfl) (fun p e s m below meth c A ls C0 hP hD hS hl => wX11_letter_0 l h post t_kind t_exponent t_letters t_words t_lengths t_fed t_at t_rowSize t_steps t_foundMany t_keptMany t_keptLetters t_isFull t_isSaved t_savedKind t_savedExponent t_savedLetters p1 p2 C0  hv _ _ _ hP hD hS hl)
theorem mX11_isBlock_1 : (Cond.fieldLink RX11 26 "AbelianPowersModel" "lengths" "[I") ∈ wsX11_isBlock := List.mem_of_getElem? (i := 1) rfl
theorem nX11_isBlock_X11 : ∀ w ∈ wsX110, w ∈ wsX11_isBlock := fun _ h => List.mem_cons_of_mem _ (List.mem_append_right _ h)
theorem zX11_isBlock : yX11_isBlock.cls = RX11 ∧ yX11_isBlock.cls ≠ "java/lang/invoke/MethodHandle" ∧ yX11_isBlock.cls ≠ "java/lang/invoke/VarHandle" ∧ (parseMethodDescriptor yX11_isBlock.desc).map (fun d => d.parameters.length) = some 3 := by decide +kernel
abbrev rX11_isBlock : Room := { frames := 2, cells := 0, slots := 0, locals := 42 }
abbrev pX11_isBlock (cy : Nat → ClassId) (h : Nat → Nat) (t_kind : Int32) (t_exponent : Int32) (t_letters : Int32) (t_lengths : Nat → Int32) (t_fed : Int32) (t_at : Int32) (t_rowSize : Int32) (t_steps : Int32) (t_foundMany : Int32) (t_keptMany : Int32) (t_keptLetters : Int32) (t_isFull : Int32) (t_isSaved : Int32) (t_savedKind : Int32) (t_savedExponent : Int32) (t_savedLetters : Int32) : va_W := [(h 0, .inr (11, [.int t_kind, .int t_exponent, .int t_letters, .ref (h 2), .ref (h 3), .ref (h 1), .ref (h 4), .ref (h 5), .ref (h 6), .int t_fed, .int t_at, .ref (h 7), .int t_rowSize, .int t_steps, .ref (h 8), .int t_foundMany, .ref (h 9), .int t_keptMany, .int t_keptLetters, .ref (h 10), .ref (h 11), .ref (h 12), .ref (h 13), .ref (h 14), .int t_isFull, .ref (h 15), .ref (h 16), .int t_isSaved, .int t_savedKind, .int t_savedExponent, .int t_savedLetters, .ref (h 17), .ref (h 18), .ref (h 19), .ref (h 20), .ref (h 21)])), (h 1, .inl (cy 0, 3, .inl t_lengths))]
def VX11_isBlock (post : Int32 → Prop)  (t_lengths : Nat → Int32) (p1 : Int32) (p2 : Int32) (p3 : Int32)  : Prop := VX11_isWord (fun r_1 => ((r_1 = 0) → post (0 : Int32)) ∧ (¬ (r_1 = 0) → ((p2 < 0) → post (0 : Int32)) ∧ (¬ (p2 < 0) → ((p3 < 0) → post (0 : Int32)) ∧ (¬ (p3 < 0) → vp_in p1 3 ∧ ((((t_lengths p1.toNatClampNeg) < p2) → post (0 : Int32)) ∧ (¬ ((t_lengths p1.toNatClampNeg) < p2) → vp_in p1 3 ∧ (∀ y_4 : Int32, y_4 = ((t_lengths p1.toNatClampNeg) - p2) → ((y_4 < p3) → post (0 : Int32)) ∧ (¬ (y_4 < p3) → post (1 : Int32))))))))) p1
set_option maxHeartbeats 4000000 in
set_option maxRecDepth 100000 in
theorem wX11_isBlock_0 {p : Program} (l : Launch) {e : Env} {s : State} {m : MethodId} {args : Array Value} {below : List Frame} {meth : Method} {c : Code} {dC : Nat → ClassId} {dI : Nat → Nat → Nat} {cy : Nat → ClassId} {A : Nat → Prop} (h : Nat → Nat) (post : Int32 → Prop)   (t_kind : Int32) (t_exponent : Int32) (t_letters : Int32) (t_lengths : Nat → Int32) (t_fed : Int32) (t_at : Int32) (t_rowSize : Int32) (t_steps : Int32) (t_foundMany : Int32) (t_keptMany : Int32) (t_keptLetters : Int32) (t_isFull : Int32) (t_isSaved : Int32) (t_savedKind : Int32) (t_savedExponent : Int32) (t_savedLetters : Int32) (p1 : Int32) (p2 : Int32) (p3 : Int32) (C0 : cx p s m args meth c cX11_isBlock 4 (some .boolean) wsX11_isBlock RX11 dC dI cy A)  : VX11_isBlock post t_lengths p1 p2 p3  → ∀ (H : Heap) (locs : List Loc) (ls : Array Slot), va_P (dC, dI) vwCl (pX11_isBlock cy h t_kind t_exponent t_letters t_lengths t_fed t_at t_rowSize t_steps t_foundMany t_keptMany t_keptLetters t_isFull t_isSaved t_savedKind t_savedExponent t_savedLetters) H → va_D A (pX11_isBlock cy h t_kind t_exponent t_letters t_lengths t_fed t_at t_rowSize t_steps t_foundMany t_keptMany t_keptLetters t_isFull t_isSaved t_savedKind t_savedExponent t_savedLetters) → va_S A s.heap H locs → lv_has ls 4 [(0, .ref (h 0)), (1, .int p1), (2, .int p2), (3, .int p3)] → W p l e rX11_isBlock s m args below meth c H locs 0 0 (MQ below (va_Qi (fun (r : Int32) (_ : Unit) => post r) (fun (_ : Unit) (t : State) => va_P (dC, dI) vwCl (pX11_isBlock cy h t_kind t_exponent t_letters t_lengths t_fed t_at t_rowSize t_steps t_foundMany t_keptMany t_keptLetters t_isFull t_isSaved t_savedKind t_savedExponent t_savedLetters) t.heap) A) args s 0 0 A) (F0 m 0 ls []) := by
  have C1 := C0
  obtain ⟨hx, hb, hr, hml, hown, hts, hlocks, hK, hA⟩ := C1
  intro  hv H locs ls hP hD hS hl
  refine lv_iload_n hx hb dX11_isBlock_0 rfl (lv_at hl 1 rfl) ?_
  refine cb_SI (As := [.int p1]) (rest := []) ⟨hx, hb, hml, hown, hts⟩ (kX11_isWord l dC dI cy (adl []) p1 _ hv) (va_cwS 1 hts gX11_isBlock_X11_isWord rfl rfl rfl zX11_isWord ⟨Nat.le_of_ble_eq_true rfl, Nat.le_of_ble_eq_true rfl⟩) hK hP hD hS hA [] [none, none] rfl rfl rfl (fun _ => rfl) rfl hl.1 rfl (Nat.le_of_ble_eq_true rfl) dX11_isBlock_1 (fun r_1 w_10 H locs hv hP hD hS => ?_)
  have hP : va_P (dC, dI) vwCl (pX11_isBlock cy h t_kind t_exponent t_letters t_lengths t_fed t_at t_rowSize t_steps t_foundMany t_keptMany t_keptLetters t_isFull t_isSaved t_savedKind t_savedExponent t_savedLetters) H := hP
  have hD : va_D A (pX11_isBlock cy h t_kind t_exponent t_letters t_lengths t_fed t_at t_rowSize t_steps t_foundMany t_keptMany t_keptLetters t_isFull t_isSaved t_savedKind t_savedExponent t_savedLetters) := hD
  refine lv_if_eq (tgt := 41) hx hb dX11_isBlock_4 (by decide) (fun c_9 => ?_) (fun c_9 => ?_)
  · have hv := hv.1 c_9
    refine lv_iconst (v := 0) hx hb dX11_isBlock_41 (by decide) ?_
    exact W.zret (v := 0) hx hb hr rfl (fun t ht hW => ⟨⟨0, (), rfl, hv, va_Ph ht hP⟩, hS.F ht⟩) hS.2.2 dX11_isBlock_42
  · have hv := hv.2 c_9
    refine lv_iload_n hx hb dX11_isBlock_7 rfl (lv_at hl 2 rfl) ?_
    refine lv_if_lt (tgt := 41) hx hb dX11_isBlock_8 (by decide) (fun c_8 => ?_) (fun c_8 => ?_)
    · have hv := hv.1 c_8
      refine lv_iconst (v := 0) hx hb dX11_isBlock_41 (by decide) ?_
      exact W.zret (v := 0) hx hb hr rfl (fun t ht hW => ⟨⟨0, (), rfl, hv, va_Ph ht hP⟩, hS.F ht⟩) hS.2.2 dX11_isBlock_42
    · have hv := hv.2 c_8
      refine lv_iload_n hx hb dX11_isBlock_11 rfl (lv_at hl 3 rfl) ?_
      refine lv_if_lt (tgt := 41) hx hb dX11_isBlock_12 (by decide) (fun c_7 => ?_) (fun c_7 => ?_)
      · have hv := hv.1 c_7
        refine lv_iconst (v := 0) hx hb dX11_isBlock_41 (by decide) ?_
        exact W.zret (v := 0) hx hb hr rfl (fun t ht hW => ⟨⟨0, (), rfl, hv, va_Ph ht hP⟩, hS.F ht⟩) hS.2.2 dX11_isBlock_42
      · have hv := hv.2 c_7
        refine lv_iload_n hx hb dX11_isBlock_15 rfl (lv_at hl 2 rfl) ?_
        refine lv_aload_n hx hb dX11_isBlock_16 rfl (lv_at hl 0 rfl) ?_
        refine va_get (D := (dC, dI)) (ci := 11) (v := .ref (h 1)) (C := RX11) (T := TX11) (N := 36) hx hb hts nX11_isBlock_X11 hown hK hP 0 rfl rfl 5 (by decide) (hts _ mX11_isBlock_1) (fun _ h9 => h9) rfl dX11_isBlock_17 ?_
        refine lv_iload_n hx hb dX11_isBlock_20 rfl (lv_at hl 1 rfl) ?_
        have h_2 := hv.1
        have hv := hv.2
        refine va_iald hx hb hK hP 1 0 rfl rfl h_2 dX11_isBlock_21 ?_
        refine lv_icmp_gt (tgt := 41) hx hb dX11_isBlock_22 (by decide) (fun c_6 => ?_) (fun c_6 => ?_)
        · have hv := hv.1 c_6
          refine lv_iconst (v := 0) hx hb dX11_isBlock_41 (by decide) ?_
          exact W.zret (v := 0) hx hb hr rfl (fun t ht hW => ⟨⟨0, (), rfl, hv, va_Ph ht hP⟩, hS.F ht⟩) hS.2.2 dX11_isBlock_42
        · have hv := hv.2 c_6
          refine lv_iload_n hx hb dX11_isBlock_25 rfl (lv_at hl 3 rfl) ?_
          refine lv_aload_n hx hb dX11_isBlock_26 rfl (lv_at hl 0 rfl) ?_
          refine va_get (D := (dC, dI)) (ci := 11) (v := .ref (h 1)) (C := RX11) (T := TX11) (N := 36) hx hb hts nX11_isBlock_X11 hown hK hP 0 rfl rfl 5 (by decide) (hts _ mX11_isBlock_1) (fun _ h9 => h9) rfl dX11_isBlock_27 ?_
          refine lv_iload_n hx hb dX11_isBlock_30 rfl (lv_at hl 1 rfl) ?_
          have h_3 := hv.1
          have hv := hv.2
          refine va_iald hx hb hK hP 1 0 rfl rfl h_3 dX11_isBlock_31 ?_
          refine lv_iload_n hx hb dX11_isBlock_32 rfl (lv_at hl 2 rfl) ?_
          refine lv_isub hx hb dX11_isBlock_33 ?_
          refine lv_topi (fun y_4 ey_4 => ?_)
          have hv := hv y_4 ey_4
          refine lv_icmp_gt (tgt := 41) hx hb dX11_isBlock_34 (by decide) (fun c_5 => ?_) (fun c_5 => ?_)
          · have hv := hv.1 c_5
            refine lv_iconst (v := 0) hx hb dX11_isBlock_41 (by decide) ?_
            exact W.zret (v := 0) hx hb hr rfl (fun t ht hW => ⟨⟨0, (), rfl, hv, va_Ph ht hP⟩, hS.F ht⟩) hS.2.2 dX11_isBlock_42
          · have hv := hv.2 c_5
            refine lv_iconst (v := 1) hx hb dX11_isBlock_37 (by decide) ?_
            refine lv_goto (tgt := 42) hx hb dX11_isBlock_38 (by decide) ?_
            exact W.zret (v := 1) hx hb hr rfl (fun t ht hW => ⟨⟨1, (), rfl, hv, va_Ph ht hP⟩, hS.F ht⟩) hS.2.2 dX11_isBlock_42
theorem kX11_isBlock (l : Launch) (dC : Nat → ClassId) (dI : Nat → Nat → Nat) (cy : Nat → ClassId) (h : Nat → Nat) (t_kind : Int32) (t_exponent : Int32) (t_letters : Int32) (t_lengths : Nat → Int32) (t_fed : Int32) (t_at : Int32) (t_rowSize : Int32) (t_steps : Int32) (t_foundMany : Int32) (t_keptMany : Int32) (t_keptLetters : Int32) (t_isFull : Int32) (t_isSaved : Int32) (t_savedKind : Int32) (t_savedExponent : Int32) (t_savedLetters : Int32) (p1 : Int32) (p2 : Int32) (p3 : Int32) (post : Int32 → Prop) (hv : VX11_isBlock post t_lengths p1 p2 p3 ) : CtI l yX11_isBlock wsX11_isBlock rX11_isBlock dC dI cy [.ref (h 0), .int p1, .int p2, .int p3] (pX11_isBlock cy h t_kind t_exponent t_letters t_lengths t_fed t_at t_rowSize t_steps t_foundMany t_keptMany t_keptLetters t_isFull t_isSaved t_savedKind t_savedExponent t_savedLetters) (fun (_ : Unit) => pX11_isBlock cy h t_kind t_exponent t_letters t_lengths t_fed t_at t_rowSize t_steps t_foundMany t_keptMany t_keptLetters t_isFull t_isSaved t_savedKind t_savedExponent t_savedLetters) (fun (r : Int32) (_ : Unit) => post r) :=
  ct_ofI (by decide) rfl (Nat.le_of_ble_eq_true rfl) (fun p e s m below meth c A ls C0 hP hD hS hl => wX11_isBlock_0 l h post t_kind t_exponent t_letters t_lengths t_fed t_at t_rowSize t_steps t_foundMany t_keptMany t_keptLetters t_isFull t_isSaved t_savedKind t_savedExponent t_savedLetters p1 p2 p3 C0  hv _ _ _ hP hD hS hl)
