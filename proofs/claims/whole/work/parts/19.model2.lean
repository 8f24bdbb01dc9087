theorem mX11_take_1 : (Cond.fieldLink RX11 26 "AbelianPowersModel" "lengths" "[I") ∈ wsX11_take := List.mem_of_getElem? (i := 1) rfl
theorem mX11_take_2 : (Cond.fieldLink RX11 118 "AbelianPowersModel" "rowSize" "I") ∈ wsX11_take := List.mem_of_getElem? (i := 2) rfl
theorem mX11_take_3 : (Cond.fieldLink RX11 38 "AbelianPowersModel" "row" "[I") ∈ wsX11_take := List.mem_of_getElem? (i := 3) rfl
theorem mX11_take_4 : (Cond.fieldLink RX11 23 "AbelianPowersModel" "words" "[I") ∈ wsX11_take := List.mem_of_getElem? (i := 4) rfl
theorem nX11_take_X11 : ∀ w ∈ wsX110, w ∈ wsX11_take := fun _ h => List.mem_cons_of_mem _ (List.mem_append_right _ h)
theorem zX11_take : yX11_take.cls = RX11 ∧ yX11_take.cls ≠ "java/lang/invoke/MethodHandle" ∧ yX11_take.cls ≠ "java/lang/invoke/VarHandle" ∧ (parseMethodDescriptor yX11_take.desc).map (fun d => d.parameters.length) = some 1 := by decide +kernel
abbrev rX11_take : Room := { frames := 0, cells := 0, slots := 0, locals := 0 }
abbrev pX11_take (cy : Nat → ClassId) (h : Nat → Nat) (t_kind : Int32) (t_exponent : Int32) (t_letters : Int32) (t_words : Nat → Int32) (t_lengths : Nat → Int32) (t_fed : Int32) (t_at : Int32) (t_row : Nat → Int32) (t_rowSize : Int32) (t_steps : Int32) (t_foundMany : Int32) (t_keptMany : Int32) (t_keptLetters : Int32) (t_isFull : Int32) (t_isSaved : Int32) (t_savedKind : Int32) (t_savedExponent : Int32) (t_savedLetters : Int32) : va_W := [(h 0, .inr (11, [.int t_kind, .int t_exponent, .int t_letters, .ref (h 4), .ref (h 1), .ref (h 2), .ref (h 5), .ref (h 6), .ref (h 7), .int t_fed, .int t_at, .ref (h 3), .int t_rowSize, .int t_steps, .ref (h 8), .int t_foundMany, .ref (h 9), .int t_keptMany, .int t_keptLetters, .ref (h 10), .ref (h 11), .ref (h 12), .ref (h 13), .ref (h 14), .int t_isFull, .ref (h 15), .ref (h 16), .int t_isSaved, .int t_savedKind, .int t_savedExponent, .int t_savedLetters, .ref (h 17), .ref (h 18), .ref (h 19), .ref (h 20), .ref (h 21)])), (h 1, .inl (cy 0, 120, .inl t_words)), (h 2, .inl (cy 0, 3, .inl t_lengths)), (h 3, .inl (cy 0, 45, .inl t_row))]
def VX11_take_12 (post : (Nat → Int32) → Int32 → Prop)  (t_words : Nat → Int32) (t_lengths : Nat → Int32) (p1 : Int32) : Nat → (Nat → Int32) → Int32 → Int32 → Prop
  | 0, _, _, _ => False
  | n + 1, t_row, t_rowSize, x2 => ((t_rowSize ≤ x2) → post t_row t_rowSize) ∧ (¬ (t_rowSize ≤ x2) → vp_in (((40 : Int32) * p1) + x2) 120 ∧ (∀ y_3 : Int32, y_3 = (t_words (((40 : Int32) * p1) + x2).toNatClampNeg) → vp_in x2 45 ∧ (VX11_take_12 post t_words t_lengths p1 n (upd t_row x2.toNatClampNeg y_3) t_rowSize (x2 + 1))))
def VX11_take (post : (Nat → Int32) → Int32 → Prop)  (t_words : Nat → Int32) (t_lengths : Nat → Int32) (p1 : Int32) (t_row : Nat → Int32) (t_rowSize : Int32) : Prop := vp_in p1 3 ∧ (∃ n12 : Nat, VX11_take_12 post t_words t_lengths p1 n12 t_row (t_lengths p1.toNatClampNeg) 0)
set_option maxHeartbeats 4000000 in
set_option maxRecDepth 100000 in
theorem wX11_take_12 {p : Program} (l : Launch) {e : Env} {s : State} {m : MethodId} {args : Array Value} {below : List Frame} {meth : Method} {c : Code} {dC : Nat → ClassId} {dI : Nat → Nat → Nat} {cy : Nat → ClassId} {A : Nat → Prop} (h : Nat → Nat) (post : (Nat → Int32) → Int32 → Prop)   (t_kind : Int32) (t_exponent : Int32) (t_letters : Int32) (t_words : Nat → Int32) (t_lengths : Nat → Int32) (t_fed : Int32) (t_at : Int32) (t_steps : Int32) (t_foundMany : Int32) (t_keptMany : Int32) (t_keptLetters : Int32) (t_isFull : Int32) (t_isSaved : Int32) (t_savedKind : Int32) (t_savedExponent : Int32) (t_savedLetters : Int32) (p1 : Int32) (C0 : cx p s m args meth c cX11_take 3 none wsX11_take RX11 dC dI cy A)  : ∀ (n : Nat) (t_row : Nat → Int32) (t_rowSize : Int32) (x2 : Int32), VX11_take_12 post t_words t_lengths p1 n t_row t_rowSize x2 → ∀ (H : Heap) (locs : List Loc) (ls : Array Slot), va_P (dC, dI) vwCl (pX11_take cy h t_kind t_exponent t_letters t_words t_lengths t_fed t_at t_row t_rowSize t_steps t_foundMany t_keptMany t_keptLetters t_isFull t_isSaved t_savedKind t_savedExponent t_savedLetters) H → va_D A (pX11_take cy h t_kind t_exponent t_letters t_words t_lengths t_fed t_at t_row t_rowSize t_steps t_foundMany t_keptMany t_keptLetters t_isFull t_isSaved t_savedKind t_savedExponent t_savedLetters) → va_S A s.heap H locs → lv_has ls 3 [(0, .ref (h 0)), (1, .int p1), (2, .int x2)] → W p l e rX11_take s m args below meth c H locs 0 0 (MQ below (va_Qv (fun (u : (Nat → Int32) × Int32) => post u.1 u.2) (fun (u : (Nat → Int32) × Int32) (t : State) => va_P (dC, dI) vwCl (pX11_take cy h t_kind t_exponent t_letters t_words t_lengths t_fed t_at u.1 u.2 t_steps t_foundMany t_keptMany t_keptLetters t_isFull t_isSaved t_savedKind t_savedExponent t_savedLetters) t.heap) A) args s 0 0 A) (F0 m 12 ls []) := by
  have C1 := C0
  obtain ⟨hx, hb, hr, hml, hown, hts, hlocks, hK, hA⟩ := C1
  intro n
  induction n with
  | zero => intro t_row t_rowSize x2 hv; exact hv.elim
  | succ n ih =>
    intro t_row t_rowSize x2 hv H locs ls hP hD hS hl
    refine lv_iload_n hx hb dX11_take_12 rfl (lv_at hl 2 rfl) ?_
    refine lv_aload_n hx hb dX11_take_13 rfl (lv_at hl 0 rfl) ?_
    refine va_get (D := (dC, dI)) (ci := 11) (v := .int t_rowSize) (C := RX11) (T := TX11) (N := 36) hx hb hts nX11_take_X11 hown hK hP 0 rfl rfl 12 (by decide) (hts _ mX11_take_2) (fun _ h9 => h9) rfl dX11_take_14 ?_
    refine lv_icmp_ge (tgt := 43) hx hb dX11_take_17 (by decide) (fun c_6 => ?_) (fun c_6 => ?_)
    · have hv := hv.1 c_6
      exact W.vret hx hb hr (fun t ht hW => ⟨⟨(t_row, t_rowSize), rfl, hv, va_Ph ht hP⟩, hS.F ht⟩) hS.2.2 dX11_take_43
    · have hv := hv.2 c_6
      refine lv_aload_n hx hb dX11_take_20 rfl (lv_at hl 0 rfl) ?_
      refine va_get (D := (dC, dI)) (ci := 11) (v := .ref (h 3)) (C := RX11) (T := TX11) (N := 36) hx hb hts nX11_take_X11 hown hK hP 0 rfl rfl 11 (by decide) (hts _ mX11_take_3) (fun _ h9 => h9) rfl dX11_take_21 ?_
      refine lv_iload_n hx hb dX11_take_24 rfl (lv_at hl 2 rfl) ?_
      refine lv_aload_n hx hb dX11_take_25 rfl (lv_at hl 0 rfl) ?_
      refine va_get (D := (dC, dI)) (ci := 11) (v := .ref (h 1)) (C := RX11) (T := TX11) (N := 36) hx hb hts nX11_take_X11 hown hK hP 0 rfl rfl 4 (by decide) (hts _ mX11_take_4) (fun _ h9 => h9) rfl dX11_take_26 ?_
      refine lv_bipush (v := 40) hx hb dX11_take_29 (by decide) ?_
      refine lv_iload_n hx hb dX11_take_31 rfl (lv_at hl 1 rfl) ?_
      refine lv_imul hx hb dX11_take_32 ?_
      refine lv_iload_n hx hb dX11_take_33 rfl (lv_at hl 2 rfl) ?_
      refine lv_iadd hx hb dX11_take_34 ?_
      have h_4 := hv.1
      have hv := hv.2
      refine va_iald hx hb hK hP 1 0 rfl rfl h_4 dX11_take_35 ?_
      refine lv_topi (fun y_3 ey_3 => ?_)
      have hv := hv y_3 ey_3
      have h_5 := hv.1
      have hv := hv.2
      refine va_iast hx hb hK hP hD hS 3 0 rfl rfl h_5 dX11_take_36 (fun H locs hP hD hS => ?_)
      have hP : va_P (dC, dI) vwCl (pX11_take cy h t_kind t_exponent t_letters t_words t_lengths t_fed t_at (upd t_row x2.toNatClampNeg y_3) t_rowSize t_steps t_foundMany t_keptMany t_keptLetters t_isFull t_isSaved t_savedKind t_savedExponent t_savedLetters) H := hP
      have hD : va_D A (pX11_take cy h t_kind t_exponent t_letters t_words t_lengths t_fed t_at (upd t_row x2.toNatClampNeg y_3) t_rowSize t_steps t_foundMany t_keptMany t_keptLetters t_isFull t_isSaved t_savedKind t_savedExponent t_savedLetters) := hD
      refine lv_iinc (v := (x2 + 1)) (lv' := [(2, .int ((x2 + 1))), (0, .ref (h 0)), (1, .int p1)]) hx hb dX11_take_37 hl (k := 2) rfl rfl (by decide) rfl (fun ls hl => ?_)
      refine lv_goto (tgt := 12) hx hb dX11_take_40 (by decide) ?_
      exact ih (upd t_row x2.toNatClampNeg y_3) t_rowSize (x2 + 1) hv _ _ _ hP hD hS (lv_sub hl [1, 2, 0] rfl)
set_option maxHeartbeats 4000000 in
set_option maxRecDepth 100000 in
theorem wX11_take_0 {p : Program} (l : Launch) {e : Env} {s : State} {m : MethodId} {args : Array Value} {below : List Frame} {meth : Method} {c : Code} {dC : Nat → ClassId} {dI : Nat → Nat → Nat} {cy : Nat → ClassId} {A : Nat → Prop} (h : Nat → Nat) (post : (Nat → Int32) → Int32 → Prop)   (t_kind : Int32) (t_exponent : Int32) (t_letters : Int32) (t_words : Nat → Int32) (t_lengths : Nat → Int32) (t_fed : Int32) (t_at : Int32) (t_steps : Int32) (t_foundMany : Int32) (t_keptMany : Int32) (t_keptLetters : Int32) (t_isFull : Int32) (t_isSaved : Int32) (t_savedKind : Int32) (t_savedExponent : Int32) (t_savedLetters : Int32) (p1 : Int32) (C0 : cx p s m args meth c cX11_take 3 none wsX11_take RX11 dC dI cy A)  : ∀ (t_row : Nat → Int32) (t_rowSize : Int32), VX11_take post t_words t_lengths p1 t_row t_rowSize → ∀ (H : Heap) (locs : List Loc) (ls : Array Slot), va_P (dC, dI) vwCl (pX11_take cy h t_kind t_exponent t_letters t_words t_lengths t_fed t_at t_row t_rowSize t_steps t_foundMany t_keptMany t_keptLetters t_isFull t_isSaved t_savedKind t_savedExponent t_savedLetters) H → va_D A (pX11_take cy h t_kind t_exponent t_letters t_words t_lengths t_fed t_at t_row t_rowSize t_steps t_foundMany t_keptMany t_keptLetters t_isFull t_isSaved t_savedKind t_savedExponent t_savedLetters) → va_S A s.heap H locs → lv_has ls 3 [(0, .ref (h 0)), (1, .int p1)] → W p l e rX11_take s m args below meth c H locs 0 0 (MQ below (va_Qv (fun (u : (Nat → Int32) × Int32) => post u.1 u.2) (fun (u : (Nat → Int32) × Int32) (t : State) => va_P (dC, dI) vwCl (pX11_take cy h t_kind t_exponent t_letters t_words t_lengths t_fed t_at u.1 u.2 t_steps t_foundMany t_keptMany t_keptLetters t_isFull t_isSaved t_savedKind t_savedExponent t_savedLetters) t.heap) A) args s 0 0 A) (F0 m 0 ls []) := by
  have C1 := C0
  obtain ⟨hx, hb, hr, hml, hown, hts, hlocks, hK, hA⟩ := C1
  intro t_row t_rowSize hv H locs ls hP hD hS hl
  refine lv_aload_n hx hb dX11_take_0 rfl (lv_at hl 0 rfl) ?_
  refine lv_aload_n hx hb dX11_take_1 rfl (lv_at hl 0 rfl) ?_
  refine va_get (D := (dC, dI)) (ci := 11) (v := .ref (h 2)) (C := RX11) (T := TX11) (N := 36) hx hb hts nX11_take_X11 hown hK hP 0 rfl rfl 5 (by decide) (hts _ mX11_take_1) (fun _ h9 => h9) rfl dX11_take_2 ?_
  refine lv_iload_n hx hb dX11_take_5 rfl (lv_at hl 1 rfl) ?_
  have h_1 := hv.1
  have hv := hv.2
  refine va_iald hx hb hK hP 2 0 rfl rfl h_1 dX11_take_6 ?_
  refine va_put (D := (dC, dI)) (ci := 11) (v := .int (t_lengths p1.toNatClampNeg)) (ty := .int) (C := RX11) (T := TX11) (N := 36) hx hb hts nX11_take_X11 tyX11 tyX11_ok nmX11 hown hK hP hD hS 0 rfl rfl 12 (by decide) (hts _ mX11_take_2) (fun _ h9 => h9) rfl (by decide +kernel) rfl rfl (Nat.le_of_ble_eq_true rfl) dX11_take_7 (fun H locs hP hD hS => ?_)
  have hP : va_P (dC, dI) vwCl (pX11_take cy h t_kind t_exponent t_letters t_words t_lengths t_fed t_at t_row (t_lengths p1.toNatClampNeg) t_steps t_foundMany t_keptMany t_keptLetters t_isFull t_isSaved t_savedKind t_savedExponent t_savedLetters) H := hP
  have hD : va_D A (pX11_take cy h t_kind t_exponent t_letters t_words t_lengths t_fed t_at t_row (t_lengths p1.toNatClampNeg) t_steps t_foundMany t_keptMany t_keptLetters t_isFull t_isSaved t_savedKind t_savedExponent t_savedLetters) := hD
  refine lv_iconst (v := 0) hx hb dX11_take_10 (by decide) ?_
  refine lv_istore_n (lv' := [(2, .int 0), (0, .ref (h 0)), (1, .int p1)]) hx hb dX11_take_11 rfl hl (by decide) rfl (fun ls hl => ?_)
  obtain ⟨n_2, hv⟩ := hv
  exact wX11_take_12 l h post  t_kind t_exponent t_letters t_words t_lengths t_fed t_at t_steps t_foundMany t_keptMany t_keptLetters t_isFull t_isSaved t_savedKind t_savedExponent t_savedLetters p1 C0 n_2 t_row (t_lengths p1.toNatClampNeg) 0 hv _ _ _ hP hD hS (lv_sub hl [1, 2, 0] rfl)
theorem kX11_take (l : Launch) (dC : Nat → ClassId) (dI : Nat → Nat → Nat) (cy : Nat → ClassId) (h : Nat → Nat) (t_kind : Int32) (t_exponent : Int32) (t_letters : Int32) (t_words : Nat → Int32) (t_lengths : Nat → Int32) (t_fed : Int32) (t_at : Int32) (t_row : Nat → Int32) (t_rowSize : Int32) (t_steps : Int32) (t_foundMany : Int32) (t_keptMany : Int32) (t_keptLetters : Int32) (t_isFull : Int32) (t_isSaved : Int32) (t_savedKind : Int32) (t_savedExponent : Int32) (t_savedLetters : Int32) (p1 : Int32) (post : (Nat → Int32) → Int32 → Prop) (hv : VX11_take post t_words t_lengths p1 t_row t_rowSize) : CtV l yX11_take wsX11_take rX11_take dC dI cy [.ref (h 0), .int p1] (pX11_take cy h t_kind t_exponent t_letters t_words t_lengths t_fed t_at t_row t_rowSize t_steps t_foundMany t_keptMany t_keptLetters t_isFull t_isSaved t_savedKind t_savedExponent t_savedLetters) (fun (u : (Nat → Int32) × Int32) => pX11_take cy h t_kind t_exponent t_letters t_words t_lengths t_fed t_at u.1 u.2 t_steps t_foundMany t_keptMany t_keptLetters t_isFull t_isSaved t_savedKind t_savedExponent t_savedLetters) (fun (u : (Nat → Int32) × Int32) => post u.1 u.2) :=
  ct_ofV (by decide) rfl (Nat.le_of_ble_eq_true rfl) (fun p e s m below meth c A ls C0 hP hD hS hl => wX11_take_0 l h post t_kind t_exponent t_letters t_words t_lengths t_fed t_at t_steps t_foundMany t_keptMany t_keptLetters t_isFull t_isSaved t_savedKind t_savedExponent t_savedLetters p1 C0 t_row t_rowSize hv _ _ _ hP hD hS hl)
theorem mX11_count_1 : (Cond.fieldLink RX11 38 "AbelianPowersModel" "row" "[I") ∈ wsX11_count := List.mem_of_getElem? (i := 1) rfl
theorem nX11_count_X11 : ∀ w ∈ wsX110, w ∈ wsX11_count := fun _ h => List.mem_cons_of_mem _ (List.mem_append_right _ h)
theorem zX11_count : yX11_count.cls = RX11 ∧ yX11_count.cls ≠ "java/lang/invoke/MethodHandle" ∧ yX11_count.cls ≠ "java/lang/invoke/VarHandle" ∧ (parseMethodDescriptor yX11_count.desc).map (fun d => d.parameters.length) = some 3 := by decide +kernel
abbrev rX11_count : Room := { frames := 0, cells := 0, slots := 0, locals := 0 }
abbrev pX11_count (cy : Nat → ClassId) (h : Nat → Nat) (t_kind : Int32) (t_exponent : Int32) (t_letters : Int32) (t_fed : Int32) (t_at : Int32) (t_row : Nat → Int32) (t_rowSize : Int32) (t_steps : Int32) (t_foundMany : Int32) (t_keptMany : Int32) (t_keptLetters : Int32) (t_isFull : Int32) (t_isSaved : Int32) (t_savedKind : Int32) (t_savedExponent : Int32) (t_savedLetters : Int32) : va_W := [(h 0, .inr (11, [.int t_kind, .int t_exponent, .int t_letters, .ref (h 2), .ref (h 3), .ref (h 4), .ref (h 5), .ref (h 6), .ref (h 7), .int t_fed, .int t_at, .ref (h 1), .int t_rowSize, .int t_steps, .ref (h 8), .int t_foundMany, .ref (h 9), .int t_keptMany, .int t_keptLetters, .ref (h 10), .ref (h 11), .ref (h 12), .ref (h 13), .ref (h 14), .int t_isFull, .ref (h 15), .ref (h 16), .int t_isSaved, .int t_savedKind, .int t_savedExponent, .int t_savedLetters, .ref (h 17), .ref (h 18), .ref (h 19), .ref (h 20), .ref (h 21)])), (h 1, .inl (cy 0, 45, .inl t_row))]
def VX11_count_6 (post : Int32 → Prop)  (t_row : Nat → Int32) (p1 : Int32) (p2 : Int32) (p3 : Int32) : Nat → Int32 → Int32 → Prop
  | 0, _, _ => False
  | n + 1, x4, x5 => (((p1 + p2) ≤ x5) → post x4) ∧ (¬ ((p1 + p2) ≤ x5) → vp_in x5 45 ∧ ((¬ ((t_row x5.toNatClampNeg) = p3) → VX11_count_6 post t_row p1 p2 p3 n (x4 + 0) (x5 + 1)) ∧ (((t_row x5.toNatClampNeg) = p3) → VX11_count_6 post t_row p1 p2 p3 n (x4 + 1) (x5 + 1))))
def VX11_count (post : Int32 → Prop)  (t_row : Nat → Int32) (p1 : Int32) (p2 : Int32) (p3 : Int32)  : Prop := ∃ n6 : Nat, VX11_count_6 post t_row p1 p2 p3 n6 0 p1
set_option maxHeartbeats 4000000 in
set_option maxRecDepth 100000 in
theorem wX11_count_6 {p : Program} (l : Launch) {e : Env} {s : State} {m : MethodId} {args : Array Value} {below : List Frame} {meth : Method} {c : Code} {dC : Nat → ClassId} {dI : Nat → Nat → Nat} {cy : Nat → ClassId} {A : Nat → Prop} (h : Nat → Nat) (post : Int32 → Prop)   (t_kind : Int32) (t_exponent : Int32) (t_letters : Int32) (t_fed : Int32) (t_at : Int32) (t_row : Nat → Int32) (t_rowSize : Int32) (t_steps : Int32) (t_foundMany : Int32) (t_keptMany : Int32) (t_keptLetters : Int32) (t_isFull : Int32) (t_isSaved : Int32) (t_savedKind : Int32) (t_savedExponent : Int32) (t_savedLetters : Int32) (p1 : Int32) (p2 : Int32) (p3 : Int32) (C0 : cx p s m args meth c cX11_count 6 (some .int) wsX11_count RX11 dC dI cy A)  : ∀ (n : Nat) (x4 : Int32) (x5 : Int32), VX11_count_6 post t_row p1 p2 p3 n x4 x5 → ∀ (H : Heap) (locs : List Loc) (ls : Array Slot), va_P (dC, dI) vwCl (pX11_count cy h t_kind t_exponent t_letters t_fed t_at t_row t_rowSize t_steps t_foundMany t_keptMany t_keptLetters t_isFull t_isSaved t_savedKind t_savedExponent t_savedLetters) H → va_D A (pX11_count cy h t_kind t_exponent t_letters t_fed t_at t_row t_rowSize t_steps t_foundMany t_keptMany t_keptLetters t_isFull t_isSaved t_savedKind t_savedExponent t_savedLetters) → va_S A s.heap H locs → lv_has ls 6 [(0, .ref (h 0)), (1, .int p1), (2, .int p2), (3, .int p3), (4, .int x4), (5, .int x5)] → W p l e rX11_count s m args below meth c H locs 0 0 (MQ below (va_Qi (fun (r : Int32) (_ : Unit) => post r) (fun (_ : Unit) (t : State) => va_P (dC, dI) vwCl (pX11_count cy h t_kind t_exponent t_letters t_fed t_at t_row t_rowSize t_steps t_foundMany t_keptMany t_keptLetters t_isFull t_isSaved t_savedKind t_savedExponent t_savedLetters) t.heap) A) args s 0 0 A) (F0 m 6 ls []) := by
  have C1 := C0
  obtain ⟨hx, hb, hr, hml, hown, hts, hlocks, hK, hA⟩ := C1
  intro n
  induction n with
  | zero => intro x4 x5 hv; exact hv.elim
  | succ n ih =>
    intro x4 x5 hv H locs ls hP hD hS hl
    refine lv_iload hx hb dX11_count_6 (lv_at hl 5 rfl) ?_
    refine lv_iload_n hx hb dX11_count_8 rfl (lv_at hl 1 rfl) ?_
    refine lv_iload_n hx hb dX11_count_9 rfl (lv_at hl 2 rfl) ?_
    refine lv_iadd hx hb dX11_count_10 ?_
    refine lv_icmp_ge (tgt := 41) hx hb dX11_count_11 (by decide) (fun c_4 => ?_) (fun c_4 => ?_)
    · have hv := hv.1 c_4
      refine lv_iload hx hb dX11_count_41 (lv_at hl 4 rfl) ?_
      exact W.iret (v := x4) hx hb hr (fun t ht hW => ⟨⟨x4, (), rfl, hv, va_Ph ht hP⟩, hS.F ht⟩) hS.2.2 dX11_count_43
    · have hv := hv.2 c_4
      refine lv_iload hx hb dX11_count_14 (lv_at hl 4 rfl) ?_
      refine lv_aload_n hx hb dX11_count_16 rfl (lv_at hl 0 rfl) ?_
      refine va_get (D := (dC, dI)) (ci := 11) (v := .ref (h 1)) (C := RX11) (T := TX11) (N := 36) hx hb hts nX11_count_X11 hown hK hP 0 rfl rfl 11 (by decide) (hts _ mX11_count_1) (fun _ h9 => h9) rfl dX11_count_17 ?_
      refine lv_iload hx hb dX11_count_20 (lv_at hl 5 rfl) ?_
      have h_2 := hv.1
      have hv := hv.2
      refine va_iald hx hb hK hP 1 0 rfl rfl h_2 dX11_count_22 ?_
      refine lv_iload_n hx hb dX11_count_23 rfl (lv_at hl 3 rfl) ?_
      refine lv_icmp_ne (tgt := 31) hx hb dX11_count_24 (by decide) (fun c_3 => ?_) (fun c_3 => ?_)
      · have hv := hv.1 c_3
        refine lv_iconst (v := 0) hx hb dX11_count_31 (by decide) ?_
        refine lv_iadd hx hb dX11_count_32 ?_
        refine lv_istore (lv' := [(4, .int ((x4 + 0))), (0, .ref (h 0)), (1, .int p1), (2, .int p2), (3, .int p3), (5, .int x5)]) hx hb dX11_count_33 hl (by decide) rfl (fun ls hl => ?_)
        refine lv_iinc (v := (x5 + 1)) (lv' := [(5, .int ((x5 + 1))), (4, .int ((x4 + 0))), (0, .ref (h 0)), (1, .int p1), (2, .int p2), (3, .int p3)]) hx hb dX11_count_35 hl (k := 5) rfl rfl (by decide) rfl (fun ls hl => ?_)
        refine lv_goto (tgt := 6) hx hb dX11_count_38 (by decide) ?_
        exact ih (x4 + 0) (x5 + 1) hv _ _ _ hP hD hS (lv_sub hl [2, 3, 4, 5, 1, 0] rfl)
      · have hv := hv.2 c_3
        refine lv_iconst (v := 1) hx hb dX11_count_27 (by decide) ?_
        refine lv_goto (tgt := 32) hx hb dX11_count_28 (by decide) ?_
        refine lv_iadd hx hb dX11_count_32 ?_
        refine lv_istore (lv' := [(4, .int ((x4 + 1))), (0, .ref (h 0)), (1, .int p1), (2, .int p2), (3, .int p3), (5, .int x5)]) hx hb dX11_count_33 hl (by decide) rfl (fun ls hl => ?_)
        refine lv_iinc (v := (x5 + 1)) (lv' := [(5, .int ((x5 + 1))), (4, .int ((x4 + 1))), (0, .ref (h 0)), (1, .int p1), (2, .int p2), (3, .int p3)]) hx hb dX11_count_35 hl (k := 5) rfl rfl (by decide) rfl (fun ls hl => ?_)
        refine lv_goto (tgt := 6) hx hb dX11_count_38 (by decide) ?_
        exact ih (x4 + 1) (x5 + 1) hv _ _ _ hP hD hS (lv_sub hl [2, 3, 4, 5, 1, 0] rfl)
set_option maxHeartbeats 4000000 in
set_option maxRecDepth 100000 in
theorem wX11_count_0 {p : Program} (l : Launch) {e : Env} {s : State} {m : MethodId} {args : Array Value} {below : List Frame} {meth : Method} {c : Code} {dC : Nat → ClassId} {dI : Nat → Nat → Nat} {cy : Nat → ClassId} {A : Nat → Prop} (h : Nat → Nat) (post : Int32 → Prop)   (t_kind : Int32) (t_exponent : Int32) (t_letters : Int32) (t_fed : Int32) (t_at : Int32) (t_row : Nat → Int32) (t_rowSize : Int32) (t_steps : Int32) (t_foundMany : Int32) (t_keptMany : Int32) (t_keptLetters : Int32) (t_isFull : Int32) (t_isSaved : Int32) (t_savedKind : Int32) (t_savedExponent : Int32) (t_savedLetters : Int32) (p1 : Int32) (p2 : Int32) (p3 : Int32) (C0 : cx p s m args meth c cX11_count 6 (some .int) wsX11_count RX11 dC dI cy A)  : VX11_count post t_row p1 p2 p3  → ∀ (H : Heap) (locs : List Loc) (ls : Array Slot), va_P (dC, dI) vwCl (pX11_count cy h t_kind t_exponent t_letters t_fed t_at t_row t_rowSize t_steps t_foundMany t_keptMany t_keptLetters t_isFull t_isSaved t_savedKind t_savedExponent t_savedLetters) H → va_D A (pX11_count cy h t_kind t_exponent t_letters t_fed t_at t_row t_rowSize t_steps t_foundMany t_keptMany t_keptLetters t_isFull t_isSaved t_savedKind t_savedExponent t_savedLetters) → va_S A s.heap H locs → lv_has ls 6 [(0, .ref (h 0)), (1, .int p1), (2, .int p2), (3, .int p3)] → W p l e rX11_count s m args below meth c H locs 0 0 (MQ below (va_Qi (fun (r : Int32) (_ : Unit) => post r) (fun (_ : Unit) (t : State) => va_P (dC, dI) vwCl (pX11_count cy h t_kind t_exponent t_letters t_fed t_at t_row t_rowSize t_steps t_foundMany t_keptMany t_keptLetters t_isFull t_isSaved t_savedKind t_savedExponent t_savedLetters) t.heap) A) args s 0 0 A) (F0 m 0 ls []) := by
  have C1 := C0
  obtain ⟨hx, hb, hr, hml, hown, hts, hlocks, hK, hA⟩ := C1
  intro  hv H locs ls hP hD hS hl
  refine lv_iconst (v := 0) hx hb dX11_count_0 (by decide) ?_
  refine lv_istore (lv' := [(4, .int 0), (0, .ref (h 0)), (1, .int p1), (2, .int p2), (3, .int p3)]) hx hb dX11_count_1 hl (by decide) rfl (fun ls hl => ?_)
  refine lv_iload_n hx hb dX11_count_3 rfl (lv_at hl 2 rfl) ?_
  refine lv_istore (lv' := [(5, .int p1), (4, .int 0), (0, .ref (h 0)), (1, .int p1), (2, .int p2), (3, .int p3)]) hx hb dX11_count_4 hl (by decide) rfl (fun ls hl => ?_)
  obtain ⟨n_1, hv⟩ := hv
  exact wX11_count_6 l h post  t_kind t_exponent t_letters t_fed t_at t_row t_rowSize t_steps t_foundMany t_keptMany t_keptLetters t_isFull t_isSaved t_savedKind t_savedExponent t_savedLetters p1 p2 p3 C0 n_1 0 p1 hv _ _ _ hP hD hS (lv_sub hl [2, 3, 4, 5, 1, 0] rfl)
theorem kX11_count (l : Launch) (dC : Nat → ClassId) (dI : Nat → Nat → Nat) (cy : Nat → ClassId) (h : Nat → Nat) (t_kind : Int32) (t_exponent : Int32) (t_letters : Int32) (t_fed : Int32) (t_at : Int32) (t_row : Nat → Int32) (t_rowSize : Int32) (t_steps : Int32) (t_foundMany : Int32) (t_keptMany : Int32) (t_keptLetters : Int32) (t_isFull : Int32) (t_isSaved : Int32) (t_savedKind : Int32) (t_savedExponent : Int32) (t_savedLetters : Int32) (p1 : Int32) (p2 : Int32) (p3 : Int32) (post : Int32 → Prop) (hv : VX11_count post t_row p1 p2 p3 ) : CtI l yX11_count wsX11_count rX11_count dC dI cy [.ref (h 0), .int p1, .int p2, .int p3] (pX11_count cy h t_kind t_exponent t_letters t_fed t_at t_row t_rowSize t_steps t_foundMany t_keptMany t_keptLetters t_isFull t_isSaved t_savedKind t_savedExponent t_savedLetters) (fun (_ : Unit) => pX11_count cy h t_kind t_exponent t_letters t_fed t_at t_row t_rowSize t_steps t_foundMany t_keptMany t_keptLetters t_isFull t_isSaved t_savedKind t_savedExponent t_savedLetters) (fun (r : Int32) (_ : Unit) => post r) :=
  ct_ofI (by decide) rfl (Nat.le_of_ble_eq_true rfl) (fun p e s m below meth c A ls C0 hP hD hS hl => wX11_count_0 l h post t_kind t_exponent t_letters t_fed t_at t_row t_rowSize t_steps t_foundMany t_keptMany t_keptLetters t_isFull t_isSaved t_savedKind t_savedExponent t_savedLetters p1 p2 p3 C0  hv _ _ _ hP hD hS hl)
theorem mX11_countPairs_1 : (Cond.fieldLink RX11 38 "AbelianPowersModel" "row" "[I") ∈ wsX11_countPairs := List.mem_of_getElem? (i := 1) rfl
theorem nX11_countPairs_X11 : ∀ w ∈ wsX110, w ∈ wsX11_countPairs := fun _ h => List.mem_cons_of_mem _ (List.mem_append_right _ h)
theorem zX11_countPairs : yX11_countPairs.cls = RX11 ∧ yX11_countPairs.cls ≠ "java/lang/invoke/MethodHandle" ∧ yX11_countPairs.cls ≠ "java/lang/invoke/VarHandle" ∧ (parseMethodDescriptor yX11_countPairs.desc).map (fun d => d.parameters.length) = some 4 := by decide +kernel
abbrev rX11_countPairs : Room := { frames := 0, cells := 0, slots := 0, locals := 0 }
abbrev pX11_countPairs (cy : Nat → ClassId) (h : Nat → Nat) (t_kind : Int32) (t_exponent : Int32) (t_letters : Int32) (t_fed : Int32) (t_at : Int32) (t_row : Nat → Int32) (t_rowSize : Int32) (t_steps : Int32) (t_foundMany : Int32) (t_keptMany : Int32) (t_keptLetters : Int32) (t_isFull : Int32) (t_isSaved : Int32) (t_savedKind : Int32) (t_savedExponent : Int32) (t_savedLetters : Int32) : va_W := [(h 0, .inr (11, [.int t_kind, .int t_exponent, .int t_letters, .ref (h 2), .ref (h 3), .ref (h 4), .ref (h 5), .ref (h 6), .ref (h 7), .int t_fed, .int t_at, .ref (h 1), .int t_rowSize, .int t_steps, .ref (h 8), .int t_foundMany, .ref (h 9), .int t_keptMany, .int t_keptLetters, .ref (h 10), .ref (h 11), .ref (h 12), .ref (h 13), .ref (h 14), .int t_isFull, .ref (h 15), .ref (h 16), .int t_isSaved, .int t_savedKind, .int t_savedExponent, .int t_savedLetters, .ref (h 17), .ref (h 18), .ref (h 19), .ref (h 20), .ref (h 21)])), (h 1, .inl (cy 0, 45, .inl t_row))]
def VX11_countPairs_6 (post : Int32 → Prop)  (t_row : Nat → Int32) (p1 : Int32) (p2 : Int32) (p3 : Int32) (p4 : Int32) : Nat → Int32 → Int32 → Prop
  | 0, _, _ => False
  | n + 1, x5, x6 => (((p1 + p2) ≤ (x6 + 1)) → post x5) ∧ (¬ ((p1 + p2) ≤ (x6 + 1)) → vp_in x6 45 ∧ ((¬ ((t_row x6.toNatClampNeg) = p3) → VX11_countPairs_6 post t_row p1 p2 p3 p4 n (x5 + 0) (x6 + 1)) ∧ (((t_row x6.toNatClampNeg) = p3) → vp_in (x6 + 1) 45 ∧ (∀ y_3 : Int32, y_3 = (t_row (x6 + 1).toNatClampNeg) → (¬ (y_3 = p4) → VX11_countPairs_6 post t_row p1 p2 p3 p4 n (x5 + 0) (x6 + 1)) ∧ ((y_3 = p4) → VX11_countPairs_6 post t_row p1 p2 p3 p4 n (x5 + 1) (x6 + 1))))))
def VX11_countPairs (post : Int32 → Prop)  (t_row : Nat → Int32) (p1 : Int32) (p2 : Int32) (p3 : Int32) (p4 : Int32)  : Prop := ∃ n6 : Nat, VX11_countPairs_6 post t_row p1 p2 p3 p4 n6 0 p1
set_option maxHeartbeats 4000000 in
set_option maxRecDepth 100000 in
theorem wX11_countPairs_6 {p : Program} (l : Launch) {e : Env} {s : State} {m : MethodId} {args : Array Value} {below : List Frame} {meth : Method} {c : Code} {dC : Nat → ClassId} {dI : Nat → Nat → Nat} {cy : Nat → ClassId} {A : Nat → Prop} (h : Nat → Nat) (post : Int32 → Prop)   (t_kind : Int32) (t_exponent : Int32) (t_letters : Int32) (t_fed : Int32) (t_at : Int32) (t_row : Nat → Int32) (t_rowSize : Int32) (t_steps : Int32) (t_foundMany : Int32) (t_keptMany : Int32) (t_keptLetters : Int32) (t_isFull : Int32) (t_isSaved : Int32) (t_savedKind : Int32) (t_savedExponent : Int32) (t_savedLetters : Int32) (p1 : Int32) (p2 : Int32) (p3 : Int32) (p4 : Int32) (C0 : cx p s m args meth c cX11_countPairs 7 (some .int) wsX11_countPairs RX11 dC dI cy A)  : ∀ (n : Nat) (x5 : Int32) (x6 : Int32), VX11_countPairs_6 post t_row p1 p2 p3 p4 n x5 x6 → ∀ (H : Heap) (locs : List Loc) (ls : Array Slot), va_P (dC, dI) vwCl (pX11_countPairs cy h t_kind t_exponent t_letters t_fed t_at t_row t_rowSize t_steps t_foundMany t_keptMany t_keptLetters t_isFull t_isSaved t_savedKind t_savedExponent t_savedLetters) H → va_D A (pX11_countPairs cy h t_kind t_exponent t_letters t_fed t_at t_row t_rowSize t_steps t_foundMany t_keptMany t_keptLetters t_isFull t_isSaved t_savedKind t_savedExponent t_savedLetters) → va_S A s.heap H locs → lv_has ls 7 [(0, .ref (h 0)), (1, .int p1), (2, .int p2), (3, .int p3), (4, .int p4), (5, .int x5), (6, .int x6)] → W p l e rX11_countPairs s m args below meth c H locs 0 0 (MQ below (va_Qi (fun (r : Int32) (_ : Unit) => post r) (fun (_ : Unit) (t : State) => va_P (dC, dI) vwCl (pX11_countPairs cy h t_kind t_exponent t_letters t_fed t_at t_row t_rowSize t_steps t_foundMany t_keptMany t_keptLetters t_isFull t_isSaved t_savedKind t_savedExponent t_savedLetters) t.heap) A) args s 0 0 A) (F0 m 6 ls []) := by
  have C1 := C0
  obtain ⟨hx, hb, hr, hml, hown, hts, hlocks, hK, hA⟩ := C1
  intro n
  induction n with
  | zero => intro x5 x6 hv; exact hv.elim
  | succ n ih =>
    intro x5 x6 hv H locs ls hP hD hS hl
    refine lv_iload hx hb dX11_countPairs_6 (lv_at hl 6 rfl) ?_
    refine lv_iconst (v := 1) hx hb dX11_countPairs_8 (by decide) ?_
    refine lv_iadd hx hb dX11_countPairs_9 ?_
    refine lv_iload_n hx hb dX11_countPairs_10 rfl (lv_at hl 1 rfl) ?_
    refine lv_iload_n hx hb dX11_countPairs_11 rfl (lv_at hl 2 rfl) ?_
    refine lv_iadd hx hb dX11_countPairs_12 ?_
    refine lv_icmp_ge (tgt := 57) hx hb dX11_countPairs_13 (by decide) (fun c_7 => ?_) (fun c_7 => ?_)
    · have hv := hv.1 c_7
      refine lv_iload hx hb dX11_countPairs_57 (lv_at hl 5 rfl) ?_
      exact W.iret (v := x5) hx hb hr (fun t ht hW => ⟨⟨x5, (), rfl, hv, va_Ph ht hP⟩, hS.F ht⟩) hS.2.2 dX11_countPairs_59
    · have hv := hv.2 c_7
      refine lv_iload hx hb dX11_countPairs_16 (lv_at hl 5 rfl) ?_
      refine lv_aload_n hx hb dX11_countPairs_18 rfl (lv_at hl 0 rfl) ?_
      refine va_get (D := (dC, dI)) (ci := 11) (v := .ref (h 1)) (C := RX11) (T := TX11) (N := 36) hx hb hts nX11_countPairs_X11 hown hK hP 0 rfl rfl 11 (by decide) (hts _ mX11_countPairs_1) (fun _ h9 => h9) rfl dX11_countPairs_19 ?_
      refine lv_iload hx hb dX11_countPairs_22 (lv_at hl 6 rfl) ?_
      have h_2 := hv.1
      have hv := hv.2
      refine va_iald hx hb hK hP 1 0 rfl rfl h_2 dX11_countPairs_24 ?_
      refine lv_iload_n hx hb dX11_countPairs_25 rfl (lv_at hl 3 rfl) ?_
      refine lv_icmp_ne (tgt := 47) hx hb dX11_countPairs_26 (by decide) (fun c_6 => ?_) (fun c_6 => ?_)
      · have hv := hv.1 c_6
        refine lv_iconst (v := 0) hx hb dX11_countPairs_47 (by decide) ?_
        refine lv_iadd hx hb dX11_countPairs_48 ?_
        refine lv_istore (lv' := [(5, .int ((x5 + 0))), (0, .ref (h 0)), (1, .int p1), (2, .int p2), (3, .int p3), (4, .int p4), (6, .int x6)]) hx hb dX11_countPairs_49 hl (by decide) rfl (fun ls hl => ?_)
        refine lv_iinc (v := (x6 + 1)) (lv' := [(6, .int ((x6 + 1))), (5, .int ((x5 + 0))), (0, .ref (h 0)), (1, .int p1), (2, .int p2), (3, .int p3), (4, .int p4)]) hx hb dX11_countPairs_51 hl (k := 6) rfl rfl (by decide) rfl (fun ls hl => ?_)
        refine lv_goto (tgt := 6) hx hb dX11_countPairs_54 (by decide) ?_
        exact ih (x5 + 0) (x6 + 1) hv _ _ _ hP hD hS (lv_sub hl [2, 3, 4, 5, 6, 1, 0] rfl)
      · have hv := hv.2 c_6
        refine lv_aload_n hx hb dX11_countPairs_29 rfl (lv_at hl 0 rfl) ?_
        refine va_get (D := (dC, dI)) (ci := 11) (v := .ref (h 1)) (C := RX11) (T := TX11) (N := 36) hx hb hts nX11_countPairs_X11 hown hK hP 0 rfl rfl 11 (by decide) (hts _ mX11_countPairs_1) (fun _ h9 => h9) rfl dX11_countPairs_30 ?_
        refine lv_iload hx hb dX11_countPairs_33 (lv_at hl 6 rfl) ?_
        refine lv_iconst (v := 1) hx hb dX11_countPairs_35 (by decide) ?_
        refine lv_iadd hx hb dX11_countPairs_36 ?_
        have h_4 := hv.1
        have hv := hv.2
        refine va_iald hx hb hK hP 1 0 rfl rfl h_4 dX11_countPairs_37 ?_
        refine lv_topi (fun y_3 ey_3 => ?_)
        have hv := hv y_3 ey_3
        refine lv_iload hx hb dX11_countPairs_38 (lv_at hl 4 rfl) ?_
        refine lv_icmp_ne (tgt := 47) hx hb dX11_countPairs_40 (by decide) (fun c_5 => ?_) (fun c_5 => ?_)
        · have hv := hv.1 c_5
          refine lv_iconst (v := 0) hx hb dX11_countPairs_47 (by decide) ?_
          refine lv_iadd hx hb dX11_countPairs_48 ?_
          refine lv_istore (lv' := [(5, .int ((x5 + 0))), (0, .ref (h 0)), (1, .int p1), (2, .int p2), (3, .int p3), (4, .int p4), (6, .int x6)]) hx hb dX11_countPairs_49 hl (by decide) rfl (fun ls hl => ?_)
          refine lv_iinc (v := (x6 + 1)) (lv' := [(6, .int ((x6 + 1))), (5, .int ((x5 + 0))), (0, .ref (h 0)), (1, .int p1), (2, .int p2), (3, .int p3), (4, .int p4)]) hx hb dX11_countPairs_51 hl (k := 6) rfl rfl (by decide) rfl (fun ls hl => ?_)
          refine lv_goto (tgt := 6) hx hb dX11_countPairs_54 (by decide) ?_
          exact ih (x5 + 0) (x6 + 1) hv _ _ _ hP hD hS (lv_sub hl [2, 3, 4, 5, 6, 1, 0] rfl)
        · have hv := hv.2 c_5
          refine lv_iconst (v := 1) hx hb dX11_countPairs_43 (by decide) ?_
          refine lv_goto (tgt := 48) hx hb dX11_countPairs_44 (by decide) ?_
          refine lv_iadd hx hb dX11_countPairs_48 ?_
          refine lv_istore (lv' := [(5, .int ((x5 + 1))), (0, .ref (h 0)), (1, .int p1), (2, .int p2), (3, .int p3), (4, .int p4), (6, .int x6)]) hx hb dX11_countPairs_49 hl (by decide) rfl (fun ls hl => ?_)
          refine lv_iinc (v := (x6 + 1)) (lv' := [(6, .int ((x6 + 1))), (5, .int ((x5 + 1))), (0, .ref (h 0)), (1, .int p1), (2, .int p2), (3, .int p3), (4, .int p4)]) hx hb dX11_countPairs_51 hl (k := 6) rfl rfl (by decide) rfl (fun ls hl => ?_)
          refine lv_goto (tgt := 6) hx hb dX11_countPairs_54 (by decide) ?_
          exact ih (x5 + 1) (x6 + 1) hv _ _ _ hP hD hS (lv_sub hl [2, 3, 4, 5, 6, 1, 0] rfl)
set_option maxHeartbeats 4000000 in
set_option maxRecDepth 100000 in
theorem wX11_countPairs_0 {p : Program} (l : Launch) {e : Env} {s : State} {m : MethodId} {args : Array Value} {below : List Frame} {meth : Method} {c : Code} {dC : Nat → ClassId} {dI : Nat → Nat → Nat} {cy : Nat → ClassId} {A : Nat → Prop} (h : Nat → Nat) (post : Int32 → Prop)   (t_kind : Int32) (t_exponent : Int32) (t_letters : Int32) (t_fed : Int32) (t_at : Int32) (t_row : Nat → Int32) (t_rowSize : Int32) (t_steps : Int32) (t_foundMany : Int32) (t_keptMany : Int32) (t_keptLetters : Int32) (t_isFull : Int32) (t_isSaved : Int32) (t_savedKind : Int32) (t_savedExponent : Int32) (t_savedLetters : Int32) (p1 : Int32) (p2 : Int32) (p3 : Int32) (p4 : Int32) (C0 : cx p s m args meth c cX11_countPairs 7 (some .int) wsX11_countPairs RX11 dC dI cy A)  : VX11_countPairs post t_row p1 p2 p3 p4  → ∀ (H : Heap) (locs : List Loc) (ls : Array Slot), va_P (dC, dI) vwCl (pX11_countPairs cy h t_kind t_exponent t_letters t_fed t_at t_row t_rowSize t_steps t_foundMany t_keptMany t_keptLetters t_isFull t_isSaved t_savedKind t_savedExponent t_savedLetters) H → va_D A (pX11_countPairs cy h t_kind t_exponent t_letters t_fed t_at t_row t_rowSize t_steps t_foundMany t_keptMany t_keptLetters t_isFull t_isSaved t_savedKind t_savedExponent t_savedLetters) → va_S A s.heap H locs → lv_has ls 7 [(0, .ref (h 0)), (1, .int p1), (2, .int p2), (3, .int p3), (4, .int p4)] → W p l e rX11_countPairs s m args below meth c H locs 0 0 (MQ below (va_Qi (fun (r : Int32) (_ : Unit) => post r) (fun (_ : Unit) (t : State) => va_P (dC, dI) vwCl (pX11_countPairs cy h t_kind t_exponent t_letters t_fed t_at t_row t_rowSize t_steps t_foundMany t_keptMany t_keptLetters t_isFull t_isSaved t_savedKind t_savedExponent t_savedLetters) t.heap) A) args s 0 0 A) (F0 m 0 ls []) := by
  have C1 := C0
  obtain ⟨hx, hb, hr, hml, hown, hts, hlocks, hK, hA⟩ := C1
  intro  hv H locs ls hP hD hS hl
  refine lv_iconst (v := 0) hx hb dX11_countPairs_0 (by decide) ?_
  refine lv_istore (lv' := [(5, .int 0), (0, .ref (h 0)), (1, .int p1), (2, .int p2), (3, .int p3), (4, .int p4)]) hx hb dX11_countPairs_1 hl (by decide) rfl (fun ls hl => ?_)
  refine lv_iload_n hx hb dX11_countPairs_3 rfl (lv_at hl 2 rfl) ?_
  refine lv_istore (lv' := [(6, .int p1), (5, .int 0), (0, .ref (h 0)), (1, .int p1), (2, .int p2), (3, .int p3), (4, .int p4)]) hx hb dX11_countPairs_4 hl (by decide) rfl (fun ls hl => ?_)
  obtain ⟨n_1, hv⟩ := hv
  exact wX11_countPairs_6 l h post  t_kind t_exponent t_letters t_fed t_at t_row t_rowSize t_steps t_foundMany t_keptMany t_keptLetters t_isFull t_isSaved t_savedKind t_savedExponent t_savedLetters p1 p2 p3 p4 C0 n_1 0 p1 hv _ _ _ hP hD hS (lv_sub hl [2, 3, 4, 5, 6, 1, 0] rfl)
theorem kX11_countPairs (l : Launch) (dC : Nat → ClassId) (dI : Nat → Nat → Nat) (cy : Nat → ClassId) (h : Nat → Nat) (t_kind : Int32) (t_exponent : Int32) (t_letters : Int32) (t_fed : Int32) (t_at : Int32) (t_row : Nat → Int32) (t_rowSize : Int32) (t_steps : Int32) (t_foundMany : Int32) (t_keptMany : Int32) (t_keptLetters : Int32) (t_isFull : Int32) (t_isSaved : Int32) (t_savedKind : Int32) (t_savedExponent : Int32) (t_savedLetters : Int32) (p1 : Int32) (p2 : Int32) (p3 : Int32) (p4 : Int32) (post : Int32 → Prop) (hv : VX11_countPairs post t_row p1 p2 p3 p4 ) : CtI l yX11_countPairs wsX11_countPairs rX11_countPairs dC dI cy [.ref (h 0), .int p1, .int p2, .int p3, .int p4] (pX11_countPairs cy h t_kind t_exponent t_letters t_fed t_at t_row t_rowSize t_steps t_foundMany t_keptMany t_keptLetters t_isFull t_isSaved t_savedKind t_savedExponent t_savedLetters) (fun (_ : Unit) => pX11_countPairs cy h t_kind t_exponent t_letters t_fed t_at t_row t_rowSize t_steps t_foundMany t_keptMany t_keptLetters t_isFull t_isSaved t_savedKind t_savedExponent t_savedLetters) (fun (r : Int32) (_ : Unit) => post r) :=
  ct_ofI (by decide) rfl (Nat.le_of_ble_eq_true rfl) (fun p e s m below meth c A ls C0 hP hD hS hl => wX11_countPairs_0 l h post t_kind t_exponent t_letters t_fed t_at t_row t_rowSize t_steps t_foundMany t_keptMany t_keptLetters t_isFull t_isSaved t_savedKind t_savedExponent t_savedLetters p1 p2 p3 p4 C0  hv _ _ _ hP hD hS hl)
theorem mX11_sum_1 : (Cond.fieldLink RX11 19 "AbelianPowersModel" "values" "[I") ∈ wsX11_sum := List.mem_of_getElem? (i := 1) rfl
theorem mX11_sum_2 : (Cond.fieldLink RX11 38 "AbelianPowersModel" "row" "[I") ∈ wsX11_sum := List.mem_of_getElem? (i := 2) rfl
theorem nX11_sum_X11 : ∀ w ∈ wsX110, w ∈ wsX11_sum := fun _ h => List.mem_cons_of_mem _ (List.mem_append_right _ h)
theorem zX11_sum : yX11_sum.cls = RX11 ∧ yX11_sum.cls ≠ "java/lang/invoke/MethodHandle" ∧ yX11_sum.cls ≠ "java/lang/invoke/VarHandle" ∧ (parseMethodDescriptor yX11_sum.desc).map (fun d => d.parameters.length) = some 2 := by decide +kernel
abbrev rX11_sum : Room := { frames := 0, cells := 0, slots := 0, locals := 0 }
abbrev pX11_sum (cy : Nat → ClassId) (h : Nat → Nat) (t_kind : Int32) (t_exponent : Int32) (t_letters : Int32) (t_values : Nat → Int32) (t_fed : Int32) (t_at : Int32) (t_row : Nat → Int32) (t_rowSize : Int32) (t_steps : Int32) (t_foundMany : Int32) (t_keptMany : Int32) (t_keptLetters : Int32) (t_isFull : Int32) (t_isSaved : Int32) (t_savedKind : Int32) (t_savedExponent : Int32) (t_savedLetters : Int32) : va_W := [(h 0, .inr (11, [.int t_kind, .int t_exponent, .int t_letters, .ref (h 1), .ref (h 3), .ref (h 4), .ref (h 5), .ref (h 6), .ref (h 7), .int t_fed, .int t_at, .ref (h 2), .int t_rowSize, .int t_steps, .ref (h 8), .int t_foundMany, .ref (h 9), .int t_keptMany, .int t_keptLetters, .ref (h 10), .ref (h 11), .ref (h 12), .ref (h 13), .ref (h 14), .int t_isFull, .ref (h 15), .ref (h 16), .int t_isSaved, .int t_savedKind, .int t_savedExponent, .int t_savedLetters, .ref (h 17), .ref (h 18), .ref (h 19), .ref (h 20), .ref (h 21)])), (h 1, .inl (cy 0, 4, .inl t_values)), (h 2, .inl (cy 0, 45, .inl t_row))]
def VX11_sum_5 (post : Int32 → Prop)  (t_values : Nat → Int32) (t_row : Nat → Int32) (p1 : Int32) (p2 : Int32) : Nat → Int32 → Int32 → Prop
  | 0, _, _ => False
  | n + 1, x3, x4 => (((p1 + p2) ≤ x4) → post x3) ∧ (¬ ((p1 + p2) ≤ x4) → vp_in x4 45 ∧ (vp_in (t_row x4.toNatClampNeg) 4 ∧ (∀ y_3 : Int32, y_3 = (t_values (t_row x4.toNatClampNeg).toNatClampNeg) → VX11_sum_5 post t_values t_row p1 p2 n (x3 + y_3) (x4 + 1))))
def VX11_sum (post : Int32 → Prop)  (t_values : Nat → Int32) (t_row : Nat → Int32) (p1 : Int32) (p2 : Int32)  : Prop := ∃ n5 : Nat, VX11_sum_5 post t_values t_row p1 p2 n5 0 p1
set_option maxHeartbeats 4000000 in
set_option maxRecDepth 100000 in
theorem wX11_sum_5 {p : Program} (l : Launch) {e : Env} {s : State} {m : MethodId} {args : Array Value} {below : List Frame} {meth : Method} {c : Code} {dC : Nat → ClassId} {dI : Nat → Nat → Nat} {cy : Nat → ClassId} {A : Nat → Prop} (h : Nat → Nat) (post : Int32 → Prop)   (t_kind : Int32) (t_exponent : Int32) (t_letters : Int32) (t_values : Nat → Int32) (t_fed : Int32) (t_at : Int32) (t_row : Nat → Int32) (t_rowSize : Int32) (t_steps : Int32) (t_foundMany : Int32) (t_keptMany : Int32) (t_keptLetters : Int32) (t_isFull : Int32) (t_isSaved : Int32) (t_savedKind : Int32) (t_savedExponent : Int32) (t_savedLetters : Int32) (p1 : Int32) (p2 : Int32) (C0 : cx p s m args meth c cX11_sum 5 (some .int) wsX11_sum RX11 dC dI cy A)  : ∀ (n : Nat) (x3 : Int32) (x4 : Int32), VX11_sum_5 post t_values t_row p1 p2 n x3 x4 → ∀ (H : Heap) (locs : List Loc) (ls : Array Slot), va_P (dC, dI) vwCl (pX11_sum cy h t_kind t_exponent t_letters t_values t_fed t_at t_row t_rowSize t_steps t_foundMany t_keptMany t_keptLetters t_isFull t_isSaved t_savedKind t_savedExponent t_savedLetters) H → va_D A (pX11_sum cy h t_kind t_exponent t_letters t_values t_fed t_at t_row t_rowSize t_steps t_foundMany t_keptMany t_keptLetters t_isFull t_isSaved t_savedKind t_savedExponent t_savedLetters) → va_S A s.heap H locs → lv_has ls 5 [(0, .ref (h 0)), (1, .int p1), (2, .int p2), (3, .int x3), (4, .int x4)] → W p l e rX11_sum s m args below meth c H locs 0 0 (MQ below (va_Qi (fun (r : Int32) (_ : Unit) => post r) (fun (_ : Unit) (t : State) => va_P (dC, dI) vwCl (pX11_sum cy h t_kind t_exponent t_letters t_values t_fed t_at t_row t_rowSize t_steps t_foundMany t_keptMany t_keptLetters t_isFull t_isSaved t_savedKind t_savedExponent t_savedLetters) t.heap) A) args s 0 0 A) (F0 m 5 ls []) := by
  have C1 := C0
  obtain ⟨hx, hb, hr, hml, hown, hts, hlocks, hK, hA⟩ := C1
  intro n
  induction n with
  | zero => intro x3 x4 hv; exact hv.elim
  | succ n ih =>
    intro x3 x4 hv H locs ls hP hD hS hl
    refine lv_iload hx hb dX11_sum_5 (lv_at hl 4 rfl) ?_
    refine lv_iload_n hx hb dX11_sum_7 rfl (lv_at hl 1 rfl) ?_
    refine lv_iload_n hx hb dX11_sum_8 rfl (lv_at hl 2 rfl) ?_
    refine lv_iadd hx hb dX11_sum_9 ?_
    refine lv_icmp_ge (tgt := 34) hx hb dX11_sum_10 (by decide) (fun c_5 => ?_) (fun c_5 => ?_)
    · have hv := hv.1 c_5
      refine lv_iload_n hx hb dX11_sum_34 rfl (lv_at hl 3 rfl) ?_
      exact W.iret (v := x3) hx hb hr (fun t ht hW => ⟨⟨x3, (), rfl, hv, va_Ph ht hP⟩, hS.F ht⟩) hS.2.2 dX11_sum_35
    · have hv := hv.2 c_5
      refine lv_iload_n hx hb dX11_sum_13 rfl (lv_at hl 3 rfl) ?_
      refine lv_aload_n hx hb dX11_sum_14 rfl (lv_at hl 0 rfl) ?_
      refine va_get (D := (dC, dI)) (ci := 11) (v := .ref (h 1)) (C := RX11) (T := TX11) (N := 36) hx hb hts nX11_sum_X11 hown hK hP 0 rfl rfl 3 (by decide) (hts _ mX11_sum_1) (fun _ h9 => h9) rfl dX11_sum_15 ?_
      refine lv_aload_n hx hb dX11_sum_18 rfl (lv_at hl 0 rfl) ?_
      refine va_get (D := (dC, dI)) (ci := 11) (v := .ref (h 2)) (C := RX11) (T := TX11) (N := 36) hx hb hts nX11_sum_X11 hown hK hP 0 rfl rfl 11 (by decide) (hts _ mX11_sum_2) (fun _ h9 => h9) rfl dX11_sum_19 ?_
      refine lv_iload hx hb dX11_sum_22 (lv_at hl 4 rfl) ?_
      have h_2 := hv.1
      have hv := hv.2
      refine va_iald hx hb hK hP 2 0 rfl rfl h_2 dX11_sum_24 ?_
      have h_4 := hv.1
      have hv := hv.2
      refine va_iald hx hb hK hP 1 0 rfl rfl h_4 dX11_sum_25 ?_
      refine lv_topi (fun y_3 ey_3 => ?_)
      have hv := hv y_3 ey_3
      refine lv_iadd hx hb dX11_sum_26 ?_
      refine lv_istore_n (lv' := [(3, .int ((x3 + y_3))), (0, .ref (h 0)), (1, .int p1), (2, .int p2), (4, .int x4)]) hx hb dX11_sum_27 rfl hl (by decide) rfl (fun ls hl => ?_)
      refine lv_iinc (v := (x4 + 1)) (lv' := [(4, .int ((x4 + 1))), (3, .int ((x3 + y_3))), (0, .ref (h 0)), (1, .int p1), (2, .int p2)]) hx hb dX11_sum_28 hl (k := 4) rfl rfl (by decide) rfl (fun ls hl => ?_)
      refine lv_goto (tgt := 5) hx hb dX11_sum_31 (by decide) ?_
      exact ih (x3 + y_3) (x4 + 1) hv _ _ _ hP hD hS (lv_sub hl [2, 3, 4, 1, 0] rfl)
set_option maxHeartbeats 4000000 in
set_option maxRecDepth 100000 in
theorem wX11_sum_0 {p : Program} (l : Launch) {e : Env} {s : State} {m : MethodId} {args : Array Value} {below : List Frame} {meth : Method} {c : Code} {dC : Nat → ClassId} {dI : Nat → Nat → Nat} {cy : Nat → ClassId} {A : Nat → Prop} (h : Nat → Nat) (post : Int32 → Prop)   (t_kind : Int32) (t_exponent : Int32) (t_letters : Int32) (t_values : Nat → Int32) (t_fed : Int32) (t_at : Int32) (t_row : Nat → Int32) (t_rowSize : Int32) (t_steps : Int32) (t_foundMany : Int32) (t_keptMany : Int32) (t_keptLetters : Int32) (t_isFull : Int32) (t_isSaved : Int32) (t_savedKind : Int32) (t_savedExponent : Int32) (t_savedLetters : Int32) (p1 : Int32) (p2 : Int32) (C0 : cx p s m args meth c cX11_sum 5 (some .int) wsX11_sum RX11 dC dI cy A)  : VX11_sum post t_values t_row p1 p2  → ∀ (H : Heap) (locs : List Loc) (ls : Array Slot), va_P (dC, dI) vwCl (pX11_sum cy h t_kind t_exponent t_letters t_values t_fed t_at t_row t_rowSize t_steps t_foundMany t_keptMany t_keptLetters t_isFull t_isSaved t_savedKind t_savedExponent t_savedLetters) H → va_D A (pX11_sum cy h t_kind t_exponent t_letters t_values t_fed t_at t_row t_rowSize t_steps t_foundMany t_keptMany t_keptLetters t_isFull t_isSaved t_savedKind t_savedExponent t_savedLetters) → va_S A s.heap H locs → lv_has ls 5 [(0, .ref (h 0)), (1, .int p1), (2, .int p2)] → W p l e rX11_sum s m args below meth c H locs 0 0 (MQ below (va_Qi (fun (r : Int32) (_ : Unit) => post r) (fun (_ : Unit) (t : State) => va_P (dC, dI) vwCl (pX11_sum cy h t_kind t_exponent t_letters t_values t_fed t_at t_row t_rowSize t_steps t_foundMany t_keptMany t_keptLetters t_isFull t_isSaved t_savedKind t_savedExponent t_savedLetters) t.heap) A) args s 0 0 A) (F0 m 0 ls []) := by
  have C1 := C0
  obtain ⟨hx, hb, hr, hml, hown, hts, hlocks, hK, hA⟩ := C1
  intro  hv H locs ls hP hD hS hl
  refine lv_iconst (v := 0) hx hb dX11_sum_0 (by decide) ?_
  refine lv_istore_n (lv' := [(3, .int 0), (0, .ref (h 0)), (1, .int p1), (2, .int p2)]) hx hb dX11_sum_1 rfl hl (by decide) rfl (fun ls hl => ?_)
  refine lv_iload_n hx hb dX11_sum_2 rfl (lv_at hl 2 rfl) ?_
  refine lv_istore (lv' := [(4, .int p1), (3, .int 0), (0, .ref (h 0)), (1, .int p1), (2, .int p2)]) hx hb dX11_sum_3 hl (by decide) rfl (fun ls hl => ?_)
  obtain ⟨n_1, hv⟩ := hv
  exact wX11_sum_5 l h post  t_kind t_exponent t_letters t_values t_fed t_at t_row t_rowSize t_steps t_foundMany t_keptMany t_keptLetters t_isFull t_isSaved t_savedKind t_savedExponent t_savedLetters p1 p2 C0 n_1 0 p1 hv _ _ _ hP hD hS (lv_sub hl [2, 3, 4, 1, 0] rfl)
theorem kX11_sum (l : Launch) (dC : Nat → ClassId) (dI : Nat → Nat → Nat) (cy : Nat → ClassId) (h : Nat → Nat) (t_kind : Int32) (t_exponent : Int32) (t_letters : Int32) (t_values : Nat → Int32) (t_fed : Int32) (t_at : Int32) (t_row : Nat → Int32) (t_rowSize : Int32) (t_steps : Int32) (t_foundMany : Int32) (t_keptMany : Int32) (t_keptLetters : Int32) (t_isFull : Int32) (t_isSaved : Int32) (t_savedKind : Int32) (t_savedExponent : Int32) (t_savedLetters : Int32) (p1 : Int32) (p2 : Int32) (post : Int32 → Prop) (hv : VX11_sum post t_values t_row p1 p2 ) : CtI l yX11_sum wsX11_sum rX11_sum dC dI cy [.ref (h 0), .int p1, .int p2] (pX11_sum cy h t_kind t_exponent t_letters t_values t_fed t_at t_row t_rowSize t_steps t_foundMany t_keptMany t_keptLetters t_isFull t_isSaved t_savedKind t_savedExponent t_savedLetters) (fun (_ : Unit) => pX11_sum cy h t_kind t_exponent t_letters t_values t_fed t_at t_row t_rowSize t_steps t_foundMany t_keptMany t_keptLetters t_isFull t_isSaved t_savedKind t_savedExponent t_savedLetters) (fun (r : Int32) (_ : Unit) => post r) :=
  ct_ofI (by decide) rfl (Nat.le_of_ble_eq_true rfl) (fun p e s m below meth c A ls C0 hP hD hS hl => wX11_sum_0 l h post t_kind t_exponent t_letters t_values t_fed t_at t_row t_rowSize t_steps t_foundMany t_keptMany t_keptLetters t_isFull t_isSaved t_savedKind t_savedExponent t_savedLetters p1 p2 C0  hv _ _ _ hP hD hS hl)
theorem mX11_areEqual_1 : (Cond.fieldLink RX11 38 "AbelianPowersModel" "row" "[I") ∈ wsX11_areEqual := List.mem_of_getElem? (i := 1) rfl
theorem nX11_areEqual_X11 : ∀ w ∈ wsX110, w ∈ wsX11_areEqual := fun _ h => List.mem_cons_of_mem _ (List.mem_append_right _ h)
theorem zX11_areEqual : yX11_areEqual.cls = RX11 ∧ yX11_areEqual.cls ≠ "java/lang/invoke/MethodHandle" ∧ yX11_areEqual.cls ≠ "java/lang/invoke/VarHandle" ∧ (parseMethodDescriptor yX11_areEqual.desc).map (fun d => d.parameters.length) = some 3 := by decide +kernel
abbrev rX11_areEqual : Room := { frames := 0, cells := 0, slots := 0, locals := 0 }
abbrev pX11_areEqual (cy : Nat → ClassId) (h : Nat → Nat) (t_kind : Int32) (t_exponent : Int32) (t_letters : Int32) (t_fed : Int32) (t_at : Int32) (t_row : Nat → Int32) (t_rowSize : Int32) (t_steps : Int32) (t_foundMany : Int32) (t_keptMany : Int32) (t_keptLetters : Int32) (t_isFull : Int32) (t_isSaved : Int32) (t_savedKind : Int32) (t_savedExponent : Int32) (t_savedLetters : Int32) : va_W := [(h 0, .inr (11, [.int t_kind, .int t_exponent, .int t_letters, .ref (h 2), .ref (h 3), .ref (h 4), .ref (h 5), .ref (h 6), .ref (h 7), .int t_fed, .int t_at, .ref (h 1), .int t_rowSize, .int t_steps, .ref (h 8), .int t_foundMany, .ref (h 9), .int t_keptMany, .int t_keptLetters, .ref (h 10), .ref (h 11), .ref (h 12), .ref (h 13), .ref (h 14), .int t_isFull, .ref (h 15), .ref (h 16), .int t_isSaved, .int t_savedKind, .int t_savedExponent, .int t_savedLetters, .ref (h 17), .ref (h 18), .ref (h 19), .ref (h 20), .ref (h 21)])), (h 1, .inl (cy 0, 45, .inl t_row))]
def VX11_areEqual_3 (post : Int32 → Prop)  (t_row : Nat → Int32) (p1 : Int32) (p2 : Int32) (p3 : Int32) : Nat → Int32 → Prop
  | 0, _ => False
  | n + 1, x4 => ((p3 ≤ x4) → post (1 : Int32)) ∧ (¬ (p3 ≤ x4) → vp_in (p1 + x4) 45 ∧ (∀ y_2 : Int32, y_2 = (t_row (p1 + x4).toNatClampNeg) → vp_in (p2 + x4) 45 ∧ (∀ y_4 : Int32, y_4 = (t_row (p2 + x4).toNatClampNeg) → ((y_2 = y_4) → VX11_areEqual_3 post t_row p1 p2 p3 n (x4 + 1)) ∧ (¬ (y_2 = y_4) → post (0 : Int32)))))
def VX11_areEqual (post : Int32 → Prop)  (t_row : Nat → Int32) (p1 : Int32) (p2 : Int32) (p3 : Int32)  : Prop := ∃ n3 : Nat, VX11_areEqual_3 post t_row p1 p2 p3 n3 0
set_option maxHeartbeats 4000000 in
set_option maxRecDepth 100000 in
theorem wX11_areEqual_3 {p : Program} (l : Launch) {e : Env} {s : State} {m : MethodId} {args : Array Value} {below : List Frame} {meth : Method} {c : Code} {dC : Nat → ClassId} {dI : Nat → Nat → Nat} {cy : Nat → ClassId} {A : Nat → Prop} (h : Nat → Nat) (post : Int32 → Prop)   (t_kind : Int32) (t_exponent : Int32) (t_letters : Int32) (t_fed : Int32) (t_at : Int32) (t_row : Nat → Int32) (t_rowSize : Int32) (t_steps : Int32) (t_foundMany : Int32) (t_keptMany : Int32) (t_keptLetters : Int32) (t_isFull : Int32) (t_isSaved : Int32) (t_savedKind : Int32) (t_savedExponent : Int32) (t_savedLetters : Int32) (p1 : Int32) (p2 : Int32) (p3 : Int32) (C0 : cx p s m args meth c cX11_areEqual 5 (some .boolean) wsX11_areEqual RX11 dC dI cy A)  : ∀ (n : Nat) (x4 : Int32), VX11_areEqual_3 post t_row p1 p2 p3 n x4 → ∀ (H : Heap) (locs : List Loc) (ls : Array Slot), va_P (dC, dI) vwCl (pX11_areEqual cy h t_kind t_exponent t_letters t_fed t_at t_row t_rowSize t_steps t_foundMany t_keptMany t_keptLetters t_isFull t_isSaved t_savedKind t_savedExponent t_savedLetters) H → va_D A (pX11_areEqual cy h t_kind t_exponent t_letters t_fed t_at t_row t_rowSize t_steps t_foundMany t_keptMany t_keptLetters t_isFull t_isSaved t_savedKind t_savedExponent t_savedLetters) → va_S A s.heap H locs → lv_has ls 5 [(0, .ref (h 0)), (1, .int p1), (2, .int p2), (3, .int p3), (4, .int x4)] → W p l e rX11_areEqual s m args below meth c H locs 0 0 (MQ below (va_Qi (fun (r : Int32) (_ : Unit) => post r) (fun (_ : Unit) (t : State) => va_P (dC, dI) vwCl (pX11_areEqual cy h t_kind t_exponent t_letters t_fed t_at t_row t_rowSize t_steps t_foundMany t_keptMany t_keptLetters t_isFull t_isSaved t_savedKind t_savedExponent t_savedLetters) t.heap) A) args s 0 0 A) (F0 m 3 ls []) := by
  have C1 := C0
  obtain ⟨hx, hb, hr, hml, hown, hts, hlocks, hK, hA⟩ := C1
  intro n
  induction n with
  | zero => intro x4 hv; exact hv.elim
  | succ n ih =>
    intro x4 hv H locs ls hP hD hS hl
    refine lv_iload hx hb dX11_areEqual_3 (lv_at hl 4 rfl) ?_
    refine lv_iload_n hx hb dX11_areEqual_5 rfl (lv_at hl 3 rfl) ?_
    refine lv_icmp_ge (tgt := 38) hx hb dX11_areEqual_6 (by decide) (fun c_7 => ?_) (fun c_7 => ?_)
    · have hv := hv.1 c_7
      refine lv_iconst (v := 1) hx hb dX11_areEqual_38 (by decide) ?_
      exact W.zret (v := 1) hx hb hr rfl (fun t ht hW => ⟨⟨1, (), rfl, hv, va_Ph ht hP⟩, hS.F ht⟩) hS.2.2 dX11_areEqual_39
    · have hv := hv.2 c_7
      refine lv_aload_n hx hb dX11_areEqual_9 rfl (lv_at hl 0 rfl) ?_
      refine va_get (D := (dC, dI)) (ci := 11) (v := .ref (h 1)) (C := RX11) (T := TX11) (N := 36) hx hb hts nX11_areEqual_X11 hown hK hP 0 rfl rfl 11 (by decide) (hts _ mX11_areEqual_1) (fun _ h9 => h9) rfl dX11_areEqual_10 ?_
      refine lv_iload_n hx hb dX11_areEqual_13 rfl (lv_at hl 1 rfl) ?_
      refine lv_iload hx hb dX11_areEqual_14 (lv_at hl 4 rfl) ?_
      refine lv_iadd hx hb dX11_areEqual_16 ?_
      have h_3 := hv.1
      have hv := hv.2
      refine va_iald hx hb hK hP 1 0 rfl rfl h_3 dX11_areEqual_17 ?_
      refine lv_topi (fun y_2 ey_2 => ?_)
      have hv := hv y_2 ey_2
      refine lv_aload_n hx hb dX11_areEqual_18 rfl (lv_at hl 0 rfl) ?_
      refine va_get (D := (dC, dI)) (ci := 11) (v := .ref (h 1)) (C := RX11) (T := TX11) (N := 36) hx hb hts nX11_areEqual_X11 hown hK hP 0 rfl rfl 11 (by decide) (hts _ mX11_areEqual_1) (fun _ h9 => h9) rfl dX11_areEqual_19 ?_
      refine lv_iload_n hx hb dX11_areEqual_22 rfl (lv_at hl 2 rfl) ?_
      refine lv_iload hx hb dX11_areEqual_23 (lv_at hl 4 rfl) ?_
      refine lv_iadd hx hb dX11_areEqual_25 ?_
      have h_5 := hv.1
      have hv := hv.2
      refine va_iald hx hb hK hP 1 0 rfl rfl h_5 dX11_areEqual_26 ?_
      refine lv_topi (fun y_4 ey_4 => ?_)
      have hv := hv y_4 ey_4
      refine lv_icmp_eq (tgt := 32) hx hb dX11_areEqual_27 (by decide) (fun c_6 => ?_) (fun c_6 => ?_)
      · have hv := hv.1 c_6
        refine lv_iinc (v := (x4 + 1)) (lv' := [(4, .int ((x4 + 1))), (0, .ref (h 0)), (1, .int p1), (2, .int p2), (3, .int p3)]) hx hb dX11_areEqual_32 hl (k := 4) rfl rfl (by decide) rfl (fun ls hl => ?_)
        refine lv_goto (tgt := 3) hx hb dX11_areEqual_35 (by decide) ?_
        exact ih (x4 + 1) hv _ _ _ hP hD hS (lv_sub hl [1, 2, 3, 4, 0] rfl)
      · have hv := hv.2 c_6
        refine lv_iconst (v := 0) hx hb dX11_areEqual_30 (by decide) ?_
        exact W.zret (v := 0) hx hb hr rfl (fun t ht hW => ⟨⟨0, (), rfl, hv, va_Ph ht hP⟩, hS.F ht⟩) hS.2.2 dX11_areEqual_31
set_option maxHeartbeats 4000000 in
set_option maxRecDepth 100000 in
theorem wX11_areEqual_0 {p : Program} (l : Launch) {e : Env} {s : State} {m : MethodId} {args : Array Value} {below : List Frame} {meth : Method} {c : Code} {dC : Nat → ClassId} {dI : Nat → Nat → Nat} {cy : Nat → ClassId} {A : Nat → Prop} (h : Nat → Nat) (post : Int32 → Prop)   (t_kind : Int32) (t_exponent : Int32) (t_letters : Int32) (t_fed : Int32) (t_at : Int32) (t_row : Nat → Int32) (t_rowSize : Int32) (t_steps : Int32) (t_foundMany : Int32) (t_keptMany : Int32) (t_keptLetters : Int32) (t_isFull : Int32) (t_isSaved : Int32) (t_savedKind : Int32) (t_savedExponent : Int32) (t_savedLetters : Int32) (p1 : Int32) (p2 : Int32) (p3 : Int32) (C0 : cx p s m args meth c cX11_areEqual 5 (some .boolean) wsX11_areEqual RX11 dC dI cy A)  : VX11_areEqual post t_row p1 p2 p3  → ∀ (H : Heap) (locs : List Loc) (ls : Array Slot), va_P (dC, dI) vwCl (pX11_areEqual cy h t_kind t_exponent t_letters t_fed t_at t_row t_rowSize t_steps t_foundMany t_keptMany t_keptLetters t_isFull t_isSaved t_savedKind t_savedExponent t_savedLetters) H → va_D A (pX11_areEqual cy h t_kind t_exponent t_letters t_fed t_at t_row t_rowSize t_steps t_foundMany t_keptMany t_keptLetters t_isFull t_isSaved t_savedKind t_savedExponent t_savedLetters) → va_S A s.heap H locs → lv_has ls 5 [(0, .ref (h 0)), (1, .int p1), (2, .int p2), (3, .int p3)] → W p l e rX11_areEqual s m args below meth c H locs 0 0 (MQ below (va_Qi (fun (r : Int32) (_ : Unit) => post r) (fun (_ : Unit) (t : State) => va_P (dC, dI) vwCl (pX11_areEqual cy h t_kind t_exponent t_letters t_fed t_at t_row t_rowSize t_steps t_foundMany t_keptMany t_keptLetters t_isFull t_isSaved t_savedKind t_savedExponent t_savedLetters) t.heap) A) args s 0 0 A) (F0 m 0 ls []) := by
  have C1 := C0
  obtain ⟨hx, hb, hr, hml, hown, hts, hlocks, hK, hA⟩ := C1
  intro  hv H locs ls hP hD hS hl
  refine lv_iconst (v := 0) hx hb dX11_areEqual_0 (by decide) ?_
  refine lv_istore (lv' := [(4, .int 0), (0, .ref (h 0)), (1, .int p1), (2, .int p2), (3, .int p3)]) hx hb dX11_areEqual_1 hl (by decide) rfl (fun ls hl => ?_)
  obtain ⟨n_1, hv⟩ := hv
  exact wX11_areEqual_3 l h post  t_kind t_exponent t_letters t_fed t_at t_row t_rowSize t_steps t_foundMany t_keptMany t_keptLetters t_isFull t_isSaved t_savedKind t_savedExponent t_savedLetters p1 p2 p3 C0 n_1 0 hv _ _ _ hP hD hS (lv_sub hl [1, 2, 3, 4, 0] rfl)
theorem kX11_areEqual (l : Launch) (dC : Nat → ClassId) (dI : Nat → Nat → Nat) (cy : Nat → ClassId) (h : Nat → Nat) (t_kind : Int32) (t_exponent : Int32) (t_letters : Int32) (t_fed : Int32) (t_at : Int32) (t_row : Nat → Int32) (t_rowSize : Int32) (t_steps : Int32) (t_foundMany : Int32) (t_keptMany : Int32) (t_keptLetters : Int32) (t_isFull : Int32) (t_isSaved : Int32) (t_savedKind : Int32) (t_savedExponent : Int32) (t_savedLetters : Int32) (p1 : Int32) (p2 : Int32) (p3 : Int32) (post : Int32 → Prop) (hv : VX11_areEqual post t_row p1 p2 p3 ) : CtI l yX11_areEqual wsX11_areEqual rX11_areEqual dC dI cy [.ref (h 0), .int p1, .int p2, .int p3] (pX11_areEqual cy h t_kind t_exponent t_letters t_fed t_at t_row t_rowSize t_steps t_foundMany t_keptMany t_keptLetters t_isFull t_isSaved t_savedKind t_savedExponent t_savedLetters) (fun (_ : Unit) => pX11_areEqual cy h t_kind t_exponent t_letters t_fed t_at t_row t_rowSize t_steps t_foundMany t_keptMany t_keptLetters t_isFull t_isSaved t_savedKind t_savedExponent t_savedLetters) (fun (r : Int32) (_ : Unit) => post r) :=
  ct_ofI (by decide) rfl (Nat.le_of_ble_eq_true rfl) (fun p e s m below meth c A ls C0 hP hD hS hl => wX11_areEqual_0 l h post t_kind t_exponent t_letters t_fed t_at t_row t_rowSize t_steps t_foundMany t_keptMany t_keptLetters t_isFull t_isSaved t_savedKind t_savedExponent t_savedLetters p1 p2 p3 C0  hv _ _ _ hP hD hS hl)
theorem mX11_areAbelian_1 : (Cond.fieldLink RX11 16 "AbelianPowersModel" "letters" "I") ∈ wsX11_areAbelian := List.mem_of_getElem? (i := 1) rfl
theorem nX11_areAbelian_X11 : ∀ w ∈ wsX110, w ∈ wsX11_areAbelian := fun _ h => List.mem_cons_of_mem _ (List.mem_append_right _ h)
theorem zX11_areAbelian : yX11_areAbelian.cls = RX11 ∧ yX11_areAbelian.cls ≠ "java/lang/invoke/MethodHandle" ∧ yX11_areAbelian.cls ≠ "java/lang/invoke/VarHandle" ∧ (parseMethodDescriptor yX11_areAbelian.desc).map (fun d => d.parameters.length) = some 3 := by decide +kernel
abbrev rX11_areAbelian : Room := { frames := 1, cells := 0, slots := 0, locals := 25 }
abbrev pX11_areAbelian (cy : Nat → ClassId) (h : Nat → Nat) (t_kind : Int32) (t_exponent : Int32) (t_letters : Int32) (t_fed : Int32) (t_at : Int32) (t_row : Nat → Int32) (t_rowSize : Int32) (t_steps : Int32) (t_foundMany : Int32) (t_keptMany : Int32) (t_keptLetters : Int32) (t_isFull : Int32) (t_isSaved : Int32) (t_savedKind : Int32) (t_savedExponent : Int32) (t_savedLetters : Int32) : va_W := [(h 0, .inr (11, [.int t_kind, .int t_exponent, .int t_letters, .ref (h 2), .ref (h 3), .ref (h 4), .ref (h 5), .ref (h 6), .ref (h 7), .int t_fed, .int t_at, .ref (h 1), .int t_rowSize, .int t_steps, .ref (h 8), .int t_foundMany, .ref (h 9), .int t_keptMany, .int t_keptLetters, .ref (h 10), .ref (h 11), .ref (h 12), .ref (h 13), .ref (h 14), .int t_isFull, .ref (h 15), .ref (h 16), .int t_isSaved, .int t_savedKind, .int t_savedExponent, .int t_savedLetters, .ref (h 17), .ref (h 18), .ref (h 19), .ref (h 20), .ref (h 21)])), (h 1, .inl (cy 0, 45, .inl t_row))]
def VX11_areAbelian_3 (post : Int32 → Prop)  (t_letters : Int32) (t_row : Nat → Int32) (p1 : Int32) (p2 : Int32) (p3 : Int32) : Nat → Int32 → Prop
  | 0, _ => False
  | n + 1, x4 => ((t_letters ≤ x4) → post (1 : Int32)) ∧ (¬ (t_letters ≤ x4) → VX11_count (fun r_2 => VX11_count (fun r_3 => ((r_2 = r_3) → VX11_areAbelian_3 post t_letters t_row p1 p2 p3 n (x4 + 1)) ∧ (¬ (r_2 = r_3) → post (0 : Int32))) t_row p2 p3 x4) t_row p1 p3 x4)
def VX11_areAbelian (post : Int32 → Prop)  (t_letters : Int32) (t_row : Nat → Int32) (p1 : Int32) (p2 : Int32) (p3 : Int32)  : Prop := ∃ n3 : Nat, VX11_areAbelian_3 post t_letters t_row p1 p2 p3 n3 0
set_option maxHeartbeats 4000000 in
set_option maxRecDepth 100000 in
theorem wX11_areAbelian_3 {p : Program} (l : Launch) {e : Env} {s : State} {m : MethodId} {args : Array Value} {below : List Frame} {meth : Method} {c : Code} {dC : Nat → ClassId} {dI : Nat → Nat → Nat} {cy : Nat → ClassId} {A : Nat → Prop} (h : Nat → Nat) (post : Int32 → Prop)   (t_kind : Int32) (t_exponent : Int32) (t_letters : Int32) (t_fed : Int32) (t_at : Int32) (t_row : Nat → Int32) (t_rowSize : Int32) (t_steps : Int32) (t_foundMany : Int32) (t_keptMany : Int32) (t_keptLetters : Int32) (t_isFull : Int32) (t_isSaved : Int32) (t_savedKind : Int32) (t_savedExponent : Int32) (t_savedLetters : Int32) (p1 : Int32) (p2 : Int32) (p3 : Int32) (C0 : cx p s m args meth c cX11_areAbelian 5 (some .boolean) wsX11_areAbelian RX11 dC dI cy A)  : ∀ (n : Nat) (x4 : Int32), VX11_areAbelian_3 post t_letters t_row p1 p2 p3 n x4 → ∀ (H : Heap) (locs : List Loc) (ls : Array Slot), va_P (dC, dI) vwCl (pX11_areAbelian cy h t_kind t_exponent t_letters t_fed t_at t_row t_rowSize t_steps t_foundMany t_keptMany t_keptLetters t_isFull t_isSaved t_savedKind t_savedExponent t_savedLetters) H → va_D A (pX11_areAbelian cy h t_kind t_exponent t_letters t_fed t_at t_row t_rowSize t_steps t_foundMany t_keptMany t_keptLetters t_isFull t_isSaved t_savedKind t_savedExponent t_savedLetters) → va_S A s.heap H locs → lv_has ls 5 [(0, .ref (h 0)), (1, .int p1), (2, .int p2), (3, .int p3), (4, .int x4)] → W p l e rX11_areAbelian s m args below meth c H locs 0 0 (MQ below (va_Qi (fun (r : Int32) (_ : Unit) => post r) (fun (_ : Unit) (t : State) => va_P (dC, dI) vwCl (pX11_areAbelian cy h t_kind t_exponent t_letters t_fed t_at t_row t_rowSize t_steps t_foundMany t_keptMany t_keptLetters t_isFull t_isSaved t_savedKind t_savedExponent t_savedLetters) t.heap) A) args s 0 0 A) (F0 m 3 ls []) := by
  have C1 := C0
  obtain ⟨hx, hb, hr, hml, hown, hts, hlocks, hK, hA⟩ := C1
  intro n
  induction n with
  | zero => intro x4 hv; exact hv.elim
  | succ n ih =>
    intro x4 hv H locs ls hP hD hS hl
    refine lv_iload hx hb dX11_areAbelian_3 (lv_at hl 4 rfl) ?_
    refine lv_aload_n hx hb dX11_areAbelian_5 rfl (lv_at hl 0 rfl) ?_
    refine va_get (D := (dC, dI)) (ci := 11) (v := .int t_letters) (C := RX11) (T := TX11) (N := 36) hx hb hts nX11_areAbelian_X11 hown hK hP 0 rfl rfl 2 (by decide) (hts _ mX11_areAbelian_1) (fun _ h9 => h9) rfl dX11_areAbelian_6 ?_
    refine lv_icmp_ge (tgt := 39) hx hb dX11_areAbelian_9 (by decide) (fun c_7 => ?_) (fun c_7 => ?_)
    · have hv := hv.1 c_7
      refine lv_iconst (v := 1) hx hb dX11_areAbelian_39 (by decide) ?_
      exact W.zret (v := 1) hx hb hr rfl (fun t ht hW => ⟨⟨1, (), rfl, hv, va_Ph ht hP⟩, hS.F ht⟩) hS.2.2 dX11_areAbelian_40
    · have hv := hv.2 c_7
      refine lv_aload_n hx hb dX11_areAbelian_12 rfl (lv_at hl 0 rfl) ?_
      refine lv_iload_n hx hb dX11_areAbelian_13 rfl (lv_at hl 1 rfl) ?_
      refine lv_iload_n hx hb dX11_areAbelian_14 rfl (lv_at hl 3 rfl) ?_
      refine lv_iload hx hb dX11_areAbelian_15 (lv_at hl 4 rfl) ?_
      refine cb_VI (As := [.int p1, .int p3, .int x4]) (rest := []) ⟨hx, hb, hml, hown, hts⟩ (kX11_count l dC dI cy (adl [h 0, h 1, h 2, h 3, h 4, h 5, h 6, h 7, h 8, h 9, h 10, h 11, h 12, h 13, h 14, h 15, h 16, h 17, h 18, h 19, h 20, h 21]) t_kind t_exponent t_letters t_fed t_at t_row t_rowSize t_steps t_foundMany t_keptMany t_keptLetters t_isFull t_isSaved t_savedKind t_savedExponent t_savedLetters p1 p3 x4 _ hv) (cwV 3 hts gX11_areAbelian_X11_count rfl rfl rfl zX11_count ⟨Nat.le_of_ble_eq_true rfl, Nat.le_of_ble_eq_true rfl⟩) hK hP hD hS hA [0, 1] [some 0, some 1] rfl rfl rfl (ci := 11) rfl rfl (fun _ => rfl) rfl hl.1 rfl (Nat.le_of_ble_eq_true rfl) dX11_areAbelian_17 (fun r_2 w_6 H locs hv hP hD hS => ?_)
      have hP : va_P (dC, dI) vwCl (pX11_areAbelian cy h t_kind t_exponent t_letters t_fed t_at t_row t_rowSize t_steps t_foundMany t_keptMany t_keptLetters t_isFull t_isSaved t_savedKind t_savedExponent t_savedLetters) H := hP
      have hD : va_D A (pX11_areAbelian cy h t_kind t_exponent t_letters t_fed t_at t_row t_rowSize t_steps t_foundMany t_keptMany t_keptLetters t_isFull t_isSaved t_savedKind t_savedExponent t_savedLetters) := hD
      refine lv_aload_n hx hb dX11_areAbelian_20 rfl (lv_at hl 0 rfl) ?_
      refine lv_iload_n hx hb dX11_areAbelian_21 rfl (lv_at hl 2 rfl) ?_
      refine lv_iload_n hx hb dX11_areAbelian_22 rfl (lv_at hl 3 rfl) ?_
      refine lv_iload hx hb dX11_areAbelian_23 (lv_at hl 4 rfl) ?_
      refine cb_VI (As := [.int p2, .int p3, .int x4]) (rest := [.int r_2]) ⟨hx, hb, hml, hown, hts⟩ (kX11_count l dC dI cy (adl [h 0, h 1, h 2, h 3, h 4, h 5, h 6, h 7, h 8, h 9, h 10, h 11, h 12, h 13, h 14, h 15, h 16, h 17, h 18, h 19, h 20, h 21]) t_kind t_exponent t_letters t_fed t_at t_row t_rowSize t_steps t_foundMany t_keptMany t_keptLetters t_isFull t_isSaved t_savedKind t_savedExponent t_savedLetters p2 p3 x4 _ hv) (cwV 3 hts gX11_areAbelian_X11_count rfl rfl rfl zX11_count ⟨Nat.le_of_ble_eq_true rfl, Nat.le_of_ble_eq_true rfl⟩) hK hP hD hS hA [0, 1] [some 0, some 1] rfl rfl rfl (ci := 11) rfl rfl (fun _ => rfl) rfl hl.1 rfl (Nat.le_of_ble_eq_true rfl) dX11_areAbelian_25 (fun r_3 w_5 H locs hv hP hD hS => ?_)
      have hP : va_P (dC, dI) vwCl (pX11_areAbelian cy h t_kind t_exponent t_letters t_fed t_at t_row t_rowSize t_steps t_foundMany t_keptMany t_keptLetters t_isFull t_isSaved t_savedKind t_savedExponent t_savedLetters) H := hP
      have hD : va_D A (pX11_areAbelian cy h t_kind t_exponent t_letters t_fed t_at t_row t_rowSize t_steps t_foundMany t_keptMany t_keptLetters t_isFull t_isSaved t_savedKind t_savedExponent t_savedLetters) := hD
      refine lv_icmp_eq (tgt := 33) hx hb dX11_areAbelian_28 (by decide) (fun c_4 => ?_) (fun c_4 => ?_)
      · have hv := hv.1 c_4
        refine lv_iinc (v := (x4 + 1)) (lv' := [(4, .int ((x4 + 1))), (0, .ref (h 0)), (1, .int p1), (2, .int p2), (3, .int p3)]) hx hb dX11_areAbelian_33 hl (k := 4) rfl rfl (by decide) rfl (fun ls hl => ?_)
        refine lv_goto (tgt := 3) hx hb dX11_areAbelian_36 (by decide) ?_
        exact ih (x4 + 1) hv _ _ _ hP hD hS (lv_sub hl [1, 2, 3, 4, 0] rfl)
      · have hv := hv.2 c_4
        refine lv_iconst (v := 0) hx hb dX11_areAbelian_31 (by decide) ?_
        exact W.zret (v := 0) hx hb hr rfl (fun t ht hW => ⟨⟨0, (), rfl, hv, va_Ph ht hP⟩, hS.F ht⟩) hS.2.2 dX11_areAbelian_32
set_option maxHeartbeats 4000000 in
set_option maxRecDepth 100000 in
theorem wX11_areAbelian_0 {p : Program} (l : Launch) {e : Env} {s : State} {m : MethodId} {args : Array Value} {below : List Frame} {meth : Method} {c : Code} {dC : Nat → ClassId} {dI : Nat → Nat → Nat} {cy : Nat → ClassId} {A : Nat → Prop} (h : Nat → Nat) (post : Int32 → Prop)   (t_kind : Int32) (t_exponent : Int32) (t_letters : Int32) (t_fed : Int32) (t_at : Int32) (t_row : Nat → Int32) (t_rowSize : Int32) (t_steps : Int32) (t_foundMany : Int32) (t_keptMany : Int32) (t_keptLetters : Int32) (t_isFull : Int32) (t_isSaved : Int32) (t_savedKind : Int32) (t_savedExponent : Int32) (t_savedLetters : Int32) (p1 : Int32) (p2 : Int32) (p3 : Int32) (C0 : cx p s m args meth c cX11_areAbelian 5 (some .boolean) wsX11_areAbelian RX11 dC dI cy A)  : VX11_areAbelian post t_letters t_row p1 p2 p3  → ∀ (H : Heap) (locs : List Loc) (ls : Array Slot), va_P (dC, dI) vwCl (pX11_areAbelian cy h t_kind t_exponent t_letters t_fed t_at t_row t_rowSize t_steps t_foundMany t_keptMany t_keptLetters t_isFull t_isSaved t_savedKind t_savedExponent t_savedLetters) H → va_D A (pX11_areAbelian cy h t_kind t_exponent t_letters t_fed t_at t_row t_rowSize t_steps t_foundMany t_keptMany t_keptLetters t_isFull t_isSaved t_savedKind t_savedExponent t_savedLetters) → va_S A s.heap H locs → lv_has ls 5 [(0, .ref (h 0)), (1, .int p1), (2, .int p2), (3, .int p3)] → W p l e rX11_areAbelian s m args below meth c H locs 0 0 (MQ below (va_Qi (fun (r : Int32) (_ : Unit) => post r) (fun (_ : Unit) (t : State) => va_P (dC, dI) vwCl (pX11_areAbelian cy h t_kind t_exponent t_letters t_fed t_at t_row t_rowSize t_steps t_foundMany t_keptMany t_keptLetters t_isFull t_isSaved t_savedKind t_savedExponent t_savedLetters) t.heap) A) args s 0 0 A) (F0 m 0 ls []) := by
  have C1 := C0
  obtain ⟨hx, hb, hr, hml, hown, hts, hlocks, hK, hA⟩ := C1
  intro  hv H locs ls hP hD hS hl
  refine lv_iconst (v := 0) hx hb dX11_areAbelian_0 (by decide) ?_
  refine lv_istore (lv' := [(4, .int 0), (0, .ref (h 0)), (1, .int p1), (2, .int p2), (3, .int p3)]) hx hb dX11_areAbelian_1 hl (by decide) rfl (fun ls hl => ?_)
  obtain ⟨n_1, hv⟩ := hv
  exact wX11_areAbelian_3 l h post  t_kind t_exponent t_letters t_fed t_at t_row t_rowSize t_steps t_foundMany t_keptMany t_keptLetters t_isFull t_isSaved t_savedKind t_savedExponent t_savedLetters p1 p2 p3 C0 n_1 0 hv _ _ _ hP hD hS (lv_sub hl [1, 2, 3, 4, 0] rfl)
theorem kX11_areAbelian (l : Launch) (dC : Nat → ClassId) (dI : Nat → Nat → Nat) (cy : Nat → ClassId) (h : Nat → Nat) (t_kind : Int32) (t_exponent : Int32) (t_letters : Int32) (t_fed : Int32) (t_at : Int32) (t_row : Nat → Int32) (t_rowSize : Int32) (t_steps : Int32) (t_foundMany : Int32) (t_keptMany : Int32) (t_keptLetters : Int32) (t_isFull : Int32) (t_isSaved : Int32) (t_savedKind : Int32) (t_savedExponent : Int32) (t_savedLetters : Int32) (p1 : Int32) (p2 : Int32) (p3 : Int32) (post : Int32 → Prop) (hv : VX11_areAbelian post t_letters t_row p1 p2 p3 ) : CtI l yX11_areAbelian wsX11_areAbelian rX11_areAbelian dC dI cy [.ref (h 0), .int p1, .int p2, .int p3] (pX11_areAbelian cy h t_kind t_exponent t_letters t_fed t_at t_row t_rowSize t_steps t_foundMany t_keptMany t_keptLetters t_isFull t_isSaved t_savedKind t_savedExponent t_savedLetters) (fun (_ : Unit) => pX11_areAbelian cy h t_kind t_exponent t_letters t_fed t_at t_row t_rowSize t_steps t_foundMany t_keptMany t_keptLetters t_isFull t_isSaved t_savedKind t_savedExponent t_savedLetters) (fun (r : Int32) (_ : Unit) => post r) :=
  ct_ofI (by decide) rfl (Nat.le_of_ble_eq_true rfl) (fun p e s m below meth c A ls C0 hP hD hS hl => wX11_areAbelian_0 l h post t_kind t_exponent t_letters t_fed t_at t_row t_rowSize t_steps t_foundMany t_keptMany t_keptLetters t_isFull t_isSaved t_savedKind t_savedExponent t_savedLetters p1 p2 p3 C0  hv _ _ _ hP hD hS hl)
theorem mX11_areMixed_1 : (Cond.fieldLink RX11 38 "AbelianPowersModel" "row" "[I") ∈ wsX11_areMixed := List.mem_of_getElem? (i := 1) rfl
theorem mX11_areMixed_2 : (Cond.fieldLink RX11 16 "AbelianPowersModel" "letters" "I") ∈ wsX11_areMixed := List.mem_of_getElem? (i := 2) rfl
theorem nX11_areMixed_X11 : ∀ w ∈ wsX110, w ∈ wsX11_areMixed := fun _ h => List.mem_cons_of_mem _ (List.mem_append_right _ h)
theorem zX11_areMixed : yX11_areMixed.cls = RX11 ∧ yX11_areMixed.cls ≠ "java/lang/invoke/MethodHandle" ∧ yX11_areMixed.cls ≠ "java/lang/invoke/VarHandle" ∧ (parseMethodDescriptor yX11_areMixed.desc).map (fun d => d.parameters.length) = some 3 := by decide +kernel
abbrev rX11_areMixed : Room := { frames := 2, cells := 0, slots := 0, locals := 49 }
abbrev pX11_areMixed (cy : Nat → ClassId) (h : Nat → Nat) (t_kind : Int32) (t_exponent : Int32) (t_letters : Int32) (t_fed : Int32) (t_at : Int32) (t_row : Nat → Int32) (t_rowSize : Int32) (t_steps : Int32) (t_foundMany : Int32) (t_keptMany : Int32) (t_keptLetters : Int32) (t_isFull : Int32) (t_isSaved : Int32) (t_savedKind : Int32) (t_savedExponent : Int32) (t_savedLetters : Int32) : va_W := [(h 0, .inr (11, [.int t_kind, .int t_exponent, .int t_letters, .ref (h 2), .ref (h 3), .ref (h 4), .ref (h 5), .ref (h 6), .ref (h 7), .int t_fed, .int t_at, .ref (h 1), .int t_rowSize, .int t_steps, .ref (h 8), .int t_foundMany, .ref (h 9), .int t_keptMany, .int t_keptLetters, .ref (h 10), .ref (h 11), .ref (h 12), .ref (h 13), .ref (h 14), .int t_isFull, .ref (h 15), .ref (h 16), .int t_isSaved, .int t_savedKind, .int t_savedExponent, .int t_savedLetters, .ref (h 17), .ref (h 18), .ref (h 19), .ref (h 20), .ref (h 21)])), (h 1, .inl (cy 0, 45, .inl t_row))]
def VX11_areMixed_34 (post : Int32 → Prop)  (t_letters : Int32) (t_row : Nat → Int32) (p1 : Int32) (p2 : Int32) (p3 : Int32) : Nat → Int32 → Prop
  | 0, _ => False
  | n + 1, x4 => (((t_letters * t_letters) ≤ x4) → post (1 : Int32)) ∧ (¬ ((t_letters * t_letters) ≤ x4) → ¬ t_letters = 0 ∧ (¬ t_letters = 0 ∧ (∀ y_11 : Int32, y_11 = (x4 - x4 / t_letters * t_letters) → VX11_countPairs (fun r_12 => ¬ t_letters = 0 ∧ (¬ t_letters = 0 ∧ (∀ y_15 : Int32, y_15 = (x4 - x4 / t_letters * t_letters) → VX11_countPairs (fun r_16 => ((r_12 = r_16) → VX11_areMixed_34 post t_letters t_row p1 p2 p3 n (x4 + 1)) ∧ (¬ (r_12 = r_16) → post (0 : Int32))) t_row p2 p3 (x4 / t_letters) y_15))) t_row p1 p3 (x4 / t_letters) y_11)))
def VX11_areMixed_19 (post : Int32 → Prop)  (t_letters : Int32) (t_row : Nat → Int32) (p1 : Int32) (p2 : Int32) (p3 : Int32)  : Prop := VX11_areAbelian (fun r_5 => (¬ (r_5 = 0) → ∃ n34 : Nat, VX11_areMixed_34 post t_letters t_row p1 p2 p3 n34 0) ∧ ((r_5 = 0) → post (0 : Int32))) t_letters t_row p1 p2 p3
def VX11_areMixed (post : Int32 → Prop)  (t_letters : Int32) (t_row : Nat → Int32) (p1 : Int32) (p2 : Int32) (p3 : Int32)  : Prop := ((p3 ≤ 0) → VX11_areMixed_19 post t_letters t_row p1 p2 p3 ) ∧ (¬ (p3 ≤ 0) → vp_in p1 45 ∧ (vp_in p2 45 ∧ ((¬ ((t_row p1.toNatClampNeg) = (t_row p2.toNatClampNeg)) → post (0 : Int32)) ∧ (((t_row p1.toNatClampNeg) = (t_row p2.toNatClampNeg)) → VX11_areMixed_19 post t_letters t_row p1 p2 p3 ))))
set_option maxHeartbeats 4000000 in
set_option maxRecDepth 100000 in
theorem wX11_areMixed_34 {p : Program} (l : Launch) {e : Env} {s : State} {m : MethodId} {args : Array Value} {below : List Frame} {meth : Method} {c : Code} {dC : Nat → ClassId} {dI : Nat → Nat → Nat} {cy : Nat → ClassId} {A : Nat → Prop} (h : Nat → Nat) (post : Int32 → Prop)   (t_kind : Int32) (t_exponent : Int32) (t_letters : Int32) (t_fed : Int32) (t_at : Int32) (t_row : Nat → Int32) (t_rowSize : Int32) (t_steps : Int32) (t_foundMany : Int32) (t_keptMany : Int32) (t_keptLetters : Int32) (t_isFull : Int32) (t_isSaved : Int32) (t_savedKind : Int32) (t_savedExponent : Int32) (t_savedLetters : Int32) (p1 : Int32) (p2 : Int32) (p3 : Int32) (C0 : cx p s m args meth c cX11_areMixed 5 (some .boolean) wsX11_areMixed RX11 dC dI cy A)  : ∀ (n : Nat) (x4 : Int32), VX11_areMixed_34 post t_letters t_row p1 p2 p3 n x4 → ∀ (H : Heap) (locs : List Loc) (ls : Array Slot), va_P (dC, dI) vwCl (pX11_areMixed cy h t_kind t_exponent t_letters t_fed t_at t_row t_rowSize t_steps t_foundMany t_keptMany t_keptLetters t_isFull t_isSaved t_savedKind t_savedExponent t_savedLetters) H → va_D A (pX11_areMixed cy h t_kind t_exponent t_letters t_fed t_at t_row t_rowSize t_steps t_foundMany t_keptMany t_keptLetters t_isFull t_isSaved t_savedKind t_savedExponent t_savedLetters) → va_S A s.heap H locs → lv_has ls 5 [(0, .ref (h 0)), (1, .int p1), (2, .int p2), (3, .int p3), (4, .int x4)] → W p l e rX11_areMixed s m args below meth c H locs 0 0 (MQ below (va_Qi (fun (r : Int32) (_ : Unit) => post r) (fun (_ : Unit) (t : State) => va_P (dC, dI) vwCl (pX11_areMixed cy h t_kind t_exponent t_letters t_fed t_at t_row t_rowSize t_steps t_foundMany t_keptMany t_keptLetters t_isFull t_isSaved t_savedKind t_savedExponent t_savedLetters) t.heap) A) args s 0 0 A) (F0 m 34 ls []) := by
  have C1 := C0
  obtain ⟨hx, hb, hr, hml, hown, hts, hlocks, hK, hA⟩ := C1
  intro n
  induction n with
  | zero => intro x4 hv; exact hv.elim
  | succ n ih =>
    intro x4 hv H locs ls hP hD hS hl
    refine lv_iload hx hb dX11_areMixed_34 (lv_at hl 4 rfl) ?_
    refine lv_aload_n hx hb dX11_areMixed_36 rfl (lv_at hl 0 rfl) ?_
    refine va_get (D := (dC, dI)) (ci := 11) (v := .int t_letters) (C := RX11) (T := TX11) (N := 36) hx hb hts nX11_areMixed_X11 hown hK hP 0 rfl rfl 2 (by decide) (hts _ mX11_areMixed_2) (fun _ h9 => h9) rfl dX11_areMixed_37 ?_
    refine lv_aload_n hx hb dX11_areMixed_40 rfl (lv_at hl 0 rfl) ?_
    refine va_get (D := (dC, dI)) (ci := 11) (v := .int t_letters) (C := RX11) (T := TX11) (N := 36) hx hb hts nX11_areMixed_X11 hown hK hP 0 rfl rfl 2 (by decide) (hts _ mX11_areMixed_2) (fun _ h9 => h9) rfl dX11_areMixed_41 ?_
    refine lv_imul hx hb dX11_areMixed_44 ?_
    refine lv_icmp_ge (tgt := 99) hx hb dX11_areMixed_45 (by decide) (fun c_20 => ?_) (fun c_20 => ?_)
    · have hv := hv.1 c_20
      refine lv_iconst (v := 1) hx hb dX11_areMixed_99 (by decide) ?_
      exact W.zret (v := 1) hx hb hr rfl (fun t ht hW => ⟨⟨1, (), rfl, hv, va_Ph ht hP⟩, hS.F ht⟩) hS.2.2 dX11_areMixed_100
    · have hv := hv.2 c_20
      refine lv_aload_n hx hb dX11_areMixed_48 rfl (lv_at hl 0 rfl) ?_
      refine lv_iload_n hx hb dX11_areMixed_49 rfl (lv_at hl 1 rfl) ?_
      refine lv_iload_n hx hb dX11_areMixed_50 rfl (lv_at hl 3 rfl) ?_
      refine lv_iload hx hb dX11_areMixed_51 (lv_at hl 4 rfl) ?_
      refine lv_aload_n hx hb dX11_areMixed_53 rfl (lv_at hl 0 rfl) ?_
      refine va_get (D := (dC, dI)) (ci := 11) (v := .int t_letters) (C := RX11) (T := TX11) (N := 36) hx hb hts nX11_areMixed_X11 hown hK hP 0 rfl rfl 2 (by decide) (hts _ mX11_areMixed_2) (fun _ h9 => h9) rfl dX11_areMixed_54 ?_
      have hz_9 := hv.1
      have hv := hv.2
      refine lv_idiv hx hb dX11_areMixed_57 hz_9 ?_
      refine lv_iload hx hb dX11_areMixed_58 (lv_at hl 4 rfl) ?_
      refine lv_aload_n hx hb dX11_areMixed_60 rfl (lv_at hl 0 rfl) ?_
      refine va_get (D := (dC, dI)) (ci := 11) (v := .int t_letters) (C := RX11) (T := TX11) (N := 36) hx hb hts nX11_areMixed_X11 hown hK hP 0 rfl rfl 2 (by decide) (hts _ mX11_areMixed_2) (fun _ h9 => h9) rfl dX11_areMixed_61 ?_
      have hz_10 := hv.1
      have hv := hv.2
      refine lv_irem hx hb dX11_areMixed_64 hz_10 ?_
      refine lv_topi (fun y_11 ey_11 => ?_)
      have hv := hv y_11 ey_11
      refine cb_VI (As := [.int p1, .int p3, .int ((x4 / t_letters)), .int y_11]) (rest := []) ⟨hx, hb, hml, hown, hts⟩ (kX11_countPairs l dC dI cy (adl [h 0, h 1, h 2, h 3, h 4, h 5, h 6, h 7, h 8, h 9, h 10, h 11, h 12, h 13, h 14, h 15, h 16, h 17, h 18, h 19, h 20, h 21]) t_kind t_exponent t_letters t_fed t_at t_row t_rowSize t_steps t_foundMany t_keptMany t_keptLetters t_isFull t_isSaved t_savedKind t_savedExponent t_savedLetters p1 p3 (x4 / t_letters) y_11 _ hv) (cwV 4 hts gX11_areMixed_X11_countPairs rfl rfl rfl zX11_countPairs ⟨Nat.le_of_ble_eq_true rfl, Nat.le_of_ble_eq_true rfl⟩) hK hP hD hS hA [0, 1] [some 0, some 1] rfl rfl rfl (ci := 11) rfl rfl (fun _ => rfl) rfl hl.1 rfl (Nat.le_of_ble_eq_true rfl) dX11_areMixed_65 (fun r_12 w_19 H locs hv hP hD hS => ?_)
      have hP : va_P (dC, dI) vwCl (pX11_areMixed cy h t_kind t_exponent t_letters t_fed t_at t_row t_rowSize t_steps t_foundMany t_keptMany t_keptLetters t_isFull t_isSaved t_savedKind t_savedExponent t_savedLetters) H := hP
      have hD : va_D A (pX11_areMixed cy h t_kind t_exponent t_letters t_fed t_at t_row t_rowSize t_steps t_foundMany t_keptMany t_keptLetters t_isFull t_isSaved t_savedKind t_savedExponent t_savedLetters) := hD
      refine lv_aload_n hx hb dX11_areMixed_68 rfl (lv_at hl 0 rfl) ?_
      refine lv_iload_n hx hb dX11_areMixed_69 rfl (lv_at hl 2 rfl) ?_
      refine lv_iload_n hx hb dX11_areMixed_70 rfl (lv_at hl 3 rfl) ?_
      refine lv_iload hx hb dX11_areMixed_71 (lv_at hl 4 rfl) ?_
      refine lv_aload_n hx hb dX11_areMixed_73 rfl (lv_at hl 0 rfl) ?_
      refine va_get (D := (dC, dI)) (ci := 11) (v := .int t_letters) (C := RX11) (T := TX11) (N := 36) hx hb hts nX11_areMixed_X11 hown hK hP 0 rfl rfl 2 (by decide) (hts _ mX11_areMixed_2) (fun _ h9 => h9) rfl dX11_areMixed_74 ?_
      have hz_13 := hv.1
      have hv := hv.2
      refine lv_idiv hx hb dX11_areMixed_77 hz_13 ?_
      refine lv_iload hx hb dX11_areMixed_78 (lv_at hl 4 rfl) ?_
      refine lv_aload_n hx hb dX11_areMixed_80 rfl (lv_at hl 0 rfl) ?_
      refine va_get (D := (dC, dI)) (ci := 11) (v := .int t_letters) (C := RX11) (T := TX11) (N := 36) hx hb hts nX11_areMixed_X11 hown hK hP 0 rfl rfl 2 (by decide) (hts _ mX11_areMixed_2) (fun _ h9 => h9) rfl dX11_areMixed_81 ?_
      have hz_14 := hv.1
      have hv := hv.2
      refine lv_irem hx hb dX11_areMixed_84 hz_14 ?_
      refine lv_topi (fun y_15 ey_15 => ?_)
      have hv := hv y_15 ey_15
      refine cb_VI (As := [.int p2, .int p3, .int ((x4 / t_letters)), .int y_15]) (rest := [.int r_12]) ⟨hx, hb, hml, hown, hts⟩ (kX11_countPairs l dC dI cy (adl [h 0, h 1, h 2, h 3, h 4, h 5, h 6, h 7, h 8, h 9, h 10, h 11, h 12, h 13, h 14, h 15, h 16, h 17, h 18, h 19, h 20, h 21]) t_kind t_exponent t_letters t_fed t_at t_row t_rowSize t_steps t_foundMany t_keptMany t_keptLetters t_isFull t_isSaved t_savedKind t_savedExponent t_savedLetters p2 p3 (x4 / t_letters) y_15 _ hv) (cwV 4 hts gX11_areMixed_X11_countPairs rfl rfl rfl zX11_countPairs ⟨Nat.le_of_ble_eq_true rfl, Nat.le_of_ble_eq_true rfl⟩) hK hP hD hS hA [0, 1] [some 0, some 1] rfl rfl rfl (ci := 11) rfl rfl (fun _ => rfl) rfl hl.1 rfl (Nat.le_of_ble_eq_true rfl) dX11_areMixed_85 (fun r_16 w_18 H locs hv hP hD hS => ?_)
      have hP : va_P (dC, dI) vwCl (pX11_areMixed cy h t_kind t_exponent t_letters t_fed t_at t_row t_rowSize t_steps t_foundMany t_keptMany t_keptLetters t_isFull t_isSaved t_savedKind t_savedExponent t_savedLetters) H := hP
      have hD : va_D A (pX11_areMixed cy h t_kind t_exponent t_letters t_fed t_at t_row t_rowSize t_steps t_foundMany t_keptMany t_keptLetters t_isFull t_isSaved t_savedKind t_savedExponent t_savedLetters) := hD
      refine lv_icmp_eq (tgt := 93) hx hb dX11_areMixed_88 (by decide) (fun c_17 => ?_) (fun c_17 => ?_)
      · have hv := hv.1 c_17
        refine lv_iinc (v := (x4 + 1)) (lv' := [(4, .int ((x4 + 1))), (0, .ref (h 0)), (1, .int p1), (2, .int p2), (3, .int p3)]) hx hb dX11_areMixed_93 hl (k := 4) rfl rfl (by decide) rfl (fun ls hl => ?_)
        refine lv_goto (tgt := 34) hx hb dX11_areMixed_96 (by decide) ?_
        exact ih (x4 + 1) hv _ _ _ hP hD hS (lv_sub hl [1, 2, 3, 4, 0] rfl)
      · have hv := hv.2 c_17
        refine lv_iconst (v := 0) hx hb dX11_areMixed_91 (by decide) ?_
        exact W.zret (v := 0) hx hb hr rfl (fun t ht hW => ⟨⟨0, (), rfl, hv, va_Ph ht hP⟩, hS.F ht⟩) hS.2.2 dX11_areMixed_92
set_option maxHeartbeats 4000000 in
set_option maxRecDepth 100000 in
theorem wX11_areMixed_19 {p : Program} (l : Launch) {e : Env} {s : State} {m : MethodId} {args : Array Value} {below : List Frame} {meth : Method} {c : Code} {dC : Nat → ClassId} {dI : Nat → Nat → Nat} {cy : Nat → ClassId} {A : Nat → Prop} (h : Nat → Nat) (post : Int32 → Prop)   (t_kind : Int32) (t_exponent : Int32) (t_letters : Int32) (t_fed : Int32) (t_at : Int32) (t_row : Nat → Int32) (t_rowSize : Int32) (t_steps : Int32) (t_foundMany : Int32) (t_keptMany : Int32) (t_keptLetters : Int32) (t_isFull : Int32) (t_isSaved : Int32) (t_savedKind : Int32) (t_savedExponent : Int32) (t_savedLetters : Int32) (p1 : Int32) (p2 : Int32) (p3 : Int32) (C0 : cx p s m args meth c cX11_areMixed 5 (some .boolean) wsX11_areMixed RX11 dC dI cy A)  : VX11_areMixed_19 post t_letters t_row p1 p2 p3  → ∀ (H : Heap) (locs : List Loc) (ls : Array Slot), va_P (dC, dI) vwCl (pX11_areMixed cy h t_kind t_exponent t_letters t_fed t_at t_row t_rowSize t_steps t_foundMany t_keptMany t_keptLetters t_isFull t_isSaved t_savedKind t_savedExponent t_savedLetters) H → va_D A (pX11_areMixed cy h t_kind t_exponent t_letters t_fed t_at t_row t_rowSize t_steps t_foundMany t_keptMany t_keptLetters t_isFull t_isSaved t_savedKind t_savedExponent t_savedLetters) → va_S A s.heap H locs → lv_has ls 5 [(0, .ref (h 0)), (1, .int p1), (2, .int p2), (3, .int p3)] → W p l e rX11_areMixed s m args below meth c H locs 0 0 (MQ below (va_Qi (fun (r : Int32) (_ : Unit) => post r) (fun (_ : Unit) (t : State) => va_P (dC, dI) vwCl (pX11_areMixed cy h t_kind t_exponent t_letters t_fed t_at t_row t_rowSize t_steps t_foundMany t_keptMany t_keptLetters t_isFull t_isSaved t_savedKind t_savedExponent t_savedLetters) t.heap) A) args s 0 0 A) (F0 m 19 ls []) := by
  have C1 := C0
  obtain ⟨hx, hb, hr, hml, hown, hts, hlocks, hK, hA⟩ := C1
  intro  hv H locs ls hP hD hS hl
  refine lv_aload_n hx hb dX11_areMixed_19 rfl (lv_at hl 0 rfl) ?_
  refine lv_iload_n hx hb dX11_areMixed_20 rfl (lv_at hl 1 rfl) ?_
  refine lv_iload_n hx hb dX11_areMixed_21 rfl (lv_at hl 2 rfl) ?_
  refine lv_iload_n hx hb dX11_areMixed_22 rfl (lv_at hl 3 rfl) ?_
  refine cb_VI (As := [.int p1, .int p2, .int p3]) (rest := []) ⟨hx, hb, hml, hown, hts⟩ (kX11_areAbelian l dC dI cy (adl [h 0, h 1, h 2, h 3, h 4, h 5, h 6, h 7, h 8, h 9, h 10, h 11, h 12, h 13, h 14, h 15, h 16, h 17, h 18, h 19, h 20, h 21]) t_kind t_exponent t_letters t_fed t_at t_row t_rowSize t_steps t_foundMany t_keptMany t_keptLetters t_isFull t_isSaved t_savedKind t_savedExponent t_savedLetters p1 p2 p3 _ hv) (cwV 3 hts gX11_areMixed_X11_areAbelian rfl rfl rfl zX11_areAbelian ⟨Nat.le_of_ble_eq_true rfl, Nat.le_of_ble_eq_true rfl⟩) hK hP hD hS hA [0, 1] [some 0, some 1] rfl rfl rfl (ci := 11) rfl rfl (fun _ => rfl) rfl hl.1 rfl (Nat.le_of_ble_eq_true rfl) dX11_areMixed_23 (fun r_5 w_8 H locs hv hP hD hS => ?_)
  have hP : va_P (dC, dI) vwCl (pX11_areMixed cy h t_kind t_exponent t_letters t_fed t_at t_row t_rowSize t_steps t_foundMany t_keptMany t_keptLetters t_isFull t_isSaved t_savedKind t_savedExponent t_savedLetters) H := hP
  have hD : va_D A (pX11_areMixed cy h t_kind t_exponent t_letters t_fed t_at t_row t_rowSize t_steps t_foundMany t_keptMany t_keptLetters t_isFull t_isSaved t_savedKind t_savedExponent t_savedLetters) := hD
  refine lv_if_ne (tgt := 31) hx hb dX11_areMixed_26 (by decide) (fun c_7 => ?_) (fun c_7 => ?_)
  · have hv := hv.1 c_7
    refine lv_iconst (v := 0) hx hb dX11_areMixed_31 (by decide) ?_
    refine lv_istore (lv' := [(4, .int 0), (0, .ref (h 0)), (1, .int p1), (2, .int p2), (3, .int p3)]) hx hb dX11_areMixed_32 hl (by decide) rfl (fun ls hl => ?_)
    obtain ⟨n_6, hv⟩ := hv
    exact wX11_areMixed_34 l h post  t_kind t_exponent t_letters t_fed t_at t_row t_rowSize t_steps t_foundMany t_keptMany t_keptLetters t_isFull t_isSaved t_savedKind t_savedExponent t_savedLetters p1 p2 p3 C0 n_6 0 hv _ _ _ hP hD hS (lv_sub hl [1, 2, 3, 4, 0] rfl)
  · have hv := hv.2 c_7
    refine lv_iconst (v := 0) hx hb dX11_areMixed_29 (by decide) ?_
    exact W.zret (v := 0) hx hb hr rfl (fun t ht hW => ⟨⟨0, (), rfl, hv, va_Ph ht hP⟩, hS.F ht⟩) hS.2.2 dX11_areMixed_30
set_option maxHeartbeats 4000000 in
set_option maxRecDepth 100000 in
theorem wX11_areMixed_0 {p : Program} (l : Launch) {e : Env} {s : State} {m : MethodId} {args : Array Value} {below : List Frame} {meth : Method} {c : Code} {dC : Nat → ClassId} {dI : Nat → Nat → Nat} {cy : Nat → ClassId} {A : Nat → Prop} (h : Nat → Nat) (post : Int32 → Prop)   (t_kind : Int32) (t_exponent : Int32) (t_letters : Int32) (t_fed : Int32) (t_at : Int32) (t_row : Nat → Int32) (t_rowSize : Int32) (t_steps : Int32) (t_foundMany : Int32) (t_keptMany : Int32) (t_keptLetters : Int32) (t_isFull : Int32) (t_isSaved : Int32) (t_savedKind : Int32) (t_savedExponent : Int32) (t_savedLetters : Int32) (p1 : Int32) (p2 : Int32) (p3 : Int32) (C0 : cx p s m args meth c cX11_areMixed 5 (some .boolean) wsX11_areMixed RX11 dC dI cy A)  : VX11_areMixed post t_letters t_row p1 p2 p3  → ∀ (H : Heap) (locs : List Loc) (ls : Array Slot), va_P (dC, dI) vwCl (pX11_areMixed cy h t_kind t_exponent t_letters t_fed t_at t_row t_rowSize t_steps t_foundMany t_keptMany t_keptLetters t_isFull t_isSaved t_savedKind t_savedExponent t_savedLetters) H → va_D A (pX11_areMixed cy h t_kind t_exponent t_letters t_fed t_at t_row t_rowSize t_steps t_foundMany t_keptMany t_keptLetters t_isFull t_isSaved t_savedKind t_savedExponent t_savedLetters) → va_S A s.heap H locs → lv_has ls 5 [(0, .ref (h 0)), (1, .int p1), (2, .int p2), (3, .int p3)] → W p l e rX11_areMixed s m args below meth c H locs 0 0 (MQ below (va_Qi (fun (r : Int32) (_ : Unit) => post r) (fun (_ : Unit) (t : State) => va_P (dC, dI) vwCl (pX11_areMixed cy h t_kind t_exponent t_letters t_fed t_at t_row t_rowSize t_steps t_foundMany t_keptMany t_keptLetters t_isFull t_isSaved t_savedKind t_savedExponent t_savedLetters) t.heap) A) args s 0 0 A) (F0 m 0 ls []) := by
  have C1 := C0
  obtain ⟨hx, hb, hr, hml, hown, hts, hlocks, hK, hA⟩ := C1
  intro  hv H locs ls hP hD hS hl
  refine lv_iload_n hx hb dX11_areMixed_0 rfl (lv_at hl 3 rfl) ?_
  refine lv_if_le (tgt := 19) hx hb dX11_areMixed_1 (by decide) (fun c_4 => ?_) (fun c_4 => ?_)
  · have hv := hv.1 c_4
    exact wX11_areMixed_19 l h post  t_kind t_exponent t_letters t_fed t_at t_row t_rowSize t_steps t_foundMany t_keptMany t_keptLetters t_isFull t_isSaved t_savedKind t_savedExponent t_savedLetters p1 p2 p3 C0  hv _ _ _ hP hD hS (lv_sub hl [0, 1, 2, 3] rfl)
  · have hv := hv.2 c_4
    refine lv_aload_n hx hb dX11_areMixed_4 rfl (lv_at hl 0 rfl) ?_
    refine va_get (D := (dC, dI)) (ci := 11) (v := .ref (h 1)) (C := RX11) (T := TX11) (N := 36) hx hb hts nX11_areMixed_X11 hown hK hP 0 rfl rfl 11 (by decide) (hts _ mX11_areMixed_1) (fun _ h9 => h9) rfl dX11_areMixed_5 ?_
    refine lv_iload_n hx hb dX11_areMixed_8 rfl (lv_at hl 1 rfl) ?_
    have h_1 := hv.1
    have hv := hv.2
    refine va_iald hx hb hK hP 1 0 rfl rfl h_1 dX11_areMixed_9 ?_
    refine lv_aload_n hx hb dX11_areMixed_10 rfl (lv_at hl 0 rfl) ?_
    refine va_get (D := (dC, dI)) (ci := 11) (v := .ref (h 1)) (C := RX11) (T := TX11) (N := 36) hx hb hts nX11_areMixed_X11 hown hK hP 0 rfl rfl 11 (by decide) (hts _ mX11_areMixed_1) (fun _ h9 => h9) rfl dX11_areMixed_11 ?_
    refine lv_iload_n hx hb dX11_areMixed_14 rfl (lv_at hl 2 rfl) ?_
    have h_2 := hv.1
    have hv := hv.2
    refine va_iald hx hb hK hP 1 0 rfl rfl h_2 dX11_areMixed_15 ?_
    refine lv_icmp_ne (tgt := 29) hx hb dX11_areMixed_16 (by decide) (fun c_3 => ?_) (fun c_3 => ?_)
    · have hv := hv.1 c_3
      refine lv_iconst (v := 0) hx hb dX11_areMixed_29 (by decide) ?_
      exact W.zret (v := 0) hx hb hr rfl (fun t ht hW => ⟨⟨0, (), rfl, hv, va_Ph ht hP⟩, hS.F ht⟩) hS.2.2 dX11_areMixed_30
    · have hv := hv.2 c_3
      exact wX11_areMixed_19 l h post  t_kind t_exponent t_letters t_fed t_at t_row t_rowSize t_steps t_foundMany t_keptMany t_keptLetters t_isFull t_isSaved t_savedKind t_savedExponent t_savedLetters p1 p2 p3 C0  hv _ _ _ hP hD hS (lv_sub hl [0, 1, 2, 3] rfl)
theorem kX11_areMixed (l : Launch) (dC : Nat → ClassId) (dI : Nat → Nat → Nat) (cy : Nat → ClassId) (h : Nat → Nat) (t_kind : Int32) (t_exponent : Int32) (t_letters : Int32) (t_fed : Int32) (t_at : Int32) (t_row : Nat → Int32) (t_rowSize : Int32) (t_steps : Int32) (t_foundMany : Int32) (t_keptMany : Int32) (t_keptLetters : Int32) (t_isFull : Int32) (t_isSaved : Int32) (t_savedKind : Int32) (t_savedExponent : Int32) (t_savedLetters : Int32) (p1 : Int32) (p2 : Int32) (p3 : Int32) (post : Int32 → Prop) (hv : VX11_areMixed post t_letters t_row p1 p2 p3 ) : CtI l yX11_areMixed wsX11_areMixed rX11_areMixed dC dI cy [.ref (h 0), .int p1, .int p2, .int p3] (pX11_areMixed cy h t_kind t_exponent t_letters t_fed t_at t_row t_rowSize t_steps t_foundMany t_keptMany t_keptLetters t_isFull t_isSaved t_savedKind t_savedExponent t_savedLetters) (fun (_ : Unit) => pX11_areMixed cy h t_kind t_exponent t_letters t_fed t_at t_row t_rowSize t_steps t_foundMany t_keptMany t_keptLetters t_isFull t_isSaved t_savedKind t_savedExponent t_savedLetters) (fun (r : Int32) (_ : Unit) => post r) :=
  ct_ofI (by decide) rfl (Nat.le_of_ble_eq_true rfl) (fun p e s m below meth c A ls C0 hP hD hS hl => wX11_areMixed_0 l h post t_kind t_exponent t_letters t_fed t_at t_row t_rowSize t_steps t_foundMany t_keptMany t_keptLetters t_isFull t_isSaved t_savedKind t_savedExponent t_savedLetters p1 p2 p3 C0  hv _ _ _ hP hD hS hl)
theorem mX11_areAlike_1 : (Cond.fieldLink RX11 7 "AbelianPowersModel" "kind" "I") ∈ wsX11_areAlike := List.mem_of_getElem? (i := 1) rfl
theorem nX11_areAlike_X11 : ∀ w ∈ wsX110, w ∈ wsX11_areAlike := fun _ h => List.mem_cons_of_mem _ (List.mem_append_right _ h)
theorem zX11_areAlike : yX11_areAlike.cls = RX11 ∧ yX11_areAlike.cls ≠ "java/lang/invoke/MethodHandle" ∧ yX11_areAlike.cls ≠ "java/lang/invoke/VarHandle" ∧ (parseMethodDescriptor yX11_areAlike.desc).map (fun d => d.parameters.length) = some 3 := by decide +kernel
abbrev rX11_areAlike : Room := { frames := 3, cells := 0, slots := 0, locals := 73 }
abbrev pX11_areAlike (cy : Nat → ClassId) (h : Nat → Nat) (t_kind : Int32) (t_exponent : Int32) (t_letters : Int32) (t_values : Nat → Int32) (t_fed : Int32) (t_at : Int32) (t_row : Nat → Int32) (t_rowSize : Int32) (t_steps : Int32) (t_foundMany : Int32) (t_keptMany : Int32) (t_keptLetters : Int32) (t_isFull : Int32) (t_isSaved : Int32) (t_savedKind : Int32) (t_savedExponent : Int32) (t_savedLetters : Int32) : va_W := [(h 0, .inr (11, [.int t_kind, .int t_exponent, .int t_letters, .ref (h 1), .ref (h 3), .ref (h 4), .ref (h 5), .ref (h 6), .ref (h 7), .int t_fed, .int t_at, .ref (h 2), .int t_rowSize, .int t_steps, .ref (h 8), .int t_foundMany, .ref (h 9), .int t_keptMany, .int t_keptLetters, .ref (h 10), .ref (h 11), .ref (h 12), .ref (h 13), .ref (h 14), .int t_isFull, .ref (h 15), .ref (h 16), .int t_isSaved, .int t_savedKind, .int t_savedExponent, .int t_savedLetters, .ref (h 17), .ref (h 18), .ref (h 19), .ref (h 20), .ref (h 21)])), (h 1, .inl (cy 0, 4, .inl t_values)), (h 2, .inl (cy 0, 45, .inl t_row))]
def VX11_areAlike (post : Int32 → Prop)  (t_kind : Int32) (t_letters : Int32) (t_values : Nat → Int32) (t_row : Nat → Int32) (p1 : Int32) (p2 : Int32) (p3 : Int32)  : Prop := ((t_kind.toInt < 0 ∨ 3 < t_kind.toInt) → VX11_areAbelian (fun r_12 => vbo r_12 ∧ post r_12) t_letters t_row p1 p2 p3) ∧ (t_kind = 0 → VX11_areEqual (fun r_1 => vbo r_1 ∧ post r_1) t_row p1 p2 p3) ∧ (t_kind = 1 → VX11_areAbelian (fun r_3 => vbo r_3 ∧ post r_3) t_letters t_row p1 p2 p3) ∧ (t_kind = 2 → VX11_sum (fun r_5 => VX11_sum (fun r_6 => (¬ (r_5 = r_6) → post (0 : Int32)) ∧ ((r_5 = r_6) → post (1 : Int32))) t_values t_row p2 p3) t_values t_row p1 p3) ∧ (t_kind = 3 → VX11_areMixed (fun r_10 => vbo r_10 ∧ post r_10) t_letters t_row p1 p2 p3)
set_option maxHeartbeats 4000000 in
set_option maxRecDepth 100000 in
theorem wX11_areAlike_0 {p : Program} (l : Launch) {e : Env} {s : State} {m : MethodId} {args : Array Value} {below : List Frame} {meth : Method} {c : Code} {dC : Nat → ClassId} {dI : Nat → Nat → Nat} {cy : Nat → ClassId} {A : Nat → Prop} (h : Nat → Nat) (post : Int32 → Prop)   (t_kind : Int32) (t_exponent : Int32) (t_letters : Int32) (t_values : Nat → Int32) (t_fed : Int32) (t_at : Int32) (t_row : Nat → Int32) (t_rowSize : Int32) (t_steps : Int32) (t_foundMany : Int32) (t_keptMany : Int32) (t_keptLetters : Int32) (t_isFull : Int32) (t_isSaved : Int32) (t_savedKind : Int32) (t_savedExponent : Int32) (t_savedLetters : Int32) (p1 : Int32) (p2 : Int32) (p3 : Int32) (C0 : cx p s m args meth c cX11_areAlike 4 (some .boolean) wsX11_areAlike RX11 dC dI cy A)  : VX11_areAlike post t_kind t_letters t_values t_row p1 p2 p3  → ∀ (H : Heap) (locs : List Loc) (ls : Array Slot), va_P (dC, dI) vwCl (pX11_areAlike cy h t_kind t_exponent t_letters t_values t_fed t_at t_row t_rowSize t_steps t_foundMany t_keptMany t_keptLetters t_isFull t_isSaved t_savedKind t_savedExponent t_savedLetters) H → va_D A (pX11_areAlike cy h t_kind t_exponent t_letters t_values t_fed t_at t_row t_rowSize t_steps t_foundMany t_keptMany t_keptLetters t_isFull t_isSaved t_savedKind t_savedExponent t_savedLetters) → va_S A s.heap H locs → lv_has ls 4 [(0, .ref (h 0)), (1, .int p1), (2, .int p2), (3, .int p3)] → W p l e rX11_areAlike s m args below meth c H locs 0 0 (MQ below (va_Qi (fun (r : Int32) (_ : Unit) => post r) (fun (_ : Unit) (t : State) => va_P (dC, dI) vwCl (pX11_areAlike cy h t_kind t_exponent t_letters t_values t_fed t_at t_row t_rowSize t_steps t_foundMany t_keptMany t_keptLetters t_isFull t_isSaved t_savedKind t_savedExponent t_savedLetters) t.heap) A) args s 0 0 A) (F0 m 0 ls []) := by
  have C1 := C0
  obtain ⟨hx, hb, hr, hml, hown, hts, hlocks, hK, hA⟩ := C1
  intro  hv H locs ls hP hD hS hl
  refine lv_aload_n hx hb dX11_areAlike_0 rfl (lv_at hl 0 rfl) ?_
  refine va_get (D := (dC, dI)) (ci := 11) (v := .int t_kind) (C := RX11) (T := TX11) (N := 36) hx hb hts nX11_areAlike_X11 hown hK hP 0 rfl rfl 0 (by decide) (hts _ mX11_areAlike_1) (fun _ h9 => h9) rfl dX11_areAlike_1 ?_
  by_cases c_14 : (t_kind.toInt < 0 ∨ 3 < t_kind.toInt)
  · have hv := hv.1 c_14
    refine lv_tableOut (tgt := 73) hx hb dX11_areAlike_4 c_14 (by decide) ?_
    refine lv_aload_n hx hb dX11_areAlike_73 rfl (lv_at hl 0 rfl) ?_
    refine lv_iload_n hx hb dX11_areAlike_74 rfl (lv_at hl 1 rfl) ?_
    refine lv_iload_n hx hb dX11_areAlike_75 rfl (lv_at hl 2 rfl) ?_
    refine lv_iload_n hx hb dX11_areAlike_76 rfl (lv_at hl 3 rfl) ?_
    refine cb_VI (As := [.int p1, .int p2, .int p3]) (rest := []) ⟨hx, hb, hml, hown, hts⟩ (kX11_areAbelian l dC dI cy (adl [h 0, h 2, h 1, h 3, h 4, h 5, h 6, h 7, h 8, h 9, h 10, h 11, h 12, h 13, h 14, h 15, h 16, h 17, h 18, h 19, h 20, h 21]) t_kind t_exponent t_letters t_fed t_at t_row t_rowSize t_steps t_foundMany t_keptMany t_keptLetters t_isFull t_isSaved t_savedKind t_savedExponent t_savedLetters p1 p2 p3 _ hv) (cwV 3 hts gX11_areAlike_X11_areAbelian rfl rfl rfl zX11_areAbelian ⟨Nat.le_of_ble_eq_true rfl, Nat.le_of_ble_eq_true rfl⟩) hK hP hD hS hA [0, 2] [some 0, none, some 1] rfl rfl rfl (ci := 11) rfl rfl (fun _ => rfl) rfl hl.1 rfl (Nat.le_of_ble_eq_true rfl) dX11_areAlike_77 (fun r_12 w_13 H locs hv hP hD hS => ?_)
    have hP : va_P (dC, dI) vwCl (pX11_areAlike cy h t_kind t_exponent t_letters t_values t_fed t_at t_row t_rowSize t_steps t_foundMany t_keptMany t_keptLetters t_isFull t_isSaved t_savedKind t_savedExponent t_savedLetters) H := hP
    have hD : va_D A (pX11_areAlike cy h t_kind t_exponent t_letters t_values t_fed t_at t_row t_rowSize t_steps t_foundMany t_keptMany t_keptLetters t_isFull t_isSaved t_savedKind t_savedExponent t_savedLetters) := hD
    exact W.zret (v := r_12) hx hb hr hv.1 (fun t ht hW => ⟨⟨r_12, (), rfl, hv.2, va_Ph ht hP⟩, hS.F ht⟩) hS.2.2 dX11_areAlike_80
  · rcases sw_4 t_kind c_14 with c_14 | c_14 | c_14 | c_14
    · have hv := hv.2.1 c_14
      refine lv_tableIn (tgt := 36) hx hb dX11_areAlike_4 (by rw [c_14]; decide) (by rw [c_14]; decide) (by rw [c_14]; rfl) (by decide) ?_
      refine lv_aload_n hx hb dX11_areAlike_36 rfl (lv_at hl 0 rfl) ?_
      refine lv_iload_n hx hb dX11_areAlike_37 rfl (lv_at hl 1 rfl) ?_
      refine lv_iload_n hx hb dX11_areAlike_38 rfl (lv_at hl 2 rfl) ?_
      refine lv_iload_n hx hb dX11_areAlike_39 rfl (lv_at hl 3 rfl) ?_
      refine cb_VI (As := [.int p1, .int p2, .int p3]) (rest := []) ⟨hx, hb, hml, hown, hts⟩ (kX11_areEqual l dC dI cy (adl [h 0, h 2, h 1, h 3, h 4, h 5, h 6, h 7, h 8, h 9, h 10, h 11, h 12, h 13, h 14, h 15, h 16, h 17, h 18, h 19, h 20, h 21]) t_kind t_exponent t_letters t_fed t_at t_row t_rowSize t_steps t_foundMany t_keptMany t_keptLetters t_isFull t_isSaved t_savedKind t_savedExponent t_savedLetters p1 p2 p3 _ hv) (cwV 3 hts gX11_areAlike_X11_areEqual rfl rfl rfl zX11_areEqual ⟨Nat.le_of_ble_eq_true rfl, Nat.le_of_ble_eq_true rfl⟩) hK hP hD hS hA [0, 2] [some 0, none, some 1] rfl rfl rfl (ci := 11) rfl rfl (fun _ => rfl) rfl hl.1 rfl (Nat.le_of_ble_eq_true rfl) dX11_areAlike_40 (fun r_1 w_2 H locs hv hP hD hS => ?_)
      have hP : va_P (dC, dI) vwCl (pX11_areAlike cy h t_kind t_exponent t_letters t_values t_fed t_at t_row t_rowSize t_steps t_foundMany t_keptMany t_keptLetters t_isFull t_isSaved t_savedKind t_savedExponent t_savedLetters) H := hP
      have hD : va_D A (pX11_areAlike cy h t_kind t_exponent t_letters t_values t_fed t_at t_row t_rowSize t_steps t_foundMany t_keptMany t_keptLetters t_isFull t_isSaved t_savedKind t_savedExponent t_savedLetters) := hD
      exact W.zret (v := r_1) hx hb hr hv.1 (fun t ht hW => ⟨⟨r_1, (), rfl, hv.2, va_Ph ht hP⟩, hS.F ht⟩) hS.2.2 dX11_areAlike_43
    · have hv := hv.2.2.1 c_14
      refine lv_tableIn (tgt := 73) hx hb dX11_areAlike_4 (by rw [c_14]; decide) (by rw [c_14]; decide) (by rw [c_14]; rfl) (by decide) ?_
      refine lv_aload_n hx hb dX11_areAlike_73 rfl (lv_at hl 0 rfl) ?_
      refine lv_iload_n hx hb dX11_areAlike_74 rfl (lv_at hl 1 rfl) ?_
      refine lv_iload_n hx hb dX11_areAlike_75 rfl (lv_at hl 2 rfl) ?_
      refine lv_iload_n hx hb dX11_areAlike_76 rfl (lv_at hl 3 rfl) ?_
      refine cb_VI (As := [.int p1, .int p2, .int p3]) (rest := []) ⟨hx, hb, hml, hown, hts⟩ (kX11_areAbelian l dC dI cy (adl [h 0, h 2, h 1, h 3, h 4, h 5, h 6, h 7, h 8, h 9, h 10, h 11, h 12, h 13, h 14, h 15, h 16, h 17, h 18, h 19, h 20, h 21]) t_kind t_exponent t_letters t_fed t_at t_row t_rowSize t_steps t_foundMany t_keptMany t_keptLetters t_isFull t_isSaved t_savedKind t_savedExponent t_savedLetters p1 p2 p3 _ hv) (cwV 3 hts gX11_areAlike_X11_areAbelian rfl rfl rfl zX11_areAbelian ⟨Nat.le_of_ble_eq_true rfl, Nat.le_of_ble_eq_true rfl⟩) hK hP hD hS hA [0, 2] [some 0, none, some 1] rfl rfl rfl (ci := 11) rfl rfl (fun _ => rfl) rfl hl.1 rfl (Nat.le_of_ble_eq_true rfl) dX11_areAlike_77 (fun r_3 w_4 H locs hv hP hD hS => ?_)
      have hP : va_P (dC, dI) vwCl (pX11_areAlike cy h t_kind t_exponent t_letters t_values t_fed t_at t_row t_rowSize t_steps t_foundMany t_keptMany t_keptLetters t_isFull t_isSaved t_savedKind t_savedExponent t_savedLetters) H := hP
      have hD : va_D A (pX11_areAlike cy h t_kind t_exponent t_letters t_values t_fed t_at t_row t_rowSize t_steps t_foundMany t_keptMany t_keptLetters t_isFull t_isSaved t_savedKind t_savedExponent t_savedLetters) := hD
      exact W.zret (v := r_3) hx hb hr hv.1 (fun t ht hW => ⟨⟨r_3, (), rfl, hv.2, va_Ph ht hP⟩, hS.F ht⟩) hS.2.2 dX11_areAlike_80
    · have hv := hv.2.2.2.1 c_14
      refine lv_tableIn (tgt := 44) hx hb dX11_areAlike_4 (by rw [c_14]; decide) (by rw [c_14]; decide) (by rw [c_14]; rfl) (by decide) ?_
      refine lv_aload_n hx hb dX11_areAlike_44 rfl (lv_at hl 0 rfl) ?_
      refine lv_iload_n hx hb dX11_areAlike_45 rfl (lv_at hl 1 rfl) ?_
      refine lv_iload_n hx hb dX11_areAlike_46 rfl (lv_at hl 3 rfl) ?_
      refine cb_VI (As := [.int p1, .int p3]) (rest := []) ⟨hx, hb, hml, hown, hts⟩ (kX11_sum l dC dI cy (adl [h 0, h 1, h 2, h 3, h 4, h 5, h 6, h 7, h 8, h 9, h 10, h 11, h 12, h 13, h 14, h 15, h 16, h 17, h 18, h 19, h 20, h 21]) t_kind t_exponent t_letters t_values t_fed t_at t_row t_rowSize t_steps t_foundMany t_keptMany t_keptLetters t_isFull t_isSaved t_savedKind t_savedExponent t_savedLetters p1 p3 _ hv) (cwV 2 hts gX11_areAlike_X11_sum rfl rfl rfl zX11_sum ⟨Nat.le_of_ble_eq_true rfl, Nat.le_of_ble_eq_true rfl⟩) hK hP hD hS hA [0, 1, 2] [some 0, some 1, some 2] rfl rfl rfl (ci := 11) rfl rfl (fun _ => rfl) rfl hl.1 rfl (Nat.le_of_ble_eq_true rfl) dX11_areAlike_47 (fun r_5 w_9 H locs hv hP hD hS => ?_)
      have hP : va_P (dC, dI) vwCl (pX11_areAlike cy h t_kind t_exponent t_letters t_values t_fed t_at t_row t_rowSize t_steps t_foundMany t_keptMany t_keptLetters t_isFull t_isSaved t_savedKind t_savedExponent t_savedLetters) H := hP
      have hD : va_D A (pX11_areAlike cy h t_kind t_exponent t_letters t_values t_fed t_at t_row t_rowSize t_steps t_foundMany t_keptMany t_keptLetters t_isFull t_isSaved t_savedKind t_savedExponent t_savedLetters) := hD
      refine lv_aload_n hx hb dX11_areAlike_50 rfl (lv_at hl 0 rfl) ?_
      refine lv_iload_n hx hb dX11_areAlike_51 rfl (lv_at hl 2 rfl) ?_
      refine lv_iload_n hx hb dX11_areAlike_52 rfl (lv_at hl 3 rfl) ?_
      refine cb_VI (As := [.int p2, .int p3]) (rest := [.int r_5]) ⟨hx, hb, hml, hown, hts⟩ (kX11_sum l dC dI cy (adl [h 0, h 1, h 2, h 3, h 4, h 5, h 6, h 7, h 8, h 9, h 10, h 11, h 12, h 13, h 14, h 15, h 16, h 17, h 18, h 19, h 20, h 21]) t_kind t_exponent t_letters t_values t_fed t_at t_row t_rowSize t_steps t_foundMany t_keptMany t_keptLetters t_isFull t_isSaved t_savedKind t_savedExponent t_savedLetters p2 p3 _ hv) (cwV 2 hts gX11_areAlike_X11_sum rfl rfl rfl zX11_sum ⟨Nat.le_of_ble_eq_true rfl, Nat.le_of_ble_eq_true rfl⟩) hK hP hD hS hA [0, 1, 2] [some 0, some 1, some 2] rfl rfl rfl (ci := 11) rfl rfl (fun _ => rfl) rfl hl.1 rfl (Nat.le_of_ble_eq_true rfl) dX11_areAlike_53 (fun r_6 w_8 H locs hv hP hD hS => ?_)
      have hP : va_P (dC, dI) vwCl (pX11_areAlike cy h t_kind t_exponent t_letters t_values t_fed t_at t_row t_rowSize t_steps t_foundMany t_keptMany t_keptLetters t_isFull t_isSaved t_savedKind t_savedExponent t_savedLetters) H := hP
      have hD : va_D A (pX11_areAlike cy h t_kind t_exponent t_letters t_values t_fed t_at t_row t_rowSize t_steps t_foundMany t_keptMany t_keptLetters t_isFull t_isSaved t_savedKind t_savedExponent t_savedLetters) := hD
      refine lv_icmp_ne (tgt := 63) hx hb dX11_areAlike_56 (by decide) (fun c_7 => ?_) (fun c_7 => ?_)
      · have hv := hv.1 c_7
        refine lv_iconst (v := 0) hx hb dX11_areAlike_63 (by decide) ?_
        exact W.zret (v := 0) hx hb hr rfl (fun t ht hW => ⟨⟨0, (), rfl, hv, va_Ph ht hP⟩, hS.F ht⟩) hS.2.2 dX11_areAlike_64
      · have hv := hv.2 c_7
        refine lv_iconst (v := 1) hx hb dX11_areAlike_59 (by decide) ?_
        refine lv_goto (tgt := 64) hx hb dX11_areAlike_60 (by decide) ?_
        exact W.zret (v := 1) hx hb hr rfl (fun t ht hW => ⟨⟨1, (), rfl, hv, va_Ph ht hP⟩, hS.F ht⟩) hS.2.2 dX11_areAlike_64
    · have hv := hv.2.2.2.2 c_14
      refine lv_tableIn (tgt := 65) hx hb dX11_areAlike_4 (by rw [c_14]; decide) (by rw [c_14]; decide) (by rw [c_14]; rfl) (by decide) ?_
      refine lv_aload_n hx hb dX11_areAlike_65 rfl (lv_at hl 0 rfl) ?_
      refine lv_iload_n hx hb dX11_areAlike_66 rfl (lv_at hl 1 rfl) ?_
      refine lv_iload_n hx hb dX11_areAlike_67 rfl (lv_at hl 2 rfl) ?_
      refine lv_iload_n hx hb dX11_areAlike_68 rfl (lv_at hl 3 rfl) ?_
      refine cb_VI (As := [.int p1, .int p2, .int p3]) (rest := []) ⟨hx, hb, hml, hown, hts⟩ (kX11_areMixed l dC dI cy (adl [h 0, h 2, h 1, h 3, h 4, h 5, h 6, h 7, h 8, h 9, h 10, h 11, h 12, h 13, h 14, h 15, h 16, h 17, h 18, h 19, h 20, h 21]) t_kind t_exponent t_letters t_fed t_at t_row t_rowSize t_steps t_foundMany t_keptMany t_keptLetters t_isFull t_isSaved t_savedKind t_savedExponent t_savedLetters p1 p2 p3 _ hv) (cwV 3 hts gX11_areAlike_X11_areMixed rfl rfl rfl zX11_areMixed ⟨Nat.le_of_ble_eq_true rfl, Nat.le_of_ble_eq_true rfl⟩) hK hP hD hS hA [0, 2] [some 0, none, some 1] rfl rfl rfl (ci := 11) rfl rfl (fun _ => rfl) rfl hl.1 rfl (Nat.le_of_ble_eq_true rfl) dX11_areAlike_69 (fun r_10 w_11 H locs hv hP hD hS => ?_)
      have hP : va_P (dC, dI) vwCl (pX11_areAlike cy h t_kind t_exponent t_letters t_values t_fed t_at t_row t_rowSize t_steps t_foundMany t_keptMany t_keptLetters t_isFull t_isSaved t_savedKind t_savedExponent t_savedLetters) H := hP
      have hD : va_D A (pX11_areAlike cy h t_kind t_exponent t_letters t_values t_fed t_at t_row t_rowSize t_steps t_foundMany t_keptMany t_keptLetters t_isFull t_isSaved t_savedKind t_savedExponent t_savedLetters) := hD
      exact W.zret (v := r_10) hx hb hr hv.1 (fun t ht hW => ⟨⟨r_10, (), rfl, hv.2, va_Ph ht hP⟩, hS.F ht⟩) hS.2.2 dX11_areAlike_72
theorem kX11_areAlike (l : Launch) (dC : Nat → ClassId) (dI : Nat → Nat → Nat) (cy : Nat → ClassId) (h : Nat → Nat) (t_kind : Int32) (t_exponent : Int32) (t_letters : Int32) (t_values : Nat → Int32) (t_fed : Int32) (t_at : Int32) (t_row : Nat → Int32) (t_rowSize : Int32) (t_steps : Int32) (t_foundMany : Int32) (t_keptMany : Int32) (t_keptLetters : Int32) (t_isFull : Int32) (t_isSaved : Int32) (t_savedKind : Int32) (t_savedExponent : Int32) (t_savedLetters : Int32) (p1 : Int32) (p2 : Int32) (p3 : Int32) (post : Int32 → Prop) (hv : VX11_areAlike post t_kind t_letters t_values t_row p1 p2 p3 ) : CtI l yX11_areAlike wsX11_areAlike rX11_areAlike dC dI cy [.ref (h 0), .int p1, .int p2, .int p3] (pX11_areAlike cy h t_kind t_exponent t_letters t_values t_fed t_at t_row t_rowSize t_steps t_foundMany t_keptMany t_keptLetters t_isFull t_isSaved t_savedKind t_savedExponent t_savedLetters) (fun (_ : Unit) => pX11_areAlike cy h t_kind t_exponent t_letters t_values t_fed t_at t_row t_rowSize t_steps t_foundMany t_keptMany t_keptLetters t_isFull t_isSaved t_savedKind t_savedExponent t_savedLetters) (fun (r : Int32) (_ : Unit) => post r) :=
  ct_ofI (by decide) rfl (Nat.le_of_ble_eq_true rfl) (fun p e s m below meth c A ls C0 hP hD hS hl => wX11_areAlike_0 l h post t_kind t_exponent t_letters t_values t_fed t_at t_row t_rowSize t_steps t_foundMany t_keptMany t_keptLetters t_isFull t_isSaved t_savedKind t_savedExponent t_savedLetters p1 p2 p3 C0  hv _ _ _ hP hD hS hl)
theorem mX11_isPower_1 : (Cond.fieldLink RX11 13 "AbelianPowersModel" "exponent" "I") ∈ wsX11_isPower := List.mem_of_getElem? (i := 1) rfl
theorem nX11_isPower_X11 : ∀ w ∈ wsX110, w ∈ wsX11_isPower := fun _ h => List.mem_cons_of_mem _ (List.mem_append_right _ h)
theorem zX11_isPower : yX11_isPower.cls = RX11 ∧ yX11_isPower.cls ≠ "java/lang/invoke/MethodHandle" ∧ yX11_isPower.cls ≠ "java/lang/invoke/VarHandle" ∧ (parseMethodDescriptor yX11_isPower.desc).map (fun d => d.parameters.length) = some 2 := by decide +kernel
abbrev rX11_isPower : Room := { frames := 4, cells := 0, slots := 0, locals := 96 }
abbrev pX11_isPower (cy : Nat → ClassId) (h : Nat → Nat) (t_kind : Int32) (t_exponent : Int32) (t_letters : Int32) (t_values : Nat → Int32) (t_fed : Int32) (t_at : Int32) (t_row : Nat → Int32) (t_rowSize : Int32) (t_steps : Int32) (t_foundMany : Int32) (t_keptMany : Int32) (t_keptLetters : Int32) (t_isFull : Int32) (t_isSaved : Int32) (t_savedKind : Int32) (t_savedExponent : Int32) (t_savedLetters : Int32) : va_W := [(h 0, .inr (11, [.int t_kind, .int t_exponent, .int t_letters, .ref (h 1), .ref (h 3), .ref (h 4), .ref (h 5), .ref (h 6), .ref (h 7), .int t_fed, .int t_at, .ref (h 2), .int t_rowSize, .int t_steps, .ref (h 8), .int t_foundMany, .ref (h 9), .int t_keptMany, .int t_keptLetters, .ref (h 10), .ref (h 11), .ref (h 12), .ref (h 13), .ref (h 14), .int t_isFull, .ref (h 15), .ref (h 16), .int t_isSaved, .int t_savedKind, .int t_savedExponent, .int t_savedLetters, .ref (h 17), .ref (h 18), .ref (h 19), .ref (h 20), .ref (h 21)])), (h 1, .inl (cy 0, 4, .inl t_values)), (h 2, .inl (cy 0, 45, .inl t_row))]
def VX11_isPower_18 (post : Int32 → Prop)  (t_kind : Int32) (t_exponent : Int32) (t_letters : Int32) (t_values : Nat → Int32) (t_row : Nat → Int32) (p1 : Int32) (p2 : Int32) : Nat → Int32 → Int32 → Prop
  | 0, _, _ => False
  | n + 1, x3, x4 => ((t_exponent ≤ x4) → post (1 : Int32)) ∧ (¬ (t_exponent ≤ x4) → VX11_areAlike (fun r_3 => (¬ (r_3 = 0) → VX11_isPower_18 post t_kind t_exponent t_letters t_values t_row p1 p2 n x3 (x4 + 1)) ∧ ((r_3 = 0) → post (0 : Int32))) t_kind t_letters t_values t_row x3 (x3 + (x4 * p2)) p2)
def VX11_isPower (post : Int32 → Prop)  (t_kind : Int32) (t_exponent : Int32) (t_letters : Int32) (t_values : Nat → Int32) (t_row : Nat → Int32) (p1 : Int32) (p2 : Int32)  : Prop := ((0 ≤ (p1 - (t_exponent * p2))) → ∃ n18 : Nat, VX11_isPower_18 post t_kind t_exponent t_letters t_values t_row p1 p2 n18 (p1 - (t_exponent * p2)) 1) ∧ (¬ (0 ≤ (p1 - (t_exponent * p2))) → post (0 : Int32))
set_option maxHeartbeats 4000000 in
set_option maxRecDepth 100000 in
theorem wX11_isPower_18 {p : Program} (l : Launch) {e : Env} {s : State} {m : MethodId} {args : Array Value} {below : List Frame} {meth : Method} {c : Code} {dC : Nat → ClassId} {dI : Nat → Nat → Nat} {cy : Nat → ClassId} {A : Nat → Prop} (h : Nat → Nat) (post : Int32 → Prop)   (t_kind : Int32) (t_exponent : Int32) (t_letters : Int32) (t_values : Nat → Int32) (t_fed : Int32) (t_at : Int32) (t_row : Nat → Int32) (t_rowSize : Int32) (t_steps : Int32) (t_foundMany : Int32) (t_keptMany : Int32) (t_keptLetters : Int32) (t_isFull : Int32) (t_isSaved : Int32) (t_savedKind : Int32) (t_savedExponent : Int32) (t_savedLetters : Int32) (p1 : Int32) (p2 : Int32) (C0 : cx p s m args meth c cX11_isPower 5 (some .boolean) wsX11_isPower RX11 dC dI cy A)  : ∀ (n : Nat) (x3 : Int32) (x4 : Int32), VX11_isPower_18 post t_kind t_exponent t_letters t_values t_row p1 p2 n x3 x4 → ∀ (H : Heap) (locs : List Loc) (ls : Array Slot), va_P (dC, dI) vwCl (pX11_isPower cy h t_kind t_exponent t_letters t_values t_fed t_at t_row t_rowSize t_steps t_foundMany t_keptMany t_keptLetters t_isFull t_isSaved t_savedKind t_savedExponent t_savedLetters) H → va_D A (pX11_isPower cy h t_kind t_exponent t_letters t_values t_fed t_at t_row t_rowSize t_steps t_foundMany t_keptMany t_keptLetters t_isFull t_isSaved t_savedKind t_savedExponent t_savedLetters) → va_S A s.heap H locs → lv_has ls 5 [(0, .ref (h 0)), (2, .int p2), (3, .int x3), (4, .int x4)] → W p l e rX11_isPower s m args below meth c H locs 0 0 (MQ below (va_Qi (fun (r : Int32) (_ : Unit) => post r) (fun (_ : Unit) (t : State) => va_P (dC, dI) vwCl (pX11_isPower cy h t_kind t_exponent t_letters t_values t_fed t_at t_row t_rowSize t_steps t_foundMany t_keptMany t_keptLetters t_isFull t_isSaved t_savedKind t_savedExponent t_savedLetters) t.heap) A) args s 0 0 A) (F0 m 18 ls []) := by
  have C1 := C0
  obtain ⟨hx, hb, hr, hml, hown, hts, hlocks, hK, hA⟩ := C1
  intro n
  induction n with
  | zero => intro x3 x4 hv; exact hv.elim
  | succ n ih =>
    intro x3 x4 hv H locs ls hP hD hS hl
    refine lv_iload hx hb dX11_isPower_18 (lv_at hl 3 rfl) ?_
    refine lv_aload_n hx hb dX11_isPower_20 rfl (lv_at hl 0 rfl) ?_
    refine va_get (D := (dC, dI)) (ci := 11) (v := .int t_exponent) (C := RX11) (T := TX11) (N := 36) hx hb hts nX11_isPower_X11 hown hK hP 0 rfl rfl 1 (by decide) (hts _ mX11_isPower_1) (fun _ h9 => h9) rfl dX11_isPower_21 ?_
    refine lv_icmp_ge (tgt := 50) hx hb dX11_isPower_24 (by decide) (fun c_6 => ?_) (fun c_6 => ?_)
    · have hv := hv.1 c_6
      refine lv_iconst (v := 1) hx hb dX11_isPower_50 (by decide) ?_
      exact W.zret (v := 1) hx hb hr rfl (fun t ht hW => ⟨⟨1, (), rfl, hv, va_Ph ht hP⟩, hS.F ht⟩) hS.2.2 dX11_isPower_51
    · have hv := hv.2 c_6
      refine lv_aload_n hx hb dX11_isPower_27 rfl (lv_at hl 0 rfl) ?_
      refine lv_iload_n hx hb dX11_isPower_28 rfl (lv_at hl 2 rfl) ?_
      refine lv_iload_n hx hb dX11_isPower_29 rfl (lv_at hl 2 rfl) ?_
      refine lv_iload hx hb dX11_isPower_30 (lv_at hl 3 rfl) ?_
      refine lv_iload_n hx hb dX11_isPower_32 rfl (lv_at hl 1 rfl) ?_
      refine lv_imul hx hb dX11_isPower_33 ?_
      refine lv_iadd hx hb dX11_isPower_34 ?_
      refine lv_iload_n hx hb dX11_isPower_35 rfl (lv_at hl 1 rfl) ?_
      refine cb_VI (As := [.int x3, .int ((x3 + (x4 * p2))), .int p2]) (rest := []) ⟨hx, hb, hml, hown, hts⟩ (kX11_areAlike l dC dI cy (adl [h 0, h 1, h 2, h 3, h 4, h 5, h 6, h 7, h 8, h 9, h 10, h 11, h 12, h 13, h 14, h 15, h 16, h 17, h 18, h 19, h 20, h 21]) t_kind t_exponent t_letters t_values t_fed t_at t_row t_rowSize t_steps t_foundMany t_keptMany t_keptLetters t_isFull t_isSaved t_savedKind t_savedExponent t_savedLetters x3 (x3 + (x4 * p2)) p2 _ hv) (cwV 3 hts gX11_isPower_X11_areAlike rfl rfl rfl zX11_areAlike ⟨Nat.le_of_ble_eq_true rfl, Nat.le_of_ble_eq_true rfl⟩) hK hP hD hS hA [0, 1, 2] [some 0, some 1, some 2] rfl rfl rfl (ci := 11) rfl rfl (fun _ => rfl) rfl hl.1 rfl (Nat.le_of_ble_eq_true rfl) dX11_isPower_36 (fun r_3 w_5 H locs hv hP hD hS => ?_)
      have hP : va_P (dC, dI) vwCl (pX11_isPower cy h t_kind t_exponent t_letters t_values t_fed t_at t_row t_rowSize t_steps t_foundMany t_keptMany t_keptLetters t_isFull t_isSaved t_savedKind t_savedExponent t_savedLetters) H := hP
      have hD : va_D A (pX11_isPower cy h t_kind t_exponent t_letters t_values t_fed t_at t_row t_rowSize t_steps t_foundMany t_keptMany t_keptLetters t_isFull t_isSaved t_savedKind t_savedExponent t_savedLetters) := hD
      refine lv_if_ne (tgt := 44) hx hb dX11_isPower_39 (by decide) (fun c_4 => ?_) (fun c_4 => ?_)
      · have hv := hv.1 c_4
        refine lv_iinc (v := (x4 + 1)) (lv' := [(4, .int ((x4 + 1))), (0, .ref (h 0)), (2, .int p2), (3, .int x3)]) hx hb dX11_isPower_44 hl (k := 3) rfl rfl (by decide) rfl (fun ls hl => ?_)
        refine lv_goto (tgt := 18) hx hb dX11_isPower_47 (by decide) ?_
        exact ih x3 (x4 + 1) hv _ _ _ hP hD hS (lv_sub hl [1, 2, 3, 0] rfl)
      · have hv := hv.2 c_4
        refine lv_iconst (v := 0) hx hb dX11_isPower_42 (by decide) ?_
        exact W.zret (v := 0) hx hb hr rfl (fun t ht hW => ⟨⟨0, (), rfl, hv, va_Ph ht hP⟩, hS.F ht⟩) hS.2.2 dX11_isPower_43
set_option maxHeartbeats 4000000 in
set_option maxRecDepth 100000 in
theorem wX11_isPower_0 {p : Program} (l : Launch) {e : Env} {s : State} {m : MethodId} {args : Array Value} {below : List Frame} {meth : Method} {c : Code} {dC : Nat → ClassId} {dI : Nat → Nat → Nat} {cy : Nat → ClassId} {A : Nat → Prop} (h : Nat → Nat) (post : Int32 → Prop)   (t_kind : Int32) (t_exponent : Int32) (t_letters : Int32) (t_values : Nat → Int32) (t_fed : Int32) (t_at : Int32) (t_row : Nat → Int32) (t_rowSize : Int32) (t_steps : Int32) (t_foundMany : Int32) (t_keptMany : Int32) (t_keptLetters : Int32) (t_isFull : Int32) (t_isSaved : Int32) (t_savedKind : Int32) (t_savedExponent : Int32) (t_savedLetters : Int32) (p1 : Int32) (p2 : Int32) (C0 : cx p s m args meth c cX11_isPower 5 (some .boolean) wsX11_isPower RX11 dC dI cy A)  : VX11_isPower post t_kind t_exponent t_letters t_values t_row p1 p2  → ∀ (H : Heap) (locs : List Loc) (ls : Array Slot), va_P (dC, dI) vwCl (pX11_isPower cy h t_kind t_exponent t_letters t_values t_fed t_at t_row t_rowSize t_steps t_foundMany t_keptMany t_keptLetters t_isFull t_isSaved t_savedKind t_savedExponent t_savedLetters) H → va_D A (pX11_isPower cy h t_kind t_exponent t_letters t_values t_fed t_at t_row t_rowSize t_steps t_foundMany t_keptMany t_keptLetters t_isFull t_isSaved t_savedKind t_savedExponent t_savedLetters) → va_S A s.heap H locs → lv_has ls 5 [(0, .ref (h 0)), (1, .int p1), (2, .int p2)] → W p l e rX11_isPower s m args below meth c H locs 0 0 (MQ below (va_Qi (fun (r : Int32) (_ : Unit) => post r) (fun (_ : Unit) (t : State) => va_P (dC, dI) vwCl (pX11_isPower cy h t_kind t_exponent t_letters t_values t_fed t_at t_row t_rowSize t_steps t_foundMany t_keptMany t_keptLetters t_isFull t_isSaved t_savedKind t_savedExponent t_savedLetters) t.heap) A) args s 0 0 A) (F0 m 0 ls []) := by
  have C1 := C0
  obtain ⟨hx, hb, hr, hml, hown, hts, hlocks, hK, hA⟩ := C1
  intro  hv H locs ls hP hD hS hl
  refine lv_iload_n hx hb dX11_isPower_0 rfl (lv_at hl 1 rfl) ?_
  refine lv_aload_n hx hb dX11_isPower_1 rfl (lv_at hl 0 rfl) ?_
  refine va_get (D := (dC, dI)) (ci := 11) (v := .int t_exponent) (C := RX11) (T := TX11) (N := 36) hx hb hts nX11_isPower_X11 hown hK hP 0 rfl rfl 1 (by decide) (hts _ mX11_isPower_1) (fun _ h9 => h9) rfl dX11_isPower_2 ?_
  refine lv_iload_n hx hb dX11_isPower_5 rfl (lv_at hl 2 rfl) ?_
  refine lv_imul hx hb dX11_isPower_6 ?_
  refine lv_isub hx hb dX11_isPower_7 ?_
  refine lv_istore_n (lv' := [(3, .int ((p1 - (t_exponent * p2)))), (0, .ref (h 0)), (1, .int p1), (2, .int p2)]) hx hb dX11_isPower_8 rfl hl (by decide) rfl (fun ls hl => ?_)
  refine lv_iload_n hx hb dX11_isPower_9 rfl (lv_at hl 0 rfl) ?_
  refine lv_if_ge (tgt := 15) hx hb dX11_isPower_10 (by decide) (fun c_2 => ?_) (fun c_2 => ?_)
  · have hv := hv.1 c_2
    refine lv_iconst (v := 1) hx hb dX11_isPower_15 (by decide) ?_
    refine lv_istore (lv' := [(4, .int 1), (3, .int ((p1 - (t_exponent * p2)))), (0, .ref (h 0)), (1, .int p1), (2, .int p2)]) hx hb dX11_isPower_16 hl (by decide) rfl (fun ls hl => ?_)
    obtain ⟨n_1, hv⟩ := hv
    exact wX11_isPower_18 l h post  t_kind t_exponent t_letters t_values t_fed t_at t_row t_rowSize t_steps t_foundMany t_keptMany t_keptLetters t_isFull t_isSaved t_savedKind t_savedExponent t_savedLetters p1 p2 C0 n_1 (p1 - (t_exponent * p2)) 1 hv _ _ _ hP hD hS (lv_sub hl [2, 4, 1, 0] rfl)
  · have hv := hv.2 c_2
    refine lv_iconst (v := 0) hx hb dX11_isPower_13 (by decide) ?_
    exact W.zret (v := 0) hx hb hr rfl (fun t ht hW => ⟨⟨0, (), rfl, hv, va_Ph ht hP⟩, hS.F ht⟩) hS.2.2 dX11_isPower_14
theorem kX11_isPower (l : Launch) (dC : Nat → ClassId) (dI : Nat → Nat → Nat) (cy : Nat → ClassId) (h : Nat → Nat) (t_kind : Int32) (t_exponent : Int32) (t_letters : Int32) (t_values : Nat → Int32) (t_fed : Int32) (t_at : Int32) (t_row : Nat → Int32) (t_rowSize : Int32) (t_steps : Int32) (t_foundMany : Int32) (t_keptMany : Int32) (t_keptLetters : Int32) (t_isFull : Int32) (t_isSaved : Int32) (t_savedKind : Int32) (t_savedExponent : Int32) (t_savedLetters : Int32) (p1 : Int32) (p2 : Int32) (post : Int32 → Prop) (hv : VX11_isPower post t_kind t_exponent t_letters t_values t_row p1 p2 ) : CtI l yX11_isPower wsX11_isPower rX11_isPower dC dI cy [.ref (h 0), .int p1, .int p2] (pX11_isPower cy h t_kind t_exponent t_letters t_values t_fed t_at t_row t_rowSize t_steps t_foundMany t_keptMany t_keptLetters t_isFull t_isSaved t_savedKind t_savedExponent t_savedLetters) (fun (_ : Unit) => pX11_isPower cy h t_kind t_exponent t_letters t_values t_fed t_at t_row t_rowSize t_steps t_foundMany t_keptMany t_keptLetters t_isFull t_isSaved t_savedKind t_savedExponent t_savedLetters) (fun (r : Int32) (_ : Unit) => post r) :=
  ct_ofI (by decide) rfl (Nat.le_of_ble_eq_true rfl) (fun p e s m below meth c A ls C0 hP hD hS hl => wX11_isPower_0 l h post t_kind t_exponent t_letters t_values t_fed t_at t_row t_rowSize t_steps t_foundMany t_keptMany t_keptLetters t_isFull t_isSaved t_savedKind t_savedExponent t_savedLetters p1 p2 C0  hv _ _ _ hP hD hS hl)
theorem mX11_endsAt_1 : (Cond.fieldLink RX11 13 "AbelianPowersModel" "exponent" "I") ∈ wsX11_endsAt := List.mem_of_getElem? (i := 1) rfl
theorem nX11_endsAt_X11 : ∀ w ∈ wsX110, w ∈ wsX11_endsAt := fun _ h => List.mem_cons_of_mem _ (List.mem_append_right _ h)
theorem zX11_endsAt : yX11_endsAt.cls = RX11 ∧ yX11_endsAt.cls ≠ "java/lang/invoke/MethodHandle" ∧ yX11_endsAt.cls ≠ "java/lang/invoke/VarHandle" ∧ (parseMethodDescriptor yX11_endsAt.desc).map (fun d => d.parameters.length) = some 1 := by decide +kernel
abbrev rX11_endsAt : Room := { frames := 5, cells := 0, slots := 0, locals := 120 }
abbrev pX11_endsAt (cy : Nat → ClassId) (h : Nat → Nat) (t_kind : Int32) (t_exponent : Int32) (t_letters : Int32) (t_values : Nat → Int32) (t_fed : Int32) (t_at : Int32) (t_row : Nat → Int32) (t_rowSize : Int32) (t_steps : Int32) (t_foundMany : Int32) (t_keptMany : Int32) (t_keptLetters : Int32) (t_isFull : Int32) (t_isSaved : Int32) (t_savedKind : Int32) (t_savedExponent : Int32) (t_savedLetters : Int32) : va_W := [(h 0, .inr (11, [.int t_kind, .int t_exponent, .int t_letters, .ref (h 1), .ref (h 3), .ref (h 4), .ref (h 5), .ref (h 6), .ref (h 7), .int t_fed, .int t_at, .ref (h 2), .int t_rowSize, .int t_steps, .ref (h 8), .int t_foundMany, .ref (h 9), .int t_keptMany, .int t_keptLetters, .ref (h 10), .ref (h 11), .ref (h 12), .ref (h 13), .ref (h 14), .int t_isFull, .ref (h 15), .ref (h 16), .int t_isSaved, .int t_savedKind, .int t_savedExponent, .int t_savedLetters, .ref (h 17), .ref (h 18), .ref (h 19), .ref (h 20), .ref (h 21)])), (h 1, .inl (cy 0, 4, .inl t_values)), (h 2, .inl (cy 0, 45, .inl t_row))]
def VX11_endsAt_2 (post : Int32 → Prop)  (t_kind : Int32) (t_exponent : Int32) (t_letters : Int32) (t_values : Nat → Int32) (t_row : Nat → Int32) (p1 : Int32) : Nat → Int32 → Prop
  | 0, _ => False
  | n + 1, x2 => ((p1 < (t_exponent * x2)) → post (0 : Int32)) ∧ (¬ (p1 < (t_exponent * x2)) → VX11_isPower (fun r_2 => ((r_2 = 0) → VX11_endsAt_2 post t_kind t_exponent t_letters t_values t_row p1 n (x2 + 1)) ∧ (¬ (r_2 = 0) → post x2)) t_kind t_exponent t_letters t_values t_row p1 x2)
def VX11_endsAt (post : Int32 → Prop)  (t_kind : Int32) (t_exponent : Int32) (t_letters : Int32) (t_values : Nat → Int32) (t_row : Nat → Int32) (p1 : Int32)  : Prop := ∃ n2 : Nat, VX11_endsAt_2 post t_kind t_exponent t_letters t_values t_row p1 n2 1
set_option maxHeartbeats 4000000 in
set_option maxRecDepth 100000 in
theorem wX11_endsAt_2 {p : Program} (l : Launch) {e : Env} {s : State} {m : MethodId} {args : Array Value} {below : List Frame} {meth : Method} {c : Code} {dC : Nat → ClassId} {dI : Nat → Nat → Nat} {cy : Nat → ClassId} {A : Nat → Prop} (h : Nat → Nat) (post : Int32 → Prop)   (t_kind : Int32) (t_exponent : Int32) (t_letters : Int32) (t_values : Nat → Int32) (t_fed : Int32) (t_at : Int32) (t_row : Nat → Int32) (t_rowSize : Int32) (t_steps : Int32) (t_foundMany : Int32) (t_keptMany : Int32) (t_keptLetters : Int32) (t_isFull : Int32) (t_isSaved : Int32) (t_savedKind : Int32) (t_savedExponent : Int32) (t_savedLetters : Int32) (p1 : Int32) (C0 : cx p s m args meth c cX11_endsAt 3 (some .int) wsX11_endsAt RX11 dC dI cy A)  : ∀ (n : Nat) (x2 : Int32), VX11_endsAt_2 post t_kind t_exponent t_letters t_values t_row p1 n x2 → ∀ (H : Heap) (locs : List Loc) (ls : Array Slot), va_P (dC, dI) vwCl (pX11_endsAt cy h t_kind t_exponent t_letters t_values t_fed t_at t_row t_rowSize t_steps t_foundMany t_keptMany t_keptLetters t_isFull t_isSaved t_savedKind t_savedExponent t_savedLetters) H → va_D A (pX11_endsAt cy h t_kind t_exponent t_letters t_values t_fed t_at t_row t_rowSize t_steps t_foundMany t_keptMany t_keptLetters t_isFull t_isSaved t_savedKind t_savedExponent t_savedLetters) → va_S A s.heap H locs → lv_has ls 3 [(0, .ref (h 0)), (1, .int p1), (2, .int x2)] → W p l e rX11_endsAt s m args below meth c H locs 0 0 (MQ below (va_Qi (fun (r : Int32) (_ : Unit) => post r) (fun (_ : Unit) (t : State) => va_P (dC, dI) vwCl (pX11_endsAt cy h t_kind t_exponent t_letters t_values t_fed t_at t_row t_rowSize t_steps t_foundMany t_keptMany t_keptLetters t_isFull t_isSaved t_savedKind t_savedExponent t_savedLetters) t.heap) A) args s 0 0 A) (F0 m 2 ls []) := by
  have C1 := C0
  obtain ⟨hx, hb, hr, hml, hown, hts, hlocks, hK, hA⟩ := C1
  intro n
  induction n with
  | zero => intro x2 hv; exact hv.elim
  | succ n ih =>
    intro x2 hv H locs ls hP hD hS hl
    refine lv_aload_n hx hb dX11_endsAt_2 rfl (lv_at hl 0 rfl) ?_
    refine va_get (D := (dC, dI)) (ci := 11) (v := .int t_exponent) (C := RX11) (T := TX11) (N := 36) hx hb hts nX11_endsAt_X11 hown hK hP 0 rfl rfl 1 (by decide) (hts _ mX11_endsAt_1) (fun _ h9 => h9) rfl dX11_endsAt_3 ?_
    refine lv_iload_n hx hb dX11_endsAt_6 rfl (lv_at hl 2 rfl) ?_
    refine lv_imul hx hb dX11_endsAt_7 ?_
    refine lv_iload_n hx hb dX11_endsAt_8 rfl (lv_at hl 1 rfl) ?_
    refine lv_icmp_gt (tgt := 29) hx hb dX11_endsAt_9 (by decide) (fun c_5 => ?_) (fun c_5 => ?_)
    · have hv := hv.1 c_5
      refine lv_iconst (v := 0) hx hb dX11_endsAt_29 (by decide) ?_
      exact W.iret (v := 0) hx hb hr (fun t ht hW => ⟨⟨0, (), rfl, hv, va_Ph ht hP⟩, hS.F ht⟩) hS.2.2 dX11_endsAt_30
    · have hv := hv.2 c_5
      refine lv_aload_n hx hb dX11_endsAt_12 rfl (lv_at hl 0 rfl) ?_
      refine lv_iload_n hx hb dX11_endsAt_13 rfl (lv_at hl 1 rfl) ?_
      refine lv_iload_n hx hb dX11_endsAt_14 rfl (lv_at hl 2 rfl) ?_
      refine cb_VI (As := [.int p1, .int x2]) (rest := []) ⟨hx, hb, hml, hown, hts⟩ (kX11_isPower l dC dI cy (adl [h 0, h 1, h 2, h 3, h 4, h 5, h 6, h 7, h 8, h 9, h 10, h 11, h 12, h 13, h 14, h 15, h 16, h 17, h 18, h 19, h 20, h 21]) t_kind t_exponent t_letters t_values t_fed t_at t_row t_rowSize t_steps t_foundMany t_keptMany t_keptLetters t_isFull t_isSaved t_savedKind t_savedExponent t_savedLetters p1 x2 _ hv) (cwV 2 hts gX11_endsAt_X11_isPower rfl rfl rfl zX11_isPower ⟨Nat.le_of_ble_eq_true rfl, Nat.le_of_ble_eq_true rfl⟩) hK hP hD hS hA [0, 1, 2] [some 0, some 1, some 2] rfl rfl rfl (ci := 11) rfl rfl (fun _ => rfl) rfl hl.1 rfl (Nat.le_of_ble_eq_true rfl) dX11_endsAt_15 (fun r_2 w_4 H locs hv hP hD hS => ?_)
      have hP : va_P (dC, dI) vwCl (pX11_endsAt cy h t_kind t_exponent t_letters t_values t_fed t_at t_row t_rowSize t_steps t_foundMany t_keptMany t_keptLetters t_isFull t_isSaved t_savedKind t_savedExponent t_savedLetters) H := hP
      have hD : va_D A (pX11_endsAt cy h t_kind t_exponent t_letters t_values t_fed t_at t_row t_rowSize t_steps t_foundMany t_keptMany t_keptLetters t_isFull t_isSaved t_savedKind t_savedExponent t_savedLetters) := hD
      refine lv_if_eq (tgt := 23) hx hb dX11_endsAt_18 (by decide) (fun c_3 => ?_) (fun c_3 => ?_)
      · have hv := hv.1 c_3
        refine lv_iinc (v := (x2 + 1)) (lv' := [(2, .int ((x2 + 1))), (0, .ref (h 0)), (1, .int p1)]) hx hb dX11_endsAt_23 hl (k := 2) rfl rfl (by decide) rfl (fun ls hl => ?_)
        refine lv_goto (tgt := 2) hx hb dX11_endsAt_26 (by decide) ?_
        exact ih (x2 + 1) hv _ _ _ hP hD hS (lv_sub hl [1, 2, 0] rfl)
      · have hv := hv.2 c_3
        refine lv_iload_n hx hb dX11_endsAt_21 rfl (lv_at hl 2 rfl) ?_
        exact W.iret (v := x2) hx hb hr (fun t ht hW => ⟨⟨x2, (), rfl, hv, va_Ph ht hP⟩, hS.F ht⟩) hS.2.2 dX11_endsAt_22
set_option maxHeartbeats 4000000 in
set_option maxRecDepth 100000 in
theorem wX11_endsAt_0 {p : Program} (l : Launch) {e : Env} {s : State} {m : MethodId} {args : Array Value} {below : List Frame} {meth : Method} {c : Code} {dC : Nat → ClassId} {dI : Nat → Nat → Nat} {cy : Nat → ClassId} {A : Nat → Prop} (h : Nat → Nat) (post : Int32 → Prop)   (t_kind : Int32) (t_exponent : Int32) (t_letters : Int32) (t_values : Nat → Int32) (t_fed : Int32) (t_at : Int32) (t_row : Nat → Int32) (t_rowSize : Int32) (t_steps : Int32) (t_foundMany : Int32) (t_keptMany : Int32) (t_keptLetters : Int32) (t_isFull : Int32) (t_isSaved : Int32) (t_savedKind : Int32) (t_savedExponent : Int32) (t_savedLetters : Int32) (p1 : Int32) (C0 : cx p s m args meth c cX11_endsAt 3 (some .int) wsX11_endsAt RX11 dC dI cy A)  : VX11_endsAt post t_kind t_exponent t_letters t_values t_row p1  → ∀ (H : Heap) (locs : List Loc) (ls : Array Slot), va_P (dC, dI) vwCl (pX11_endsAt cy h t_kind t_exponent t_letters t_values t_fed t_at t_row t_rowSize t_steps t_foundMany t_keptMany t_keptLetters t_isFull t_isSaved t_savedKind t_savedExponent t_savedLetters) H → va_D A (pX11_endsAt cy h t_kind t_exponent t_letters t_values t_fed t_at t_row t_rowSize t_steps t_foundMany t_keptMany t_keptLetters t_isFull t_isSaved t_savedKind t_savedExponent t_savedLetters) → va_S A s.heap H locs → lv_has ls 3 [(0, .ref (h 0)), (1, .int p1)] → W p l e rX11_endsAt s m args below meth c H locs 0 0 (MQ below (va_Qi (fun (r : Int32) (_ : Unit) => post r) (fun (_ : Unit) (t : State) => va_P (dC, dI) vwCl (pX11_endsAt cy h t_kind t_exponent t_letters t_values t_fed t_at t_row t_rowSize t_steps t_foundMany t_keptMany t_keptLetters t_isFull t_isSaved t_savedKind t_savedExponent t_savedLetters) t.heap) A) args s 0 0 A) (F0 m 0 ls []) := by
  have C1 := C0
  obtain ⟨hx, hb, hr, hml, hown, hts, hlocks, hK, hA⟩ := C1
  intro  hv H locs ls hP hD hS hl
  refine lv_iconst (v := 1) hx hb dX11_endsAt_0 (by decide) ?_
  refine lv_istore_n (lv' := [(2, .int 1), (0, .ref (h 0)), (1, .int p1)]) hx hb dX11_endsAt_1 rfl hl (by decide) rfl (fun ls hl => ?_)
  obtain ⟨n_1, hv⟩ := hv
  exact wX11_endsAt_2 l h post  t_kind t_exponent t_letters t_values t_fed t_at t_row t_rowSize t_steps t_foundMany t_keptMany t_keptLetters t_isFull t_isSaved t_savedKind t_savedExponent t_savedLetters p1 C0 n_1 1 hv _ _ _ hP hD hS (lv_sub hl [1, 2, 0] rfl)
theorem kX11_endsAt (l : Launch) (dC : Nat → ClassId) (dI : Nat → Nat → Nat) (cy : Nat → ClassId) (h : Nat → Nat) (t_kind : Int32) (t_exponent : Int32) (t_letters : Int32) (t_values : Nat → Int32) (t_fed : Int32) (t_at : Int32) (t_row : Nat → Int32) (t_rowSize : Int32) (t_steps : Int32) (t_foundMany : Int32) (t_keptMany : Int32) (t_keptLetters : Int32) (t_isFull : Int32) (t_isSaved : Int32) (t_savedKind : Int32) (t_savedExponent : Int32) (t_savedLetters : Int32) (p1 : Int32) (post : Int32 → Prop) (hv : VX11_endsAt post t_kind t_exponent t_letters t_values t_row p1 ) : CtI l yX11_endsAt wsX11_endsAt rX11_endsAt dC dI cy [.ref (h 0), .int p1] (pX11_endsAt cy h t_kind t_exponent t_letters t_values t_fed t_at t_row t_rowSize t_steps t_foundMany t_keptMany t_keptLetters t_isFull t_isSaved t_savedKind t_savedExponent t_savedLetters) (fun (_ : Unit) => pX11_endsAt cy h t_kind t_exponent t_letters t_values t_fed t_at t_row t_rowSize t_steps t_foundMany t_keptMany t_keptLetters t_isFull t_isSaved t_savedKind t_savedExponent t_savedLetters) (fun (r : Int32) (_ : Unit) => post r) :=
  ct_ofI (by decide) rfl (Nat.le_of_ble_eq_true rfl) (fun p e s m below meth c A ls C0 hP hD hS hl => wX11_endsAt_0 l h post t_kind t_exponent t_letters t_values t_fed t_at t_row t_rowSize t_steps t_foundMany t_keptMany t_keptLetters t_isFull t_isSaved t_savedKind t_savedExponent t_savedLetters p1 C0  hv _ _ _ hP hD hS hl)
theorem zX11_occurrences : yX11_occurrences.cls = RX11 ∧ yX11_occurrences.cls ≠ "java/lang/invoke/MethodHandle" ∧ yX11_occurrences.cls ≠ "java/lang/invoke/VarHandle" ∧ (parseMethodDescriptor yX11_occurrences.desc).map (fun d => d.parameters.length) = some 4 := by decide +kernel
abbrev rX11_occurrences : Room := { frames := 3, cells := 0, slots := 0, locals := 65 }
abbrev pX11_occurrences (cy : Nat → ClassId) (h : Nat → Nat) (t_kind : Int32) (t_exponent : Int32) (t_letters : Int32) (t_words : Nat → Int32) (t_lengths : Nat → Int32) (t_fed : Int32) (t_at : Int32) (t_row : Nat → Int32) (t_rowSize : Int32) (t_steps : Int32) (t_foundMany : Int32) (t_keptMany : Int32) (t_keptLetters : Int32) (t_isFull : Int32) (t_isSaved : Int32) (t_savedKind : Int32) (t_savedExponent : Int32) (t_savedLetters : Int32) : va_W := [(h 0, .inr (11, [.int t_kind, .int t_exponent, .int t_letters, .ref (h 4), .ref (h 1), .ref (h 2), .ref (h 5), .ref (h 6), .ref (h 7), .int t_fed, .int t_at, .ref (h 3), .int t_rowSize, .int t_steps, .ref (h 8), .int t_foundMany, .ref (h 9), .int t_keptMany, .int t_keptLetters, .ref (h 10), .ref (h 11), .ref (h 12), .ref (h 13), .ref (h 14), .int t_isFull, .ref (h 15), .ref (h 16), .int t_isSaved, .int t_savedKind, .int t_savedExponent, .int t_savedLetters, .ref (h 17), .ref (h 18), .ref (h 19), .ref (h 20), .ref (h 21)])), (h 1, .inl (cy 0, 120, .inl t_words)), (h 2, .inl (cy 0, 3, .inl t_lengths)), (h 3, .inl (cy 0, 45, .inl t_row))]
def VX11_occurrences (post : Int32 → (Nat → Int32) → Int32 → Prop)  (t_letters : Int32) (t_words : Nat → Int32) (t_lengths : Nat → Int32) (p1 : Int32) (p2 : Int32) (p3 : Int32) (p4 : Int32) (t_row : Nat → Int32) (t_rowSize : Int32) : Prop := VX11_isBlock (fun r_1 => ((r_1 = 0) → post (-1 : Int32) t_row t_rowSize) ∧ (¬ (r_1 = 0) → VX11_isLetter (fun r_2 => (¬ (r_2 = 0) → VX11_take (fun u_3 u_4 => VX11_count (fun r_5 => post r_5 u_3 u_4) u_3 p2 p3 p4) t_words t_lengths p1 t_row t_rowSize) ∧ ((r_2 = 0) → post (-1 : Int32) t_row t_rowSize)) t_letters p4)) t_lengths p1 p2 p3
set_option maxHeartbeats 4000000 in
set_option maxRecDepth 100000 in
theorem wX11_occurrences_0 {p : Program} (l : Launch) {e : Env} {s : State} {m : MethodId} {args : Array Value} {below : List Frame} {meth : Method} {c : Code} {dC : Nat → ClassId} {dI : Nat → Nat → Nat} {cy : Nat → ClassId} {A : Nat → Prop} (h : Nat → Nat) (post : Int32 → (Nat → Int32) → Int32 → Prop)   (t_kind : Int32) (t_exponent : Int32) (t_letters : Int32) (t_words : Nat → Int32) (t_lengths : Nat → Int32) (t_fed : Int32) (t_at : Int32) (t_steps : Int32) (t_foundMany : Int32) (t_keptMany : Int32) (t_keptLetters : Int32) (t_isFull : Int32) (t_isSaved : Int32) (t_savedKind : Int32) (t_savedExponent : Int32) (t_savedLetters : Int32) (p1 : Int32) (p2 : Int32) (p3 : Int32) (p4 : Int32) (C0 : cx p s m args meth c cX11_occurrences 5 (some .int) wsX11_occurrences RX11 dC dI cy A)  : ∀ (t_row : Nat → Int32) (t_rowSize : Int32), VX11_occurrences post t_letters t_words t_lengths p1 p2 p3 p4 t_row t_rowSize → ∀ (H : Heap) (locs : List Loc) (ls : Array Slot), va_P (dC, dI) vwCl (pX11_occurrences cy h t_kind t_exponent t_letters t_words t_lengths t_fed t_at t_row t_rowSize t_steps t_foundMany t_keptMany t_keptLetters t_isFull t_isSaved t_savedKind t_savedExponent t_savedLetters) H → va_D A (pX11_occurrences cy h t_kind t_exponent t_letters t_words t_lengths t_fed t_at t_row t_rowSize t_steps t_foundMany t_keptMany t_keptLetters t_isFull t_isSaved t_savedKind t_savedExponent t_savedLetters) → va_S A s.heap H locs → lv_has ls 5 [(0, .ref (h 0)), (1, .int p1), (2, .int p2), (3, .int p3), (4, .int p4)] → W p l e rX11_occurrences s m args below meth c H locs 0 0 (MQ below (va_Qi (fun (r : Int32) (u : (Nat → Int32) × Int32) => post r u.1 u.2) (fun (u : (Nat → Int32) × Int32) (t : State) => va_P (dC, dI) vwCl (pX11_occurrences cy h t_kind t_exponent t_letters t_words t_lengths t_fed t_at u.1 u.2 t_steps t_foundMany t_keptMany t_keptLetters t_isFull t_isSaved t_savedKind t_savedExponent t_savedLetters) t.heap) A) args s 0 0 A) (F0 m 0 ls []) := by
  have C1 := C0
  obtain ⟨hx, hb, hr, hml, hown, hts, hlocks, hK, hA⟩ := C1
  intro t_row t_rowSize hv H locs ls hP hD hS hl
  refine lv_aload_n hx hb dX11_occurrences_0 rfl (lv_at hl 0 rfl) ?_
  refine lv_iload_n hx hb dX11_occurrences_1 rfl (lv_at hl 1 rfl) ?_
  refine lv_iload_n hx hb dX11_occurrences_2 rfl (lv_at hl 2 rfl) ?_
  refine lv_iload_n hx hb dX11_occurrences_3 rfl (lv_at hl 3 rfl) ?_
  refine cb_VI (As := [.int p1, .int p2, .int p3]) (rest := []) ⟨hx, hb, hml, hown, hts⟩ (kX11_isBlock l dC dI cy (adl [h 0, h 2, h 4, h 1, h 5, h 6, h 7, h 3, h 8, h 9, h 10, h 11, h 12, h 13, h 14, h 15, h 16, h 17, h 18, h 19, h 20, h 21]) t_kind t_exponent t_letters t_lengths t_fed t_at t_rowSize t_steps t_foundMany t_keptMany t_keptLetters t_isFull t_isSaved t_savedKind t_savedExponent t_savedLetters p1 p2 p3 _ hv) (cwV 3 hts gX11_occurrences_X11_isBlock rfl rfl rfl zX11_isBlock ⟨Nat.le_of_ble_eq_true rfl, Nat.le_of_ble_eq_true rfl⟩) hK hP hD hS hA [0, 2] [some 0, none, some 1, none] rfl rfl rfl (ci := 11) rfl rfl (fun _ => rfl) rfl hl.1 rfl (Nat.le_of_ble_eq_true rfl) dX11_occurrences_4 (fun r_1 w_11 H locs hv hP hD hS => ?_)
  have hP : va_P (dC, dI) vwCl (pX11_occurrences cy h t_kind t_exponent t_letters t_words t_lengths t_fed t_at t_row t_rowSize t_steps t_foundMany t_keptMany t_keptLetters t_isFull t_isSaved t_savedKind t_savedExponent t_savedLetters) H := hP
  have hD : va_D A (pX11_occurrences cy h t_kind t_exponent t_letters t_words t_lengths t_fed t_at t_row t_rowSize t_steps t_foundMany t_keptMany t_keptLetters t_isFull t_isSaved t_savedKind t_savedExponent t_savedLetters) := hD
  refine lv_if_eq (tgt := 19) hx hb dX11_occurrences_7 (by decide) (fun c_10 => ?_) (fun c_10 => ?_)
  · have hv := hv.1 c_10
    refine lv_iconst (v := (-1)) hx hb dX11_occurrences_19 (by decide) ?_
    exact W.iret (v := (-1)) hx hb hr (fun t ht hW => ⟨⟨(-1), (t_row, t_rowSize), rfl, hv, va_Ph ht hP⟩, hS.F ht⟩) hS.2.2 dX11_occurrences_20
  · have hv := hv.2 c_10
    refine lv_aload_n hx hb dX11_occurrences_10 rfl (lv_at hl 0 rfl) ?_
    refine lv_iload hx hb dX11_occurrences_11 (lv_at hl 4 rfl) ?_
    refine cb_VI (As := [.int p4]) (rest := []) ⟨hx, hb, hml, hown, hts⟩ (kX11_isLetter l dC dI cy (adl [h 0, h 4, h 1, h 2, h 5, h 6, h 7, h 3, h 8, h 9, h 10, h 11, h 12, h 13, h 14, h 15, h 16, h 17, h 18, h 19, h 20, h 21]) t_kind t_exponent t_letters t_fed t_at t_rowSize t_steps t_foundMany t_keptMany t_keptLetters t_isFull t_isSaved t_savedKind t_savedExponent t_savedLetters p4 _ hv) (cwV 1 hts gX11_occurrences_X11_isLetter rfl rfl rfl zX11_isLetter ⟨Nat.le_of_ble_eq_true rfl, Nat.le_of_ble_eq_true rfl⟩) hK hP hD hS hA [0] [some 0, none, none, none] rfl rfl rfl (ci := 11) rfl rfl (fun _ => rfl) rfl hl.1 rfl (Nat.le_of_ble_eq_true rfl) dX11_occurrences_13 (fun r_2 w_9 H locs hv hP hD hS => ?_)
    have hP : va_P (dC, dI) vwCl (pX11_occurrences cy h t_kind t_exponent t_letters t_words t_lengths t_fed t_at t_row t_rowSize t_steps t_foundMany t_keptMany t_keptLetters t_isFull t_isSaved t_savedKind t_savedExponent t_savedLetters) H := hP
    have hD : va_D A (pX11_occurrences cy h t_kind t_exponent t_letters t_words t_lengths t_fed t_at t_row t_rowSize t_steps t_foundMany t_keptMany t_keptLetters t_isFull t_isSaved t_savedKind t_savedExponent t_savedLetters) := hD
    refine lv_if_ne (tgt := 21) hx hb dX11_occurrences_16 (by decide) (fun c_8 => ?_) (fun c_8 => ?_)
    · have hv := hv.1 c_8
      refine lv_aload_n hx hb dX11_occurrences_21 rfl (lv_at hl 0 rfl) ?_
      refine lv_iload_n hx hb dX11_occurrences_22 rfl (lv_at hl 1 rfl) ?_
      refine cb_VV (As := [.int p1]) (rest := []) ⟨hx, hb, hml, hown, hts⟩ (kX11_take l dC dI cy (adl [h 0, h 1, h 2, h 3, h 4, h 5, h 6, h 7, h 8, h 9, h 10, h 11, h 12, h 13, h 14, h 15, h 16, h 17, h 18, h 19, h 20, h 21]) t_kind t_exponent t_letters t_words t_lengths t_fed t_at t_row t_rowSize t_steps t_foundMany t_keptMany t_keptLetters t_isFull t_isSaved t_savedKind t_savedExponent t_savedLetters p1 _ hv) (cwV 1 hts gX11_occurrences_X11_take rfl rfl rfl zX11_take ⟨Nat.le_of_ble_eq_true rfl, Nat.le_of_ble_eq_true rfl⟩) hK hP hD hS hA [0, 1, 2, 3] [some 0, some 1, some 2, some 3] rfl rfl rfl (ci := 11) rfl rfl (fun _ => rfl) rfl hl.1 rfl (Nat.le_of_ble_eq_true rfl) dX11_occurrences_23 (fun w_7 H locs hv hP hD hS => ?_)
      obtain ⟨u_3, u_4⟩ := w_7
      have hP : va_P (dC, dI) vwCl (pX11_occurrences cy h t_kind t_exponent t_letters t_words t_lengths t_fed t_at u_3 u_4 t_steps t_foundMany t_keptMany t_keptLetters t_isFull t_isSaved t_savedKind t_savedExponent t_savedLetters) H := hP
      have hD : va_D A (pX11_occurrences cy h t_kind t_exponent t_letters t_words t_lengths t_fed t_at u_3 u_4 t_steps t_foundMany t_keptMany t_keptLetters t_isFull t_isSaved t_savedKind t_savedExponent t_savedLetters) := hD
      refine lv_aload_n hx hb dX11_occurrences_26 rfl (lv_at hl 0 rfl) ?_
      refine lv_iload_n hx hb dX11_occurrences_27 rfl (lv_at hl 2 rfl) ?_
      refine lv_iload_n hx hb dX11_occurrences_28 rfl (lv_at hl 3 rfl) ?_
      refine lv_iload hx hb dX11_occurrences_29 (lv_at hl 4 rfl) ?_
      refine cb_VI (As := [.int p2, .int p3, .int p4]) (rest := []) ⟨hx, hb, hml, hown, hts⟩ (kX11_count l dC dI cy (adl [h 0, h 3, h 4, h 1, h 2, h 5, h 6, h 7, h 8, h 9, h 10, h 11, h 12, h 13, h 14, h 15, h 16, h 17, h 18, h 19, h 20, h 21]) t_kind t_exponent t_letters t_fed t_at u_3 u_4 t_steps t_foundMany t_keptMany t_keptLetters t_isFull t_isSaved t_savedKind t_savedExponent t_savedLetters p2 p3 p4 _ hv) (cwV 3 hts gX11_occurrences_X11_count rfl rfl rfl zX11_count ⟨Nat.le_of_ble_eq_true rfl, Nat.le_of_ble_eq_true rfl⟩) hK hP hD hS hA [0, 3] [some 0, none, none, some 1] rfl rfl rfl (ci := 11) rfl rfl (fun _ => rfl) rfl hl.1 rfl (Nat.le_of_ble_eq_true rfl) dX11_occurrences_31 (fun r_5 w_6 H locs hv hP hD hS => ?_)
      have hP : va_P (dC, dI) vwCl (pX11_occurrences cy h t_kind t_exponent t_letters t_words t_lengths t_fed t_at u_3 u_4 t_steps t_foundMany t_keptMany t_keptLetters t_isFull t_isSaved t_savedKind t_savedExponent t_savedLetters) H := hP
      have hD : va_D A (pX11_occurrences cy h t_kind t_exponent t_letters t_words t_lengths t_fed t_at u_3 u_4 t_steps t_foundMany t_keptMany t_keptLetters t_isFull t_isSaved t_savedKind t_savedExponent t_savedLetters) := hD
      exact W.iret (v := r_5) hx hb hr (fun t ht hW => ⟨⟨r_5, (u_3, u_4), rfl, hv, va_Ph ht hP⟩, hS.F ht⟩) hS.2.2 dX11_occurrences_34
    · have hv := hv.2 c_8
      refine lv_iconst (v := (-1)) hx hb dX11_occurrences_19 (by decide) ?_
      exact W.iret (v := (-1)) hx hb hr (fun t ht hW => ⟨⟨(-1), (t_row, t_rowSize), rfl, hv, va_Ph ht hP⟩, hS.F ht⟩) hS.2.2 dX11_occurrences_20
theorem kX11_occurrences (l : Launch) (dC : Nat → ClassId) (dI : Nat → Nat → Nat) (cy : Nat → ClassId) (h : Nat → Nat) (t_kind : Int32) (t_exponent : Int32) (t_letters : Int32) (t_words : Nat → Int32) (t_lengths : Nat → Int32) (t_fed : Int32) (t_at : Int32) (t_row : Nat → Int32) (t_rowSize : Int32) (t_steps : Int32) (t_foundMany : Int32) (t_keptMany : Int32) (t_keptLetters : Int32) (t_isFull : Int32) (t_isSaved : Int32) (t_savedKind : Int32) (t_savedExponent : Int32) (t_savedLetters : Int32) (p1 : Int32) (p2 : Int32) (p3 : Int32) (p4 : Int32) (post : Int32 → (Nat → Int32) → Int32 → Prop) (hv : VX11_occurrences post t_letters t_words t_lengths p1 p2 p3 p4 t_row t_rowSize) : CtI l yX11_occurrences wsX11_occurrences rX11_occurrences dC dI cy [.ref (h 0), .int p1, .int p2, .int p3, .int p4] (pX11_occurrences cy h t_kind t_exponent t_letters t_words t_lengths t_fed t_at t_row t_rowSize t_steps t_foundMany t_keptMany t_keptLetters t_isFull t_isSaved t_savedKind t_savedExponent t_savedLetters) (fun (u : (Nat → Int32) × Int32) => pX11_occurrences cy h t_kind t_exponent t_letters t_words t_lengths t_fed t_at u.1 u.2 t_steps t_foundMany t_keptMany t_keptLetters t_isFull t_isSaved t_savedKind t_savedExponent t_savedLetters) (fun (r : Int32) (u : (Nat → Int32) × Int32) => post r u.1 u.2) :=
  ct_ofI (by decide) rfl (Nat.le_of_ble_eq_true rfl) (fun p e s m below meth c A ls C0 hP hD hS hl => wX11_occurrences_0 l h post t_kind t_exponent t_letters t_words t_lengths t_fed t_at t_steps t_foundMany t_keptMany t_keptLetters t_isFull t_isSaved t_savedKind t_savedExponent t_savedLetters p1 p2 p3 p4 C0 t_row t_rowSize hv _ _ _ hP hD hS hl)
theorem zX11_equivalent : yX11_equivalent.cls = RX11 ∧ yX11_equivalent.cls ≠ "java/lang/invoke/MethodHandle" ∧ yX11_equivalent.cls ≠ "java/lang/invoke/VarHandle" ∧ (parseMethodDescriptor yX11_equivalent.desc).map (fun d => d.parameters.length) = some 4 := by decide +kernel
abbrev rX11_equivalent : Room := { frames := 4, cells := 0, slots := 0, locals := 96 }
abbrev pX11_equivalent (cy : Nat → ClassId) (h : Nat → Nat) (t_kind : Int32) (t_exponent : Int32) (t_letters : Int32) (t_values : Nat → Int32) (t_words : Nat → Int32) (t_lengths : Nat → Int32) (t_fed : Int32) (t_at : Int32) (t_row : Nat → Int32) (t_rowSize : Int32) (t_steps : Int32) (t_foundMany : Int32) (t_keptMany : Int32) (t_keptLetters : Int32) (t_isFull : Int32) (t_isSaved : Int32) (t_savedKind : Int32) (t_savedExponent : Int32) (t_savedLetters : Int32) : va_W := [(h 0, .inr (11, [.int t_kind, .int t_exponent, .int t_letters, .ref (h 1), .ref (h 2), .ref (h 3), .ref (h 5), .ref (h 6), .ref (h 7), .int t_fed, .int t_at, .ref (h 4), .int t_rowSize, .int t_steps, .ref (h 8), .int t_foundMany, .ref (h 9), .int t_keptMany, .int t_keptLetters, .ref (h 10), .ref (h 11), .ref (h 12), .ref (h 13), .ref (h 14), .int t_isFull, .ref (h 15), .ref (h 16), .int t_isSaved, .int t_savedKind, .int t_savedExponent, .int t_savedLetters, .ref (h 17), .ref (h 18), .ref (h 19), .ref (h 20), .ref (h 21)])), (h 1, .inl (cy 0, 4, .inl t_values)), (h 2, .inl (cy 0, 120, .inl t_words)), (h 3, .inl (cy 0, 3, .inl t_lengths)), (h 4, .inl (cy 0, 45, .inl t_row))]
def VX11_equivalent (post : Int32 → (Nat → Int32) → Int32 → Prop)  (t_kind : Int32) (t_letters : Int32) (t_values : Nat → Int32) (t_words : Nat → Int32) (t_lengths : Nat → Int32) (p1 : Int32) (p2 : Int32) (p3 : Int32) (p4 : Int32) (t_row : Nat → Int32) (t_rowSize : Int32) : Prop := VX11_isBlock (fun r_1 => ((r_1 = 0) → post (-1 : Int32) t_row t_rowSize) ∧ (¬ (r_1 = 0) → VX11_isBlock (fun r_2 => (¬ (r_2 = 0) → VX11_take (fun u_3 u_4 => VX11_areAlike (fun r_5 => ((r_5 = 0) → post (0 : Int32) u_3 u_4) ∧ (¬ (r_5 = 0) → post (1 : Int32) u_3 u_4)) t_kind t_letters t_values u_3 p2 p3 p4) t_words t_lengths p1 t_row t_rowSize) ∧ ((r_2 = 0) → post (-1 : Int32) t_row t_rowSize)) t_lengths p1 p3 p4)) t_lengths p1 p2 p4
set_option maxHeartbeats 4000000 in
set_option maxRecDepth 100000 in
theorem wX11_equivalent_0 {p : Program} (l : Launch) {e : Env} {s : State} {m : MethodId} {args : Array Value} {below : List Frame} {meth : Method} {c : Code} {dC : Nat → ClassId} {dI : Nat → Nat → Nat} {cy : Nat → ClassId} {A : Nat → Prop} (h : Nat → Nat) (post : Int32 → (Nat → Int32) → Int32 → Prop)   (t_kind : Int32) (t_exponent : Int32) (t_letters : Int32) (t_values : Nat → Int32) (t_words : Nat → Int32) (t_lengths : Nat → Int32) (t_fed : Int32) (t_at : Int32) (t_steps : Int32) (t_foundMany : Int32) (t_keptMany : Int32) (t_keptLetters : Int32) (t_isFull : Int32) (t_isSaved : Int32) (t_savedKind : Int32) (t_savedExponent : Int32) (t_savedLetters : Int32) (p1 : Int32) (p2 : Int32) (p3 : Int32) (p4 : Int32) (C0 : cx p s m args meth c cX11_equivalent 5 (some .int) wsX11_equivalent RX11 dC dI cy A)  : ∀ (t_row : Nat → Int32) (t_rowSize : Int32), VX11_equivalent post t_kind t_letters t_values t_words t_lengths p1 p2 p3 p4 t_row t_rowSize → ∀ (H : Heap) (locs : List Loc) (ls : Array Slot), va_P (dC, dI) vwCl (pX11_equivalent cy h t_kind t_exponent t_letters t_values t_words t_lengths t_fed t_at t_row t_rowSize t_steps t_foundMany t_keptMany t_keptLetters t_isFull t_isSaved t_savedKind t_savedExponent t_savedLetters) H → va_D A (pX11_equivalent cy h t_kind t_exponent t_letters t_values t_words t_lengths t_fed t_at t_row t_rowSize t_steps t_foundMany t_keptMany t_keptLetters t_isFull t_isSaved t_savedKind t_savedExponent t_savedLetters) → va_S A s.heap H locs → lv_has ls 5 [(0, .ref (h 0)), (1, .int p1), (2, .int p2), (3, .int p3), (4, .int p4)] → W p l e rX11_equivalent s m args below meth c H locs 0 0 (MQ below (va_Qi (fun (r : Int32) (u : (Nat → Int32) × Int32) => post r u.1 u.2) (fun (u : (Nat → Int32) × Int32) (t : State) => va_P (dC, dI) vwCl (pX11_equivalent cy h t_kind t_exponent t_letters t_values t_words t_lengths t_fed t_at u.1 u.2 t_steps t_foundMany t_keptMany t_keptLetters t_isFull t_isSaved t_savedKind t_savedExponent t_savedLetters) t.heap) A) args s 0 0 A) (F0 m 0 ls []) := by
  have C1 := C0
  obtain ⟨hx, hb, hr, hml, hown, hts, hlocks, hK, hA⟩ := C1
  intro t_row t_rowSize hv H locs ls hP hD hS hl
  refine lv_aload_n hx hb dX11_equivalent_0 rfl (lv_at hl 0 rfl) ?_
  refine lv_iload_n hx hb dX11_equivalent_1 rfl (lv_at hl 1 rfl) ?_
  refine lv_iload_n hx hb dX11_equivalent_2 rfl (lv_at hl 2 rfl) ?_
  refine lv_iload hx hb dX11_equivalent_3 (lv_at hl 4 rfl) ?_
  refine cb_VI (As := [.int p1, .int p2, .int p4]) (rest := []) ⟨hx, hb, hml, hown, hts⟩ (kX11_isBlock l dC dI cy (adl [h 0, h 3, h 1, h 2, h 5, h 6, h 7, h 4, h 8, h 9, h 10, h 11, h 12, h 13, h 14, h 15, h 16, h 17, h 18, h 19, h 20, h 21]) t_kind t_exponent t_letters t_lengths t_fed t_at t_rowSize t_steps t_foundMany t_keptMany t_keptLetters t_isFull t_isSaved t_savedKind t_savedExponent t_savedLetters p1 p2 p4 _ hv) (cwV 3 hts gX11_equivalent_X11_isBlock rfl rfl rfl zX11_isBlock ⟨Nat.le_of_ble_eq_true rfl, Nat.le_of_ble_eq_true rfl⟩) hK hP hD hS hA [0, 3] [some 0, none, none, some 1, none] rfl rfl rfl (ci := 11) rfl rfl (fun _ => rfl) rfl hl.1 rfl (Nat.le_of_ble_eq_true rfl) dX11_equivalent_5 (fun r_1 w_12 H locs hv hP hD hS => ?_)
  have hP : va_P (dC, dI) vwCl (pX11_equivalent cy h t_kind t_exponent t_letters t_values t_words t_lengths t_fed t_at t_row t_rowSize t_steps t_foundMany t_keptMany t_keptLetters t_isFull t_isSaved t_savedKind t_savedExponent t_savedLetters) H := hP
  have hD : va_D A (pX11_equivalent cy h t_kind t_exponent t_letters t_values t_words t_lengths t_fed t_at t_row t_rowSize t_steps t_foundMany t_keptMany t_keptLetters t_isFull t_isSaved t_savedKind t_savedExponent t_savedLetters) := hD
  refine lv_if_eq (tgt := 22) hx hb dX11_equivalent_8 (by decide) (fun c_11 => ?_) (fun c_11 => ?_)
  · have hv := hv.1 c_11
    refine lv_iconst (v := (-1)) hx hb dX11_equivalent_22 (by decide) ?_
    exact W.iret (v := (-1)) hx hb hr (fun t ht hW => ⟨⟨(-1), (t_row, t_rowSize), rfl, hv, va_Ph ht hP⟩, hS.F ht⟩) hS.2.2 dX11_equivalent_23
  · have hv := hv.2 c_11
    refine lv_aload_n hx hb dX11_equivalent_11 rfl (lv_at hl 0 rfl) ?_
    refine lv_iload_n hx hb dX11_equivalent_12 rfl (lv_at hl 1 rfl) ?_
    refine lv_iload_n hx hb dX11_equivalent_13 rfl (lv_at hl 3 rfl) ?_
    refine lv_iload hx hb dX11_equivalent_14 (lv_at hl 4 rfl) ?_
    refine cb_VI (As := [.int p1, .int p3, .int p4]) (rest := []) ⟨hx, hb, hml, hown, hts⟩ (kX11_isBlock l dC dI cy (adl [h 0, h 3, h 1, h 2, h 5, h 6, h 7, h 4, h 8, h 9, h 10, h 11, h 12, h 13, h 14, h 15, h 16, h 17, h 18, h 19, h 20, h 21]) t_kind t_exponent t_letters t_lengths t_fed t_at t_rowSize t_steps t_foundMany t_keptMany t_keptLetters t_isFull t_isSaved t_savedKind t_savedExponent t_savedLetters p1 p3 p4 _ hv) (cwV 3 hts gX11_equivalent_X11_isBlock rfl rfl rfl zX11_isBlock ⟨Nat.le_of_ble_eq_true rfl, Nat.le_of_ble_eq_true rfl⟩) hK hP hD hS hA [0, 3] [some 0, none, none, some 1, none] rfl rfl rfl (ci := 11) rfl rfl (fun _ => rfl) rfl hl.1 rfl (Nat.le_of_ble_eq_true rfl) dX11_equivalent_16 (fun r_2 w_10 H locs hv hP hD hS => ?_)
    have hP : va_P (dC, dI) vwCl (pX11_equivalent cy h t_kind t_exponent t_letters t_values t_words t_lengths t_fed t_at t_row t_rowSize t_steps t_foundMany t_keptMany t_keptLetters t_isFull t_isSaved t_savedKind t_savedExponent t_savedLetters) H := hP
    have hD : va_D A (pX11_equivalent cy h t_kind t_exponent t_letters t_values t_words t_lengths t_fed t_at t_row t_rowSize t_steps t_foundMany t_keptMany t_keptLetters t_isFull t_isSaved t_savedKind t_savedExponent t_savedLetters) := hD
    refine lv_if_ne (tgt := 24) hx hb dX11_equivalent_19 (by decide) (fun c_9 => ?_) (fun c_9 => ?_)
    · have hv := hv.1 c_9
      refine lv_aload_n hx hb dX11_equivalent_24 rfl (lv_at hl 0 rfl) ?_
      refine lv_iload_n hx hb dX11_equivalent_25 rfl (lv_at hl 1 rfl) ?_
      refine cb_VV (As := [.int p1]) (rest := []) ⟨hx, hb, hml, hown, hts⟩ (kX11_take l dC dI cy (adl [h 0, h 2, h 3, h 4, h 1, h 5, h 6, h 7, h 8, h 9, h 10, h 11, h 12, h 13, h 14, h 15, h 16, h 17, h 18, h 19, h 20, h 21]) t_kind t_exponent t_letters t_words t_lengths t_fed t_at t_row t_rowSize t_steps t_foundMany t_keptMany t_keptLetters t_isFull t_isSaved t_savedKind t_savedExponent t_savedLetters p1 _ hv) (cwV 1 hts gX11_equivalent_X11_take rfl rfl rfl zX11_take ⟨Nat.le_of_ble_eq_true rfl, Nat.le_of_ble_eq_true rfl⟩) hK hP hD hS hA [0, 2, 3, 4] [some 0, none, some 1, some 2, some 3] rfl rfl rfl (ci := 11) rfl rfl (fun _ => rfl) rfl hl.1 rfl (Nat.le_of_ble_eq_true rfl) dX11_equivalent_26 (fun w_8 H locs hv hP hD hS => ?_)
      obtain ⟨u_3, u_4⟩ := w_8
      have hP : va_P (dC, dI) vwCl (pX11_equivalent cy h t_kind t_exponent t_letters t_values t_words t_lengths t_fed t_at u_3 u_4 t_steps t_foundMany t_keptMany t_keptLetters t_isFull t_isSaved t_savedKind t_savedExponent t_savedLetters) H := hP
      have hD : va_D A (pX11_equivalent cy h t_kind t_exponent t_letters t_values t_words t_lengths t_fed t_at u_3 u_4 t_steps t_foundMany t_keptMany t_keptLetters t_isFull t_isSaved t_savedKind t_savedExponent t_savedLetters) := hD
      refine lv_aload_n hx hb dX11_equivalent_29 rfl (lv_at hl 0 rfl) ?_
      refine lv_iload_n hx hb dX11_equivalent_30 rfl (lv_at hl 2 rfl) ?_
      refine lv_iload_n hx hb dX11_equivalent_31 rfl (lv_at hl 3 rfl) ?_
      refine lv_iload hx hb dX11_equivalent_32 (lv_at hl 4 rfl) ?_
      refine cb_VI (As := [.int p2, .int p3, .int p4]) (rest := []) ⟨hx, hb, hml, hown, hts⟩ (kX11_areAlike l dC dI cy (adl [h 0, h 1, h 4, h 2, h 3, h 5, h 6, h 7, h 8, h 9, h 10, h 11, h 12, h 13, h 14, h 15, h 16, h 17, h 18, h 19, h 20, h 21]) t_kind t_exponent t_letters t_values t_fed t_at u_3 u_4 t_steps t_foundMany t_keptMany t_keptLetters t_isFull t_isSaved t_savedKind t_savedExponent t_savedLetters p2 p3 p4 _ hv) (cwV 3 hts gX11_equivalent_X11_areAlike rfl rfl rfl zX11_areAlike ⟨Nat.le_of_ble_eq_true rfl, Nat.le_of_ble_eq_true rfl⟩) hK hP hD hS hA [0, 1, 4] [some 0, some 1, none, none, some 2] rfl rfl rfl (ci := 11) rfl rfl (fun _ => rfl) rfl hl.1 rfl (Nat.le_of_ble_eq_true rfl) dX11_equivalent_34 (fun r_5 w_7 H locs hv hP hD hS => ?_)
      have hP : va_P (dC, dI) vwCl (pX11_equivalent cy h t_kind t_exponent t_letters t_values t_words t_lengths t_fed t_at u_3 u_4 t_steps t_foundMany t_keptMany t_keptLetters t_isFull t_isSaved t_savedKind t_savedExponent t_savedLetters) H := hP
      have hD : va_D A (pX11_equivalent cy h t_kind t_exponent t_letters t_values t_words t_lengths t_fed t_at u_3 u_4 t_steps t_foundMany t_keptMany t_keptLetters t_isFull t_isSaved t_savedKind t_savedExponent t_savedLetters) := hD
      refine lv_if_eq (tgt := 44) hx hb dX11_equivalent_37 (by decide) (fun c_6 => ?_) (fun c_6 => ?_)
      · have hv := hv.1 c_6
        refine lv_iconst (v := 0) hx hb dX11_equivalent_44 (by decide) ?_
        exact W.iret (v := 0) hx hb hr (fun t ht hW => ⟨⟨0, (u_3, u_4), rfl, hv, va_Ph ht hP⟩, hS.F ht⟩) hS.2.2 dX11_equivalent_45
      · have hv := hv.2 c_6
        refine lv_iconst (v := 1) hx hb dX11_equivalent_40 (by decide) ?_
        refine lv_goto (tgt := 45) hx hb dX11_equivalent_41 (by decide) ?_
        exact W.iret (v := 1) hx hb hr (fun t ht hW => ⟨⟨1, (u_3, u_4), rfl, hv, va_Ph ht hP⟩, hS.F ht⟩) hS.2.2 dX11_equivalent_45
    · have hv := hv.2 c_9
      refine lv_iconst (v := (-1)) hx hb dX11_equivalent_22 (by decide) ?_
      exact W.iret (v := (-1)) hx hb hr (fun t ht hW => ⟨⟨(-1), (t_row, t_rowSize), rfl, hv, va_Ph ht hP⟩, hS.F ht⟩) hS.2.2 dX11_equivalent_23
theorem kX11_equivalent (l : Launch) (dC : Nat → ClassId) (dI : Nat → Nat → Nat) (cy : Nat → ClassId) (h : Nat → Nat) (t_kind : Int32) (t_exponent : Int32) (t_letters : Int32) (t_values : Nat → Int32) (t_words : Nat → Int32) (t_lengths : Nat → Int32) (t_fed : Int32) (t_at : Int32) (t_row : Nat → Int32) (t_rowSize : Int32) (t_steps : Int32) (t_foundMany : Int32) (t_keptMany : Int32) (t_keptLetters : Int32) (t_isFull : Int32) (t_isSaved : Int32) (t_savedKind : Int32) (t_savedExponent : Int32) (t_savedLetters : Int32) (p1 : Int32) (p2 : Int32) (p3 : Int32) (p4 : Int32) (post : Int32 → (Nat → Int32) → Int32 → Prop) (hv : VX11_equivalent post t_kind t_letters t_values t_words t_lengths p1 p2 p3 p4 t_row t_rowSize) : CtI l yX11_equivalent wsX11_equivalent rX11_equivalent dC dI cy [.ref (h 0), .int p1, .int p2, .int p3, .int p4] (pX11_equivalent cy h t_kind t_exponent t_letters t_values t_words t_lengths t_fed t_at t_row t_rowSize t_steps t_foundMany t_keptMany t_keptLetters t_isFull t_isSaved t_savedKind t_savedExponent t_savedLetters) (fun (u : (Nat → Int32) × Int32) => pX11_equivalent cy h t_kind t_exponent t_letters t_values t_words t_lengths t_fed t_at u.1 u.2 t_steps t_foundMany t_keptMany t_keptLetters t_isFull t_isSaved t_savedKind t_savedExponent t_savedLetters) (fun (r : Int32) (u : (Nat → Int32) × Int32) => post r u.1 u.2) :=
  ct_ofI (by decide) rfl (Nat.le_of_ble_eq_true rfl) (fun p e s m below meth c A ls C0 hP hD hS hl => wX11_equivalent_0 l h post t_kind t_exponent t_letters t_values t_words t_lengths t_fed t_at t_steps t_foundMany t_keptMany t_keptLetters t_isFull t_isSaved t_savedKind t_savedExponent t_savedLetters p1 p2 p3 p4 C0 t_row t_rowSize hv _ _ _ hP hD hS hl)
theorem mX11_firstPower_1 : (Cond.fieldLink RX11 118 "AbelianPowersModel" "rowSize" "I") ∈ wsX11_firstPower := List.mem_of_getElem? (i := 1) rfl
theorem mX11_firstPower_2 : (Cond.fieldLink RX11 13 "AbelianPowersModel" "exponent" "I") ∈ wsX11_firstPower := List.mem_of_getElem? (i := 2) rfl
theorem nX11_firstPower_X11 : ∀ w ∈ wsX110, w ∈ wsX11_firstPower := fun _ h => List.mem_cons_of_mem _ (List.mem_append_right _ h)
theorem zX11_firstPower : yX11_firstPower.cls = RX11 ∧ yX11_firstPower.cls ≠ "java/lang/invoke/MethodHandle" ∧ yX11_firstPower.cls ≠ "java/lang/invoke/VarHandle" ∧ (parseMethodDescriptor yX11_firstPower.desc).map (fun d => d.parameters.length) = some 1 := by decide +kernel
abbrev rX11_firstPower : Room := { frames := 6, cells := 0, slots := 0, locals := 142 }
abbrev pX11_firstPower (cy : Nat → ClassId) (h : Nat → Nat) (t_kind : Int32) (t_exponent : Int32) (t_letters : Int32) (t_values : Nat → Int32) (t_words : Nat → Int32) (t_lengths : Nat → Int32) (t_fed : Int32) (t_at : Int32) (t_row : Nat → Int32) (t_rowSize : Int32) (t_steps : Int32) (t_foundMany : Int32) (t_keptMany : Int32) (t_keptLetters : Int32) (t_isFull : Int32) (t_isSaved : Int32) (t_savedKind : Int32) (t_savedExponent : Int32) (t_savedLetters : Int32) : va_W := [(h 0, .inr (11, [.int t_kind, .int t_exponent, .int t_letters, .ref (h 1), .ref (h 2), .ref (h 3), .ref (h 5), .ref (h 6), .ref (h 7), .int t_fed, .int t_at, .ref (h 4), .int t_rowSize, .int t_steps, .ref (h 8), .int t_foundMany, .ref (h 9), .int t_keptMany, .int t_keptLetters, .ref (h 10), .ref (h 11), .ref (h 12), .ref (h 13), .ref (h 14), .int t_isFull, .ref (h 15), .ref (h 16), .int t_isSaved, .int t_savedKind, .int t_savedExponent, .int t_savedLetters, .ref (h 17), .ref (h 18), .ref (h 19), .ref (h 20), .ref (h 21)])), (h 1, .inl (cy 0, 4, .inl t_values)), (h 2, .inl (cy 0, 120, .inl t_words)), (h 3, .inl (cy 0, 3, .inl t_lengths)), (h 4, .inl (cy 0, 45, .inl t_row))]
def VX11_firstPower_34 (post : Int32 → (Nat → Int32) → Int32 → Prop)  (t_kind : Int32) (t_exponent : Int32) (t_letters : Int32) (t_values : Nat → Int32) (t_words : Nat → Int32) (t_lengths : Nat → Int32) (p1 : Int32) (t_row : Nat → Int32) (t_rowSize : Int32) (x2 : Int32) (x3 : Int32) : Prop := ∀ y_12 : Int32, y_12 = ((100 : Int32) * (x2 - (t_exponent * x3))) → post (y_12 + x3) t_row t_rowSize
def VX11_firstPower_16 (post : Int32 → (Nat → Int32) → Int32 → Prop)  (t_kind : Int32) (t_exponent : Int32) (t_letters : Int32) (t_values : Nat → Int32) (t_words : Nat → Int32) (t_lengths : Nat → Int32) (p1 : Int32) : Nat → (Nat → Int32) → Int32 → Int32 → Prop
  | 0, _, _, _ => False
  | n + 1, t_row, t_rowSize, x2 => ((t_rowSize < x2) → post (-2 : Int32) t_row t_rowSize) ∧ (¬ (t_rowSize < x2) → VX11_endsAt (fun r_8 => ((r_8 ≤ 0) → VX11_firstPower_16 post t_kind t_exponent t_letters t_values t_words t_lengths p1 n t_row t_rowSize (x2 + 1)) ∧ (¬ (r_8 ≤ 0) → VX11_firstPower_34 post t_kind t_exponent t_letters t_values t_words t_lengths p1 t_row t_rowSize x2 r_8)) t_kind t_exponent t_letters t_values t_row x2)
def VX11_firstPower (post : Int32 → (Nat → Int32) → Int32 → Prop)  (t_kind : Int32) (t_exponent : Int32) (t_letters : Int32) (t_values : Nat → Int32) (t_words : Nat → Int32) (t_lengths : Nat → Int32) (p1 : Int32) (t_row : Nat → Int32) (t_rowSize : Int32) : Prop := VX11_isWord (fun r_1 => (¬ (r_1 = 0) → VX11_take (fun u_2 u_3 => ∃ n16 : Nat, VX11_firstPower_16 post t_kind t_exponent t_letters t_values t_words t_lengths p1 n16 u_2 u_3 1) t_words t_lengths p1 t_row t_rowSize) ∧ ((r_1 = 0) → post (-1 : Int32) t_row t_rowSize)) p1
set_option maxHeartbeats 4000000 in
set_option maxRecDepth 100000 in
theorem wX11_firstPower_34 {p : Program} (l : Launch) {e : Env} {s : State} {m : MethodId} {args : Array Value} {below : List Frame} {meth : Method} {c : Code} {dC : Nat → ClassId} {dI : Nat → Nat → Nat} {cy : Nat → ClassId} {A : Nat → Prop} (h : Nat → Nat) (post : Int32 → (Nat → Int32) → Int32 → Prop)   (t_kind : Int32) (t_exponent : Int32) (t_letters : Int32) (t_values : Nat → Int32) (t_words : Nat → Int32) (t_lengths : Nat → Int32) (t_fed : Int32) (t_at : Int32) (t_steps : Int32) (t_foundMany : Int32) (t_keptMany : Int32) (t_keptLetters : Int32) (t_isFull : Int32) (t_isSaved : Int32) (t_savedKind : Int32) (t_savedExponent : Int32) (t_savedLetters : Int32) (p1 : Int32) (C0 : cx p s m args meth c cX11_firstPower 4 (some .int) wsX11_firstPower RX11 dC dI cy A)  : ∀ (t_row : Nat → Int32) (t_rowSize : Int32) (x2 : Int32) (x3 : Int32), VX11_firstPower_34 post t_kind t_exponent t_letters t_values t_words t_lengths p1 t_row t_rowSize x2 x3 → ∀ (H : Heap) (locs : List Loc) (ls : Array Slot), va_P (dC, dI) vwCl (pX11_firstPower cy h t_kind t_exponent t_letters t_values t_words t_lengths t_fed t_at t_row t_rowSize t_steps t_foundMany t_keptMany t_keptLetters t_isFull t_isSaved t_savedKind t_savedExponent t_savedLetters) H → va_D A (pX11_firstPower cy h t_kind t_exponent t_letters t_values t_words t_lengths t_fed t_at t_row t_rowSize t_steps t_foundMany t_keptMany t_keptLetters t_isFull t_isSaved t_savedKind t_savedExponent t_savedLetters) → va_S A s.heap H locs → lv_has ls 4 [(0, .ref (h 0)), (2, .int x2), (3, .int x3)] → W p l e rX11_firstPower s m args below meth c H locs 0 0 (MQ below (va_Qi (fun (r : Int32) (u : (Nat → Int32) × Int32) => post r u.1 u.2) (fun (u : (Nat → Int32) × Int32) (t : State) => va_P (dC, dI) vwCl (pX11_firstPower cy h t_kind t_exponent t_letters t_values t_words t_lengths t_fed t_at u.1 u.2 t_steps t_foundMany t_keptMany t_keptLetters t_isFull t_isSaved t_savedKind t_savedExponent t_savedLetters) t.heap) A) args s 0 0 A) (F0 m 34 ls []) := by
  have C1 := C0
  obtain ⟨hx, hb, hr, hml, hown, hts, hlocks, hK, hA⟩ := C1
  intro t_row t_rowSize x2 x3 hv H locs ls hP hD hS hl
  refine lv_bipush (v := 100) hx hb dX11_firstPower_34 (by decide) ?_
  refine lv_iload_n hx hb dX11_firstPower_36 rfl (lv_at hl 1 rfl) ?_
  refine lv_aload_n hx hb dX11_firstPower_37 rfl (lv_at hl 0 rfl) ?_
  refine va_get (D := (dC, dI)) (ci := 11) (v := .int t_exponent) (C := RX11) (T := TX11) (N := 36) hx hb hts nX11_firstPower_X11 hown hK hP 0 rfl rfl 1 (by decide) (hts _ mX11_firstPower_2) (fun _ h9 => h9) rfl dX11_firstPower_38 ?_
  refine lv_iload_n hx hb dX11_firstPower_41 rfl (lv_at hl 2 rfl) ?_
  refine lv_imul hx hb dX11_firstPower_42 ?_
  refine lv_isub hx hb dX11_firstPower_43 ?_
  refine lv_imul hx hb dX11_firstPower_44 ?_
  refine lv_topi (fun y_12 ey_12 => ?_)
  have hv := hv y_12 ey_12
  refine lv_iload_n hx hb dX11_firstPower_45 rfl (lv_at hl 2 rfl) ?_
  refine lv_iadd hx hb dX11_firstPower_46 ?_
  exact W.iret (v := (y_12 + x3)) hx hb hr (fun t ht hW => ⟨⟨(y_12 + x3), (t_row, t_rowSize), rfl, hv, va_Ph ht hP⟩, hS.F ht⟩) hS.2.2 dX11_firstPower_47
set_option maxHeartbeats 4000000 in
set_option maxRecDepth 100000 in
theorem wX11_firstPower_16 {p : Program} (l : Launch) {e : Env} {s : State} {m : MethodId} {args : Array Value} {below : List Frame} {meth : Method} {c : Code} {dC : Nat → ClassId} {dI : Nat → Nat → Nat} {cy : Nat → ClassId} {A : Nat → Prop} (h : Nat → Nat) (post : Int32 → (Nat → Int32) → Int32 → Prop)   (t_kind : Int32) (t_exponent : Int32) (t_letters : Int32) (t_values : Nat → Int32) (t_words : Nat → Int32) (t_lengths : Nat → Int32) (t_fed : Int32) (t_at : Int32) (t_steps : Int32) (t_foundMany : Int32) (t_keptMany : Int32) (t_keptLetters : Int32) (t_isFull : Int32) (t_isSaved : Int32) (t_savedKind : Int32) (t_savedExponent : Int32) (t_savedLetters : Int32) (p1 : Int32) (C0 : cx p s m args meth c cX11_firstPower 4 (some .int) wsX11_firstPower RX11 dC dI cy A)  : ∀ (n : Nat) (t_row : Nat → Int32) (t_rowSize : Int32) (x2 : Int32), VX11_firstPower_16 post t_kind t_exponent t_letters t_values t_words t_lengths p1 n t_row t_rowSize x2 → ∀ (H : Heap) (locs : List Loc) (ls : Array Slot), va_P (dC, dI) vwCl (pX11_firstPower cy h t_kind t_exponent t_letters t_values t_words t_lengths t_fed t_at t_row t_rowSize t_steps t_foundMany t_keptMany t_keptLetters t_isFull t_isSaved t_savedKind t_savedExponent t_savedLetters) H → va_D A (pX11_firstPower cy h t_kind t_exponent t_letters t_values t_words t_lengths t_fed t_at t_row t_rowSize t_steps t_foundMany t_keptMany t_keptLetters t_isFull t_isSaved t_savedKind t_savedExponent t_savedLetters) → va_S A s.heap H locs → lv_has ls 4 [(0, .ref (h 0)), (2, .int x2)] → W p l e rX11_firstPower s m args below meth c H locs 0 0 (MQ below (va_Qi (fun (r : Int32) (u : (Nat → Int32) × Int32) => post r u.1 u.2) (fun (u : (Nat → Int32) × Int32) (t : State) => va_P (dC, dI) vwCl (pX11_firstPower cy h t_kind t_exponent t_letters t_values t_words t_lengths t_fed t_at u.1 u.2 t_steps t_foundMany t_keptMany t_keptLetters t_isFull t_isSaved t_savedKind t_savedExponent t_savedLetters) t.heap) A) args s 0 0 A) (F0 m 16 ls []) := by
  have C1 := C0
  obtain ⟨hx, hb, hr, hml, hown, hts, hlocks, hK, hA⟩ := C1
  intro n
  induction n with
  | zero => intro t_row t_rowSize x2 hv; exact hv.elim
  | succ n ih =>
    intro t_row t_rowSize x2 hv H locs ls hP hD hS hl
    refine lv_iload_n hx hb dX11_firstPower_16 rfl (lv_at hl 1 rfl) ?_
    refine lv_aload_n hx hb dX11_firstPower_17 rfl (lv_at hl 0 rfl) ?_
    refine va_get (D := (dC, dI)) (ci := 11) (v := .int t_rowSize) (C := RX11) (T := TX11) (N := 36) hx hb hts nX11_firstPower_X11 hown hK hP 0 rfl rfl 12 (by decide) (hts _ mX11_firstPower_1) (fun _ h9 => h9) rfl dX11_firstPower_18 ?_
    refine lv_icmp_gt (tgt := 54) hx hb dX11_firstPower_21 (by decide) (fun c_11 => ?_) (fun c_11 => ?_)
    · have hv := hv.1 c_11
      refine lv_bipush (v := (-2)) hx hb dX11_firstPower_54 (by decide) ?_
      exact W.iret (v := (-2)) hx hb hr (fun t ht hW => ⟨⟨(-2), (t_row, t_rowSize), rfl, hv, va_Ph ht hP⟩, hS.F ht⟩) hS.2.2 dX11_firstPower_56
    · have hv := hv.2 c_11
      refine lv_aload_n hx hb dX11_firstPower_24 rfl (lv_at hl 0 rfl) ?_
      refine lv_iload_n hx hb dX11_firstPower_25 rfl (lv_at hl 1 rfl) ?_
      refine cb_VI (As := [.int x2]) (rest := []) ⟨hx, hb, hml, hown, hts⟩ (kX11_endsAt l dC dI cy (adl [h 0, h 1, h 4, h 2, h 3, h 5, h 6, h 7, h 8, h 9, h 10, h 11, h 12, h 13, h 14, h 15, h 16, h 17, h 18, h 19, h 20, h 21]) t_kind t_exponent t_letters t_values t_fed t_at t_row t_rowSize t_steps t_foundMany t_keptMany t_keptLetters t_isFull t_isSaved t_savedKind t_savedExponent t_savedLetters x2 _ hv) (cwV 1 hts gX11_firstPower_X11_endsAt rfl rfl rfl zX11_endsAt ⟨Nat.le_of_ble_eq_true rfl, Nat.le_of_ble_eq_true rfl⟩) hK hP hD hS hA [0, 1, 4] [some 0, some 1, none, none, some 2] rfl rfl rfl (ci := 11) rfl rfl (fun _ => rfl) rfl hl.1 rfl (Nat.le_of_ble_eq_true rfl) dX11_firstPower_26 (fun r_8 w_10 H locs hv hP hD hS => ?_)
      have hP : va_P (dC, dI) vwCl (pX11_firstPower cy h t_kind t_exponent t_letters t_values t_words t_lengths t_fed t_at t_row t_rowSize t_steps t_foundMany t_keptMany t_keptLetters t_isFull t_isSaved t_savedKind t_savedExponent t_savedLetters) H := hP
      have hD : va_D A (pX11_firstPower cy h t_kind t_exponent t_letters t_values t_words t_lengths t_fed t_at t_row t_rowSize t_steps t_foundMany t_keptMany t_keptLetters t_isFull t_isSaved t_savedKind t_savedExponent t_savedLetters) := hD
      refine lv_istore_n (lv' := [(3, .int r_8), (0, .ref (h 0)), (2, .int x2)]) hx hb dX11_firstPower_29 rfl hl (by decide) rfl (fun ls hl => ?_)
      refine lv_iload_n hx hb dX11_firstPower_30 rfl (lv_at hl 0 rfl) ?_
      refine lv_if_le (tgt := 48) hx hb dX11_firstPower_31 (by decide) (fun c_9 => ?_) (fun c_9 => ?_)
      · have hv := hv.1 c_9
        refine lv_iinc (v := (x2 + 1)) (lv' := [(2, .int ((x2 + 1))), (3, .int r_8), (0, .ref (h 0))]) hx hb dX11_firstPower_48 hl (k := 2) rfl rfl (by decide) rfl (fun ls hl => ?_)
        refine lv_goto (tgt := 16) hx hb dX11_firstPower_51 (by decide) ?_
        exact ih t_row t_rowSize (x2 + 1) hv _ _ _ hP hD hS (lv_sub hl [2, 0] rfl)
      · have hv := hv.2 c_9
        exact wX11_firstPower_34 l h post  t_kind t_exponent t_letters t_values t_words t_lengths t_fed t_at t_steps t_foundMany t_keptMany t_keptLetters t_isFull t_isSaved t_savedKind t_savedExponent t_savedLetters p1 C0 t_row t_rowSize x2 r_8 hv _ _ _ hP hD hS (lv_sub hl [1, 2, 0] rfl)
set_option maxHeartbeats 4000000 in
set_option maxRecDepth 100000 in
theorem wX11_firstPower_0 {p : Program} (l : Launch) {e : Env} {s : State} {m : MethodId} {args : Array Value} {below : List Frame} {meth : Method} {c : Code} {dC : Nat → ClassId} {dI : Nat → Nat → Nat} {cy : Nat → ClassId} {A : Nat → Prop} (h : Nat → Nat) (post : Int32 → (Nat → Int32) → Int32 → Prop)   (t_kind : Int32) (t_exponent : Int32) (t_letters : Int32) (t_values : Nat → Int32) (t_words : Nat → Int32) (t_lengths : Nat → Int32) (t_fed : Int32) (t_at : Int32) (t_steps : Int32) (t_foundMany : Int32) (t_keptMany : Int32) (t_keptLetters : Int32) (t_isFull : Int32) (t_isSaved : Int32) (t_savedKind : Int32) (t_savedExponent : Int32) (t_savedLetters : Int32) (p1 : Int32) (C0 : cx p s m args meth c cX11_firstPower 4 (some .int) wsX11_firstPower RX11 dC dI cy A)  : ∀ (t_row : Nat → Int32) (t_rowSize : Int32), VX11_firstPower post t_kind t_exponent t_letters t_values t_words t_lengths p1 t_row t_rowSize → ∀ (H : Heap) (locs : List Loc) (ls : Array Slot), va_P (dC, dI) vwCl (pX11_firstPower cy h t_kind t_exponent t_letters t_values t_words t_lengths t_fed t_at t_row t_rowSize t_steps t_foundMany t_keptMany t_keptLetters t_isFull t_isSaved t_savedKind t_savedExponent t_savedLetters) H → va_D A (pX11_firstPower cy h t_kind t_exponent t_letters t_values t_words t_lengths t_fed t_at t_row t_rowSize t_steps t_foundMany t_keptMany t_keptLetters t_isFull t_isSaved t_savedKind t_savedExponent t_savedLetters) → va_S A s.heap H locs → lv_has ls 4 [(0, .ref (h 0)), (1, .int p1)] → W p l e rX11_firstPower s m args below meth c H locs 0 0 (MQ below (va_Qi (fun (r : Int32) (u : (Nat → Int32) × Int32) => post r u.1 u.2) (fun (u : (Nat → Int32) × Int32) (t : State) => va_P (dC, dI) vwCl (pX11_firstPower cy h t_kind t_exponent t_letters t_values t_words t_lengths t_fed t_at u.1 u.2 t_steps t_foundMany t_keptMany t_keptLetters t_isFull t_isSaved t_savedKind t_savedExponent t_savedLetters) t.heap) A) args s 0 0 A) (F0 m 0 ls []) := by
  have C1 := C0
  obtain ⟨hx, hb, hr, hml, hown, hts, hlocks, hK, hA⟩ := C1
  intro t_row t_rowSize hv H locs ls hP hD hS hl
  refine lv_iload_n hx hb dX11_firstPower_0 rfl (lv_at hl 1 rfl) ?_
  refine cb_SI (As := [.int p1]) (rest := []) ⟨hx, hb, hml, hown, hts⟩ (kX11_isWord l dC dI cy (adl []) p1 _ hv) (va_cwS 1 hts gX11_firstPower_X11_isWord rfl rfl rfl zX11_isWord ⟨Nat.le_of_ble_eq_true rfl, Nat.le_of_ble_eq_true rfl⟩) hK hP hD hS hA [] [none, none, none, none, none] rfl rfl rfl (fun _ => rfl) rfl hl.1 rfl (Nat.le_of_ble_eq_true rfl) dX11_firstPower_1 (fun r_1 w_7 H locs hv hP hD hS => ?_)
  have hP : va_P (dC, dI) vwCl (pX11_firstPower cy h t_kind t_exponent t_letters t_values t_words t_lengths t_fed t_at t_row t_rowSize t_steps t_foundMany t_keptMany t_keptLetters t_isFull t_isSaved t_savedKind t_savedExponent t_savedLetters) H := hP
  have hD : va_D A (pX11_firstPower cy h t_kind t_exponent t_letters t_values t_words t_lengths t_fed t_at t_row t_rowSize t_steps t_foundMany t_keptMany t_keptLetters t_isFull t_isSaved t_savedKind t_savedExponent t_savedLetters) := hD
  refine lv_if_ne (tgt := 9) hx hb dX11_firstPower_4 (by decide) (fun c_6 => ?_) (fun c_6 => ?_)
  · have hv := hv.1 c_6
    refine lv_aload_n hx hb dX11_firstPower_9 rfl (lv_at hl 0 rfl) ?_
    refine lv_iload_n hx hb dX11_firstPower_10 rfl (lv_at hl 1 rfl) ?_
    refine cb_VV (As := [.int p1]) (rest := []) ⟨hx, hb, hml, hown, hts⟩ (kX11_take l dC dI cy (adl [h 0, h 2, h 3, h 4, h 1, h 5, h 6, h 7, h 8, h 9, h 10, h 11, h 12, h 13, h 14, h 15, h 16, h 17, h 18, h 19, h 20, h 21]) t_kind t_exponent t_letters t_words t_lengths t_fed t_at t_row t_rowSize t_steps t_foundMany t_keptMany t_keptLetters t_isFull t_isSaved t_savedKind t_savedExponent t_savedLetters p1 _ hv) (cwV 1 hts gX11_firstPower_X11_take rfl rfl rfl zX11_take ⟨Nat.le_of_ble_eq_true rfl, Nat.le_of_ble_eq_true rfl⟩) hK hP hD hS hA [0, 2, 3, 4] [some 0, none, some 1, some 2, some 3] rfl rfl rfl (ci := 11) rfl rfl (fun _ => rfl) rfl hl.1 rfl (Nat.le_of_ble_eq_true rfl) dX11_firstPower_11 (fun w_5 H locs hv hP hD hS => ?_)
    obtain ⟨u_2, u_3⟩ := w_5
    have hP : va_P (dC, dI) vwCl (pX11_firstPower cy h t_kind t_exponent t_letters t_values t_words t_lengths t_fed t_at u_2 u_3 t_steps t_foundMany t_keptMany t_keptLetters t_isFull t_isSaved t_savedKind t_savedExponent t_savedLetters) H := hP
    have hD : va_D A (pX11_firstPower cy h t_kind t_exponent t_letters t_values t_words t_lengths t_fed t_at u_2 u_3 t_steps t_foundMany t_keptMany t_keptLetters t_isFull t_isSaved t_savedKind t_savedExponent t_savedLetters) := hD
    refine lv_iconst (v := 1) hx hb dX11_firstPower_14 (by decide) ?_
    refine lv_istore_n (lv' := [(2, .int 1), (0, .ref (h 0)), (1, .int p1)]) hx hb dX11_firstPower_15 rfl hl (by decide) rfl (fun ls hl => ?_)
    obtain ⟨n_4, hv⟩ := hv
    exact wX11_firstPower_16 l h post  t_kind t_exponent t_letters t_values t_words t_lengths t_fed t_at t_steps t_foundMany t_keptMany t_keptLetters t_isFull t_isSaved t_savedKind t_savedExponent t_savedLetters p1 C0 n_4 u_2 u_3 1 hv _ _ _ hP hD hS (lv_sub hl [1, 0] rfl)
  · have hv := hv.2 c_6
    refine lv_iconst (v := (-1)) hx hb dX11_firstPower_7 (by decide) ?_
    exact W.iret (v := (-1)) hx hb hr (fun t ht hW => ⟨⟨(-1), (t_row, t_rowSize), rfl, hv, va_Ph ht hP⟩, hS.F ht⟩) hS.2.2 dX11_firstPower_8
theorem kX11_firstPower (l : Launch) (dC : Nat → ClassId) (dI : Nat → Nat → Nat) (cy : Nat → ClassId) (h : Nat → Nat) (t_kind : Int32) (t_exponent : Int32) (t_letters : Int32) (t_values : Nat → Int32) (t_words : Nat → Int32) (t_lengths : Nat → Int32) (t_fed : Int32) (t_at : Int32) (t_row : Nat → Int32) (t_rowSize : Int32) (t_steps : Int32) (t_foundMany : Int32) (t_keptMany : Int32) (t_keptLetters : Int32) (t_isFull : Int32) (t_isSaved : Int32) (t_savedKind : Int32) (t_savedExponent : Int32) (t_savedLetters : Int32) (p1 : Int32) (post : Int32 → (Nat → Int32) → Int32 → Prop) (hv : VX11_firstPower post t_kind t_exponent t_letters t_values t_words t_lengths p1 t_row t_rowSize) : CtI l yX11_firstPower wsX11_firstPower rX11_firstPower dC dI cy [.ref (h 0), .int p1] (pX11_firstPower cy h t_kind t_exponent t_letters t_values t_words t_lengths t_fed t_at t_row t_rowSize t_steps t_foundMany t_keptMany t_keptLetters t_isFull t_isSaved t_savedKind t_savedExponent t_savedLetters) (fun (u : (Nat → Int32) × Int32) => pX11_firstPower cy h t_kind t_exponent t_letters t_values t_words t_lengths t_fed t_at u.1 u.2 t_steps t_foundMany t_keptMany t_keptLetters t_isFull t_isSaved t_savedKind t_savedExponent t_savedLetters) (fun (r : Int32) (u : (Nat → Int32) × Int32) => post r u.1 u.2) :=
  ct_ofI (by decide) rfl (Nat.le_of_ble_eq_true rfl) (fun p e s m below meth c A ls C0 hP hD hS hl => wX11_firstPower_0 l h post t_kind t_exponent t_letters t_values t_words t_lengths t_fed t_at t_steps t_foundMany t_keptMany t_keptLetters t_isFull t_isSaved t_savedKind t_savedExponent t_savedLetters p1 C0 t_row t_rowSize hv _ _ _ hP hD hS hl)
theorem mX11_powerCount_1 : (Cond.fieldLink RX11 118 "AbelianPowersModel" "rowSize" "I") ∈ wsX11_powerCount := List.mem_of_getElem? (i := 1) rfl
theorem mX11_powerCount_2 : (Cond.fieldLink RX11 13 "AbelianPowersModel" "exponent" "I") ∈ wsX11_powerCount := List.mem_of_getElem? (i := 2) rfl
theorem nX11_powerCount_X11 : ∀ w ∈ wsX110, w ∈ wsX11_powerCount := fun _ h => List.mem_cons_of_mem _ (List.mem_append_right _ h)
theorem zX11_powerCount : yX11_powerCount.cls = RX11 ∧ yX11_powerCount.cls ≠ "java/lang/invoke/MethodHandle" ∧ yX11_powerCount.cls ≠ "java/lang/invoke/VarHandle" ∧ (parseMethodDescriptor yX11_powerCount.desc).map (fun d => d.parameters.length) = some 1 := by decide +kernel
abbrev rX11_powerCount : Room := { frames := 5, cells := 0, slots := 0, locals := 120 }
abbrev pX11_powerCount (cy : Nat → ClassId) (h : Nat → Nat) (t_kind : Int32) (t_exponent : Int32) (t_letters : Int32) (t_values : Nat → Int32) (t_words : Nat → Int32) (t_lengths : Nat → Int32) (t_fed : Int32) (t_at : Int32) (t_row : Nat → Int32) (t_rowSize : Int32) (t_steps : Int32) (t_foundMany : Int32) (t_keptMany : Int32) (t_keptLetters : Int32) (t_isFull : Int32) (t_isSaved : Int32) (t_savedKind : Int32) (t_savedExponent : Int32) (t_savedLetters : Int32) : va_W := [(h 0, .inr (11, [.int t_kind, .int t_exponent, .int t_letters, .ref (h 1), .ref (h 2), .ref (h 3), .ref (h 5), .ref (h 6), .ref (h 7), .int t_fed, .int t_at, .ref (h 4), .int t_rowSize, .int t_steps, .ref (h 8), .int t_foundMany, .ref (h 9), .int t_keptMany, .int t_keptLetters, .ref (h 10), .ref (h 11), .ref (h 12), .ref (h 13), .ref (h 14), .int t_isFull, .ref (h 15), .ref (h 16), .int t_isSaved, .int t_savedKind, .int t_savedExponent, .int t_savedLetters, .ref (h 17), .ref (h 18), .ref (h 19), .ref (h 20), .ref (h 21)])), (h 1, .inl (cy 0, 4, .inl t_values)), (h 2, .inl (cy 0, 120, .inl t_words)), (h 3, .inl (cy 0, 3, .inl t_lengths)), (h 4, .inl (cy 0, 45, .inl t_row))]
def VX11_powerCount_29 (post : Int32 → (Nat → Int32) → Int32 → Prop) (K18 : (Nat → Int32) → Int32 → Int32 → Int32 → Prop) (t_kind : Int32) (t_exponent : Int32) (t_letters : Int32) (t_values : Nat → Int32) (t_words : Nat → Int32) (t_lengths : Nat → Int32) (p1 : Int32) : Nat → (Nat → Int32) → Int32 → Int32 → Int32 → Int32 → Prop
  | 0, _, _, _, _, _ => False
  | n + 1, t_row, t_rowSize, x2, x3, x4 => ((x3 < (t_exponent * x4)) → K18 t_row t_rowSize x2 (x3 + 1)) ∧ (¬ (x3 < (t_exponent * x4)) → VX11_isPower (fun r_10 => ((r_10 = 0) → VX11_powerCount_29 post K18 t_kind t_exponent t_letters t_values t_words t_lengths p1 n t_row t_rowSize (x2 + 0) x3 (x4 + 1)) ∧ (¬ (r_10 = 0) → VX11_powerCount_29 post K18 t_kind t_exponent t_letters t_values t_words t_lengths p1 n t_row t_rowSize (x2 + 1) x3 (x4 + 1))) t_kind t_exponent t_letters t_values t_row x3 x4)
def VX11_powerCount_18 (post : Int32 → (Nat → Int32) → Int32 → Prop)  (t_kind : Int32) (t_exponent : Int32) (t_letters : Int32) (t_values : Nat → Int32) (t_words : Nat → Int32) (t_lengths : Nat → Int32) (p1 : Int32) : Nat → (Nat → Int32) → Int32 → Int32 → Int32 → Prop
  | 0, _, _, _, _ => False
  | n + 1, t_row, t_rowSize, x2, x3 => ((t_rowSize < x3) → post x2 t_row t_rowSize) ∧ (¬ (t_rowSize < x3) → ∃ n29 : Nat, VX11_powerCount_29 post (fun t_row t_rowSize x2 x3 => VX11_powerCount_18 post t_kind t_exponent t_letters t_values t_words t_lengths p1 n t_row t_rowSize x2 x3) t_kind t_exponent t_letters t_values t_words t_lengths p1 n29 t_row t_rowSize x2 x3 1)
def VX11_powerCount (post : Int32 → (Nat → Int32) → Int32 → Prop)  (t_kind : Int32) (t_exponent : Int32) (t_letters : Int32) (t_values : Nat → Int32) (t_words : Nat → Int32) (t_lengths : Nat → Int32) (p1 : Int32) (t_row : Nat → Int32) (t_rowSize : Int32) : Prop := VX11_isWord (fun r_1 => (¬ (r_1 = 0) → VX11_take (fun u_2 u_3 => ∃ n18 : Nat, VX11_powerCount_18 post t_kind t_exponent t_letters t_values t_words t_lengths p1 n18 u_2 u_3 0 1) t_words t_lengths p1 t_row t_rowSize) ∧ ((r_1 = 0) → post (-1 : Int32) t_row t_rowSize)) p1
set_option maxHeartbeats 4000000 in
set_option maxRecDepth 100000 in
theorem wX11_powerCount_29 {p : Program} (l : Launch) {e : Env} {s : State} {m : MethodId} {args : Array Value} {below : List Frame} {meth : Method} {c : Code} {dC : Nat → ClassId} {dI : Nat → Nat → Nat} {cy : Nat → ClassId} {A : Nat → Prop} (h : Nat → Nat) (post : Int32 → (Nat → Int32) → Int32 → Prop) (K18 : (Nat → Int32) → Int32 → Int32 → Int32 → Prop)  (t_kind : Int32) (t_exponent : Int32) (t_letters : Int32) (t_values : Nat → Int32) (t_words : Nat → Int32) (t_lengths : Nat → Int32) (t_fed : Int32) (t_at : Int32) (t_steps : Int32) (t_foundMany : Int32) (t_keptMany : Int32) (t_keptLetters : Int32) (t_isFull : Int32) (t_isSaved : Int32) (t_savedKind : Int32) (t_savedExponent : Int32) (t_savedLetters : Int32) (p1 : Int32) (C0 : cx p s m args meth c cX11_powerCount 5 (some .int) wsX11_powerCount RX11 dC dI cy A) (hK18 : ∀ (t_row : Nat → Int32) (t_rowSize : Int32) (x2 : Int32) (x3 : Int32), K18 t_row t_rowSize x2 x3 → ∀ (H : Heap) (locs : List Loc) (ls : Array Slot), va_P (dC, dI) vwCl (pX11_powerCount cy h t_kind t_exponent t_letters t_values t_words t_lengths t_fed t_at t_row t_rowSize t_steps t_foundMany t_keptMany t_keptLetters t_isFull t_isSaved t_savedKind t_savedExponent t_savedLetters) H → va_D A (pX11_powerCount cy h t_kind t_exponent t_letters t_values t_words t_lengths t_fed t_at t_row t_rowSize t_steps t_foundMany t_keptMany t_keptLetters t_isFull t_isSaved t_savedKind t_savedExponent t_savedLetters) → va_S A s.heap H locs → lv_has ls 5 [(0, .ref (h 0)), (2, .int x2), (3, .int x3)] → W p l e rX11_powerCount s m args below meth c H locs 0 0 (MQ below (va_Qi (fun (r : Int32) (u : (Nat → Int32) × Int32) => post r u.1 u.2) (fun (u : (Nat → Int32) × Int32) (t : State) => va_P (dC, dI) vwCl (pX11_powerCount cy h t_kind t_exponent t_letters t_values t_words t_lengths t_fed t_at u.1 u.2 t_steps t_foundMany t_keptMany t_keptLetters t_isFull t_isSaved t_savedKind t_savedExponent t_savedLetters) t.heap) A) args s 0 0 A) (F0 m 18 ls [])) : ∀ (n : Nat) (t_row : Nat → Int32) (t_rowSize : Int32) (x2 : Int32) (x3 : Int32) (x4 : Int32), VX11_powerCount_29 post K18 t_kind t_exponent t_letters t_values t_words t_lengths p1 n t_row t_rowSize x2 x3 x4 → ∀ (H : Heap) (locs : List Loc) (ls : Array Slot), va_P (dC, dI) vwCl (pX11_powerCount cy h t_kind t_exponent t_letters t_values t_words t_lengths t_fed t_at t_row t_rowSize t_steps t_foundMany t_keptMany t_keptLetters t_isFull t_isSaved t_savedKind t_savedExponent t_savedLetters) H → va_D A (pX11_powerCount cy h t_kind t_exponent t_letters t_values t_words t_lengths t_fed t_at t_row t_rowSize t_steps t_foundMany t_keptMany t_keptLetters t_isFull t_isSaved t_savedKind t_savedExponent t_savedLetters) → va_S A s.heap H locs → lv_has ls 5 [(0, .ref (h 0)), (2, .int x2), (3, .int x3), (4, .int x4)] → W p l e rX11_powerCount s m args below meth c H locs 0 0 (MQ below (va_Qi (fun (r : Int32) (u : (Nat → Int32) × Int32) => post r u.1 u.2) (fun (u : (Nat → Int32) × Int32) (t : State) => va_P (dC, dI) vwCl (pX11_powerCount cy h t_kind t_exponent t_letters t_values t_words t_lengths t_fed t_at u.1 u.2 t_steps t_foundMany t_keptMany t_keptLetters t_isFull t_isSaved t_savedKind t_savedExponent t_savedLetters) t.heap) A) args s 0 0 A) (F0 m 29 ls []) := by
  have C1 := C0
  obtain ⟨hx, hb, hr, hml, hown, hts, hlocks, hK, hA⟩ := C1
  intro n
  induction n with
  | zero => intro t_row t_rowSize x2 x3 x4 hv; exact hv.elim
  | succ n ih =>
    intro t_row t_rowSize x2 x3 x4 hv H locs ls hP hD hS hl
    refine lv_aload_n hx hb dX11_powerCount_29 rfl (lv_at hl 0 rfl) ?_
    refine va_get (D := (dC, dI)) (ci := 11) (v := .int t_exponent) (C := RX11) (T := TX11) (N := 36) hx hb hts nX11_powerCount_X11 hown hK hP 0 rfl rfl 1 (by decide) (hts _ mX11_powerCount_2) (fun _ h9 => h9) rfl dX11_powerCount_30 ?_
    refine lv_iload hx hb dX11_powerCount_33 (lv_at hl 3 rfl) ?_
    refine lv_imul hx hb dX11_powerCount_35 ?_
    refine lv_iload_n hx hb dX11_powerCount_36 rfl (lv_at hl 2 rfl) ?_
    refine lv_icmp_gt (tgt := 64) hx hb dX11_powerCount_37 (by decide) (fun c_13 => ?_) (fun c_13 => ?_)
    · have hv := hv.1 c_13
      refine lv_iinc (v := (x3 + 1)) (lv' := [(3, .int ((x3 + 1))), (0, .ref (h 0)), (2, .int x2), (4, .int x4)]) hx hb dX11_powerCount_64 hl (k := 2) rfl rfl (by decide) rfl (fun ls hl => ?_)
      refine lv_goto (tgt := 18) hx hb dX11_powerCount_67 (by decide) ?_
      exact hK18 t_row t_rowSize x2 (x3 + 1) hv _ _ _ hP hD hS (lv_sub hl [1, 2, 0] rfl)
    · have hv := hv.2 c_13
      refine lv_iload_n hx hb dX11_powerCount_40 rfl (lv_at hl 1 rfl) ?_
      refine lv_aload_n hx hb dX11_powerCount_41 rfl (lv_at hl 0 rfl) ?_
      refine lv_iload_n hx hb dX11_powerCount_42 rfl (lv_at hl 2 rfl) ?_
      refine lv_iload hx hb dX11_powerCount_43 (lv_at hl 3 rfl) ?_
      refine cb_VI (As := [.int x3, .int x4]) (rest := [.int x2]) ⟨hx, hb, hml, hown, hts⟩ (kX11_isPower l dC dI cy (adl [h 0, h 1, h 4, h 2, h 3, h 5, h 6, h 7, h 8, h 9, h 10, h 11, h 12, h 13, h 14, h 15, h 16, h 17, h 18, h 19, h 20, h 21]) t_kind t_exponent t_letters t_values t_fed t_at t_row t_rowSize t_steps t_foundMany t_keptMany t_keptLetters t_isFull t_isSaved t_savedKind t_savedExponent t_savedLetters x3 x4 _ hv) (cwV 2 hts gX11_powerCount_X11_isPower rfl rfl rfl zX11_isPower ⟨Nat.le_of_ble_eq_true rfl, Nat.le_of_ble_eq_true rfl⟩) hK hP hD hS hA [0, 1, 4] [some 0, some 1, none, none, some 2] rfl rfl rfl (ci := 11) rfl rfl (fun _ => rfl) rfl hl.1 rfl (Nat.le_of_ble_eq_true rfl) dX11_powerCount_45 (fun r_10 w_12 H locs hv hP hD hS => ?_)
      have hP : va_P (dC, dI) vwCl (pX11_powerCount cy h t_kind t_exponent t_letters t_values t_words t_lengths t_fed t_at t_row t_rowSize t_steps t_foundMany t_keptMany t_keptLetters t_isFull t_isSaved t_savedKind t_savedExponent t_savedLetters) H := hP
      have hD : va_D A (pX11_powerCount cy h t_kind t_exponent t_letters t_values t_words t_lengths t_fed t_at t_row t_rowSize t_steps t_foundMany t_keptMany t_keptLetters t_isFull t_isSaved t_savedKind t_savedExponent t_savedLetters) := hD
      refine lv_if_eq (tgt := 55) hx hb dX11_powerCount_48 (by decide) (fun c_11 => ?_) (fun c_11 => ?_)
      · have hv := hv.1 c_11
        refine lv_iconst (v := 0) hx hb dX11_powerCount_55 (by decide) ?_
        refine lv_iadd hx hb dX11_powerCount_56 ?_
        refine lv_istore_n (lv' := [(2, .int ((x2 + 0))), (0, .ref (h 0)), (3, .int x3), (4, .int x4)]) hx hb dX11_powerCount_57 rfl hl (by decide) rfl (fun ls hl => ?_)
        refine lv_iinc (v := (x4 + 1)) (lv' := [(4, .int ((x4 + 1))), (2, .int ((x2 + 0))), (0, .ref (h 0)), (3, .int x3)]) hx hb dX11_powerCount_58 hl (k := 3) rfl rfl (by decide) rfl (fun ls hl => ?_)
        refine lv_goto (tgt := 29) hx hb dX11_powerCount_61 (by decide) ?_
        exact ih t_row t_rowSize (x2 + 0) x3 (x4 + 1) hv _ _ _ hP hD hS (lv_sub hl [2, 1, 3, 0] rfl)
      · have hv := hv.2 c_11
        refine lv_iconst (v := 1) hx hb dX11_powerCount_51 (by decide) ?_
        refine lv_goto (tgt := 56) hx hb dX11_powerCount_52 (by decide) ?_
        refine lv_iadd hx hb dX11_powerCount_56 ?_
        refine lv_istore_n (lv' := [(2, .int ((x2 + 1))), (0, .ref (h 0)), (3, .int x3), (4, .int x4)]) hx hb dX11_powerCount_57 rfl hl (by decide) rfl (fun ls hl => ?_)
        refine lv_iinc (v := (x4 + 1)) (lv' := [(4, .int ((x4 + 1))), (2, .int ((x2 + 1))), (0, .ref (h 0)), (3, .int x3)]) hx hb dX11_powerCount_58 hl (k := 3) rfl rfl (by decide) rfl (fun ls hl => ?_)
        refine lv_goto (tgt := 29) hx hb dX11_powerCount_61 (by decide) ?_
        exact ih t_row t_rowSize (x2 + 1) x3 (x4 + 1) hv _ _ _ hP hD hS (lv_sub hl [2, 1, 3, 0] rfl)
set_option maxHeartbeats 4000000 in
set_option maxRecDepth 100000 in
theorem wX11_powerCount_18 {p : Program} (l : Launch) {e : Env} {s : State} {m : MethodId} {args : Array Value} {below : List Frame} {meth : Method} {c : Code} {dC : Nat → ClassId} {dI : Nat → Nat → Nat} {cy : Nat → ClassId} {A : Nat → Prop} (h : Nat → Nat) (post : Int32 → (Nat → Int32) → Int32 → Prop)   (t_kind : Int32) (t_exponent : Int32) (t_letters : Int32) (t_values : Nat → Int32) (t_words : Nat → Int32) (t_lengths : Nat → Int32) (t_fed : Int32) (t_at : Int32) (t_steps : Int32) (t_foundMany : Int32) (t_keptMany : Int32) (t_keptLetters : Int32) (t_isFull : Int32) (t_isSaved : Int32) (t_savedKind : Int32) (t_savedExponent : Int32) (t_savedLetters : Int32) (p1 : Int32) (C0 : cx p s m args meth c cX11_powerCount 5 (some .int) wsX11_powerCount RX11 dC dI cy A)  : ∀ (n : Nat) (t_row : Nat → Int32) (t_rowSize : Int32) (x2 : Int32) (x3 : Int32), VX11_powerCount_18 post t_kind t_exponent t_letters t_values t_words t_lengths p1 n t_row t_rowSize x2 x3 → ∀ (H : Heap) (locs : List Loc) (ls : Array Slot), va_P (dC, dI) vwCl (pX11_powerCount cy h t_kind t_exponent t_letters t_values t_words t_lengths t_fed t_at t_row t_rowSize t_steps t_foundMany t_keptMany t_keptLetters t_isFull t_isSaved t_savedKind t_savedExponent t_savedLetters) H → va_D A (pX11_powerCount cy h t_kind t_exponent t_letters t_values t_words t_lengths t_fed t_at t_row t_rowSize t_steps t_foundMany t_keptMany t_keptLetters t_isFull t_isSaved t_savedKind t_savedExponent t_savedLetters) → va_S A s.heap H locs → lv_has ls 5 [(0, .ref (h 0)), (2, .int x2), (3, .int x3)] → W p l e rX11_powerCount s m args below meth c H locs 0 0 (MQ below (va_Qi (fun (r : Int32) (u : (Nat → Int32) × Int32) => post r u.1 u.2) (fun (u : (Nat → Int32) × Int32) (t : State) => va_P (dC, dI) vwCl (pX11_powerCount cy h t_kind t_exponent t_letters t_values t_words t_lengths t_fed t_at u.1 u.2 t_steps t_foundMany t_keptMany t_keptLetters t_isFull t_isSaved t_savedKind t_savedExponent t_savedLetters) t.heap) A) args s 0 0 A) (F0 m 18 ls []) := by
  have C1 := C0
  obtain ⟨hx, hb, hr, hml, hown, hts, hlocks, hK, hA⟩ := C1
  intro n
  induction n with
  | zero => intro t_row t_rowSize x2 x3 hv; exact hv.elim
  | succ n ih =>
    intro t_row t_rowSize x2 x3 hv H locs ls hP hD hS hl
    refine lv_iload_n hx hb dX11_powerCount_18 rfl (lv_at hl 2 rfl) ?_
    refine lv_aload_n hx hb dX11_powerCount_19 rfl (lv_at hl 0 rfl) ?_
    refine va_get (D := (dC, dI)) (ci := 11) (v := .int t_rowSize) (C := RX11) (T := TX11) (N := 36) hx hb hts nX11_powerCount_X11 hown hK hP 0 rfl rfl 12 (by decide) (hts _ mX11_powerCount_1) (fun _ h9 => h9) rfl dX11_powerCount_20 ?_
    refine lv_icmp_gt (tgt := 70) hx hb dX11_powerCount_23 (by decide) (fun c_9 => ?_) (fun c_9 => ?_)
    · have hv := hv.1 c_9
      refine lv_iload_n hx hb dX11_powerCount_70 rfl (lv_at hl 1 rfl) ?_
      exact W.iret (v := x2) hx hb hr (fun t ht hW => ⟨⟨x2, (t_row, t_rowSize), rfl, hv, va_Ph ht hP⟩, hS.F ht⟩) hS.2.2 dX11_powerCount_71
    · have hv := hv.2 c_9
      refine lv_iconst (v := 1) hx hb dX11_powerCount_26 (by decide) ?_
      refine lv_istore (lv' := [(4, .int 1), (0, .ref (h 0)), (2, .int x2), (3, .int x3)]) hx hb dX11_powerCount_27 hl (by decide) rfl (fun ls hl => ?_)
      obtain ⟨n_8, hv⟩ := hv
      exact wX11_powerCount_29 l h post (fun t_row t_rowSize x2 x3 => VX11_powerCount_18 post t_kind t_exponent t_letters t_values t_words t_lengths p1 n t_row t_rowSize x2 x3)  t_kind t_exponent t_letters t_values t_words t_lengths t_fed t_at t_steps t_foundMany t_keptMany t_keptLetters t_isFull t_isSaved t_savedKind t_savedExponent t_savedLetters p1 C0 ih n_8 t_row t_rowSize x2 x3 1 hv _ _ _ hP hD hS (lv_sub hl [1, 2, 3, 0] rfl)
set_option maxHeartbeats 4000000 in
set_option maxRecDepth 100000 in
theorem wX11_powerCount_0 {p : Program} (l : Launch) {e : Env} {s : State} {m : MethodId} {args : Array Value} {below : List Frame} {meth : Method} {c : Code} {dC : Nat → ClassId} {dI : Nat → Nat → Nat} {cy : Nat → ClassId} {A : Nat → Prop} (h : Nat → Nat) (post : Int32 → (Nat → Int32) → Int32 → Prop)   (t_kind : Int32) (t_exponent : Int32) (t_letters : Int32) (t_values : Nat → Int32) (t_words : Nat → Int32) (t_lengths : Nat → Int32) (t_fed : Int32) (t_at : Int32) (t_steps : Int32) (t_foundMany : Int32) (t_keptMany : Int32) (t_keptLetters : Int32) (t_isFull : Int32) (t_isSaved : Int32) (t_savedKind : Int32) (t_savedExponent : Int32) (t_savedLetters : Int32) (p1 : Int32) (C0 : cx p s m args meth c cX11_powerCount 5 (some .int) wsX11_powerCount RX11 dC dI cy A)  : ∀ (t_row : Nat → Int32) (t_rowSize : Int32), VX11_powerCount post t_kind t_exponent t_letters t_values t_words t_lengths p1 t_row t_rowSize → ∀ (H : Heap) (locs : List Loc) (ls : Array Slot), va_P (dC, dI) vwCl (pX11_powerCount cy h t_kind t_exponent t_letters t_values t_words t_lengths t_fed t_at t_row t_rowSize t_steps t_foundMany t_keptMany t_keptLetters t_isFull t_isSaved t_savedKind t_savedExponent t_savedLetters) H → va_D A (pX11_powerCount cy h t_kind t_exponent t_letters t_values t_words t_lengths t_fed t_at t_row t_rowSize t_steps t_foundMany t_keptMany t_keptLetters t_isFull t_isSaved t_savedKind t_savedExponent t_savedLetters) → va_S A s.heap H locs → lv_has ls 5 [(0, .ref (h 0)), (1, .int p1)] → W p l e rX11_powerCount s m args below meth c H locs 0 0 (MQ below (va_Qi (fun (r : Int32) (u : (Nat → Int32) × Int32) => post r u.1 u.2) (fun (u : (Nat → Int32) × Int32) (t : State) => va_P (dC, dI) vwCl (pX11_powerCount cy h t_kind t_exponent t_letters t_values t_words t_lengths t_fed t_at u.1 u.2 t_steps t_foundMany t_keptMany t_keptLetters t_isFull t_isSaved t_savedKind t_savedExponent t_savedLetters) t.heap) A) args s 0 0 A) (F0 m 0 ls []) := by
  have C1 := C0
  obtain ⟨hx, hb, hr, hml, hown, hts, hlocks, hK, hA⟩ := C1
  intro t_row t_rowSize hv H locs ls hP hD hS hl
  refine lv_iload_n hx hb dX11_powerCount_0 rfl (lv_at hl 1 rfl) ?_
  refine cb_SI (As := [.int p1]) (rest := []) ⟨hx, hb, hml, hown, hts⟩ (kX11_isWord l dC dI cy (adl []) p1 _ hv) (va_cwS 1 hts gX11_powerCount_X11_isWord rfl rfl rfl zX11_isWord ⟨Nat.le_of_ble_eq_true rfl, Nat.le_of_ble_eq_true rfl⟩) hK hP hD hS hA [] [none, none, none, none, none] rfl rfl rfl (fun _ => rfl) rfl hl.1 rfl (Nat.le_of_ble_eq_true rfl) dX11_powerCount_1 (fun r_1 w_7 H locs hv hP hD hS => ?_)
  have hP : va_P (dC, dI) vwCl (pX11_powerCount cy h t_kind t_exponent t_letters t_values t_words t_lengths t_fed t_at t_row t_rowSize t_steps t_foundMany t_keptMany t_keptLetters t_isFull t_isSaved t_savedKind t_savedExponent t_savedLetters) H := hP
  have hD : va_D A (pX11_powerCount cy h t_kind t_exponent t_letters t_values t_words t_lengths t_fed t_at t_row t_rowSize t_steps t_foundMany t_keptMany t_keptLetters t_isFull t_isSaved t_savedKind t_savedExponent t_savedLetters) := hD
  refine lv_if_ne (tgt := 9) hx hb dX11_powerCount_4 (by decide) (fun c_6 => ?_) (fun c_6 => ?_)
  · have hv := hv.1 c_6
    refine lv_aload_n hx hb dX11_powerCount_9 rfl (lv_at hl 0 rfl) ?_
    refine lv_iload_n hx hb dX11_powerCount_10 rfl (lv_at hl 1 rfl) ?_
    refine cb_VV (As := [.int p1]) (rest := []) ⟨hx, hb, hml, hown, hts⟩ (kX11_take l dC dI cy (adl [h 0, h 2, h 3, h 4, h 1, h 5, h 6, h 7, h 8, h 9, h 10, h 11, h 12, h 13, h 14, h 15, h 16, h 17, h 18, h 19, h 20, h 21]) t_kind t_exponent t_letters t_words t_lengths t_fed t_at t_row t_rowSize t_steps t_foundMany t_keptMany t_keptLetters t_isFull t_isSaved t_savedKind t_savedExponent t_savedLetters p1 _ hv) (cwV 1 hts gX11_powerCount_X11_take rfl rfl rfl zX11_take ⟨Nat.le_of_ble_eq_true rfl, Nat.le_of_ble_eq_true rfl⟩) hK hP hD hS hA [0, 2, 3, 4] [some 0, none, some 1, some 2, some 3] rfl rfl rfl (ci := 11) rfl rfl (fun _ => rfl) rfl hl.1 rfl (Nat.le_of_ble_eq_true rfl) dX11_powerCount_11 (fun w_5 H locs hv hP hD hS => ?_)
    obtain ⟨u_2, u_3⟩ := w_5
    have hP : va_P (dC, dI) vwCl (pX11_powerCount cy h t_kind t_exponent t_letters t_values t_words t_lengths t_fed t_at u_2 u_3 t_steps t_foundMany t_keptMany t_keptLetters t_isFull t_isSaved t_savedKind t_savedExponent t_savedLetters) H := hP
    have hD : va_D A (pX11_powerCount cy h t_kind t_exponent t_letters t_values t_words t_lengths t_fed t_at u_2 u_3 t_steps t_foundMany t_keptMany t_keptLetters t_isFull t_isSaved t_savedKind t_savedExponent t_savedLetters) := hD
    refine lv_iconst (v := 0) hx hb dX11_powerCount_14 (by decide) ?_
    refine lv_istore_n (lv' := [(2, .int 0), (0, .ref (h 0)), (1, .int p1)]) hx hb dX11_powerCount_15 rfl hl (by decide) rfl (fun ls hl => ?_)
    refine lv_iconst (v := 1) hx hb dX11_powerCount_16 (by decide) ?_
    refine lv_istore_n (lv' := [(3, .int 1), (2, .int 0), (0, .ref (h 0)), (1, .int p1)]) hx hb dX11_powerCount_17 rfl hl (by decide) rfl (fun ls hl => ?_)
    obtain ⟨n_4, hv⟩ := hv
    exact wX11_powerCount_18 l h post  t_kind t_exponent t_letters t_values t_words t_lengths t_fed t_at t_steps t_foundMany t_keptMany t_keptLetters t_isFull t_isSaved t_savedKind t_savedExponent t_savedLetters p1 C0 n_4 u_2 u_3 0 1 hv _ _ _ hP hD hS (lv_sub hl [2, 1, 0] rfl)
  · have hv := hv.2 c_6
    refine lv_iconst (v := (-1)) hx hb dX11_powerCount_7 (by decide) ?_
    exact W.iret (v := (-1)) hx hb hr (fun t ht hW => ⟨⟨(-1), (t_row, t_rowSize), rfl, hv, va_Ph ht hP⟩, hS.F ht⟩) hS.2.2 dX11_powerCount_8
theorem kX11_powerCount (l : Launch) (dC : Nat → ClassId) (dI : Nat → Nat → Nat) (cy : Nat → ClassId) (h : Nat → Nat) (t_kind : Int32) (t_exponent : Int32) (t_letters : Int32) (t_values : Nat → Int32) (t_words : Nat → Int32) (t_lengths : Nat → Int32) (t_fed : Int32) (t_at : Int32) (t_row : Nat → Int32) (t_rowSize : Int32) (t_steps : Int32) (t_foundMany : Int32) (t_keptMany : Int32) (t_keptLetters : Int32) (t_isFull : Int32) (t_isSaved : Int32) (t_savedKind : Int32) (t_savedExponent : Int32) (t_savedLetters : Int32) (p1 : Int32) (post : Int32 → (Nat → Int32) → Int32 → Prop) (hv : VX11_powerCount post t_kind t_exponent t_letters t_values t_words t_lengths p1 t_row t_rowSize) : CtI l yX11_powerCount wsX11_powerCount rX11_powerCount dC dI cy [.ref (h 0), .int p1] (pX11_powerCount cy h t_kind t_exponent t_letters t_values t_words t_lengths t_fed t_at t_row t_rowSize t_steps t_foundMany t_keptMany t_keptLetters t_isFull t_isSaved t_savedKind t_savedExponent t_savedLetters) (fun (u : (Nat → Int32) × Int32) => pX11_powerCount cy h t_kind t_exponent t_letters t_values t_words t_lengths t_fed t_at u.1 u.2 t_steps t_foundMany t_keptMany t_keptLetters t_isFull t_isSaved t_savedKind t_savedExponent t_savedLetters) (fun (r : Int32) (u : (Nat → Int32) × Int32) => post r u.1 u.2) :=
  ct_ofI (by decide) rfl (Nat.le_of_ble_eq_true rfl) (fun p e s m below meth c A ls C0 hP hD hS hl => wX11_powerCount_0 l h post t_kind t_exponent t_letters t_values t_words t_lengths t_fed t_at t_steps t_foundMany t_keptMany t_keptLetters t_isFull t_isSaved t_savedKind t_savedExponent t_savedLetters p1 C0 t_row t_rowSize hv _ _ _ hP hD hS hl)
theorem mX11_freeOf_1 : (Cond.fieldLink RX11 118 "AbelianPowersModel" "rowSize" "I") ∈ wsX11_freeOf := List.mem_of_getElem? (i := 1) rfl
theorem nX11_freeOf_X11 : ∀ w ∈ wsX110, w ∈ wsX11_freeOf := fun _ h => List.mem_cons_of_mem _ (List.mem_append_right _ h)
theorem zX11_freeOf : yX11_freeOf.cls = RX11 ∧ yX11_freeOf.cls ≠ "java/lang/invoke/MethodHandle" ∧ yX11_freeOf.cls ≠ "java/lang/invoke/VarHandle" ∧ (parseMethodDescriptor yX11_freeOf.desc).map (fun d => d.parameters.length) = some 1 := by decide +kernel
abbrev rX11_freeOf : Room := { frames := 6, cells := 0, slots := 0, locals := 142 }
abbrev pX11_freeOf (cy : Nat → ClassId) (h : Nat → Nat) (t_kind : Int32) (t_exponent : Int32) (t_letters : Int32) (t_values : Nat → Int32) (t_words : Nat → Int32) (t_lengths : Nat → Int32) (t_fed : Int32) (t_at : Int32) (t_row : Nat → Int32) (t_rowSize : Int32) (t_steps : Int32) (t_foundMany : Int32) (t_keptMany : Int32) (t_keptLetters : Int32) (t_isFull : Int32) (t_isSaved : Int32) (t_savedKind : Int32) (t_savedExponent : Int32) (t_savedLetters : Int32) : va_W := [(h 0, .inr (11, [.int t_kind, .int t_exponent, .int t_letters, .ref (h 1), .ref (h 2), .ref (h 3), .ref (h 5), .ref (h 6), .ref (h 7), .int t_fed, .int t_at, .ref (h 4), .int t_rowSize, .int t_steps, .ref (h 8), .int t_foundMany, .ref (h 9), .int t_keptMany, .int t_keptLetters, .ref (h 10), .ref (h 11), .ref (h 12), .ref (h 13), .ref (h 14), .int t_isFull, .ref (h 15), .ref (h 16), .int t_isSaved, .int t_savedKind, .int t_savedExponent, .int t_savedLetters, .ref (h 17), .ref (h 18), .ref (h 19), .ref (h 20), .ref (h 21)])), (h 1, .inl (cy 0, 4, .inl t_values)), (h 2, .inl (cy 0, 120, .inl t_words)), (h 3, .inl (cy 0, 3, .inl t_lengths)), (h 4, .inl (cy 0, 45, .inl t_row))]
def VX11_freeOf_7 (post : Int32 → (Nat → Int32) → Int32 → Prop)  (t_kind : Int32) (t_exponent : Int32) (t_letters : Int32) (t_values : Nat → Int32) (t_words : Nat → Int32) (t_lengths : Nat → Int32) (p1 : Int32) : Nat → (Nat → Int32) → Int32 → Int32 → Prop
  | 0, _, _, _ => False
  | n + 1, t_row, t_rowSize, x2 => ((t_rowSize < x2) → post (x2 - 1) t_row t_rowSize) ∧ (¬ (t_rowSize < x2) → VX11_endsAt (fun r_5 => (¬ (r_5 = 0) → post (x2 - 1) t_row t_rowSize) ∧ ((r_5 = 0) → VX11_freeOf_7 post t_kind t_exponent t_letters t_values t_words t_lengths p1 n t_row t_rowSize (x2 + 1))) t_kind t_exponent t_letters t_values t_row x2)
def VX11_freeOf (post : Int32 → (Nat → Int32) → Int32 → Prop)  (t_kind : Int32) (t_exponent : Int32) (t_letters : Int32) (t_values : Nat → Int32) (t_words : Nat → Int32) (t_lengths : Nat → Int32) (p1 : Int32) (t_row : Nat → Int32) (t_rowSize : Int32) : Prop := VX11_take (fun u_1 u_2 => ∃ n7 : Nat, VX11_freeOf_7 post t_kind t_exponent t_letters t_values t_words t_lengths p1 n7 u_1 u_2 1) t_words t_lengths p1 t_row t_rowSize
set_option maxHeartbeats 4000000 in
set_option maxRecDepth 100000 in
theorem wX11_freeOf_7 {p : Program} (l : Launch) {e : Env} {s : State} {m : MethodId} {args : Array Value} {below : List Frame} {meth : Method} {c : Code} {dC : Nat → ClassId} {dI : Nat → Nat → Nat} {cy : Nat → ClassId} {A : Nat → Prop} (h : Nat → Nat) (post : Int32 → (Nat → Int32) → Int32 → Prop)   (t_kind : Int32) (t_exponent : Int32) (t_letters : Int32) (t_values : Nat → Int32) (t_words : Nat → Int32) (t_lengths : Nat → Int32) (t_fed : Int32) (t_at : Int32) (t_steps : Int32) (t_foundMany : Int32) (t_keptMany : Int32) (t_keptLetters : Int32) (t_isFull : Int32) (t_isSaved : Int32) (t_savedKind : Int32) (t_savedExponent : Int32) (t_savedLetters : Int32) (p1 : Int32) (C0 : cx p s m args meth c cX11_freeOf 3 (some .int) wsX11_freeOf RX11 dC dI cy A)  : ∀ (n : Nat) (t_row : Nat → Int32) (t_rowSize : Int32) (x2 : Int32), VX11_freeOf_7 post t_kind t_exponent t_letters t_values t_words t_lengths p1 n t_row t_rowSize x2 → ∀ (H : Heap) (locs : List Loc) (ls : Array Slot), va_P (dC, dI) vwCl (pX11_freeOf cy h t_kind t_exponent t_letters t_values t_words t_lengths t_fed t_at t_row t_rowSize t_steps t_foundMany t_keptMany t_keptLetters t_isFull t_isSaved t_savedKind t_savedExponent t_savedLetters) H → va_D A (pX11_freeOf cy h t_kind t_exponent t_letters t_values t_words t_lengths t_fed t_at t_row t_rowSize t_steps t_foundMany t_keptMany t_keptLetters t_isFull t_isSaved t_savedKind t_savedExponent t_savedLetters) → va_S A s.heap H locs → lv_has ls 3 [(0, .ref (h 0)), (2, .int x2)] → W p l e rX11_freeOf s m args below meth c H locs 0 0 (MQ below (va_Qi (fun (r : Int32) (u : (Nat → Int32) × Int32) => post r u.1 u.2) (fun (u : (Nat → Int32) × Int32) (t : State) => va_P (dC, dI) vwCl (pX11_freeOf cy h t_kind t_exponent t_letters t_values t_words t_lengths t_fed t_at u.1 u.2 t_steps t_foundMany t_keptMany t_keptLetters t_isFull t_isSaved t_savedKind t_savedExponent t_savedLetters) t.heap) A) args s 0 0 A) (F0 m 7 ls []) := by
  have C1 := C0
  obtain ⟨hx, hb, hr, hml, hown, hts, hlocks, hK, hA⟩ := C1
  intro n
  induction n with
  | zero => intro t_row t_rowSize x2 hv; exact hv.elim
  | succ n ih =>
    intro t_row t_rowSize x2 hv H locs ls hP hD hS hl
    refine lv_iload_n hx hb dX11_freeOf_7 rfl (lv_at hl 1 rfl) ?_
    refine lv_aload_n hx hb dX11_freeOf_8 rfl (lv_at hl 0 rfl) ?_
    refine va_get (D := (dC, dI)) (ci := 11) (v := .int t_rowSize) (C := RX11) (T := TX11) (N := 36) hx hb hts nX11_freeOf_X11 hown hK hP 0 rfl rfl 12 (by decide) (hts _ mX11_freeOf_1) (fun _ h9 => h9) rfl dX11_freeOf_9 ?_
    refine lv_icmp_gt (tgt := 29) hx hb dX11_freeOf_12 (by decide) (fun c_8 => ?_) (fun c_8 => ?_)
    · have hv := hv.1 c_8
      refine lv_iload_n hx hb dX11_freeOf_29 rfl (lv_at hl 1 rfl) ?_
      refine lv_iconst (v := 1) hx hb dX11_freeOf_30 (by decide) ?_
      refine lv_isub hx hb dX11_freeOf_31 ?_
      exact W.iret (v := (x2 - 1)) hx hb hr (fun t ht hW => ⟨⟨(x2 - 1), (t_row, t_rowSize), rfl, hv, va_Ph ht hP⟩, hS.F ht⟩) hS.2.2 dX11_freeOf_32
    · have hv := hv.2 c_8
      refine lv_aload_n hx hb dX11_freeOf_15 rfl (lv_at hl 0 rfl) ?_
      refine lv_iload_n hx hb dX11_freeOf_16 rfl (lv_at hl 1 rfl) ?_
      refine cb_VI (As := [.int x2]) (rest := []) ⟨hx, hb, hml, hown, hts⟩ (kX11_endsAt l dC dI cy (adl [h 0, h 1, h 4, h 2, h 3, h 5, h 6, h 7, h 8, h 9, h 10, h 11, h 12, h 13, h 14, h 15, h 16, h 17, h 18, h 19, h 20, h 21]) t_kind t_exponent t_letters t_values t_fed t_at t_row t_rowSize t_steps t_foundMany t_keptMany t_keptLetters t_isFull t_isSaved t_savedKind t_savedExponent t_savedLetters x2 _ hv) (cwV 1 hts gX11_freeOf_X11_endsAt rfl rfl rfl zX11_endsAt ⟨Nat.le_of_ble_eq_true rfl, Nat.le_of_ble_eq_true rfl⟩) hK hP hD hS hA [0, 1, 4] [some 0, some 1, none, none, some 2] rfl rfl rfl (ci := 11) rfl rfl (fun _ => rfl) rfl hl.1 rfl (Nat.le_of_ble_eq_true rfl) dX11_freeOf_17 (fun r_5 w_7 H locs hv hP hD hS => ?_)
      have hP : va_P (dC, dI) vwCl (pX11_freeOf cy h t_kind t_exponent t_letters t_values t_words t_lengths t_fed t_at t_row t_rowSize t_steps t_foundMany t_keptMany t_keptLetters t_isFull t_isSaved t_savedKind t_savedExponent t_savedLetters) H := hP
      have hD : va_D A (pX11_freeOf cy h t_kind t_exponent t_letters t_values t_words t_lengths t_fed t_at t_row t_rowSize t_steps t_foundMany t_keptMany t_keptLetters t_isFull t_isSaved t_savedKind t_savedExponent t_savedLetters) := hD
      refine lv_if_ne (tgt := 29) hx hb dX11_freeOf_20 (by decide) (fun c_6 => ?_) (fun c_6 => ?_)
      · have hv := hv.1 c_6
        refine lv_iload_n hx hb dX11_freeOf_29 rfl (lv_at hl 1 rfl) ?_
        refine lv_iconst (v := 1) hx hb dX11_freeOf_30 (by decide) ?_
        refine lv_isub hx hb dX11_freeOf_31 ?_
        exact W.iret (v := (x2 - 1)) hx hb hr (fun t ht hW => ⟨⟨(x2 - 1), (t_row, t_rowSize), rfl, hv, va_Ph ht hP⟩, hS.F ht⟩) hS.2.2 dX11_freeOf_32
      · have hv := hv.2 c_6
        refine lv_iinc (v := (x2 + 1)) (lv' := [(2, .int ((x2 + 1))), (0, .ref (h 0))]) hx hb dX11_freeOf_23 hl (k := 1) rfl rfl (by decide) rfl (fun ls hl => ?_)
        refine lv_goto (tgt := 7) hx hb dX11_freeOf_26 (by decide) ?_
        exact ih t_row t_rowSize (x2 + 1) hv _ _ _ hP hD hS (lv_sub hl [1, 0] rfl)
set_option maxHeartbeats 4000000 in
set_option maxRecDepth 100000 in
theorem wX11_freeOf_0 {p : Program} (l : Launch) {e : Env} {s : State} {m : MethodId} {args : Array Value} {below : List Frame} {meth : Method} {c : Code} {dC : Nat → ClassId} {dI : Nat → Nat → Nat} {cy : Nat → ClassId} {A : Nat → Prop} (h : Nat → Nat) (post : Int32 → (Nat → Int32) → Int32 → Prop)   (t_kind : Int32) (t_exponent : Int32) (t_letters : Int32) (t_values : Nat → Int32) (t_words : Nat → Int32) (t_lengths : Nat → Int32) (t_fed : Int32) (t_at : Int32) (t_steps : Int32) (t_foundMany : Int32) (t_keptMany : Int32) (t_keptLetters : Int32) (t_isFull : Int32) (t_isSaved : Int32) (t_savedKind : Int32) (t_savedExponent : Int32) (t_savedLetters : Int32) (p1 : Int32) (C0 : cx p s m args meth c cX11_freeOf 3 (some .int) wsX11_freeOf RX11 dC dI cy A)  : ∀ (t_row : Nat → Int32) (t_rowSize : Int32), VX11_freeOf post t_kind t_exponent t_letters t_values t_words t_lengths p1 t_row t_rowSize → ∀ (H : Heap) (locs : List Loc) (ls : Array Slot), va_P (dC, dI) vwCl (pX11_freeOf cy h t_kind t_exponent t_letters t_values t_words t_lengths t_fed t_at t_row t_rowSize t_steps t_foundMany t_keptMany t_keptLetters t_isFull t_isSaved t_savedKind t_savedExponent t_savedLetters) H → va_D A (pX11_freeOf cy h t_kind t_exponent t_letters t_values t_words t_lengths t_fed t_at t_row t_rowSize t_steps t_foundMany t_keptMany t_keptLetters t_isFull t_isSaved t_savedKind t_savedExponent t_savedLetters) → va_S A s.heap H locs → lv_has ls 3 [(0, .ref (h 0)), (1, .int p1)] → W p l e rX11_freeOf s m args below meth c H locs 0 0 (MQ below (va_Qi (fun (r : Int32) (u : (Nat → Int32) × Int32) => post r u.1 u.2) (fun (u : (Nat → Int32) × Int32) (t : State) => va_P (dC, dI) vwCl (pX11_freeOf cy h t_kind t_exponent t_letters t_values t_words t_lengths t_fed t_at u.1 u.2 t_steps t_foundMany t_keptMany t_keptLetters t_isFull t_isSaved t_savedKind t_savedExponent t_savedLetters) t.heap) A) args s 0 0 A) (F0 m 0 ls []) := by
  have C1 := C0
  obtain ⟨hx, hb, hr, hml, hown, hts, hlocks, hK, hA⟩ := C1
  intro t_row t_rowSize hv H locs ls hP hD hS hl
  refine lv_aload_n hx hb dX11_freeOf_0 rfl (lv_at hl 0 rfl) ?_
  refine lv_iload_n hx hb dX11_freeOf_1 rfl (lv_at hl 1 rfl) ?_
  refine cb_VV (As := [.int p1]) (rest := []) ⟨hx, hb, hml, hown, hts⟩ (kX11_take l dC dI cy (adl [h 0, h 2, h 3, h 4, h 1, h 5, h 6, h 7, h 8, h 9, h 10, h 11, h 12, h 13, h 14, h 15, h 16, h 17, h 18, h 19, h 20, h 21]) t_kind t_exponent t_letters t_words t_lengths t_fed t_at t_row t_rowSize t_steps t_foundMany t_keptMany t_keptLetters t_isFull t_isSaved t_savedKind t_savedExponent t_savedLetters p1 _ hv) (cwV 1 hts gX11_freeOf_X11_take rfl rfl rfl zX11_take ⟨Nat.le_of_ble_eq_true rfl, Nat.le_of_ble_eq_true rfl⟩) hK hP hD hS hA [0, 2, 3, 4] [some 0, none, some 1, some 2, some 3] rfl rfl rfl (ci := 11) rfl rfl (fun _ => rfl) rfl hl.1 rfl (Nat.le_of_ble_eq_true rfl) dX11_freeOf_2 (fun w_4 H locs hv hP hD hS => ?_)
  obtain ⟨u_1, u_2⟩ := w_4
  have hP : va_P (dC, dI) vwCl (pX11_freeOf cy h t_kind t_exponent t_letters t_values t_words t_lengths t_fed t_at u_1 u_2 t_steps t_foundMany t_keptMany t_keptLetters t_isFull t_isSaved t_savedKind t_savedExponent t_savedLetters) H := hP
  have hD : va_D A (pX11_freeOf cy h t_kind t_exponent t_letters t_values t_words t_lengths t_fed t_at u_1 u_2 t_steps t_foundMany t_keptMany t_keptLetters t_isFull t_isSaved t_savedKind t_savedExponent t_savedLetters) := hD
  refine lv_iconst (v := 1) hx hb dX11_freeOf_5 (by decide) ?_
  refine lv_istore_n (lv' := [(2, .int 1), (0, .ref (h 0)), (1, .int p1)]) hx hb dX11_freeOf_6 rfl hl (by decide) rfl (fun ls hl => ?_)
  obtain ⟨n_3, hv⟩ := hv
  exact wX11_freeOf_7 l h post  t_kind t_exponent t_letters t_values t_words t_lengths t_fed t_at t_steps t_foundMany t_keptMany t_keptLetters t_isFull t_isSaved t_savedKind t_savedExponent t_savedLetters p1 C0 n_3 u_1 u_2 1 hv _ _ _ hP hD hS (lv_sub hl [1, 0] rfl)
theorem kX11_freeOf (l : Launch) (dC : Nat → ClassId) (dI : Nat → Nat → Nat) (cy : Nat → ClassId) (h : Nat → Nat) (t_kind : Int32) (t_exponent : Int32) (t_letters : Int32) (t_values : Nat → Int32) (t_words : Nat → Int32) (t_lengths : Nat → Int32) (t_fed : Int32) (t_at : Int32) (t_row : Nat → Int32) (t_rowSize : Int32) (t_steps : Int32) (t_foundMany : Int32) (t_keptMany : Int32) (t_keptLetters : Int32) (t_isFull : Int32) (t_isSaved : Int32) (t_savedKind : Int32) (t_savedExponent : Int32) (t_savedLetters : Int32) (p1 : Int32) (post : Int32 → (Nat → Int32) → Int32 → Prop) (hv : VX11_freeOf post t_kind t_exponent t_letters t_values t_words t_lengths p1 t_row t_rowSize) : CtI l yX11_freeOf wsX11_freeOf rX11_freeOf dC dI cy [.ref (h 0), .int p1] (pX11_freeOf cy h t_kind t_exponent t_letters t_values t_words t_lengths t_fed t_at t_row t_rowSize t_steps t_foundMany t_keptMany t_keptLetters t_isFull t_isSaved t_savedKind t_savedExponent t_savedLetters) (fun (u : (Nat → Int32) × Int32) => pX11_freeOf cy h t_kind t_exponent t_letters t_values t_words t_lengths t_fed t_at u.1 u.2 t_steps t_foundMany t_keptMany t_keptLetters t_isFull t_isSaved t_savedKind t_savedExponent t_savedLetters) (fun (r : Int32) (u : (Nat → Int32) × Int32) => post r u.1 u.2) :=
  ct_ofI (by decide) rfl (Nat.le_of_ble_eq_true rfl) (fun p e s m below meth c A ls C0 hP hD hS hl => wX11_freeOf_0 l h post t_kind t_exponent t_letters t_values t_words t_lengths t_fed t_at t_steps t_foundMany t_keptMany t_keptLetters t_isFull t_isSaved t_savedKind t_savedExponent t_savedLetters p1 C0 t_row t_rowSize hv _ _ _ hP hD hS hl)
theorem zX11_freePrefix : yX11_freePrefix.cls = RX11 ∧ yX11_freePrefix.cls ≠ "java/lang/invoke/MethodHandle" ∧ yX11_freePrefix.cls ≠ "java/lang/invoke/VarHandle" ∧ (parseMethodDescriptor yX11_freePrefix.desc).map (fun d => d.parameters.length) = some 1 := by decide +kernel
abbrev rX11_freePrefix : Room := { frames := 7, cells := 0, slots := 0, locals := 164 }
abbrev pX11_freePrefix (cy : Nat → ClassId) (h : Nat → Nat) (t_kind : Int32) (t_exponent : Int32) (t_letters : Int32) (t_values : Nat → Int32) (t_words : Nat → Int32) (t_lengths : Nat → Int32) (t_fed : Int32) (t_at : Int32) (t_row : Nat → Int32) (t_rowSize : Int32) (t_steps : Int32) (t_foundMany : Int32) (t_keptMany : Int32) (t_keptLetters : Int32) (t_isFull : Int32) (t_isSaved : Int32) (t_savedKind : Int32) (t_savedExponent : Int32) (t_savedLetters : Int32) : va_W := [(h 0, .inr (11, [.int t_kind, .int t_exponent, .int t_letters, .ref (h 1), .ref (h 2), .ref (h 3), .ref (h 5), .ref (h 6), .ref (h 7), .int t_fed, .int t_at, .ref (h 4), .int t_rowSize, .int t_steps, .ref (h 8), .int t_foundMany, .ref (h 9), .int t_keptMany, .int t_keptLetters, .ref (h 10), .ref (h 11), .ref (h 12), .ref (h 13), .ref (h 14), .int t_isFull, .ref (h 15), .ref (h 16), .int t_isSaved, .int t_savedKind, .int t_savedExponent, .int t_savedLetters, .ref (h 17), .ref (h 18), .ref (h 19), .ref (h 20), .ref (h 21)])), (h 1, .inl (cy 0, 4, .inl t_values)), (h 2, .inl (cy 0, 120, .inl t_words)), (h 3, .inl (cy 0, 3, .inl t_lengths)), (h 4, .inl (cy 0, 45, .inl t_row))]
def VX11_freePrefix (post : Int32 → (Nat → Int32) → Int32 → Prop)  (t_kind : Int32) (t_exponent : Int32) (t_letters : Int32) (t_values : Nat → Int32) (t_words : Nat → Int32) (t_lengths : Nat → Int32) (p1 : Int32) (t_row : Nat → Int32) (t_rowSize : Int32) : Prop := VX11_isWord (fun r_1 => ((r_1 = 0) → post (-1 : Int32) t_row t_rowSize) ∧ (¬ (r_1 = 0) → VX11_freeOf (fun r_2 u_3 u_4 => post r_2 u_3 u_4) t_kind t_exponent t_letters t_values t_words t_lengths p1 t_row t_rowSize)) p1
set_option maxHeartbeats 4000000 in
set_option maxRecDepth 100000 in
theorem wX11_freePrefix_0 {p : Program} (l : Launch) {e : Env} {s : State} {m : MethodId} {args : Array Value} {below : List Frame} {meth : Method} {c : Code} {dC : Nat → ClassId} {dI : Nat → Nat → Nat} {cy : Nat → ClassId} {A : Nat → Prop} (h : Nat → Nat) (post : Int32 → (Nat → Int32) → Int32 → Prop)   (t_kind : Int32) (t_exponent : Int32) (t_letters : Int32) (t_values : Nat → Int32) (t_words : Nat → Int32) (t_lengths : Nat → Int32) (t_fed : Int32) (t_at : Int32) (t_steps : Int32) (t_foundMany : Int32) (t_keptMany : Int32) (t_keptLetters : Int32) (t_isFull : Int32) (t_isSaved : Int32) (t_savedKind : Int32) (t_savedExponent : Int32) (t_savedLetters : Int32) (p1 : Int32) (C0 : cx p s m args meth c cX11_freePrefix 2 (some .int) wsX11_freePrefix RX11 dC dI cy A)  : ∀ (t_row : Nat → Int32) (t_rowSize : Int32), VX11_freePrefix post t_kind t_exponent t_letters t_values t_words t_lengths p1 t_row t_rowSize → ∀ (H : Heap) (locs : List Loc) (ls : Array Slot), va_P (dC, dI) vwCl (pX11_freePrefix cy h t_kind t_exponent t_letters t_values t_words t_lengths t_fed t_at t_row t_rowSize t_steps t_foundMany t_keptMany t_keptLetters t_isFull t_isSaved t_savedKind t_savedExponent t_savedLetters) H → va_D A (pX11_freePrefix cy h t_kind t_exponent t_letters t_values t_words t_lengths t_fed t_at t_row t_rowSize t_steps t_foundMany t_keptMany t_keptLetters t_isFull t_isSaved t_savedKind t_savedExponent t_savedLetters) → va_S A s.heap H locs → lv_has ls 2 [(0, .ref (h 0)), (1, .int p1)] → W p l e rX11_freePrefix s m args below meth c H locs 0 0 (MQ below (va_Qi (fun (r : Int32) (u : (Nat → Int32) × Int32) => post r u.1 u.2) (fun (u : (Nat → Int32) × Int32) (t : State) => va_P (dC, dI) vwCl (pX11_freePrefix cy h t_kind t_exponent t_letters t_values t_words t_lengths t_fed t_at u.1 u.2 t_steps t_foundMany t_keptMany t_keptLetters t_isFull t_isSaved t_savedKind t_savedExponent t_savedLetters) t.heap) A) args s 0 0 A) (F0 m 0 ls []) := by
  have C1 := C0
  obtain ⟨hx, hb, hr, hml, hown, hts, hlocks, hK, hA⟩ := C1
  intro t_row t_rowSize hv H locs ls hP hD hS hl
  refine lv_iload_n hx hb dX11_freePrefix_0 rfl (lv_at hl 1 rfl) ?_
  refine cb_SI (As := [.int p1]) (rest := []) ⟨hx, hb, hml, hown, hts⟩ (kX11_isWord l dC dI cy (adl []) p1 _ hv) (va_cwS 1 hts gX11_freePrefix_X11_isWord rfl rfl rfl zX11_isWord ⟨Nat.le_of_ble_eq_true rfl, Nat.le_of_ble_eq_true rfl⟩) hK hP hD hS hA [] [none, none, none, none, none] rfl rfl rfl (fun _ => rfl) rfl hl.1 rfl (Nat.le_of_ble_eq_true rfl) dX11_freePrefix_1 (fun r_1 w_7 H locs hv hP hD hS => ?_)
  have hP : va_P (dC, dI) vwCl (pX11_freePrefix cy h t_kind t_exponent t_letters t_values t_words t_lengths t_fed t_at t_row t_rowSize t_steps t_foundMany t_keptMany t_keptLetters t_isFull t_isSaved t_savedKind t_savedExponent t_savedLetters) H := hP
  have hD : va_D A (pX11_freePrefix cy h t_kind t_exponent t_letters t_values t_words t_lengths t_fed t_at t_row t_rowSize t_steps t_foundMany t_keptMany t_keptLetters t_isFull t_isSaved t_savedKind t_savedExponent t_savedLetters) := hD
  refine lv_if_eq (tgt := 15) hx hb dX11_freePrefix_4 (by decide) (fun c_6 => ?_) (fun c_6 => ?_)
  · have hv := hv.1 c_6
    refine lv_iconst (v := (-1)) hx hb dX11_freePrefix_15 (by decide) ?_
    exact W.iret (v := (-1)) hx hb hr (fun t ht hW => ⟨⟨(-1), (t_row, t_rowSize), rfl, hv, va_Ph ht hP⟩, hS.F ht⟩) hS.2.2 dX11_freePrefix_16
  · have hv := hv.2 c_6
    refine lv_aload_n hx hb dX11_freePrefix_7 rfl (lv_at hl 0 rfl) ?_
    refine lv_iload_n hx hb dX11_freePrefix_8 rfl (lv_at hl 1 rfl) ?_
    refine cb_VI (As := [.int p1]) (rest := []) ⟨hx, hb, hml, hown, hts⟩ (kX11_freeOf l dC dI cy (adl [h 0, h 1, h 2, h 3, h 4, h 5, h 6, h 7, h 8, h 9, h 10, h 11, h 12, h 13, h 14, h 15, h 16, h 17, h 18, h 19, h 20, h 21]) t_kind t_exponent t_letters t_values t_words t_lengths t_fed t_at t_row t_rowSize t_steps t_foundMany t_keptMany t_keptLetters t_isFull t_isSaved t_savedKind t_savedExponent t_savedLetters p1 _ hv) (cwV 1 hts gX11_freePrefix_X11_freeOf rfl rfl rfl zX11_freeOf ⟨Nat.le_of_ble_eq_true rfl, Nat.le_of_ble_eq_true rfl⟩) hK hP hD hS hA [0, 1, 2, 3, 4] [some 0, some 1, some 2, some 3, some 4] rfl rfl rfl (ci := 11) rfl rfl (fun _ => rfl) rfl hl.1 rfl (Nat.le_of_ble_eq_true rfl) dX11_freePrefix_9 (fun r_2 w_5 H locs hv hP hD hS => ?_)
    obtain ⟨u_3, u_4⟩ := w_5
    have hP : va_P (dC, dI) vwCl (pX11_freePrefix cy h t_kind t_exponent t_letters t_values t_words t_lengths t_fed t_at u_3 u_4 t_steps t_foundMany t_keptMany t_keptLetters t_isFull t_isSaved t_savedKind t_savedExponent t_savedLetters) H := hP
    have hD : va_D A (pX11_freePrefix cy h t_kind t_exponent t_letters t_values t_words t_lengths t_fed t_at u_3 u_4 t_steps t_foundMany t_keptMany t_keptLetters t_isFull t_isSaved t_savedKind t_savedExponent t_savedLetters) := hD
    refine lv_goto (tgt := 16) hx hb dX11_freePrefix_12 (by decide) ?_
    exact W.iret (v := r_2) hx hb hr (fun t ht hW => ⟨⟨r_2, (u_3, u_4), rfl, hv, va_Ph ht hP⟩, hS.F ht⟩) hS.2.2 dX11_freePrefix_16
theorem kX11_freePrefix (l : Launch) (dC : Nat → ClassId) (dI : Nat → Nat → Nat) (cy : Nat → ClassId) (h : Nat → Nat) (t_kind : Int32) (t_exponent : Int32) (t_letters : Int32) (t_values : Nat → Int32) (t_words : Nat → Int32) (t_lengths : Nat → Int32) (t_fed : Int32) (t_at : Int32) (t_row : Nat → Int32) (t_rowSize : Int32) (t_steps : Int32) (t_foundMany : Int32) (t_keptMany : Int32) (t_keptLetters : Int32) (t_isFull : Int32) (t_isSaved : Int32) (t_savedKind : Int32) (t_savedExponent : Int32) (t_savedLetters : Int32) (p1 : Int32) (post : Int32 → (Nat → Int32) → Int32 → Prop) (hv : VX11_freePrefix post t_kind t_exponent t_letters t_values t_words t_lengths p1 t_row t_rowSize) : CtI l yX11_freePrefix wsX11_freePrefix rX11_freePrefix dC dI cy [.ref (h 0), .int p1] (pX11_freePrefix cy h t_kind t_exponent t_letters t_values t_words t_lengths t_fed t_at t_row t_rowSize t_steps t_foundMany t_keptMany t_keptLetters t_isFull t_isSaved t_savedKind t_savedExponent t_savedLetters) (fun (u : (Nat → Int32) × Int32) => pX11_freePrefix cy h t_kind t_exponent t_letters t_values t_words t_lengths t_fed t_at u.1 u.2 t_steps t_foundMany t_keptMany t_keptLetters t_isFull t_isSaved t_savedKind t_savedExponent t_savedLetters) (fun (r : Int32) (u : (Nat → Int32) × Int32) => post r u.1 u.2) :=
  ct_ofI (by decide) rfl (Nat.le_of_ble_eq_true rfl) (fun p e s m below meth c A ls C0 hP hD hS hl => wX11_freePrefix_0 l h post t_kind t_exponent t_letters t_values t_words t_lengths t_fed t_at t_steps t_foundMany t_keptMany t_keptLetters t_isFull t_isSaved t_savedKind t_savedExponent t_savedLetters p1 C0 t_row t_rowSize hv _ _ _ hP hD hS hl)
theorem mX11_extensions_1 : (Cond.fieldLink RX11 26 "AbelianPowersModel" "lengths" "[I") ∈ wsX11_extensions := List.mem_of_getElem? (i := 1) rfl
theorem mX11_extensions_2 : (Cond.fieldLink RX11 16 "AbelianPowersModel" "letters" "I") ∈ wsX11_extensions := List.mem_of_getElem? (i := 2) rfl
theorem mX11_extensions_3 : (Cond.fieldLink RX11 38 "AbelianPowersModel" "row" "[I") ∈ wsX11_extensions := List.mem_of_getElem? (i := 3) rfl
theorem mX11_extensions_4 : (Cond.fieldLink RX11 118 "AbelianPowersModel" "rowSize" "I") ∈ wsX11_extensions := List.mem_of_getElem? (i := 4) rfl
theorem nX11_extensions_X11 : ∀ w ∈ wsX110, w ∈ wsX11_extensions := fun _ h => List.mem_cons_of_mem _ (List.mem_append_right _ h)
theorem zX11_extensions : yX11_extensions.cls = RX11 ∧ yX11_extensions.cls ≠ "java/lang/invoke/MethodHandle" ∧ yX11_extensions.cls ≠ "java/lang/invoke/VarHandle" ∧ (parseMethodDescriptor yX11_extensions.desc).map (fun d => d.parameters.length) = some 1 := by decide +kernel
abbrev rX11_extensions : Room := { frames := 7, cells := 0, slots := 0, locals := 164 }
abbrev pX11_extensions (cy : Nat → ClassId) (h : Nat → Nat) (t_kind : Int32) (t_exponent : Int32) (t_letters : Int32) (t_values : Nat → Int32) (t_words : Nat → Int32) (t_lengths : Nat → Int32) (t_fed : Int32) (t_at : Int32) (t_row : Nat → Int32) (t_rowSize : Int32) (t_steps : Int32) (t_foundMany : Int32) (t_keptMany : Int32) (t_keptLetters : Int32) (t_isFull : Int32) (t_isSaved : Int32) (t_savedKind : Int32) (t_savedExponent : Int32) (t_savedLetters : Int32) : va_W := [(h 0, .inr (11, [.int t_kind, .int t_exponent, .int t_letters, .ref (h 1), .ref (h 2), .ref (h 3), .ref (h 5), .ref (h 6), .ref (h 7), .int t_fed, .int t_at, .ref (h 4), .int t_rowSize, .int t_steps, .ref (h 8), .int t_foundMany, .ref (h 9), .int t_keptMany, .int t_keptLetters, .ref (h 10), .ref (h 11), .ref (h 12), .ref (h 13), .ref (h 14), .int t_isFull, .ref (h 15), .ref (h 16), .int t_isSaved, .int t_savedKind, .int t_savedExponent, .int t_savedLetters, .ref (h 17), .ref (h 18), .ref (h 19), .ref (h 20), .ref (h 21)])), (h 1, .inl (cy 0, 4, .inl t_values)), (h 2, .inl (cy 0, 120, .inl t_words)), (h 3, .inl (cy 0, 3, .inl t_lengths)), (h 4, .inl (cy 0, 45, .inl t_row))]
def VX11_extensions_30 (post : Int32 → (Nat → Int32) → Int32 → Prop)  (t_kind : Int32) (t_exponent : Int32) (t_letters : Int32) (t_values : Nat → Int32) (t_words : Nat → Int32) (t_lengths : Nat → Int32) (p1 : Int32) : Nat → (Nat → Int32) → Int32 → Int32 → Int32 → Prop
  | 0, _, _, _, _ => False
  | n + 1, t_row, t_rowSize, x2, x3 => ((t_letters ≤ x3) → post x2 t_row t_rowSize) ∧ (¬ (t_letters ≤ x3) → vp_in t_rowSize 45 ∧ (VX11_endsAt (fun r_12 => (¬ (r_12 = 0) → VX11_extensions_30 post t_kind t_exponent t_letters t_values t_words t_lengths p1 n (upd t_row t_rowSize.toNatClampNeg x3) t_rowSize (x2 ||| 0) (x3 + 1)) ∧ ((r_12 = 0) → ∀ y_13 : Int32, y_13 = ((1 : Int32) <<< (x3 &&& 31)) → VX11_extensions_30 post t_kind t_exponent t_letters t_values t_words t_lengths p1 n (upd t_row t_rowSize.toNatClampNeg x3) t_rowSize (x2 ||| y_13) (x3 + 1))) t_kind t_exponent t_letters t_values (upd t_row t_rowSize.toNatClampNeg x3) (t_rowSize + 1)))
def VX11_extensions (post : Int32 → (Nat → Int32) → Int32 → Prop)  (t_kind : Int32) (t_exponent : Int32) (t_letters : Int32) (t_values : Nat → Int32) (t_words : Nat → Int32) (t_lengths : Nat → Int32) (p1 : Int32) (t_row : Nat → Int32) (t_rowSize : Int32) : Prop := VX11_isWord (fun r_1 => (¬ (r_1 = 0) → VX11_freeOf (fun r_2 u_3 u_4 => vp_in p1 3 ∧ ((((t_lengths p1.toNatClampNeg) ≤ r_2) → ∃ n30 : Nat, VX11_extensions_30 post t_kind t_exponent t_letters t_values t_words t_lengths p1 n30 u_3 u_4 0 0) ∧ (¬ ((t_lengths p1.toNatClampNeg) ≤ r_2) → post (-5 : Int32) u_3 u_4))) t_kind t_exponent t_letters t_values t_words t_lengths p1 t_row t_rowSize) ∧ ((r_1 = 0) → post (-1 : Int32) t_row t_rowSize)) p1
set_option maxHeartbeats 4000000 in
set_option maxRecDepth 100000 in
theorem wX11_extensions_30 {p : Program} (l : Launch) {e : Env} {s : State} {m : MethodId} {args : Array Value} {below : List Frame} {meth : Method} {c : Code} {dC : Nat → ClassId} {dI : Nat → Nat → Nat} {cy : Nat → ClassId} {A : Nat → Prop} (h : Nat → Nat) (post : Int32 → (Nat → Int32) → Int32 → Prop)   (t_kind : Int32) (t_exponent : Int32) (t_letters : Int32) (t_values : Nat → Int32) (t_words : Nat → Int32) (t_lengths : Nat → Int32) (t_fed : Int32) (t_at : Int32) (t_steps : Int32) (t_foundMany : Int32) (t_keptMany : Int32) (t_keptLetters : Int32) (t_isFull : Int32) (t_isSaved : Int32) (t_savedKind : Int32) (t_savedExponent : Int32) (t_savedLetters : Int32) (p1 : Int32) (C0 : cx p s m args meth c cX11_extensions 4 (some .int) wsX11_extensions RX11 dC dI cy A)  : ∀ (n : Nat) (t_row : Nat → Int32) (t_rowSize : Int32) (x2 : Int32) (x3 : Int32), VX11_extensions_30 post t_kind t_exponent t_letters t_values t_words t_lengths p1 n t_row t_rowSize x2 x3 → ∀ (H : Heap) (locs : List Loc) (ls : Array Slot), va_P (dC, dI) vwCl (pX11_extensions cy h t_kind t_exponent t_letters t_values t_words t_lengths t_fed t_at t_row t_rowSize t_steps t_foundMany t_keptMany t_keptLetters t_isFull t_isSaved t_savedKind t_savedExponent t_savedLetters) H → va_D A (pX11_extensions cy h t_kind t_exponent t_letters t_values t_words t_lengths t_fed t_at t_row t_rowSize t_steps t_foundMany t_keptMany t_keptLetters t_isFull t_isSaved t_savedKind t_savedExponent t_savedLetters) → va_S A s.heap H locs → lv_has ls 4 [(0, .ref (h 0)), (2, .int x2), (3, .int x3)] → W p l e rX11_extensions s m args below meth c H locs 0 0 (MQ below (va_Qi (fun (r : Int32) (u : (Nat → Int32) × Int32) => post r u.1 u.2) (fun (u : (Nat → Int32) × Int32) (t : State) => va_P (dC, dI) vwCl (pX11_extensions cy h t_kind t_exponent t_letters t_values t_words t_lengths t_fed t_at u.1 u.2 t_steps t_foundMany t_keptMany t_keptLetters t_isFull t_isSaved t_savedKind t_savedExponent t_savedLetters) t.heap) A) args s 0 0 A) (F0 m 30 ls []) := by
  have C1 := C0
  obtain ⟨hx, hb, hr, hml, hown, hts, hlocks, hK, hA⟩ := C1
  intro n
  induction n with
  | zero => intro t_row t_rowSize x2 x3 hv; exact hv.elim
  | succ n ih =>
    intro t_row t_rowSize x2 x3 hv H locs ls hP hD hS hl
    refine lv_iload_n hx hb dX11_extensions_30 rfl (lv_at hl 2 rfl) ?_
    refine lv_aload_n hx hb dX11_extensions_31 rfl (lv_at hl 0 rfl) ?_
    refine va_get (D := (dC, dI)) (ci := 11) (v := .int t_letters) (C := RX11) (T := TX11) (N := 36) hx hb hts nX11_extensions_X11 hown hK hP 0 rfl rfl 2 (by decide) (hts _ mX11_extensions_2) (fun _ h9 => h9) rfl dX11_extensions_32 ?_
    refine lv_icmp_ge (tgt := 77) hx hb dX11_extensions_35 (by decide) (fun c_16 => ?_) (fun c_16 => ?_)
    · have hv := hv.1 c_16
      refine lv_iload_n hx hb dX11_extensions_77 rfl (lv_at hl 1 rfl) ?_
      exact W.iret (v := x2) hx hb hr (fun t ht hW => ⟨⟨x2, (t_row, t_rowSize), rfl, hv, va_Ph ht hP⟩, hS.F ht⟩) hS.2.2 dX11_extensions_78
    · have hv := hv.2 c_16
      refine lv_aload_n hx hb dX11_extensions_38 rfl (lv_at hl 0 rfl) ?_
      refine va_get (D := (dC, dI)) (ci := 11) (v := .ref (h 4)) (C := RX11) (T := TX11) (N := 36) hx hb hts nX11_extensions_X11 hown hK hP 0 rfl rfl 11 (by decide) (hts _ mX11_extensions_3) (fun _ h9 => h9) rfl dX11_extensions_39 ?_
      refine lv_aload_n hx hb dX11_extensions_42 rfl (lv_at hl 0 rfl) ?_
      refine va_get (D := (dC, dI)) (ci := 11) (v := .int t_rowSize) (C := RX11) (T := TX11) (N := 36) hx hb hts nX11_extensions_X11 hown hK hP 0 rfl rfl 12 (by decide) (hts _ mX11_extensions_4) (fun _ h9 => h9) rfl dX11_extensions_43 ?_
      refine lv_iload_n hx hb dX11_extensions_46 rfl (lv_at hl 2 rfl) ?_
      have h_11 := hv.1
      have hv := hv.2
      refine va_iast hx hb hK hP hD hS 4 0 rfl rfl h_11 dX11_extensions_47 (fun H locs hP hD hS => ?_)
      have hP : va_P (dC, dI) vwCl (pX11_extensions cy h t_kind t_exponent t_letters t_values t_words t_lengths t_fed t_at (upd t_row t_rowSize.toNatClampNeg x3) t_rowSize t_steps t_foundMany t_keptMany t_keptLetters t_isFull t_isSaved t_savedKind t_savedExponent t_savedLetters) H := hP
      have hD : va_D A (pX11_extensions cy h t_kind t_exponent t_letters t_values t_words t_lengths t_fed t_at (upd t_row t_rowSize.toNatClampNeg x3) t_rowSize t_steps t_foundMany t_keptMany t_keptLetters t_isFull t_isSaved t_savedKind t_savedExponent t_savedLetters) := hD
      refine lv_iload_n hx hb dX11_extensions_48 rfl (lv_at hl 1 rfl) ?_
      refine lv_aload_n hx hb dX11_extensions_49 rfl (lv_at hl 0 rfl) ?_
      refine lv_aload_n hx hb dX11_extensions_50 rfl (lv_at hl 0 rfl) ?_
      refine va_get (D := (dC, dI)) (ci := 11) (v := .int t_rowSize) (C := RX11) (T := TX11) (N := 36) hx hb hts nX11_extensions_X11 hown hK hP 0 rfl rfl 12 (by decide) (hts _ mX11_extensions_4) (fun _ h9 => h9) rfl dX11_extensions_51 ?_
      refine lv_iconst (v := 1) hx hb dX11_extensions_54 (by decide) ?_
      refine lv_iadd hx hb dX11_extensions_55 ?_
      refine cb_VI (As := [.int ((t_rowSize + 1))]) (rest := [.int x2]) ⟨hx, hb, hml, hown, hts⟩ (kX11_endsAt l dC dI cy (adl [h 0, h 1, h 4, h 2, h 3, h 5, h 6, h 7, h 8, h 9, h 10, h 11, h 12, h 13, h 14, h 15, h 16, h 17, h 18, h 19, h 20, h 21]) t_kind t_exponent t_letters t_values t_fed t_at (upd t_row t_rowSize.toNatClampNeg x3) t_rowSize t_steps t_foundMany t_keptMany t_keptLetters t_isFull t_isSaved t_savedKind t_savedExponent t_savedLetters (t_rowSize + 1) _ hv) (cwV 1 hts gX11_extensions_X11_endsAt rfl rfl rfl zX11_endsAt ⟨Nat.le_of_ble_eq_true rfl, Nat.le_of_ble_eq_true rfl⟩) hK hP hD hS hA [0, 1, 4] [some 0, some 1, none, none, some 2] rfl rfl rfl (ci := 11) rfl rfl (fun _ => rfl) rfl hl.1 rfl (Nat.le_of_ble_eq_true rfl) dX11_extensions_56 (fun r_12 w_15 H locs hv hP hD hS => ?_)
      have hP : va_P (dC, dI) vwCl (pX11_extensions cy h t_kind t_exponent t_letters t_values t_words t_lengths t_fed t_at (upd t_row t_rowSize.toNatClampNeg x3) t_rowSize t_steps t_foundMany t_keptMany t_keptLetters t_isFull t_isSaved t_savedKind t_savedExponent t_savedLetters) H := hP
      have hD : va_D A (pX11_extensions cy h t_kind t_exponent t_letters t_values t_words t_lengths t_fed t_at (upd t_row t_rowSize.toNatClampNeg x3) t_rowSize t_steps t_foundMany t_keptMany t_keptLetters t_isFull t_isSaved t_savedKind t_savedExponent t_savedLetters) := hD
      refine lv_if_ne (tgt := 68) hx hb dX11_extensions_59 (by decide) (fun c_14 => ?_) (fun c_14 => ?_)
      · have hv := hv.1 c_14
        refine lv_iconst (v := 0) hx hb dX11_extensions_68 (by decide) ?_
        refine lv_ior hx hb dX11_extensions_69 ?_
        refine lv_istore_n (lv' := [(2, .int ((x2 ||| 0))), (0, .ref (h 0)), (3, .int x3)]) hx hb dX11_extensions_70 rfl hl (by decide) rfl (fun ls hl => ?_)
        refine lv_iinc (v := (x3 + 1)) (lv' := [(3, .int ((x3 + 1))), (2, .int ((x2 ||| 0))), (0, .ref (h 0))]) hx hb dX11_extensions_71 hl (k := 2) rfl rfl (by decide) rfl (fun ls hl => ?_)
        refine lv_goto (tgt := 30) hx hb dX11_extensions_74 (by decide) ?_
        exact ih (upd t_row t_rowSize.toNatClampNeg x3) t_rowSize (x2 ||| 0) (x3 + 1) hv _ _ _ hP hD hS (lv_sub hl [2, 1, 0] rfl)
      · have hv := hv.2 c_14
        refine lv_iconst (v := 1) hx hb dX11_extensions_62 (by decide) ?_
        refine lv_iload_n hx hb dX11_extensions_63 rfl (lv_at hl 2 rfl) ?_
        refine lv_ishl hx hb dX11_extensions_64 ?_
        refine lv_topi (fun y_13 ey_13 => ?_)
        have hv := hv y_13 ey_13
        refine lv_goto (tgt := 69) hx hb dX11_extensions_65 (by decide) ?_
        refine lv_ior hx hb dX11_extensions_69 ?_
        refine lv_istore_n (lv' := [(2, .int ((x2 ||| y_13))), (0, .ref (h 0)), (3, .int x3)]) hx hb dX11_extensions_70 rfl hl (by decide) rfl (fun ls hl => ?_)
        refine lv_iinc (v := (x3 + 1)) (lv' := [(3, .int ((x3 + 1))), (2, .int ((x2 ||| y_13))), (0, .ref (h 0))]) hx hb dX11_extensions_71 hl (k := 2) rfl rfl (by decide) rfl (fun ls hl => ?_)
        refine lv_goto (tgt := 30) hx hb dX11_extensions_74 (by decide) ?_
        exact ih (upd t_row t_rowSize.toNatClampNeg x3) t_rowSize (x2 ||| y_13) (x3 + 1) hv _ _ _ hP hD hS (lv_sub hl [2, 1, 0] rfl)
set_option maxHeartbeats 4000000 in
set_option maxRecDepth 100000 in
theorem wX11_extensions_0 {p : Program} (l : Launch) {e : Env} {s : State} {m : MethodId} {args : Array Value} {below : List Frame} {meth : Method} {c : Code} {dC : Nat → ClassId} {dI : Nat → Nat → Nat} {cy : Nat → ClassId} {A : Nat → Prop} (h : Nat → Nat) (post : Int32 → (Nat → Int32) → Int32 → Prop)   (t_kind : Int32) (t_exponent : Int32) (t_letters : Int32) (t_values : Nat → Int32) (t_words : Nat → Int32) (t_lengths : Nat → Int32) (t_fed : Int32) (t_at : Int32) (t_steps : Int32) (t_foundMany : Int32) (t_keptMany : Int32) (t_keptLetters : Int32) (t_isFull : Int32) (t_isSaved : Int32) (t_savedKind : Int32) (t_savedExponent : Int32) (t_savedLetters : Int32) (p1 : Int32) (C0 : cx p s m args meth c cX11_extensions 4 (some .int) wsX11_extensions RX11 dC dI cy A)  : ∀ (t_row : Nat → Int32) (t_rowSize : Int32), VX11_extensions post t_kind t_exponent t_letters t_values t_words t_lengths p1 t_row t_rowSize → ∀ (H : Heap) (locs : List Loc) (ls : Array Slot), va_P (dC, dI) vwCl (pX11_extensions cy h t_kind t_exponent t_letters t_values t_words t_lengths t_fed t_at t_row t_rowSize t_steps t_foundMany t_keptMany t_keptLetters t_isFull t_isSaved t_savedKind t_savedExponent t_savedLetters) H → va_D A (pX11_extensions cy h t_kind t_exponent t_letters t_values t_words t_lengths t_fed t_at t_row t_rowSize t_steps t_foundMany t_keptMany t_keptLetters t_isFull t_isSaved t_savedKind t_savedExponent t_savedLetters) → va_S A s.heap H locs → lv_has ls 4 [(0, .ref (h 0)), (1, .int p1)] → W p l e rX11_extensions s m args below meth c H locs 0 0 (MQ below (va_Qi (fun (r : Int32) (u : (Nat → Int32) × Int32) => post r u.1 u.2) (fun (u : (Nat → Int32) × Int32) (t : State) => va_P (dC, dI) vwCl (pX11_extensions cy h t_kind t_exponent t_letters t_values t_words t_lengths t_fed t_at u.1 u.2 t_steps t_foundMany t_keptMany t_keptLetters t_isFull t_isSaved t_savedKind t_savedExponent t_savedLetters) t.heap) A) args s 0 0 A) (F0 m 0 ls []) := by
  have C1 := C0
  obtain ⟨hx, hb, hr, hml, hown, hts, hlocks, hK, hA⟩ := C1
  intro t_row t_rowSize hv H locs ls hP hD hS hl
  refine lv_iload_n hx hb dX11_extensions_0 rfl (lv_at hl 1 rfl) ?_
  refine cb_SI (As := [.int p1]) (rest := []) ⟨hx, hb, hml, hown, hts⟩ (kX11_isWord l dC dI cy (adl []) p1 _ hv) (va_cwS 1 hts gX11_extensions_X11_isWord rfl rfl rfl zX11_isWord ⟨Nat.le_of_ble_eq_true rfl, Nat.le_of_ble_eq_true rfl⟩) hK hP hD hS hA [] [none, none, none, none, none] rfl rfl rfl (fun _ => rfl) rfl hl.1 rfl (Nat.le_of_ble_eq_true rfl) dX11_extensions_1 (fun r_1 w_10 H locs hv hP hD hS => ?_)
  have hP : va_P (dC, dI) vwCl (pX11_extensions cy h t_kind t_exponent t_letters t_values t_words t_lengths t_fed t_at t_row t_rowSize t_steps t_foundMany t_keptMany t_keptLetters t_isFull t_isSaved t_savedKind t_savedExponent t_savedLetters) H := hP
  have hD : va_D A (pX11_extensions cy h t_kind t_exponent t_letters t_values t_words t_lengths t_fed t_at t_row t_rowSize t_steps t_foundMany t_keptMany t_keptLetters t_isFull t_isSaved t_savedKind t_savedExponent t_savedLetters) := hD
  refine lv_if_ne (tgt := 9) hx hb dX11_extensions_4 (by decide) (fun c_9 => ?_) (fun c_9 => ?_)
  · have hv := hv.1 c_9
    refine lv_aload_n hx hb dX11_extensions_9 rfl (lv_at hl 0 rfl) ?_
    refine lv_iload_n hx hb dX11_extensions_10 rfl (lv_at hl 1 rfl) ?_
    refine cb_VI (As := [.int p1]) (rest := []) ⟨hx, hb, hml, hown, hts⟩ (kX11_freeOf l dC dI cy (adl [h 0, h 1, h 2, h 3, h 4, h 5, h 6, h 7, h 8, h 9, h 10, h 11, h 12, h 13, h 14, h 15, h 16, h 17, h 18, h 19, h 20, h 21]) t_kind t_exponent t_letters t_values t_words t_lengths t_fed t_at t_row t_rowSize t_steps t_foundMany t_keptMany t_keptLetters t_isFull t_isSaved t_savedKind t_savedExponent t_savedLetters p1 _ hv) (cwV 1 hts gX11_extensions_X11_freeOf rfl rfl rfl zX11_freeOf ⟨Nat.le_of_ble_eq_true rfl, Nat.le_of_ble_eq_true rfl⟩) hK hP hD hS hA [0, 1, 2, 3, 4] [some 0, some 1, some 2, some 3, some 4] rfl rfl rfl (ci := 11) rfl rfl (fun _ => rfl) rfl hl.1 rfl (Nat.le_of_ble_eq_true rfl) dX11_extensions_11 (fun r_2 w_8 H locs hv hP hD hS => ?_)
    obtain ⟨u_3, u_4⟩ := w_8
    have hP : va_P (dC, dI) vwCl (pX11_extensions cy h t_kind t_exponent t_letters t_values t_words t_lengths t_fed t_at u_3 u_4 t_steps t_foundMany t_keptMany t_keptLetters t_isFull t_isSaved t_savedKind t_savedExponent t_savedLetters) H := hP
    have hD : va_D A (pX11_extensions cy h t_kind t_exponent t_letters t_values t_words t_lengths t_fed t_at u_3 u_4 t_steps t_foundMany t_keptMany t_keptLetters t_isFull t_isSaved t_savedKind t_savedExponent t_savedLetters) := hD
    refine lv_aload_n hx hb dX11_extensions_14 rfl (lv_at hl 0 rfl) ?_
    refine va_get (D := (dC, dI)) (ci := 11) (v := .ref (h 3)) (C := RX11) (T := TX11) (N := 36) hx hb hts nX11_extensions_X11 hown hK hP 0 rfl rfl 5 (by decide) (hts _ mX11_extensions_1) (fun _ h9 => h9) rfl dX11_extensions_15 ?_
    refine lv_iload_n hx hb dX11_extensions_18 rfl (lv_at hl 1 rfl) ?_
    have h_5 := hv.1
    have hv := hv.2
    refine va_iald hx hb hK hP 3 0 rfl rfl h_5 dX11_extensions_19 ?_
    refine lv_icmp_ge (tgt := 26) hx hb dX11_extensions_20 (by decide) (fun c_7 => ?_) (fun c_7 => ?_)
    · have hv := hv.1 c_7
      refine lv_iconst (v := 0) hx hb dX11_extensions_26 (by decide) ?_
      refine lv_istore_n (lv' := [(2, .int 0), (0, .ref (h 0)), (1, .int p1)]) hx hb dX11_extensions_27 rfl hl (by decide) rfl (fun ls hl => ?_)
      refine lv_iconst (v := 0) hx hb dX11_extensions_28 (by decide) ?_
      refine lv_istore_n (lv' := [(3, .int 0), (2, .int 0), (0, .ref (h 0)), (1, .int p1)]) hx hb dX11_extensions_29 rfl hl (by decide) rfl (fun ls hl => ?_)
      obtain ⟨n_6, hv⟩ := hv
      exact wX11_extensions_30 l h post  t_kind t_exponent t_letters t_values t_words t_lengths t_fed t_at t_steps t_foundMany t_keptMany t_keptLetters t_isFull t_isSaved t_savedKind t_savedExponent t_savedLetters p1 C0 n_6 u_3 u_4 0 0 hv _ _ _ hP hD hS (lv_sub hl [2, 1, 0] rfl)
    · have hv := hv.2 c_7
      refine lv_bipush (v := (-5)) hx hb dX11_extensions_23 (by decide) ?_
      exact W.iret (v := (-5)) hx hb hr (fun t ht hW => ⟨⟨(-5), (u_3, u_4), rfl, hv, va_Ph ht hP⟩, hS.F ht⟩) hS.2.2 dX11_extensions_25
  · have hv := hv.2 c_9
    refine lv_iconst (v := (-1)) hx hb dX11_extensions_7 (by decide) ?_
    exact W.iret (v := (-1)) hx hb hr (fun t ht hW => ⟨⟨(-1), (t_row, t_rowSize), rfl, hv, va_Ph ht hP⟩, hS.F ht⟩) hS.2.2 dX11_extensions_8
theorem kX11_extensions (l : Launch) (dC : Nat → ClassId) (dI : Nat → Nat → Nat) (cy : Nat → ClassId) (h : Nat → Nat) (t_kind : Int32) (t_exponent : Int32) (t_letters : Int32) (t_values : Nat → Int32) (t_words : Nat → Int32) (t_lengths : Nat → Int32) (t_fed : Int32) (t_at : Int32) (t_row : Nat → Int32) (t_rowSize : Int32) (t_steps : Int32) (t_foundMany : Int32) (t_keptMany : Int32) (t_keptLetters : Int32) (t_isFull : Int32) (t_isSaved : Int32) (t_savedKind : Int32) (t_savedExponent : Int32) (t_savedLetters : Int32) (p1 : Int32) (post : Int32 → (Nat → Int32) → Int32 → Prop) (hv : VX11_extensions post t_kind t_exponent t_letters t_values t_words t_lengths p1 t_row t_rowSize) : CtI l yX11_extensions wsX11_extensions rX11_extensions dC dI cy [.ref (h 0), .int p1] (pX11_extensions cy h t_kind t_exponent t_letters t_values t_words t_lengths t_fed t_at t_row t_rowSize t_steps t_foundMany t_keptMany t_keptLetters t_isFull t_isSaved t_savedKind t_savedExponent t_savedLetters) (fun (u : (Nat → Int32) × Int32) => pX11_extensions cy h t_kind t_exponent t_letters t_values t_words t_lengths t_fed t_at u.1 u.2 t_steps t_foundMany t_keptMany t_keptLetters t_isFull t_isSaved t_savedKind t_savedExponent t_savedLetters) (fun (r : Int32) (u : (Nat → Int32) × Int32) => post r u.1 u.2) :=
  ct_ofI (by decide) rfl (Nat.le_of_ble_eq_true rfl) (fun p e s m below meth c A ls C0 hP hD hS hl => wX11_extensions_0 l h post t_kind t_exponent t_letters t_values t_words t_lengths t_fed t_at t_steps t_foundMany t_keptMany t_keptLetters t_isFull t_isSaved t_savedKind t_savedExponent t_savedLetters p1 C0 t_row t_rowSize hv _ _ _ hP hD hS hl)
theorem mX11_goOn_1 : (Cond.fieldLink RX11 16 "AbelianPowersModel" "letters" "I") ∈ wsX11_goOn := List.mem_of_getElem? (i := 1) rfl
theorem mX11_goOn_2 : (Cond.fieldLink RX11 161 "AbelianPowersModel" "steps" "I") ∈ wsX11_goOn := List.mem_of_getElem? (i := 2) rfl
theorem mX11_goOn_3 : (Cond.fieldLink RX11 38 "AbelianPowersModel" "row" "[I") ∈ wsX11_goOn := List.mem_of_getElem? (i := 3) rfl
theorem mX11_goOn_4 : (Cond.fieldLink RX11 118 "AbelianPowersModel" "rowSize" "I") ∈ wsX11_goOn := List.mem_of_getElem? (i := 4) rfl
theorem nX11_goOn_X11 : ∀ w ∈ wsX110, w ∈ wsX11_goOn := fun _ h => List.mem_cons_of_mem _ (List.mem_append_right _ h)
theorem zX11_goOn : yX11_goOn.cls = RX11 ∧ yX11_goOn.cls ≠ "java/lang/invoke/MethodHandle" ∧ yX11_goOn.cls ≠ "java/lang/invoke/VarHandle" ∧ (parseMethodDescriptor yX11_goOn.desc).map (fun d => d.parameters.length) = some 2 := by decide +kernel
abbrev rX11_goOn : Room := { frames := 6, cells := 0, slots := 0, locals := 142 }
abbrev pX11_goOn (cy : Nat → ClassId) (h : Nat → Nat) (t_kind : Int32) (t_exponent : Int32) (t_letters : Int32) (t_values : Nat → Int32) (t_fed : Int32) (t_at : Int32) (t_row : Nat → Int32) (t_rowSize : Int32) (t_steps : Int32) (t_foundMany : Int32) (t_keptMany : Int32) (t_keptLetters : Int32) (t_isFull : Int32) (t_isSaved : Int32) (t_savedKind : Int32) (t_savedExponent : Int32) (t_savedLetters : Int32) : va_W := [(h 0, .inr (11, [.int t_kind, .int t_exponent, .int t_letters, .ref (h 1), .ref (h 3), .ref (h 4), .ref (h 5), .ref (h 6), .ref (h 7), .int t_fed, .int t_at, .ref (h 2), .int t_rowSize, .int t_steps, .ref (h 8), .int t_foundMany, .ref (h 9), .int t_keptMany, .int t_keptLetters, .ref (h 10), .ref (h 11), .ref (h 12), .ref (h 13), .ref (h 14), .int t_isFull, .ref (h 15), .ref (h 16), .int t_isSaved, .int t_savedKind, .int t_savedExponent, .int t_savedLetters, .ref (h 17), .ref (h 18), .ref (h 19), .ref (h 20), .ref (h 21)])), (h 1, .inl (cy 0, 4, .inl t_values)), (h 2, .inl (cy 0, 45, .inl t_row))]
def VX11_goOn_54 (post : Int32 → (Nat → Int32) → Int32 → Int32 → Prop)  (t_kind : Int32) (t_exponent : Int32) (t_letters : Int32) (t_values : Nat → Int32) (p1 : Int32) (p2 : Int32) (t_row : Nat → Int32) (t_rowSize : Int32) (t_steps : Int32) (x3 : Int32) : Prop := post x3 t_row (t_rowSize + 1) t_steps
def VX11_goOn_2 (post : Int32 → (Nat → Int32) → Int32 → Int32 → Prop)  (t_kind : Int32) (t_exponent : Int32) (t_letters : Int32) (t_values : Nat → Int32) (p1 : Int32) (p2 : Int32) : Nat → (Nat → Int32) → Int32 → Int32 → Int32 → Prop
  | 0, _, _, _, _ => False
  | n + 1, t_row, t_rowSize, t_steps, x3 => ((t_letters ≤ x3) → post (-2 : Int32) t_row t_rowSize t_steps) ∧ (¬ (t_letters ≤ x3) → (¬ (t_steps = p2) → vp_in t_rowSize 45 ∧ (VX11_endsAt (fun r_3 => (¬ (r_3 = 0) → VX11_goOn_2 post t_kind t_exponent t_letters t_values p1 p2 n (upd t_row t_rowSize.toNatClampNeg x3) t_rowSize (t_steps + 1) (x3 + 1)) ∧ ((r_3 = 0) → VX11_goOn_54 post t_kind t_exponent t_letters t_values p1 p2 (upd t_row t_rowSize.toNatClampNeg x3) t_rowSize (t_steps + 1) x3)) t_kind t_exponent t_letters t_values (upd t_row t_rowSize.toNatClampNeg x3) (t_rowSize + 1))) ∧ ((t_steps = p2) → post (-4 : Int32) t_row t_rowSize t_steps))
def VX11_goOn (post : Int32 → (Nat → Int32) → Int32 → Int32 → Prop)  (t_kind : Int32) (t_exponent : Int32) (t_letters : Int32) (t_values : Nat → Int32) (p1 : Int32) (p2 : Int32) (t_row : Nat → Int32) (t_rowSize : Int32) (t_steps : Int32) : Prop := ∃ n2 : Nat, VX11_goOn_2 post t_kind t_exponent t_letters t_values p1 p2 n2 t_row t_rowSize t_steps p1
set_option maxHeartbeats 4000000 in
set_option maxRecDepth 100000 in
theorem wX11_goOn_54 {p : Program} (l : Launch) {e : Env} {s : State} {m : MethodId} {args : Array Value} {below : List Frame} {meth : Method} {c : Code} {dC : Nat → ClassId} {dI : Nat → Nat → Nat} {cy : Nat → ClassId} {A : Nat → Prop} (h : Nat → Nat) (post : Int32 → (Nat → Int32) → Int32 → Int32 → Prop)   (t_kind : Int32) (t_exponent : Int32) (t_letters : Int32) (t_values : Nat → Int32) (t_fed : Int32) (t_at : Int32) (t_foundMany : Int32) (t_keptMany : Int32) (t_keptLetters : Int32) (t_isFull : Int32) (t_isSaved : Int32) (t_savedKind : Int32) (t_savedExponent : Int32) (t_savedLetters : Int32) (p1 : Int32) (p2 : Int32) (C0 : cx p s m args meth c cX11_goOn 4 (some .int) wsX11_goOn RX11 dC dI cy A)  : ∀ (t_row : Nat → Int32) (t_rowSize : Int32) (t_steps : Int32) (x3 : Int32), VX11_goOn_54 post t_kind t_exponent t_letters t_values p1 p2 t_row t_rowSize t_steps x3 → ∀ (H : Heap) (locs : List Loc) (ls : Array Slot), va_P (dC, dI) vwCl (pX11_goOn cy h t_kind t_exponent t_letters t_values t_fed t_at t_row t_rowSize t_steps t_foundMany t_keptMany t_keptLetters t_isFull t_isSaved t_savedKind t_savedExponent t_savedLetters) H → va_D A (pX11_goOn cy h t_kind t_exponent t_letters t_values t_fed t_at t_row t_rowSize t_steps t_foundMany t_keptMany t_keptLetters t_isFull t_isSaved t_savedKind t_savedExponent t_savedLetters) → va_S A s.heap H locs → lv_has ls 4 [(0, .ref (h 0)), (3, .int x3)] → W p l e rX11_goOn s m args below meth c H locs 0 0 (MQ below (va_Qi (fun (r : Int32) (u : (Nat → Int32) × Int32 × Int32) => post r u.1 u.2.1 u.2.2) (fun (u : (Nat → Int32) × Int32 × Int32) (t : State) => va_P (dC, dI) vwCl (pX11_goOn cy h t_kind t_exponent t_letters t_values t_fed t_at u.1 u.2.1 u.2.2 t_foundMany t_keptMany t_keptLetters t_isFull t_isSaved t_savedKind t_savedExponent t_savedLetters) t.heap) A) args s 0 0 A) (F0 m 54 ls []) := by
  have C1 := C0
  obtain ⟨hx, hb, hr, hml, hown, hts, hlocks, hK, hA⟩ := C1
  intro t_row t_rowSize t_steps x3 hv H locs ls hP hD hS hl
  refine lv_aload_n hx hb dX11_goOn_54 rfl (lv_at hl 0 rfl) ?_
  refine lv_dup hx hb dX11_goOn_55 rfl ?_
  refine va_get (D := (dC, dI)) (ci := 11) (v := .int t_rowSize) (C := RX11) (T := TX11) (N := 36) hx hb hts nX11_goOn_X11 hown hK hP 0 rfl rfl 12 (by decide) (hts _ mX11_goOn_4) (fun _ h9 => h9) rfl dX11_goOn_56 ?_
  refine lv_iconst (v := 1) hx hb dX11_goOn_59 (by decide) ?_
  refine lv_iadd hx hb dX11_goOn_60 ?_
  refine va_put (D := (dC, dI)) (ci := 11) (v := .int (t_rowSize + 1)) (ty := .int) (C := RX11) (T := TX11) (N := 36) hx hb hts nX11_goOn_X11 tyX11 tyX11_ok nmX11 hown hK hP hD hS 0 rfl rfl 12 (by decide) (hts _ mX11_goOn_4) (fun _ h9 => h9) rfl (by decide +kernel) rfl rfl (Nat.le_of_ble_eq_true rfl) dX11_goOn_61 (fun H locs hP hD hS => ?_)
  have hP : va_P (dC, dI) vwCl (pX11_goOn cy h t_kind t_exponent t_letters t_values t_fed t_at t_row (t_rowSize + 1) t_steps t_foundMany t_keptMany t_keptLetters t_isFull t_isSaved t_savedKind t_savedExponent t_savedLetters) H := hP
  have hD : va_D A (pX11_goOn cy h t_kind t_exponent t_letters t_values t_fed t_at t_row (t_rowSize + 1) t_steps t_foundMany t_keptMany t_keptLetters t_isFull t_isSaved t_savedKind t_savedExponent t_savedLetters) := hD
  refine lv_iload_n hx hb dX11_goOn_64 rfl (lv_at hl 1 rfl) ?_
  exact W.iret (v := x3) hx hb hr (fun t ht hW => ⟨⟨x3, (t_row, (t_rowSize + 1), t_steps), rfl, hv, va_Ph ht hP⟩, hS.F ht⟩) hS.2.2 dX11_goOn_65
set_option maxHeartbeats 4000000 in
set_option maxRecDepth 100000 in
theorem wX11_goOn_2 {p : Program} (l : Launch) {e : Env} {s : State} {m : MethodId} {args : Array Value} {below : List Frame} {meth : Method} {c : Code} {dC : Nat → ClassId} {dI : Nat → Nat → Nat} {cy : Nat → ClassId} {A : Nat → Prop} (h : Nat → Nat) (post : Int32 → (Nat → Int32) → Int32 → Int32 → Prop)   (t_kind : Int32) (t_exponent : Int32) (t_letters : Int32) (t_values : Nat → Int32) (t_fed : Int32) (t_at : Int32) (t_foundMany : Int32) (t_keptMany : Int32) (t_keptLetters : Int32) (t_isFull : Int32) (t_isSaved : Int32) (t_savedKind : Int32) (t_savedExponent : Int32) (t_savedLetters : Int32) (p1 : Int32) (p2 : Int32) (C0 : cx p s m args meth c cX11_goOn 4 (some .int) wsX11_goOn RX11 dC dI cy A)  : ∀ (n : Nat) (t_row : Nat → Int32) (t_rowSize : Int32) (t_steps : Int32) (x3 : Int32), VX11_goOn_2 post t_kind t_exponent t_letters t_values p1 p2 n t_row t_rowSize t_steps x3 → ∀ (H : Heap) (locs : List Loc) (ls : Array Slot), va_P (dC, dI) vwCl (pX11_goOn cy h t_kind t_exponent t_letters t_values t_fed t_at t_row t_rowSize t_steps t_foundMany t_keptMany t_keptLetters t_isFull t_isSaved t_savedKind t_savedExponent t_savedLetters) H → va_D A (pX11_goOn cy h t_kind t_exponent t_letters t_values t_fed t_at t_row t_rowSize t_steps t_foundMany t_keptMany t_keptLetters t_isFull t_isSaved t_savedKind t_savedExponent t_savedLetters) → va_S A s.heap H locs → lv_has ls 4 [(0, .ref (h 0)), (2, .int p2), (3, .int x3)] → W p l e rX11_goOn s m args below meth c H locs 0 0 (MQ below (va_Qi (fun (r : Int32) (u : (Nat → Int32) × Int32 × Int32) => post r u.1 u.2.1 u.2.2) (fun (u : (Nat → Int32) × Int32 × Int32) (t : State) => va_P (dC, dI) vwCl (pX11_goOn cy h t_kind t_exponent t_letters t_values t_fed t_at u.1 u.2.1 u.2.2 t_foundMany t_keptMany t_keptLetters t_isFull t_isSaved t_savedKind t_savedExponent t_savedLetters) t.heap) A) args s 0 0 A) (F0 m 2 ls []) := by
  have C1 := C0
  obtain ⟨hx, hb, hr, hml, hown, hts, hlocks, hK, hA⟩ := C1
  intro n
  induction n with
  | zero => intro t_row t_rowSize t_steps x3 hv; exact hv.elim
  | succ n ih =>
    intro t_row t_rowSize t_steps x3 hv H locs ls hP hD hS hl
    refine lv_iload_n hx hb dX11_goOn_2 rfl (lv_at hl 2 rfl) ?_
    refine lv_aload_n hx hb dX11_goOn_3 rfl (lv_at hl 0 rfl) ?_
    refine va_get (D := (dC, dI)) (ci := 11) (v := .int t_letters) (C := RX11) (T := TX11) (N := 36) hx hb hts nX11_goOn_X11 hown hK hP 0 rfl rfl 2 (by decide) (hts _ mX11_goOn_1) (fun _ h9 => h9) rfl dX11_goOn_4 ?_
    refine lv_icmp_ge (tgt := 72) hx hb dX11_goOn_7 (by decide) (fun c_7 => ?_) (fun c_7 => ?_)
    · have hv := hv.1 c_7
      refine lv_bipush (v := (-2)) hx hb dX11_goOn_72 (by decide) ?_
      exact W.iret (v := (-2)) hx hb hr (fun t ht hW => ⟨⟨(-2), (t_row, t_rowSize, t_steps), rfl, hv, va_Ph ht hP⟩, hS.F ht⟩) hS.2.2 dX11_goOn_74
    · have hv := hv.2 c_7
      refine lv_aload_n hx hb dX11_goOn_10 rfl (lv_at hl 0 rfl) ?_
      refine va_get (D := (dC, dI)) (ci := 11) (v := .int t_steps) (C := RX11) (T := TX11) (N := 36) hx hb hts nX11_goOn_X11 hown hK hP 0 rfl rfl 13 (by decide) (hts _ mX11_goOn_2) (fun _ h9 => h9) rfl dX11_goOn_11 ?_
      refine lv_iload_n hx hb dX11_goOn_14 rfl (lv_at hl 1 rfl) ?_
      refine lv_icmp_ne (tgt := 21) hx hb dX11_goOn_15 (by decide) (fun c_6 => ?_) (fun c_6 => ?_)
      · have hv := hv.1 c_6
        refine lv_aload_n hx hb dX11_goOn_21 rfl (lv_at hl 0 rfl) ?_
        refine lv_dup hx hb dX11_goOn_22 rfl ?_
        refine va_get (D := (dC, dI)) (ci := 11) (v := .int t_steps) (C := RX11) (T := TX11) (N := 36) hx hb hts nX11_goOn_X11 hown hK hP 0 rfl rfl 13 (by decide) (hts _ mX11_goOn_2) (fun _ h9 => h9) rfl dX11_goOn_23 ?_
        refine lv_iconst (v := 1) hx hb dX11_goOn_26 (by decide) ?_
        refine lv_iadd hx hb dX11_goOn_27 ?_
        refine va_put (D := (dC, dI)) (ci := 11) (v := .int (t_steps + 1)) (ty := .int) (C := RX11) (T := TX11) (N := 36) hx hb hts nX11_goOn_X11 tyX11 tyX11_ok nmX11 hown hK hP hD hS 0 rfl rfl 13 (by decide) (hts _ mX11_goOn_2) (fun _ h9 => h9) rfl (by decide +kernel) rfl rfl (Nat.le_of_ble_eq_true rfl) dX11_goOn_28 (fun H locs hP hD hS => ?_)
        have hP : va_P (dC, dI) vwCl (pX11_goOn cy h t_kind t_exponent t_letters t_values t_fed t_at t_row t_rowSize (t_steps + 1) t_foundMany t_keptMany t_keptLetters t_isFull t_isSaved t_savedKind t_savedExponent t_savedLetters) H := hP
        have hD : va_D A (pX11_goOn cy h t_kind t_exponent t_letters t_values t_fed t_at t_row t_rowSize (t_steps + 1) t_foundMany t_keptMany t_keptLetters t_isFull t_isSaved t_savedKind t_savedExponent t_savedLetters) := hD
        refine lv_aload_n hx hb dX11_goOn_31 rfl (lv_at hl 0 rfl) ?_
        refine va_get (D := (dC, dI)) (ci := 11) (v := .ref (h 2)) (C := RX11) (T := TX11) (N := 36) hx hb hts nX11_goOn_X11 hown hK hP 0 rfl rfl 11 (by decide) (hts _ mX11_goOn_3) (fun _ h9 => h9) rfl dX11_goOn_32 ?_
        refine lv_aload_n hx hb dX11_goOn_35 rfl (lv_at hl 0 rfl) ?_
        refine va_get (D := (dC, dI)) (ci := 11) (v := .int t_rowSize) (C := RX11) (T := TX11) (N := 36) hx hb hts nX11_goOn_X11 hown hK hP 0 rfl rfl 12 (by decide) (hts _ mX11_goOn_4) (fun _ h9 => h9) rfl dX11_goOn_36 ?_
        refine lv_iload_n hx hb dX11_goOn_39 rfl (lv_at hl 2 rfl) ?_
        have h_2 := hv.1
        have hv := hv.2
        refine va_iast hx hb hK hP hD hS 2 0 rfl rfl h_2 dX11_goOn_40 (fun H locs hP hD hS => ?_)
        have hP : va_P (dC, dI) vwCl (pX11_goOn cy h t_kind t_exponent t_letters t_values t_fed t_at (upd t_row t_rowSize.toNatClampNeg x3) t_rowSize (t_steps + 1) t_foundMany t_keptMany t_keptLetters t_isFull t_isSaved t_savedKind t_savedExponent t_savedLetters) H := hP
        have hD : va_D A (pX11_goOn cy h t_kind t_exponent t_letters t_values t_fed t_at (upd t_row t_rowSize.toNatClampNeg x3) t_rowSize (t_steps + 1) t_foundMany t_keptMany t_keptLetters t_isFull t_isSaved t_savedKind t_savedExponent t_savedLetters) := hD
        refine lv_aload_n hx hb dX11_goOn_41 rfl (lv_at hl 0 rfl) ?_
        refine lv_aload_n hx hb dX11_goOn_42 rfl (lv_at hl 0 rfl) ?_
        refine va_get (D := (dC, dI)) (ci := 11) (v := .int t_rowSize) (C := RX11) (T := TX11) (N := 36) hx hb hts nX11_goOn_X11 hown hK hP 0 rfl rfl 12 (by decide) (hts _ mX11_goOn_4) (fun _ h9 => h9) rfl dX11_goOn_43 ?_
        refine lv_iconst (v := 1) hx hb dX11_goOn_46 (by decide) ?_
        refine lv_iadd hx hb dX11_goOn_47 ?_
        refine cb_VI (As := [.int ((t_rowSize + 1))]) (rest := []) ⟨hx, hb, hml, hown, hts⟩ (kX11_endsAt l dC dI cy (adl [h 0, h 1, h 2, h 3, h 4, h 5, h 6, h 7, h 8, h 9, h 10, h 11, h 12, h 13, h 14, h 15, h 16, h 17, h 18, h 19, h 20, h 21]) t_kind t_exponent t_letters t_values t_fed t_at (upd t_row t_rowSize.toNatClampNeg x3) t_rowSize (t_steps + 1) t_foundMany t_keptMany t_keptLetters t_isFull t_isSaved t_savedKind t_savedExponent t_savedLetters (t_rowSize + 1) _ hv) (cwV 1 hts gX11_goOn_X11_endsAt rfl rfl rfl zX11_endsAt ⟨Nat.le_of_ble_eq_true rfl, Nat.le_of_ble_eq_true rfl⟩) hK hP hD hS hA [0, 1, 2] [some 0, some 1, some 2] rfl rfl rfl (ci := 11) rfl rfl (fun _ => rfl) rfl hl.1 rfl (Nat.le_of_ble_eq_true rfl) dX11_goOn_48 (fun r_3 w_5 H locs hv hP hD hS => ?_)
        have hP : va_P (dC, dI) vwCl (pX11_goOn cy h t_kind t_exponent t_letters t_values t_fed t_at (upd t_row t_rowSize.toNatClampNeg x3) t_rowSize (t_steps + 1) t_foundMany t_keptMany t_keptLetters t_isFull t_isSaved t_savedKind t_savedExponent t_savedLetters) H := hP
        have hD : va_D A (pX11_goOn cy h t_kind t_exponent t_letters t_values t_fed t_at (upd t_row t_rowSize.toNatClampNeg x3) t_rowSize (t_steps + 1) t_foundMany t_keptMany t_keptLetters t_isFull t_isSaved t_savedKind t_savedExponent t_savedLetters) := hD
        refine lv_if_ne (tgt := 66) hx hb dX11_goOn_51 (by decide) (fun c_4 => ?_) (fun c_4 => ?_)
        · have hv := hv.1 c_4
          refine lv_iinc (v := (x3 + 1)) (lv' := [(3, .int ((x3 + 1))), (0, .ref (h 0)), (2, .int p2)]) hx hb dX11_goOn_66 hl (k := 2) rfl rfl (by decide) rfl (fun ls hl => ?_)
          refine lv_goto (tgt := 2) hx hb dX11_goOn_69 (by decide) ?_
          exact ih (upd t_row t_rowSize.toNatClampNeg x3) t_rowSize (t_steps + 1) (x3 + 1) hv _ _ _ hP hD hS (lv_sub hl [1, 2, 0] rfl)
        · have hv := hv.2 c_4
          exact wX11_goOn_54 l h post  t_kind t_exponent t_letters t_values t_fed t_at t_foundMany t_keptMany t_keptLetters t_isFull t_isSaved t_savedKind t_savedExponent t_savedLetters p1 p2 C0 (upd t_row t_rowSize.toNatClampNeg x3) t_rowSize (t_steps + 1) x3 hv _ _ _ hP hD hS (lv_sub hl [0, 2] rfl)
      · have hv := hv.2 c_6
        refine lv_bipush (v := (-4)) hx hb dX11_goOn_18 (by decide) ?_
        exact W.iret (v := (-4)) hx hb hr (fun t ht hW => ⟨⟨(-4), (t_row, t_rowSize, t_steps), rfl, hv, va_Ph ht hP⟩, hS.F ht⟩) hS.2.2 dX11_goOn_20
set_option maxHeartbeats 4000000 in
set_option maxRecDepth 100000 in
theorem wX11_goOn_0 {p : Program} (l : Launch) {e : Env} {s : State} {m : MethodId} {args : Array Value} {below : List Frame} {meth : Method} {c : Code} {dC : Nat → ClassId} {dI : Nat → Nat → Nat} {cy : Nat → ClassId} {A : Nat → Prop} (h : Nat → Nat) (post : Int32 → (Nat → Int32) → Int32 → Int32 → Prop)   (t_kind : Int32) (t_exponent : Int32) (t_letters : Int32) (t_values : Nat → Int32) (t_fed : Int32) (t_at : Int32) (t_foundMany : Int32) (t_keptMany : Int32) (t_keptLetters : Int32) (t_isFull : Int32) (t_isSaved : Int32) (t_savedKind : Int32) (t_savedExponent : Int32) (t_savedLetters : Int32) (p1 : Int32) (p2 : Int32) (C0 : cx p s m args meth c cX11_goOn 4 (some .int) wsX11_goOn RX11 dC dI cy A)  : ∀ (t_row : Nat → Int32) (t_rowSize : Int32) (t_steps : Int32), VX11_goOn post t_kind t_exponent t_letters t_values p1 p2 t_row t_rowSize t_steps → ∀ (H : Heap) (locs : List Loc) (ls : Array Slot), va_P (dC, dI) vwCl (pX11_goOn cy h t_kind t_exponent t_letters t_values t_fed t_at t_row t_rowSize t_steps t_foundMany t_keptMany t_keptLetters t_isFull t_isSaved t_savedKind t_savedExponent t_savedLetters) H → va_D A (pX11_goOn cy h t_kind t_exponent t_letters t_values t_fed t_at t_row t_rowSize t_steps t_foundMany t_keptMany t_keptLetters t_isFull t_isSaved t_savedKind t_savedExponent t_savedLetters) → va_S A s.heap H locs → lv_has ls 4 [(0, .ref (h 0)), (1, .int p1), (2, .int p2)] → W p l e rX11_goOn s m args below meth c H locs 0 0 (MQ below (va_Qi (fun (r : Int32) (u : (Nat → Int32) × Int32 × Int32) => post r u.1 u.2.1 u.2.2) (fun (u : (Nat → Int32) × Int32 × Int32) (t : State) => va_P (dC, dI) vwCl (pX11_goOn cy h t_kind t_exponent t_letters t_values t_fed t_at u.1 u.2.1 u.2.2 t_foundMany t_keptMany t_keptLetters t_isFull t_isSaved t_savedKind t_savedExponent t_savedLetters) t.heap) A) args s 0 0 A) (F0 m 0 ls []) := by
  have C1 := C0
  obtain ⟨hx, hb, hr, hml, hown, hts, hlocks, hK, hA⟩ := C1
  intro t_row t_rowSize t_steps hv H locs ls hP hD hS hl
  refine lv_iload_n hx hb dX11_goOn_0 rfl (lv_at hl 1 rfl) ?_
  refine lv_istore_n (lv' := [(3, .int p1), (0, .ref (h 0)), (1, .int p1), (2, .int p2)]) hx hb dX11_goOn_1 rfl hl (by decide) rfl (fun ls hl => ?_)
  obtain ⟨n_1, hv⟩ := hv
  exact wX11_goOn_2 l h post  t_kind t_exponent t_letters t_values t_fed t_at t_foundMany t_keptMany t_keptLetters t_isFull t_isSaved t_savedKind t_savedExponent t_savedLetters p1 p2 C0 n_1 t_row t_rowSize t_steps p1 hv _ _ _ hP hD hS (lv_sub hl [1, 3, 0] rfl)
theorem kX11_goOn (l : Launch) (dC : Nat → ClassId) (dI : Nat → Nat → Nat) (cy : Nat → ClassId) (h : Nat → Nat) (t_kind : Int32) (t_exponent : Int32) (t_letters : Int32) (t_values : Nat → Int32) (t_fed : Int32) (t_at : Int32) (t_row : Nat → Int32) (t_rowSize : Int32) (t_steps : Int32) (t_foundMany : Int32) (t_keptMany : Int32) (t_keptLetters : Int32) (t_isFull : Int32) (t_isSaved : Int32) (t_savedKind : Int32) (t_savedExponent : Int32) (t_savedLetters : Int32) (p1 : Int32) (p2 : Int32) (post : Int32 → (Nat → Int32) → Int32 → Int32 → Prop) (hv : VX11_goOn post t_kind t_exponent t_letters t_values p1 p2 t_row t_rowSize t_steps) : CtI l yX11_goOn wsX11_goOn rX11_goOn dC dI cy [.ref (h 0), .int p1, .int p2] (pX11_goOn cy h t_kind t_exponent t_letters t_values t_fed t_at t_row t_rowSize t_steps t_foundMany t_keptMany t_keptLetters t_isFull t_isSaved t_savedKind t_savedExponent t_savedLetters) (fun (u : (Nat → Int32) × Int32 × Int32) => pX11_goOn cy h t_kind t_exponent t_letters t_values t_fed t_at u.1 u.2.1 u.2.2 t_foundMany t_keptMany t_keptLetters t_isFull t_isSaved t_savedKind t_savedExponent t_savedLetters) (fun (r : Int32) (u : (Nat → Int32) × Int32 × Int32) => post r u.1 u.2.1 u.2.2) :=
  ct_ofI (by decide) rfl (Nat.le_of_ble_eq_true rfl) (fun p e s m below meth c A ls C0 hP hD hS hl => wX11_goOn_0 l h post t_kind t_exponent t_letters t_values t_fed t_at t_foundMany t_keptMany t_keptLetters t_isFull t_isSaved t_savedKind t_savedExponent t_savedLetters p1 p2 C0 t_row t_rowSize t_steps hv _ _ _ hP hD hS hl)
theorem mX11_search_1 : (Cond.fieldLink RX11 118 "AbelianPowersModel" "rowSize" "I") ∈ wsX11_search := List.mem_of_getElem? (i := 1) rfl
theorem mX11_search_2 : (Cond.fieldLink RX11 161 "AbelianPowersModel" "steps" "I") ∈ wsX11_search := List.mem_of_getElem? (i := 2) rfl
theorem mX11_search_3 : (Cond.fieldLink RX11 38 "AbelianPowersModel" "row" "[I") ∈ wsX11_search := List.mem_of_getElem? (i := 3) rfl
theorem nX11_search_X11 : ∀ w ∈ wsX110, w ∈ wsX11_search := fun _ h => List.mem_cons_of_mem _ (List.mem_append_right _ h)
theorem zX11_search : yX11_search.cls = RX11 ∧ yX11_search.cls ≠ "java/lang/invoke/MethodHandle" ∧ yX11_search.cls ≠ "java/lang/invoke/VarHandle" ∧ (parseMethodDescriptor yX11_search.desc).map (fun d => d.parameters.length) = some 1 := by decide +kernel
abbrev rX11_search : Room := { frames := 7, cells := 0, slots := 0, locals := 165 }
abbrev pX11_search (cy : Nat → ClassId) (h : Nat → Nat) (t_kind : Int32) (t_exponent : Int32) (t_letters : Int32) (t_values : Nat → Int32) (t_fed : Int32) (t_at : Int32) (t_row : Nat → Int32) (t_rowSize : Int32) (t_steps : Int32) (t_foundMany : Int32) (t_keptMany : Int32) (t_keptLetters : Int32) (t_isFull : Int32) (t_isSaved : Int32) (t_savedKind : Int32) (t_savedExponent : Int32) (t_savedLetters : Int32) : va_W := [(h 0, .inr (11, [.int t_kind, .int t_exponent, .int t_letters, .ref (h 1), .ref (h 3), .ref (h 4), .ref (h 5), .ref (h 6), .ref (h 7), .int t_fed, .int t_at, .ref (h 2), .int t_rowSize, .int t_steps, .ref (h 8), .int t_foundMany, .ref (h 9), .int t_keptMany, .int t_keptLetters, .ref (h 10), .ref (h 11), .ref (h 12), .ref (h 13), .ref (h 14), .int t_isFull, .ref (h 15), .ref (h 16), .int t_isSaved, .int t_savedKind, .int t_savedExponent, .int t_savedLetters, .ref (h 17), .ref (h 18), .ref (h 19), .ref (h 20), .ref (h 21)])), (h 1, .inl (cy 0, 4, .inl t_values)), (h 2, .inl (cy 0, 45, .inl t_row))]
def VX11_search_12 (post : Int32 → (Nat → Int32) → Int32 → Int32 → Prop)  (t_kind : Int32) (t_exponent : Int32) (t_letters : Int32) (t_values : Nat → Int32) (p1 : Int32) : Nat → (Nat → Int32) → Int32 → Int32 → Int32 → Prop
  | 0, _, _, _, _ => False
  | n + 1, t_row, t_rowSize, t_steps, x2 => ((p1 ≤ t_rowSize) → post (1 : Int32) t_row t_rowSize t_steps) ∧ (¬ (p1 ≤ t_rowSize) → VX11_goOn (fun r_2 u_3 u_4 u_5 => (¬ (r_2 = (-4)) → (¬ (r_2 = (-2)) → VX11_search_12 post t_kind t_exponent t_letters t_values p1 n u_3 u_4 u_5 0) ∧ ((r_2 = (-2)) → (¬ (u_4 = 0) → vp_in (u_4 - 1) 45 ∧ (∀ y_6 : Int32, y_6 = (u_3 (u_4 - 1).toNatClampNeg) → VX11_search_12 post t_kind t_exponent t_letters t_values p1 n u_3 (u_4 - 1) u_5 (y_6 + 1))) ∧ ((u_4 = 0) → post (-2 : Int32) u_3 u_4 u_5))) ∧ ((r_2 = (-4)) → post (-4 : Int32) u_3 u_4 u_5)) t_kind t_exponent t_letters t_values x2 20000 t_row t_rowSize t_steps)
def VX11_search (post : Int32 → (Nat → Int32) → Int32 → Int32 → Prop)  (t_kind : Int32) (t_exponent : Int32) (t_letters : Int32) (t_values : Nat → Int32) (p1 : Int32) (t_row : Nat → Int32) (t_rowSize : Int32) (t_steps : Int32) : Prop := ∃ n12 : Nat, VX11_search_12 post t_kind t_exponent t_letters t_values p1 n12 t_row 0 0 0
set_option maxHeartbeats 4000000 in
set_option maxRecDepth 100000 in
theorem wX11_search_12 {p : Program} (l : Launch) {e : Env} {s : State} {m : MethodId} {args : Array Value} {below : List Frame} {meth : Method} {c : Code} {dC : Nat → ClassId} {dI : Nat → Nat → Nat} {cy : Nat → ClassId} {A : Nat → Prop} (h : Nat → Nat) (post : Int32 → (Nat → Int32) → Int32 → Int32 → Prop)   (t_kind : Int32) (t_exponent : Int32) (t_letters : Int32) (t_values : Nat → Int32) (t_fed : Int32) (t_at : Int32) (t_foundMany : Int32) (t_keptMany : Int32) (t_keptLetters : Int32) (t_isFull : Int32) (t_isSaved : Int32) (t_savedKind : Int32) (t_savedExponent : Int32) (t_savedLetters : Int32) (p1 : Int32) (C0 : cx p s m args meth c cX11_search 4 (some .int) wsX11_search RX11 dC dI cy A)  : ∀ (n : Nat) (t_row : Nat → Int32) (t_rowSize : Int32) (t_steps : Int32) (x2 : Int32), VX11_search_12 post t_kind t_exponent t_letters t_values p1 n t_row t_rowSize t_steps x2 → ∀ (H : Heap) (locs : List Loc) (ls : Array Slot), va_P (dC, dI) vwCl (pX11_search cy h t_kind t_exponent t_letters t_values t_fed t_at t_row t_rowSize t_steps t_foundMany t_keptMany t_keptLetters t_isFull t_isSaved t_savedKind t_savedExponent t_savedLetters) H → va_D A (pX11_search cy h t_kind t_exponent t_letters t_values t_fed t_at t_row t_rowSize t_steps t_foundMany t_keptMany t_keptLetters t_isFull t_isSaved t_savedKind t_savedExponent t_savedLetters) → va_S A s.heap H locs → lv_has ls 4 [(0, .ref (h 0)), (1, .int p1), (2, .int x2)] → W p l e rX11_search s m args below meth c H locs 0 0 (MQ below (va_Qi (fun (r : Int32) (u : (Nat → Int32) × Int32 × Int32) => post r u.1 u.2.1 u.2.2) (fun (u : (Nat → Int32) × Int32 × Int32) (t : State) => va_P (dC, dI) vwCl (pX11_search cy h t_kind t_exponent t_letters t_values t_fed t_at u.1 u.2.1 u.2.2 t_foundMany t_keptMany t_keptLetters t_isFull t_isSaved t_savedKind t_savedExponent t_savedLetters) t.heap) A) args s 0 0 A) (F0 m 12 ls []) := by
  have C1 := C0
  obtain ⟨hx, hb, hr, hml, hown, hts, hlocks, hK, hA⟩ := C1
  intro n
  induction n with
  | zero => intro t_row t_rowSize t_steps x2 hv; exact hv.elim
  | succ n ih =>
    intro t_row t_rowSize t_steps x2 hv H locs ls hP hD hS hl
    refine lv_aload_n hx hb dX11_search_12 rfl (lv_at hl 0 rfl) ?_
    refine va_get (D := (dC, dI)) (ci := 11) (v := .int t_rowSize) (C := RX11) (T := TX11) (N := 36) hx hb hts nX11_search_X11 hown hK hP 0 rfl rfl 12 (by decide) (hts _ mX11_search_1) (fun _ h9 => h9) rfl dX11_search_13 ?_
    refine lv_iload_n hx hb dX11_search_16 rfl (lv_at hl 1 rfl) ?_
    refine lv_icmp_ge (tgt := 81) hx hb dX11_search_17 (by decide) (fun c_12 => ?_) (fun c_12 => ?_)
    · have hv := hv.1 c_12
      refine lv_iconst (v := 1) hx hb dX11_search_81 (by decide) ?_
      exact W.iret (v := 1) hx hb hr (fun t ht hW => ⟨⟨1, (t_row, t_rowSize, t_steps), rfl, hv, va_Ph ht hP⟩, hS.F ht⟩) hS.2.2 dX11_search_82
    · have hv := hv.2 c_12
      refine lv_aload_n hx hb dX11_search_20 rfl (lv_at hl 0 rfl) ?_
      refine lv_iload_n hx hb dX11_search_21 rfl (lv_at hl 2 rfl) ?_
      refine lv_sipush (v := 20000) hx hb dX11_search_22 (by decide) ?_
      refine cb_VI (As := [.int x2, .int 20000]) (rest := []) ⟨hx, hb, hml, hown, hts⟩ (kX11_goOn l dC dI cy (adl [h 0, h 1, h 2, h 3, h 4, h 5, h 6, h 7, h 8, h 9, h 10, h 11, h 12, h 13, h 14, h 15, h 16, h 17, h 18, h 19, h 20, h 21]) t_kind t_exponent t_letters t_values t_fed t_at t_row t_rowSize t_steps t_foundMany t_keptMany t_keptLetters t_isFull t_isSaved t_savedKind t_savedExponent t_savedLetters x2 20000 _ hv) (cwV 2 hts gX11_search_X11_goOn rfl rfl rfl zX11_goOn ⟨Nat.le_of_ble_eq_true rfl, Nat.le_of_ble_eq_true rfl⟩) hK hP hD hS hA [0, 1, 2] [some 0, some 1, some 2] rfl rfl rfl (ci := 11) rfl rfl (fun _ => rfl) rfl hl.1 rfl (Nat.le_of_ble_eq_true rfl) dX11_search_25 (fun r_2 w_11 H locs hv hP hD hS => ?_)
      obtain ⟨u_3, u_4, u_5⟩ := w_11
      have hP : va_P (dC, dI) vwCl (pX11_search cy h t_kind t_exponent t_letters t_values t_fed t_at u_3 u_4 u_5 t_foundMany t_keptMany t_keptLetters t_isFull t_isSaved t_savedKind t_savedExponent t_savedLetters) H := hP
      have hD : va_D A (pX11_search cy h t_kind t_exponent t_letters t_values t_fed t_at u_3 u_4 u_5 t_foundMany t_keptMany t_keptLetters t_isFull t_isSaved t_savedKind t_savedExponent t_savedLetters) := hD
      refine lv_istore_n (lv' := [(3, .int r_2), (0, .ref (h 0)), (1, .int p1), (2, .int x2)]) hx hb dX11_search_28 rfl hl (by decide) rfl (fun ls hl => ?_)
      refine lv_iload_n hx hb dX11_search_29 rfl (lv_at hl 0 rfl) ?_
      refine lv_bipush (v := (-4)) hx hb dX11_search_30 (by decide) ?_
      refine lv_icmp_ne (tgt := 38) hx hb dX11_search_32 (by decide) (fun c_10 => ?_) (fun c_10 => ?_)
      · have hv := hv.1 c_10
        refine lv_iconst (v := 0) hx hb dX11_search_38 (by decide) ?_
        refine lv_istore_n (lv' := [(2, .int 0), (3, .int r_2), (0, .ref (h 0)), (1, .int p1)]) hx hb dX11_search_39 rfl hl (by decide) rfl (fun ls hl => ?_)
        refine lv_iload_n hx hb dX11_search_40 rfl (lv_at hl 1 rfl) ?_
        refine lv_bipush (v := (-2)) hx hb dX11_search_41 (by decide) ?_
        refine lv_icmp_ne (tgt := 78) hx hb dX11_search_43 (by decide) (fun c_9 => ?_) (fun c_9 => ?_)
        · have hv := hv.1 c_9
          refine lv_goto (tgt := 12) hx hb dX11_search_78 (by decide) ?_
          exact ih u_3 u_4 u_5 0 hv _ _ _ hP hD hS (lv_sub hl [2, 3, 0] rfl)
        · have hv := hv.2 c_9
          refine lv_aload_n hx hb dX11_search_46 rfl (lv_at hl 2 rfl) ?_
          refine va_get (D := (dC, dI)) (ci := 11) (v := .int u_4) (C := RX11) (T := TX11) (N := 36) hx hb hts nX11_search_X11 hown hK hP 0 rfl rfl 12 (by decide) (hts _ mX11_search_1) (fun _ h9 => h9) rfl dX11_search_47 ?_
          refine lv_if_ne (tgt := 56) hx hb dX11_search_50 (by decide) (fun c_8 => ?_) (fun c_8 => ?_)
          · have hv := hv.1 c_8
            refine lv_aload_n hx hb dX11_search_56 rfl (lv_at hl 2 rfl) ?_
            refine lv_dup hx hb dX11_search_57 rfl ?_
            refine va_get (D := (dC, dI)) (ci := 11) (v := .int u_4) (C := RX11) (T := TX11) (N := 36) hx hb hts nX11_search_X11 hown hK hP 0 rfl rfl 12 (by decide) (hts _ mX11_search_1) (fun _ h9 => h9) rfl dX11_search_58 ?_
            refine lv_iconst (v := 1) hx hb dX11_search_61 (by decide) ?_
            refine lv_isub hx hb dX11_search_62 ?_
            refine va_put (D := (dC, dI)) (ci := 11) (v := .int (u_4 - 1)) (ty := .int) (C := RX11) (T := TX11) (N := 36) hx hb hts nX11_search_X11 tyX11 tyX11_ok nmX11 hown hK hP hD hS 0 rfl rfl 12 (by decide) (hts _ mX11_search_1) (fun _ h9 => h9) rfl (by decide +kernel) rfl rfl (Nat.le_of_ble_eq_true rfl) dX11_search_63 (fun H locs hP hD hS => ?_)
            have hP : va_P (dC, dI) vwCl (pX11_search cy h t_kind t_exponent t_letters t_values t_fed t_at u_3 (u_4 - 1) u_5 t_foundMany t_keptMany t_keptLetters t_isFull t_isSaved t_savedKind t_savedExponent t_savedLetters) H := hP
            have hD : va_D A (pX11_search cy h t_kind t_exponent t_letters t_values t_fed t_at u_3 (u_4 - 1) u_5 t_foundMany t_keptMany t_keptLetters t_isFull t_isSaved t_savedKind t_savedExponent t_savedLetters) := hD
            refine lv_aload_n hx hb dX11_search_66 rfl (lv_at hl 2 rfl) ?_
            refine va_get (D := (dC, dI)) (ci := 11) (v := .ref (h 2)) (C := RX11) (T := TX11) (N := 36) hx hb hts nX11_search_X11 hown hK hP 0 rfl rfl 11 (by decide) (hts _ mX11_search_3) (fun _ h9 => h9) rfl dX11_search_67 ?_
            refine lv_aload_n hx hb dX11_search_70 rfl (lv_at hl 2 rfl) ?_
            refine va_get (D := (dC, dI)) (ci := 11) (v := .int ((u_4 - 1))) (C := RX11) (T := TX11) (N := 36) hx hb hts nX11_search_X11 hown hK hP 0 rfl rfl 12 (by decide) (hts _ mX11_search_1) (fun _ h9 => h9) rfl dX11_search_71 ?_
            have h_7 := hv.1
            have hv := hv.2
            refine va_iald hx hb hK hP 2 0 rfl rfl h_7 dX11_search_74 ?_
            refine lv_topi (fun y_6 ey_6 => ?_)
            have hv := hv y_6 ey_6
            refine lv_iconst (v := 1) hx hb dX11_search_75 (by decide) ?_
            refine lv_iadd hx hb dX11_search_76 ?_
            refine lv_istore_n (lv' := [(2, .int ((y_6 + 1))), (3, .int r_2), (0, .ref (h 0)), (1, .int p1)]) hx hb dX11_search_77 rfl hl (by decide) rfl (fun ls hl => ?_)
            refine lv_goto (tgt := 12) hx hb dX11_search_78 (by decide) ?_
            exact ih u_3 (u_4 - 1) u_5 (y_6 + 1) hv _ _ _ hP hD hS (lv_sub hl [2, 3, 0] rfl)
          · have hv := hv.2 c_8
            refine lv_bipush (v := (-2)) hx hb dX11_search_53 (by decide) ?_
            exact W.iret (v := (-2)) hx hb hr (fun t ht hW => ⟨⟨(-2), (u_3, u_4, u_5), rfl, hv, va_Ph ht hP⟩, hS.F ht⟩) hS.2.2 dX11_search_55
      · have hv := hv.2 c_10
        refine lv_bipush (v := (-4)) hx hb dX11_search_35 (by decide) ?_
        exact W.iret (v := (-4)) hx hb hr (fun t ht hW => ⟨⟨(-4), (u_3, u_4, u_5), rfl, hv, va_Ph ht hP⟩, hS.F ht⟩) hS.2.2 dX11_search_37
set_option maxHeartbeats 4000000 in
set_option maxRecDepth 100000 in
theorem wX11_search_0 {p : Program} (l : Launch) {e : Env} {s : State} {m : MethodId} {args : Array Value} {below : List Frame} {meth : Method} {c : Code} {dC : Nat → ClassId} {dI : Nat → Nat → Nat} {cy : Nat → ClassId} {A : Nat → Prop} (h : Nat → Nat) (post : Int32 → (Nat → Int32) → Int32 → Int32 → Prop)   (t_kind : Int32) (t_exponent : Int32) (t_letters : Int32) (t_values : Nat → Int32) (t_fed : Int32) (t_at : Int32) (t_foundMany : Int32) (t_keptMany : Int32) (t_keptLetters : Int32) (t_isFull : Int32) (t_isSaved : Int32) (t_savedKind : Int32) (t_savedExponent : Int32) (t_savedLetters : Int32) (p1 : Int32) (C0 : cx p s m args meth c cX11_search 4 (some .int) wsX11_search RX11 dC dI cy A)  : ∀ (t_row : Nat → Int32) (t_rowSize : Int32) (t_steps : Int32), VX11_search post t_kind t_exponent t_letters t_values p1 t_row t_rowSize t_steps → ∀ (H : Heap) (locs : List Loc) (ls : Array Slot), va_P (dC, dI) vwCl (pX11_search cy h t_kind t_exponent t_letters t_values t_fed t_at t_row t_rowSize t_steps t_foundMany t_keptMany t_keptLetters t_isFull t_isSaved t_savedKind t_savedExponent t_savedLetters) H → va_D A (pX11_search cy h t_kind t_exponent t_letters t_values t_fed t_at t_row t_rowSize t_steps t_foundMany t_keptMany t_keptLetters t_isFull t_isSaved t_savedKind t_savedExponent t_savedLetters) → va_S A s.heap H locs → lv_has ls 4 [(0, .ref (h 0)), (1, .int p1)] → W p l e rX11_search s m args below meth c H locs 0 0 (MQ below (va_Qi (fun (r : Int32) (u : (Nat → Int32) × Int32 × Int32) => post r u.1 u.2.1 u.2.2) (fun (u : (Nat → Int32) × Int32 × Int32) (t : State) => va_P (dC, dI) vwCl (pX11_search cy h t_kind t_exponent t_letters t_values t_fed t_at u.1 u.2.1 u.2.2 t_foundMany t_keptMany t_keptLetters t_isFull t_isSaved t_savedKind t_savedExponent t_savedLetters) t.heap) A) args s 0 0 A) (F0 m 0 ls []) := by
  have C1 := C0
  obtain ⟨hx, hb, hr, hml, hown, hts, hlocks, hK, hA⟩ := C1
  intro t_row t_rowSize t_steps hv H locs ls hP hD hS hl
  refine lv_aload_n hx hb dX11_search_0 rfl (lv_at hl 0 rfl) ?_
  refine lv_iconst (v := 0) hx hb dX11_search_1 (by decide) ?_
  refine va_put (D := (dC, dI)) (ci := 11) (v := .int 0) (ty := .int) (C := RX11) (T := TX11) (N := 36) hx hb hts nX11_search_X11 tyX11 tyX11_ok nmX11 hown hK hP hD hS 0 rfl rfl 12 (by decide) (hts _ mX11_search_1) (fun _ h9 => h9) rfl (by decide +kernel) rfl rfl (Nat.le_of_ble_eq_true rfl) dX11_search_2 (fun H locs hP hD hS => ?_)
  have hP : va_P (dC, dI) vwCl (pX11_search cy h t_kind t_exponent t_letters t_values t_fed t_at t_row 0 t_steps t_foundMany t_keptMany t_keptLetters t_isFull t_isSaved t_savedKind t_savedExponent t_savedLetters) H := hP
  have hD : va_D A (pX11_search cy h t_kind t_exponent t_letters t_values t_fed t_at t_row 0 t_steps t_foundMany t_keptMany t_keptLetters t_isFull t_isSaved t_savedKind t_savedExponent t_savedLetters) := hD
  refine lv_aload_n hx hb dX11_search_5 rfl (lv_at hl 0 rfl) ?_
  refine lv_iconst (v := 0) hx hb dX11_search_6 (by decide) ?_
  refine va_put (D := (dC, dI)) (ci := 11) (v := .int 0) (ty := .int) (C := RX11) (T := TX11) (N := 36) hx hb hts nX11_search_X11 tyX11 tyX11_ok nmX11 hown hK hP hD hS 0 rfl rfl 13 (by decide) (hts _ mX11_search_2) (fun _ h9 => h9) rfl (by decide +kernel) rfl rfl (Nat.le_of_ble_eq_true rfl) dX11_search_7 (fun H locs hP hD hS => ?_)
  have hP : va_P (dC, dI) vwCl (pX11_search cy h t_kind t_exponent t_letters t_values t_fed t_at t_row 0 0 t_foundMany t_keptMany t_keptLetters t_isFull t_isSaved t_savedKind t_savedExponent t_savedLetters) H := hP
  have hD : va_D A (pX11_search cy h t_kind t_exponent t_letters t_values t_fed t_at t_row 0 0 t_foundMany t_keptMany t_keptLetters t_isFull t_isSaved t_savedKind t_savedExponent t_savedLetters) := hD
  refine lv_iconst (v := 0) hx hb dX11_search_10 (by decide) ?_
  refine lv_istore_n (lv' := [(2, .int 0), (0, .ref (h 0)), (1, .int p1)]) hx hb dX11_search_11 rfl hl (by decide) rfl (fun ls hl => ?_)
  obtain ⟨n_1, hv⟩ := hv
  exact wX11_search_12 l h post  t_kind t_exponent t_letters t_values t_fed t_at t_foundMany t_keptMany t_keptLetters t_isFull t_isSaved t_savedKind t_savedExponent t_savedLetters p1 C0 n_1 t_row 0 0 0 hv _ _ _ hP hD hS (lv_sub hl [1, 2, 0] rfl)
theorem kX11_search (l : Launch) (dC : Nat → ClassId) (dI : Nat → Nat → Nat) (cy : Nat → ClassId) (h : Nat → Nat) (t_kind : Int32) (t_exponent : Int32) (t_letters : Int32) (t_values : Nat → Int32) (t_fed : Int32) (t_at : Int32) (t_row : Nat → Int32) (t_rowSize : Int32) (t_steps : Int32) (t_foundMany : Int32) (t_keptMany : Int32) (t_keptLetters : Int32) (t_isFull : Int32) (t_isSaved : Int32) (t_savedKind : Int32) (t_savedExponent : Int32) (t_savedLetters : Int32) (p1 : Int32) (post : Int32 → (Nat → Int32) → Int32 → Int32 → Prop) (hv : VX11_search post t_kind t_exponent t_letters t_values p1 t_row t_rowSize t_steps) : CtI l yX11_search wsX11_search rX11_search dC dI cy [.ref (h 0), .int p1] (pX11_search cy h t_kind t_exponent t_letters t_values t_fed t_at t_row t_rowSize t_steps t_foundMany t_keptMany t_keptLetters t_isFull t_isSaved t_savedKind t_savedExponent t_savedLetters) (fun (u : (Nat → Int32) × Int32 × Int32) => pX11_search cy h t_kind t_exponent t_letters t_values t_fed t_at u.1 u.2.1 u.2.2 t_foundMany t_keptMany t_keptLetters t_isFull t_isSaved t_savedKind t_savedExponent t_savedLetters) (fun (r : Int32) (u : (Nat → Int32) × Int32 × Int32) => post r u.1 u.2.1 u.2.2) :=
  ct_ofI (by decide) rfl (Nat.le_of_ble_eq_true rfl) (fun p e s m below meth c A ls C0 hP hD hS hl => wX11_search_0 l h post t_kind t_exponent t_letters t_values t_fed t_at t_foundMany t_keptMany t_keptLetters t_isFull t_isSaved t_savedKind t_savedExponent t_savedLetters p1 C0 t_row t_rowSize t_steps hv _ _ _ hP hD hS hl)
theorem mX11_smallestFree_1 : (Cond.fieldLink RX11 26 "AbelianPowersModel" "lengths" "[I") ∈ wsX11_smallestFree := List.mem_of_getElem? (i := 1) rfl
theorem mX11_smallestFree_4 : (Cond.fieldLink RX11 161 "AbelianPowersModel" "steps" "I") ∈ wsX11_smallestFree := List.mem_of_getElem? (i := 4) rfl
theorem mX11_smallestFree_2 : (Cond.fieldLink RX11 23 "AbelianPowersModel" "words" "[I") ∈ wsX11_smallestFree := List.mem_of_getElem? (i := 2) rfl
theorem mX11_smallestFree_3 : (Cond.fieldLink RX11 38 "AbelianPowersModel" "row" "[I") ∈ wsX11_smallestFree := List.mem_of_getElem? (i := 3) rfl
theorem nX11_smallestFree_X11 : ∀ w ∈ wsX110, w ∈ wsX11_smallestFree := fun _ h => List.mem_cons_of_mem _ (List.mem_append_right _ h)
theorem zX11_smallestFree : yX11_smallestFree.cls = RX11 ∧ yX11_smallestFree.cls ≠ "java/lang/invoke/MethodHandle" ∧ yX11_smallestFree.cls ≠ "java/lang/invoke/VarHandle" ∧ (parseMethodDescriptor yX11_smallestFree.desc).map (fun d => d.parameters.length) = some 2 := by decide +kernel
abbrev rX11_smallestFree : Room := { frames := 8, cells := 0, slots := 0, locals := 188 }
abbrev pX11_smallestFree (cy : Nat → ClassId) (h : Nat → Nat) (t_kind : Int32) (t_exponent : Int32) (t_letters : Int32) (t_values : Nat → Int32) (t_words : Nat → Int32) (t_lengths : Nat → Int32) (t_fed : Int32) (t_at : Int32) (t_row : Nat → Int32) (t_rowSize : Int32) (t_steps : Int32) (t_foundMany : Int32) (t_keptMany : Int32) (t_keptLetters : Int32) (t_isFull : Int32) (t_isSaved : Int32) (t_savedKind : Int32) (t_savedExponent : Int32) (t_savedLetters : Int32) : va_W := [(h 0, .inr (11, [.int t_kind, .int t_exponent, .int t_letters, .ref (h 1), .ref (h 2), .ref (h 3), .ref (h 5), .ref (h 6), .ref (h 7), .int t_fed, .int t_at, .ref (h 4), .int t_rowSize, .int t_steps, .ref (h 8), .int t_foundMany, .ref (h 9), .int t_keptMany, .int t_keptLetters, .ref (h 10), .ref (h 11), .ref (h 12), .ref (h 13), .ref (h 14), .int t_isFull, .ref (h 15), .ref (h 16), .int t_isSaved, .int t_savedKind, .int t_savedExponent, .int t_savedLetters, .ref (h 17), .ref (h 18), .ref (h 19), .ref (h 20), .ref (h 21)])), (h 1, .inl (cy 0, 4, .inl t_values)), (h 2, .inl (cy 0, 120, .inl t_words)), (h 3, .inl (cy 0, 3, .inl t_lengths)), (h 4, .inl (cy 0, 45, .inl t_row))]
def VX11_smallestFree_42 (post : Int32 → (Nat → Int32) → (Nat → Int32) → (Nat → Int32) → Int32 → Int32 → Prop)  (t_kind : Int32) (t_exponent : Int32) (t_letters : Int32) (t_values : Nat → Int32) (p1 : Int32) (p2 : Int32) : Nat → (Nat → Int32) → (Nat → Int32) → (Nat → Int32) → Int32 → Int32 → Int32 → Prop
  | 0, _, _, _, _, _, _ => False
  | n + 1, t_words, t_lengths, t_row, t_rowSize, t_steps, x4 => ((p1 ≤ x4) → post t_steps t_words t_lengths t_row t_rowSize t_steps) ∧ (¬ (p1 ≤ x4) → vp_in x4 45 ∧ (vp_in (((40 : Int32) * p2) + x4) 120 ∧ (VX11_smallestFree_42 post t_kind t_exponent t_letters t_values p1 p2 n (upd t_words (((40 : Int32) * p2) + x4).toNatClampNeg (t_row x4.toNatClampNeg)) t_lengths t_row t_rowSize t_steps (x4 + 1))))
def VX11_smallestFree (post : Int32 → (Nat → Int32) → (Nat → Int32) → (Nat → Int32) → Int32 → Int32 → Prop)  (t_kind : Int32) (t_exponent : Int32) (t_letters : Int32) (t_values : Nat → Int32) (p1 : Int32) (p2 : Int32) (t_words : Nat → Int32) (t_lengths : Nat → Int32) (t_row : Nat → Int32) (t_rowSize : Int32) (t_steps : Int32) : Prop := VX11_isIn (fun r_1 => ((r_1 = 0) → post (-1 : Int32) t_words t_lengths t_row t_rowSize t_steps) ∧ (¬ (r_1 = 0) → VX11_isWord (fun r_2 => (¬ (r_2 = 0) → VX11_search (fun r_3 u_4 u_5 u_6 => ((r_3 = 1) → vp_in p2 3 ∧ (∃ n42 : Nat, VX11_smallestFree_42 post t_kind t_exponent t_letters t_values p1 p2 n42 t_words (upd t_lengths p2.toNatClampNeg p1) u_4 u_5 u_6 0)) ∧ (¬ (r_3 = 1) → post r_3 t_words t_lengths u_4 u_5 u_6)) t_kind t_exponent t_letters t_values p1 t_row t_rowSize t_steps) ∧ ((r_2 = 0) → post (-1 : Int32) t_words t_lengths t_row t_rowSize t_steps)) p2)) p1 1 30
set_option maxHeartbeats 4000000 in
set_option maxRecDepth 100000 in
theorem wX11_smallestFree_42 {p : Program} (l : Launch) {e : Env} {s : State} {m : MethodId} {args : Array Value} {below : List Frame} {meth : Method} {c : Code} {dC : Nat → ClassId} {dI : Nat → Nat → Nat} {cy : Nat → ClassId} {A : Nat → Prop} (h : Nat → Nat) (post : Int32 → (Nat → Int32) → (Nat → Int32) → (Nat → Int32) → Int32 → Int32 → Prop)   (t_kind : Int32) (t_exponent : Int32) (t_letters : Int32) (t_values : Nat → Int32) (t_fed : Int32) (t_at : Int32) (t_foundMany : Int32) (t_keptMany : Int32) (t_keptLetters : Int32) (t_isFull : Int32) (t_isSaved : Int32) (t_savedKind : Int32) (t_savedExponent : Int32) (t_savedLetters : Int32) (p1 : Int32) (p2 : Int32) (C0 : cx p s m args meth c cX11_smallestFree 5 (some .int) wsX11_smallestFree RX11 dC dI cy A)  : ∀ (n : Nat) (t_words : Nat → Int32) (t_lengths : Nat → Int32) (t_row : Nat → Int32) (t_rowSize : Int32) (t_steps : Int32) (x4 : Int32), VX11_smallestFree_42 post t_kind t_exponent t_letters t_values p1 p2 n t_words t_lengths t_row t_rowSize t_steps x4 → ∀ (H : Heap) (locs : List Loc) (ls : Array Slot), va_P (dC, dI) vwCl (pX11_smallestFree cy h t_kind t_exponent t_letters t_values t_words t_lengths t_fed t_at t_row t_rowSize t_steps t_foundMany t_keptMany t_keptLetters t_isFull t_isSaved t_savedKind t_savedExponent t_savedLetters) H → va_D A (pX11_smallestFree cy h t_kind t_exponent t_letters t_values t_words t_lengths t_fed t_at t_row t_rowSize t_steps t_foundMany t_keptMany t_keptLetters t_isFull t_isSaved t_savedKind t_savedExponent t_savedLetters) → va_S A s.heap H locs → lv_has ls 5 [(0, .ref (h 0)), (1, .int p1), (2, .int p2), (4, .int x4)] → W p l e rX11_smallestFree s m args below meth c H locs 0 0 (MQ below (va_Qi (fun (r : Int32) (u : (Nat → Int32) × (Nat → Int32) × (Nat → Int32) × Int32 × Int32) => post r u.1 u.2.1 u.2.2.1 u.2.2.2.1 u.2.2.2.2) (fun (u : (Nat → Int32) × (Nat → Int32) × (Nat → Int32) × Int32 × Int32) (t : State) => va_P (dC, dI) vwCl (pX11_smallestFree cy h t_kind t_exponent t_letters t_values u.1 u.2.1 t_fed t_at u.2.2.1 u.2.2.2.1 u.2.2.2.2 t_foundMany t_keptMany t_keptLetters t_isFull t_isSaved t_savedKind t_savedExponent t_savedLetters) t.heap) A) args s 0 0 A) (F0 m 42 ls []) := by
  have C1 := C0
  obtain ⟨hx, hb, hr, hml, hown, hts, hlocks, hK, hA⟩ := C1
  intro n
  induction n with
  | zero => intro t_words t_lengths t_row t_rowSize t_steps x4 hv; exact hv.elim
  | succ n ih =>
    intro t_words t_lengths t_row t_rowSize t_steps x4 hv H locs ls hP hD hS hl
    refine lv_iload hx hb dX11_smallestFree_42 (lv_at hl 3 rfl) ?_
    refine lv_iload_n hx hb dX11_smallestFree_44 rfl (lv_at hl 1 rfl) ?_
    refine lv_icmp_ge (tgt := 73) hx hb dX11_smallestFree_45 (by decide) (fun c_17 => ?_) (fun c_17 => ?_)
    · have hv := hv.1 c_17
      refine lv_aload_n hx hb dX11_smallestFree_73 rfl (lv_at hl 0 rfl) ?_
      refine va_get (D := (dC, dI)) (ci := 11) (v := .int t_steps) (C := RX11) (T := TX11) (N := 36) hx hb hts nX11_smallestFree_X11 hown hK hP 0 rfl rfl 13 (by decide) (hts _ mX11_smallestFree_4) (fun _ h9 => h9) rfl dX11_smallestFree_74 ?_
      exact W.iret (v := t_steps) hx hb hr (fun t ht hW => ⟨⟨t_steps, (t_words, t_lengths, t_row, t_rowSize, t_steps), rfl, hv, va_Ph ht hP⟩, hS.F ht⟩) hS.2.2 dX11_smallestFree_77
    · have hv := hv.2 c_17
      refine lv_aload_n hx hb dX11_smallestFree_48 rfl (lv_at hl 0 rfl) ?_
      refine va_get (D := (dC, dI)) (ci := 11) (v := .ref (h 2)) (C := RX11) (T := TX11) (N := 36) hx hb hts nX11_smallestFree_X11 hown hK hP 0 rfl rfl 4 (by decide) (hts _ mX11_smallestFree_2) (fun _ h9 => h9) rfl dX11_smallestFree_49 ?_
      refine lv_bipush (v := 40) hx hb dX11_smallestFree_52 (by decide) ?_
      refine lv_iload_n hx hb dX11_smallestFree_54 rfl (lv_at hl 2 rfl) ?_
      refine lv_imul hx hb dX11_smallestFree_55 ?_
      refine lv_iload hx hb dX11_smallestFree_56 (lv_at hl 3 rfl) ?_
      refine lv_iadd hx hb dX11_smallestFree_58 ?_
      refine lv_aload_n hx hb dX11_smallestFree_59 rfl (lv_at hl 0 rfl) ?_
      refine va_get (D := (dC, dI)) (ci := 11) (v := .ref (h 4)) (C := RX11) (T := TX11) (N := 36) hx hb hts nX11_smallestFree_X11 hown hK hP 0 rfl rfl 11 (by decide) (hts _ mX11_smallestFree_3) (fun _ h9 => h9) rfl dX11_smallestFree_60 ?_
      refine lv_iload hx hb dX11_smallestFree_63 (lv_at hl 3 rfl) ?_
      have h_15 := hv.1
      have hv := hv.2
      refine va_iald hx hb hK hP 4 0 rfl rfl h_15 dX11_smallestFree_65 ?_
      have h_16 := hv.1
      have hv := hv.2
      refine va_iast hx hb hK hP hD hS 2 0 rfl rfl h_16 dX11_smallestFree_66 (fun H locs hP hD hS => ?_)
      have hP : va_P (dC, dI) vwCl (pX11_smallestFree cy h t_kind t_exponent t_letters t_values (upd t_words (((40 : Int32) * p2) + x4).toNatClampNeg (t_row x4.toNatClampNeg)) t_lengths t_fed t_at t_row t_rowSize t_steps t_foundMany t_keptMany t_keptLetters t_isFull t_isSaved t_savedKind t_savedExponent t_savedLetters) H := hP
      have hD : va_D A (pX11_smallestFree cy h t_kind t_exponent t_letters t_values (upd t_words (((40 : Int32) * p2) + x4).toNatClampNeg (t_row x4.toNatClampNeg)) t_lengths t_fed t_at t_row t_rowSize t_steps t_foundMany t_keptMany t_keptLetters t_isFull t_isSaved t_savedKind t_savedExponent t_savedLetters) := hD
      refine lv_iinc (v := (x4 + 1)) (lv' := [(4, .int ((x4 + 1))), (0, .ref (h 0)), (1, .int p1), (2, .int p2)]) hx hb dX11_smallestFree_67 hl (k := 3) rfl rfl (by decide) rfl (fun ls hl => ?_)
      refine lv_goto (tgt := 42) hx hb dX11_smallestFree_70 (by decide) ?_
      exact ih (upd t_words (((40 : Int32) * p2) + x4).toNatClampNeg (t_row x4.toNatClampNeg)) t_lengths t_row t_rowSize t_steps (x4 + 1) hv _ _ _ hP hD hS (lv_sub hl [1, 2, 3, 0] rfl)
set_option maxHeartbeats 4000000 in
set_option maxRecDepth 100000 in
theorem wX11_smallestFree_0 {p : Program} (l : Launch) {e : Env} {s : State} {m : MethodId} {args : Array Value} {below : List Frame} {meth : Method} {c : Code} {dC : Nat → ClassId} {dI : Nat → Nat → Nat} {cy : Nat → ClassId} {A : Nat → Prop} (h : Nat → Nat) (post : Int32 → (Nat → Int32) → (Nat → Int32) → (Nat → Int32) → Int32 → Int32 → Prop)   (t_kind : Int32) (t_exponent : Int32) (t_letters : Int32) (t_values : Nat → Int32) (t_fed : Int32) (t_at : Int32) (t_foundMany : Int32) (t_keptMany : Int32) (t_keptLetters : Int32) (t_isFull : Int32) (t_isSaved : Int32) (t_savedKind : Int32) (t_savedExponent : Int32) (t_savedLetters : Int32) (p1 : Int32) (p2 : Int32) (C0 : cx p s m args meth c cX11_smallestFree 5 (some .int) wsX11_smallestFree RX11 dC dI cy A)  : ∀ (t_words : Nat → Int32) (t_lengths : Nat → Int32) (t_row : Nat → Int32) (t_rowSize : Int32) (t_steps : Int32), VX11_smallestFree post t_kind t_exponent t_letters t_values p1 p2 t_words t_lengths t_row t_rowSize t_steps → ∀ (H : Heap) (locs : List Loc) (ls : Array Slot), va_P (dC, dI) vwCl (pX11_smallestFree cy h t_kind t_exponent t_letters t_values t_words t_lengths t_fed t_at t_row t_rowSize t_steps t_foundMany t_keptMany t_keptLetters t_isFull t_isSaved t_savedKind t_savedExponent t_savedLetters) H → va_D A (pX11_smallestFree cy h t_kind t_exponent t_letters t_values t_words t_lengths t_fed t_at t_row t_rowSize t_steps t_foundMany t_keptMany t_keptLetters t_isFull t_isSaved t_savedKind t_savedExponent t_savedLetters) → va_S A s.heap H locs → lv_has ls 5 [(0, .ref (h 0)), (1, .int p1), (2, .int p2)] → W p l e rX11_smallestFree s m args below meth c H locs 0 0 (MQ below (va_Qi (fun (r : Int32) (u : (Nat → Int32) × (Nat → Int32) × (Nat → Int32) × Int32 × Int32) => post r u.1 u.2.1 u.2.2.1 u.2.2.2.1 u.2.2.2.2) (fun (u : (Nat → Int32) × (Nat → Int32) × (Nat → Int32) × Int32 × Int32) (t : State) => va_P (dC, dI) vwCl (pX11_smallestFree cy h t_kind t_exponent t_letters t_values u.1 u.2.1 t_fed t_at u.2.2.1 u.2.2.2.1 u.2.2.2.2 t_foundMany t_keptMany t_keptLetters t_isFull t_isSaved t_savedKind t_savedExponent t_savedLetters) t.heap) A) args s 0 0 A) (F0 m 0 ls []) := by
  have C1 := C0
  obtain ⟨hx, hb, hr, hml, hown, hts, hlocks, hK, hA⟩ := C1
  intro t_words t_lengths t_row t_rowSize t_steps hv H locs ls hP hD hS hl
  refine lv_iload_n hx hb dX11_smallestFree_0 rfl (lv_at hl 1 rfl) ?_
  refine lv_iconst (v := 1) hx hb dX11_smallestFree_1 (by decide) ?_
  refine lv_bipush (v := 30) hx hb dX11_smallestFree_2 (by decide) ?_
  refine cb_SI (As := [.int p1, .int 1, .int 30]) (rest := []) ⟨hx, hb, hml, hown, hts⟩ (kX11_isIn l dC dI cy (adl []) p1 1 30 _ hv) (va_cwS 3 hts gX11_smallestFree_X11_isIn rfl rfl rfl zX11_isIn ⟨Nat.le_of_ble_eq_true rfl, Nat.le_of_ble_eq_true rfl⟩) hK hP hD hS hA [] [none, none, none, none, none] rfl rfl rfl (fun _ => rfl) rfl hl.1 rfl (Nat.le_of_ble_eq_true rfl) dX11_smallestFree_4 (fun r_1 w_14 H locs hv hP hD hS => ?_)
  have hP : va_P (dC, dI) vwCl (pX11_smallestFree cy h t_kind t_exponent t_letters t_values t_words t_lengths t_fed t_at t_row t_rowSize t_steps t_foundMany t_keptMany t_keptLetters t_isFull t_isSaved t_savedKind t_savedExponent t_savedLetters) H := hP
  have hD : va_D A (pX11_smallestFree cy h t_kind t_exponent t_letters t_values t_words t_lengths t_fed t_at t_row t_rowSize t_steps t_foundMany t_keptMany t_keptLetters t_isFull t_isSaved t_savedKind t_savedExponent t_savedLetters) := hD
  refine lv_if_eq (tgt := 17) hx hb dX11_smallestFree_7 (by decide) (fun c_13 => ?_) (fun c_13 => ?_)
  · have hv := hv.1 c_13
    refine lv_iconst (v := (-1)) hx hb dX11_smallestFree_17 (by decide) ?_
    exact W.iret (v := (-1)) hx hb hr (fun t ht hW => ⟨⟨(-1), (t_words, t_lengths, t_row, t_rowSize, t_steps), rfl, hv, va_Ph ht hP⟩, hS.F ht⟩) hS.2.2 dX11_smallestFree_18
  · have hv := hv.2 c_13
    refine lv_iload_n hx hb dX11_smallestFree_10 rfl (lv_at hl 2 rfl) ?_
    refine cb_SI (As := [.int p2]) (rest := []) ⟨hx, hb, hml, hown, hts⟩ (kX11_isWord l dC dI cy (adl []) p2 _ hv) (va_cwS 1 hts gX11_smallestFree_X11_isWord rfl rfl rfl zX11_isWord ⟨Nat.le_of_ble_eq_true rfl, Nat.le_of_ble_eq_true rfl⟩) hK hP hD hS hA [] [none, none, none, none, none] rfl rfl rfl (fun _ => rfl) rfl hl.1 rfl (Nat.le_of_ble_eq_true rfl) dX11_smallestFree_11 (fun r_2 w_12 H locs hv hP hD hS => ?_)
    have hP : va_P (dC, dI) vwCl (pX11_smallestFree cy h t_kind t_exponent t_letters t_values t_words t_lengths t_fed t_at t_row t_rowSize t_steps t_foundMany t_keptMany t_keptLetters t_isFull t_isSaved t_savedKind t_savedExponent t_savedLetters) H := hP
    have hD : va_D A (pX11_smallestFree cy h t_kind t_exponent t_letters t_values t_words t_lengths t_fed t_at t_row t_rowSize t_steps t_foundMany t_keptMany t_keptLetters t_isFull t_isSaved t_savedKind t_savedExponent t_savedLetters) := hD
    refine lv_if_ne (tgt := 19) hx hb dX11_smallestFree_14 (by decide) (fun c_11 => ?_) (fun c_11 => ?_)
    · have hv := hv.1 c_11
      refine lv_aload_n hx hb dX11_smallestFree_19 rfl (lv_at hl 0 rfl) ?_
      refine lv_iload_n hx hb dX11_smallestFree_20 rfl (lv_at hl 1 rfl) ?_
      refine cb_VI (As := [.int p1]) (rest := []) ⟨hx, hb, hml, hown, hts⟩ (kX11_search l dC dI cy (adl [h 0, h 1, h 4, h 2, h 3, h 5, h 6, h 7, h 8, h 9, h 10, h 11, h 12, h 13, h 14, h 15, h 16, h 17, h 18, h 19, h 20, h 21]) t_kind t_exponent t_letters t_values t_fed t_at t_row t_rowSize t_steps t_foundMany t_keptMany t_keptLetters t_isFull t_isSaved t_savedKind t_savedExponent t_savedLetters p1 _ hv) (cwV 1 hts gX11_smallestFree_X11_search rfl rfl rfl zX11_search ⟨Nat.le_of_ble_eq_true rfl, Nat.le_of_ble_eq_true rfl⟩) hK hP hD hS hA [0, 1, 4] [some 0, some 1, none, none, some 2] rfl rfl rfl (ci := 11) rfl rfl (fun _ => rfl) rfl hl.1 rfl (Nat.le_of_ble_eq_true rfl) dX11_smallestFree_21 (fun r_3 w_10 H locs hv hP hD hS => ?_)
      obtain ⟨u_4, u_5, u_6⟩ := w_10
      have hP : va_P (dC, dI) vwCl (pX11_smallestFree cy h t_kind t_exponent t_letters t_values t_words t_lengths t_fed t_at u_4 u_5 u_6 t_foundMany t_keptMany t_keptLetters t_isFull t_isSaved t_savedKind t_savedExponent t_savedLetters) H := hP
      have hD : va_D A (pX11_smallestFree cy h t_kind t_exponent t_letters t_values t_words t_lengths t_fed t_at u_4 u_5 u_6 t_foundMany t_keptMany t_keptLetters t_isFull t_isSaved t_savedKind t_savedExponent t_savedLetters) := hD
      refine lv_istore_n (lv' := [(3, .int r_3), (0, .ref (h 0)), (1, .int p1), (2, .int p2)]) hx hb dX11_smallestFree_24 rfl hl (by decide) rfl (fun ls hl => ?_)
      refine lv_iload_n hx hb dX11_smallestFree_25 rfl (lv_at hl 0 rfl) ?_
      refine lv_iconst (v := 1) hx hb dX11_smallestFree_26 (by decide) ?_
      refine lv_icmp_eq (tgt := 32) hx hb dX11_smallestFree_27 (by decide) (fun c_9 => ?_) (fun c_9 => ?_)
      · have hv := hv.1 c_9
        refine lv_aload_n hx hb dX11_smallestFree_32 rfl (lv_at hl 1 rfl) ?_
        refine va_get (D := (dC, dI)) (ci := 11) (v := .ref (h 3)) (C := RX11) (T := TX11) (N := 36) hx hb hts nX11_smallestFree_X11 hown hK hP 0 rfl rfl 5 (by decide) (hts _ mX11_smallestFree_1) (fun _ h9 => h9) rfl dX11_smallestFree_33 ?_
        refine lv_iload_n hx hb dX11_smallestFree_36 rfl (lv_at hl 3 rfl) ?_
        refine lv_iload_n hx hb dX11_smallestFree_37 rfl (lv_at hl 2 rfl) ?_
        have h_7 := hv.1
        have hv := hv.2
        refine va_iast hx hb hK hP hD hS 3 0 rfl rfl h_7 dX11_smallestFree_38 (fun H locs hP hD hS => ?_)
        have hP : va_P (dC, dI) vwCl (pX11_smallestFree cy h t_kind t_exponent t_letters t_values t_words (upd t_lengths p2.toNatClampNeg p1) t_fed t_at u_4 u_5 u_6 t_foundMany t_keptMany t_keptLetters t_isFull t_isSaved t_savedKind t_savedExponent t_savedLetters) H := hP
        have hD : va_D A (pX11_smallestFree cy h t_kind t_exponent t_letters t_values t_words (upd t_lengths p2.toNatClampNeg p1) t_fed t_at u_4 u_5 u_6 t_foundMany t_keptMany t_keptLetters t_isFull t_isSaved t_savedKind t_savedExponent t_savedLetters) := hD
        refine lv_iconst (v := 0) hx hb dX11_smallestFree_39 (by decide) ?_
        refine lv_istore (lv' := [(4, .int 0), (3, .int r_3), (0, .ref (h 0)), (1, .int p1), (2, .int p2)]) hx hb dX11_smallestFree_40 hl (by decide) rfl (fun ls hl => ?_)
        obtain ⟨n_8, hv⟩ := hv
        exact wX11_smallestFree_42 l h post  t_kind t_exponent t_letters t_values t_fed t_at t_foundMany t_keptMany t_keptLetters t_isFull t_isSaved t_savedKind t_savedExponent t_savedLetters p1 p2 C0 n_8 t_words (upd t_lengths p2.toNatClampNeg p1) u_4 u_5 u_6 0 hv _ _ _ hP hD hS (lv_sub hl [2, 3, 4, 0] rfl)
      · have hv := hv.2 c_9
        refine lv_iload_n hx hb dX11_smallestFree_30 rfl (lv_at hl 0 rfl) ?_
        exact W.iret (v := r_3) hx hb hr (fun t ht hW => ⟨⟨r_3, (t_words, t_lengths, u_4, u_5, u_6), rfl, hv, va_Ph ht hP⟩, hS.F ht⟩) hS.2.2 dX11_smallestFree_31
    · have hv := hv.2 c_11
      refine lv_iconst (v := (-1)) hx hb dX11_smallestFree_17 (by decide) ?_
      exact W.iret (v := (-1)) hx hb hr (fun t ht hW => ⟨⟨(-1), (t_words, t_lengths, t_row, t_rowSize, t_steps), rfl, hv, va_Ph ht hP⟩, hS.F ht⟩) hS.2.2 dX11_smallestFree_18
theorem kX11_smallestFree (l : Launch) (dC : Nat → ClassId) (dI : Nat → Nat → Nat) (cy : Nat → ClassId) (h : Nat → Nat) (t_kind : Int32) (t_exponent : Int32) (t_letters : Int32) (t_values : Nat → Int32) (t_words : Nat → Int32) (t_lengths : Nat → Int32) (t_fed : Int32) (t_at : Int32) (t_row : Nat → Int32) (t_rowSize : Int32) (t_steps : Int32) (t_foundMany : Int32) (t_keptMany : Int32) (t_keptLetters : Int32) (t_isFull : Int32) (t_isSaved : Int32) (t_savedKind : Int32) (t_savedExponent : Int32) (t_savedLetters : Int32) (p1 : Int32) (p2 : Int32) (post : Int32 → (Nat → Int32) → (Nat → Int32) → (Nat → Int32) → Int32 → Int32 → Prop) (hv : VX11_smallestFree post t_kind t_exponent t_letters t_values p1 p2 t_words t_lengths t_row t_rowSize t_steps) : CtI l yX11_smallestFree wsX11_smallestFree rX11_smallestFree dC dI cy [.ref (h 0), .int p1, .int p2] (pX11_smallestFree cy h t_kind t_exponent t_letters t_values t_words t_lengths t_fed t_at t_row t_rowSize t_steps t_foundMany t_keptMany t_keptLetters t_isFull t_isSaved t_savedKind t_savedExponent t_savedLetters) (fun (u : (Nat → Int32) × (Nat → Int32) × (Nat → Int32) × Int32 × Int32) => pX11_smallestFree cy h t_kind t_exponent t_letters t_values u.1 u.2.1 t_fed t_at u.2.2.1 u.2.2.2.1 u.2.2.2.2 t_foundMany t_keptMany t_keptLetters t_isFull t_isSaved t_savedKind t_savedExponent t_savedLetters) (fun (r : Int32) (u : (Nat → Int32) × (Nat → Int32) × (Nat → Int32) × Int32 × Int32) => post r u.1 u.2.1 u.2.2.1 u.2.2.2.1 u.2.2.2.2) :=
  ct_ofI (by decide) rfl (Nat.le_of_ble_eq_true rfl) (fun p e s m below meth c A ls C0 hP hD hS hl => wX11_smallestFree_0 l h post t_kind t_exponent t_letters t_values t_fed t_at t_foundMany t_keptMany t_keptLetters t_isFull t_isSaved t_savedKind t_savedExponent t_savedLetters p1 p2 C0 t_words t_lengths t_row t_rowSize t_steps hv _ _ _ hP hD hS hl)
theorem mX11_isNormal_1 : (Cond.fieldLink RX11 118 "AbelianPowersModel" "rowSize" "I") ∈ wsX11_isNormal := List.mem_of_getElem? (i := 1) rfl
theorem mX11_isNormal_2 : (Cond.fieldLink RX11 38 "AbelianPowersModel" "row" "[I") ∈ wsX11_isNormal := List.mem_of_getElem? (i := 2) rfl
theorem mX11_isNormal_3 : (Cond.methodLink RX11 99 Lib.Math.max.name) ∈ wsX11_isNormal := List.mem_of_getElem? (i := 3) rfl
theorem mX11_isNormal_4 : (Cond.static Lib.Math.max.name) ∈ wsX11_isNormal := List.mem_of_getElem? (i := 4) rfl
theorem mX11_isNormal_5 : (Cond.initialized "java/lang/Math") ∈ wsX11_isNormal := List.mem_of_getElem? (i := 5) rfl
theorem mX11_isNormal_6 : (Cond.code Lib.Math.max.name Lib.Math.max.code 2 (some .int)) ∈ wsX11_isNormal := List.mem_of_getElem? (i := 6) rfl
theorem nX11_isNormal_X11 : ∀ w ∈ wsX110, w ∈ wsX11_isNormal := fun _ h => List.mem_cons_of_mem _ (List.mem_append_right _ h)
theorem zX11_isNormal : yX11_isNormal.cls = RX11 ∧ yX11_isNormal.cls ≠ "java/lang/invoke/MethodHandle" ∧ yX11_isNormal.cls ≠ "java/lang/invoke/VarHandle" ∧ (parseMethodDescriptor yX11_isNormal.desc).map (fun d => d.parameters.length) = some 0 := by decide +kernel
abbrev rX11_isNormal : Room := { frames := 1, cells := 0, slots := 0, locals := 13 }
abbrev pX11_isNormal (cy : Nat → ClassId) (h : Nat → Nat) (t_kind : Int32) (t_exponent : Int32) (t_letters : Int32) (t_fed : Int32) (t_at : Int32) (t_row : Nat → Int32) (t_rowSize : Int32) (t_steps : Int32) (t_foundMany : Int32) (t_keptMany : Int32) (t_keptLetters : Int32) (t_isFull : Int32) (t_isSaved : Int32) (t_savedKind : Int32) (t_savedExponent : Int32) (t_savedLetters : Int32) : va_W := [(h 0, .inr (11, [.int t_kind, .int t_exponent, .int t_letters, .ref (h 2), .ref (h 3), .ref (h 4), .ref (h 5), .ref (h 6), .ref (h 7), .int t_fed, .int t_at, .ref (h 1), .int t_rowSize, .int t_steps, .ref (h 8), .int t_foundMany, .ref (h 9), .int t_keptMany, .int t_keptLetters, .ref (h 10), .ref (h 11), .ref (h 12), .ref (h 13), .ref (h 14), .int t_isFull, .ref (h 15), .ref (h 16), .int t_isSaved, .int t_savedKind, .int t_savedExponent, .int t_savedLetters, .ref (h 17), .ref (h 18), .ref (h 19), .ref (h 20), .ref (h 21)])), (h 1, .inl (cy 0, 45, .inl t_row))]
def VX11_isNormal_4 (post : Int32 → Prop)  (t_row : Nat → Int32) (t_rowSize : Int32) : Nat → Int32 → Int32 → Prop
  | 0, _, _ => False
  | n + 1, x1, x2 => ((t_rowSize ≤ x2) → post (1 : Int32)) ∧ (¬ (t_rowSize ≤ x2) → vp_in x2 45 ∧ ((((t_row x2.toNatClampNeg) ≤ x1) → vp_in x2 45 ∧ (∀ y_4 : Int32, y_4 = ((t_row x2.toNatClampNeg) + 1) → ∀ y_5 : Int32, y_5 = (if x1 < y_4 then y_4 else x1) → VX11_isNormal_4 post t_row t_rowSize n y_5 (x2 + 1))) ∧ (¬ ((t_row x2.toNatClampNeg) ≤ x1) → post (0 : Int32))))
def VX11_isNormal (post : Int32 → Prop)  (t_row : Nat → Int32) (t_rowSize : Int32)  : Prop := ∃ n4 : Nat, VX11_isNormal_4 post t_row t_rowSize n4 0 0
set_option maxHeartbeats 4000000 in
set_option maxRecDepth 100000 in
theorem wX11_isNormal_4 {p : Program} (l : Launch) {e : Env} {s : State} {m : MethodId} {args : Array Value} {below : List Frame} {meth : Method} {c : Code} {dC : Nat → ClassId} {dI : Nat → Nat → Nat} {cy : Nat → ClassId} {A : Nat → Prop} (h : Nat → Nat) (post : Int32 → Prop)   (t_kind : Int32) (t_exponent : Int32) (t_letters : Int32) (t_fed : Int32) (t_at : Int32) (t_row : Nat → Int32) (t_rowSize : Int32) (t_steps : Int32) (t_foundMany : Int32) (t_keptMany : Int32) (t_keptLetters : Int32) (t_isFull : Int32) (t_isSaved : Int32) (t_savedKind : Int32) (t_savedExponent : Int32) (t_savedLetters : Int32)  (C0 : cx p s m args meth c cX11_isNormal 3 (some .boolean) wsX11_isNormal RX11 dC dI cy A)  : ∀ (n : Nat) (x1 : Int32) (x2 : Int32), VX11_isNormal_4 post t_row t_rowSize n x1 x2 → ∀ (H : Heap) (locs : List Loc) (ls : Array Slot), va_P (dC, dI) vwCl (pX11_isNormal cy h t_kind t_exponent t_letters t_fed t_at t_row t_rowSize t_steps t_foundMany t_keptMany t_keptLetters t_isFull t_isSaved t_savedKind t_savedExponent t_savedLetters) H → va_D A (pX11_isNormal cy h t_kind t_exponent t_letters t_fed t_at t_row t_rowSize t_steps t_foundMany t_keptMany t_keptLetters t_isFull t_isSaved t_savedKind t_savedExponent t_savedLetters) → va_S A s.heap H locs → lv_has ls 3 [(0, .ref (h 0)), (1, .int x1), (2, .int x2)] → W p l e rX11_isNormal s m args below meth c H locs 0 0 (MQ below (va_Qi (fun (r : Int32) (_ : Unit) => post r) (fun (_ : Unit) (t : State) => va_P (dC, dI) vwCl (pX11_isNormal cy h t_kind t_exponent t_letters t_fed t_at t_row t_rowSize t_steps t_foundMany t_keptMany t_keptLetters t_isFull t_isSaved t_savedKind t_savedExponent t_savedLetters) t.heap) A) args s 0 0 A) (F0 m 4 ls []) := by
  have C1 := C0
  obtain ⟨hx, hb, hr, hml, hown, hts, hlocks, hK, hA⟩ := C1
  intro n
  induction n with
  | zero => intro x1 x2 hv; exact hv.elim
  | succ n ih =>
    intro x1 x2 hv H locs ls hP hD hS hl
    refine lv_iload_n hx hb dX11_isNormal_4 rfl (lv_at hl 2 rfl) ?_
    refine lv_aload_n hx hb dX11_isNormal_5 rfl (lv_at hl 0 rfl) ?_
    refine va_get (D := (dC, dI)) (ci := 11) (v := .int t_rowSize) (C := RX11) (T := TX11) (N := 36) hx hb hts nX11_isNormal_X11 hown hK hP 0 rfl rfl 12 (by decide) (hts _ mX11_isNormal_1) (fun _ h9 => h9) rfl dX11_isNormal_6 ?_
    refine lv_icmp_ge (tgt := 43) hx hb dX11_isNormal_9 (by decide) (fun c_7 => ?_) (fun c_7 => ?_)
    · have hv := hv.1 c_7
      refine lv_iconst (v := 1) hx hb dX11_isNormal_43 (by decide) ?_
      exact W.zret (v := 1) hx hb hr rfl (fun t ht hW => ⟨⟨1, (), rfl, hv, va_Ph ht hP⟩, hS.F ht⟩) hS.2.2 dX11_isNormal_44
    · have hv := hv.2 c_7
      refine lv_aload_n hx hb dX11_isNormal_12 rfl (lv_at hl 0 rfl) ?_
      refine va_get (D := (dC, dI)) (ci := 11) (v := .ref (h 1)) (C := RX11) (T := TX11) (N := 36) hx hb hts nX11_isNormal_X11 hown hK hP 0 rfl rfl 11 (by decide) (hts _ mX11_isNormal_2) (fun _ h9 => h9) rfl dX11_isNormal_13 ?_
      refine lv_iload_n hx hb dX11_isNormal_16 rfl (lv_at hl 2 rfl) ?_
      have h_2 := hv.1
      have hv := hv.2
      refine va_iald hx hb hK hP 1 0 rfl rfl h_2 dX11_isNormal_17 ?_
      refine lv_iload_n hx hb dX11_isNormal_18 rfl (lv_at hl 1 rfl) ?_
      refine lv_icmp_le (tgt := 24) hx hb dX11_isNormal_19 (by decide) (fun c_6 => ?_) (fun c_6 => ?_)
      · have hv := hv.1 c_6
        refine lv_iload_n hx hb dX11_isNormal_24 rfl (lv_at hl 1 rfl) ?_
        refine lv_aload_n hx hb dX11_isNormal_25 rfl (lv_at hl 0 rfl) ?_
        refine va_get (D := (dC, dI)) (ci := 11) (v := .ref (h 1)) (C := RX11) (T := TX11) (N := 36) hx hb hts nX11_isNormal_X11 hown hK hP 0 rfl rfl 11 (by decide) (hts _ mX11_isNormal_2) (fun _ h9 => h9) rfl dX11_isNormal_26 ?_
        refine lv_iload_n hx hb dX11_isNormal_29 rfl (lv_at hl 2 rfl) ?_
        have h_3 := hv.1
        have hv := hv.2
        refine va_iald hx hb hK hP 1 0 rfl rfl h_3 dX11_isNormal_30 ?_
        refine lv_iconst (v := 1) hx hb dX11_isNormal_31 (by decide) ?_
        refine lv_iadd hx hb dX11_isNormal_32 ?_
        refine lv_topi (fun y_4 ey_4 => ?_)
        have hv := hv y_4 ey_4
        refine va_mmax hx hb (hml.trans hl.1.symm) hown (hts _ mX11_isNormal_3) (hts _ mX11_isNormal_4) (hts _ mX11_isNormal_5) (hts _ mX11_isNormal_6) (Nat.le_of_ble_eq_true rfl) (Nat.le_of_ble_eq_true rfl) (Nat.zero_le _) (Nat.zero_le _) dX11_isNormal_33 ?_
        refine lv_topi (fun y_5 ey_5 => ?_)
        have hv := hv y_5 ey_5
        refine lv_istore_n (lv' := [(1, .int y_5), (0, .ref (h 0)), (2, .int x2)]) hx hb dX11_isNormal_36 rfl hl (by decide) rfl (fun ls hl => ?_)
        refine lv_iinc (v := (x2 + 1)) (lv' := [(2, .int ((x2 + 1))), (1, .int y_5), (0, .ref (h 0))]) hx hb dX11_isNormal_37 hl (k := 2) rfl rfl (by decide) rfl (fun ls hl => ?_)
        refine lv_goto (tgt := 4) hx hb dX11_isNormal_40 (by decide) ?_
        exact ih y_5 (x2 + 1) hv _ _ _ hP hD hS (lv_sub hl [2, 1, 0] rfl)
      · have hv := hv.2 c_6
        refine lv_iconst (v := 0) hx hb dX11_isNormal_22 (by decide) ?_
        exact W.zret (v := 0) hx hb hr rfl (fun t ht hW => ⟨⟨0, (), rfl, hv, va_Ph ht hP⟩, hS.F ht⟩) hS.2.2 dX11_isNormal_23
set_option maxHeartbeats 4000000 in
set_option maxRecDepth 100000 in
theorem wX11_isNormal_0 {p : Program} (l : Launch) {e : Env} {s : State} {m : MethodId} {args : Array Value} {below : List Frame} {meth : Method} {c : Code} {dC : Nat → ClassId} {dI : Nat → Nat → Nat} {cy : Nat → ClassId} {A : Nat → Prop} (h : Nat → Nat) (post : Int32 → Prop)   (t_kind : Int32) (t_exponent : Int32) (t_letters : Int32) (t_fed : Int32) (t_at : Int32) (t_row : Nat → Int32) (t_rowSize : Int32) (t_steps : Int32) (t_foundMany : Int32) (t_keptMany : Int32) (t_keptLetters : Int32) (t_isFull : Int32) (t_isSaved : Int32) (t_savedKind : Int32) (t_savedExponent : Int32) (t_savedLetters : Int32)  (C0 : cx p s m args meth c cX11_isNormal 3 (some .boolean) wsX11_isNormal RX11 dC dI cy A)  : VX11_isNormal post t_row t_rowSize  → ∀ (H : Heap) (locs : List Loc) (ls : Array Slot), va_P (dC, dI) vwCl (pX11_isNormal cy h t_kind t_exponent t_letters t_fed t_at t_row t_rowSize t_steps t_foundMany t_keptMany t_keptLetters t_isFull t_isSaved t_savedKind t_savedExponent t_savedLetters) H → va_D A (pX11_isNormal cy h t_kind t_exponent t_letters t_fed t_at t_row t_rowSize t_steps t_foundMany t_keptMany t_keptLetters t_isFull t_isSaved t_savedKind t_savedExponent t_savedLetters) → va_S A s.heap H locs → lv_has ls 3 [(0, .ref (h 0))] → W p l e rX11_isNormal s m args below meth c H locs 0 0 (MQ below (va_Qi (fun (r : Int32) (_ : Unit) => post r) (fun (_ : Unit) (t : State) => va_P (dC, dI) vwCl (pX11_isNormal cy h t_kind t_exponent t_letters t_fed t_at t_row t_rowSize t_steps t_foundMany t_keptMany t_keptLetters t_isFull t_isSaved t_savedKind t_savedExponent t_savedLetters) t.heap) A) args s 0 0 A) (F0 m 0 ls []) := by
  have C1 := C0
  obtain ⟨hx, hb, hr, hml, hown, hts, hlocks, hK, hA⟩ := C1
  intro  hv H locs ls hP hD hS hl
  refine lv_iconst (v := 0) hx hb dX11_isNormal_0 (by decide) ?_
  refine lv_istore_n (lv' := [(1, .int 0), (0, .ref (h 0))]) hx hb dX11_isNormal_1 rfl hl (by decide) rfl (fun ls hl => ?_)
  refine lv_iconst (v := 0) hx hb dX11_isNormal_2 (by decide) ?_
  refine lv_istore_n (lv' := [(2, .int 0), (1, .int 0), (0, .ref (h 0))]) hx hb dX11_isNormal_3 rfl hl (by decide) rfl (fun ls hl => ?_)
  obtain ⟨n_1, hv⟩ := hv
  exact wX11_isNormal_4 l h post  t_kind t_exponent t_letters t_fed t_at t_row t_rowSize t_steps t_foundMany t_keptMany t_keptLetters t_isFull t_isSaved t_savedKind t_savedExponent t_savedLetters C0 n_1 0 0 hv _ _ _ hP hD hS (lv_sub hl [2, 1, 0] rfl)
theorem kX11_isNormal (l : Launch) (dC : Nat → ClassId) (dI : Nat → Nat → Nat) (cy : Nat → ClassId) (h : Nat → Nat) (t_kind : Int32) (t_exponent : Int32) (t_letters : Int32) (t_fed : Int32) (t_at : Int32) (t_row : Nat → Int32) (t_rowSize : Int32) (t_steps : Int32) (t_foundMany : Int32) (t_keptMany : Int32) (t_keptLetters : Int32) (t_isFull : Int32) (t_isSaved : Int32) (t_savedKind : Int32) (t_savedExponent : Int32) (t_savedLetters : Int32)  (post : Int32 → Prop) (hv : VX11_isNormal post t_row t_rowSize ) : CtI l yX11_isNormal wsX11_isNormal rX11_isNormal dC dI cy [.ref (h 0)] (pX11_isNormal cy h t_kind t_exponent t_letters t_fed t_at t_row t_rowSize t_steps t_foundMany t_keptMany t_keptLetters t_isFull t_isSaved t_savedKind t_savedExponent t_savedLetters) (fun (_ : Unit) => pX11_isNormal cy h t_kind t_exponent t_letters t_fed t_at t_row t_rowSize t_steps t_foundMany t_keptMany t_keptLetters t_isFull t_isSaved t_savedKind t_savedExponent t_savedLetters) (fun (r : Int32) (_ : Unit) => post r) :=
  ct_ofI (by decide) rfl (Nat.le_of_ble_eq_true rfl) (fun p e s m below meth c A ls C0 hP hD hS hl => wX11_isNormal_0 l h post t_kind t_exponent t_letters t_fed t_at t_row t_rowSize t_steps t_foundMany t_keptMany t_keptLetters t_isFull t_isSaved t_savedKind t_savedExponent t_savedLetters C0  hv _ _ _ hP hD hS hl)
theorem mX11_countAll_1 : (Cond.fieldLink RX11 118 "AbelianPowersModel" "rowSize" "I") ∈ wsX11_countAll := List.mem_of_getElem? (i := 1) rfl
theorem mX11_countAll_2 : (Cond.fieldLink RX11 161 "AbelianPowersModel" "steps" "I") ∈ wsX11_countAll := List.mem_of_getElem? (i := 2) rfl
theorem mX11_countAll_3 : (Cond.constant RX11 176 (2147483647)) ∈ wsX11_countAll := List.mem_of_getElem? (i := 3) rfl
theorem mX11_countAll_4 : (Cond.fieldLink RX11 38 "AbelianPowersModel" "row" "[I") ∈ wsX11_countAll := List.mem_of_getElem? (i := 4) rfl
theorem nX11_countAll_X11 : ∀ w ∈ wsX110, w ∈ wsX11_countAll := fun _ h => List.mem_cons_of_mem _ (List.mem_append_right _ h)
theorem zX11_countAll : yX11_countAll.cls = RX11 ∧ yX11_countAll.cls ≠ "java/lang/invoke/MethodHandle" ∧ yX11_countAll.cls ≠ "java/lang/invoke/VarHandle" ∧ (parseMethodDescriptor yX11_countAll.desc).map (fun d => d.parameters.length) = some 2 := by decide +kernel
abbrev rX11_countAll : Room := { frames := 7, cells := 0, slots := 0, locals := 165 }
abbrev pX11_countAll (cy : Nat → ClassId) (h : Nat → Nat) (t_kind : Int32) (t_exponent : Int32) (t_letters : Int32) (t_values : Nat → Int32) (t_fed : Int32) (t_at : Int32) (t_row : Nat → Int32) (t_rowSize : Int32) (t_steps : Int32) (t_foundMany : Int32) (t_keptMany : Int32) (t_keptLetters : Int32) (t_isFull : Int32) (t_isSaved : Int32) (t_savedKind : Int32) (t_savedExponent : Int32) (t_savedLetters : Int32) : va_W := [(h 0, .inr (11, [.int t_kind, .int t_exponent, .int t_letters, .ref (h 1), .ref (h 3), .ref (h 4), .ref (h 5), .ref (h 6), .ref (h 7), .int t_fed, .int t_at, .ref (h 2), .int t_rowSize, .int t_steps, .ref (h 8), .int t_foundMany, .ref (h 9), .int t_keptMany, .int t_keptLetters, .ref (h 10), .ref (h 11), .ref (h 12), .ref (h 13), .ref (h 14), .int t_isFull, .ref (h 15), .ref (h 16), .int t_isSaved, .int t_savedKind, .int t_savedExponent, .int t_savedLetters, .ref (h 17), .ref (h 18), .ref (h 19), .ref (h 20), .ref (h 21)])), (h 1, .inl (cy 0, 4, .inl t_values)), (h 2, .inl (cy 0, 45, .inl t_row))]
def VX11_countAll_121 (post : Int32 → (Nat → Int32) → Int32 → Int32 → Prop) (K18 : (Nat → Int32) → Int32 → Int32 → Int32 → Int32 → Int32 → Prop) (t_kind : Int32) (t_exponent : Int32) (t_letters : Int32) (t_values : Nat → Int32) (p1 : Int32) (p2 : Int32) (t_row : Nat → Int32) (t_rowSize : Int32) (t_steps : Int32) (x3 : Int32) (x5 : Int32) (s0 : Int32) (s1 : Int32) : Prop := vp_in (s1 - s0) 45 ∧ (∀ y_18 : Int32, y_18 = (t_row (s1 - s0).toNatClampNeg) → K18 t_row (s1 - s0) t_steps x3 (y_18 + 1) x5)
def VX11_countAll_104 (post : Int32 → (Nat → Int32) → Int32 → Int32 → Prop) (K18 : (Nat → Int32) → Int32 → Int32 → Int32 → Int32 → Int32 → Prop) (t_kind : Int32) (t_exponent : Int32) (t_letters : Int32) (t_values : Nat → Int32) (p1 : Int32) (p2 : Int32) (t_row : Nat → Int32) (t_rowSize : Int32) (t_steps : Int32) (x3 : Int32) (s0 : Int32) : Prop := ((s0 = 0) → VX11_countAll_121 post K18 t_kind t_exponent t_letters t_values p1 p2 t_row t_rowSize t_steps x3 s0 0 t_rowSize) ∧ (¬ (s0 = 0) → VX11_countAll_121 post K18 t_kind t_exponent t_letters t_values p1 p2 t_row t_rowSize t_steps x3 s0 1 t_rowSize)
def VX11_countAll_80 (post : Int32 → (Nat → Int32) → Int32 → Int32 → Prop) (K18 : (Nat → Int32) → Int32 → Int32 → Int32 → Int32 → Int32 → Prop) (t_kind : Int32) (t_exponent : Int32) (t_letters : Int32) (t_values : Nat → Int32) (p1 : Int32) (p2 : Int32) (t_row : Nat → Int32) (t_rowSize : Int32) (t_steps : Int32) (x3 : Int32) (x5 : Int32) (s0 : Int32) : Prop := (¬ (s0 = (-2)) → K18 t_row t_rowSize t_steps x3 0 x5) ∧ ((s0 = (-2)) → ((t_rowSize ≤ 0) → VX11_countAll_104 post K18 t_kind t_exponent t_letters t_values p1 p2 t_row t_rowSize t_steps x3 0) ∧ (¬ (t_rowSize ≤ 0) → VX11_countAll_104 post K18 t_kind t_exponent t_letters t_values p1 p2 t_row t_rowSize t_steps x3 1))
def VX11_countAll_60 (post : Int32 → (Nat → Int32) → Int32 → Int32 → Prop) (K18 : (Nat → Int32) → Int32 → Int32 → Int32 → Int32 → Int32 → Prop) (t_kind : Int32) (t_exponent : Int32) (t_letters : Int32) (t_values : Nat → Int32) (p1 : Int32) (p2 : Int32) (t_row : Nat → Int32) (t_rowSize : Int32) (t_steps : Int32) (x4 : Int32) (x5 : Int32) (x6 : Int32) (s0 : Int32) (s1 : Int32) : Prop := ((x6 = 0) → VX11_goOn (fun r_9 u_10 u_11 u_12 => VX11_countAll_80 post K18 t_kind t_exponent t_letters t_values p1 p2 u_10 u_11 u_12 (s1 + s0) x5 r_9) t_kind t_exponent t_letters t_values x4 2147483647 t_row t_rowSize t_steps) ∧ (¬ (x6 = 0) → VX11_countAll_80 post K18 t_kind t_exponent t_letters t_values p1 p2 t_row t_rowSize t_steps (s1 + s0) x5 (-2))
def VX11_countAll_36 (post : Int32 → (Nat → Int32) → Int32 → Int32 → Prop) (K18 : (Nat → Int32) → Int32 → Int32 → Int32 → Int32 → Int32 → Prop) (t_kind : Int32) (t_exponent : Int32) (t_letters : Int32) (t_values : Nat → Int32) (p1 : Int32) (p2 : Int32) (t_row : Nat → Int32) (t_rowSize : Int32) (t_steps : Int32) (x3 : Int32) (x4 : Int32) (x5 : Int32) (s0 : Int32) : Prop := ((s0 = 0) → VX11_countAll_60 post K18 t_kind t_exponent t_letters t_values p1 p2 t_row t_rowSize t_steps x4 x5 s0 0 x3) ∧ (¬ (s0 = 0) → ((p2 = 0) → VX11_countAll_60 post K18 t_kind t_exponent t_letters t_values p1 p2 t_row t_rowSize t_steps x4 x5 s0 1 x3) ∧ (¬ (p2 = 0) → VX11_isNormal (fun r_4 => ((r_4 = 0) → VX11_countAll_60 post K18 t_kind t_exponent t_letters t_values p1 p2 t_row t_rowSize t_steps x4 x5 s0 0 x3) ∧ (¬ (r_4 = 0) → VX11_countAll_60 post K18 t_kind t_exponent t_letters t_values p1 p2 t_row t_rowSize t_steps x4 x5 s0 1 x3)) t_row t_rowSize))
def VX11_countAll_18 (post : Int32 → (Nat → Int32) → Int32 → Int32 → Prop)  (t_kind : Int32) (t_exponent : Int32) (t_letters : Int32) (t_values : Nat → Int32) (p1 : Int32) (p2 : Int32) : Nat → (Nat → Int32) → Int32 → Int32 → Int32 → Int32 → Int32 → Prop
  | 0, _, _, _, _, _, _ => False
  | n + 1, t_row, t_rowSize, t_steps, x3, x4, x5 => ((x5 = 0) → post x3 t_row t_rowSize t_steps) ∧ (¬ (x5 = 0) → (¬ (t_rowSize = p1) → VX11_countAll_36 post (fun t_row t_rowSize t_steps x3 x4 x5 => VX11_countAll_18 post t_kind t_exponent t_letters t_values p1 p2 n t_row t_rowSize t_steps x3 x4 x5) t_kind t_exponent t_letters t_values p1 p2 t_row t_rowSize t_steps x3 x4 x5 0) ∧ ((t_rowSize = p1) → VX11_countAll_36 post (fun t_row t_rowSize t_steps x3 x4 x5 => VX11_countAll_18 post t_kind t_exponent t_letters t_values p1 p2 n t_row t_rowSize t_steps x3 x4 x5) t_kind t_exponent t_letters t_values p1 p2 t_row t_rowSize t_steps x3 x4 x5 1))
def VX11_countAll (post : Int32 → (Nat → Int32) → Int32 → Int32 → Prop)  (t_kind : Int32) (t_exponent : Int32) (t_letters : Int32) (t_values : Nat → Int32) (p1 : Int32) (p2 : Int32) (t_row : Nat → Int32) (t_rowSize : Int32) (t_steps : Int32) : Prop := ∃ n18 : Nat, VX11_countAll_18 post t_kind t_exponent t_letters t_values p1 p2 n18 t_row 0 0 0 0 1
set_option maxHeartbeats 4000000 in
set_option maxRecDepth 100000 in
theorem wX11_countAll_121 {p : Program} (l : Launch) {e : Env} {s : State} {m : MethodId} {args : Array Value} {below : List Frame} {meth : Method} {c : Code} {dC : Nat → ClassId} {dI : Nat → Nat → Nat} {cy : Nat → ClassId} {A : Nat → Prop} (h : Nat → Nat) (post : Int32 → (Nat → Int32) → Int32 → Int32 → Prop) (K18 : (Nat → Int32) → Int32 → Int32 → Int32 → Int32 → Int32 → Prop)  (t_kind : Int32) (t_exponent : Int32) (t_letters : Int32) (t_values : Nat → Int32) (t_fed : Int32) (t_at : Int32) (t_foundMany : Int32) (t_keptMany : Int32) (t_keptLetters : Int32) (t_isFull : Int32) (t_isSaved : Int32) (t_savedKind : Int32) (t_savedExponent : Int32) (t_savedLetters : Int32) (p1 : Int32) (p2 : Int32) (C0 : cx p s m args meth c cX11_countAll 8 (some .int) wsX11_countAll RX11 dC dI cy A) (hK18 : ∀ (t_row : Nat → Int32) (t_rowSize : Int32) (t_steps : Int32) (x3 : Int32) (x4 : Int32) (x5 : Int32), K18 t_row t_rowSize t_steps x3 x4 x5 → ∀ (H : Heap) (locs : List Loc) (ls : Array Slot), va_P (dC, dI) vwCl (pX11_countAll cy h t_kind t_exponent t_letters t_values t_fed t_at t_row t_rowSize t_steps t_foundMany t_keptMany t_keptLetters t_isFull t_isSaved t_savedKind t_savedExponent t_savedLetters) H → va_D A (pX11_countAll cy h t_kind t_exponent t_letters t_values t_fed t_at t_row t_rowSize t_steps t_foundMany t_keptMany t_keptLetters t_isFull t_isSaved t_savedKind t_savedExponent t_savedLetters) → va_S A s.heap H locs → lv_has ls 8 [(0, .ref (h 0)), (1, .int p1), (2, .int p2), (3, .int x3), (4, .int x4), (5, .int x5)] → W p l e rX11_countAll s m args below meth c H locs 0 0 (MQ below (va_Qi (fun (r : Int32) (u : (Nat → Int32) × Int32 × Int32) => post r u.1 u.2.1 u.2.2) (fun (u : (Nat → Int32) × Int32 × Int32) (t : State) => va_P (dC, dI) vwCl (pX11_countAll cy h t_kind t_exponent t_letters t_values t_fed t_at u.1 u.2.1 u.2.2 t_foundMany t_keptMany t_keptLetters t_isFull t_isSaved t_savedKind t_savedExponent t_savedLetters) t.heap) A) args s 0 0 A) (F0 m 18 ls [])) : ∀ (t_row : Nat → Int32) (t_rowSize : Int32) (t_steps : Int32) (x3 : Int32) (x5 : Int32) (s0 : Int32) (s1 : Int32), VX11_countAll_121 post K18 t_kind t_exponent t_letters t_values p1 p2 t_row t_rowSize t_steps x3 x5 s0 s1 → ∀ (H : Heap) (locs : List Loc) (ls : Array Slot), va_P (dC, dI) vwCl (pX11_countAll cy h t_kind t_exponent t_letters t_values t_fed t_at t_row t_rowSize t_steps t_foundMany t_keptMany t_keptLetters t_isFull t_isSaved t_savedKind t_savedExponent t_savedLetters) H → va_D A (pX11_countAll cy h t_kind t_exponent t_letters t_values t_fed t_at t_row t_rowSize t_steps t_foundMany t_keptMany t_keptLetters t_isFull t_isSaved t_savedKind t_savedExponent t_savedLetters) → va_S A s.heap H locs → lv_has ls 8 [(0, .ref (h 0)), (1, .int p1), (2, .int p2), (3, .int x3), (5, .int x5)] → W p l e rX11_countAll s m args below meth c H locs 0 0 (MQ below (va_Qi (fun (r : Int32) (u : (Nat → Int32) × Int32 × Int32) => post r u.1 u.2.1 u.2.2) (fun (u : (Nat → Int32) × Int32 × Int32) (t : State) => va_P (dC, dI) vwCl (pX11_countAll cy h t_kind t_exponent t_letters t_values t_fed t_at u.1 u.2.1 u.2.2 t_foundMany t_keptMany t_keptLetters t_isFull t_isSaved t_savedKind t_savedExponent t_savedLetters) t.heap) A) args s 0 0 A) (F0 m 121 ls [.int s0, .int s1, .ref (h 0)]) := by
  have C1 := C0
  obtain ⟨hx, hb, hr, hml, hown, hts, hlocks, hK, hA⟩ := C1
  intro t_row t_rowSize t_steps x3 x5 s0 s1 hv H locs ls hP hD hS hl
  refine lv_isub hx hb dX11_countAll_121 ?_
  refine va_put (D := (dC, dI)) (ci := 11) (v := .int (s1 - s0)) (ty := .int) (C := RX11) (T := TX11) (N := 36) hx hb hts nX11_countAll_X11 tyX11 tyX11_ok nmX11 hown hK hP hD hS 0 rfl rfl 12 (by decide) (hts _ mX11_countAll_1) (fun _ h9 => h9) rfl (by decide +kernel) rfl rfl (Nat.le_of_ble_eq_true rfl) dX11_countAll_122 (fun H locs hP hD hS => ?_)
  have hP : va_P (dC, dI) vwCl (pX11_countAll cy h t_kind t_exponent t_letters t_values t_fed t_at t_row (s1 - s0) t_steps t_foundMany t_keptMany t_keptLetters t_isFull t_isSaved t_savedKind t_savedExponent t_savedLetters) H := hP
  have hD : va_D A (pX11_countAll cy h t_kind t_exponent t_letters t_values t_fed t_at t_row (s1 - s0) t_steps t_foundMany t_keptMany t_keptLetters t_isFull t_isSaved t_savedKind t_savedExponent t_savedLetters) := hD
  refine lv_aload_n hx hb dX11_countAll_125 rfl (lv_at hl 0 rfl) ?_
  refine va_get (D := (dC, dI)) (ci := 11) (v := .ref (h 2)) (C := RX11) (T := TX11) (N := 36) hx hb hts nX11_countAll_X11 hown hK hP 0 rfl rfl 11 (by decide) (hts _ mX11_countAll_4) (fun _ h9 => h9) rfl dX11_countAll_126 ?_
  refine lv_aload_n hx hb dX11_countAll_129 rfl (lv_at hl 0 rfl) ?_
  refine va_get (D := (dC, dI)) (ci := 11) (v := .int ((s1 - s0))) (C := RX11) (T := TX11) (N := 36) hx hb hts nX11_countAll_X11 hown hK hP 0 rfl rfl 12 (by decide) (hts _ mX11_countAll_1) (fun _ h9 => h9) rfl dX11_countAll_130 ?_
  have h_19 := hv.1
  have hv := hv.2
  refine va_iald hx hb hK hP 2 0 rfl rfl h_19 dX11_countAll_133 ?_
  refine lv_topi (fun y_18 ey_18 => ?_)
  have hv := hv y_18 ey_18
  refine lv_iconst (v := 1) hx hb dX11_countAll_134 (by decide) ?_
  refine lv_iadd hx hb dX11_countAll_135 ?_
  refine lv_istore (lv' := [(4, .int ((y_18 + 1))), (0, .ref (h 0)), (1, .int p1), (2, .int p2), (3, .int x3), (5, .int x5)]) hx hb dX11_countAll_136 hl (by decide) rfl (fun ls hl => ?_)
  refine lv_goto (tgt := 18) hx hb dX11_countAll_138 (by decide) ?_
  exact hK18 t_row (s1 - s0) t_steps x3 (y_18 + 1) x5 hv _ _ _ hP hD hS (lv_sub hl [1, 2, 3, 4, 0, 5] rfl)
set_option maxHeartbeats 4000000 in
set_option maxRecDepth 100000 in
theorem wX11_countAll_104 {p : Program} (l : Launch) {e : Env} {s : State} {m : MethodId} {args : Array Value} {below : List Frame} {meth : Method} {c : Code} {dC : Nat → ClassId} {dI : Nat → Nat → Nat} {cy : Nat → ClassId} {A : Nat → Prop} (h : Nat → Nat) (post : Int32 → (Nat → Int32) → Int32 → Int32 → Prop) (K18 : (Nat → Int32) → Int32 → Int32 → Int32 → Int32 → Int32 → Prop)  (t_kind : Int32) (t_exponent : Int32) (t_letters : Int32) (t_values : Nat → Int32) (t_fed : Int32) (t_at : Int32) (t_foundMany : Int32) (t_keptMany : Int32) (t_keptLetters : Int32) (t_isFull : Int32) (t_isSaved : Int32) (t_savedKind : Int32) (t_savedExponent : Int32) (t_savedLetters : Int32) (p1 : Int32) (p2 : Int32) (C0 : cx p s m args meth c cX11_countAll 8 (some .int) wsX11_countAll RX11 dC dI cy A) (hK18 : ∀ (t_row : Nat → Int32) (t_rowSize : Int32) (t_steps : Int32) (x3 : Int32) (x4 : Int32) (x5 : Int32), K18 t_row t_rowSize t_steps x3 x4 x5 → ∀ (H : Heap) (locs : List Loc) (ls : Array Slot), va_P (dC, dI) vwCl (pX11_countAll cy h t_kind t_exponent t_letters t_values t_fed t_at t_row t_rowSize t_steps t_foundMany t_keptMany t_keptLetters t_isFull t_isSaved t_savedKind t_savedExponent t_savedLetters) H → va_D A (pX11_countAll cy h t_kind t_exponent t_letters t_values t_fed t_at t_row t_rowSize t_steps t_foundMany t_keptMany t_keptLetters t_isFull t_isSaved t_savedKind t_savedExponent t_savedLetters) → va_S A s.heap H locs → lv_has ls 8 [(0, .ref (h 0)), (1, .int p1), (2, .int p2), (3, .int x3), (4, .int x4), (5, .int x5)] → W p l e rX11_countAll s m args below meth c H locs 0 0 (MQ below (va_Qi (fun (r : Int32) (u : (Nat → Int32) × Int32 × Int32) => post r u.1 u.2.1 u.2.2) (fun (u : (Nat → Int32) × Int32 × Int32) (t : State) => va_P (dC, dI) vwCl (pX11_countAll cy h t_kind t_exponent t_letters t_values t_fed t_at u.1 u.2.1 u.2.2 t_foundMany t_keptMany t_keptLetters t_isFull t_isSaved t_savedKind t_savedExponent t_savedLetters) t.heap) A) args s 0 0 A) (F0 m 18 ls [])) : ∀ (t_row : Nat → Int32) (t_rowSize : Int32) (t_steps : Int32) (x3 : Int32) (s0 : Int32), VX11_countAll_104 post K18 t_kind t_exponent t_letters t_values p1 p2 t_row t_rowSize t_steps x3 s0 → ∀ (H : Heap) (locs : List Loc) (ls : Array Slot), va_P (dC, dI) vwCl (pX11_countAll cy h t_kind t_exponent t_letters t_values t_fed t_at t_row t_rowSize t_steps t_foundMany t_keptMany t_keptLetters t_isFull t_isSaved t_savedKind t_savedExponent t_savedLetters) H → va_D A (pX11_countAll cy h t_kind t_exponent t_letters t_values t_fed t_at t_row t_rowSize t_steps t_foundMany t_keptMany t_keptLetters t_isFull t_isSaved t_savedKind t_savedExponent t_savedLetters) → va_S A s.heap H locs → lv_has ls 8 [(0, .ref (h 0)), (1, .int p1), (2, .int p2), (3, .int x3)] → W p l e rX11_countAll s m args below meth c H locs 0 0 (MQ below (va_Qi (fun (r : Int32) (u : (Nat → Int32) × Int32 × Int32) => post r u.1 u.2.1 u.2.2) (fun (u : (Nat → Int32) × Int32 × Int32) (t : State) => va_P (dC, dI) vwCl (pX11_countAll cy h t_kind t_exponent t_letters t_values t_fed t_at u.1 u.2.1 u.2.2 t_foundMany t_keptMany t_keptLetters t_isFull t_isSaved t_savedKind t_savedExponent t_savedLetters) t.heap) A) args s 0 0 A) (F0 m 104 ls [.int s0]) := by
  have C1 := C0
  obtain ⟨hx, hb, hr, hml, hown, hts, hlocks, hK, hA⟩ := C1
  intro t_row t_rowSize t_steps x3 s0 hv H locs ls hP hD hS hl
  refine lv_istore (lv' := [(5, .int s0), (0, .ref (h 0)), (1, .int p1), (2, .int p2), (3, .int x3)]) hx hb dX11_countAll_104 hl (by decide) rfl (fun ls hl => ?_)
  refine lv_aload_n hx hb dX11_countAll_106 rfl (lv_at hl 1 rfl) ?_
  refine lv_dup hx hb dX11_countAll_107 rfl ?_
  refine va_get (D := (dC, dI)) (ci := 11) (v := .int t_rowSize) (C := RX11) (T := TX11) (N := 36) hx hb hts nX11_countAll_X11 hown hK hP 0 rfl rfl 12 (by decide) (hts _ mX11_countAll_1) (fun _ h9 => h9) rfl dX11_countAll_108 ?_
  refine lv_iload hx hb dX11_countAll_111 (lv_at hl 0 rfl) ?_
  refine lv_if_eq (tgt := 120) hx hb dX11_countAll_113 (by decide) (fun c_17 => ?_) (fun c_17 => ?_)
  · have hv := hv.1 c_17
    refine lv_iconst (v := 0) hx hb dX11_countAll_120 (by decide) ?_
    exact wX11_countAll_121 l h post K18  t_kind t_exponent t_letters t_values t_fed t_at t_foundMany t_keptMany t_keptLetters t_isFull t_isSaved t_savedKind t_savedExponent t_savedLetters p1 p2 C0 hK18 t_row t_rowSize t_steps x3 s0 0 t_rowSize hv _ _ _ hP hD hS (lv_sub hl [1, 2, 3, 4, 0] rfl)
  · have hv := hv.2 c_17
    refine lv_iconst (v := 1) hx hb dX11_countAll_116 (by decide) ?_
    refine lv_goto (tgt := 121) hx hb dX11_countAll_117 (by decide) ?_
    exact wX11_countAll_121 l h post K18  t_kind t_exponent t_letters t_values t_fed t_at t_foundMany t_keptMany t_keptLetters t_isFull t_isSaved t_savedKind t_savedExponent t_savedLetters p1 p2 C0 hK18 t_row t_rowSize t_steps x3 s0 1 t_rowSize hv _ _ _ hP hD hS (lv_sub hl [1, 2, 3, 4, 0] rfl)
set_option maxHeartbeats 4000000 in
set_option maxRecDepth 100000 in
theorem wX11_countAll_80 {p : Program} (l : Launch) {e : Env} {s : State} {m : MethodId} {args : Array Value} {below : List Frame} {meth : Method} {c : Code} {dC : Nat → ClassId} {dI : Nat → Nat → Nat} {cy : Nat → ClassId} {A : Nat → Prop} (h : Nat → Nat) (post : Int32 → (Nat → Int32) → Int32 → Int32 → Prop) (K18 : (Nat → Int32) → Int32 → Int32 → Int32 → Int32 → Int32 → Prop)  (t_kind : Int32) (t_exponent : Int32) (t_letters : Int32) (t_values : Nat → Int32) (t_fed : Int32) (t_at : Int32) (t_foundMany : Int32) (t_keptMany : Int32) (t_keptLetters : Int32) (t_isFull : Int32) (t_isSaved : Int32) (t_savedKind : Int32) (t_savedExponent : Int32) (t_savedLetters : Int32) (p1 : Int32) (p2 : Int32) (C0 : cx p s m args meth c cX11_countAll 8 (some .int) wsX11_countAll RX11 dC dI cy A) (hK18 : ∀ (t_row : Nat → Int32) (t_rowSize : Int32) (t_steps : Int32) (x3 : Int32) (x4 : Int32) (x5 : Int32), K18 t_row t_rowSize t_steps x3 x4 x5 → ∀ (H : Heap) (locs : List Loc) (ls : Array Slot), va_P (dC, dI) vwCl (pX11_countAll cy h t_kind t_exponent t_letters t_values t_fed t_at t_row t_rowSize t_steps t_foundMany t_keptMany t_keptLetters t_isFull t_isSaved t_savedKind t_savedExponent t_savedLetters) H → va_D A (pX11_countAll cy h t_kind t_exponent t_letters t_values t_fed t_at t_row t_rowSize t_steps t_foundMany t_keptMany t_keptLetters t_isFull t_isSaved t_savedKind t_savedExponent t_savedLetters) → va_S A s.heap H locs → lv_has ls 8 [(0, .ref (h 0)), (1, .int p1), (2, .int p2), (3, .int x3), (4, .int x4), (5, .int x5)] → W p l e rX11_countAll s m args below meth c H locs 0 0 (MQ below (va_Qi (fun (r : Int32) (u : (Nat → Int32) × Int32 × Int32) => post r u.1 u.2.1 u.2.2) (fun (u : (Nat → Int32) × Int32 × Int32) (t : State) => va_P (dC, dI) vwCl (pX11_countAll cy h t_kind t_exponent t_letters t_values t_fed t_at u.1 u.2.1 u.2.2 t_foundMany t_keptMany t_keptLetters t_isFull t_isSaved t_savedKind t_savedExponent t_savedLetters) t.heap) A) args s 0 0 A) (F0 m 18 ls [])) : ∀ (t_row : Nat → Int32) (t_rowSize : Int32) (t_steps : Int32) (x3 : Int32) (x5 : Int32) (s0 : Int32), VX11_countAll_80 post K18 t_kind t_exponent t_letters t_values p1 p2 t_row t_rowSize t_steps x3 x5 s0 → ∀ (H : Heap) (locs : List Loc) (ls : Array Slot), va_P (dC, dI) vwCl (pX11_countAll cy h t_kind t_exponent t_letters t_values t_fed t_at t_row t_rowSize t_steps t_foundMany t_keptMany t_keptLetters t_isFull t_isSaved t_savedKind t_savedExponent t_savedLetters) H → va_D A (pX11_countAll cy h t_kind t_exponent t_letters t_values t_fed t_at t_row t_rowSize t_steps t_foundMany t_keptMany t_keptLetters t_isFull t_isSaved t_savedKind t_savedExponent t_savedLetters) → va_S A s.heap H locs → lv_has ls 8 [(0, .ref (h 0)), (1, .int p1), (2, .int p2), (3, .int x3), (5, .int x5)] → W p l e rX11_countAll s m args below meth c H locs 0 0 (MQ below (va_Qi (fun (r : Int32) (u : (Nat → Int32) × Int32 × Int32) => post r u.1 u.2.1 u.2.2) (fun (u : (Nat → Int32) × Int32 × Int32) (t : State) => va_P (dC, dI) vwCl (pX11_countAll cy h t_kind t_exponent t_letters t_values t_fed t_at u.1 u.2.1 u.2.2 t_foundMany t_keptMany t_keptLetters t_isFull t_isSaved t_savedKind t_savedExponent t_savedLetters) t.heap) A) args s 0 0 A) (F0 m 80 ls [.int s0]) := by
  have C1 := C0
  obtain ⟨hx, hb, hr, hml, hown, hts, hlocks, hK, hA⟩ := C1
  intro t_row t_rowSize t_steps x3 x5 s0 hv H locs ls hP hD hS hl
  refine lv_istore (lv' := [(7, .int s0), (0, .ref (h 0)), (1, .int p1), (2, .int p2), (3, .int x3), (5, .int x5)]) hx hb dX11_countAll_80 hl (by decide) rfl (fun ls hl => ?_)
  refine lv_iconst (v := 0) hx hb dX11_countAll_82 (by decide) ?_
  refine lv_istore (lv' := [(4, .int 0), (7, .int s0), (0, .ref (h 0)), (1, .int p1), (2, .int p2), (3, .int x3), (5, .int x5)]) hx hb dX11_countAll_83 hl (by decide) rfl (fun ls hl => ?_)
  refine lv_iload hx hb dX11_countAll_85 (lv_at hl 1 rfl) ?_
  refine lv_bipush (v := (-2)) hx hb dX11_countAll_87 (by decide) ?_
  refine lv_icmp_ne (tgt := 138) hx hb dX11_countAll_89 (by decide) (fun c_16 => ?_) (fun c_16 => ?_)
  · have hv := hv.1 c_16
    refine lv_goto (tgt := 18) hx hb dX11_countAll_138 (by decide) ?_
    exact hK18 t_row t_rowSize t_steps x3 0 x5 hv _ _ _ hP hD hS (lv_sub hl [2, 3, 4, 5, 0, 6] rfl)
  · have hv := hv.2 c_16
    refine lv_aload_n hx hb dX11_countAll_92 rfl (lv_at hl 2 rfl) ?_
    refine va_get (D := (dC, dI)) (ci := 11) (v := .int t_rowSize) (C := RX11) (T := TX11) (N := 36) hx hb hts nX11_countAll_X11 hown hK hP 0 rfl rfl 12 (by decide) (hts _ mX11_countAll_1) (fun _ h9 => h9) rfl dX11_countAll_93 ?_
    refine lv_if_le (tgt := 103) hx hb dX11_countAll_96 (by decide) (fun c_15 => ?_) (fun c_15 => ?_)
    · have hv := hv.1 c_15
      refine lv_iconst (v := 0) hx hb dX11_countAll_103 (by decide) ?_
      exact wX11_countAll_104 l h post K18  t_kind t_exponent t_letters t_values t_fed t_at t_foundMany t_keptMany t_keptLetters t_isFull t_isSaved t_savedKind t_savedExponent t_savedLetters p1 p2 C0 hK18 t_row t_rowSize t_steps x3 0 hv _ _ _ hP hD hS (lv_sub hl [2, 3, 4, 5] rfl)
    · have hv := hv.2 c_15
      refine lv_iconst (v := 1) hx hb dX11_countAll_99 (by decide) ?_
      refine lv_goto (tgt := 104) hx hb dX11_countAll_100 (by decide) ?_
      exact wX11_countAll_104 l h post K18  t_kind t_exponent t_letters t_values t_fed t_at t_foundMany t_keptMany t_keptLetters t_isFull t_isSaved t_savedKind t_savedExponent t_savedLetters p1 p2 C0 hK18 t_row t_rowSize t_steps x3 1 hv _ _ _ hP hD hS (lv_sub hl [2, 3, 4, 5] rfl)
set_option maxHeartbeats 4000000 in
set_option maxRecDepth 100000 in
theorem wX11_countAll_60 {p : Program} (l : Launch) {e : Env} {s : State} {m : MethodId} {args : Array Value} {below : List Frame} {meth : Method} {c : Code} {dC : Nat → ClassId} {dI : Nat → Nat → Nat} {cy : Nat → ClassId} {A : Nat → Prop} (h : Nat → Nat) (post : Int32 → (Nat → Int32) → Int32 → Int32 → Prop) (K18 : (Nat → Int32) → Int32 → Int32 → Int32 → Int32 → Int32 → Prop)  (t_kind : Int32) (t_exponent : Int32) (t_letters : Int32) (t_values : Nat → Int32) (t_fed : Int32) (t_at : Int32) (t_foundMany : Int32) (t_keptMany : Int32) (t_keptLetters : Int32) (t_isFull : Int32) (t_isSaved : Int32) (t_savedKind : Int32) (t_savedExponent : Int32) (t_savedLetters : Int32) (p1 : Int32) (p2 : Int32) (C0 : cx p s m args meth c cX11_countAll 8 (some .int) wsX11_countAll RX11 dC dI cy A) (hK18 : ∀ (t_row : Nat → Int32) (t_rowSize : Int32) (t_steps : Int32) (x3 : Int32) (x4 : Int32) (x5 : Int32), K18 t_row t_rowSize t_steps x3 x4 x5 → ∀ (H : Heap) (locs : List Loc) (ls : Array Slot), va_P (dC, dI) vwCl (pX11_countAll cy h t_kind t_exponent t_letters t_values t_fed t_at t_row t_rowSize t_steps t_foundMany t_keptMany t_keptLetters t_isFull t_isSaved t_savedKind t_savedExponent t_savedLetters) H → va_D A (pX11_countAll cy h t_kind t_exponent t_letters t_values t_fed t_at t_row t_rowSize t_steps t_foundMany t_keptMany t_keptLetters t_isFull t_isSaved t_savedKind t_savedExponent t_savedLetters) → va_S A s.heap H locs → lv_has ls 8 [(0, .ref (h 0)), (1, .int p1), (2, .int p2), (3, .int x3), (4, .int x4), (5, .int x5)] → W p l e rX11_countAll s m args below meth c H locs 0 0 (MQ below (va_Qi (fun (r : Int32) (u : (Nat → Int32) × Int32 × Int32) => post r u.1 u.2.1 u.2.2) (fun (u : (Nat → Int32) × Int32 × Int32) (t : State) => va_P (dC, dI) vwCl (pX11_countAll cy h t_kind t_exponent t_letters t_values t_fed t_at u.1 u.2.1 u.2.2 t_foundMany t_keptMany t_keptLetters t_isFull t_isSaved t_savedKind t_savedExponent t_savedLetters) t.heap) A) args s 0 0 A) (F0 m 18 ls [])) : ∀ (t_row : Nat → Int32) (t_rowSize : Int32) (t_steps : Int32) (x4 : Int32) (x5 : Int32) (x6 : Int32) (s0 : Int32) (s1 : Int32), VX11_countAll_60 post K18 t_kind t_exponent t_letters t_values p1 p2 t_row t_rowSize t_steps x4 x5 x6 s0 s1 → ∀ (H : Heap) (locs : List Loc) (ls : Array Slot), va_P (dC, dI) vwCl (pX11_countAll cy h t_kind t_exponent t_letters t_values t_fed t_at t_row t_rowSize t_steps t_foundMany t_keptMany t_keptLetters t_isFull t_isSaved t_savedKind t_savedExponent t_savedLetters) H → va_D A (pX11_countAll cy h t_kind t_exponent t_letters t_values t_fed t_at t_row t_rowSize t_steps t_foundMany t_keptMany t_keptLetters t_isFull t_isSaved t_savedKind t_savedExponent t_savedLetters) → va_S A s.heap H locs → lv_has ls 8 [(0, .ref (h 0)), (1, .int p1), (2, .int p2), (4, .int x4), (5, .int x5), (6, .int x6)] → W p l e rX11_countAll s m args below meth c H locs 0 0 (MQ below (va_Qi (fun (r : Int32) (u : (Nat → Int32) × Int32 × Int32) => post r u.1 u.2.1 u.2.2) (fun (u : (Nat → Int32) × Int32 × Int32) (t : State) => va_P (dC, dI) vwCl (pX11_countAll cy h t_kind t_exponent t_letters t_values t_fed t_at u.1 u.2.1 u.2.2 t_foundMany t_keptMany t_keptLetters t_isFull t_isSaved t_savedKind t_savedExponent t_savedLetters) t.heap) A) args s 0 0 A) (F0 m 60 ls [.int s0, .int s1]) := by
  have C1 := C0
  obtain ⟨hx, hb, hr, hml, hown, hts, hlocks, hK, hA⟩ := C1
  intro t_row t_rowSize t_steps x4 x5 x6 s0 s1 hv H locs ls hP hD hS hl
  refine lv_iadd hx hb dX11_countAll_60 ?_
  refine lv_istore_n (lv' := [(3, .int ((s1 + s0))), (0, .ref (h 0)), (1, .int p1), (2, .int p2), (4, .int x4), (5, .int x5), (6, .int x6)]) hx hb dX11_countAll_61 rfl hl (by decide) rfl (fun ls hl => ?_)
  refine lv_iload hx hb dX11_countAll_62 (lv_at hl 6 rfl) ?_
  refine lv_if_eq (tgt := 72) hx hb dX11_countAll_64 (by decide) (fun c_14 => ?_) (fun c_14 => ?_)
  · have hv := hv.1 c_14
    refine lv_aload_n hx hb dX11_countAll_72 rfl (lv_at hl 1 rfl) ?_
    refine lv_iload hx hb dX11_countAll_73 (lv_at hl 4 rfl) ?_
    refine lv_ldc hx hb hown (hts _ mX11_countAll_3) dX11_countAll_75 ?_
    refine cb_VI (As := [.int x4, .int 2147483647]) (rest := []) ⟨hx, hb, hml, hown, hts⟩ (kX11_goOn l dC dI cy (adl [h 0, h 1, h 2, h 3, h 4, h 5, h 6, h 7, h 8, h 9, h 10, h 11, h 12, h 13, h 14, h 15, h 16, h 17, h 18, h 19, h 20, h 21]) t_kind t_exponent t_letters t_values t_fed t_at t_row t_rowSize t_steps t_foundMany t_keptMany t_keptLetters t_isFull t_isSaved t_savedKind t_savedExponent t_savedLetters x4 2147483647 _ hv) (cwV 2 hts gX11_countAll_X11_goOn rfl rfl rfl zX11_goOn ⟨Nat.le_of_ble_eq_true rfl, Nat.le_of_ble_eq_true rfl⟩) hK hP hD hS hA [0, 1, 2] [some 0, some 1, some 2] rfl rfl rfl (ci := 11) rfl rfl (fun _ => rfl) rfl hl.1 rfl (Nat.le_of_ble_eq_true rfl) dX11_countAll_77 (fun r_9 w_13 H locs hv hP hD hS => ?_)
    obtain ⟨u_10, u_11, u_12⟩ := w_13
    have hP : va_P (dC, dI) vwCl (pX11_countAll cy h t_kind t_exponent t_letters t_values t_fed t_at u_10 u_11 u_12 t_foundMany t_keptMany t_keptLetters t_isFull t_isSaved t_savedKind t_savedExponent t_savedLetters) H := hP
    have hD : va_D A (pX11_countAll cy h t_kind t_exponent t_letters t_values t_fed t_at u_10 u_11 u_12 t_foundMany t_keptMany t_keptLetters t_isFull t_isSaved t_savedKind t_savedExponent t_savedLetters) := hD
    exact wX11_countAll_80 l h post K18  t_kind t_exponent t_letters t_values t_fed t_at t_foundMany t_keptMany t_keptLetters t_isFull t_isSaved t_savedKind t_savedExponent t_savedLetters p1 p2 C0 hK18 u_10 u_11 u_12 (s1 + s0) x5 r_9 hv _ _ _ hP hD hS (lv_sub hl [1, 2, 3, 0, 5] rfl)
  · have hv := hv.2 c_14
    refine lv_bipush (v := (-2)) hx hb dX11_countAll_67 (by decide) ?_
    refine lv_goto (tgt := 80) hx hb dX11_countAll_69 (by decide) ?_
    exact wX11_countAll_80 l h post K18  t_kind t_exponent t_letters t_values t_fed t_at t_foundMany t_keptMany t_keptLetters t_isFull t_isSaved t_savedKind t_savedExponent t_savedLetters p1 p2 C0 hK18 t_row t_rowSize t_steps (s1 + s0) x5 (-2) hv _ _ _ hP hD hS (lv_sub hl [1, 2, 3, 0, 5] rfl)
set_option maxHeartbeats 4000000 in
set_option maxRecDepth 100000 in
theorem wX11_countAll_36 {p : Program} (l : Launch) {e : Env} {s : State} {m : MethodId} {args : Array Value} {below : List Frame} {meth : Method} {c : Code} {dC : Nat → ClassId} {dI : Nat → Nat → Nat} {cy : Nat → ClassId} {A : Nat → Prop} (h : Nat → Nat) (post : Int32 → (Nat → Int32) → Int32 → Int32 → Prop) (K18 : (Nat → Int32) → Int32 → Int32 → Int32 → Int32 → Int32 → Prop)  (t_kind : Int32) (t_exponent : Int32) (t_letters : Int32) (t_values : Nat → Int32) (t_fed : Int32) (t_at : Int32) (t_foundMany : Int32) (t_keptMany : Int32) (t_keptLetters : Int32) (t_isFull : Int32) (t_isSaved : Int32) (t_savedKind : Int32) (t_savedExponent : Int32) (t_savedLetters : Int32) (p1 : Int32) (p2 : Int32) (C0 : cx p s m args meth c cX11_countAll 8 (some .int) wsX11_countAll RX11 dC dI cy A) (hK18 : ∀ (t_row : Nat → Int32) (t_rowSize : Int32) (t_steps : Int32) (x3 : Int32) (x4 : Int32) (x5 : Int32), K18 t_row t_rowSize t_steps x3 x4 x5 → ∀ (H : Heap) (locs : List Loc) (ls : Array Slot), va_P (dC, dI) vwCl (pX11_countAll cy h t_kind t_exponent t_letters t_values t_fed t_at t_row t_rowSize t_steps t_foundMany t_keptMany t_keptLetters t_isFull t_isSaved t_savedKind t_savedExponent t_savedLetters) H → va_D A (pX11_countAll cy h t_kind t_exponent t_letters t_values t_fed t_at t_row t_rowSize t_steps t_foundMany t_keptMany t_keptLetters t_isFull t_isSaved t_savedKind t_savedExponent t_savedLetters) → va_S A s.heap H locs → lv_has ls 8 [(0, .ref (h 0)), (1, .int p1), (2, .int p2), (3, .int x3), (4, .int x4), (5, .int x5)] → W p l e rX11_countAll s m args below meth c H locs 0 0 (MQ below (va_Qi (fun (r : Int32) (u : (Nat → Int32) × Int32 × Int32) => post r u.1 u.2.1 u.2.2) (fun (u : (Nat → Int32) × Int32 × Int32) (t : State) => va_P (dC, dI) vwCl (pX11_countAll cy h t_kind t_exponent t_letters t_values t_fed t_at u.1 u.2.1 u.2.2 t_foundMany t_keptMany t_keptLetters t_isFull t_isSaved t_savedKind t_savedExponent t_savedLetters) t.heap) A) args s 0 0 A) (F0 m 18 ls [])) : ∀ (t_row : Nat → Int32) (t_rowSize : Int32) (t_steps : Int32) (x3 : Int32) (x4 : Int32) (x5 : Int32) (s0 : Int32), VX11_countAll_36 post K18 t_kind t_exponent t_letters t_values p1 p2 t_row t_rowSize t_steps x3 x4 x5 s0 → ∀ (H : Heap) (locs : List Loc) (ls : Array Slot), va_P (dC, dI) vwCl (pX11_countAll cy h t_kind t_exponent t_letters t_values t_fed t_at t_row t_rowSize t_steps t_foundMany t_keptMany t_keptLetters t_isFull t_isSaved t_savedKind t_savedExponent t_savedLetters) H → va_D A (pX11_countAll cy h t_kind t_exponent t_letters t_values t_fed t_at t_row t_rowSize t_steps t_foundMany t_keptMany t_keptLetters t_isFull t_isSaved t_savedKind t_savedExponent t_savedLetters) → va_S A s.heap H locs → lv_has ls 8 [(0, .ref (h 0)), (1, .int p1), (2, .int p2), (3, .int x3), (4, .int x4), (5, .int x5)] → W p l e rX11_countAll s m args below meth c H locs 0 0 (MQ below (va_Qi (fun (r : Int32) (u : (Nat → Int32) × Int32 × Int32) => post r u.1 u.2.1 u.2.2) (fun (u : (Nat → Int32) × Int32 × Int32) (t : State) => va_P (dC, dI) vwCl (pX11_countAll cy h t_kind t_exponent t_letters t_values t_fed t_at u.1 u.2.1 u.2.2 t_foundMany t_keptMany t_keptLetters t_isFull t_isSaved t_savedKind t_savedExponent t_savedLetters) t.heap) A) args s 0 0 A) (F0 m 36 ls [.int s0]) := by
  have C1 := C0
  obtain ⟨hx, hb, hr, hml, hown, hts, hlocks, hK, hA⟩ := C1
  intro t_row t_rowSize t_steps x3 x4 x5 s0 hv H locs ls hP hD hS hl
  refine lv_istore (lv' := [(6, .int s0), (0, .ref (h 0)), (1, .int p1), (2, .int p2), (3, .int x3), (4, .int x4), (5, .int x5)]) hx hb dX11_countAll_36 hl (by decide) rfl (fun ls hl => ?_)
  refine lv_iload_n hx hb dX11_countAll_38 rfl (lv_at hl 4 rfl) ?_
  refine lv_iload hx hb dX11_countAll_39 (lv_at hl 0 rfl) ?_
  refine lv_if_eq (tgt := 59) hx hb dX11_countAll_41 (by decide) (fun c_8 => ?_) (fun c_8 => ?_)
  · have hv := hv.1 c_8
    refine lv_iconst (v := 0) hx hb dX11_countAll_59 (by decide) ?_
    exact wX11_countAll_60 l h post K18  t_kind t_exponent t_letters t_values t_fed t_at t_foundMany t_keptMany t_keptLetters t_isFull t_isSaved t_savedKind t_savedExponent t_savedLetters p1 p2 C0 hK18 t_row t_rowSize t_steps x4 x5 s0 0 x3 hv _ _ _ hP hD hS (lv_sub hl [1, 2, 3, 5, 6, 0] rfl)
  · have hv := hv.2 c_8
    refine lv_iload_n hx hb dX11_countAll_44 rfl (lv_at hl 3 rfl) ?_
    refine lv_if_eq (tgt := 55) hx hb dX11_countAll_45 (by decide) (fun c_7 => ?_) (fun c_7 => ?_)
    · have hv := hv.1 c_7
      refine lv_iconst (v := 1) hx hb dX11_countAll_55 (by decide) ?_
      refine lv_goto (tgt := 60) hx hb dX11_countAll_56 (by decide) ?_
      exact wX11_countAll_60 l h post K18  t_kind t_exponent t_letters t_values t_fed t_at t_foundMany t_keptMany t_keptLetters t_isFull t_isSaved t_savedKind t_savedExponent t_savedLetters p1 p2 C0 hK18 t_row t_rowSize t_steps x4 x5 s0 1 x3 hv _ _ _ hP hD hS (lv_sub hl [1, 2, 3, 5, 6, 0] rfl)
    · have hv := hv.2 c_7
      refine lv_aload_n hx hb dX11_countAll_48 rfl (lv_at hl 1 rfl) ?_
      refine cb_VI (As := []) (rest := [.int x3]) ⟨hx, hb, hml, hown, hts⟩ (kX11_isNormal l dC dI cy (adl [h 0, h 2, h 1, h 3, h 4, h 5, h 6, h 7, h 8, h 9, h 10, h 11, h 12, h 13, h 14, h 15, h 16, h 17, h 18, h 19, h 20, h 21]) t_kind t_exponent t_letters t_fed t_at t_row t_rowSize t_steps t_foundMany t_keptMany t_keptLetters t_isFull t_isSaved t_savedKind t_savedExponent t_savedLetters _ hv) (cwV 0 hts gX11_countAll_X11_isNormal rfl rfl rfl zX11_isNormal ⟨Nat.le_of_ble_eq_true rfl, Nat.le_of_ble_eq_true rfl⟩) hK hP hD hS hA [0, 2] [some 0, none, some 1] rfl rfl rfl (ci := 11) rfl rfl (fun _ => rfl) rfl hl.1 rfl (Nat.le_of_ble_eq_true rfl) dX11_countAll_49 (fun r_4 w_6 H locs hv hP hD hS => ?_)
      have hP : va_P (dC, dI) vwCl (pX11_countAll cy h t_kind t_exponent t_letters t_values t_fed t_at t_row t_rowSize t_steps t_foundMany t_keptMany t_keptLetters t_isFull t_isSaved t_savedKind t_savedExponent t_savedLetters) H := hP
      have hD : va_D A (pX11_countAll cy h t_kind t_exponent t_letters t_values t_fed t_at t_row t_rowSize t_steps t_foundMany t_keptMany t_keptLetters t_isFull t_isSaved t_savedKind t_savedExponent t_savedLetters) := hD
      refine lv_if_eq (tgt := 59) hx hb dX11_countAll_52 (by decide) (fun c_5 => ?_) (fun c_5 => ?_)
      · have hv := hv.1 c_5
        refine lv_iconst (v := 0) hx hb dX11_countAll_59 (by decide) ?_
        exact wX11_countAll_60 l h post K18  t_kind t_exponent t_letters t_values t_fed t_at t_foundMany t_keptMany t_keptLetters t_isFull t_isSaved t_savedKind t_savedExponent t_savedLetters p1 p2 C0 hK18 t_row t_rowSize t_steps x4 x5 s0 0 x3 hv _ _ _ hP hD hS (lv_sub hl [1, 2, 3, 5, 6, 0] rfl)
      · have hv := hv.2 c_5
        refine lv_iconst (v := 1) hx hb dX11_countAll_55 (by decide) ?_
        refine lv_goto (tgt := 60) hx hb dX11_countAll_56 (by decide) ?_
        exact wX11_countAll_60 l h post K18  t_kind t_exponent t_letters t_values t_fed t_at t_foundMany t_keptMany t_keptLetters t_isFull t_isSaved t_savedKind t_savedExponent t_savedLetters p1 p2 C0 hK18 t_row t_rowSize t_steps x4 x5 s0 1 x3 hv _ _ _ hP hD hS (lv_sub hl [1, 2, 3, 5, 6, 0] rfl)
set_option maxHeartbeats 4000000 in
set_option maxRecDepth 100000 in
theorem wX11_countAll_18 {p : Program} (l : Launch) {e : Env} {s : State} {m : MethodId} {args : Array Value} {below : List Frame} {meth : Method} {c : Code} {dC : Nat → ClassId} {dI : Nat → Nat → Nat} {cy : Nat → ClassId} {A : Nat → Prop} (h : Nat → Nat) (post : Int32 → (Nat → Int32) → Int32 → Int32 → Prop)   (t_kind : Int32) (t_exponent : Int32) (t_letters : Int32) (t_values : Nat → Int32) (t_fed : Int32) (t_at : Int32) (t_foundMany : Int32) (t_keptMany : Int32) (t_keptLetters : Int32) (t_isFull : Int32) (t_isSaved : Int32) (t_savedKind : Int32) (t_savedExponent : Int32) (t_savedLetters : Int32) (p1 : Int32) (p2 : Int32) (C0 : cx p s m args meth c cX11_countAll 8 (some .int) wsX11_countAll RX11 dC dI cy A)  : ∀ (n : Nat) (t_row : Nat → Int32) (t_rowSize : Int32) (t_steps : Int32) (x3 : Int32) (x4 : Int32) (x5 : Int32), VX11_countAll_18 post t_kind t_exponent t_letters t_values p1 p2 n t_row t_rowSize t_steps x3 x4 x5 → ∀ (H : Heap) (locs : List Loc) (ls : Array Slot), va_P (dC, dI) vwCl (pX11_countAll cy h t_kind t_exponent t_letters t_values t_fed t_at t_row t_rowSize t_steps t_foundMany t_keptMany t_keptLetters t_isFull t_isSaved t_savedKind t_savedExponent t_savedLetters) H → va_D A (pX11_countAll cy h t_kind t_exponent t_letters t_values t_fed t_at t_row t_rowSize t_steps t_foundMany t_keptMany t_keptLetters t_isFull t_isSaved t_savedKind t_savedExponent t_savedLetters) → va_S A s.heap H locs → lv_has ls 8 [(0, .ref (h 0)), (1, .int p1), (2, .int p2), (3, .int x3), (4, .int x4), (5, .int x5)] → W p l e rX11_countAll s m args below meth c H locs 0 0 (MQ below (va_Qi (fun (r : Int32) (u : (Nat → Int32) × Int32 × Int32) => post r u.1 u.2.1 u.2.2) (fun (u : (Nat → Int32) × Int32 × Int32) (t : State) => va_P (dC, dI) vwCl (pX11_countAll cy h t_kind t_exponent t_letters t_values t_fed t_at u.1 u.2.1 u.2.2 t_foundMany t_keptMany t_keptLetters t_isFull t_isSaved t_savedKind t_savedExponent t_savedLetters) t.heap) A) args s 0 0 A) (F0 m 18 ls []) := by
  have C1 := C0
  obtain ⟨hx, hb, hr, hml, hown, hts, hlocks, hK, hA⟩ := C1
  intro n
  induction n with
  | zero => intro t_row t_rowSize t_steps x3 x4 x5 hv; exact hv.elim
  | succ n ih =>
    intro t_row t_rowSize t_steps x3 x4 x5 hv H locs ls hP hD hS hl
    refine lv_iload hx hb dX11_countAll_18 (lv_at hl 5 rfl) ?_
    refine lv_if_eq (tgt := 141) hx hb dX11_countAll_20 (by decide) (fun c_3 => ?_) (fun c_3 => ?_)
    · have hv := hv.1 c_3
      refine lv_iload_n hx hb dX11_countAll_141 rfl (lv_at hl 3 rfl) ?_
      exact W.iret (v := x3) hx hb hr (fun t ht hW => ⟨⟨x3, (t_row, t_rowSize, t_steps), rfl, hv, va_Ph ht hP⟩, hS.F ht⟩) hS.2.2 dX11_countAll_142
    · have hv := hv.2 c_3
      refine lv_aload_n hx hb dX11_countAll_23 rfl (lv_at hl 0 rfl) ?_
      refine va_get (D := (dC, dI)) (ci := 11) (v := .int t_rowSize) (C := RX11) (T := TX11) (N := 36) hx hb hts nX11_countAll_X11 hown hK hP 0 rfl rfl 12 (by decide) (hts _ mX11_countAll_1) (fun _ h9 => h9) rfl dX11_countAll_24 ?_
      refine lv_iload_n hx hb dX11_countAll_27 rfl (lv_at hl 1 rfl) ?_
      refine lv_icmp_ne (tgt := 35) hx hb dX11_countAll_28 (by decide) (fun c_2 => ?_) (fun c_2 => ?_)
      · have hv := hv.1 c_2
        refine lv_iconst (v := 0) hx hb dX11_countAll_35 (by decide) ?_
        exact wX11_countAll_36 l h post (fun t_row t_rowSize t_steps x3 x4 x5 => VX11_countAll_18 post t_kind t_exponent t_letters t_values p1 p2 n t_row t_rowSize t_steps x3 x4 x5)  t_kind t_exponent t_letters t_values t_fed t_at t_foundMany t_keptMany t_keptLetters t_isFull t_isSaved t_savedKind t_savedExponent t_savedLetters p1 p2 C0 ih t_row t_rowSize t_steps x3 x4 x5 0 hv _ _ _ hP hD hS (lv_sub hl [0, 1, 2, 3, 4, 5] rfl)
      · have hv := hv.2 c_2
        refine lv_iconst (v := 1) hx hb dX11_countAll_31 (by decide) ?_
        refine lv_goto (tgt := 36) hx hb dX11_countAll_32 (by decide) ?_
        exact wX11_countAll_36 l h post (fun t_row t_rowSize t_steps x3 x4 x5 => VX11_countAll_18 post t_kind t_exponent t_letters t_values p1 p2 n t_row t_rowSize t_steps x3 x4 x5)  t_kind t_exponent t_letters t_values t_fed t_at t_foundMany t_keptMany t_keptLetters t_isFull t_isSaved t_savedKind t_savedExponent t_savedLetters p1 p2 C0 ih t_row t_rowSize t_steps x3 x4 x5 1 hv _ _ _ hP hD hS (lv_sub hl [0, 1, 2, 3, 4, 5] rfl)
set_option maxHeartbeats 4000000 in
set_option maxRecDepth 100000 in
theorem wX11_countAll_0 {p : Program} (l : Launch) {e : Env} {s : State} {m : MethodId} {args : Array Value} {below : List Frame} {meth : Method} {c : Code} {dC : Nat → ClassId} {dI : Nat → Nat → Nat} {cy : Nat → ClassId} {A : Nat → Prop} (h : Nat → Nat) (post : Int32 → (Nat → Int32) → Int32 → Int32 → Prop)   (t_kind : Int32) (t_exponent : Int32) (t_letters : Int32) (t_values : Nat → Int32) (t_fed : Int32) (t_at : Int32) (t_foundMany : Int32) (t_keptMany : Int32) (t_keptLetters : Int32) (t_isFull : Int32) (t_isSaved : Int32) (t_savedKind : Int32) (t_savedExponent : Int32) (t_savedLetters : Int32) (p1 : Int32) (p2 : Int32) (C0 : cx p s m args meth c cX11_countAll 8 (some .int) wsX11_countAll RX11 dC dI cy A)  : ∀ (t_row : Nat → Int32) (t_rowSize : Int32) (t_steps : Int32), VX11_countAll post t_kind t_exponent t_letters t_values p1 p2 t_row t_rowSize t_steps → ∀ (H : Heap) (locs : List Loc) (ls : Array Slot), va_P (dC, dI) vwCl (pX11_countAll cy h t_kind t_exponent t_letters t_values t_fed t_at t_row t_rowSize t_steps t_foundMany t_keptMany t_keptLetters t_isFull t_isSaved t_savedKind t_savedExponent t_savedLetters) H → va_D A (pX11_countAll cy h t_kind t_exponent t_letters t_values t_fed t_at t_row t_rowSize t_steps t_foundMany t_keptMany t_keptLetters t_isFull t_isSaved t_savedKind t_savedExponent t_savedLetters) → va_S A s.heap H locs → lv_has ls 8 [(0, .ref (h 0)), (1, .int p1), (2, .int p2)] → W p l e rX11_countAll s m args below meth c H locs 0 0 (MQ below (va_Qi (fun (r : Int32) (u : (Nat → Int32) × Int32 × Int32) => post r u.1 u.2.1 u.2.2) (fun (u : (Nat → Int32) × Int32 × Int32) (t : State) => va_P (dC, dI) vwCl (pX11_countAll cy h t_kind t_exponent t_letters t_values t_fed t_at u.1 u.2.1 u.2.2 t_foundMany t_keptMany t_keptLetters t_isFull t_isSaved t_savedKind t_savedExponent t_savedLetters) t.heap) A) args s 0 0 A) (F0 m 0 ls []) := by
  have C1 := C0
  obtain ⟨hx, hb, hr, hml, hown, hts, hlocks, hK, hA⟩ := C1
  intro t_row t_rowSize t_steps hv H locs ls hP hD hS hl
  refine lv_iconst (v := 0) hx hb dX11_countAll_0 (by decide) ?_
  refine lv_istore_n (lv' := [(3, .int 0), (0, .ref (h 0)), (1, .int p1), (2, .int p2)]) hx hb dX11_countAll_1 rfl hl (by decide) rfl (fun ls hl => ?_)
  refine lv_aload_n hx hb dX11_countAll_2 rfl (lv_at hl 1 rfl) ?_
  refine lv_iconst (v := 0) hx hb dX11_countAll_3 (by decide) ?_
  refine va_put (D := (dC, dI)) (ci := 11) (v := .int 0) (ty := .int) (C := RX11) (T := TX11) (N := 36) hx hb hts nX11_countAll_X11 tyX11 tyX11_ok nmX11 hown hK hP hD hS 0 rfl rfl 12 (by decide) (hts _ mX11_countAll_1) (fun _ h9 => h9) rfl (by decide +kernel) rfl rfl (Nat.le_of_ble_eq_true rfl) dX11_countAll_4 (fun H locs hP hD hS => ?_)
  have hP : va_P (dC, dI) vwCl (pX11_countAll cy h t_kind t_exponent t_letters t_values t_fed t_at t_row 0 t_steps t_foundMany t_keptMany t_keptLetters t_isFull t_isSaved t_savedKind t_savedExponent t_savedLetters) H := hP
  have hD : va_D A (pX11_countAll cy h t_kind t_exponent t_letters t_values t_fed t_at t_row 0 t_steps t_foundMany t_keptMany t_keptLetters t_isFull t_isSaved t_savedKind t_savedExponent t_savedLetters) := hD
  refine lv_aload_n hx hb dX11_countAll_7 rfl (lv_at hl 1 rfl) ?_
  refine lv_iconst (v := 0) hx hb dX11_countAll_8 (by decide) ?_
  refine va_put (D := (dC, dI)) (ci := 11) (v := .int 0) (ty := .int) (C := RX11) (T := TX11) (N := 36) hx hb hts nX11_countAll_X11 tyX11 tyX11_ok nmX11 hown hK hP hD hS 0 rfl rfl 13 (by decide) (hts _ mX11_countAll_2) (fun _ h9 => h9) rfl (by decide +kernel) rfl rfl (Nat.le_of_ble_eq_true rfl) dX11_countAll_9 (fun H locs hP hD hS => ?_)
  have hP : va_P (dC, dI) vwCl (pX11_countAll cy h t_kind t_exponent t_letters t_values t_fed t_at t_row 0 0 t_foundMany t_keptMany t_keptLetters t_isFull t_isSaved t_savedKind t_savedExponent t_savedLetters) H := hP
  have hD : va_D A (pX11_countAll cy h t_kind t_exponent t_letters t_values t_fed t_at t_row 0 0 t_foundMany t_keptMany t_keptLetters t_isFull t_isSaved t_savedKind t_savedExponent t_savedLetters) := hD
  refine lv_iconst (v := 0) hx hb dX11_countAll_12 (by decide) ?_
  refine lv_istore (lv' := [(4, .int 0), (3, .int 0), (0, .ref (h 0)), (1, .int p1), (2, .int p2)]) hx hb dX11_countAll_13 hl (by decide) rfl (fun ls hl => ?_)
  refine lv_iconst (v := 1) hx hb dX11_countAll_15 (by decide) ?_
  refine lv_istore (lv' := [(5, .int 1), (4, .int 0), (3, .int 0), (0, .ref (h 0)), (1, .int p1), (2, .int p2)]) hx hb dX11_countAll_16 hl (by decide) rfl (fun ls hl => ?_)
  obtain ⟨n_1, hv⟩ := hv
  exact wX11_countAll_18 l h post  t_kind t_exponent t_letters t_values t_fed t_at t_foundMany t_keptMany t_keptLetters t_isFull t_isSaved t_savedKind t_savedExponent t_savedLetters p1 p2 C0 n_1 t_row 0 0 0 0 1 hv _ _ _ hP hD hS (lv_sub hl [3, 4, 5, 2, 1, 0] rfl)
theorem kX11_countAll (l : Launch) (dC : Nat → ClassId) (dI : Nat → Nat → Nat) (cy : Nat → ClassId) (h : Nat → Nat) (t_kind : Int32) (t_exponent : Int32) (t_letters : Int32) (t_values : Nat → Int32) (t_fed : Int32) (t_at : Int32) (t_row : Nat → Int32) (t_rowSize : Int32) (t_steps : Int32) (t_foundMany : Int32) (t_keptMany : Int32) (t_keptLetters : Int32) (t_isFull : Int32) (t_isSaved : Int32) (t_savedKind : Int32) (t_savedExponent : Int32) (t_savedLetters : Int32) (p1 : Int32) (p2 : Int32) (post : Int32 → (Nat → Int32) → Int32 → Int32 → Prop) (hv : VX11_countAll post t_kind t_exponent t_letters t_values p1 p2 t_row t_rowSize t_steps) : CtI l yX11_countAll wsX11_countAll rX11_countAll dC dI cy [.ref (h 0), .int p1, .int p2] (pX11_countAll cy h t_kind t_exponent t_letters t_values t_fed t_at t_row t_rowSize t_steps t_foundMany t_keptMany t_keptLetters t_isFull t_isSaved t_savedKind t_savedExponent t_savedLetters) (fun (u : (Nat → Int32) × Int32 × Int32) => pX11_countAll cy h t_kind t_exponent t_letters t_values t_fed t_at u.1 u.2.1 u.2.2 t_foundMany t_keptMany t_keptLetters t_isFull t_isSaved t_savedKind t_savedExponent t_savedLetters) (fun (r : Int32) (u : (Nat → Int32) × Int32 × Int32) => post r u.1 u.2.1 u.2.2) :=
  ct_ofI (by decide) rfl (Nat.le_of_ble_eq_true rfl) (fun p e s m below meth c A ls C0 hP hD hS hl => wX11_countAll_0 l h post t_kind t_exponent t_letters t_values t_fed t_at t_foundMany t_keptMany t_keptLetters t_isFull t_isSaved t_savedKind t_savedExponent t_savedLetters p1 p2 C0 t_row t_rowSize t_steps hv _ _ _ hP hD hS hl)
theorem zX11_countFree : yX11_countFree.cls = RX11 ∧ yX11_countFree.cls ≠ "java/lang/invoke/MethodHandle" ∧ yX11_countFree.cls ≠ "java/lang/invoke/VarHandle" ∧ (parseMethodDescriptor yX11_countFree.desc).map (fun d => d.parameters.length) = some 1 := by decide +kernel
abbrev rX11_countFree : Room := { frames := 8, cells := 0, slots := 0, locals := 192 }
abbrev pX11_countFree (cy : Nat → ClassId) (h : Nat → Nat) (t_kind : Int32) (t_exponent : Int32) (t_letters : Int32) (t_values : Nat → Int32) (t_fed : Int32) (t_at : Int32) (t_row : Nat → Int32) (t_rowSize : Int32) (t_steps : Int32) (t_foundMany : Int32) (t_keptMany : Int32) (t_keptLetters : Int32) (t_isFull : Int32) (t_isSaved : Int32) (t_savedKind : Int32) (t_savedExponent : Int32) (t_savedLetters : Int32) : va_W := [(h 0, .inr (11, [.int t_kind, .int t_exponent, .int t_letters, .ref (h 1), .ref (h 3), .ref (h 4), .ref (h 5), .ref (h 6), .ref (h 7), .int t_fed, .int t_at, .ref (h 2), .int t_rowSize, .int t_steps, .ref (h 8), .int t_foundMany, .ref (h 9), .int t_keptMany, .int t_keptLetters, .ref (h 10), .ref (h 11), .ref (h 12), .ref (h 13), .ref (h 14), .int t_isFull, .ref (h 15), .ref (h 16), .int t_isSaved, .int t_savedKind, .int t_savedExponent, .int t_savedLetters, .ref (h 17), .ref (h 18), .ref (h 19), .ref (h 20), .ref (h 21)])), (h 1, .inl (cy 0, 4, .inl t_values)), (h 2, .inl (cy 0, 45, .inl t_row))]
def VX11_countFree (post : Int32 → (Nat → Int32) → Int32 → Int32 → Prop)  (t_kind : Int32) (t_exponent : Int32) (t_letters : Int32) (t_values : Nat → Int32) (p1 : Int32) (t_row : Nat → Int32) (t_rowSize : Int32) (t_steps : Int32) : Prop := VX11_isIn (fun r_1 => ((r_1 = 0) → post (-1 : Int32) t_row t_rowSize t_steps) ∧ (¬ (r_1 = 0) → VX11_countAll (fun r_2 u_3 u_4 u_5 => post r_2 u_3 u_4 u_5) t_kind t_exponent t_letters t_values p1 0 t_row t_rowSize t_steps)) p1 0 8
set_option maxHeartbeats 4000000 in
set_option maxRecDepth 100000 in
theorem wX11_countFree_0 {p : Program} (l : Launch) {e : Env} {s : State} {m : MethodId} {args : Array Value} {below : List Frame} {meth : Method} {c : Code} {dC : Nat → ClassId} {dI : Nat → Nat → Nat} {cy : Nat → ClassId} {A : Nat → Prop} (h : Nat → Nat) (post : Int32 → (Nat → Int32) → Int32 → Int32 → Prop)   (t_kind : Int32) (t_exponent : Int32) (t_letters : Int32) (t_values : Nat → Int32) (t_fed : Int32) (t_at : Int32) (t_foundMany : Int32) (t_keptMany : Int32) (t_keptLetters : Int32) (t_isFull : Int32) (t_isSaved : Int32) (t_savedKind : Int32) (t_savedExponent : Int32) (t_savedLetters : Int32) (p1 : Int32) (C0 : cx p s m args meth c cX11_countFree 2 (some .int) wsX11_countFree RX11 dC dI cy A)  : ∀ (t_row : Nat → Int32) (t_rowSize : Int32) (t_steps : Int32), VX11_countFree post t_kind t_exponent t_letters t_values p1 t_row t_rowSize t_steps → ∀ (H : Heap) (locs : List Loc) (ls : Array Slot), va_P (dC, dI) vwCl (pX11_countFree cy h t_kind t_exponent t_letters t_values t_fed t_at t_row t_rowSize t_steps t_foundMany t_keptMany t_keptLetters t_isFull t_isSaved t_savedKind t_savedExponent t_savedLetters) H → va_D A (pX11_countFree cy h t_kind t_exponent t_letters t_values t_fed t_at t_row t_rowSize t_steps t_foundMany t_keptMany t_keptLetters t_isFull t_isSaved t_savedKind t_savedExponent t_savedLetters) → va_S A s.heap H locs → lv_has ls 2 [(0, .ref (h 0)), (1, .int p1)] → W p l e rX11_countFree s m args below meth c H locs 0 0 (MQ below (va_Qi (fun (r : Int32) (u : (Nat → Int32) × Int32 × Int32) => post r u.1 u.2.1 u.2.2) (fun (u : (Nat → Int32) × Int32 × Int32) (t : State) => va_P (dC, dI) vwCl (pX11_countFree cy h t_kind t_exponent t_letters t_values t_fed t_at u.1 u.2.1 u.2.2 t_foundMany t_keptMany t_keptLetters t_isFull t_isSaved t_savedKind t_savedExponent t_savedLetters) t.heap) A) args s 0 0 A) (F0 m 0 ls []) := by
  have C1 := C0
  obtain ⟨hx, hb, hr, hml, hown, hts, hlocks, hK, hA⟩ := C1
  intro t_row t_rowSize t_steps hv H locs ls hP hD hS hl
  refine lv_iload_n hx hb dX11_countFree_0 rfl (lv_at hl 1 rfl) ?_
  refine lv_iconst (v := 0) hx hb dX11_countFree_1 (by decide) ?_
  refine lv_bipush (v := 8) hx hb dX11_countFree_2 (by decide) ?_
  refine cb_SI (As := [.int p1, .int 0, .int 8]) (rest := []) ⟨hx, hb, hml, hown, hts⟩ (kX11_isIn l dC dI cy (adl []) p1 0 8 _ hv) (va_cwS 3 hts gX11_countFree_X11_isIn rfl rfl rfl zX11_isIn ⟨Nat.le_of_ble_eq_true rfl, Nat.le_of_ble_eq_true rfl⟩) hK hP hD hS hA [] [none, none, none] rfl rfl rfl (fun _ => rfl) rfl hl.1 rfl (Nat.le_of_ble_eq_true rfl) dX11_countFree_4 (fun r_1 w_8 H locs hv hP hD hS => ?_)
  have hP : va_P (dC, dI) vwCl (pX11_countFree cy h t_kind t_exponent t_letters t_values t_fed t_at t_row t_rowSize t_steps t_foundMany t_keptMany t_keptLetters t_isFull t_isSaved t_savedKind t_savedExponent t_savedLetters) H := hP
  have hD : va_D A (pX11_countFree cy h t_kind t_exponent t_letters t_values t_fed t_at t_row t_rowSize t_steps t_foundMany t_keptMany t_keptLetters t_isFull t_isSaved t_savedKind t_savedExponent t_savedLetters) := hD
  refine lv_if_eq (tgt := 19) hx hb dX11_countFree_7 (by decide) (fun c_7 => ?_) (fun c_7 => ?_)
  · have hv := hv.1 c_7
    refine lv_iconst (v := (-1)) hx hb dX11_countFree_19 (by decide) ?_
    exact W.iret (v := (-1)) hx hb hr (fun t ht hW => ⟨⟨(-1), (t_row, t_rowSize, t_steps), rfl, hv, va_Ph ht hP⟩, hS.F ht⟩) hS.2.2 dX11_countFree_20
  · have hv := hv.2 c_7
    refine lv_aload_n hx hb dX11_countFree_10 rfl (lv_at hl 0 rfl) ?_
    refine lv_iload_n hx hb dX11_countFree_11 rfl (lv_at hl 1 rfl) ?_
    refine lv_iconst (v := 0) hx hb dX11_countFree_12 (by decide) ?_
    refine cb_VI (As := [.int p1, .int 0]) (rest := []) ⟨hx, hb, hml, hown, hts⟩ (kX11_countAll l dC dI cy (adl [h 0, h 1, h 2, h 3, h 4, h 5, h 6, h 7, h 8, h 9, h 10, h 11, h 12, h 13, h 14, h 15, h 16, h 17, h 18, h 19, h 20, h 21]) t_kind t_exponent t_letters t_values t_fed t_at t_row t_rowSize t_steps t_foundMany t_keptMany t_keptLetters t_isFull t_isSaved t_savedKind t_savedExponent t_savedLetters p1 0 _ hv) (cwV 2 hts gX11_countFree_X11_countAll rfl rfl rfl zX11_countAll ⟨Nat.le_of_ble_eq_true rfl, Nat.le_of_ble_eq_true rfl⟩) hK hP hD hS hA [0, 1, 2] [some 0, some 1, some 2] rfl rfl rfl (ci := 11) rfl rfl (fun _ => rfl) rfl hl.1 rfl (Nat.le_of_ble_eq_true rfl) dX11_countFree_13 (fun r_2 w_6 H locs hv hP hD hS => ?_)
    obtain ⟨u_3, u_4, u_5⟩ := w_6
    have hP : va_P (dC, dI) vwCl (pX11_countFree cy h t_kind t_exponent t_letters t_values t_fed t_at u_3 u_4 u_5 t_foundMany t_keptMany t_keptLetters t_isFull t_isSaved t_savedKind t_savedExponent t_savedLetters) H := hP
    have hD : va_D A (pX11_countFree cy h t_kind t_exponent t_letters t_values t_fed t_at u_3 u_4 u_5 t_foundMany t_keptMany t_keptLetters t_isFull t_isSaved t_savedKind t_savedExponent t_savedLetters) := hD
    refine lv_goto (tgt := 20) hx hb dX11_countFree_16 (by decide) ?_
    exact W.iret (v := r_2) hx hb hr (fun t ht hW => ⟨⟨r_2, (u_3, u_4, u_5), rfl, hv, va_Ph ht hP⟩, hS.F ht⟩) hS.2.2 dX11_countFree_20
theorem kX11_countFree (l : Launch) (dC : Nat → ClassId) (dI : Nat → Nat → Nat) (cy : Nat → ClassId) (h : Nat → Nat) (t_kind : Int32) (t_exponent : Int32) (t_letters : Int32) (t_values : Nat → Int32) (t_fed : Int32) (t_at : Int32) (t_row : Nat → Int32) (t_rowSize : Int32) (t_steps : Int32) (t_foundMany : Int32) (t_keptMany : Int32) (t_keptLetters : Int32) (t_isFull : Int32) (t_isSaved : Int32) (t_savedKind : Int32) (t_savedExponent : Int32) (t_savedLetters : Int32) (p1 : Int32) (post : Int32 → (Nat → Int32) → Int32 → Int32 → Prop) (hv : VX11_countFree post t_kind t_exponent t_letters t_values p1 t_row t_rowSize t_steps) : CtI l yX11_countFree wsX11_countFree rX11_countFree dC dI cy [.ref (h 0), .int p1] (pX11_countFree cy h t_kind t_exponent t_letters t_values t_fed t_at t_row t_rowSize t_steps t_foundMany t_keptMany t_keptLetters t_isFull t_isSaved t_savedKind t_savedExponent t_savedLetters) (fun (u : (Nat → Int32) × Int32 × Int32) => pX11_countFree cy h t_kind t_exponent t_letters t_values t_fed t_at u.1 u.2.1 u.2.2 t_foundMany t_keptMany t_keptLetters t_isFull t_isSaved t_savedKind t_savedExponent t_savedLetters) (fun (r : Int32) (u : (Nat → Int32) × Int32 × Int32) => post r u.1 u.2.1 u.2.2) :=
  ct_ofI (by decide) rfl (Nat.le_of_ble_eq_true rfl) (fun p e s m below meth c A ls C0 hP hD hS hl => wX11_countFree_0 l h post t_kind t_exponent t_letters t_values t_fed t_at t_foundMany t_keptMany t_keptLetters t_isFull t_isSaved t_savedKind t_savedExponent t_savedLetters p1 C0 t_row t_rowSize t_steps hv _ _ _ hP hD hS hl)
theorem zX11_countNormal : yX11_countNormal.cls = RX11 ∧ yX11_countNormal.cls ≠ "java/lang/invoke/MethodHandle" ∧ yX11_countNormal.cls ≠ "java/lang/invoke/VarHandle" ∧ (parseMethodDescriptor yX11_countNormal.desc).map (fun d => d.parameters.length) = some 1 := by decide +kernel
abbrev rX11_countNormal : Room := { frames := 8, cells := 0, slots := 0, locals := 192 }
abbrev pX11_countNormal (cy : Nat → ClassId) (h : Nat → Nat) (t_kind : Int32) (t_exponent : Int32) (t_letters : Int32) (t_values : Nat → Int32) (t_fed : Int32) (t_at : Int32) (t_row : Nat → Int32) (t_rowSize : Int32) (t_steps : Int32) (t_foundMany : Int32) (t_keptMany : Int32) (t_keptLetters : Int32) (t_isFull : Int32) (t_isSaved : Int32) (t_savedKind : Int32) (t_savedExponent : Int32) (t_savedLetters : Int32) : va_W := [(h 0, .inr (11, [.int t_kind, .int t_exponent, .int t_letters, .ref (h 1), .ref (h 3), .ref (h 4), .ref (h 5), .ref (h 6), .ref (h 7), .int t_fed, .int t_at, .ref (h 2), .int t_rowSize, .int t_steps, .ref (h 8), .int t_foundMany, .ref (h 9), .int t_keptMany, .int t_keptLetters, .ref (h 10), .ref (h 11), .ref (h 12), .ref (h 13), .ref (h 14), .int t_isFull, .ref (h 15), .ref (h 16), .int t_isSaved, .int t_savedKind, .int t_savedExponent, .int t_savedLetters, .ref (h 17), .ref (h 18), .ref (h 19), .ref (h 20), .ref (h 21)])), (h 1, .inl (cy 0, 4, .inl t_values)), (h 2, .inl (cy 0, 45, .inl t_row))]
def VX11_countNormal (post : Int32 → (Nat → Int32) → Int32 → Int32 → Prop)  (t_kind : Int32) (t_exponent : Int32) (t_letters : Int32) (t_values : Nat → Int32) (p1 : Int32) (t_row : Nat → Int32) (t_rowSize : Int32) (t_steps : Int32) : Prop := VX11_isIn (fun r_1 => ((r_1 = 0) → post (-1 : Int32) t_row t_rowSize t_steps) ∧ (¬ (r_1 = 0) → VX11_countAll (fun r_2 u_3 u_4 u_5 => post r_2 u_3 u_4 u_5) t_kind t_exponent t_letters t_values p1 1 t_row t_rowSize t_steps)) p1 0 8
set_option maxHeartbeats 4000000 in
set_option maxRecDepth 100000 in
theorem wX11_countNormal_0 {p : Program} (l : Launch) {e : Env} {s : State} {m : MethodId} {args : Array Value} {below : List Frame} {meth : Method} {c : Code} {dC : Nat → ClassId} {dI : Nat → Nat → Nat} {cy : Nat → ClassId} {A : Nat → Prop} (h : Nat → Nat) (post : Int32 → (Nat → Int32) → Int32 → Int32 → Prop)   (t_kind : Int32) (t_exponent : Int32) (t_letters : Int32) (t_values : Nat → Int32) (t_fed : Int32) (t_at : Int32) (t_foundMany : Int32) (t_keptMany : Int32) (t_keptLetters : Int32) (t_isFull : Int32) (t_isSaved : Int32) (t_savedKind : Int32) (t_savedExponent : Int32) (t_savedLetters : Int32) (p1 : Int32) (C0 : cx p s m args meth c cX11_countNormal 2 (some .int) wsX11_countNormal RX11 dC dI cy A)  : ∀ (t_row : Nat → Int32) (t_rowSize : Int32) (t_steps : Int32), VX11_countNormal post t_kind t_exponent t_letters t_values p1 t_row t_rowSize t_steps → ∀ (H : Heap) (locs : List Loc) (ls : Array Slot), va_P (dC, dI) vwCl (pX11_countNormal cy h t_kind t_exponent t_letters t_values t_fed t_at t_row t_rowSize t_steps t_foundMany t_keptMany t_keptLetters t_isFull t_isSaved t_savedKind t_savedExponent t_savedLetters) H → va_D A (pX11_countNormal cy h t_kind t_exponent t_letters t_values t_fed t_at t_row t_rowSize t_steps t_foundMany t_keptMany t_keptLetters t_isFull t_isSaved t_savedKind t_savedExponent t_savedLetters) → va_S A s.heap H locs → lv_has ls 2 [(0, .ref (h 0)), (1, .int p1)] → W p l e rX11_countNormal s m args below meth c H locs 0 0 (MQ below (va_Qi (fun (r : Int32) (u : (Nat → Int32) × Int32 × Int32) => post r u.1 u.2.1 u.2.2) (fun (u : (Nat → Int32) × Int32 × Int32) (t : State) => va_P (dC, dI) vwCl (pX11_countNormal cy h t_kind t_exponent t_letters t_values t_fed t_at u.1 u.2.1 u.2.2 t_foundMany t_keptMany t_keptLetters t_isFull t_isSaved t_savedKind t_savedExponent t_savedLetters) t.heap) A) args s 0 0 A) (F0 m 0 ls []) := by
  have C1 := C0
  obtain ⟨hx, hb, hr, hml, hown, hts, hlocks, hK, hA⟩ := C1
  intro t_row t_rowSize t_steps hv H locs ls hP hD hS hl
  refine lv_iload_n hx hb dX11_countNormal_0 rfl (lv_at hl 1 rfl) ?_
  refine lv_iconst (v := 0) hx hb dX11_countNormal_1 (by decide) ?_
  refine lv_bipush (v := 8) hx hb dX11_countNormal_2 (by decide) ?_
  refine cb_SI (As := [.int p1, .int 0, .int 8]) (rest := []) ⟨hx, hb, hml, hown, hts⟩ (kX11_isIn l dC dI cy (adl []) p1 0 8 _ hv) (va_cwS 3 hts gX11_countNormal_X11_isIn rfl rfl rfl zX11_isIn ⟨Nat.le_of_ble_eq_true rfl, Nat.le_of_ble_eq_true rfl⟩) hK hP hD hS hA [] [none, none, none] rfl rfl rfl (fun _ => rfl) rfl hl.1 rfl (Nat.le_of_ble_eq_true rfl) dX11_countNormal_4 (fun r_1 w_8 H locs hv hP hD hS => ?_)
  have hP : va_P (dC, dI) vwCl (pX11_countNormal cy h t_kind t_exponent t_letters t_values t_fed t_at t_row t_rowSize t_steps t_foundMany t_keptMany t_keptLetters t_isFull t_isSaved t_savedKind t_savedExponent t_savedLetters) H := hP
  have hD : va_D A (pX11_countNormal cy h t_kind t_exponent t_letters t_values t_fed t_at t_row t_rowSize t_steps t_foundMany t_keptMany t_keptLetters t_isFull t_isSaved t_savedKind t_savedExponent t_savedLetters) := hD
  refine lv_if_eq (tgt := 19) hx hb dX11_countNormal_7 (by decide) (fun c_7 => ?_) (fun c_7 => ?_)
  · have hv := hv.1 c_7
    refine lv_iconst (v := (-1)) hx hb dX11_countNormal_19 (by decide) ?_
    exact W.iret (v := (-1)) hx hb hr (fun t ht hW => ⟨⟨(-1), (t_row, t_rowSize, t_steps), rfl, hv, va_Ph ht hP⟩, hS.F ht⟩) hS.2.2 dX11_countNormal_20
  · have hv := hv.2 c_7
    refine lv_aload_n hx hb dX11_countNormal_10 rfl (lv_at hl 0 rfl) ?_
    refine lv_iload_n hx hb dX11_countNormal_11 rfl (lv_at hl 1 rfl) ?_
    refine lv_iconst (v := 1) hx hb dX11_countNormal_12 (by decide) ?_
    refine cb_VI (As := [.int p1, .int 1]) (rest := []) ⟨hx, hb, hml, hown, hts⟩ (kX11_countAll l dC dI cy (adl [h 0, h 1, h 2, h 3, h 4, h 5, h 6, h 7, h 8, h 9, h 10, h 11, h 12, h 13, h 14, h 15, h 16, h 17, h 18, h 19, h 20, h 21]) t_kind t_exponent t_letters t_values t_fed t_at t_row t_rowSize t_steps t_foundMany t_keptMany t_keptLetters t_isFull t_isSaved t_savedKind t_savedExponent t_savedLetters p1 1 _ hv) (cwV 2 hts gX11_countNormal_X11_countAll rfl rfl rfl zX11_countAll ⟨Nat.le_of_ble_eq_true rfl, Nat.le_of_ble_eq_true rfl⟩) hK hP hD hS hA [0, 1, 2] [some 0, some 1, some 2] rfl rfl rfl (ci := 11) rfl rfl (fun _ => rfl) rfl hl.1 rfl (Nat.le_of_ble_eq_true rfl) dX11_countNormal_13 (fun r_2 w_6 H locs hv hP hD hS => ?_)
    obtain ⟨u_3, u_4, u_5⟩ := w_6
    have hP : va_P (dC, dI) vwCl (pX11_countNormal cy h t_kind t_exponent t_letters t_values t_fed t_at u_3 u_4 u_5 t_foundMany t_keptMany t_keptLetters t_isFull t_isSaved t_savedKind t_savedExponent t_savedLetters) H := hP
    have hD : va_D A (pX11_countNormal cy h t_kind t_exponent t_letters t_values t_fed t_at u_3 u_4 u_5 t_foundMany t_keptMany t_keptLetters t_isFull t_isSaved t_savedKind t_savedExponent t_savedLetters) := hD
    refine lv_goto (tgt := 20) hx hb dX11_countNormal_16 (by decide) ?_
    exact W.iret (v := r_2) hx hb hr (fun t ht hW => ⟨⟨r_2, (u_3, u_4, u_5), rfl, hv, va_Ph ht hP⟩, hS.F ht⟩) hS.2.2 dX11_countNormal_20
theorem kX11_countNormal (l : Launch) (dC : Nat → ClassId) (dI : Nat → Nat → Nat) (cy : Nat → ClassId) (h : Nat → Nat) (t_kind : Int32) (t_exponent : Int32) (t_letters : Int32) (t_values : Nat → Int32) (t_fed : Int32) (t_at : Int32) (t_row : Nat → Int32) (t_rowSize : Int32) (t_steps : Int32) (t_foundMany : Int32) (t_keptMany : Int32) (t_keptLetters : Int32) (t_isFull : Int32) (t_isSaved : Int32) (t_savedKind : Int32) (t_savedExponent : Int32) (t_savedLetters : Int32) (p1 : Int32) (post : Int32 → (Nat → Int32) → Int32 → Int32 → Prop) (hv : VX11_countNormal post t_kind t_exponent t_letters t_values p1 t_row t_rowSize t_steps) : CtI l yX11_countNormal wsX11_countNormal rX11_countNormal dC dI cy [.ref (h 0), .int p1] (pX11_countNormal cy h t_kind t_exponent t_letters t_values t_fed t_at t_row t_rowSize t_steps t_foundMany t_keptMany t_keptLetters t_isFull t_isSaved t_savedKind t_savedExponent t_savedLetters) (fun (u : (Nat → Int32) × Int32 × Int32) => pX11_countNormal cy h t_kind t_exponent t_letters t_values t_fed t_at u.1 u.2.1 u.2.2 t_foundMany t_keptMany t_keptLetters t_isFull t_isSaved t_savedKind t_savedExponent t_savedLetters) (fun (r : Int32) (u : (Nat → Int32) × Int32 × Int32) => post r u.1 u.2.1 u.2.2) :=
  ct_ofI (by decide) rfl (Nat.le_of_ble_eq_true rfl) (fun p e s m below meth c A ls C0 hP hD hS hl => wX11_countNormal_0 l h post t_kind t_exponent t_letters t_values t_fed t_at t_foundMany t_keptMany t_keptLetters t_isFull t_isSaved t_savedKind t_savedExponent t_savedLetters p1 C0 t_row t_rowSize t_steps hv _ _ _ hP hD hS hl)
theorem mX11_longestFree_1 : (Cond.fieldLink RX11 118 "AbelianPowersModel" "rowSize" "I") ∈ wsX11_longestFree := List.mem_of_getElem? (i := 1) rfl
theorem mX11_longestFree_2 : (Cond.fieldLink RX11 161 "AbelianPowersModel" "steps" "I") ∈ wsX11_longestFree := List.mem_of_getElem? (i := 2) rfl
theorem mX11_longestFree_7 : (Cond.fieldLink RX11 38 "AbelianPowersModel" "row" "[I") ∈ wsX11_longestFree := List.mem_of_getElem? (i := 7) rfl
theorem mX11_longestFree_3 : (Cond.methodLink RX11 99 Lib.Math.max.name) ∈ wsX11_longestFree := List.mem_of_getElem? (i := 3) rfl
theorem mX11_longestFree_4 : (Cond.static Lib.Math.max.name) ∈ wsX11_longestFree := List.mem_of_getElem? (i := 4) rfl
theorem mX11_longestFree_5 : (Cond.initialized "java/lang/Math") ∈ wsX11_longestFree := List.mem_of_getElem? (i := 5) rfl
theorem mX11_longestFree_6 : (Cond.code Lib.Math.max.name Lib.Math.max.code 2 (some .int)) ∈ wsX11_longestFree := List.mem_of_getElem? (i := 6) rfl
theorem nX11_longestFree_X11 : ∀ w ∈ wsX110, w ∈ wsX11_longestFree := fun _ h => List.mem_cons_of_mem _ (List.mem_append_right _ h)
theorem zX11_longestFree : yX11_longestFree.cls = RX11 ∧ yX11_longestFree.cls ≠ "java/lang/invoke/MethodHandle" ∧ yX11_longestFree.cls ≠ "java/lang/invoke/VarHandle" ∧ (parseMethodDescriptor yX11_longestFree.desc).map (fun d => d.parameters.length) = some 0 := by decide +kernel
abbrev rX11_longestFree : Room := { frames := 7, cells := 0, slots := 0, locals := 165 }
abbrev pX11_longestFree (cy : Nat → ClassId) (h : Nat → Nat) (t_kind : Int32) (t_exponent : Int32) (t_letters : Int32) (t_values : Nat → Int32) (t_fed : Int32) (t_at : Int32) (t_row : Nat → Int32) (t_rowSize : Int32) (t_steps : Int32) (t_foundMany : Int32) (t_keptMany : Int32) (t_keptLetters : Int32) (t_isFull : Int32) (t_isSaved : Int32) (t_savedKind : Int32) (t_savedExponent : Int32) (t_savedLetters : Int32) : va_W := [(h 0, .inr (11, [.int t_kind, .int t_exponent, .int t_letters, .ref (h 1), .ref (h 3), .ref (h 4), .ref (h 5), .ref (h 6), .ref (h 7), .int t_fed, .int t_at, .ref (h 2), .int t_rowSize, .int t_steps, .ref (h 8), .int t_foundMany, .ref (h 9), .int t_keptMany, .int t_keptLetters, .ref (h 10), .ref (h 11), .ref (h 12), .ref (h 13), .ref (h 14), .int t_isFull, .ref (h 15), .ref (h 16), .int t_isSaved, .int t_savedKind, .int t_savedExponent, .int t_savedLetters, .ref (h 17), .ref (h 18), .ref (h 19), .ref (h 20), .ref (h 21)])), (h 1, .inl (cy 0, 4, .inl t_values)), (h 2, .inl (cy 0, 45, .inl t_row))]
def VX11_longestFree_14 (post : Int32 → (Nat → Int32) → Int32 → Int32 → Prop)  (t_kind : Int32) (t_exponent : Int32) (t_letters : Int32) (t_values : Nat → Int32) : Nat → (Nat → Int32) → Int32 → Int32 → Int32 → Int32 → Prop
  | 0, _, _, _, _, _ => False
  | n + 1, t_row, t_rowSize, t_steps, x1, x2 => VX11_goOn (fun r_2 u_3 u_4 u_5 => (¬ (r_2 = (-4)) → ∀ y_6 : Int32, y_6 = (if x1 < u_4 then u_4 else x1) → (¬ (y_6 = 12) → (¬ (r_2 = (-2)) → VX11_longestFree_14 post t_kind t_exponent t_letters t_values n u_3 u_4 u_5 y_6 0) ∧ ((r_2 = (-2)) → (¬ (u_4 = 0) → vp_in (u_4 - 1) 45 ∧ (∀ y_7 : Int32, y_7 = (u_3 (u_4 - 1).toNatClampNeg) → VX11_longestFree_14 post t_kind t_exponent t_letters t_values n u_3 (u_4 - 1) u_5 y_6 (y_7 + 1))) ∧ ((u_4 = 0) → post y_6 u_3 u_4 u_5))) ∧ ((y_6 = 12) → post (-2 : Int32) u_3 u_4 u_5)) ∧ ((r_2 = (-4)) → post (-4 : Int32) u_3 u_4 u_5)) t_kind t_exponent t_letters t_values x2 20000 t_row t_rowSize t_steps
def VX11_longestFree (post : Int32 → (Nat → Int32) → Int32 → Int32 → Prop)  (t_kind : Int32) (t_exponent : Int32) (t_letters : Int32) (t_values : Nat → Int32) (t_row : Nat → Int32) (t_rowSize : Int32) (t_steps : Int32) : Prop := ∃ n14 : Nat, VX11_longestFree_14 post t_kind t_exponent t_letters t_values n14 t_row 0 0 0 0
set_option maxHeartbeats 4000000 in
set_option maxRecDepth 100000 in
theorem wX11_longestFree_14 {p : Program} (l : Launch) {e : Env} {s : State} {m : MethodId} {args : Array Value} {below : List Frame} {meth : Method} {c : Code} {dC : Nat → ClassId} {dI : Nat → Nat → Nat} {cy : Nat → ClassId} {A : Nat → Prop} (h : Nat → Nat) (post : Int32 → (Nat → Int32) → Int32 → Int32 → Prop)   (t_kind : Int32) (t_exponent : Int32) (t_letters : Int32) (t_values : Nat → Int32) (t_fed : Int32) (t_at : Int32) (t_foundMany : Int32) (t_keptMany : Int32) (t_keptLetters : Int32) (t_isFull : Int32) (t_isSaved : Int32) (t_savedKind : Int32) (t_savedExponent : Int32) (t_savedLetters : Int32)  (C0 : cx p s m args meth c cX11_longestFree 4 (some .int) wsX11_longestFree RX11 dC dI cy A)  : ∀ (n : Nat) (t_row : Nat → Int32) (t_rowSize : Int32) (t_steps : Int32) (x1 : Int32) (x2 : Int32), VX11_longestFree_14 post t_kind t_exponent t_letters t_values n t_row t_rowSize t_steps x1 x2 → ∀ (H : Heap) (locs : List Loc) (ls : Array Slot), va_P (dC, dI) vwCl (pX11_longestFree cy h t_kind t_exponent t_letters t_values t_fed t_at t_row t_rowSize t_steps t_foundMany t_keptMany t_keptLetters t_isFull t_isSaved t_savedKind t_savedExponent t_savedLetters) H → va_D A (pX11_longestFree cy h t_kind t_exponent t_letters t_values t_fed t_at t_row t_rowSize t_steps t_foundMany t_keptMany t_keptLetters t_isFull t_isSaved t_savedKind t_savedExponent t_savedLetters) → va_S A s.heap H locs → lv_has ls 4 [(0, .ref (h 0)), (1, .int x1), (2, .int x2)] → W p l e rX11_longestFree s m args below meth c H locs 0 0 (MQ below (va_Qi (fun (r : Int32) (u : (Nat → Int32) × Int32 × Int32) => post r u.1 u.2.1 u.2.2) (fun (u : (Nat → Int32) × Int32 × Int32) (t : State) => va_P (dC, dI) vwCl (pX11_longestFree cy h t_kind t_exponent t_letters t_values t_fed t_at u.1 u.2.1 u.2.2 t_foundMany t_keptMany t_keptLetters t_isFull t_isSaved t_savedKind t_savedExponent t_savedLetters) t.heap) A) args s 0 0 A) (F0 m 14 ls []) := by
  have C1 := C0
  obtain ⟨hx, hb, hr, hml, hown, hts, hlocks, hK, hA⟩ := C1
  intro n
  induction n with
  | zero => intro t_row t_rowSize t_steps x1 x2 hv; exact hv.elim
  | succ n ih =>
    intro t_row t_rowSize t_steps x1 x2 hv H locs ls hP hD hS hl
    refine lv_aload_n hx hb dX11_longestFree_14 rfl (lv_at hl 0 rfl) ?_
    refine lv_iload_n hx hb dX11_longestFree_15 rfl (lv_at hl 2 rfl) ?_
    refine lv_sipush (v := 20000) hx hb dX11_longestFree_16 (by decide) ?_
    refine cb_VI (As := [.int x2, .int 20000]) (rest := []) ⟨hx, hb, hml, hown, hts⟩ (kX11_goOn l dC dI cy (adl [h 0, h 1, h 2, h 3, h 4, h 5, h 6, h 7, h 8, h 9, h 10, h 11, h 12, h 13, h 14, h 15, h 16, h 17, h 18, h 19, h 20, h 21]) t_kind t_exponent t_letters t_values t_fed t_at t_row t_rowSize t_steps t_foundMany t_keptMany t_keptLetters t_isFull t_isSaved t_savedKind t_savedExponent t_savedLetters x2 20000 _ hv) (cwV 2 hts gX11_longestFree_X11_goOn rfl rfl rfl zX11_goOn ⟨Nat.le_of_ble_eq_true rfl, Nat.le_of_ble_eq_true rfl⟩) hK hP hD hS hA [0, 1, 2] [some 0, some 1, some 2] rfl rfl rfl (ci := 11) rfl rfl (fun _ => rfl) rfl hl.1 rfl (Nat.le_of_ble_eq_true rfl) dX11_longestFree_19 (fun r_2 w_13 H locs hv hP hD hS => ?_)
    obtain ⟨u_3, u_4, u_5⟩ := w_13
    have hP : va_P (dC, dI) vwCl (pX11_longestFree cy h t_kind t_exponent t_letters t_values t_fed t_at u_3 u_4 u_5 t_foundMany t_keptMany t_keptLetters t_isFull t_isSaved t_savedKind t_savedExponent t_savedLetters) H := hP
    have hD : va_D A (pX11_longestFree cy h t_kind t_exponent t_letters t_values t_fed t_at u_3 u_4 u_5 t_foundMany t_keptMany t_keptLetters t_isFull t_isSaved t_savedKind t_savedExponent t_savedLetters) := hD
    refine lv_istore_n (lv' := [(3, .int r_2), (0, .ref (h 0)), (1, .int x1), (2, .int x2)]) hx hb dX11_longestFree_22 rfl hl (by decide) rfl (fun ls hl => ?_)
    refine lv_iload_n hx hb dX11_longestFree_23 rfl (lv_at hl 0 rfl) ?_
    refine lv_bipush (v := (-4)) hx hb dX11_longestFree_24 (by decide) ?_
    refine lv_icmp_ne (tgt := 32) hx hb dX11_longestFree_26 (by decide) (fun c_12 => ?_) (fun c_12 => ?_)
    · have hv := hv.1 c_12
      refine lv_iconst (v := 0) hx hb dX11_longestFree_32 (by decide) ?_
      refine lv_istore_n (lv' := [(2, .int 0), (3, .int r_2), (0, .ref (h 0)), (1, .int x1)]) hx hb dX11_longestFree_33 rfl hl (by decide) rfl (fun ls hl => ?_)
      refine lv_iload_n hx hb dX11_longestFree_34 rfl (lv_at hl 3 rfl) ?_
      refine lv_aload_n hx hb dX11_longestFree_35 rfl (lv_at hl 2 rfl) ?_
      refine va_get (D := (dC, dI)) (ci := 11) (v := .int u_4) (C := RX11) (T := TX11) (N := 36) hx hb hts nX11_longestFree_X11 hown hK hP 0 rfl rfl 12 (by decide) (hts _ mX11_longestFree_1) (fun _ h9 => h9) rfl dX11_longestFree_36 ?_
      refine va_mmax hx hb (hml.trans hl.1.symm) hown (hts _ mX11_longestFree_3) (hts _ mX11_longestFree_4) (hts _ mX11_longestFree_5) (hts _ mX11_longestFree_6) (Nat.le_of_ble_eq_true rfl) (Nat.le_of_ble_eq_true rfl) (Nat.zero_le _) (Nat.zero_le _) dX11_longestFree_39 ?_
      refine lv_topi (fun y_6 ey_6 => ?_)
      have hv := hv y_6 ey_6
      refine lv_istore_n (lv' := [(1, .int y_6), (2, .int 0), (3, .int r_2), (0, .ref (h 0))]) hx hb dX11_longestFree_42 rfl hl (by decide) rfl (fun ls hl => ?_)
      refine lv_iload_n hx hb dX11_longestFree_43 rfl (lv_at hl 0 rfl) ?_
      refine lv_bipush (v := 12) hx hb dX11_longestFree_44 (by decide) ?_
      refine lv_icmp_ne (tgt := 52) hx hb dX11_longestFree_46 (by decide) (fun c_11 => ?_) (fun c_11 => ?_)
      · have hv := hv.1 c_11
        refine lv_iload_n hx hb dX11_longestFree_52 rfl (lv_at hl 2 rfl) ?_
        refine lv_bipush (v := (-2)) hx hb dX11_longestFree_53 (by decide) ?_
        refine lv_icmp_ne (tgt := 89) hx hb dX11_longestFree_55 (by decide) (fun c_10 => ?_) (fun c_10 => ?_)
        · have hv := hv.1 c_10
          refine lv_goto (tgt := 14) hx hb dX11_longestFree_89 (by decide) ?_
          exact ih u_3 u_4 u_5 y_6 0 hv _ _ _ hP hD hS (lv_sub hl [3, 0, 1] rfl)
        · have hv := hv.2 c_10
          refine lv_aload_n hx hb dX11_longestFree_58 rfl (lv_at hl 3 rfl) ?_
          refine va_get (D := (dC, dI)) (ci := 11) (v := .int u_4) (C := RX11) (T := TX11) (N := 36) hx hb hts nX11_longestFree_X11 hown hK hP 0 rfl rfl 12 (by decide) (hts _ mX11_longestFree_1) (fun _ h9 => h9) rfl dX11_longestFree_59 ?_
          refine lv_if_ne (tgt := 67) hx hb dX11_longestFree_62 (by decide) (fun c_9 => ?_) (fun c_9 => ?_)
          · have hv := hv.1 c_9
            refine lv_aload_n hx hb dX11_longestFree_67 rfl (lv_at hl 3 rfl) ?_
            refine lv_dup hx hb dX11_longestFree_68 rfl ?_
            refine va_get (D := (dC, dI)) (ci := 11) (v := .int u_4) (C := RX11) (T := TX11) (N := 36) hx hb hts nX11_longestFree_X11 hown hK hP 0 rfl rfl 12 (by decide) (hts _ mX11_longestFree_1) (fun _ h9 => h9) rfl dX11_longestFree_69 ?_
            refine lv_iconst (v := 1) hx hb dX11_longestFree_72 (by decide) ?_
            refine lv_isub hx hb dX11_longestFree_73 ?_
            refine va_put (D := (dC, dI)) (ci := 11) (v := .int (u_4 - 1)) (ty := .int) (C := RX11) (T := TX11) (N := 36) hx hb hts nX11_longestFree_X11 tyX11 tyX11_ok nmX11 hown hK hP hD hS 0 rfl rfl 12 (by decide) (hts _ mX11_longestFree_1) (fun _ h9 => h9) rfl (by decide +kernel) rfl rfl (Nat.le_of_ble_eq_true rfl) dX11_longestFree_74 (fun H locs hP hD hS => ?_)
            have hP : va_P (dC, dI) vwCl (pX11_longestFree cy h t_kind t_exponent t_letters t_values t_fed t_at u_3 (u_4 - 1) u_5 t_foundMany t_keptMany t_keptLetters t_isFull t_isSaved t_savedKind t_savedExponent t_savedLetters) H := hP
            have hD : va_D A (pX11_longestFree cy h t_kind t_exponent t_letters t_values t_fed t_at u_3 (u_4 - 1) u_5 t_foundMany t_keptMany t_keptLetters t_isFull t_isSaved t_savedKind t_savedExponent t_savedLetters) := hD
            refine lv_aload_n hx hb dX11_longestFree_77 rfl (lv_at hl 3 rfl) ?_
            refine va_get (D := (dC, dI)) (ci := 11) (v := .ref (h 2)) (C := RX11) (T := TX11) (N := 36) hx hb hts nX11_longestFree_X11 hown hK hP 0 rfl rfl 11 (by decide) (hts _ mX11_longestFree_7) (fun _ h9 => h9) rfl dX11_longestFree_78 ?_
            refine lv_aload_n hx hb dX11_longestFree_81 rfl (lv_at hl 3 rfl) ?_
            refine va_get (D := (dC, dI)) (ci := 11) (v := .int ((u_4 - 1))) (C := RX11) (T := TX11) (N := 36) hx hb hts nX11_longestFree_X11 hown hK hP 0 rfl rfl 12 (by decide) (hts _ mX11_longestFree_1) (fun _ h9 => h9) rfl dX11_longestFree_82 ?_
            have h_8 := hv.1
            have hv := hv.2
            refine va_iald hx hb hK hP 2 0 rfl rfl h_8 dX11_longestFree_85 ?_
            refine lv_topi (fun y_7 ey_7 => ?_)
            have hv := hv y_7 ey_7
            refine lv_iconst (v := 1) hx hb dX11_longestFree_86 (by decide) ?_
            refine lv_iadd hx hb dX11_longestFree_87 ?_
            refine lv_istore_n (lv' := [(2, .int ((y_7 + 1))), (1, .int y_6), (3, .int r_2), (0, .ref (h 0))]) hx hb dX11_longestFree_88 rfl hl (by decide) rfl (fun ls hl => ?_)
            refine lv_goto (tgt := 14) hx hb dX11_longestFree_89 (by decide) ?_
            exact ih u_3 (u_4 - 1) u_5 y_6 (y_7 + 1) hv _ _ _ hP hD hS (lv_sub hl [3, 1, 0] rfl)
          · have hv := hv.2 c_9
            refine lv_iload_n hx hb dX11_longestFree_65 rfl (lv_at hl 0 rfl) ?_
            exact W.iret (v := y_6) hx hb hr (fun t ht hW => ⟨⟨y_6, (u_3, u_4, u_5), rfl, hv, va_Ph ht hP⟩, hS.F ht⟩) hS.2.2 dX11_longestFree_66
      · have hv := hv.2 c_11
        refine lv_bipush (v := (-2)) hx hb dX11_longestFree_49 (by decide) ?_
        exact W.iret (v := (-2)) hx hb hr (fun t ht hW => ⟨⟨(-2), (u_3, u_4, u_5), rfl, hv, va_Ph ht hP⟩, hS.F ht⟩) hS.2.2 dX11_longestFree_51
    · have hv := hv.2 c_12
      refine lv_bipush (v := (-4)) hx hb dX11_longestFree_29 (by decide) ?_
      exact W.iret (v := (-4)) hx hb hr (fun t ht hW => ⟨⟨(-4), (u_3, u_4, u_5), rfl, hv, va_Ph ht hP⟩, hS.F ht⟩) hS.2.2 dX11_longestFree_31
set_option maxHeartbeats 4000000 in
set_option maxRecDepth 100000 in
theorem wX11_longestFree_0 {p : Program} (l : Launch) {e : Env} {s : State} {m : MethodId} {args : Array Value} {below : List Frame} {meth : Method} {c : Code} {dC : Nat → ClassId} {dI : Nat → Nat → Nat} {cy : Nat → ClassId} {A : Nat → Prop} (h : Nat → Nat) (post : Int32 → (Nat → Int32) → Int32 → Int32 → Prop)   (t_kind : Int32) (t_exponent : Int32) (t_letters : Int32) (t_values : Nat → Int32) (t_fed : Int32) (t_at : Int32) (t_foundMany : Int32) (t_keptMany : Int32) (t_keptLetters : Int32) (t_isFull : Int32) (t_isSaved : Int32) (t_savedKind : Int32) (t_savedExponent : Int32) (t_savedLetters : Int32)  (C0 : cx p s m args meth c cX11_longestFree 4 (some .int) wsX11_longestFree RX11 dC dI cy A)  : ∀ (t_row : Nat → Int32) (t_rowSize : Int32) (t_steps : Int32), VX11_longestFree post t_kind t_exponent t_letters t_values t_row t_rowSize t_steps → ∀ (H : Heap) (locs : List Loc) (ls : Array Slot), va_P (dC, dI) vwCl (pX11_longestFree cy h t_kind t_exponent t_letters t_values t_fed t_at t_row t_rowSize t_steps t_foundMany t_keptMany t_keptLetters t_isFull t_isSaved t_savedKind t_savedExponent t_savedLetters) H → va_D A (pX11_longestFree cy h t_kind t_exponent t_letters t_values t_fed t_at t_row t_rowSize t_steps t_foundMany t_keptMany t_keptLetters t_isFull t_isSaved t_savedKind t_savedExponent t_savedLetters) → va_S A s.heap H locs → lv_has ls 4 [(0, .ref (h 0))] → W p l e rX11_longestFree s m args below meth c H locs 0 0 (MQ below (va_Qi (fun (r : Int32) (u : (Nat → Int32) × Int32 × Int32) => post r u.1 u.2.1 u.2.2) (fun (u : (Nat → Int32) × Int32 × Int32) (t : State) => va_P (dC, dI) vwCl (pX11_longestFree cy h t_kind t_exponent t_letters t_values t_fed t_at u.1 u.2.1 u.2.2 t_foundMany t_keptMany t_keptLetters t_isFull t_isSaved t_savedKind t_savedExponent t_savedLetters) t.heap) A) args s 0 0 A) (F0 m 0 ls []) := by
  have C1 := C0
  obtain ⟨hx, hb, hr, hml, hown, hts, hlocks, hK, hA⟩ := C1
  intro t_row t_rowSize t_steps hv H locs ls hP hD hS hl
  refine lv_aload_n hx hb dX11_longestFree_0 rfl (lv_at hl 0 rfl) ?_
  refine lv_iconst (v := 0) hx hb dX11_longestFree_1 (by decide) ?_
  refine va_put (D := (dC, dI)) (ci := 11) (v := .int 0) (ty := .int) (C := RX11) (T := TX11) (N := 36) hx hb hts nX11_longestFree_X11 tyX11 tyX11_ok nmX11 hown hK hP hD hS 0 rfl rfl 12 (by decide) (hts _ mX11_longestFree_1) (fun _ h9 => h9) rfl (by decide +kernel) rfl rfl (Nat.le_of_ble_eq_true rfl) dX11_longestFree_2 (fun H locs hP hD hS => ?_)
  have hP : va_P (dC, dI) vwCl (pX11_longestFree cy h t_kind t_exponent t_letters t_values t_fed t_at t_row 0 t_steps t_foundMany t_keptMany t_keptLetters t_isFull t_isSaved t_savedKind t_savedExponent t_savedLetters) H := hP
  have hD : va_D A (pX11_longestFree cy h t_kind t_exponent t_letters t_values t_fed t_at t_row 0 t_steps t_foundMany t_keptMany t_keptLetters t_isFull t_isSaved t_savedKind t_savedExponent t_savedLetters) := hD
  refine lv_aload_n hx hb dX11_longestFree_5 rfl (lv_at hl 0 rfl) ?_
  refine lv_iconst (v := 0) hx hb dX11_longestFree_6 (by decide) ?_
  refine va_put (D := (dC, dI)) (ci := 11) (v := .int 0) (ty := .int) (C := RX11) (T := TX11) (N := 36) hx hb hts nX11_longestFree_X11 tyX11 tyX11_ok nmX11 hown hK hP hD hS 0 rfl rfl 13 (by decide) (hts _ mX11_longestFree_2) (fun _ h9 => h9) rfl (by decide +kernel) rfl rfl (Nat.le_of_ble_eq_true rfl) dX11_longestFree_7 (fun H locs hP hD hS => ?_)
  have hP : va_P (dC, dI) vwCl (pX11_longestFree cy h t_kind t_exponent t_letters t_values t_fed t_at t_row 0 0 t_foundMany t_keptMany t_keptLetters t_isFull t_isSaved t_savedKind t_savedExponent t_savedLetters) H := hP
  have hD : va_D A (pX11_longestFree cy h t_kind t_exponent t_letters t_values t_fed t_at t_row 0 0 t_foundMany t_keptMany t_keptLetters t_isFull t_isSaved t_savedKind t_savedExponent t_savedLetters) := hD
  refine lv_iconst (v := 0) hx hb dX11_longestFree_10 (by decide) ?_
  refine lv_istore_n (lv' := [(1, .int 0), (0, .ref (h 0))]) hx hb dX11_longestFree_11 rfl hl (by decide) rfl (fun ls hl => ?_)
  refine lv_iconst (v := 0) hx hb dX11_longestFree_12 (by decide) ?_
  refine lv_istore_n (lv' := [(2, .int 0), (1, .int 0), (0, .ref (h 0))]) hx hb dX11_longestFree_13 rfl hl (by decide) rfl (fun ls hl => ?_)
  obtain ⟨n_1, hv⟩ := hv
  exact wX11_longestFree_14 l h post  t_kind t_exponent t_letters t_values t_fed t_at t_foundMany t_keptMany t_keptLetters t_isFull t_isSaved t_savedKind t_savedExponent t_savedLetters C0 n_1 t_row 0 0 0 0 hv _ _ _ hP hD hS (lv_sub hl [2, 1, 0] rfl)
theorem kX11_longestFree (l : Launch) (dC : Nat → ClassId) (dI : Nat → Nat → Nat) (cy : Nat → ClassId) (h : Nat → Nat) (t_kind : Int32) (t_exponent : Int32) (t_letters : Int32) (t_values : Nat → Int32) (t_fed : Int32) (t_at : Int32) (t_row : Nat → Int32) (t_rowSize : Int32) (t_steps : Int32) (t_foundMany : Int32) (t_keptMany : Int32) (t_keptLetters : Int32) (t_isFull : Int32) (t_isSaved : Int32) (t_savedKind : Int32) (t_savedExponent : Int32) (t_savedLetters : Int32)  (post : Int32 → (Nat → Int32) → Int32 → Int32 → Prop) (hv : VX11_longestFree post t_kind t_exponent t_letters t_values t_row t_rowSize t_steps) : CtI l yX11_longestFree wsX11_longestFree rX11_longestFree dC dI cy [.ref (h 0)] (pX11_longestFree cy h t_kind t_exponent t_letters t_values t_fed t_at t_row t_rowSize t_steps t_foundMany t_keptMany t_keptLetters t_isFull t_isSaved t_savedKind t_savedExponent t_savedLetters) (fun (u : (Nat → Int32) × Int32 × Int32) => pX11_longestFree cy h t_kind t_exponent t_letters t_values t_fed t_at u.1 u.2.1 u.2.2 t_foundMany t_keptMany t_keptLetters t_isFull t_isSaved t_savedKind t_savedExponent t_savedLetters) (fun (r : Int32) (u : (Nat → Int32) × Int32 × Int32) => post r u.1 u.2.1 u.2.2) :=
  ct_ofI (by decide) rfl (Nat.le_of_ble_eq_true rfl) (fun p e s m below meth c A ls C0 hP hD hS hl => wX11_longestFree_0 l h post t_kind t_exponent t_letters t_values t_fed t_at t_foundMany t_keptMany t_keptLetters t_isFull t_isSaved t_savedKind t_savedExponent t_savedLetters C0 t_row t_rowSize t_steps hv _ _ _ hP hD hS hl)
