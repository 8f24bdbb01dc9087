theorem zX11_letterAt : yX11_letterAt.cls = RX11 ∧ yX11_letterAt.cls ≠ "java/lang/invoke/MethodHandle" ∧ yX11_letterAt.cls ≠ "java/lang/invoke/VarHandle" ∧ (parseMethodDescriptor yX11_letterAt.desc).map (fun d => d.parameters.length) = some 1 := by decide +kernel
abbrev rX11_letterAt : Room := { frames := 2, cells := 0, slots := 0, locals := 43 }
abbrev pX11_letterAt (cy : Nat → ClassId) (h : Nat → Nat) (t_kind : Int32) (t_exponent : Int32) (t_letters : Int32) (t_input : Nat → Int32) (t_fed : Int32) (t_at : Int32) (t_rowSize : Int32) (t_steps : Int32) (t_foundMany : Int32) (t_keptMany : Int32) (t_keptLetters : Int32) (t_isFull : Int32) (t_isSaved : Int32) (t_savedKind : Int32) (t_savedExponent : Int32) (t_savedLetters : Int32) : va_W := [(h 0, .inr (11, [.int t_kind, .int t_exponent, .int t_letters, .ref (h 2), .ref (h 3), .ref (h 4), .ref (h 5), .ref (h 6), .ref (h 1), .int t_fed, .int t_at, .ref (h 7), .int t_rowSize, .int t_steps, .ref (h 8), .int t_foundMany, .ref (h 9), .int t_keptMany, .int t_keptLetters, .ref (h 10), .ref (h 11), .ref (h 12), .ref (h 13), .ref (h 14), .int t_isFull, .ref (h 15), .ref (h 16), .int t_isSaved, .int t_savedKind, .int t_savedExponent, .int t_savedLetters, .ref (h 17), .ref (h 18), .ref (h 19), .ref (h 20), .ref (h 21)])), (h 1, .inl (cy 0, 16, .inl t_input))]
def VX11_letterAt (post : Int32 → Prop)  (t_letters : Int32) (t_input : Nat → Int32) (t_at : Int32) (p1 : Int32)  : Prop := VX11_sign (fun r_1 => VX11_isLetter (fun r_2 => ((r_2 = 0) → post (-2 : Int32)) ∧ (¬ (r_2 = 0) → post (r_1 - 97))) t_letters (r_1 - 97)) t_input t_at p1
set_option maxHeartbeats 4000000 in
set_option maxRecDepth 100000 in
theorem wX11_letterAt_0 {p : Program} (l : Launch) {e : Env} {s : State} {m : MethodId} {args : Array Value} {below : List Frame} {meth : Method} {c : Code} {dC : Nat → ClassId} {dI : Nat → Nat → Nat} {cy : Nat → ClassId} {A : Nat → Prop} (h : Nat → Nat) (post : Int32 → Prop)   (t_kind : Int32) (t_exponent : Int32) (t_letters : Int32) (t_input : Nat → Int32) (t_fed : Int32) (t_at : Int32) (t_rowSize : Int32) (t_steps : Int32) (t_foundMany : Int32) (t_keptMany : Int32) (t_keptLetters : Int32) (t_isFull : Int32) (t_isSaved : Int32) (t_savedKind : Int32) (t_savedExponent : Int32) (t_savedLetters : Int32) (p1 : Int32) (C0 : cx p s m args meth c cX11_letterAt 3 (some .int) wsX11_letterAt RX11 dC dI cy A)  : VX11_letterAt post t_letters t_input t_at p1  → ∀ (H : Heap) (locs : List Loc) (ls : Array Slot), va_P (dC, dI) vwCl (pX11_letterAt cy h t_kind t_exponent t_letters t_input t_fed t_at t_rowSize t_steps t_foundMany t_keptMany t_keptLetters t_isFull t_isSaved t_savedKind t_savedExponent t_savedLetters) H → va_D A (pX11_letterAt cy h t_kind t_exponent t_letters t_input t_fed t_at t_rowSize t_steps t_foundMany t_keptMany t_keptLetters t_isFull t_isSaved t_savedKind t_savedExponent t_savedLetters) → va_S A s.heap H locs → lv_has ls 3 [(0, .ref (h 0)), (1, .int p1)] → W p l e rX11_letterAt s m args below meth c H locs 0 0 (MQ below (va_Qi (fun (r : Int32) (_ : Unit) => post r) (fun (_ : Unit) (t : State) => va_P (dC, dI) vwCl (pX11_letterAt cy h t_kind t_exponent t_letters t_input t_fed t_at t_rowSize t_steps t_foundMany t_keptMany t_keptLetters t_isFull t_isSaved t_savedKind t_savedExponent t_savedLetters) t.heap) A) args s 0 0 A) (F0 m 0 ls []) := by
  have C1 := C0
  obtain ⟨hx, hb, hr, hml, hown, hts, hlocks, hK, hA⟩ := C1
  intro  hv H locs ls hP hD hS hl
  refine lv_aload_n hx hb dX11_letterAt_0 rfl (lv_at hl 0 rfl) ?_
  refine lv_iload_n hx hb dX11_letterAt_1 rfl (lv_at hl 1 rfl) ?_
  refine cb_VI (As := [.int p1]) (rest := []) ⟨hx, hb, hml, hown, hts⟩ (kX11_sign l dC dI cy (adl [h 0, h 1, h 2, h 3, h 4, h 5, h 6, h 7, h 8, h 9, h 10, h 11, h 12, h 13, h 14, h 15, h 16, h 17, h 18, h 19, h 20, h 21]) t_kind t_exponent t_letters t_input t_fed t_at t_rowSize t_steps t_foundMany t_keptMany t_keptLetters t_isFull t_isSaved t_savedKind t_savedExponent t_savedLetters p1 _ hv) (cwV 1 hts gX11_letterAt_X11_sign rfl rfl rfl zX11_sign ⟨Nat.le_of_ble_eq_true rfl, Nat.le_of_ble_eq_true rfl⟩) hK hP hD hS hA [0, 1] [some 0, some 1] rfl rfl rfl (ci := 11) rfl rfl (fun _ => rfl) rfl hl.1 rfl (Nat.le_of_ble_eq_true rfl) dX11_letterAt_2 (fun r_1 w_5 H locs hv hP hD hS => ?_)
  have hP : va_P (dC, dI) vwCl (pX11_letterAt cy h t_kind t_exponent t_letters t_input t_fed t_at t_rowSize t_steps t_foundMany t_keptMany t_keptLetters t_isFull t_isSaved t_savedKind t_savedExponent t_savedLetters) H := hP
  have hD : va_D A (pX11_letterAt cy h t_kind t_exponent t_letters t_input t_fed t_at t_rowSize t_steps t_foundMany t_keptMany t_keptLetters t_isFull t_isSaved t_savedKind t_savedExponent t_savedLetters) := hD
  refine lv_bipush (v := 97) hx hb dX11_letterAt_5 (by decide) ?_
  refine lv_isub hx hb dX11_letterAt_7 ?_
  refine lv_istore_n (lv' := [(2, .int ((r_1 - 97))), (0, .ref (h 0)), (1, .int p1)]) hx hb dX11_letterAt_8 rfl hl (by decide) rfl (fun ls hl => ?_)
  refine lv_aload_n hx hb dX11_letterAt_9 rfl (lv_at hl 1 rfl) ?_
  refine lv_iload_n hx hb dX11_letterAt_10 rfl (lv_at hl 0 rfl) ?_
  refine cb_VI (As := [.int ((r_1 - 97))]) (rest := []) ⟨hx, hb, hml, hown, hts⟩ (kX11_isLetter l dC dI cy (adl [h 0, h 2, h 3, h 4, h 5, h 6, h 1, h 7, h 8, h 9, h 10, h 11, h 12, h 13, h 14, h 15, h 16, h 17, h 18, h 19, h 20, h 21]) t_kind t_exponent t_letters t_fed t_at t_rowSize t_steps t_foundMany t_keptMany t_keptLetters t_isFull t_isSaved t_savedKind t_savedExponent t_savedLetters (r_1 - 97) _ hv) (cwV 1 hts gX11_letterAt_X11_isLetter rfl rfl rfl zX11_isLetter ⟨Nat.le_of_ble_eq_true rfl, Nat.le_of_ble_eq_true rfl⟩) hK hP hD hS hA [0] [some 0, none] rfl rfl rfl (ci := 11) rfl rfl (fun _ => rfl) rfl hl.1 rfl (Nat.le_of_ble_eq_true rfl) dX11_letterAt_11 (fun r_2 w_4 H locs hv hP hD hS => ?_)
  have hP : va_P (dC, dI) vwCl (pX11_letterAt cy h t_kind t_exponent t_letters t_input t_fed t_at t_rowSize t_steps t_foundMany t_keptMany t_keptLetters t_isFull t_isSaved t_savedKind t_savedExponent t_savedLetters) H := hP
  have hD : va_D A (pX11_letterAt cy h t_kind t_exponent t_letters t_input t_fed t_at t_rowSize t_steps t_foundMany t_keptMany t_keptLetters t_isFull t_isSaved t_savedKind t_savedExponent t_savedLetters) := hD
  refine lv_if_eq (tgt := 21) hx hb dX11_letterAt_14 (by decide) (fun c_3 => ?_) (fun c_3 => ?_)
  · have hv := hv.1 c_3
    refine lv_bipush (v := (-2)) hx hb dX11_letterAt_21 (by decide) ?_
    exact W.iret (v := (-2)) hx hb hr (fun t ht hW => ⟨⟨(-2), (), rfl, hv, va_Ph ht hP⟩, hS.F ht⟩) hS.2.2 dX11_letterAt_23
  · have hv := hv.2 c_3
    refine lv_iload_n hx hb dX11_letterAt_17 rfl (lv_at hl 0 rfl) ?_
    refine lv_goto (tgt := 23) hx hb dX11_letterAt_18 (by decide) ?_
    exact W.iret (v := (r_1 - 97)) hx hb hr (fun t ht hW => ⟨⟨(r_1 - 97), (), rfl, hv, va_Ph ht hP⟩, hS.F ht⟩) hS.2.2 dX11_letterAt_23
theorem kX11_letterAt (l : Launch) (dC : Nat → ClassId) (dI : Nat → Nat → Nat) (cy : Nat → ClassId) (h : Nat → Nat) (t_kind : Int32) (t_exponent : Int32) (t_letters : Int32) (t_input : Nat → Int32) (t_fed : Int32) (t_at : Int32) (t_rowSize : Int32) (t_steps : Int32) (t_foundMany : Int32) (t_keptMany : Int32) (t_keptLetters : Int32) (t_isFull : Int32) (t_isSaved : Int32) (t_savedKind : Int32) (t_savedExponent : Int32) (t_savedLetters : Int32) (p1 : Int32) (post : Int32 → Prop) (hv : VX11_letterAt post t_letters t_input t_at p1 ) : CtI l yX11_letterAt wsX11_letterAt rX11_letterAt dC dI cy [.ref (h 0), .int p1] (pX11_letterAt cy h t_kind t_exponent t_letters t_input t_fed t_at t_rowSize t_steps t_foundMany t_keptMany t_keptLetters t_isFull t_isSaved t_savedKind t_savedExponent t_savedLetters) (fun (_ : Unit) => pX11_letterAt cy h t_kind t_exponent t_letters t_input t_fed t_at t_rowSize t_steps t_foundMany t_keptMany t_keptLetters t_isFull t_isSaved t_savedKind t_savedExponent t_savedLetters) (fun (r : Int32) (_ : Unit) => post r) :=
  ct_ofI (by decide) rfl (Nat.le_of_ble_eq_true rfl) (fun p e s m below meth c A ls C0 hP hD hS hl => wX11_letterAt_0 l h post t_kind t_exponent t_letters t_input t_fed t_at t_rowSize t_steps t_foundMany t_keptMany t_keptLetters t_isFull t_isSaved t_savedKind t_savedExponent t_savedLetters p1 C0  hv _ _ _ hP hD hS hl)
theorem mX11_parseImage_1 : (Cond.fieldLink RX11 89 "AbelianPowersModel" "fed" "I") ∈ wsX11_parseImage := List.mem_of_getElem? (i := 1) rfl
theorem mX11_parseImage_2 : (Cond.fieldLink RX11 92 "AbelianPowersModel" "at" "I") ∈ wsX11_parseImage := List.mem_of_getElem? (i := 2) rfl
theorem mX11_parseImage_3 : (Cond.fieldLink RX11 32 "AbelianPowersModel" "imageSizes" "[I") ∈ wsX11_parseImage := List.mem_of_getElem? (i := 3) rfl
theorem mX11_parseImage_4 : (Cond.fieldLink RX11 29 "AbelianPowersModel" "images" "[I") ∈ wsX11_parseImage := List.mem_of_getElem? (i := 4) rfl
theorem mX11_parseImage_5 : (Cond.fieldLink RX11 35 "AbelianPowersModel" "input" "[I") ∈ wsX11_parseImage := List.mem_of_getElem? (i := 5) rfl
theorem nX11_parseImage_X11 : ∀ w ∈ wsX110, w ∈ wsX11_parseImage := fun _ h => List.mem_cons_of_mem _ (List.mem_append_right _ h)
theorem zX11_parseImage : yX11_parseImage.cls = RX11 ∧ yX11_parseImage.cls ≠ "java/lang/invoke/MethodHandle" ∧ yX11_parseImage.cls ≠ "java/lang/invoke/VarHandle" ∧ (parseMethodDescriptor yX11_parseImage.desc).map (fun d => d.parameters.length) = some 0 := by decide +kernel
abbrev rX11_parseImage : Room := { frames := 3, cells := 0, slots := 0, locals := 65 }
abbrev pX11_parseImage (cy : Nat → ClassId) (h : Nat → Nat) (t_kind : Int32) (t_exponent : Int32) (t_letters : Int32) (t_images : Nat → Int32) (t_imageSizes : Nat → Int32) (t_input : Nat → Int32) (t_fed : Int32) (t_at : Int32) (t_rowSize : Int32) (t_steps : Int32) (t_foundMany : Int32) (t_keptMany : Int32) (t_keptLetters : Int32) (t_isFull : Int32) (t_isSaved : Int32) (t_savedKind : Int32) (t_savedExponent : Int32) (t_savedLetters : Int32) : va_W := [(h 0, .inr (11, [.int t_kind, .int t_exponent, .int t_letters, .ref (h 4), .ref (h 5), .ref (h 6), .ref (h 1), .ref (h 2), .ref (h 3), .int t_fed, .int t_at, .ref (h 7), .int t_rowSize, .int t_steps, .ref (h 8), .int t_foundMany, .ref (h 9), .int t_keptMany, .int t_keptLetters, .ref (h 10), .ref (h 11), .ref (h 12), .ref (h 13), .ref (h 14), .int t_isFull, .ref (h 15), .ref (h 16), .int t_isSaved, .int t_savedKind, .int t_savedExponent, .int t_savedLetters, .ref (h 17), .ref (h 18), .ref (h 19), .ref (h 20), .ref (h 21)])), (h 1, .inl (cy 0, 16, .inl t_images)), (h 2, .inl (cy 0, 4, .inl t_imageSizes)), (h 3, .inl (cy 0, 16, .inl t_input))]
def VX11_parseImage_135 (post : Int32 → (Nat → Int32) → (Nat → Int32) → Int32 → Int32 → Prop)  (t_letters : Int32) (t_input : Nat → Int32) : Nat → (Nat → Int32) → (Nat → Int32) → Int32 → Int32 → Int32 → Int32 → Int32 → Prop
  | 0, _, _, _, _, _, _, _ => False
  | n + 1, t_images, t_imageSizes, t_fed, t_at, x2, x3, x4 => ((x3 ≤ x4) → post x2 t_images t_imageSizes t_fed t_at) ∧ (¬ (x3 ≤ x4) → vp_in ((2 : Int32) + x4) 16 ∧ (∀ y_18 : Int32, y_18 = (t_input ((2 : Int32) + x4).toNatClampNeg) → vp_in (((4 : Int32) * x2) + x4) 16 ∧ (VX11_parseImage_135 post t_letters t_input n (upd t_images (((4 : Int32) * x2) + x4).toNatClampNeg (y_18 - 97)) t_imageSizes t_fed t_at x2 x3 (x4 + 1))))
def VX11_parseImage_109 (post : Int32 → (Nat → Int32) → (Nat → Int32) → Int32 → Int32 → Prop)  (t_letters : Int32) (t_input : Nat → Int32) (t_images : Nat → Int32) (t_imageSizes : Nat → Int32) (t_fed : Int32) (t_at : Int32) (x1 : Int32) (x2 : Int32) (x3 : Int32) : Prop := ((x1 ≤ t_at) → vp_in x2 4 ∧ (∃ n135 : Nat, VX11_parseImage_135 post t_letters t_input n135 t_images (upd t_imageSizes x2.toNatClampNeg x3) t_fed t_at x2 x3 0)) ∧ (¬ (x1 ≤ t_at) → post ((-100 : Int32) - t_at) t_images t_imageSizes t_fed t_at)
def VX11_parseImage_78 (post : Int32 → (Nat → Int32) → (Nat → Int32) → Int32 → Int32 → Prop)  (t_letters : Int32) (t_input : Nat → Int32) : Nat → (Nat → Int32) → (Nat → Int32) → Int32 → Int32 → Int32 → Int32 → Int32 → Prop
  | 0, _, _, _, _, _, _, _ => False
  | n + 1, t_images, t_imageSizes, t_fed, t_at, x1, x2, x3 => ((4 ≤ x3) → VX11_parseImage_109 post t_letters t_input t_images t_imageSizes t_fed t_at x1 x2 x3) ∧ (¬ (4 ≤ x3) → VX11_letterAt (fun r_11 => ((r_11 = (-2)) → VX11_parseImage_109 post t_letters t_input t_images t_imageSizes t_fed t_at x1 x2 x3) ∧ (¬ (r_11 = (-2)) → VX11_parseImage_78 post t_letters t_input n t_images t_imageSizes t_fed (t_at + 1) x1 x2 (x3 + 1))) t_letters t_input t_at x1)
def VX11_parseImage (post : Int32 → (Nat → Int32) → (Nat → Int32) → Int32 → Int32 → Prop)  (t_letters : Int32) (t_input : Nat → Int32) (t_images : Nat → Int32) (t_imageSizes : Nat → Int32) (t_fed : Int32) (t_at : Int32) : Prop := VX11_letterAt (fun r_1 => (¬ (r_1 = (-2)) → VX11_sign (fun r_2 => ((r_2 = 58) → VX11_letterAt (fun r_3 => (¬ (r_3 = (-2)) → ∃ n78 : Nat, VX11_parseImage_78 post t_letters t_input n78 t_images t_imageSizes 0 (((0 : Int32) + 1) + 1) t_fed r_1 0) ∧ ((r_3 = (-2)) → post (-102 : Int32) t_images t_imageSizes 0 (((0 : Int32) + 1) + 1))) t_letters t_input (((0 : Int32) + 1) + 1) t_fed) ∧ (¬ (r_2 = 58) → post (-101 : Int32) t_images t_imageSizes 0 ((0 : Int32) + 1))) t_input ((0 : Int32) + 1) t_fed) ∧ ((r_1 = (-2)) → post (-100 : Int32) t_images t_imageSizes 0 0)) t_letters t_input 0 t_fed
set_option maxHeartbeats 4000000 in
set_option maxRecDepth 100000 in
theorem wX11_parseImage_135 {p : Program} (l : Launch) {e : Env} {s : State} {m : MethodId} {args : Array Value} {below : List Frame} {meth : Method} {c : Code} {dC : Nat → ClassId} {dI : Nat → Nat → Nat} {cy : Nat → ClassId} {A : Nat → Prop} (h : Nat → Nat) (post : Int32 → (Nat → Int32) → (Nat → Int32) → Int32 → Int32 → Prop)   (t_kind : Int32) (t_exponent : Int32) (t_letters : Int32) (t_input : Nat → Int32) (t_rowSize : Int32) (t_steps : Int32) (t_foundMany : Int32) (t_keptMany : Int32) (t_keptLetters : Int32) (t_isFull : Int32) (t_isSaved : Int32) (t_savedKind : Int32) (t_savedExponent : Int32) (t_savedLetters : Int32)  (C0 : cx p s m args meth c cX11_parseImage 5 (some .int) wsX11_parseImage RX11 dC dI cy A)  : ∀ (n : Nat) (t_images : Nat → Int32) (t_imageSizes : Nat → Int32) (t_fed : Int32) (t_at : Int32) (x2 : Int32) (x3 : Int32) (x4 : Int32), VX11_parseImage_135 post t_letters t_input n t_images t_imageSizes t_fed t_at x2 x3 x4 → ∀ (H : Heap) (locs : List Loc) (ls : Array Slot), va_P (dC, dI) vwCl (pX11_parseImage cy h t_kind t_exponent t_letters t_images t_imageSizes t_input t_fed t_at t_rowSize t_steps t_foundMany t_keptMany t_keptLetters t_isFull t_isSaved t_savedKind t_savedExponent t_savedLetters) H → va_D A (pX11_parseImage cy h t_kind t_exponent t_letters t_images t_imageSizes t_input t_fed t_at t_rowSize t_steps t_foundMany t_keptMany t_keptLetters t_isFull t_isSaved t_savedKind t_savedExponent t_savedLetters) → va_S A s.heap H locs → lv_has ls 5 [(0, .ref (h 0)), (2, .int x2), (3, .int x3), (4, .int x4)] → W p l e rX11_parseImage s m args below meth c H locs 0 0 (MQ below (va_Qi (fun (r : Int32) (u : (Nat → Int32) × (Nat → Int32) × Int32 × Int32) => post r u.1 u.2.1 u.2.2.1 u.2.2.2) (fun (u : (Nat → Int32) × (Nat → Int32) × Int32 × Int32) (t : State) => va_P (dC, dI) vwCl (pX11_parseImage cy h t_kind t_exponent t_letters u.1 u.2.1 t_input u.2.2.1 u.2.2.2 t_rowSize t_steps t_foundMany t_keptMany t_keptLetters t_isFull t_isSaved t_savedKind t_savedExponent t_savedLetters) t.heap) A) args s 0 0 A) (F0 m 135 ls []) := by
  have C1 := C0
  obtain ⟨hx, hb, hr, hml, hown, hts, hlocks, hK, hA⟩ := C1
  intro n
  induction n with
  | zero => intro t_images t_imageSizes t_fed t_at x2 x3 x4 hv; exact hv.elim
  | succ n ih =>
    intro t_images t_imageSizes t_fed t_at x2 x3 x4 hv H locs ls hP hD hS hl
    refine lv_iload hx hb dX11_parseImage_135 (lv_at hl 3 rfl) ?_
    refine lv_iload_n hx hb dX11_parseImage_137 rfl (lv_at hl 2 rfl) ?_
    refine lv_icmp_ge (tgt := 170) hx hb dX11_parseImage_138 (by decide) (fun c_21 => ?_) (fun c_21 => ?_)
    · have hv := hv.1 c_21
      refine lv_iload_n hx hb dX11_parseImage_170 rfl (lv_at hl 1 rfl) ?_
      exact W.iret (v := x2) hx hb hr (fun t ht hW => ⟨⟨x2, (t_images, t_imageSizes, t_fed, t_at), rfl, hv, va_Ph ht hP⟩, hS.F ht⟩) hS.2.2 dX11_parseImage_171
    · have hv := hv.2 c_21
      refine lv_aload_n hx hb dX11_parseImage_141 rfl (lv_at hl 0 rfl) ?_
      refine va_get (D := (dC, dI)) (ci := 11) (v := .ref (h 1)) (C := RX11) (T := TX11) (N := 36) hx hb hts nX11_parseImage_X11 hown hK hP 0 rfl rfl 6 (by decide) (hts _ mX11_parseImage_4) (fun _ h9 => h9) rfl dX11_parseImage_142 ?_
      refine lv_iconst (v := 4) hx hb dX11_parseImage_145 (by decide) ?_
      refine lv_iload_n hx hb dX11_parseImage_146 rfl (lv_at hl 1 rfl) ?_
      refine lv_imul hx hb dX11_parseImage_147 ?_
      refine lv_iload hx hb dX11_parseImage_148 (lv_at hl 3 rfl) ?_
      refine lv_iadd hx hb dX11_parseImage_150 ?_
      refine lv_aload_n hx hb dX11_parseImage_151 rfl (lv_at hl 0 rfl) ?_
      refine va_get (D := (dC, dI)) (ci := 11) (v := .ref (h 3)) (C := RX11) (T := TX11) (N := 36) hx hb hts nX11_parseImage_X11 hown hK hP 0 rfl rfl 8 (by decide) (hts _ mX11_parseImage_5) (fun _ h9 => h9) rfl dX11_parseImage_152 ?_
      refine lv_iconst (v := 2) hx hb dX11_parseImage_155 (by decide) ?_
      refine lv_iload hx hb dX11_parseImage_156 (lv_at hl 3 rfl) ?_
      refine lv_iadd hx hb dX11_parseImage_158 ?_
      have h_19 := hv.1
      have hv := hv.2
      refine va_iald hx hb hK hP 3 0 rfl rfl h_19 dX11_parseImage_159 ?_
      refine lv_topi (fun y_18 ey_18 => ?_)
      have hv := hv y_18 ey_18
      refine lv_bipush (v := 97) hx hb dX11_parseImage_160 (by decide) ?_
      refine lv_isub hx hb dX11_parseImage_162 ?_
      have h_20 := hv.1
      have hv := hv.2
      refine va_iast hx hb hK hP hD hS 1 0 rfl rfl h_20 dX11_parseImage_163 (fun H locs hP hD hS => ?_)
      have hP : va_P (dC, dI) vwCl (pX11_parseImage cy h t_kind t_exponent t_letters (upd t_images (((4 : Int32) * x2) + x4).toNatClampNeg (y_18 - 97)) t_imageSizes t_input t_fed t_at t_rowSize t_steps t_foundMany t_keptMany t_keptLetters t_isFull t_isSaved t_savedKind t_savedExponent t_savedLetters) H := hP
      have hD : va_D A (pX11_parseImage cy h t_kind t_exponent t_letters (upd t_images (((4 : Int32) * x2) + x4).toNatClampNeg (y_18 - 97)) t_imageSizes t_input t_fed t_at t_rowSize t_steps t_foundMany t_keptMany t_keptLetters t_isFull t_isSaved t_savedKind t_savedExponent t_savedLetters) := hD
      refine lv_iinc (v := (x4 + 1)) (lv' := [(4, .int ((x4 + 1))), (0, .ref (h 0)), (2, .int x2), (3, .int x3)]) hx hb dX11_parseImage_164 hl (k := 3) rfl rfl (by decide) rfl (fun ls hl => ?_)
      refine lv_goto (tgt := 135) hx hb dX11_parseImage_167 (by decide) ?_
      exact ih (upd t_images (((4 : Int32) * x2) + x4).toNatClampNeg (y_18 - 97)) t_imageSizes t_fed t_at x2 x3 (x4 + 1) hv _ _ _ hP hD hS (lv_sub hl [1, 2, 3, 0] rfl)
set_option maxHeartbeats 4000000 in
set_option maxRecDepth 100000 in
theorem wX11_parseImage_109 {p : Program} (l : Launch) {e : Env} {s : State} {m : MethodId} {args : Array Value} {below : List Frame} {meth : Method} {c : Code} {dC : Nat → ClassId} {dI : Nat → Nat → Nat} {cy : Nat → ClassId} {A : Nat → Prop} (h : Nat → Nat) (post : Int32 → (Nat → Int32) → (Nat → Int32) → Int32 → Int32 → Prop)   (t_kind : Int32) (t_exponent : Int32) (t_letters : Int32) (t_input : Nat → Int32) (t_rowSize : Int32) (t_steps : Int32) (t_foundMany : Int32) (t_keptMany : Int32) (t_keptLetters : Int32) (t_isFull : Int32) (t_isSaved : Int32) (t_savedKind : Int32) (t_savedExponent : Int32) (t_savedLetters : Int32)  (C0 : cx p s m args meth c cX11_parseImage 5 (some .int) wsX11_parseImage RX11 dC dI cy A)  : ∀ (t_images : Nat → Int32) (t_imageSizes : Nat → Int32) (t_fed : Int32) (t_at : Int32) (x1 : Int32) (x2 : Int32) (x3 : Int32), VX11_parseImage_109 post t_letters t_input t_images t_imageSizes t_fed t_at x1 x2 x3 → ∀ (H : Heap) (locs : List Loc) (ls : Array Slot), va_P (dC, dI) vwCl (pX11_parseImage cy h t_kind t_exponent t_letters t_images t_imageSizes t_input t_fed t_at t_rowSize t_steps t_foundMany t_keptMany t_keptLetters t_isFull t_isSaved t_savedKind t_savedExponent t_savedLetters) H → va_D A (pX11_parseImage cy h t_kind t_exponent t_letters t_images t_imageSizes t_input t_fed t_at t_rowSize t_steps t_foundMany t_keptMany t_keptLetters t_isFull t_isSaved t_savedKind t_savedExponent t_savedLetters) → va_S A s.heap H locs → lv_has ls 5 [(0, .ref (h 0)), (1, .int x1), (2, .int x2), (3, .int x3)] → W p l e rX11_parseImage s m args below meth c H locs 0 0 (MQ below (va_Qi (fun (r : Int32) (u : (Nat → Int32) × (Nat → Int32) × Int32 × Int32) => post r u.1 u.2.1 u.2.2.1 u.2.2.2) (fun (u : (Nat → Int32) × (Nat → Int32) × Int32 × Int32) (t : State) => va_P (dC, dI) vwCl (pX11_parseImage cy h t_kind t_exponent t_letters u.1 u.2.1 t_input u.2.2.1 u.2.2.2 t_rowSize t_steps t_foundMany t_keptMany t_keptLetters t_isFull t_isSaved t_savedKind t_savedExponent t_savedLetters) t.heap) A) args s 0 0 A) (F0 m 109 ls []) := by
  have C1 := C0
  obtain ⟨hx, hb, hr, hml, hown, hts, hlocks, hK, hA⟩ := C1
  intro t_images t_imageSizes t_fed t_at x1 x2 x3 hv H locs ls hP hD hS hl
  refine lv_aload_n hx hb dX11_parseImage_109 rfl (lv_at hl 0 rfl) ?_
  refine va_get (D := (dC, dI)) (ci := 11) (v := .int t_at) (C := RX11) (T := TX11) (N := 36) hx hb hts nX11_parseImage_X11 hown hK hP 0 rfl rfl 10 (by decide) (hts _ mX11_parseImage_2) (fun _ h9 => h9) rfl dX11_parseImage_110 ?_
  refine lv_iload_n hx hb dX11_parseImage_113 rfl (lv_at hl 1 rfl) ?_
  refine lv_icmp_ge (tgt := 125) hx hb dX11_parseImage_114 (by decide) (fun c_17 => ?_) (fun c_17 => ?_)
  · have hv := hv.1 c_17
    refine lv_aload_n hx hb dX11_parseImage_125 rfl (lv_at hl 0 rfl) ?_
    refine va_get (D := (dC, dI)) (ci := 11) (v := .ref (h 2)) (C := RX11) (T := TX11) (N := 36) hx hb hts nX11_parseImage_X11 hown hK hP 0 rfl rfl 7 (by decide) (hts _ mX11_parseImage_3) (fun _ h9 => h9) rfl dX11_parseImage_126 ?_
    refine lv_iload_n hx hb dX11_parseImage_129 rfl (lv_at hl 2 rfl) ?_
    refine lv_iload_n hx hb dX11_parseImage_130 rfl (lv_at hl 3 rfl) ?_
    have h_15 := hv.1
    have hv := hv.2
    refine va_iast hx hb hK hP hD hS 2 0 rfl rfl h_15 dX11_parseImage_131 (fun H locs hP hD hS => ?_)
    have hP : va_P (dC, dI) vwCl (pX11_parseImage cy h t_kind t_exponent t_letters t_images (upd t_imageSizes x2.toNatClampNeg x3) t_input t_fed t_at t_rowSize t_steps t_foundMany t_keptMany t_keptLetters t_isFull t_isSaved t_savedKind t_savedExponent t_savedLetters) H := hP
    have hD : va_D A (pX11_parseImage cy h t_kind t_exponent t_letters t_images (upd t_imageSizes x2.toNatClampNeg x3) t_input t_fed t_at t_rowSize t_steps t_foundMany t_keptMany t_keptLetters t_isFull t_isSaved t_savedKind t_savedExponent t_savedLetters) := hD
    refine lv_iconst (v := 0) hx hb dX11_parseImage_132 (by decide) ?_
    refine lv_istore (lv' := [(4, .int 0), (0, .ref (h 0)), (1, .int x1), (2, .int x2), (3, .int x3)]) hx hb dX11_parseImage_133 hl (by decide) rfl (fun ls hl => ?_)
    obtain ⟨n_16, hv⟩ := hv
    exact wX11_parseImage_135 l h post  t_kind t_exponent t_letters t_input t_rowSize t_steps t_foundMany t_keptMany t_keptLetters t_isFull t_isSaved t_savedKind t_savedExponent t_savedLetters C0 n_16 t_images (upd t_imageSizes x2.toNatClampNeg x3) t_fed t_at x2 x3 0 hv _ _ _ hP hD hS (lv_sub hl [1, 3, 4, 0] rfl)
  · have hv := hv.2 c_17
    refine lv_bipush (v := (-100)) hx hb dX11_parseImage_117 (by decide) ?_
    refine lv_aload_n hx hb dX11_parseImage_119 rfl (lv_at hl 0 rfl) ?_
    refine va_get (D := (dC, dI)) (ci := 11) (v := .int t_at) (C := RX11) (T := TX11) (N := 36) hx hb hts nX11_parseImage_X11 hown hK hP 0 rfl rfl 10 (by decide) (hts _ mX11_parseImage_2) (fun _ h9 => h9) rfl dX11_parseImage_120 ?_
    refine lv_isub hx hb dX11_parseImage_123 ?_
    exact W.iret (v := ((-100 : Int32) - t_at)) hx hb hr (fun t ht hW => ⟨⟨((-100 : Int32) - t_at), (t_images, t_imageSizes, t_fed, t_at), rfl, hv, va_Ph ht hP⟩, hS.F ht⟩) hS.2.2 dX11_parseImage_124
set_option maxHeartbeats 4000000 in
set_option maxRecDepth 100000 in
theorem wX11_parseImage_78 {p : Program} (l : Launch) {e : Env} {s : State} {m : MethodId} {args : Array Value} {below : List Frame} {meth : Method} {c : Code} {dC : Nat → ClassId} {dI : Nat → Nat → Nat} {cy : Nat → ClassId} {A : Nat → Prop} (h : Nat → Nat) (post : Int32 → (Nat → Int32) → (Nat → Int32) → Int32 → Int32 → Prop)   (t_kind : Int32) (t_exponent : Int32) (t_letters : Int32) (t_input : Nat → Int32) (t_rowSize : Int32) (t_steps : Int32) (t_foundMany : Int32) (t_keptMany : Int32) (t_keptLetters : Int32) (t_isFull : Int32) (t_isSaved : Int32) (t_savedKind : Int32) (t_savedExponent : Int32) (t_savedLetters : Int32)  (C0 : cx p s m args meth c cX11_parseImage 5 (some .int) wsX11_parseImage RX11 dC dI cy A)  : ∀ (n : Nat) (t_images : Nat → Int32) (t_imageSizes : Nat → Int32) (t_fed : Int32) (t_at : Int32) (x1 : Int32) (x2 : Int32) (x3 : Int32), VX11_parseImage_78 post t_letters t_input n t_images t_imageSizes t_fed t_at x1 x2 x3 → ∀ (H : Heap) (locs : List Loc) (ls : Array Slot), va_P (dC, dI) vwCl (pX11_parseImage cy h t_kind t_exponent t_letters t_images t_imageSizes t_input t_fed t_at t_rowSize t_steps t_foundMany t_keptMany t_keptLetters t_isFull t_isSaved t_savedKind t_savedExponent t_savedLetters) H → va_D A (pX11_parseImage cy h t_kind t_exponent t_letters t_images t_imageSizes t_input t_fed t_at t_rowSize t_steps t_foundMany t_keptMany t_keptLetters t_isFull t_isSaved t_savedKind t_savedExponent t_savedLetters) → va_S A s.heap H locs → lv_has ls 5 [(0, .ref (h 0)), (1, .int x1), (2, .int x2), (3, .int x3)] → W p l e rX11_parseImage s m args below meth c H locs 0 0 (MQ below (va_Qi (fun (r : Int32) (u : (Nat → Int32) × (Nat → Int32) × Int32 × Int32) => post r u.1 u.2.1 u.2.2.1 u.2.2.2) (fun (u : (Nat → Int32) × (Nat → Int32) × Int32 × Int32) (t : State) => va_P (dC, dI) vwCl (pX11_parseImage cy h t_kind t_exponent t_letters u.1 u.2.1 t_input u.2.2.1 u.2.2.2 t_rowSize t_steps t_foundMany t_keptMany t_keptLetters t_isFull t_isSaved t_savedKind t_savedExponent t_savedLetters) t.heap) A) args s 0 0 A) (F0 m 78 ls []) := by
  have C1 := C0
  obtain ⟨hx, hb, hr, hml, hown, hts, hlocks, hK, hA⟩ := C1
  intro n
  induction n with
  | zero => intro t_images t_imageSizes t_fed t_at x1 x2 x3 hv; exact hv.elim
  | succ n ih =>
    intro t_images t_imageSizes t_fed t_at x1 x2 x3 hv H locs ls hP hD hS hl
    refine lv_iload_n hx hb dX11_parseImage_78 rfl (lv_at hl 3 rfl) ?_
    refine lv_iconst (v := 4) hx hb dX11_parseImage_79 (by decide) ?_
    refine lv_icmp_ge (tgt := 109) hx hb dX11_parseImage_80 (by decide) (fun c_14 => ?_) (fun c_14 => ?_)
    · have hv := hv.1 c_14
      exact wX11_parseImage_109 l h post  t_kind t_exponent t_letters t_input t_rowSize t_steps t_foundMany t_keptMany t_keptLetters t_isFull t_isSaved t_savedKind t_savedExponent t_savedLetters C0 t_images t_imageSizes t_fed t_at x1 x2 x3 hv _ _ _ hP hD hS (lv_sub hl [0, 1, 2, 3] rfl)
    · have hv := hv.2 c_14
      refine lv_aload_n hx hb dX11_parseImage_83 rfl (lv_at hl 0 rfl) ?_
      refine lv_iload_n hx hb dX11_parseImage_84 rfl (lv_at hl 1 rfl) ?_
      refine cb_VI (As := [.int x1]) (rest := []) ⟨hx, hb, hml, hown, hts⟩ (kX11_letterAt l dC dI cy (adl [h 0, h 3, h 4, h 5, h 6, h 1, h 2, h 7, h 8, h 9, h 10, h 11, h 12, h 13, h 14, h 15, h 16, h 17, h 18, h 19, h 20, h 21]) t_kind t_exponent t_letters t_input t_fed t_at t_rowSize t_steps t_foundMany t_keptMany t_keptLetters t_isFull t_isSaved t_savedKind t_savedExponent t_savedLetters x1 _ hv) (cwV 1 hts gX11_parseImage_X11_letterAt rfl rfl rfl zX11_letterAt ⟨Nat.le_of_ble_eq_true rfl, Nat.le_of_ble_eq_true rfl⟩) hK hP hD hS hA [0, 3] [some 0, none, none, some 1] rfl rfl rfl (ci := 11) rfl rfl (fun _ => rfl) rfl hl.1 rfl (Nat.le_of_ble_eq_true rfl) dX11_parseImage_85 (fun r_11 w_13 H locs hv hP hD hS => ?_)
      have hP : va_P (dC, dI) vwCl (pX11_parseImage cy h t_kind t_exponent t_letters t_images t_imageSizes t_input t_fed t_at t_rowSize t_steps t_foundMany t_keptMany t_keptLetters t_isFull t_isSaved t_savedKind t_savedExponent t_savedLetters) H := hP
      have hD : va_D A (pX11_parseImage cy h t_kind t_exponent t_letters t_images t_imageSizes t_input t_fed t_at t_rowSize t_steps t_foundMany t_keptMany t_keptLetters t_isFull t_isSaved t_savedKind t_savedExponent t_savedLetters) := hD
      refine lv_bipush (v := (-2)) hx hb dX11_parseImage_88 (by decide) ?_
      refine lv_icmp_eq (tgt := 109) hx hb dX11_parseImage_90 (by decide) (fun c_12 => ?_) (fun c_12 => ?_)
      · have hv := hv.1 c_12
        exact wX11_parseImage_109 l h post  t_kind t_exponent t_letters t_input t_rowSize t_steps t_foundMany t_keptMany t_keptLetters t_isFull t_isSaved t_savedKind t_savedExponent t_savedLetters C0 t_images t_imageSizes t_fed t_at x1 x2 x3 hv _ _ _ hP hD hS (lv_sub hl [0, 1, 2, 3] rfl)
      · have hv := hv.2 c_12
        refine lv_iinc (v := (x3 + 1)) (lv' := [(3, .int ((x3 + 1))), (0, .ref (h 0)), (1, .int x1), (2, .int x2)]) hx hb dX11_parseImage_93 hl (k := 3) rfl rfl (by decide) rfl (fun ls hl => ?_)
        refine lv_aload_n hx hb dX11_parseImage_96 rfl (lv_at hl 1 rfl) ?_
        refine lv_dup hx hb dX11_parseImage_97 rfl ?_
        refine va_get (D := (dC, dI)) (ci := 11) (v := .int t_at) (C := RX11) (T := TX11) (N := 36) hx hb hts nX11_parseImage_X11 hown hK hP 0 rfl rfl 10 (by decide) (hts _ mX11_parseImage_2) (fun _ h9 => h9) rfl dX11_parseImage_98 ?_
        refine lv_iconst (v := 1) hx hb dX11_parseImage_101 (by decide) ?_
        refine lv_iadd hx hb dX11_parseImage_102 ?_
        refine va_put (D := (dC, dI)) (ci := 11) (v := .int (t_at + 1)) (ty := .int) (C := RX11) (T := TX11) (N := 36) hx hb hts nX11_parseImage_X11 tyX11 tyX11_ok nmX11 hown hK hP hD hS 0 rfl rfl 10 (by decide) (hts _ mX11_parseImage_2) (fun _ h9 => h9) rfl (by decide +kernel) rfl rfl (Nat.le_of_ble_eq_true rfl) dX11_parseImage_103 (fun H locs hP hD hS => ?_)
        have hP : va_P (dC, dI) vwCl (pX11_parseImage cy h t_kind t_exponent t_letters t_images t_imageSizes t_input t_fed (t_at + 1) t_rowSize t_steps t_foundMany t_keptMany t_keptLetters t_isFull t_isSaved t_savedKind t_savedExponent t_savedLetters) H := hP
        have hD : va_D A (pX11_parseImage cy h t_kind t_exponent t_letters t_images t_imageSizes t_input t_fed (t_at + 1) t_rowSize t_steps t_foundMany t_keptMany t_keptLetters t_isFull t_isSaved t_savedKind t_savedExponent t_savedLetters) := hD
        refine lv_goto (tgt := 78) hx hb dX11_parseImage_106 (by decide) ?_
        exact ih t_images t_imageSizes t_fed (t_at + 1) x1 x2 (x3 + 1) hv _ _ _ hP hD hS (lv_sub hl [1, 2, 3, 0] rfl)
set_option maxHeartbeats 4000000 in
set_option maxRecDepth 100000 in
theorem wX11_parseImage_0 {p : Program} (l : Launch) {e : Env} {s : State} {m : MethodId} {args : Array Value} {below : List Frame} {meth : Method} {c : Code} {dC : Nat → ClassId} {dI : Nat → Nat → Nat} {cy : Nat → ClassId} {A : Nat → Prop} (h : Nat → Nat) (post : Int32 → (Nat → Int32) → (Nat → Int32) → Int32 → Int32 → Prop)   (t_kind : Int32) (t_exponent : Int32) (t_letters : Int32) (t_input : Nat → Int32) (t_rowSize : Int32) (t_steps : Int32) (t_foundMany : Int32) (t_keptMany : Int32) (t_keptLetters : Int32) (t_isFull : Int32) (t_isSaved : Int32) (t_savedKind : Int32) (t_savedExponent : Int32) (t_savedLetters : Int32)  (C0 : cx p s m args meth c cX11_parseImage 5 (some .int) wsX11_parseImage RX11 dC dI cy A)  : ∀ (t_images : Nat → Int32) (t_imageSizes : Nat → Int32) (t_fed : Int32) (t_at : Int32), VX11_parseImage post t_letters t_input t_images t_imageSizes t_fed t_at → ∀ (H : Heap) (locs : List Loc) (ls : Array Slot), va_P (dC, dI) vwCl (pX11_parseImage cy h t_kind t_exponent t_letters t_images t_imageSizes t_input t_fed t_at t_rowSize t_steps t_foundMany t_keptMany t_keptLetters t_isFull t_isSaved t_savedKind t_savedExponent t_savedLetters) H → va_D A (pX11_parseImage cy h t_kind t_exponent t_letters t_images t_imageSizes t_input t_fed t_at t_rowSize t_steps t_foundMany t_keptMany t_keptLetters t_isFull t_isSaved t_savedKind t_savedExponent t_savedLetters) → va_S A s.heap H locs → lv_has ls 5 [(0, .ref (h 0))] → W p l e rX11_parseImage s m args below meth c H locs 0 0 (MQ below (va_Qi (fun (r : Int32) (u : (Nat → Int32) × (Nat → Int32) × Int32 × Int32) => post r u.1 u.2.1 u.2.2.1 u.2.2.2) (fun (u : (Nat → Int32) × (Nat → Int32) × Int32 × Int32) (t : State) => va_P (dC, dI) vwCl (pX11_parseImage cy h t_kind t_exponent t_letters u.1 u.2.1 t_input u.2.2.1 u.2.2.2 t_rowSize t_steps t_foundMany t_keptMany t_keptLetters t_isFull t_isSaved t_savedKind t_savedExponent t_savedLetters) t.heap) A) args s 0 0 A) (F0 m 0 ls []) := by
  have C1 := C0
  obtain ⟨hx, hb, hr, hml, hown, hts, hlocks, hK, hA⟩ := C1
  intro t_images t_imageSizes t_fed t_at hv H locs ls hP hD hS hl
  refine lv_aload_n hx hb dX11_parseImage_0 rfl (lv_at hl 0 rfl) ?_
  refine va_get (D := (dC, dI)) (ci := 11) (v := .int t_fed) (C := RX11) (T := TX11) (N := 36) hx hb hts nX11_parseImage_X11 hown hK hP 0 rfl rfl 9 (by decide) (hts _ mX11_parseImage_1) (fun _ h9 => h9) rfl dX11_parseImage_1 ?_
  refine lv_istore_n (lv' := [(1, .int t_fed), (0, .ref (h 0))]) hx hb dX11_parseImage_4 rfl hl (by decide) rfl (fun ls hl => ?_)
  refine lv_aload_n hx hb dX11_parseImage_5 rfl (lv_at hl 1 rfl) ?_
  refine lv_iconst (v := 0) hx hb dX11_parseImage_6 (by decide) ?_
  refine va_put (D := (dC, dI)) (ci := 11) (v := .int 0) (ty := .int) (C := RX11) (T := TX11) (N := 36) hx hb hts nX11_parseImage_X11 tyX11 tyX11_ok nmX11 hown hK hP hD hS 0 rfl rfl 9 (by decide) (hts _ mX11_parseImage_1) (fun _ h9 => h9) rfl (by decide +kernel) rfl rfl (Nat.le_of_ble_eq_true rfl) dX11_parseImage_7 (fun H locs hP hD hS => ?_)
  have hP : va_P (dC, dI) vwCl (pX11_parseImage cy h t_kind t_exponent t_letters t_images t_imageSizes t_input 0 t_at t_rowSize t_steps t_foundMany t_keptMany t_keptLetters t_isFull t_isSaved t_savedKind t_savedExponent t_savedLetters) H := hP
  have hD : va_D A (pX11_parseImage cy h t_kind t_exponent t_letters t_images t_imageSizes t_input 0 t_at t_rowSize t_steps t_foundMany t_keptMany t_keptLetters t_isFull t_isSaved t_savedKind t_savedExponent t_savedLetters) := hD
  refine lv_aload_n hx hb dX11_parseImage_10 rfl (lv_at hl 1 rfl) ?_
  refine lv_iconst (v := 0) hx hb dX11_parseImage_11 (by decide) ?_
  refine va_put (D := (dC, dI)) (ci := 11) (v := .int 0) (ty := .int) (C := RX11) (T := TX11) (N := 36) hx hb hts nX11_parseImage_X11 tyX11 tyX11_ok nmX11 hown hK hP hD hS 0 rfl rfl 10 (by decide) (hts _ mX11_parseImage_2) (fun _ h9 => h9) rfl (by decide +kernel) rfl rfl (Nat.le_of_ble_eq_true rfl) dX11_parseImage_12 (fun H locs hP hD hS => ?_)
  have hP : va_P (dC, dI) vwCl (pX11_parseImage cy h t_kind t_exponent t_letters t_images t_imageSizes t_input 0 0 t_rowSize t_steps t_foundMany t_keptMany t_keptLetters t_isFull t_isSaved t_savedKind t_savedExponent t_savedLetters) H := hP
  have hD : va_D A (pX11_parseImage cy h t_kind t_exponent t_letters t_images t_imageSizes t_input 0 0 t_rowSize t_steps t_foundMany t_keptMany t_keptLetters t_isFull t_isSaved t_savedKind t_savedExponent t_savedLetters) := hD
  refine lv_aload_n hx hb dX11_parseImage_15 rfl (lv_at hl 1 rfl) ?_
  refine lv_iload_n hx hb dX11_parseImage_16 rfl (lv_at hl 0 rfl) ?_
  refine cb_VI (As := [.int t_fed]) (rest := []) ⟨hx, hb, hml, hown, hts⟩ (kX11_letterAt l dC dI cy (adl [h 0, h 3, h 4, h 5, h 6, h 1, h 2, h 7, h 8, h 9, h 10, h 11, h 12, h 13, h 14, h 15, h 16, h 17, h 18, h 19, h 20, h 21]) t_kind t_exponent t_letters t_input 0 0 t_rowSize t_steps t_foundMany t_keptMany t_keptLetters t_isFull t_isSaved t_savedKind t_savedExponent t_savedLetters t_fed _ hv) (cwV 1 hts gX11_parseImage_X11_letterAt rfl rfl rfl zX11_letterAt ⟨Nat.le_of_ble_eq_true rfl, Nat.le_of_ble_eq_true rfl⟩) hK hP hD hS hA [0, 3] [some 0, none, none, some 1] rfl rfl rfl (ci := 11) rfl rfl (fun _ => rfl) rfl hl.1 rfl (Nat.le_of_ble_eq_true rfl) dX11_parseImage_17 (fun r_1 w_10 H locs hv hP hD hS => ?_)
  have hP : va_P (dC, dI) vwCl (pX11_parseImage cy h t_kind t_exponent t_letters t_images t_imageSizes t_input 0 0 t_rowSize t_steps t_foundMany t_keptMany t_keptLetters t_isFull t_isSaved t_savedKind t_savedExponent t_savedLetters) H := hP
  have hD : va_D A (pX11_parseImage cy h t_kind t_exponent t_letters t_images t_imageSizes t_input 0 0 t_rowSize t_steps t_foundMany t_keptMany t_keptLetters t_isFull t_isSaved t_savedKind t_savedExponent t_savedLetters) := hD
  refine lv_istore_n (lv' := [(2, .int r_1), (1, .int t_fed), (0, .ref (h 0))]) hx hb dX11_parseImage_20 rfl hl (by decide) rfl (fun ls hl => ?_)
  refine lv_iload_n hx hb dX11_parseImage_21 rfl (lv_at hl 0 rfl) ?_
  refine lv_bipush (v := (-2)) hx hb dX11_parseImage_22 (by decide) ?_
  refine lv_icmp_ne (tgt := 30) hx hb dX11_parseImage_24 (by decide) (fun c_9 => ?_) (fun c_9 => ?_)
  · have hv := hv.1 c_9
    refine lv_aload_n hx hb dX11_parseImage_30 rfl (lv_at hl 2 rfl) ?_
    refine lv_dup hx hb dX11_parseImage_31 rfl ?_
    refine va_get (D := (dC, dI)) (ci := 11) (v := .int 0) (C := RX11) (T := TX11) (N := 36) hx hb hts nX11_parseImage_X11 hown hK hP 0 rfl rfl 10 (by decide) (hts _ mX11_parseImage_2) (fun _ h9 => h9) rfl dX11_parseImage_32 ?_
    refine lv_iconst (v := 1) hx hb dX11_parseImage_35 (by decide) ?_
    refine lv_iadd hx hb dX11_parseImage_36 ?_
    refine va_put (D := (dC, dI)) (ci := 11) (v := .int ((0 : Int32) + 1)) (ty := .int) (C := RX11) (T := TX11) (N := 36) hx hb hts nX11_parseImage_X11 tyX11 tyX11_ok nmX11 hown hK hP hD hS 0 rfl rfl 10 (by decide) (hts _ mX11_parseImage_2) (fun _ h9 => h9) rfl (by decide +kernel) rfl rfl (Nat.le_of_ble_eq_true rfl) dX11_parseImage_37 (fun H locs hP hD hS => ?_)
    have hP : va_P (dC, dI) vwCl (pX11_parseImage cy h t_kind t_exponent t_letters t_images t_imageSizes t_input 0 ((0 : Int32) + 1) t_rowSize t_steps t_foundMany t_keptMany t_keptLetters t_isFull t_isSaved t_savedKind t_savedExponent t_savedLetters) H := hP
    have hD : va_D A (pX11_parseImage cy h t_kind t_exponent t_letters t_images t_imageSizes t_input 0 ((0 : Int32) + 1) t_rowSize t_steps t_foundMany t_keptMany t_keptLetters t_isFull t_isSaved t_savedKind t_savedExponent t_savedLetters) := hD
    refine lv_aload_n hx hb dX11_parseImage_40 rfl (lv_at hl 2 rfl) ?_
    refine lv_iload_n hx hb dX11_parseImage_41 rfl (lv_at hl 1 rfl) ?_
    refine cb_VI (As := [.int t_fed]) (rest := []) ⟨hx, hb, hml, hown, hts⟩ (kX11_sign l dC dI cy (adl [h 0, h 3, h 4, h 5, h 6, h 1, h 2, h 7, h 8, h 9, h 10, h 11, h 12, h 13, h 14, h 15, h 16, h 17, h 18, h 19, h 20, h 21]) t_kind t_exponent t_letters t_input 0 ((0 : Int32) + 1) t_rowSize t_steps t_foundMany t_keptMany t_keptLetters t_isFull t_isSaved t_savedKind t_savedExponent t_savedLetters t_fed _ hv) (cwV 1 hts gX11_parseImage_X11_sign rfl rfl rfl zX11_sign ⟨Nat.le_of_ble_eq_true rfl, Nat.le_of_ble_eq_true rfl⟩) hK hP hD hS hA [0, 3] [some 0, none, none, some 1] rfl rfl rfl (ci := 11) rfl rfl (fun _ => rfl) rfl hl.1 rfl (Nat.le_of_ble_eq_true rfl) dX11_parseImage_42 (fun r_2 w_8 H locs hv hP hD hS => ?_)
    have hP : va_P (dC, dI) vwCl (pX11_parseImage cy h t_kind t_exponent t_letters t_images t_imageSizes t_input 0 ((0 : Int32) + 1) t_rowSize t_steps t_foundMany t_keptMany t_keptLetters t_isFull t_isSaved t_savedKind t_savedExponent t_savedLetters) H := hP
    have hD : va_D A (pX11_parseImage cy h t_kind t_exponent t_letters t_images t_imageSizes t_input 0 ((0 : Int32) + 1) t_rowSize t_steps t_foundMany t_keptMany t_keptLetters t_isFull t_isSaved t_savedKind t_savedExponent t_savedLetters) := hD
    refine lv_bipush (v := 58) hx hb dX11_parseImage_45 (by decide) ?_
    refine lv_icmp_eq (tgt := 53) hx hb dX11_parseImage_47 (by decide) (fun c_7 => ?_) (fun c_7 => ?_)
    · have hv := hv.1 c_7
      refine lv_aload_n hx hb dX11_parseImage_53 rfl (lv_at hl 2 rfl) ?_
      refine lv_dup hx hb dX11_parseImage_54 rfl ?_
      refine va_get (D := (dC, dI)) (ci := 11) (v := .int (((0 : Int32) + 1))) (C := RX11) (T := TX11) (N := 36) hx hb hts nX11_parseImage_X11 hown hK hP 0 rfl rfl 10 (by decide) (hts _ mX11_parseImage_2) (fun _ h9 => h9) rfl dX11_parseImage_55 ?_
      refine lv_iconst (v := 1) hx hb dX11_parseImage_58 (by decide) ?_
      refine lv_iadd hx hb dX11_parseImage_59 ?_
      refine va_put (D := (dC, dI)) (ci := 11) (v := .int (((0 : Int32) + 1) + 1)) (ty := .int) (C := RX11) (T := TX11) (N := 36) hx hb hts nX11_parseImage_X11 tyX11 tyX11_ok nmX11 hown hK hP hD hS 0 rfl rfl 10 (by decide) (hts _ mX11_parseImage_2) (fun _ h9 => h9) rfl (by decide +kernel) rfl rfl (Nat.le_of_ble_eq_true rfl) dX11_parseImage_60 (fun H locs hP hD hS => ?_)
      have hP : va_P (dC, dI) vwCl (pX11_parseImage cy h t_kind t_exponent t_letters t_images t_imageSizes t_input 0 (((0 : Int32) + 1) + 1) t_rowSize t_steps t_foundMany t_keptMany t_keptLetters t_isFull t_isSaved t_savedKind t_savedExponent t_savedLetters) H := hP
      have hD : va_D A (pX11_parseImage cy h t_kind t_exponent t_letters t_images t_imageSizes t_input 0 (((0 : Int32) + 1) + 1) t_rowSize t_steps t_foundMany t_keptMany t_keptLetters t_isFull t_isSaved t_savedKind t_savedExponent t_savedLetters) := hD
      refine lv_aload_n hx hb dX11_parseImage_63 rfl (lv_at hl 2 rfl) ?_
      refine lv_iload_n hx hb dX11_parseImage_64 rfl (lv_at hl 1 rfl) ?_
      refine cb_VI (As := [.int t_fed]) (rest := []) ⟨hx, hb, hml, hown, hts⟩ (kX11_letterAt l dC dI cy (adl [h 0, h 3, h 4, h 5, h 6, h 1, h 2, h 7, h 8, h 9, h 10, h 11, h 12, h 13, h 14, h 15, h 16, h 17, h 18, h 19, h 20, h 21]) t_kind t_exponent t_letters t_input 0 (((0 : Int32) + 1) + 1) t_rowSize t_steps t_foundMany t_keptMany t_keptLetters t_isFull t_isSaved t_savedKind t_savedExponent t_savedLetters t_fed _ hv) (cwV 1 hts gX11_parseImage_X11_letterAt rfl rfl rfl zX11_letterAt ⟨Nat.le_of_ble_eq_true rfl, Nat.le_of_ble_eq_true rfl⟩) hK hP hD hS hA [0, 3] [some 0, none, none, some 1] rfl rfl rfl (ci := 11) rfl rfl (fun _ => rfl) rfl hl.1 rfl (Nat.le_of_ble_eq_true rfl) dX11_parseImage_65 (fun r_3 w_6 H locs hv hP hD hS => ?_)
      have hP : va_P (dC, dI) vwCl (pX11_parseImage cy h t_kind t_exponent t_letters t_images t_imageSizes t_input 0 (((0 : Int32) + 1) + 1) t_rowSize t_steps t_foundMany t_keptMany t_keptLetters t_isFull t_isSaved t_savedKind t_savedExponent t_savedLetters) H := hP
      have hD : va_D A (pX11_parseImage cy h t_kind t_exponent t_letters t_images t_imageSizes t_input 0 (((0 : Int32) + 1) + 1) t_rowSize t_steps t_foundMany t_keptMany t_keptLetters t_isFull t_isSaved t_savedKind t_savedExponent t_savedLetters) := hD
      refine lv_bipush (v := (-2)) hx hb dX11_parseImage_68 (by decide) ?_
      refine lv_icmp_ne (tgt := 76) hx hb dX11_parseImage_70 (by decide) (fun c_5 => ?_) (fun c_5 => ?_)
      · have hv := hv.1 c_5
        refine lv_iconst (v := 0) hx hb dX11_parseImage_76 (by decide) ?_
        refine lv_istore_n (lv' := [(3, .int 0), (2, .int r_1), (1, .int t_fed), (0, .ref (h 0))]) hx hb dX11_parseImage_77 rfl hl (by decide) rfl (fun ls hl => ?_)
        obtain ⟨n_4, hv⟩ := hv
        exact wX11_parseImage_78 l h post  t_kind t_exponent t_letters t_input t_rowSize t_steps t_foundMany t_keptMany t_keptLetters t_isFull t_isSaved t_savedKind t_savedExponent t_savedLetters C0 n_4 t_images t_imageSizes 0 (((0 : Int32) + 1) + 1) t_fed r_1 0 hv _ _ _ hP hD hS (lv_sub hl [3, 2, 1, 0] rfl)
      · have hv := hv.2 c_5
        refine lv_bipush (v := (-102)) hx hb dX11_parseImage_73 (by decide) ?_
        exact W.iret (v := (-102)) hx hb hr (fun t ht hW => ⟨⟨(-102), (t_images, t_imageSizes, 0, (((0 : Int32) + 1) + 1)), rfl, hv, va_Ph ht hP⟩, hS.F ht⟩) hS.2.2 dX11_parseImage_75
    · have hv := hv.2 c_7
      refine lv_bipush (v := (-101)) hx hb dX11_parseImage_50 (by decide) ?_
      exact W.iret (v := (-101)) hx hb hr (fun t ht hW => ⟨⟨(-101), (t_images, t_imageSizes, 0, ((0 : Int32) + 1)), rfl, hv, va_Ph ht hP⟩, hS.F ht⟩) hS.2.2 dX11_parseImage_52
  · have hv := hv.2 c_9
    refine lv_bipush (v := (-100)) hx hb dX11_parseImage_27 (by decide) ?_
    exact W.iret (v := (-100)) hx hb hr (fun t ht hW => ⟨⟨(-100), (t_images, t_imageSizes, 0, 0), rfl, hv, va_Ph ht hP⟩, hS.F ht⟩) hS.2.2 dX11_parseImage_29
theorem kX11_parseImage (l : Launch) (dC : Nat → ClassId) (dI : Nat → Nat → Nat) (cy : Nat → ClassId) (h : Nat → Nat) (t_kind : Int32) (t_exponent : Int32) (t_letters : Int32) (t_images : Nat → Int32) (t_imageSizes : Nat → Int32) (t_input : Nat → Int32) (t_fed : Int32) (t_at : Int32) (t_rowSize : Int32) (t_steps : Int32) (t_foundMany : Int32) (t_keptMany : Int32) (t_keptLetters : Int32) (t_isFull : Int32) (t_isSaved : Int32) (t_savedKind : Int32) (t_savedExponent : Int32) (t_savedLetters : Int32)  (post : Int32 → (Nat → Int32) → (Nat → Int32) → Int32 → Int32 → Prop) (hv : VX11_parseImage post t_letters t_input t_images t_imageSizes t_fed t_at) : CtI l yX11_parseImage wsX11_parseImage rX11_parseImage dC dI cy [.ref (h 0)] (pX11_parseImage cy h t_kind t_exponent t_letters t_images t_imageSizes t_input t_fed t_at t_rowSize t_steps t_foundMany t_keptMany t_keptLetters t_isFull t_isSaved t_savedKind t_savedExponent t_savedLetters) (fun (u : (Nat → Int32) × (Nat → Int32) × Int32 × Int32) => pX11_parseImage cy h t_kind t_exponent t_letters u.1 u.2.1 t_input u.2.2.1 u.2.2.2 t_rowSize t_steps t_foundMany t_keptMany t_keptLetters t_isFull t_isSaved t_savedKind t_savedExponent t_savedLetters) (fun (r : Int32) (u : (Nat → Int32) × (Nat → Int32) × Int32 × Int32) => post r u.1 u.2.1 u.2.2.1 u.2.2.2) :=
  ct_ofI (by decide) rfl (Nat.le_of_ble_eq_true rfl) (fun p e s m below meth c A ls C0 hP hD hS hl => wX11_parseImage_0 l h post t_kind t_exponent t_letters t_input t_rowSize t_steps t_foundMany t_keptMany t_keptLetters t_isFull t_isSaved t_savedKind t_savedExponent t_savedLetters C0 t_images t_imageSizes t_fed t_at hv _ _ _ hP hD hS hl)
theorem mX11_imageLength_1 : (Cond.fieldLink RX11 32 "AbelianPowersModel" "imageSizes" "[I") ∈ wsX11_imageLength := List.mem_of_getElem? (i := 1) rfl
theorem nX11_imageLength_X11 : ∀ w ∈ wsX110, w ∈ wsX11_imageLength := fun _ h => List.mem_cons_of_mem _ (List.mem_append_right _ h)
theorem zX11_imageLength : yX11_imageLength.cls = RX11 ∧ yX11_imageLength.cls ≠ "java/lang/invoke/MethodHandle" ∧ yX11_imageLength.cls ≠ "java/lang/invoke/VarHandle" ∧ (parseMethodDescriptor yX11_imageLength.desc).map (fun d => d.parameters.length) = some 1 := by decide +kernel
abbrev rX11_imageLength : Room := { frames := 2, cells := 0, slots := 0, locals := 43 }
abbrev pX11_imageLength (cy : Nat → ClassId) (h : Nat → Nat) (t_kind : Int32) (t_exponent : Int32) (t_letters : Int32) (t_imageSizes : Nat → Int32) (t_fed : Int32) (t_at : Int32) (t_rowSize : Int32) (t_steps : Int32) (t_foundMany : Int32) (t_keptMany : Int32) (t_keptLetters : Int32) (t_isFull : Int32) (t_isSaved : Int32) (t_savedKind : Int32) (t_savedExponent : Int32) (t_savedLetters : Int32) : va_W := [(h 0, .inr (11, [.int t_kind, .int t_exponent, .int t_letters, .ref (h 2), .ref (h 3), .ref (h 4), .ref (h 5), .ref (h 1), .ref (h 6), .int t_fed, .int t_at, .ref (h 7), .int t_rowSize, .int t_steps, .ref (h 8), .int t_foundMany, .ref (h 9), .int t_keptMany, .int t_keptLetters, .ref (h 10), .ref (h 11), .ref (h 12), .ref (h 13), .ref (h 14), .int t_isFull, .ref (h 15), .ref (h 16), .int t_isSaved, .int t_savedKind, .int t_savedExponent, .int t_savedLetters, .ref (h 17), .ref (h 18), .ref (h 19), .ref (h 20), .ref (h 21)])), (h 1, .inl (cy 0, 4, .inl t_imageSizes))]
def VX11_imageLength (post : Int32 → Prop)  (t_letters : Int32) (t_imageSizes : Nat → Int32) (p1 : Int32)  : Prop := VX11_isLetter (fun r_1 => ((r_1 = 0) → post (-1 : Int32)) ∧ (¬ (r_1 = 0) → vp_in p1 4 ∧ (∀ y_2 : Int32, y_2 = (t_imageSizes p1.toNatClampNeg) → post y_2))) t_letters p1
set_option maxHeartbeats 4000000 in
set_option maxRecDepth 100000 in
theorem wX11_imageLength_0 {p : Program} (l : Launch) {e : Env} {s : State} {m : MethodId} {args : Array Value} {below : List Frame} {meth : Method} {c : Code} {dC : Nat → ClassId} {dI : Nat → Nat → Nat} {cy : Nat → ClassId} {A : Nat → Prop} (h : Nat → Nat) (post : Int32 → Prop)   (t_kind : Int32) (t_exponent : Int32) (t_letters : Int32) (t_imageSizes : Nat → Int32) (t_fed : Int32) (t_at : Int32) (t_rowSize : Int32) (t_steps : Int32) (t_foundMany : Int32) (t_keptMany : Int32) (t_keptLetters : Int32) (t_isFull : Int32) (t_isSaved : Int32) (t_savedKind : Int32) (t_savedExponent : Int32) (t_savedLetters : Int32) (p1 : Int32) (C0 : cx p s m args meth c cX11_imageLength 2 (some .int) wsX11_imageLength RX11 dC dI cy A)  : VX11_imageLength post t_letters t_imageSizes p1  → ∀ (H : Heap) (locs : List Loc) (ls : Array Slot), va_P (dC, dI) vwCl (pX11_imageLength cy h t_kind t_exponent t_letters t_imageSizes t_fed t_at t_rowSize t_steps t_foundMany t_keptMany t_keptLetters t_isFull t_isSaved t_savedKind t_savedExponent t_savedLetters) H → va_D A (pX11_imageLength cy h t_kind t_exponent t_letters t_imageSizes t_fed t_at t_rowSize t_steps t_foundMany t_keptMany t_keptLetters t_isFull t_isSaved t_savedKind t_savedExponent t_savedLetters) → va_S A s.heap H locs → lv_has ls 2 [(0, .ref (h 0)), (1, .int p1)] → W p l e rX11_imageLength s m args below meth c H locs 0 0 (MQ below (va_Qi (fun (r : Int32) (_ : Unit) => post r) (fun (_ : Unit) (t : State) => va_P (dC, dI) vwCl (pX11_imageLength cy h t_kind t_exponent t_letters t_imageSizes t_fed t_at t_rowSize t_steps t_foundMany t_keptMany t_keptLetters t_isFull t_isSaved t_savedKind t_savedExponent t_savedLetters) t.heap) A) args s 0 0 A) (F0 m 0 ls []) := by
  have C1 := C0
  obtain ⟨hx, hb, hr, hml, hown, hts, hlocks, hK, hA⟩ := C1
  intro  hv H locs ls hP hD hS hl
  refine lv_aload_n hx hb dX11_imageLength_0 rfl (lv_at hl 0 rfl) ?_
  refine lv_iload_n hx hb dX11_imageLength_1 rfl (lv_at hl 1 rfl) ?_
  refine cb_VI (As := [.int p1]) (rest := []) ⟨hx, hb, hml, hown, hts⟩ (kX11_isLetter l dC dI cy (adl [h 0, h 2, h 3, h 4, h 5, h 1, h 6, h 7, h 8, h 9, h 10, h 11, h 12, h 13, h 14, h 15, h 16, h 17, h 18, h 19, h 20, h 21]) t_kind t_exponent t_letters t_fed t_at t_rowSize t_steps t_foundMany t_keptMany t_keptLetters t_isFull t_isSaved t_savedKind t_savedExponent t_savedLetters p1 _ hv) (cwV 1 hts gX11_imageLength_X11_isLetter rfl rfl rfl zX11_isLetter ⟨Nat.le_of_ble_eq_true rfl, Nat.le_of_ble_eq_true rfl⟩) hK hP hD hS hA [0] [some 0, none] rfl rfl rfl (ci := 11) rfl rfl (fun _ => rfl) rfl hl.1 rfl (Nat.le_of_ble_eq_true rfl) dX11_imageLength_2 (fun r_1 w_5 H locs hv hP hD hS => ?_)
  have hP : va_P (dC, dI) vwCl (pX11_imageLength cy h t_kind t_exponent t_letters t_imageSizes t_fed t_at t_rowSize t_steps t_foundMany t_keptMany t_keptLetters t_isFull t_isSaved t_savedKind t_savedExponent t_savedLetters) H := hP
  have hD : va_D A (pX11_imageLength cy h t_kind t_exponent t_letters t_imageSizes t_fed t_at t_rowSize t_steps t_foundMany t_keptMany t_keptLetters t_isFull t_isSaved t_savedKind t_savedExponent t_savedLetters) := hD
  refine lv_if_eq (tgt := 17) hx hb dX11_imageLength_5 (by decide) (fun c_4 => ?_) (fun c_4 => ?_)
  · have hv := hv.1 c_4
    refine lv_iconst (v := (-1)) hx hb dX11_imageLength_17 (by decide) ?_
    exact W.iret (v := (-1)) hx hb hr (fun t ht hW => ⟨⟨(-1), (), rfl, hv, va_Ph ht hP⟩, hS.F ht⟩) hS.2.2 dX11_imageLength_18
  · have hv := hv.2 c_4
    refine lv_aload_n hx hb dX11_imageLength_8 rfl (lv_at hl 0 rfl) ?_
    refine va_get (D := (dC, dI)) (ci := 11) (v := .ref (h 1)) (C := RX11) (T := TX11) (N := 36) hx hb hts nX11_imageLength_X11 hown hK hP 0 rfl rfl 7 (by decide) (hts _ mX11_imageLength_1) (fun _ h9 => h9) rfl dX11_imageLength_9 ?_
    refine lv_iload_n hx hb dX11_imageLength_12 rfl (lv_at hl 1 rfl) ?_
    have h_3 := hv.1
    have hv := hv.2
    refine va_iald hx hb hK hP 1 0 rfl rfl h_3 dX11_imageLength_13 ?_
    refine lv_topi (fun y_2 ey_2 => ?_)
    have hv := hv y_2 ey_2
    refine lv_goto (tgt := 18) hx hb dX11_imageLength_14 (by decide) ?_
    exact W.iret (v := y_2) hx hb hr (fun t ht hW => ⟨⟨y_2, (), rfl, hv, va_Ph ht hP⟩, hS.F ht⟩) hS.2.2 dX11_imageLength_18
theorem kX11_imageLength (l : Launch) (dC : Nat → ClassId) (dI : Nat → Nat → Nat) (cy : Nat → ClassId) (h : Nat → Nat) (t_kind : Int32) (t_exponent : Int32) (t_letters : Int32) (t_imageSizes : Nat → Int32) (t_fed : Int32) (t_at : Int32) (t_rowSize : Int32) (t_steps : Int32) (t_foundMany : Int32) (t_keptMany : Int32) (t_keptLetters : Int32) (t_isFull : Int32) (t_isSaved : Int32) (t_savedKind : Int32) (t_savedExponent : Int32) (t_savedLetters : Int32) (p1 : Int32) (post : Int32 → Prop) (hv : VX11_imageLength post t_letters t_imageSizes p1 ) : CtI l yX11_imageLength wsX11_imageLength rX11_imageLength dC dI cy [.ref (h 0), .int p1] (pX11_imageLength cy h t_kind t_exponent t_letters t_imageSizes t_fed t_at t_rowSize t_steps t_foundMany t_keptMany t_keptLetters t_isFull t_isSaved t_savedKind t_savedExponent t_savedLetters) (fun (_ : Unit) => pX11_imageLength cy h t_kind t_exponent t_letters t_imageSizes t_fed t_at t_rowSize t_steps t_foundMany t_keptMany t_keptLetters t_isFull t_isSaved t_savedKind t_savedExponent t_savedLetters) (fun (r : Int32) (_ : Unit) => post r) :=
  ct_ofI (by decide) rfl (Nat.le_of_ble_eq_true rfl) (fun p e s m below meth c A ls C0 hP hD hS hl => wX11_imageLength_0 l h post t_kind t_exponent t_letters t_imageSizes t_fed t_at t_rowSize t_steps t_foundMany t_keptMany t_keptLetters t_isFull t_isSaved t_savedKind t_savedExponent t_savedLetters p1 C0  hv _ _ _ hP hD hS hl)
theorem mX11_isMissing_1 : (Cond.fieldLink RX11 16 "AbelianPowersModel" "letters" "I") ∈ wsX11_isMissing := List.mem_of_getElem? (i := 1) rfl
theorem mX11_isMissing_2 : (Cond.fieldLink RX11 32 "AbelianPowersModel" "imageSizes" "[I") ∈ wsX11_isMissing := List.mem_of_getElem? (i := 2) rfl
theorem nX11_isMissing_X11 : ∀ w ∈ wsX110, w ∈ wsX11_isMissing := fun _ h => List.mem_cons_of_mem _ (List.mem_append_right _ h)
theorem zX11_isMissing : yX11_isMissing.cls = RX11 ∧ yX11_isMissing.cls ≠ "java/lang/invoke/MethodHandle" ∧ yX11_isMissing.cls ≠ "java/lang/invoke/VarHandle" ∧ (parseMethodDescriptor yX11_isMissing.desc).map (fun d => d.parameters.length) = some 0 := by decide +kernel
abbrev rX11_isMissing : Room := { frames := 0, cells := 0, slots := 0, locals := 0 }
abbrev pX11_isMissing (cy : Nat → ClassId) (h : Nat → Nat) (t_kind : Int32) (t_exponent : Int32) (t_letters : Int32) (t_imageSizes : Nat → Int32) (t_fed : Int32) (t_at : Int32) (t_rowSize : Int32) (t_steps : Int32) (t_foundMany : Int32) (t_keptMany : Int32) (t_keptLetters : Int32) (t_isFull : Int32) (t_isSaved : Int32) (t_savedKind : Int32) (t_savedExponent : Int32) (t_savedLetters : Int32) : va_W := [(h 0, .inr (11, [.int t_kind, .int t_exponent, .int t_letters, .ref (h 2), .ref (h 3), .ref (h 4), .ref (h 5), .ref (h 1), .ref (h 6), .int t_fed, .int t_at, .ref (h 7), .int t_rowSize, .int t_steps, .ref (h 8), .int t_foundMany, .ref (h 9), .int t_keptMany, .int t_keptLetters, .ref (h 10), .ref (h 11), .ref (h 12), .ref (h 13), .ref (h 14), .int t_isFull, .ref (h 15), .ref (h 16), .int t_isSaved, .int t_savedKind, .int t_savedExponent, .int t_savedLetters, .ref (h 17), .ref (h 18), .ref (h 19), .ref (h 20), .ref (h 21)])), (h 1, .inl (cy 0, 4, .inl t_imageSizes))]
def VX11_isMissing_2 (post : Int32 → Prop)  (t_letters : Int32) (t_imageSizes : Nat → Int32) : Nat → Int32 → Prop
  | 0, _ => False
  | n + 1, x1 => ((t_letters ≤ x1) → post (0 : Int32)) ∧ (¬ (t_letters ≤ x1) → vp_in x1 4 ∧ (∀ y_2 : Int32, y_2 = (t_imageSizes x1.toNatClampNeg) → (¬ (y_2 = 0) → VX11_isMissing_2 post t_letters t_imageSizes n (x1 + 1)) ∧ ((y_2 = 0) → post (1 : Int32))))
def VX11_isMissing (post : Int32 → Prop)  (t_letters : Int32) (t_imageSizes : Nat → Int32)  : Prop := ∃ n2 : Nat, VX11_isMissing_2 post t_letters t_imageSizes n2 0
set_option maxHeartbeats 4000000 in
set_option maxRecDepth 100000 in
theorem wX11_isMissing_2 {p : Program} (l : Launch) {e : Env} {s : State} {m : MethodId} {args : Array Value} {below : List Frame} {meth : Method} {c : Code} {dC : Nat → ClassId} {dI : Nat → Nat → Nat} {cy : Nat → ClassId} {A : Nat → Prop} (h : Nat → Nat) (post : Int32 → Prop)   (t_kind : Int32) (t_exponent : Int32) (t_letters : Int32) (t_imageSizes : Nat → Int32) (t_fed : Int32) (t_at : Int32) (t_rowSize : Int32) (t_steps : Int32) (t_foundMany : Int32) (t_keptMany : Int32) (t_keptLetters : Int32) (t_isFull : Int32) (t_isSaved : Int32) (t_savedKind : Int32) (t_savedExponent : Int32) (t_savedLetters : Int32)  (C0 : cx p s m args meth c cX11_isMissing 2 (some .boolean) wsX11_isMissing RX11 dC dI cy A)  : ∀ (n : Nat) (x1 : Int32), VX11_isMissing_2 post t_letters t_imageSizes n x1 → ∀ (H : Heap) (locs : List Loc) (ls : Array Slot), va_P (dC, dI) vwCl (pX11_isMissing cy h t_kind t_exponent t_letters t_imageSizes t_fed t_at t_rowSize t_steps t_foundMany t_keptMany t_keptLetters t_isFull t_isSaved t_savedKind t_savedExponent t_savedLetters) H → va_D A (pX11_isMissing cy h t_kind t_exponent t_letters t_imageSizes t_fed t_at t_rowSize t_steps t_foundMany t_keptMany t_keptLetters t_isFull t_isSaved t_savedKind t_savedExponent t_savedLetters) → va_S A s.heap H locs → lv_has ls 2 [(0, .ref (h 0)), (1, .int x1)] → W p l e rX11_isMissing s m args below meth c H locs 0 0 (MQ below (va_Qi (fun (r : Int32) (_ : Unit) => post r) (fun (_ : Unit) (t : State) => va_P (dC, dI) vwCl (pX11_isMissing cy h t_kind t_exponent t_letters t_imageSizes t_fed t_at t_rowSize t_steps t_foundMany t_keptMany t_keptLetters t_isFull t_isSaved t_savedKind t_savedExponent t_savedLetters) t.heap) A) args s 0 0 A) (F0 m 2 ls []) := by
  have C1 := C0
  obtain ⟨hx, hb, hr, hml, hown, hts, hlocks, hK, hA⟩ := C1
  intro n
  induction n with
  | zero => intro x1 hv; exact hv.elim
  | succ n ih =>
    intro x1 hv H locs ls hP hD hS hl
    refine lv_iload_n hx hb dX11_isMissing_2 rfl (lv_at hl 1 rfl) ?_
    refine lv_aload_n hx hb dX11_isMissing_3 rfl (lv_at hl 0 rfl) ?_
    refine va_get (D := (dC, dI)) (ci := 11) (v := .int t_letters) (C := RX11) (T := TX11) (N := 36) hx hb hts nX11_isMissing_X11 hown hK hP 0 rfl rfl 2 (by decide) (hts _ mX11_isMissing_1) (fun _ h9 => h9) rfl dX11_isMissing_4 ?_
    refine lv_icmp_ge (tgt := 27) hx hb dX11_isMissing_7 (by decide) (fun c_5 => ?_) (fun c_5 => ?_)
    · have hv := hv.1 c_5
      refine lv_iconst (v := 0) hx hb dX11_isMissing_27 (by decide) ?_
      exact W.zret (v := 0) hx hb hr rfl (fun t ht hW => ⟨⟨0, (), rfl, hv, va_Ph ht hP⟩, hS.F ht⟩) hS.2.2 dX11_isMissing_28
    · have hv := hv.2 c_5
      refine lv_aload_n hx hb dX11_isMissing_10 rfl (lv_at hl 0 rfl) ?_
      refine va_get (D := (dC, dI)) (ci := 11) (v := .ref (h 1)) (C := RX11) (T := TX11) (N := 36) hx hb hts nX11_isMissing_X11 hown hK hP 0 rfl rfl 7 (by decide) (hts _ mX11_isMissing_2) (fun _ h9 => h9) rfl dX11_isMissing_11 ?_
      refine lv_iload_n hx hb dX11_isMissing_14 rfl (lv_at hl 1 rfl) ?_
      have h_3 := hv.1
      have hv := hv.2
      refine va_iald hx hb hK hP 1 0 rfl rfl h_3 dX11_isMissing_15 ?_
      refine lv_topi (fun y_2 ey_2 => ?_)
      have hv := hv y_2 ey_2
      refine lv_if_ne (tgt := 21) hx hb dX11_isMissing_16 (by decide) (fun c_4 => ?_) (fun c_4 => ?_)
      · have hv := hv.1 c_4
        refine lv_iinc (v := (x1 + 1)) (lv' := [(1, .int ((x1 + 1))), (0, .ref (h 0))]) hx hb dX11_isMissing_21 hl (k := 1) rfl rfl (by decide) rfl (fun ls hl => ?_)
        refine lv_goto (tgt := 2) hx hb dX11_isMissing_24 (by decide) ?_
        exact ih (x1 + 1) hv _ _ _ hP hD hS (lv_sub hl [1, 0] rfl)
      · have hv := hv.2 c_4
        refine lv_iconst (v := 1) hx hb dX11_isMissing_19 (by decide) ?_
        exact W.zret (v := 1) hx hb hr rfl (fun t ht hW => ⟨⟨1, (), rfl, hv, va_Ph ht hP⟩, hS.F ht⟩) hS.2.2 dX11_isMissing_20
set_option maxHeartbeats 4000000 in
set_option maxRecDepth 100000 in
theorem wX11_isMissing_0 {p : Program} (l : Launch) {e : Env} {s : State} {m : MethodId} {args : Array Value} {below : List Frame} {meth : Method} {c : Code} {dC : Nat → ClassId} {dI : Nat → Nat → Nat} {cy : Nat → ClassId} {A : Nat → Prop} (h : Nat → Nat) (post : Int32 → Prop)   (t_kind : Int32) (t_exponent : Int32) (t_letters : Int32) (t_imageSizes : Nat → Int32) (t_fed : Int32) (t_at : Int32) (t_rowSize : Int32) (t_steps : Int32) (t_foundMany : Int32) (t_keptMany : Int32) (t_keptLetters : Int32) (t_isFull : Int32) (t_isSaved : Int32) (t_savedKind : Int32) (t_savedExponent : Int32) (t_savedLetters : Int32)  (C0 : cx p s m args meth c cX11_isMissing 2 (some .boolean) wsX11_isMissing RX11 dC dI cy A)  : VX11_isMissing post t_letters t_imageSizes  → ∀ (H : Heap) (locs : List Loc) (ls : Array Slot), va_P (dC, dI) vwCl (pX11_isMissing cy h t_kind t_exponent t_letters t_imageSizes t_fed t_at t_rowSize t_steps t_foundMany t_keptMany t_keptLetters t_isFull t_isSaved t_savedKind t_savedExponent t_savedLetters) H → va_D A (pX11_isMissing cy h t_kind t_exponent t_letters t_imageSizes t_fed t_at t_rowSize t_steps t_foundMany t_keptMany t_keptLetters t_isFull t_isSaved t_savedKind t_savedExponent t_savedLetters) → va_S A s.heap H locs → lv_has ls 2 [(0, .ref (h 0))] → W p l e rX11_isMissing s m args below meth c H locs 0 0 (MQ below (va_Qi (fun (r : Int32) (_ : Unit) => post r) (fun (_ : Unit) (t : State) => va_P (dC, dI) vwCl (pX11_isMissing cy h t_kind t_exponent t_letters t_imageSizes t_fed t_at t_rowSize t_steps t_foundMany t_keptMany t_keptLetters t_isFull t_isSaved t_savedKind t_savedExponent t_savedLetters) t.heap) A) args s 0 0 A) (F0 m 0 ls []) := by
  have C1 := C0
  obtain ⟨hx, hb, hr, hml, hown, hts, hlocks, hK, hA⟩ := C1
  intro  hv H locs ls hP hD hS hl
  refine lv_iconst (v := 0) hx hb dX11_isMissing_0 (by decide) ?_
  refine lv_istore_n (lv' := [(1, .int 0), (0, .ref (h 0))]) hx hb dX11_isMissing_1 rfl hl (by decide) rfl (fun ls hl => ?_)
  obtain ⟨n_1, hv⟩ := hv
  exact wX11_isMissing_2 l h post  t_kind t_exponent t_letters t_imageSizes t_fed t_at t_rowSize t_steps t_foundMany t_keptMany t_keptLetters t_isFull t_isSaved t_savedKind t_savedExponent t_savedLetters C0 n_1 0 hv _ _ _ hP hD hS (lv_sub hl [1, 0] rfl)
theorem kX11_isMissing (l : Launch) (dC : Nat → ClassId) (dI : Nat → Nat → Nat) (cy : Nat → ClassId) (h : Nat → Nat) (t_kind : Int32) (t_exponent : Int32) (t_letters : Int32) (t_imageSizes : Nat → Int32) (t_fed : Int32) (t_at : Int32) (t_rowSize : Int32) (t_steps : Int32) (t_foundMany : Int32) (t_keptMany : Int32) (t_keptLetters : Int32) (t_isFull : Int32) (t_isSaved : Int32) (t_savedKind : Int32) (t_savedExponent : Int32) (t_savedLetters : Int32)  (post : Int32 → Prop) (hv : VX11_isMissing post t_letters t_imageSizes ) : CtI l yX11_isMissing wsX11_isMissing rX11_isMissing dC dI cy [.ref (h 0)] (pX11_isMissing cy h t_kind t_exponent t_letters t_imageSizes t_fed t_at t_rowSize t_steps t_foundMany t_keptMany t_keptLetters t_isFull t_isSaved t_savedKind t_savedExponent t_savedLetters) (fun (_ : Unit) => pX11_isMissing cy h t_kind t_exponent t_letters t_imageSizes t_fed t_at t_rowSize t_steps t_foundMany t_keptMany t_keptLetters t_isFull t_isSaved t_savedKind t_savedExponent t_savedLetters) (fun (r : Int32) (_ : Unit) => post r) :=
  ct_ofI (by decide) rfl (Nat.le_of_ble_eq_true rfl) (fun p e s m below meth c A ls C0 hP hD hS hl => wX11_isMissing_0 l h post t_kind t_exponent t_letters t_imageSizes t_fed t_at t_rowSize t_steps t_foundMany t_keptMany t_keptLetters t_isFull t_isSaved t_savedKind t_savedExponent t_savedLetters C0  hv _ _ _ hP hD hS hl)
theorem mX11_apply_1 : (Cond.fieldLink RX11 26 "AbelianPowersModel" "lengths" "[I") ∈ wsX11_apply := List.mem_of_getElem? (i := 1) rfl
theorem mX11_apply_2 : (Cond.fieldLink RX11 32 "AbelianPowersModel" "imageSizes" "[I") ∈ wsX11_apply := List.mem_of_getElem? (i := 2) rfl
theorem mX11_apply_3 : (Cond.fieldLink RX11 23 "AbelianPowersModel" "words" "[I") ∈ wsX11_apply := List.mem_of_getElem? (i := 3) rfl
theorem mX11_apply_4 : (Cond.fieldLink RX11 118 "AbelianPowersModel" "rowSize" "I") ∈ wsX11_apply := List.mem_of_getElem? (i := 4) rfl
theorem mX11_apply_5 : (Cond.fieldLink RX11 38 "AbelianPowersModel" "row" "[I") ∈ wsX11_apply := List.mem_of_getElem? (i := 5) rfl
theorem mX11_apply_6 : (Cond.fieldLink RX11 29 "AbelianPowersModel" "images" "[I") ∈ wsX11_apply := List.mem_of_getElem? (i := 6) rfl
theorem nX11_apply_X11 : ∀ w ∈ wsX110, w ∈ wsX11_apply := fun _ h => List.mem_cons_of_mem _ (List.mem_append_right _ h)
theorem zX11_apply : yX11_apply.cls = RX11 ∧ yX11_apply.cls ≠ "java/lang/invoke/MethodHandle" ∧ yX11_apply.cls ≠ "java/lang/invoke/VarHandle" ∧ (parseMethodDescriptor yX11_apply.desc).map (fun d => d.parameters.length) = some 1 := by decide +kernel
abbrev rX11_apply : Room := { frames := 2, cells := 0, slots := 0, locals := 42 }
abbrev pX11_apply (cy : Nat → ClassId) (h : Nat → Nat) (t_kind : Int32) (t_exponent : Int32) (t_letters : Int32) (t_words : Nat → Int32) (t_lengths : Nat → Int32) (t_images : Nat → Int32) (t_imageSizes : Nat → Int32) (t_fed : Int32) (t_at : Int32) (t_row : Nat → Int32) (t_rowSize : Int32) (t_steps : Int32) (t_foundMany : Int32) (t_keptMany : Int32) (t_keptLetters : Int32) (t_isFull : Int32) (t_isSaved : Int32) (t_savedKind : Int32) (t_savedExponent : Int32) (t_savedLetters : Int32) : va_W := [(h 0, .inr (11, [.int t_kind, .int t_exponent, .int t_letters, .ref (h 6), .ref (h 1), .ref (h 2), .ref (h 3), .ref (h 4), .ref (h 7), .int t_fed, .int t_at, .ref (h 5), .int t_rowSize, .int t_steps, .ref (h 8), .int t_foundMany, .ref (h 9), .int t_keptMany, .int t_keptLetters, .ref (h 10), .ref (h 11), .ref (h 12), .ref (h 13), .ref (h 14), .int t_isFull, .ref (h 15), .ref (h 16), .int t_isSaved, .int t_savedKind, .int t_savedExponent, .int t_savedLetters, .ref (h 17), .ref (h 18), .ref (h 19), .ref (h 20), .ref (h 21)])), (h 1, .inl (cy 0, 120, .inl t_words)), (h 2, .inl (cy 0, 3, .inl t_lengths)), (h 3, .inl (cy 0, 16, .inl t_images)), (h 4, .inl (cy 0, 4, .inl t_imageSizes)), (h 5, .inl (cy 0, 45, .inl t_row))]
def VX11_apply_115 (post : Int32 → (Nat → Int32) → (Nat → Int32) → (Nat → Int32) → Int32 → Prop) (K103 : (Nat → Int32) → (Nat → Int32) → (Nat → Int32) → Int32 → Int32 → Int32 → Prop) (t_images : Nat → Int32) (t_imageSizes : Nat → Int32) (p1 : Int32) : Nat → (Nat → Int32) → (Nat → Int32) → (Nat → Int32) → Int32 → Int32 → Int32 → Int32 → Prop
  | 0, _, _, _, _, _, _, _ => False
  | n + 1, t_words, t_lengths, t_row, t_rowSize, x2, x4, x5 => vp_in x4 45 ∧ (vp_in (t_row x4.toNatClampNeg) 4 ∧ (∀ y_23 : Int32, y_23 = (t_imageSizes (t_row x4.toNatClampNeg).toNatClampNeg) → ((y_23 ≤ x5) → K103 t_words t_lengths t_row t_rowSize x2 (x4 + 1)) ∧ (¬ (y_23 ≤ x5) → vp_in p1 3 ∧ (∀ y_26 : Int32, y_26 = (((40 : Int32) * p1) + (t_lengths p1.toNatClampNeg)) → vp_in x4 45 ∧ (∀ y_28 : Int32, y_28 = ((4 : Int32) * (t_row x4.toNatClampNeg)) → vp_in (y_28 + x5) 16 ∧ (∀ y_29 : Int32, y_29 = (t_images (y_28 + x5).toNatClampNeg) → vp_in y_26 120 ∧ (vp_in p1 3 ∧ (∀ y_33 : Int32, y_33 = ((t_lengths p1.toNatClampNeg) + 1) → vp_in p1 3 ∧ (VX11_apply_115 post K103 t_images t_imageSizes p1 n (upd t_words y_26.toNatClampNeg y_29) (upd t_lengths p1.toNatClampNeg y_33) t_row t_rowSize x2 x4 (x5 + 1))))))))))
def VX11_apply_103 (post : Int32 → (Nat → Int32) → (Nat → Int32) → (Nat → Int32) → Int32 → Prop)  (t_images : Nat → Int32) (t_imageSizes : Nat → Int32) (p1 : Int32) : Nat → (Nat → Int32) → (Nat → Int32) → (Nat → Int32) → Int32 → Int32 → Int32 → Prop
  | 0, _, _, _, _, _, _ => False
  | n + 1, t_words, t_lengths, t_row, t_rowSize, x2, x4 => ((t_rowSize ≤ x4) → post x2 t_words t_lengths t_row t_rowSize) ∧ (¬ (t_rowSize ≤ x4) → ∃ n115 : Nat, VX11_apply_115 post (fun t_words t_lengths t_row t_rowSize x2 x4 => VX11_apply_103 post t_images t_imageSizes p1 n t_words t_lengths t_row t_rowSize x2 x4) t_images t_imageSizes p1 n115 t_words t_lengths t_row t_rowSize x2 x4 0)
def VX11_apply_72 (post : Int32 → (Nat → Int32) → (Nat → Int32) → (Nat → Int32) → Int32 → Prop)  (t_images : Nat → Int32) (t_imageSizes : Nat → Int32) (p1 : Int32) (t_words : Nat → Int32) (t_lengths : Nat → Int32) (t_row : Nat → Int32) (t_rowSize : Int32) (x2 : Int32) (x3 : Int32) : Prop := ((x3 = 0) → ((x2 ≤ 40) → VX11_take (fun u_13 u_14 => vp_in p1 3 ∧ (∃ n103 : Nat, VX11_apply_103 post t_images t_imageSizes p1 n103 t_words (upd t_lengths p1.toNatClampNeg 0) u_13 u_14 x2 0)) t_words t_lengths p1 t_row t_rowSize) ∧ (¬ (x2 ≤ 40) → post (-3 : Int32) t_words t_lengths t_row t_rowSize)) ∧ (¬ (x3 = 0) → post (-6 : Int32) t_words t_lengths t_row t_rowSize)
def VX11_apply_16 (post : Int32 → (Nat → Int32) → (Nat → Int32) → (Nat → Int32) → Int32 → Prop)  (t_images : Nat → Int32) (t_imageSizes : Nat → Int32) (p1 : Int32) : Nat → (Nat → Int32) → (Nat → Int32) → (Nat → Int32) → Int32 → Int32 → Int32 → Int32 → Prop
  | 0, _, _, _, _, _, _, _ => False
  | n + 1, t_words, t_lengths, t_row, t_rowSize, x2, x3, x4 => vp_in p1 3 ∧ ((((t_lengths p1.toNatClampNeg) ≤ x4) → VX11_apply_72 post t_images t_imageSizes p1 t_words t_lengths t_row t_rowSize x2 x3) ∧ (¬ ((t_lengths p1.toNatClampNeg) ≤ x4) → vp_in (((40 : Int32) * p1) + x4) 120 ∧ (∀ y_6 : Int32, y_6 = (t_words (((40 : Int32) * p1) + x4).toNatClampNeg) → vp_in y_6 4 ∧ (∀ y_8 : Int32, y_8 = (t_imageSizes y_6.toNatClampNeg) → (¬ (x3 = 0) → VX11_apply_16 post t_images t_imageSizes p1 n t_words t_lengths t_row t_rowSize (x2 + y_8) 1 (x4 + 1)) ∧ ((x3 = 0) → (¬ (y_8 = 0) → VX11_apply_16 post t_images t_imageSizes p1 n t_words t_lengths t_row t_rowSize (x2 + y_8) 0 (x4 + 1)) ∧ ((y_8 = 0) → VX11_apply_16 post t_images t_imageSizes p1 n t_words t_lengths t_row t_rowSize (x2 + y_8) 1 (x4 + 1)))))))
def VX11_apply (post : Int32 → (Nat → Int32) → (Nat → Int32) → (Nat → Int32) → Int32 → Prop)  (t_images : Nat → Int32) (t_imageSizes : Nat → Int32) (p1 : Int32) (t_words : Nat → Int32) (t_lengths : Nat → Int32) (t_row : Nat → Int32) (t_rowSize : Int32) : Prop := VX11_isWord (fun r_1 => (¬ (r_1 = 0) → ∃ n16 : Nat, VX11_apply_16 post t_images t_imageSizes p1 n16 t_words t_lengths t_row t_rowSize 0 0 0) ∧ ((r_1 = 0) → post (-1 : Int32) t_words t_lengths t_row t_rowSize)) p1
set_option maxHeartbeats 4000000 in
set_option maxRecDepth 100000 in
theorem wX11_apply_115 {p : Program} (l : Launch) {e : Env} {s : State} {m : MethodId} {args : Array Value} {below : List Frame} {meth : Method} {c : Code} {dC : Nat → ClassId} {dI : Nat → Nat → Nat} {cy : Nat → ClassId} {A : Nat → Prop} (h : Nat → Nat) (post : Int32 → (Nat → Int32) → (Nat → Int32) → (Nat → Int32) → Int32 → Prop) (K103 : (Nat → Int32) → (Nat → Int32) → (Nat → Int32) → Int32 → Int32 → Int32 → Prop)  (t_kind : Int32) (t_exponent : Int32) (t_letters : Int32) (t_images : Nat → Int32) (t_imageSizes : Nat → Int32) (t_fed : Int32) (t_at : Int32) (t_steps : Int32) (t_foundMany : Int32) (t_keptMany : Int32) (t_keptLetters : Int32) (t_isFull : Int32) (t_isSaved : Int32) (t_savedKind : Int32) (t_savedExponent : Int32) (t_savedLetters : Int32) (p1 : Int32) (C0 : cx p s m args meth c cX11_apply 6 (some .int) wsX11_apply RX11 dC dI cy A) (hK103 : ∀ (t_words : Nat → Int32) (t_lengths : Nat → Int32) (t_row : Nat → Int32) (t_rowSize : Int32) (x2 : Int32) (x4 : Int32), K103 t_words t_lengths t_row t_rowSize x2 x4 → ∀ (H : Heap) (locs : List Loc) (ls : Array Slot), va_P (dC, dI) vwCl (pX11_apply cy h t_kind t_exponent t_letters t_words t_lengths t_images t_imageSizes t_fed t_at t_row t_rowSize t_steps t_foundMany t_keptMany t_keptLetters t_isFull t_isSaved t_savedKind t_savedExponent t_savedLetters) H → va_D A (pX11_apply cy h t_kind t_exponent t_letters t_words t_lengths t_images t_imageSizes t_fed t_at t_row t_rowSize t_steps t_foundMany t_keptMany t_keptLetters t_isFull t_isSaved t_savedKind t_savedExponent t_savedLetters) → va_S A s.heap H locs → lv_has ls 6 [(0, .ref (h 0)), (1, .int p1), (2, .int x2), (4, .int x4)] → W p l e rX11_apply s m args below meth c H locs 0 0 (MQ below (va_Qi (fun (r : Int32) (u : (Nat → Int32) × (Nat → Int32) × (Nat → Int32) × Int32) => post r u.1 u.2.1 u.2.2.1 u.2.2.2) (fun (u : (Nat → Int32) × (Nat → Int32) × (Nat → Int32) × Int32) (t : State) => va_P (dC, dI) vwCl (pX11_apply cy h t_kind t_exponent t_letters u.1 u.2.1 t_images t_imageSizes t_fed t_at u.2.2.1 u.2.2.2 t_steps t_foundMany t_keptMany t_keptLetters t_isFull t_isSaved t_savedKind t_savedExponent t_savedLetters) t.heap) A) args s 0 0 A) (F0 m 103 ls [])) : ∀ (n : Nat) (t_words : Nat → Int32) (t_lengths : Nat → Int32) (t_row : Nat → Int32) (t_rowSize : Int32) (x2 : Int32) (x4 : Int32) (x5 : Int32), VX11_apply_115 post K103 t_images t_imageSizes p1 n t_words t_lengths t_row t_rowSize x2 x4 x5 → ∀ (H : Heap) (locs : List Loc) (ls : Array Slot), va_P (dC, dI) vwCl (pX11_apply cy h t_kind t_exponent t_letters t_words t_lengths t_images t_imageSizes t_fed t_at t_row t_rowSize t_steps t_foundMany t_keptMany t_keptLetters t_isFull t_isSaved t_savedKind t_savedExponent t_savedLetters) H → va_D A (pX11_apply cy h t_kind t_exponent t_letters t_words t_lengths t_images t_imageSizes t_fed t_at t_row t_rowSize t_steps t_foundMany t_keptMany t_keptLetters t_isFull t_isSaved t_savedKind t_savedExponent t_savedLetters) → va_S A s.heap H locs → lv_has ls 6 [(0, .ref (h 0)), (1, .int p1), (2, .int x2), (4, .int x4), (5, .int x5)] → W p l e rX11_apply s m args below meth c H locs 0 0 (MQ below (va_Qi (fun (r : Int32) (u : (Nat → Int32) × (Nat → Int32) × (Nat → Int32) × Int32) => post r u.1 u.2.1 u.2.2.1 u.2.2.2) (fun (u : (Nat → Int32) × (Nat → Int32) × (Nat → Int32) × Int32) (t : State) => va_P (dC, dI) vwCl (pX11_apply cy h t_kind t_exponent t_letters u.1 u.2.1 t_images t_imageSizes t_fed t_at u.2.2.1 u.2.2.2 t_steps t_foundMany t_keptMany t_keptLetters t_isFull t_isSaved t_savedKind t_savedExponent t_savedLetters) t.heap) A) args s 0 0 A) (F0 m 115 ls []) := by
  have C1 := C0
  obtain ⟨hx, hb, hr, hml, hown, hts, hlocks, hK, hA⟩ := C1
  intro n
  induction n with
  | zero => intro t_words t_lengths t_row t_rowSize x2 x4 x5 hv; exact hv.elim
  | succ n ih =>
    intro t_words t_lengths t_row t_rowSize x2 x4 x5 hv H locs ls hP hD hS hl
    refine lv_iload hx hb dX11_apply_115 (lv_at hl 4 rfl) ?_
    refine lv_aload_n hx hb dX11_apply_117 rfl (lv_at hl 0 rfl) ?_
    refine va_get (D := (dC, dI)) (ci := 11) (v := .ref (h 4)) (C := RX11) (T := TX11) (N := 36) hx hb hts nX11_apply_X11 hown hK hP 0 rfl rfl 7 (by decide) (hts _ mX11_apply_2) (fun _ h9 => h9) rfl dX11_apply_118 ?_
    refine lv_aload_n hx hb dX11_apply_121 rfl (lv_at hl 0 rfl) ?_
    refine va_get (D := (dC, dI)) (ci := 11) (v := .ref (h 5)) (C := RX11) (T := TX11) (N := 36) hx hb hts nX11_apply_X11 hown hK hP 0 rfl rfl 11 (by decide) (hts _ mX11_apply_5) (fun _ h9 => h9) rfl dX11_apply_122 ?_
    refine lv_iload hx hb dX11_apply_125 (lv_at hl 3 rfl) ?_
    have h_22 := hv.1
    have hv := hv.2
    refine va_iald hx hb hK hP 5 0 rfl rfl h_22 dX11_apply_127 ?_
    have h_24 := hv.1
    have hv := hv.2
    refine va_iald hx hb hK hP 4 0 rfl rfl h_24 dX11_apply_128 ?_
    refine lv_topi (fun y_23 ey_23 => ?_)
    have hv := hv y_23 ey_23
    refine lv_icmp_ge (tgt := 181) hx hb dX11_apply_129 (by decide) (fun c_35 => ?_) (fun c_35 => ?_)
    · have hv := hv.1 c_35
      refine lv_iinc (v := (x4 + 1)) (lv' := [(4, .int ((x4 + 1))), (0, .ref (h 0)), (1, .int p1), (2, .int x2), (5, .int x5)]) hx hb dX11_apply_181 hl (k := 3) rfl rfl (by decide) rfl (fun ls hl => ?_)
      refine lv_goto (tgt := 103) hx hb dX11_apply_184 (by decide) ?_
      exact hK103 t_words t_lengths t_row t_rowSize x2 (x4 + 1) hv _ _ _ hP hD hS (lv_sub hl [1, 2, 3, 0] rfl)
    · have hv := hv.2 c_35
      refine lv_aload_n hx hb dX11_apply_132 rfl (lv_at hl 0 rfl) ?_
      refine va_get (D := (dC, dI)) (ci := 11) (v := .ref (h 1)) (C := RX11) (T := TX11) (N := 36) hx hb hts nX11_apply_X11 hown hK hP 0 rfl rfl 4 (by decide) (hts _ mX11_apply_3) (fun _ h9 => h9) rfl dX11_apply_133 ?_
      refine lv_bipush (v := 40) hx hb dX11_apply_136 (by decide) ?_
      refine lv_iload_n hx hb dX11_apply_138 rfl (lv_at hl 1 rfl) ?_
      refine lv_imul hx hb dX11_apply_139 ?_
      refine lv_aload_n hx hb dX11_apply_140 rfl (lv_at hl 0 rfl) ?_
      refine va_get (D := (dC, dI)) (ci := 11) (v := .ref (h 2)) (C := RX11) (T := TX11) (N := 36) hx hb hts nX11_apply_X11 hown hK hP 0 rfl rfl 5 (by decide) (hts _ mX11_apply_1) (fun _ h9 => h9) rfl dX11_apply_141 ?_
      refine lv_iload_n hx hb dX11_apply_144 rfl (lv_at hl 1 rfl) ?_
      have h_25 := hv.1
      have hv := hv.2
      refine va_iald hx hb hK hP 2 0 rfl rfl h_25 dX11_apply_145 ?_
      refine lv_iadd hx hb dX11_apply_146 ?_
      refine lv_topi (fun y_26 ey_26 => ?_)
      have hv := hv y_26 ey_26
      refine lv_aload_n hx hb dX11_apply_147 rfl (lv_at hl 0 rfl) ?_
      refine va_get (D := (dC, dI)) (ci := 11) (v := .ref (h 3)) (C := RX11) (T := TX11) (N := 36) hx hb hts nX11_apply_X11 hown hK hP 0 rfl rfl 6 (by decide) (hts _ mX11_apply_6) (fun _ h9 => h9) rfl dX11_apply_148 ?_
      refine lv_iconst (v := 4) hx hb dX11_apply_151 (by decide) ?_
      refine lv_aload_n hx hb dX11_apply_152 rfl (lv_at hl 0 rfl) ?_
      refine va_get (D := (dC, dI)) (ci := 11) (v := .ref (h 5)) (C := RX11) (T := TX11) (N := 36) hx hb hts nX11_apply_X11 hown hK hP 0 rfl rfl 11 (by decide) (hts _ mX11_apply_5) (fun _ h9 => h9) rfl dX11_apply_153 ?_
      refine lv_iload hx hb dX11_apply_156 (lv_at hl 3 rfl) ?_
      have h_27 := hv.1
      have hv := hv.2
      refine va_iald hx hb hK hP 5 0 rfl rfl h_27 dX11_apply_158 ?_
      refine lv_imul hx hb dX11_apply_159 ?_
      refine lv_topi (fun y_28 ey_28 => ?_)
      have hv := hv y_28 ey_28
      refine lv_iload hx hb dX11_apply_160 (lv_at hl 4 rfl) ?_
      refine lv_iadd hx hb dX11_apply_162 ?_
      have h_30 := hv.1
      have hv := hv.2
      refine va_iald hx hb hK hP 3 0 rfl rfl h_30 dX11_apply_163 ?_
      refine lv_topi (fun y_29 ey_29 => ?_)
      have hv := hv y_29 ey_29
      have h_31 := hv.1
      have hv := hv.2
      refine va_iast hx hb hK hP hD hS 1 0 rfl rfl h_31 dX11_apply_164 (fun H locs hP hD hS => ?_)
      have hP : va_P (dC, dI) vwCl (pX11_apply cy h t_kind t_exponent t_letters (upd t_words y_26.toNatClampNeg y_29) t_lengths t_images t_imageSizes t_fed t_at t_row t_rowSize t_steps t_foundMany t_keptMany t_keptLetters t_isFull t_isSaved t_savedKind t_savedExponent t_savedLetters) H := hP
      have hD : va_D A (pX11_apply cy h t_kind t_exponent t_letters (upd t_words y_26.toNatClampNeg y_29) t_lengths t_images t_imageSizes t_fed t_at t_row t_rowSize t_steps t_foundMany t_keptMany t_keptLetters t_isFull t_isSaved t_savedKind t_savedExponent t_savedLetters) := hD
      refine lv_aload_n hx hb dX11_apply_165 rfl (lv_at hl 0 rfl) ?_
      refine va_get (D := (dC, dI)) (ci := 11) (v := .ref (h 2)) (C := RX11) (T := TX11) (N := 36) hx hb hts nX11_apply_X11 hown hK hP 0 rfl rfl 5 (by decide) (hts _ mX11_apply_1) (fun _ h9 => h9) rfl dX11_apply_166 ?_
      refine lv_iload_n hx hb dX11_apply_169 rfl (lv_at hl 1 rfl) ?_
      refine lv_dup2_11 hx hb dX11_apply_170 rfl rfl ?_
      have h_32 := hv.1
      have hv := hv.2
      refine va_iald hx hb hK hP 2 0 rfl rfl h_32 dX11_apply_171 ?_
      refine lv_iconst (v := 1) hx hb dX11_apply_172 (by decide) ?_
      refine lv_iadd hx hb dX11_apply_173 ?_
      refine lv_topi (fun y_33 ey_33 => ?_)
      have hv := hv y_33 ey_33
      have h_34 := hv.1
      have hv := hv.2
      refine va_iast hx hb hK hP hD hS 2 0 rfl rfl h_34 dX11_apply_174 (fun H locs hP hD hS => ?_)
      have hP : va_P (dC, dI) vwCl (pX11_apply cy h t_kind t_exponent t_letters (upd t_words y_26.toNatClampNeg y_29) (upd t_lengths p1.toNatClampNeg y_33) t_images t_imageSizes t_fed t_at t_row t_rowSize t_steps t_foundMany t_keptMany t_keptLetters t_isFull t_isSaved t_savedKind t_savedExponent t_savedLetters) H := hP
      have hD : va_D A (pX11_apply cy h t_kind t_exponent t_letters (upd t_words y_26.toNatClampNeg y_29) (upd t_lengths p1.toNatClampNeg y_33) t_images t_imageSizes t_fed t_at t_row t_rowSize t_steps t_foundMany t_keptMany t_keptLetters t_isFull t_isSaved t_savedKind t_savedExponent t_savedLetters) := hD
      refine lv_iinc (v := (x5 + 1)) (lv' := [(5, .int ((x5 + 1))), (0, .ref (h 0)), (1, .int p1), (2, .int x2), (4, .int x4)]) hx hb dX11_apply_175 hl (k := 4) rfl rfl (by decide) rfl (fun ls hl => ?_)
      refine lv_goto (tgt := 115) hx hb dX11_apply_178 (by decide) ?_
      exact ih (upd t_words y_26.toNatClampNeg y_29) (upd t_lengths p1.toNatClampNeg y_33) t_row t_rowSize x2 x4 (x5 + 1) hv _ _ _ hP hD hS (lv_sub hl [1, 2, 3, 4, 0] rfl)
set_option maxHeartbeats 4000000 in
set_option maxRecDepth 100000 in
theorem wX11_apply_103 {p : Program} (l : Launch) {e : Env} {s : State} {m : MethodId} {args : Array Value} {below : List Frame} {meth : Method} {c : Code} {dC : Nat → ClassId} {dI : Nat → Nat → Nat} {cy : Nat → ClassId} {A : Nat → Prop} (h : Nat → Nat) (post : Int32 → (Nat → Int32) → (Nat → Int32) → (Nat → Int32) → Int32 → Prop)   (t_kind : Int32) (t_exponent : Int32) (t_letters : Int32) (t_images : Nat → Int32) (t_imageSizes : Nat → Int32) (t_fed : Int32) (t_at : Int32) (t_steps : Int32) (t_foundMany : Int32) (t_keptMany : Int32) (t_keptLetters : Int32) (t_isFull : Int32) (t_isSaved : Int32) (t_savedKind : Int32) (t_savedExponent : Int32) (t_savedLetters : Int32) (p1 : Int32) (C0 : cx p s m args meth c cX11_apply 6 (some .int) wsX11_apply RX11 dC dI cy A)  : ∀ (n : Nat) (t_words : Nat → Int32) (t_lengths : Nat → Int32) (t_row : Nat → Int32) (t_rowSize : Int32) (x2 : Int32) (x4 : Int32), VX11_apply_103 post t_images t_imageSizes p1 n t_words t_lengths t_row t_rowSize x2 x4 → ∀ (H : Heap) (locs : List Loc) (ls : Array Slot), va_P (dC, dI) vwCl (pX11_apply cy h t_kind t_exponent t_letters t_words t_lengths t_images t_imageSizes t_fed t_at t_row t_rowSize t_steps t_foundMany t_keptMany t_keptLetters t_isFull t_isSaved t_savedKind t_savedExponent t_savedLetters) H → va_D A (pX11_apply cy h t_kind t_exponent t_letters t_words t_lengths t_images t_imageSizes t_fed t_at t_row t_rowSize t_steps t_foundMany t_keptMany t_keptLetters t_isFull t_isSaved t_savedKind t_savedExponent t_savedLetters) → va_S A s.heap H locs → lv_has ls 6 [(0, .ref (h 0)), (1, .int p1), (2, .int x2), (4, .int x4)] → W p l e rX11_apply s m args below meth c H locs 0 0 (MQ below (va_Qi (fun (r : Int32) (u : (Nat → Int32) × (Nat → Int32) × (Nat → Int32) × Int32) => post r u.1 u.2.1 u.2.2.1 u.2.2.2) (fun (u : (Nat → Int32) × (Nat → Int32) × (Nat → Int32) × Int32) (t : State) => va_P (dC, dI) vwCl (pX11_apply cy h t_kind t_exponent t_letters u.1 u.2.1 t_images t_imageSizes t_fed t_at u.2.2.1 u.2.2.2 t_steps t_foundMany t_keptMany t_keptLetters t_isFull t_isSaved t_savedKind t_savedExponent t_savedLetters) t.heap) A) args s 0 0 A) (F0 m 103 ls []) := by
  have C1 := C0
  obtain ⟨hx, hb, hr, hml, hown, hts, hlocks, hK, hA⟩ := C1
  intro n
  induction n with
  | zero => intro t_words t_lengths t_row t_rowSize x2 x4 hv; exact hv.elim
  | succ n ih =>
    intro t_words t_lengths t_row t_rowSize x2 x4 hv H locs ls hP hD hS hl
    refine lv_iload hx hb dX11_apply_103 (lv_at hl 3 rfl) ?_
    refine lv_aload_n hx hb dX11_apply_105 rfl (lv_at hl 0 rfl) ?_
    refine va_get (D := (dC, dI)) (ci := 11) (v := .int t_rowSize) (C := RX11) (T := TX11) (N := 36) hx hb hts nX11_apply_X11 hown hK hP 0 rfl rfl 12 (by decide) (hts _ mX11_apply_4) (fun _ h9 => h9) rfl dX11_apply_106 ?_
    refine lv_icmp_ge (tgt := 187) hx hb dX11_apply_109 (by decide) (fun c_21 => ?_) (fun c_21 => ?_)
    · have hv := hv.1 c_21
      refine lv_iload_n hx hb dX11_apply_187 rfl (lv_at hl 2 rfl) ?_
      exact W.iret (v := x2) hx hb hr (fun t ht hW => ⟨⟨x2, (t_words, t_lengths, t_row, t_rowSize), rfl, hv, va_Ph ht hP⟩, hS.F ht⟩) hS.2.2 dX11_apply_188
    · have hv := hv.2 c_21
      refine lv_iconst (v := 0) hx hb dX11_apply_112 (by decide) ?_
      refine lv_istore (lv' := [(5, .int 0), (0, .ref (h 0)), (1, .int p1), (2, .int x2), (4, .int x4)]) hx hb dX11_apply_113 hl (by decide) rfl (fun ls hl => ?_)
      obtain ⟨n_20, hv⟩ := hv
      exact wX11_apply_115 l h post (fun t_words t_lengths t_row t_rowSize x2 x4 => VX11_apply_103 post t_images t_imageSizes p1 n t_words t_lengths t_row t_rowSize x2 x4)  t_kind t_exponent t_letters t_images t_imageSizes t_fed t_at t_steps t_foundMany t_keptMany t_keptLetters t_isFull t_isSaved t_savedKind t_savedExponent t_savedLetters p1 C0 ih n_20 t_words t_lengths t_row t_rowSize x2 x4 0 hv _ _ _ hP hD hS (lv_sub hl [1, 2, 3, 4, 0] rfl)
set_option maxHeartbeats 4000000 in
set_option maxRecDepth 100000 in
theorem wX11_apply_72 {p : Program} (l : Launch) {e : Env} {s : State} {m : MethodId} {args : Array Value} {below : List Frame} {meth : Method} {c : Code} {dC : Nat → ClassId} {dI : Nat → Nat → Nat} {cy : Nat → ClassId} {A : Nat → Prop} (h : Nat → Nat) (post : Int32 → (Nat → Int32) → (Nat → Int32) → (Nat → Int32) → Int32 → Prop)   (t_kind : Int32) (t_exponent : Int32) (t_letters : Int32) (t_images : Nat → Int32) (t_imageSizes : Nat → Int32) (t_fed : Int32) (t_at : Int32) (t_steps : Int32) (t_foundMany : Int32) (t_keptMany : Int32) (t_keptLetters : Int32) (t_isFull : Int32) (t_isSaved : Int32) (t_savedKind : Int32) (t_savedExponent : Int32) (t_savedLetters : Int32) (p1 : Int32) (C0 : cx p s m args meth c cX11_apply 6 (some .int) wsX11_apply RX11 dC dI cy A)  : ∀ (t_words : Nat → Int32) (t_lengths : Nat → Int32) (t_row : Nat → Int32) (t_rowSize : Int32) (x2 : Int32) (x3 : Int32), VX11_apply_72 post t_images t_imageSizes p1 t_words t_lengths t_row t_rowSize x2 x3 → ∀ (H : Heap) (locs : List Loc) (ls : Array Slot), va_P (dC, dI) vwCl (pX11_apply cy h t_kind t_exponent t_letters t_words t_lengths t_images t_imageSizes t_fed t_at t_row t_rowSize t_steps t_foundMany t_keptMany t_keptLetters t_isFull t_isSaved t_savedKind t_savedExponent t_savedLetters) H → va_D A (pX11_apply cy h t_kind t_exponent t_letters t_words t_lengths t_images t_imageSizes t_fed t_at t_row t_rowSize t_steps t_foundMany t_keptMany t_keptLetters t_isFull t_isSaved t_savedKind t_savedExponent t_savedLetters) → va_S A s.heap H locs → lv_has ls 6 [(0, .ref (h 0)), (1, .int p1), (2, .int x2), (3, .int x3)] → W p l e rX11_apply s m args below meth c H locs 0 0 (MQ below (va_Qi (fun (r : Int32) (u : (Nat → Int32) × (Nat → Int32) × (Nat → Int32) × Int32) => post r u.1 u.2.1 u.2.2.1 u.2.2.2) (fun (u : (Nat → Int32) × (Nat → Int32) × (Nat → Int32) × Int32) (t : State) => va_P (dC, dI) vwCl (pX11_apply cy h t_kind t_exponent t_letters u.1 u.2.1 t_images t_imageSizes t_fed t_at u.2.2.1 u.2.2.2 t_steps t_foundMany t_keptMany t_keptLetters t_isFull t_isSaved t_savedKind t_savedExponent t_savedLetters) t.heap) A) args s 0 0 A) (F0 m 72 ls []) := by
  have C1 := C0
  obtain ⟨hx, hb, hr, hml, hown, hts, hlocks, hK, hA⟩ := C1
  intro t_words t_lengths t_row t_rowSize x2 x3 hv H locs ls hP hD hS hl
  refine lv_iload_n hx hb dX11_apply_72 rfl (lv_at hl 3 rfl) ?_
  refine lv_if_eq (tgt := 79) hx hb dX11_apply_73 (by decide) (fun c_19 => ?_) (fun c_19 => ?_)
  · have hv := hv.1 c_19
    refine lv_iload_n hx hb dX11_apply_79 rfl (lv_at hl 2 rfl) ?_
    refine lv_bipush (v := 40) hx hb dX11_apply_80 (by decide) ?_
    refine lv_icmp_le (tgt := 88) hx hb dX11_apply_82 (by decide) (fun c_18 => ?_) (fun c_18 => ?_)
    · have hv := hv.1 c_18
      refine lv_aload_n hx hb dX11_apply_88 rfl (lv_at hl 0 rfl) ?_
      refine lv_iload_n hx hb dX11_apply_89 rfl (lv_at hl 1 rfl) ?_
      refine cb_VV (As := [.int p1]) (rest := []) ⟨hx, hb, hml, hown, hts⟩ (kX11_take l dC dI cy (adl [h 0, h 1, h 2, h 5, h 6, h 3, h 4, h 7, h 8, h 9, h 10, h 11, h 12, h 13, h 14, h 15, h 16, h 17, h 18, h 19, h 20, h 21]) t_kind t_exponent t_letters t_words t_lengths t_fed t_at t_row t_rowSize t_steps t_foundMany t_keptMany t_keptLetters t_isFull t_isSaved t_savedKind t_savedExponent t_savedLetters p1 _ hv) (cwV 1 hts gX11_apply_X11_take rfl rfl rfl zX11_take ⟨Nat.le_of_ble_eq_true rfl, Nat.le_of_ble_eq_true rfl⟩) hK hP hD hS hA [0, 1, 2, 5] [some 0, some 1, some 2, none, none, some 3] rfl rfl rfl (ci := 11) rfl rfl (fun _ => rfl) rfl hl.1 rfl (Nat.le_of_ble_eq_true rfl) dX11_apply_90 (fun w_17 H locs hv hP hD hS => ?_)
      obtain ⟨u_13, u_14⟩ := w_17
      have hP : va_P (dC, dI) vwCl (pX11_apply cy h t_kind t_exponent t_letters t_words t_lengths t_images t_imageSizes t_fed t_at u_13 u_14 t_steps t_foundMany t_keptMany t_keptLetters t_isFull t_isSaved t_savedKind t_savedExponent t_savedLetters) H := hP
      have hD : va_D A (pX11_apply cy h t_kind t_exponent t_letters t_words t_lengths t_images t_imageSizes t_fed t_at u_13 u_14 t_steps t_foundMany t_keptMany t_keptLetters t_isFull t_isSaved t_savedKind t_savedExponent t_savedLetters) := hD
      refine lv_aload_n hx hb dX11_apply_93 rfl (lv_at hl 0 rfl) ?_
      refine va_get (D := (dC, dI)) (ci := 11) (v := .ref (h 2)) (C := RX11) (T := TX11) (N := 36) hx hb hts nX11_apply_X11 hown hK hP 0 rfl rfl 5 (by decide) (hts _ mX11_apply_1) (fun _ h9 => h9) rfl dX11_apply_94 ?_
      refine lv_iload_n hx hb dX11_apply_97 rfl (lv_at hl 1 rfl) ?_
      refine lv_iconst (v := 0) hx hb dX11_apply_98 (by decide) ?_
      have h_15 := hv.1
      have hv := hv.2
      refine va_iast hx hb hK hP hD hS 2 0 rfl rfl h_15 dX11_apply_99 (fun H locs hP hD hS => ?_)
      have hP : va_P (dC, dI) vwCl (pX11_apply cy h t_kind t_exponent t_letters t_words (upd t_lengths p1.toNatClampNeg 0) t_images t_imageSizes t_fed t_at u_13 u_14 t_steps t_foundMany t_keptMany t_keptLetters t_isFull t_isSaved t_savedKind t_savedExponent t_savedLetters) H := hP
      have hD : va_D A (pX11_apply cy h t_kind t_exponent t_letters t_words (upd t_lengths p1.toNatClampNeg 0) t_images t_imageSizes t_fed t_at u_13 u_14 t_steps t_foundMany t_keptMany t_keptLetters t_isFull t_isSaved t_savedKind t_savedExponent t_savedLetters) := hD
      refine lv_iconst (v := 0) hx hb dX11_apply_100 (by decide) ?_
      refine lv_istore (lv' := [(4, .int 0), (0, .ref (h 0)), (1, .int p1), (2, .int x2), (3, .int x3)]) hx hb dX11_apply_101 hl (by decide) rfl (fun ls hl => ?_)
      obtain ⟨n_16, hv⟩ := hv
      exact wX11_apply_103 l h post  t_kind t_exponent t_letters t_images t_imageSizes t_fed t_at t_steps t_foundMany t_keptMany t_keptLetters t_isFull t_isSaved t_savedKind t_savedExponent t_savedLetters p1 C0 n_16 t_words (upd t_lengths p1.toNatClampNeg 0) u_13 u_14 x2 0 hv _ _ _ hP hD hS (lv_sub hl [1, 2, 3, 0] rfl)
    · have hv := hv.2 c_18
      refine lv_bipush (v := (-3)) hx hb dX11_apply_85 (by decide) ?_
      exact W.iret (v := (-3)) hx hb hr (fun t ht hW => ⟨⟨(-3), (t_words, t_lengths, t_row, t_rowSize), rfl, hv, va_Ph ht hP⟩, hS.F ht⟩) hS.2.2 dX11_apply_87
  · have hv := hv.2 c_19
    refine lv_bipush (v := (-6)) hx hb dX11_apply_76 (by decide) ?_
    exact W.iret (v := (-6)) hx hb hr (fun t ht hW => ⟨⟨(-6), (t_words, t_lengths, t_row, t_rowSize), rfl, hv, va_Ph ht hP⟩, hS.F ht⟩) hS.2.2 dX11_apply_78
set_option maxHeartbeats 4000000 in
set_option maxRecDepth 100000 in
theorem wX11_apply_16 {p : Program} (l : Launch) {e : Env} {s : State} {m : MethodId} {args : Array Value} {below : List Frame} {meth : Method} {c : Code} {dC : Nat → ClassId} {dI : Nat → Nat → Nat} {cy : Nat → ClassId} {A : Nat → Prop} (h : Nat → Nat) (post : Int32 → (Nat → Int32) → (Nat → Int32) → (Nat → Int32) → Int32 → Prop)   (t_kind : Int32) (t_exponent : Int32) (t_letters : Int32) (t_images : Nat → Int32) (t_imageSizes : Nat → Int32) (t_fed : Int32) (t_at : Int32) (t_steps : Int32) (t_foundMany : Int32) (t_keptMany : Int32) (t_keptLetters : Int32) (t_isFull : Int32) (t_isSaved : Int32) (t_savedKind : Int32) (t_savedExponent : Int32) (t_savedLetters : Int32) (p1 : Int32) (C0 : cx p s m args meth c cX11_apply 6 (some .int) wsX11_apply RX11 dC dI cy A)  : ∀ (n : Nat) (t_words : Nat → Int32) (t_lengths : Nat → Int32) (t_row : Nat → Int32) (t_rowSize : Int32) (x2 : Int32) (x3 : Int32) (x4 : Int32), VX11_apply_16 post t_images t_imageSizes p1 n t_words t_lengths t_row t_rowSize x2 x3 x4 → ∀ (H : Heap) (locs : List Loc) (ls : Array Slot), va_P (dC, dI) vwCl (pX11_apply cy h t_kind t_exponent t_letters t_words t_lengths t_images t_imageSizes t_fed t_at t_row t_rowSize t_steps t_foundMany t_keptMany t_keptLetters t_isFull t_isSaved t_savedKind t_savedExponent t_savedLetters) H → va_D A (pX11_apply cy h t_kind t_exponent t_letters t_words t_lengths t_images t_imageSizes t_fed t_at t_row t_rowSize t_steps t_foundMany t_keptMany t_keptLetters t_isFull t_isSaved t_savedKind t_savedExponent t_savedLetters) → va_S A s.heap H locs → lv_has ls 6 [(0, .ref (h 0)), (1, .int p1), (2, .int x2), (3, .int x3), (4, .int x4)] → W p l e rX11_apply s m args below meth c H locs 0 0 (MQ below (va_Qi (fun (r : Int32) (u : (Nat → Int32) × (Nat → Int32) × (Nat → Int32) × Int32) => post r u.1 u.2.1 u.2.2.1 u.2.2.2) (fun (u : (Nat → Int32) × (Nat → Int32) × (Nat → Int32) × Int32) (t : State) => va_P (dC, dI) vwCl (pX11_apply cy h t_kind t_exponent t_letters u.1 u.2.1 t_images t_imageSizes t_fed t_at u.2.2.1 u.2.2.2 t_steps t_foundMany t_keptMany t_keptLetters t_isFull t_isSaved t_savedKind t_savedExponent t_savedLetters) t.heap) A) args s 0 0 A) (F0 m 16 ls []) := by
  have C1 := C0
  obtain ⟨hx, hb, hr, hml, hown, hts, hlocks, hK, hA⟩ := C1
  intro n
  induction n with
  | zero => intro t_words t_lengths t_row t_rowSize x2 x3 x4 hv; exact hv.elim
  | succ n ih =>
    intro t_words t_lengths t_row t_rowSize x2 x3 x4 hv H locs ls hP hD hS hl
    refine lv_iload hx hb dX11_apply_16 (lv_at hl 4 rfl) ?_
    refine lv_aload_n hx hb dX11_apply_18 rfl (lv_at hl 0 rfl) ?_
    refine va_get (D := (dC, dI)) (ci := 11) (v := .ref (h 2)) (C := RX11) (T := TX11) (N := 36) hx hb hts nX11_apply_X11 hown hK hP 0 rfl rfl 5 (by decide) (hts _ mX11_apply_1) (fun _ h9 => h9) rfl dX11_apply_19 ?_
    refine lv_iload_n hx hb dX11_apply_22 rfl (lv_at hl 1 rfl) ?_
    have h_5 := hv.1
    have hv := hv.2
    refine va_iald hx hb hK hP 2 0 rfl rfl h_5 dX11_apply_23 ?_
    refine lv_icmp_ge (tgt := 72) hx hb dX11_apply_24 (by decide) (fun c_12 => ?_) (fun c_12 => ?_)
    · have hv := hv.1 c_12
      exact wX11_apply_72 l h post  t_kind t_exponent t_letters t_images t_imageSizes t_fed t_at t_steps t_foundMany t_keptMany t_keptLetters t_isFull t_isSaved t_savedKind t_savedExponent t_savedLetters p1 C0 t_words t_lengths t_row t_rowSize x2 x3 hv _ _ _ hP hD hS (lv_sub hl [0, 1, 2, 3] rfl)
    · have hv := hv.2 c_12
      refine lv_aload_n hx hb dX11_apply_27 rfl (lv_at hl 0 rfl) ?_
      refine va_get (D := (dC, dI)) (ci := 11) (v := .ref (h 4)) (C := RX11) (T := TX11) (N := 36) hx hb hts nX11_apply_X11 hown hK hP 0 rfl rfl 7 (by decide) (hts _ mX11_apply_2) (fun _ h9 => h9) rfl dX11_apply_28 ?_
      refine lv_aload_n hx hb dX11_apply_31 rfl (lv_at hl 0 rfl) ?_
      refine va_get (D := (dC, dI)) (ci := 11) (v := .ref (h 1)) (C := RX11) (T := TX11) (N := 36) hx hb hts nX11_apply_X11 hown hK hP 0 rfl rfl 4 (by decide) (hts _ mX11_apply_3) (fun _ h9 => h9) rfl dX11_apply_32 ?_
      refine lv_bipush (v := 40) hx hb dX11_apply_35 (by decide) ?_
      refine lv_iload_n hx hb dX11_apply_37 rfl (lv_at hl 1 rfl) ?_
      refine lv_imul hx hb dX11_apply_38 ?_
      refine lv_iload hx hb dX11_apply_39 (lv_at hl 4 rfl) ?_
      refine lv_iadd hx hb dX11_apply_41 ?_
      have h_7 := hv.1
      have hv := hv.2
      refine va_iald hx hb hK hP 1 0 rfl rfl h_7 dX11_apply_42 ?_
      refine lv_topi (fun y_6 ey_6 => ?_)
      have hv := hv y_6 ey_6
      have h_9 := hv.1
      have hv := hv.2
      refine va_iald hx hb hK hP 4 0 rfl rfl h_9 dX11_apply_43 ?_
      refine lv_topi (fun y_8 ey_8 => ?_)
      have hv := hv y_8 ey_8
      refine lv_istore (lv' := [(5, .int y_8), (0, .ref (h 0)), (1, .int p1), (2, .int x2), (3, .int x3), (4, .int x4)]) hx hb dX11_apply_44 hl (by decide) rfl (fun ls hl => ?_)
      refine lv_iload_n hx hb dX11_apply_46 rfl (lv_at hl 3 rfl) ?_
      refine lv_iload hx hb dX11_apply_47 (lv_at hl 0 rfl) ?_
      refine lv_iadd hx hb dX11_apply_49 ?_
      refine lv_istore_n (lv' := [(2, .int ((x2 + y_8))), (5, .int y_8), (0, .ref (h 0)), (1, .int p1), (3, .int x3), (4, .int x4)]) hx hb dX11_apply_50 rfl hl (by decide) rfl (fun ls hl => ?_)
      refine lv_iload_n hx hb dX11_apply_51 rfl (lv_at hl 4 rfl) ?_
      refine lv_if_ne (tgt := 60) hx hb dX11_apply_52 (by decide) (fun c_11 => ?_) (fun c_11 => ?_)
      · have hv := hv.1 c_11
        refine lv_iconst (v := 1) hx hb dX11_apply_60 (by decide) ?_
        refine lv_goto (tgt := 65) hx hb dX11_apply_61 (by decide) ?_
        refine lv_istore_n (lv' := [(3, .int 1), (2, .int ((x2 + y_8))), (5, .int y_8), (0, .ref (h 0)), (1, .int p1), (4, .int x4)]) hx hb dX11_apply_65 rfl hl (by decide) rfl (fun ls hl => ?_)
        refine lv_iinc (v := (x4 + 1)) (lv' := [(4, .int ((x4 + 1))), (3, .int 1), (2, .int ((x2 + y_8))), (5, .int y_8), (0, .ref (h 0)), (1, .int p1)]) hx hb dX11_apply_66 hl (k := 5) rfl rfl (by decide) rfl (fun ls hl => ?_)
        refine lv_goto (tgt := 16) hx hb dX11_apply_69 (by decide) ?_
        exact ih t_words t_lengths t_row t_rowSize (x2 + y_8) 1 (x4 + 1) hv _ _ _ hP hD hS (lv_sub hl [4, 5, 2, 1, 0] rfl)
      · have hv := hv.2 c_11
        refine lv_iload hx hb dX11_apply_55 (lv_at hl 1 rfl) ?_
        refine lv_if_ne (tgt := 64) hx hb dX11_apply_57 (by decide) (fun c_10 => ?_) (fun c_10 => ?_)
        · have hv := hv.1 c_10
          refine lv_iconst (v := 0) hx hb dX11_apply_64 (by decide) ?_
          refine lv_istore_n (lv' := [(3, .int 0), (2, .int ((x2 + y_8))), (5, .int y_8), (0, .ref (h 0)), (1, .int p1), (4, .int x4)]) hx hb dX11_apply_65 rfl hl (by decide) rfl (fun ls hl => ?_)
          refine lv_iinc (v := (x4 + 1)) (lv' := [(4, .int ((x4 + 1))), (3, .int 0), (2, .int ((x2 + y_8))), (5, .int y_8), (0, .ref (h 0)), (1, .int p1)]) hx hb dX11_apply_66 hl (k := 5) rfl rfl (by decide) rfl (fun ls hl => ?_)
          refine lv_goto (tgt := 16) hx hb dX11_apply_69 (by decide) ?_
          exact ih t_words t_lengths t_row t_rowSize (x2 + y_8) 0 (x4 + 1) hv _ _ _ hP hD hS (lv_sub hl [4, 5, 2, 1, 0] rfl)
        · have hv := hv.2 c_10
          refine lv_iconst (v := 1) hx hb dX11_apply_60 (by decide) ?_
          refine lv_goto (tgt := 65) hx hb dX11_apply_61 (by decide) ?_
          refine lv_istore_n (lv' := [(3, .int 1), (2, .int ((x2 + y_8))), (5, .int y_8), (0, .ref (h 0)), (1, .int p1), (4, .int x4)]) hx hb dX11_apply_65 rfl hl (by decide) rfl (fun ls hl => ?_)
          refine lv_iinc (v := (x4 + 1)) (lv' := [(4, .int ((x4 + 1))), (3, .int 1), (2, .int ((x2 + y_8))), (5, .int y_8), (0, .ref (h 0)), (1, .int p1)]) hx hb dX11_apply_66 hl (k := 5) rfl rfl (by decide) rfl (fun ls hl => ?_)
          refine lv_goto (tgt := 16) hx hb dX11_apply_69 (by decide) ?_
          exact ih t_words t_lengths t_row t_rowSize (x2 + y_8) 1 (x4 + 1) hv _ _ _ hP hD hS (lv_sub hl [4, 5, 2, 1, 0] rfl)
set_option maxHeartbeats 4000000 in
set_option maxRecDepth 100000 in
theorem wX11_apply_0 {p : Program} (l : Launch) {e : Env} {s : State} {m : MethodId} {args : Array Value} {below : List Frame} {meth : Method} {c : Code} {dC : Nat → ClassId} {dI : Nat → Nat → Nat} {cy : Nat → ClassId} {A : Nat → Prop} (h : Nat → Nat) (post : Int32 → (Nat → Int32) → (Nat → Int32) → (Nat → Int32) → Int32 → Prop)   (t_kind : Int32) (t_exponent : Int32) (t_letters : Int32) (t_images : Nat → Int32) (t_imageSizes : Nat → Int32) (t_fed : Int32) (t_at : Int32) (t_steps : Int32) (t_foundMany : Int32) (t_keptMany : Int32) (t_keptLetters : Int32) (t_isFull : Int32) (t_isSaved : Int32) (t_savedKind : Int32) (t_savedExponent : Int32) (t_savedLetters : Int32) (p1 : Int32) (C0 : cx p s m args meth c cX11_apply 6 (some .int) wsX11_apply RX11 dC dI cy A)  : ∀ (t_words : Nat → Int32) (t_lengths : Nat → Int32) (t_row : Nat → Int32) (t_rowSize : Int32), VX11_apply post t_images t_imageSizes p1 t_words t_lengths t_row t_rowSize → ∀ (H : Heap) (locs : List Loc) (ls : Array Slot), va_P (dC, dI) vwCl (pX11_apply cy h t_kind t_exponent t_letters t_words t_lengths t_images t_imageSizes t_fed t_at t_row t_rowSize t_steps t_foundMany t_keptMany t_keptLetters t_isFull t_isSaved t_savedKind t_savedExponent t_savedLetters) H → va_D A (pX11_apply cy h t_kind t_exponent t_letters t_words t_lengths t_images t_imageSizes t_fed t_at t_row t_rowSize t_steps t_foundMany t_keptMany t_keptLetters t_isFull t_isSaved t_savedKind t_savedExponent t_savedLetters) → va_S A s.heap H locs → lv_has ls 6 [(0, .ref (h 0)), (1, .int p1)] → W p l e rX11_apply s m args below meth c H locs 0 0 (MQ below (va_Qi (fun (r : Int32) (u : (Nat → Int32) × (Nat → Int32) × (Nat → Int32) × Int32) => post r u.1 u.2.1 u.2.2.1 u.2.2.2) (fun (u : (Nat → Int32) × (Nat → Int32) × (Nat → Int32) × Int32) (t : State) => va_P (dC, dI) vwCl (pX11_apply cy h t_kind t_exponent t_letters u.1 u.2.1 t_images t_imageSizes t_fed t_at u.2.2.1 u.2.2.2 t_steps t_foundMany t_keptMany t_keptLetters t_isFull t_isSaved t_savedKind t_savedExponent t_savedLetters) t.heap) A) args s 0 0 A) (F0 m 0 ls []) := by
  have C1 := C0
  obtain ⟨hx, hb, hr, hml, hown, hts, hlocks, hK, hA⟩ := C1
  intro t_words t_lengths t_row t_rowSize hv H locs ls hP hD hS hl
  refine lv_iload_n hx hb dX11_apply_0 rfl (lv_at hl 1 rfl) ?_
  refine cb_SI (As := [.int p1]) (rest := []) ⟨hx, hb, hml, hown, hts⟩ (kX11_isWord l dC dI cy (adl []) p1 _ hv) (va_cwS 1 hts gX11_apply_X11_isWord rfl rfl rfl zX11_isWord ⟨Nat.le_of_ble_eq_true rfl, Nat.le_of_ble_eq_true rfl⟩) hK hP hD hS hA [] [none, none, none, none, none, none] rfl rfl rfl (fun _ => rfl) rfl hl.1 rfl (Nat.le_of_ble_eq_true rfl) dX11_apply_1 (fun r_1 w_4 H locs hv hP hD hS => ?_)
  have hP : va_P (dC, dI) vwCl (pX11_apply cy h t_kind t_exponent t_letters t_words t_lengths t_images t_imageSizes t_fed t_at t_row t_rowSize t_steps t_foundMany t_keptMany t_keptLetters t_isFull t_isSaved t_savedKind t_savedExponent t_savedLetters) H := hP
  have hD : va_D A (pX11_apply cy h t_kind t_exponent t_letters t_words t_lengths t_images t_imageSizes t_fed t_at t_row t_rowSize t_steps t_foundMany t_keptMany t_keptLetters t_isFull t_isSaved t_savedKind t_savedExponent t_savedLetters) := hD
  refine lv_if_ne (tgt := 9) hx hb dX11_apply_4 (by decide) (fun c_3 => ?_) (fun c_3 => ?_)
  · have hv := hv.1 c_3
    refine lv_iconst (v := 0) hx hb dX11_apply_9 (by decide) ?_
    refine lv_istore_n (lv' := [(2, .int 0), (0, .ref (h 0)), (1, .int p1)]) hx hb dX11_apply_10 rfl hl (by decide) rfl (fun ls hl => ?_)
    refine lv_iconst (v := 0) hx hb dX11_apply_11 (by decide) ?_
    refine lv_istore_n (lv' := [(3, .int 0), (2, .int 0), (0, .ref (h 0)), (1, .int p1)]) hx hb dX11_apply_12 rfl hl (by decide) rfl (fun ls hl => ?_)
    refine lv_iconst (v := 0) hx hb dX11_apply_13 (by decide) ?_
    refine lv_istore (lv' := [(4, .int 0), (3, .int 0), (2, .int 0), (0, .ref (h 0)), (1, .int p1)]) hx hb dX11_apply_14 hl (by decide) rfl (fun ls hl => ?_)
    obtain ⟨n_2, hv⟩ := hv
    exact wX11_apply_16 l h post  t_kind t_exponent t_letters t_images t_imageSizes t_fed t_at t_steps t_foundMany t_keptMany t_keptLetters t_isFull t_isSaved t_savedKind t_savedExponent t_savedLetters p1 C0 n_2 t_words t_lengths t_row t_rowSize 0 0 0 hv _ _ _ hP hD hS (lv_sub hl [3, 4, 2, 1, 0] rfl)
  · have hv := hv.2 c_3
    refine lv_iconst (v := (-1)) hx hb dX11_apply_7 (by decide) ?_
    exact W.iret (v := (-1)) hx hb hr (fun t ht hW => ⟨⟨(-1), (t_words, t_lengths, t_row, t_rowSize), rfl, hv, va_Ph ht hP⟩, hS.F ht⟩) hS.2.2 dX11_apply_8
theorem kX11_apply (l : Launch) (dC : Nat → ClassId) (dI : Nat → Nat → Nat) (cy : Nat → ClassId) (h : Nat → Nat) (t_kind : Int32) (t_exponent : Int32) (t_letters : Int32) (t_words : Nat → Int32) (t_lengths : Nat → Int32) (t_images : Nat → Int32) (t_imageSizes : Nat → Int32) (t_fed : Int32) (t_at : Int32) (t_row : Nat → Int32) (t_rowSize : Int32) (t_steps : Int32) (t_foundMany : Int32) (t_keptMany : Int32) (t_keptLetters : Int32) (t_isFull : Int32) (t_isSaved : Int32) (t_savedKind : Int32) (t_savedExponent : Int32) (t_savedLetters : Int32) (p1 : Int32) (post : Int32 → (Nat → Int32) → (Nat → Int32) → (Nat → Int32) → Int32 → Prop) (hv : VX11_apply post t_images t_imageSizes p1 t_words t_lengths t_row t_rowSize) : CtI l yX11_apply wsX11_apply rX11_apply dC dI cy [.ref (h 0), .int p1] (pX11_apply cy h t_kind t_exponent t_letters t_words t_lengths t_images t_imageSizes t_fed t_at t_row t_rowSize t_steps t_foundMany t_keptMany t_keptLetters t_isFull t_isSaved t_savedKind t_savedExponent t_savedLetters) (fun (u : (Nat → Int32) × (Nat → Int32) × (Nat → Int32) × Int32) => pX11_apply cy h t_kind t_exponent t_letters u.1 u.2.1 t_images t_imageSizes t_fed t_at u.2.2.1 u.2.2.2 t_steps t_foundMany t_keptMany t_keptLetters t_isFull t_isSaved t_savedKind t_savedExponent t_savedLetters) (fun (r : Int32) (u : (Nat → Int32) × (Nat → Int32) × (Nat → Int32) × Int32) => post r u.1 u.2.1 u.2.2.1 u.2.2.2) :=
  ct_ofI (by decide) rfl (Nat.le_of_ble_eq_true rfl) (fun p e s m below meth c A ls C0 hP hD hS hl => wX11_apply_0 l h post t_kind t_exponent t_letters t_images t_imageSizes t_fed t_at t_steps t_foundMany t_keptMany t_keptLetters t_isFull t_isSaved t_savedKind t_savedExponent t_savedLetters p1 C0 t_words t_lengths t_row t_rowSize hv _ _ _ hP hD hS hl)
theorem mX11_iterate_1 : (Cond.fieldLink RX11 32 "AbelianPowersModel" "imageSizes" "[I") ∈ wsX11_iterate := List.mem_of_getElem? (i := 1) rfl
theorem mX11_iterate_2 : (Cond.fieldLink RX11 29 "AbelianPowersModel" "images" "[I") ∈ wsX11_iterate := List.mem_of_getElem? (i := 2) rfl
theorem mX11_iterate_3 : (Cond.fieldLink RX11 23 "AbelianPowersModel" "words" "[I") ∈ wsX11_iterate := List.mem_of_getElem? (i := 3) rfl
theorem mX11_iterate_4 : (Cond.fieldLink RX11 26 "AbelianPowersModel" "lengths" "[I") ∈ wsX11_iterate := List.mem_of_getElem? (i := 4) rfl
theorem nX11_iterate_X11 : ∀ w ∈ wsX110, w ∈ wsX11_iterate := fun _ h => List.mem_cons_of_mem _ (List.mem_append_right _ h)
theorem zX11_iterate : yX11_iterate.cls = RX11 ∧ yX11_iterate.cls ≠ "java/lang/invoke/MethodHandle" ∧ yX11_iterate.cls ≠ "java/lang/invoke/VarHandle" ∧ (parseMethodDescriptor yX11_iterate.desc).map (fun d => d.parameters.length) = some 2 := by decide +kernel
abbrev rX11_iterate : Room := { frames := 2, cells := 0, slots := 0, locals := 43 }
abbrev pX11_iterate (cy : Nat → ClassId) (h : Nat → Nat) (t_kind : Int32) (t_exponent : Int32) (t_letters : Int32) (t_words : Nat → Int32) (t_lengths : Nat → Int32) (t_images : Nat → Int32) (t_imageSizes : Nat → Int32) (t_fed : Int32) (t_at : Int32) (t_rowSize : Int32) (t_steps : Int32) (t_foundMany : Int32) (t_keptMany : Int32) (t_keptLetters : Int32) (t_isFull : Int32) (t_isSaved : Int32) (t_savedKind : Int32) (t_savedExponent : Int32) (t_savedLetters : Int32) : va_W := [(h 0, .inr (11, [.int t_kind, .int t_exponent, .int t_letters, .ref (h 5), .ref (h 1), .ref (h 2), .ref (h 3), .ref (h 4), .ref (h 6), .int t_fed, .int t_at, .ref (h 7), .int t_rowSize, .int t_steps, .ref (h 8), .int t_foundMany, .ref (h 9), .int t_keptMany, .int t_keptLetters, .ref (h 10), .ref (h 11), .ref (h 12), .ref (h 13), .ref (h 14), .int t_isFull, .ref (h 15), .ref (h 16), .int t_isSaved, .int t_savedKind, .int t_savedExponent, .int t_savedLetters, .ref (h 17), .ref (h 18), .ref (h 19), .ref (h 20), .ref (h 21)])), (h 1, .inl (cy 0, 120, .inl t_words)), (h 2, .inl (cy 0, 3, .inl t_lengths)), (h 3, .inl (cy 0, 16, .inl t_images)), (h 4, .inl (cy 0, 4, .inl t_imageSizes))]
def VX11_iterate_99 (post : Int32 → (Nat → Int32) → (Nat → Int32) → Prop) (K67 : (Nat → Int32) → (Nat → Int32) → Int32 → Int32 → Prop) (t_letters : Int32) (t_images : Nat → Int32) (t_imageSizes : Nat → Int32) (p1 : Int32) (p2 : Int32) : Nat → (Nat → Int32) → (Nat → Int32) → Int32 → Int32 → Int32 → Int32 → Prop
  | 0, _, _, _, _, _, _ => False
  | n + 1, t_words, t_lengths, x3, x4, x5, x6 => vp_in x5 4 ∧ (∀ y_24 : Int32, y_24 = (t_imageSizes x5.toNatClampNeg) → ((y_24 ≤ x6) → K67 t_words t_lengths x3 (x4 + 1)) ∧ (¬ (y_24 ≤ x6) → ((40 ≤ x3) → K67 t_words t_lengths x3 (x4 + 1)) ∧ (¬ (40 ≤ x3) → vp_in (((4 : Int32) * x5) + x6) 16 ∧ (∀ y_26 : Int32, y_26 = (t_images (((4 : Int32) * x5) + x6).toNatClampNeg) → vp_in (((40 : Int32) * p1) + x3) 120 ∧ (VX11_iterate_99 post K67 t_letters t_images t_imageSizes p1 p2 n (upd t_words (((40 : Int32) * p1) + x3).toNatClampNeg y_26) t_lengths (x3 + 1) x4 x5 (x6 + 1))))))
def VX11_iterate_155 (post : Int32 → (Nat → Int32) → (Nat → Int32) → Prop)  (t_letters : Int32) (t_images : Nat → Int32) (t_imageSizes : Nat → Int32) (p1 : Int32) (p2 : Int32) (t_words : Nat → Int32) (t_lengths : Nat → Int32) : Prop := vp_in p1 3 ∧ (post (40 : Int32) t_words (upd t_lengths p1.toNatClampNeg 40))
def VX11_iterate_67 (post : Int32 → (Nat → Int32) → (Nat → Int32) → Prop)  (t_letters : Int32) (t_images : Nat → Int32) (t_imageSizes : Nat → Int32) (p1 : Int32) (p2 : Int32) : Nat → (Nat → Int32) → (Nat → Int32) → Int32 → Int32 → Prop
  | 0, _, _, _, _ => False
  | n + 1, t_words, t_lengths, x3, x4 => ((40 ≤ x3) → VX11_iterate_155 post t_letters t_images t_imageSizes p1 p2 t_words t_lengths) ∧ (¬ (40 ≤ x3) → vp_in (((40 : Int32) * p1) + x4) 120 ∧ (∀ y_18 : Int32, y_18 = (t_words (((40 : Int32) * p1) + x4).toNatClampNeg) → (¬ (x4 = 0) → ∃ n99 : Nat, VX11_iterate_99 post (fun t_words t_lengths x3 x4 => VX11_iterate_67 post t_letters t_images t_imageSizes p1 p2 n t_words t_lengths x3 x4) t_letters t_images t_imageSizes p1 p2 n99 t_words t_lengths x3 x4 y_18 0) ∧ ((x4 = 0) → ∃ n99 : Nat, VX11_iterate_99 post (fun t_words t_lengths x3 x4 => VX11_iterate_67 post t_letters t_images t_imageSizes p1 p2 n t_words t_lengths x3 x4) t_letters t_images t_imageSizes p1 p2 n99 t_words t_lengths x3 x4 y_18 1)))
def VX11_iterate (post : Int32 → (Nat → Int32) → (Nat → Int32) → Prop)  (t_letters : Int32) (t_images : Nat → Int32) (t_imageSizes : Nat → Int32) (p1 : Int32) (p2 : Int32) (t_words : Nat → Int32) (t_lengths : Nat → Int32) : Prop := VX11_isWord (fun r_1 => ((r_1 = 0) → post (-1 : Int32) t_words t_lengths) ∧ (¬ (r_1 = 0) → VX11_isLetter (fun r_2 => (¬ (r_2 = 0) → VX11_isMissing (fun r_3 => ((r_3 = 0) → vp_in p2 4 ∧ (∀ y_4 : Int32, y_4 = (t_imageSizes p2.toNatClampNeg) → ((y_4 = 1) → post (-7 : Int32) t_words t_lengths) ∧ (¬ (y_4 = 1) → vp_in ((4 : Int32) * p2) 16 ∧ (∀ y_6 : Int32, y_6 = (t_images ((4 : Int32) * p2).toNatClampNeg) → ((y_6 = p2) → vp_in ((40 : Int32) * p1) 120 ∧ (∃ n67 : Nat, VX11_iterate_67 post t_letters t_images t_imageSizes p1 p2 n67 (upd t_words ((40 : Int32) * p1).toNatClampNeg p2) t_lengths 1 0)) ∧ (¬ (y_6 = p2) → post (-7 : Int32) t_words t_lengths))))) ∧ (¬ (r_3 = 0) → post (-6 : Int32) t_words t_lengths)) t_letters t_imageSizes) ∧ ((r_2 = 0) → post (-1 : Int32) t_words t_lengths)) t_letters p2)) p1
set_option maxHeartbeats 4000000 in
set_option maxRecDepth 100000 in
theorem wX11_iterate_99 {p : Program} (l : Launch) {e : Env} {s : State} {m : MethodId} {args : Array Value} {below : List Frame} {meth : Method} {c : Code} {dC : Nat → ClassId} {dI : Nat → Nat → Nat} {cy : Nat → ClassId} {A : Nat → Prop} (h : Nat → Nat) (post : Int32 → (Nat → Int32) → (Nat → Int32) → Prop) (K67 : (Nat → Int32) → (Nat → Int32) → Int32 → Int32 → Prop)  (t_kind : Int32) (t_exponent : Int32) (t_letters : Int32) (t_images : Nat → Int32) (t_imageSizes : Nat → Int32) (t_fed : Int32) (t_at : Int32) (t_rowSize : Int32) (t_steps : Int32) (t_foundMany : Int32) (t_keptMany : Int32) (t_keptLetters : Int32) (t_isFull : Int32) (t_isSaved : Int32) (t_savedKind : Int32) (t_savedExponent : Int32) (t_savedLetters : Int32) (p1 : Int32) (p2 : Int32) (C0 : cx p s m args meth c cX11_iterate 7 (some .int) wsX11_iterate RX11 dC dI cy A) (hK67 : ∀ (t_words : Nat → Int32) (t_lengths : Nat → Int32) (x3 : Int32) (x4 : Int32), K67 t_words t_lengths x3 x4 → ∀ (H : Heap) (locs : List Loc) (ls : Array Slot), va_P (dC, dI) vwCl (pX11_iterate cy h t_kind t_exponent t_letters t_words t_lengths t_images t_imageSizes t_fed t_at t_rowSize t_steps t_foundMany t_keptMany t_keptLetters t_isFull t_isSaved t_savedKind t_savedExponent t_savedLetters) H → va_D A (pX11_iterate cy h t_kind t_exponent t_letters t_words t_lengths t_images t_imageSizes t_fed t_at t_rowSize t_steps t_foundMany t_keptMany t_keptLetters t_isFull t_isSaved t_savedKind t_savedExponent t_savedLetters) → va_S A s.heap H locs → lv_has ls 7 [(0, .ref (h 0)), (1, .int p1), (3, .int x3), (4, .int x4)] → W p l e rX11_iterate s m args below meth c H locs 0 0 (MQ below (va_Qi (fun (r : Int32) (u : (Nat → Int32) × (Nat → Int32)) => post r u.1 u.2) (fun (u : (Nat → Int32) × (Nat → Int32)) (t : State) => va_P (dC, dI) vwCl (pX11_iterate cy h t_kind t_exponent t_letters u.1 u.2 t_images t_imageSizes t_fed t_at t_rowSize t_steps t_foundMany t_keptMany t_keptLetters t_isFull t_isSaved t_savedKind t_savedExponent t_savedLetters) t.heap) A) args s 0 0 A) (F0 m 67 ls [])) : ∀ (n : Nat) (t_words : Nat → Int32) (t_lengths : Nat → Int32) (x3 : Int32) (x4 : Int32) (x5 : Int32) (x6 : Int32), VX11_iterate_99 post K67 t_letters t_images t_imageSizes p1 p2 n t_words t_lengths x3 x4 x5 x6 → ∀ (H : Heap) (locs : List Loc) (ls : Array Slot), va_P (dC, dI) vwCl (pX11_iterate cy h t_kind t_exponent t_letters t_words t_lengths t_images t_imageSizes t_fed t_at t_rowSize t_steps t_foundMany t_keptMany t_keptLetters t_isFull t_isSaved t_savedKind t_savedExponent t_savedLetters) H → va_D A (pX11_iterate cy h t_kind t_exponent t_letters t_words t_lengths t_images t_imageSizes t_fed t_at t_rowSize t_steps t_foundMany t_keptMany t_keptLetters t_isFull t_isSaved t_savedKind t_savedExponent t_savedLetters) → va_S A s.heap H locs → lv_has ls 7 [(0, .ref (h 0)), (1, .int p1), (3, .int x3), (4, .int x4), (5, .int x5), (6, .int x6)] → W p l e rX11_iterate s m args below meth c H locs 0 0 (MQ below (va_Qi (fun (r : Int32) (u : (Nat → Int32) × (Nat → Int32)) => post r u.1 u.2) (fun (u : (Nat → Int32) × (Nat → Int32)) (t : State) => va_P (dC, dI) vwCl (pX11_iterate cy h t_kind t_exponent t_letters u.1 u.2 t_images t_imageSizes t_fed t_at t_rowSize t_steps t_foundMany t_keptMany t_keptLetters t_isFull t_isSaved t_savedKind t_savedExponent t_savedLetters) t.heap) A) args s 0 0 A) (F0 m 99 ls []) := by
  have C1 := C0
  obtain ⟨hx, hb, hr, hml, hown, hts, hlocks, hK, hA⟩ := C1
  intro n
  induction n with
  | zero => intro t_words t_lengths x3 x4 x5 x6 hv; exact hv.elim
  | succ n ih =>
    intro t_words t_lengths x3 x4 x5 x6 hv H locs ls hP hD hS hl
    refine lv_iload hx hb dX11_iterate_99 (lv_at hl 5 rfl) ?_
    refine lv_aload_n hx hb dX11_iterate_101 rfl (lv_at hl 0 rfl) ?_
    refine va_get (D := (dC, dI)) (ci := 11) (v := .ref (h 4)) (C := RX11) (T := TX11) (N := 36) hx hb hts nX11_iterate_X11 hown hK hP 0 rfl rfl 7 (by decide) (hts _ mX11_iterate_1) (fun _ h9 => h9) rfl dX11_iterate_102 ?_
    refine lv_iload hx hb dX11_iterate_105 (lv_at hl 4 rfl) ?_
    have h_25 := hv.1
    have hv := hv.2
    refine va_iald hx hb hK hP 4 0 rfl rfl h_25 dX11_iterate_107 ?_
    refine lv_topi (fun y_24 ey_24 => ?_)
    have hv := hv y_24 ey_24
    refine lv_icmp_ge (tgt := 149) hx hb dX11_iterate_108 (by decide) (fun c_30 => ?_) (fun c_30 => ?_)
    · have hv := hv.1 c_30
      refine lv_iinc (v := (x4 + 1)) (lv' := [(4, .int ((x4 + 1))), (0, .ref (h 0)), (1, .int p1), (3, .int x3), (5, .int x5), (6, .int x6)]) hx hb dX11_iterate_149 hl (k := 3) rfl rfl (by decide) rfl (fun ls hl => ?_)
      refine lv_goto (tgt := 67) hx hb dX11_iterate_152 (by decide) ?_
      exact hK67 t_words t_lengths x3 (x4 + 1) hv _ _ _ hP hD hS (lv_sub hl [1, 2, 3, 0] rfl)
    · have hv := hv.2 c_30
      refine lv_iload_n hx hb dX11_iterate_111 rfl (lv_at hl 2 rfl) ?_
      refine lv_bipush (v := 40) hx hb dX11_iterate_112 (by decide) ?_
      refine lv_icmp_ge (tgt := 149) hx hb dX11_iterate_114 (by decide) (fun c_29 => ?_) (fun c_29 => ?_)
      · have hv := hv.1 c_29
        refine lv_iinc (v := (x4 + 1)) (lv' := [(4, .int ((x4 + 1))), (0, .ref (h 0)), (1, .int p1), (3, .int x3), (5, .int x5), (6, .int x6)]) hx hb dX11_iterate_149 hl (k := 3) rfl rfl (by decide) rfl (fun ls hl => ?_)
        refine lv_goto (tgt := 67) hx hb dX11_iterate_152 (by decide) ?_
        exact hK67 t_words t_lengths x3 (x4 + 1) hv _ _ _ hP hD hS (lv_sub hl [1, 2, 3, 0] rfl)
      · have hv := hv.2 c_29
        refine lv_aload_n hx hb dX11_iterate_117 rfl (lv_at hl 0 rfl) ?_
        refine va_get (D := (dC, dI)) (ci := 11) (v := .ref (h 1)) (C := RX11) (T := TX11) (N := 36) hx hb hts nX11_iterate_X11 hown hK hP 0 rfl rfl 4 (by decide) (hts _ mX11_iterate_3) (fun _ h9 => h9) rfl dX11_iterate_118 ?_
        refine lv_bipush (v := 40) hx hb dX11_iterate_121 (by decide) ?_
        refine lv_iload_n hx hb dX11_iterate_123 rfl (lv_at hl 1 rfl) ?_
        refine lv_imul hx hb dX11_iterate_124 ?_
        refine lv_iload_n hx hb dX11_iterate_125 rfl (lv_at hl 2 rfl) ?_
        refine lv_iadd hx hb dX11_iterate_126 ?_
        refine lv_aload_n hx hb dX11_iterate_127 rfl (lv_at hl 0 rfl) ?_
        refine va_get (D := (dC, dI)) (ci := 11) (v := .ref (h 3)) (C := RX11) (T := TX11) (N := 36) hx hb hts nX11_iterate_X11 hown hK hP 0 rfl rfl 6 (by decide) (hts _ mX11_iterate_2) (fun _ h9 => h9) rfl dX11_iterate_128 ?_
        refine lv_iconst (v := 4) hx hb dX11_iterate_131 (by decide) ?_
        refine lv_iload hx hb dX11_iterate_132 (lv_at hl 4 rfl) ?_
        refine lv_imul hx hb dX11_iterate_134 ?_
        refine lv_iload hx hb dX11_iterate_135 (lv_at hl 5 rfl) ?_
        refine lv_iadd hx hb dX11_iterate_137 ?_
        have h_27 := hv.1
        have hv := hv.2
        refine va_iald hx hb hK hP 3 0 rfl rfl h_27 dX11_iterate_138 ?_
        refine lv_topi (fun y_26 ey_26 => ?_)
        have hv := hv y_26 ey_26
        have h_28 := hv.1
        have hv := hv.2
        refine va_iast hx hb hK hP hD hS 1 0 rfl rfl h_28 dX11_iterate_139 (fun H locs hP hD hS => ?_)
        have hP : va_P (dC, dI) vwCl (pX11_iterate cy h t_kind t_exponent t_letters (upd t_words (((40 : Int32) * p1) + x3).toNatClampNeg y_26) t_lengths t_images t_imageSizes t_fed t_at t_rowSize t_steps t_foundMany t_keptMany t_keptLetters t_isFull t_isSaved t_savedKind t_savedExponent t_savedLetters) H := hP
        have hD : va_D A (pX11_iterate cy h t_kind t_exponent t_letters (upd t_words (((40 : Int32) * p1) + x3).toNatClampNeg y_26) t_lengths t_images t_imageSizes t_fed t_at t_rowSize t_steps t_foundMany t_keptMany t_keptLetters t_isFull t_isSaved t_savedKind t_savedExponent t_savedLetters) := hD
        refine lv_iinc (v := (x3 + 1)) (lv' := [(3, .int ((x3 + 1))), (0, .ref (h 0)), (1, .int p1), (4, .int x4), (5, .int x5), (6, .int x6)]) hx hb dX11_iterate_140 hl (k := 2) rfl rfl (by decide) rfl (fun ls hl => ?_)
        refine lv_iinc (v := (x6 + 1)) (lv' := [(6, .int ((x6 + 1))), (3, .int ((x3 + 1))), (0, .ref (h 0)), (1, .int p1), (4, .int x4), (5, .int x5)]) hx hb dX11_iterate_143 hl (k := 5) rfl rfl (by decide) rfl (fun ls hl => ?_)
        refine lv_goto (tgt := 99) hx hb dX11_iterate_146 (by decide) ?_
        exact ih (upd t_words (((40 : Int32) * p1) + x3).toNatClampNeg y_26) t_lengths (x3 + 1) x4 x5 (x6 + 1) hv _ _ _ hP hD hS (lv_sub hl [2, 3, 1, 4, 5, 0] rfl)
set_option maxHeartbeats 4000000 in
set_option maxRecDepth 100000 in
theorem wX11_iterate_155 {p : Program} (l : Launch) {e : Env} {s : State} {m : MethodId} {args : Array Value} {below : List Frame} {meth : Method} {c : Code} {dC : Nat → ClassId} {dI : Nat → Nat → Nat} {cy : Nat → ClassId} {A : Nat → Prop} (h : Nat → Nat) (post : Int32 → (Nat → Int32) → (Nat → Int32) → Prop)   (t_kind : Int32) (t_exponent : Int32) (t_letters : Int32) (t_images : Nat → Int32) (t_imageSizes : Nat → Int32) (t_fed : Int32) (t_at : Int32) (t_rowSize : Int32) (t_steps : Int32) (t_foundMany : Int32) (t_keptMany : Int32) (t_keptLetters : Int32) (t_isFull : Int32) (t_isSaved : Int32) (t_savedKind : Int32) (t_savedExponent : Int32) (t_savedLetters : Int32) (p1 : Int32) (p2 : Int32) (C0 : cx p s m args meth c cX11_iterate 7 (some .int) wsX11_iterate RX11 dC dI cy A)  : ∀ (t_words : Nat → Int32) (t_lengths : Nat → Int32), VX11_iterate_155 post t_letters t_images t_imageSizes p1 p2 t_words t_lengths → ∀ (H : Heap) (locs : List Loc) (ls : Array Slot), va_P (dC, dI) vwCl (pX11_iterate cy h t_kind t_exponent t_letters t_words t_lengths t_images t_imageSizes t_fed t_at t_rowSize t_steps t_foundMany t_keptMany t_keptLetters t_isFull t_isSaved t_savedKind t_savedExponent t_savedLetters) H → va_D A (pX11_iterate cy h t_kind t_exponent t_letters t_words t_lengths t_images t_imageSizes t_fed t_at t_rowSize t_steps t_foundMany t_keptMany t_keptLetters t_isFull t_isSaved t_savedKind t_savedExponent t_savedLetters) → va_S A s.heap H locs → lv_has ls 7 [(0, .ref (h 0)), (1, .int p1)] → W p l e rX11_iterate s m args below meth c H locs 0 0 (MQ below (va_Qi (fun (r : Int32) (u : (Nat → Int32) × (Nat → Int32)) => post r u.1 u.2) (fun (u : (Nat → Int32) × (Nat → Int32)) (t : State) => va_P (dC, dI) vwCl (pX11_iterate cy h t_kind t_exponent t_letters u.1 u.2 t_images t_imageSizes t_fed t_at t_rowSize t_steps t_foundMany t_keptMany t_keptLetters t_isFull t_isSaved t_savedKind t_savedExponent t_savedLetters) t.heap) A) args s 0 0 A) (F0 m 155 ls []) := by
  have C1 := C0
  obtain ⟨hx, hb, hr, hml, hown, hts, hlocks, hK, hA⟩ := C1
  intro t_words t_lengths hv H locs ls hP hD hS hl
  refine lv_aload_n hx hb dX11_iterate_155 rfl (lv_at hl 0 rfl) ?_
  refine va_get (D := (dC, dI)) (ci := 11) (v := .ref (h 2)) (C := RX11) (T := TX11) (N := 36) hx hb hts nX11_iterate_X11 hown hK hP 0 rfl rfl 5 (by decide) (hts _ mX11_iterate_4) (fun _ h9 => h9) rfl dX11_iterate_156 ?_
  refine lv_iload_n hx hb dX11_iterate_159 rfl (lv_at hl 1 rfl) ?_
  refine lv_bipush (v := 40) hx hb dX11_iterate_160 (by decide) ?_
  have h_31 := hv.1
  have hv := hv.2
  refine va_iast hx hb hK hP hD hS 2 0 rfl rfl h_31 dX11_iterate_162 (fun H locs hP hD hS => ?_)
  have hP : va_P (dC, dI) vwCl (pX11_iterate cy h t_kind t_exponent t_letters t_words (upd t_lengths p1.toNatClampNeg 40) t_images t_imageSizes t_fed t_at t_rowSize t_steps t_foundMany t_keptMany t_keptLetters t_isFull t_isSaved t_savedKind t_savedExponent t_savedLetters) H := hP
  have hD : va_D A (pX11_iterate cy h t_kind t_exponent t_letters t_words (upd t_lengths p1.toNatClampNeg 40) t_images t_imageSizes t_fed t_at t_rowSize t_steps t_foundMany t_keptMany t_keptLetters t_isFull t_isSaved t_savedKind t_savedExponent t_savedLetters) := hD
  refine lv_bipush (v := 40) hx hb dX11_iterate_163 (by decide) ?_
  exact W.iret (v := 40) hx hb hr (fun t ht hW => ⟨⟨40, (t_words, (upd t_lengths p1.toNatClampNeg 40)), rfl, hv, va_Ph ht hP⟩, hS.F ht⟩) hS.2.2 dX11_iterate_165
set_option maxHeartbeats 4000000 in
set_option maxRecDepth 100000 in
theorem wX11_iterate_67 {p : Program} (l : Launch) {e : Env} {s : State} {m : MethodId} {args : Array Value} {below : List Frame} {meth : Method} {c : Code} {dC : Nat → ClassId} {dI : Nat → Nat → Nat} {cy : Nat → ClassId} {A : Nat → Prop} (h : Nat → Nat) (post : Int32 → (Nat → Int32) → (Nat → Int32) → Prop)   (t_kind : Int32) (t_exponent : Int32) (t_letters : Int32) (t_images : Nat → Int32) (t_imageSizes : Nat → Int32) (t_fed : Int32) (t_at : Int32) (t_rowSize : Int32) (t_steps : Int32) (t_foundMany : Int32) (t_keptMany : Int32) (t_keptLetters : Int32) (t_isFull : Int32) (t_isSaved : Int32) (t_savedKind : Int32) (t_savedExponent : Int32) (t_savedLetters : Int32) (p1 : Int32) (p2 : Int32) (C0 : cx p s m args meth c cX11_iterate 7 (some .int) wsX11_iterate RX11 dC dI cy A)  : ∀ (n : Nat) (t_words : Nat → Int32) (t_lengths : Nat → Int32) (x3 : Int32) (x4 : Int32), VX11_iterate_67 post t_letters t_images t_imageSizes p1 p2 n t_words t_lengths x3 x4 → ∀ (H : Heap) (locs : List Loc) (ls : Array Slot), va_P (dC, dI) vwCl (pX11_iterate cy h t_kind t_exponent t_letters t_words t_lengths t_images t_imageSizes t_fed t_at t_rowSize t_steps t_foundMany t_keptMany t_keptLetters t_isFull t_isSaved t_savedKind t_savedExponent t_savedLetters) H → va_D A (pX11_iterate cy h t_kind t_exponent t_letters t_words t_lengths t_images t_imageSizes t_fed t_at t_rowSize t_steps t_foundMany t_keptMany t_keptLetters t_isFull t_isSaved t_savedKind t_savedExponent t_savedLetters) → va_S A s.heap H locs → lv_has ls 7 [(0, .ref (h 0)), (1, .int p1), (3, .int x3), (4, .int x4)] → W p l e rX11_iterate s m args below meth c H locs 0 0 (MQ below (va_Qi (fun (r : Int32) (u : (Nat → Int32) × (Nat → Int32)) => post r u.1 u.2) (fun (u : (Nat → Int32) × (Nat → Int32)) (t : State) => va_P (dC, dI) vwCl (pX11_iterate cy h t_kind t_exponent t_letters u.1 u.2 t_images t_imageSizes t_fed t_at t_rowSize t_steps t_foundMany t_keptMany t_keptLetters t_isFull t_isSaved t_savedKind t_savedExponent t_savedLetters) t.heap) A) args s 0 0 A) (F0 m 67 ls []) := by
  have C1 := C0
  obtain ⟨hx, hb, hr, hml, hown, hts, hlocks, hK, hA⟩ := C1
  intro n
  induction n with
  | zero => intro t_words t_lengths x3 x4 hv; exact hv.elim
  | succ n ih =>
    intro t_words t_lengths x3 x4 hv H locs ls hP hD hS hl
    refine lv_iload_n hx hb dX11_iterate_67 rfl (lv_at hl 2 rfl) ?_
    refine lv_bipush (v := 40) hx hb dX11_iterate_68 (by decide) ?_
    refine lv_icmp_ge (tgt := 155) hx hb dX11_iterate_70 (by decide) (fun c_23 => ?_) (fun c_23 => ?_)
    · have hv := hv.1 c_23
      exact wX11_iterate_155 l h post  t_kind t_exponent t_letters t_images t_imageSizes t_fed t_at t_rowSize t_steps t_foundMany t_keptMany t_keptLetters t_isFull t_isSaved t_savedKind t_savedExponent t_savedLetters p1 p2 C0 t_words t_lengths hv _ _ _ hP hD hS (lv_sub hl [0, 1] rfl)
    · have hv := hv.2 c_23
      refine lv_aload_n hx hb dX11_iterate_73 rfl (lv_at hl 0 rfl) ?_
      refine va_get (D := (dC, dI)) (ci := 11) (v := .ref (h 1)) (C := RX11) (T := TX11) (N := 36) hx hb hts nX11_iterate_X11 hown hK hP 0 rfl rfl 4 (by decide) (hts _ mX11_iterate_3) (fun _ h9 => h9) rfl dX11_iterate_74 ?_
      refine lv_bipush (v := 40) hx hb dX11_iterate_77 (by decide) ?_
      refine lv_iload_n hx hb dX11_iterate_79 rfl (lv_at hl 1 rfl) ?_
      refine lv_imul hx hb dX11_iterate_80 ?_
      refine lv_iload hx hb dX11_iterate_81 (lv_at hl 3 rfl) ?_
      refine lv_iadd hx hb dX11_iterate_83 ?_
      have h_19 := hv.1
      have hv := hv.2
      refine va_iald hx hb hK hP 1 0 rfl rfl h_19 dX11_iterate_84 ?_
      refine lv_topi (fun y_18 ey_18 => ?_)
      have hv := hv y_18 ey_18
      refine lv_istore (lv' := [(5, .int y_18), (0, .ref (h 0)), (1, .int p1), (3, .int x3), (4, .int x4)]) hx hb dX11_iterate_85 hl (by decide) rfl (fun ls hl => ?_)
      refine lv_iload hx hb dX11_iterate_87 (lv_at hl 4 rfl) ?_
      refine lv_if_ne (tgt := 96) hx hb dX11_iterate_89 (by decide) (fun c_22 => ?_) (fun c_22 => ?_)
      · have hv := hv.1 c_22
        refine lv_iconst (v := 0) hx hb dX11_iterate_96 (by decide) ?_
        refine lv_istore (lv' := [(6, .int 0), (5, .int y_18), (0, .ref (h 0)), (1, .int p1), (3, .int x3), (4, .int x4)]) hx hb dX11_iterate_97 hl (by decide) rfl (fun ls hl => ?_)
        obtain ⟨n_20, hv⟩ := hv
        exact wX11_iterate_99 l h post (fun t_words t_lengths x3 x4 => VX11_iterate_67 post t_letters t_images t_imageSizes p1 p2 n t_words t_lengths x3 x4)  t_kind t_exponent t_letters t_images t_imageSizes t_fed t_at t_rowSize t_steps t_foundMany t_keptMany t_keptLetters t_isFull t_isSaved t_savedKind t_savedExponent t_savedLetters p1 p2 C0 ih n_20 t_words t_lengths x3 x4 y_18 0 hv _ _ _ hP hD hS (lv_sub hl [2, 3, 4, 5, 1, 0] rfl)
      · have hv := hv.2 c_22
        refine lv_iconst (v := 1) hx hb dX11_iterate_92 (by decide) ?_
        refine lv_goto (tgt := 97) hx hb dX11_iterate_93 (by decide) ?_
        refine lv_istore (lv' := [(6, .int 1), (5, .int y_18), (0, .ref (h 0)), (1, .int p1), (3, .int x3), (4, .int x4)]) hx hb dX11_iterate_97 hl (by decide) rfl (fun ls hl => ?_)
        obtain ⟨n_21, hv⟩ := hv
        exact wX11_iterate_99 l h post (fun t_words t_lengths x3 x4 => VX11_iterate_67 post t_letters t_images t_imageSizes p1 p2 n t_words t_lengths x3 x4)  t_kind t_exponent t_letters t_images t_imageSizes t_fed t_at t_rowSize t_steps t_foundMany t_keptMany t_keptLetters t_isFull t_isSaved t_savedKind t_savedExponent t_savedLetters p1 p2 C0 ih n_21 t_words t_lengths x3 x4 y_18 1 hv _ _ _ hP hD hS (lv_sub hl [2, 3, 4, 5, 1, 0] rfl)
set_option maxHeartbeats 4000000 in
set_option maxRecDepth 100000 in
theorem wX11_iterate_0 {p : Program} (l : Launch) {e : Env} {s : State} {m : MethodId} {args : Array Value} {below : List Frame} {meth : Method} {c : Code} {dC : Nat → ClassId} {dI : Nat → Nat → Nat} {cy : Nat → ClassId} {A : Nat → Prop} (h : Nat → Nat) (post : Int32 → (Nat → Int32) → (Nat → Int32) → Prop)   (t_kind : Int32) (t_exponent : Int32) (t_letters : Int32) (t_images : Nat → Int32) (t_imageSizes : Nat → Int32) (t_fed : Int32) (t_at : Int32) (t_rowSize : Int32) (t_steps : Int32) (t_foundMany : Int32) (t_keptMany : Int32) (t_keptLetters : Int32) (t_isFull : Int32) (t_isSaved : Int32) (t_savedKind : Int32) (t_savedExponent : Int32) (t_savedLetters : Int32) (p1 : Int32) (p2 : Int32) (C0 : cx p s m args meth c cX11_iterate 7 (some .int) wsX11_iterate RX11 dC dI cy A)  : ∀ (t_words : Nat → Int32) (t_lengths : Nat → Int32), VX11_iterate post t_letters t_images t_imageSizes p1 p2 t_words t_lengths → ∀ (H : Heap) (locs : List Loc) (ls : Array Slot), va_P (dC, dI) vwCl (pX11_iterate cy h t_kind t_exponent t_letters t_words t_lengths t_images t_imageSizes t_fed t_at t_rowSize t_steps t_foundMany t_keptMany t_keptLetters t_isFull t_isSaved t_savedKind t_savedExponent t_savedLetters) H → va_D A (pX11_iterate cy h t_kind t_exponent t_letters t_words t_lengths t_images t_imageSizes t_fed t_at t_rowSize t_steps t_foundMany t_keptMany t_keptLetters t_isFull t_isSaved t_savedKind t_savedExponent t_savedLetters) → va_S A s.heap H locs → lv_has ls 7 [(0, .ref (h 0)), (1, .int p1), (2, .int p2)] → W p l e rX11_iterate s m args below meth c H locs 0 0 (MQ below (va_Qi (fun (r : Int32) (u : (Nat → Int32) × (Nat → Int32)) => post r u.1 u.2) (fun (u : (Nat → Int32) × (Nat → Int32)) (t : State) => va_P (dC, dI) vwCl (pX11_iterate cy h t_kind t_exponent t_letters u.1 u.2 t_images t_imageSizes t_fed t_at t_rowSize t_steps t_foundMany t_keptMany t_keptLetters t_isFull t_isSaved t_savedKind t_savedExponent t_savedLetters) t.heap) A) args s 0 0 A) (F0 m 0 ls []) := by
  have C1 := C0
  obtain ⟨hx, hb, hr, hml, hown, hts, hlocks, hK, hA⟩ := C1
  intro t_words t_lengths hv H locs ls hP hD hS hl
  refine lv_iload_n hx hb dX11_iterate_0 rfl (lv_at hl 1 rfl) ?_
  refine cb_SI (As := [.int p1]) (rest := []) ⟨hx, hb, hml, hown, hts⟩ (kX11_isWord l dC dI cy (adl []) p1 _ hv) (va_cwS 1 hts gX11_iterate_X11_isWord rfl rfl rfl zX11_isWord ⟨Nat.le_of_ble_eq_true rfl, Nat.le_of_ble_eq_true rfl⟩) hK hP hD hS hA [] [none, none, none, none, none] rfl rfl rfl (fun _ => rfl) rfl hl.1 rfl (Nat.le_of_ble_eq_true rfl) dX11_iterate_1 (fun r_1 w_17 H locs hv hP hD hS => ?_)
  have hP : va_P (dC, dI) vwCl (pX11_iterate cy h t_kind t_exponent t_letters t_words t_lengths t_images t_imageSizes t_fed t_at t_rowSize t_steps t_foundMany t_keptMany t_keptLetters t_isFull t_isSaved t_savedKind t_savedExponent t_savedLetters) H := hP
  have hD : va_D A (pX11_iterate cy h t_kind t_exponent t_letters t_words t_lengths t_images t_imageSizes t_fed t_at t_rowSize t_steps t_foundMany t_keptMany t_keptLetters t_isFull t_isSaved t_savedKind t_savedExponent t_savedLetters) := hD
  refine lv_if_eq (tgt := 15) hx hb dX11_iterate_4 (by decide) (fun c_16 => ?_) (fun c_16 => ?_)
  · have hv := hv.1 c_16
    refine lv_iconst (v := (-1)) hx hb dX11_iterate_15 (by decide) ?_
    exact W.iret (v := (-1)) hx hb hr (fun t ht hW => ⟨⟨(-1), (t_words, t_lengths), rfl, hv, va_Ph ht hP⟩, hS.F ht⟩) hS.2.2 dX11_iterate_16
  · have hv := hv.2 c_16
    refine lv_aload_n hx hb dX11_iterate_7 rfl (lv_at hl 0 rfl) ?_
    refine lv_iload_n hx hb dX11_iterate_8 rfl (lv_at hl 2 rfl) ?_
    refine cb_VI (As := [.int p2]) (rest := []) ⟨hx, hb, hml, hown, hts⟩ (kX11_isLetter l dC dI cy (adl [h 0, h 5, h 1, h 2, h 3, h 4, h 6, h 7, h 8, h 9, h 10, h 11, h 12, h 13, h 14, h 15, h 16, h 17, h 18, h 19, h 20, h 21]) t_kind t_exponent t_letters t_fed t_at t_rowSize t_steps t_foundMany t_keptMany t_keptLetters t_isFull t_isSaved t_savedKind t_savedExponent t_savedLetters p2 _ hv) (cwV 1 hts gX11_iterate_X11_isLetter rfl rfl rfl zX11_isLetter ⟨Nat.le_of_ble_eq_true rfl, Nat.le_of_ble_eq_true rfl⟩) hK hP hD hS hA [0] [some 0, none, none, none, none] rfl rfl rfl (ci := 11) rfl rfl (fun _ => rfl) rfl hl.1 rfl (Nat.le_of_ble_eq_true rfl) dX11_iterate_9 (fun r_2 w_15 H locs hv hP hD hS => ?_)
    have hP : va_P (dC, dI) vwCl (pX11_iterate cy h t_kind t_exponent t_letters t_words t_lengths t_images t_imageSizes t_fed t_at t_rowSize t_steps t_foundMany t_keptMany t_keptLetters t_isFull t_isSaved t_savedKind t_savedExponent t_savedLetters) H := hP
    have hD : va_D A (pX11_iterate cy h t_kind t_exponent t_letters t_words t_lengths t_images t_imageSizes t_fed t_at t_rowSize t_steps t_foundMany t_keptMany t_keptLetters t_isFull t_isSaved t_savedKind t_savedExponent t_savedLetters) := hD
    refine lv_if_ne (tgt := 17) hx hb dX11_iterate_12 (by decide) (fun c_14 => ?_) (fun c_14 => ?_)
    · have hv := hv.1 c_14
      refine lv_aload_n hx hb dX11_iterate_17 rfl (lv_at hl 0 rfl) ?_
      refine cb_VI (As := []) (rest := []) ⟨hx, hb, hml, hown, hts⟩ (kX11_isMissing l dC dI cy (adl [h 0, h 4, h 5, h 1, h 2, h 3, h 6, h 7, h 8, h 9, h 10, h 11, h 12, h 13, h 14, h 15, h 16, h 17, h 18, h 19, h 20, h 21]) t_kind t_exponent t_letters t_imageSizes t_fed t_at t_rowSize t_steps t_foundMany t_keptMany t_keptLetters t_isFull t_isSaved t_savedKind t_savedExponent t_savedLetters _ hv) (cwV 0 hts gX11_iterate_X11_isMissing rfl rfl rfl zX11_isMissing ⟨Nat.le_of_ble_eq_true rfl, Nat.le_of_ble_eq_true rfl⟩) hK hP hD hS hA [0, 4] [some 0, none, none, none, some 1] rfl rfl rfl (ci := 11) rfl rfl (fun _ => rfl) rfl hl.1 rfl (Nat.le_of_ble_eq_true rfl) dX11_iterate_18 (fun r_3 w_13 H locs hv hP hD hS => ?_)
      have hP : va_P (dC, dI) vwCl (pX11_iterate cy h t_kind t_exponent t_letters t_words t_lengths t_images t_imageSizes t_fed t_at t_rowSize t_steps t_foundMany t_keptMany t_keptLetters t_isFull t_isSaved t_savedKind t_savedExponent t_savedLetters) H := hP
      have hD : va_D A (pX11_iterate cy h t_kind t_exponent t_letters t_words t_lengths t_images t_imageSizes t_fed t_at t_rowSize t_steps t_foundMany t_keptMany t_keptLetters t_isFull t_isSaved t_savedKind t_savedExponent t_savedLetters) := hD
      refine lv_if_eq (tgt := 27) hx hb dX11_iterate_21 (by decide) (fun c_12 => ?_) (fun c_12 => ?_)
      · have hv := hv.1 c_12
        refine lv_aload_n hx hb dX11_iterate_27 rfl (lv_at hl 0 rfl) ?_
        refine va_get (D := (dC, dI)) (ci := 11) (v := .ref (h 4)) (C := RX11) (T := TX11) (N := 36) hx hb hts nX11_iterate_X11 hown hK hP 0 rfl rfl 7 (by decide) (hts _ mX11_iterate_1) (fun _ h9 => h9) rfl dX11_iterate_28 ?_
        refine lv_iload_n hx hb dX11_iterate_31 rfl (lv_at hl 2 rfl) ?_
        have h_5 := hv.1
        have hv := hv.2
        refine va_iald hx hb hK hP 4 0 rfl rfl h_5 dX11_iterate_32 ?_
        refine lv_topi (fun y_4 ey_4 => ?_)
        have hv := hv y_4 ey_4
        refine lv_iconst (v := 1) hx hb dX11_iterate_33 (by decide) ?_
        refine lv_icmp_eq (tgt := 49) hx hb dX11_iterate_34 (by decide) (fun c_11 => ?_) (fun c_11 => ?_)
        · have hv := hv.1 c_11
          refine lv_bipush (v := (-7)) hx hb dX11_iterate_49 (by decide) ?_
          exact W.iret (v := (-7)) hx hb hr (fun t ht hW => ⟨⟨(-7), (t_words, t_lengths), rfl, hv, va_Ph ht hP⟩, hS.F ht⟩) hS.2.2 dX11_iterate_51
        · have hv := hv.2 c_11
          refine lv_aload_n hx hb dX11_iterate_37 rfl (lv_at hl 0 rfl) ?_
          refine va_get (D := (dC, dI)) (ci := 11) (v := .ref (h 3)) (C := RX11) (T := TX11) (N := 36) hx hb hts nX11_iterate_X11 hown hK hP 0 rfl rfl 6 (by decide) (hts _ mX11_iterate_2) (fun _ h9 => h9) rfl dX11_iterate_38 ?_
          refine lv_iconst (v := 4) hx hb dX11_iterate_41 (by decide) ?_
          refine lv_iload_n hx hb dX11_iterate_42 rfl (lv_at hl 2 rfl) ?_
          refine lv_imul hx hb dX11_iterate_43 ?_
          have h_7 := hv.1
          have hv := hv.2
          refine va_iald hx hb hK hP 3 0 rfl rfl h_7 dX11_iterate_44 ?_
          refine lv_topi (fun y_6 ey_6 => ?_)
          have hv := hv y_6 ey_6
          refine lv_iload_n hx hb dX11_iterate_45 rfl (lv_at hl 2 rfl) ?_
          refine lv_icmp_eq (tgt := 52) hx hb dX11_iterate_46 (by decide) (fun c_10 => ?_) (fun c_10 => ?_)
          · have hv := hv.1 c_10
            refine lv_iconst (v := 1) hx hb dX11_iterate_52 (by decide) ?_
            refine lv_istore_n (lv' := [(3, .int 1), (0, .ref (h 0)), (1, .int p1), (2, .int p2)]) hx hb dX11_iterate_53 rfl hl (by decide) rfl (fun ls hl => ?_)
            refine lv_aload_n hx hb dX11_iterate_54 rfl (lv_at hl 1 rfl) ?_
            refine va_get (D := (dC, dI)) (ci := 11) (v := .ref (h 1)) (C := RX11) (T := TX11) (N := 36) hx hb hts nX11_iterate_X11 hown hK hP 0 rfl rfl 4 (by decide) (hts _ mX11_iterate_3) (fun _ h9 => h9) rfl dX11_iterate_55 ?_
            refine lv_bipush (v := 40) hx hb dX11_iterate_58 (by decide) ?_
            refine lv_iload_n hx hb dX11_iterate_60 rfl (lv_at hl 2 rfl) ?_
            refine lv_imul hx hb dX11_iterate_61 ?_
            refine lv_iload_n hx hb dX11_iterate_62 rfl (lv_at hl 3 rfl) ?_
            have h_8 := hv.1
            have hv := hv.2
            refine va_iast hx hb hK hP hD hS 1 0 rfl rfl h_8 dX11_iterate_63 (fun H locs hP hD hS => ?_)
            have hP : va_P (dC, dI) vwCl (pX11_iterate cy h t_kind t_exponent t_letters (upd t_words ((40 : Int32) * p1).toNatClampNeg p2) t_lengths t_images t_imageSizes t_fed t_at t_rowSize t_steps t_foundMany t_keptMany t_keptLetters t_isFull t_isSaved t_savedKind t_savedExponent t_savedLetters) H := hP
            have hD : va_D A (pX11_iterate cy h t_kind t_exponent t_letters (upd t_words ((40 : Int32) * p1).toNatClampNeg p2) t_lengths t_images t_imageSizes t_fed t_at t_rowSize t_steps t_foundMany t_keptMany t_keptLetters t_isFull t_isSaved t_savedKind t_savedExponent t_savedLetters) := hD
            refine lv_iconst (v := 0) hx hb dX11_iterate_64 (by decide) ?_
            refine lv_istore (lv' := [(4, .int 0), (3, .int 1), (0, .ref (h 0)), (1, .int p1), (2, .int p2)]) hx hb dX11_iterate_65 hl (by decide) rfl (fun ls hl => ?_)
            obtain ⟨n_9, hv⟩ := hv
            exact wX11_iterate_67 l h post  t_kind t_exponent t_letters t_images t_imageSizes t_fed t_at t_rowSize t_steps t_foundMany t_keptMany t_keptLetters t_isFull t_isSaved t_savedKind t_savedExponent t_savedLetters p1 p2 C0 n_9 (upd t_words ((40 : Int32) * p1).toNatClampNeg p2) t_lengths 1 0 hv _ _ _ hP hD hS (lv_sub hl [2, 3, 1, 0] rfl)
          · have hv := hv.2 c_10
            refine lv_bipush (v := (-7)) hx hb dX11_iterate_49 (by decide) ?_
            exact W.iret (v := (-7)) hx hb hr (fun t ht hW => ⟨⟨(-7), (t_words, t_lengths), rfl, hv, va_Ph ht hP⟩, hS.F ht⟩) hS.2.2 dX11_iterate_51
      · have hv := hv.2 c_12
        refine lv_bipush (v := (-6)) hx hb dX11_iterate_24 (by decide) ?_
        exact W.iret (v := (-6)) hx hb hr (fun t ht hW => ⟨⟨(-6), (t_words, t_lengths), rfl, hv, va_Ph ht hP⟩, hS.F ht⟩) hS.2.2 dX11_iterate_26
    · have hv := hv.2 c_14
      refine lv_iconst (v := (-1)) hx hb dX11_iterate_15 (by decide) ?_
      exact W.iret (v := (-1)) hx hb hr (fun t ht hW => ⟨⟨(-1), (t_words, t_lengths), rfl, hv, va_Ph ht hP⟩, hS.F ht⟩) hS.2.2 dX11_iterate_16
theorem kX11_iterate (l : Launch) (dC : Nat → ClassId) (dI : Nat → Nat → Nat) (cy : Nat → ClassId) (h : Nat → Nat) (t_kind : Int32) (t_exponent : Int32) (t_letters : Int32) (t_words : Nat → Int32) (t_lengths : Nat → Int32) (t_images : Nat → Int32) (t_imageSizes : Nat → Int32) (t_fed : Int32) (t_at : Int32) (t_rowSize : Int32) (t_steps : Int32) (t_foundMany : Int32) (t_keptMany : Int32) (t_keptLetters : Int32) (t_isFull : Int32) (t_isSaved : Int32) (t_savedKind : Int32) (t_savedExponent : Int32) (t_savedLetters : Int32) (p1 : Int32) (p2 : Int32) (post : Int32 → (Nat → Int32) → (Nat → Int32) → Prop) (hv : VX11_iterate post t_letters t_images t_imageSizes p1 p2 t_words t_lengths) : CtI l yX11_iterate wsX11_iterate rX11_iterate dC dI cy [.ref (h 0), .int p1, .int p2] (pX11_iterate cy h t_kind t_exponent t_letters t_words t_lengths t_images t_imageSizes t_fed t_at t_rowSize t_steps t_foundMany t_keptMany t_keptLetters t_isFull t_isSaved t_savedKind t_savedExponent t_savedLetters) (fun (u : (Nat → Int32) × (Nat → Int32)) => pX11_iterate cy h t_kind t_exponent t_letters u.1 u.2 t_images t_imageSizes t_fed t_at t_rowSize t_steps t_foundMany t_keptMany t_keptLetters t_isFull t_isSaved t_savedKind t_savedExponent t_savedLetters) (fun (r : Int32) (u : (Nat → Int32) × (Nat → Int32)) => post r u.1 u.2) :=
  ct_ofI (by decide) rfl (Nat.le_of_ble_eq_true rfl) (fun p e s m below meth c A ls C0 hP hD hS hl => wX11_iterate_0 l h post t_kind t_exponent t_letters t_images t_imageSizes t_fed t_at t_rowSize t_steps t_foundMany t_keptMany t_keptLetters t_isFull t_isSaved t_savedKind t_savedExponent t_savedLetters p1 p2 C0 t_words t_lengths hv _ _ _ hP hD hS hl)
theorem mX11_entry_1 : (Cond.fieldLink RX11 32 "AbelianPowersModel" "imageSizes" "[I") ∈ wsX11_entry := List.mem_of_getElem? (i := 1) rfl
theorem mX11_entry_2 : (Cond.fieldLink RX11 29 "AbelianPowersModel" "images" "[I") ∈ wsX11_entry := List.mem_of_getElem? (i := 2) rfl
theorem nX11_entry_X11 : ∀ w ∈ wsX110, w ∈ wsX11_entry := fun _ h => List.mem_cons_of_mem _ (List.mem_append_right _ h)
theorem zX11_entry : yX11_entry.cls = RX11 ∧ yX11_entry.cls ≠ "java/lang/invoke/MethodHandle" ∧ yX11_entry.cls ≠ "java/lang/invoke/VarHandle" ∧ (parseMethodDescriptor yX11_entry.desc).map (fun d => d.parameters.length) = some 2 := by decide +kernel
abbrev rX11_entry : Room := { frames := 0, cells := 0, slots := 0, locals := 0 }
abbrev pX11_entry (cy : Nat → ClassId) (h : Nat → Nat) (t_kind : Int32) (t_exponent : Int32) (t_letters : Int32) (t_images : Nat → Int32) (t_imageSizes : Nat → Int32) (t_fed : Int32) (t_at : Int32) (t_rowSize : Int32) (t_steps : Int32) (t_foundMany : Int32) (t_keptMany : Int32) (t_keptLetters : Int32) (t_isFull : Int32) (t_isSaved : Int32) (t_savedKind : Int32) (t_savedExponent : Int32) (t_savedLetters : Int32) : va_W := [(h 0, .inr (11, [.int t_kind, .int t_exponent, .int t_letters, .ref (h 3), .ref (h 4), .ref (h 5), .ref (h 1), .ref (h 2), .ref (h 6), .int t_fed, .int t_at, .ref (h 7), .int t_rowSize, .int t_steps, .ref (h 8), .int t_foundMany, .ref (h 9), .int t_keptMany, .int t_keptLetters, .ref (h 10), .ref (h 11), .ref (h 12), .ref (h 13), .ref (h 14), .int t_isFull, .ref (h 15), .ref (h 16), .int t_isSaved, .int t_savedKind, .int t_savedExponent, .int t_savedLetters, .ref (h 17), .ref (h 18), .ref (h 19), .ref (h 20), .ref (h 21)])), (h 1, .inl (cy 0, 16, .inl t_images)), (h 2, .inl (cy 0, 4, .inl t_imageSizes))]
def VX11_entry_5 (post : Int32 → Prop)  (t_images : Nat → Int32) (t_imageSizes : Nat → Int32) (p1 : Int32) (p2 : Int32) : Nat → Int32 → Int32 → Prop
  | 0, _, _ => False
  | n + 1, x3, x4 => vp_in p2 4 ∧ (∀ y_2 : Int32, y_2 = (t_imageSizes p2.toNatClampNeg) → ((y_2 ≤ x4) → post x3) ∧ (¬ (y_2 ≤ x4) → vp_in (((4 : Int32) * p2) + x4) 16 ∧ (∀ y_4 : Int32, y_4 = (t_images (((4 : Int32) * p2) + x4).toNatClampNeg) → (¬ (y_4 = p1) → VX11_entry_5 post t_images t_imageSizes p1 p2 n (x3 + 0) (x4 + 1)) ∧ ((y_4 = p1) → VX11_entry_5 post t_images t_imageSizes p1 p2 n (x3 + 1) (x4 + 1)))))
def VX11_entry (post : Int32 → Prop)  (t_images : Nat → Int32) (t_imageSizes : Nat → Int32) (p1 : Int32) (p2 : Int32)  : Prop := ∃ n5 : Nat, VX11_entry_5 post t_images t_imageSizes p1 p2 n5 0 0
set_option maxHeartbeats 4000000 in
set_option maxRecDepth 100000 in
theorem wX11_entry_5 {p : Program} (l : Launch) {e : Env} {s : State} {m : MethodId} {args : Array Value} {below : List Frame} {meth : Method} {c : Code} {dC : Nat → ClassId} {dI : Nat → Nat → Nat} {cy : Nat → ClassId} {A : Nat → Prop} (h : Nat → Nat) (post : Int32 → Prop)   (t_kind : Int32) (t_exponent : Int32) (t_letters : Int32) (t_images : Nat → Int32) (t_imageSizes : Nat → Int32) (t_fed : Int32) (t_at : Int32) (t_rowSize : Int32) (t_steps : Int32) (t_foundMany : Int32) (t_keptMany : Int32) (t_keptLetters : Int32) (t_isFull : Int32) (t_isSaved : Int32) (t_savedKind : Int32) (t_savedExponent : Int32) (t_savedLetters : Int32) (p1 : Int32) (p2 : Int32) (C0 : cx p s m args meth c cX11_entry 5 (some .int) wsX11_entry RX11 dC dI cy A)  : ∀ (n : Nat) (x3 : Int32) (x4 : Int32), VX11_entry_5 post t_images t_imageSizes p1 p2 n x3 x4 → ∀ (H : Heap) (locs : List Loc) (ls : Array Slot), va_P (dC, dI) vwCl (pX11_entry cy h t_kind t_exponent t_letters t_images t_imageSizes t_fed t_at t_rowSize t_steps t_foundMany t_keptMany t_keptLetters t_isFull t_isSaved t_savedKind t_savedExponent t_savedLetters) H → va_D A (pX11_entry cy h t_kind t_exponent t_letters t_images t_imageSizes t_fed t_at t_rowSize t_steps t_foundMany t_keptMany t_keptLetters t_isFull t_isSaved t_savedKind t_savedExponent t_savedLetters) → va_S A s.heap H locs → lv_has ls 5 [(0, .ref (h 0)), (1, .int p1), (2, .int p2), (3, .int x3), (4, .int x4)] → W p l e rX11_entry s m args below meth c H locs 0 0 (MQ below (va_Qi (fun (r : Int32) (_ : Unit) => post r) (fun (_ : Unit) (t : State) => va_P (dC, dI) vwCl (pX11_entry cy h t_kind t_exponent t_letters t_images t_imageSizes t_fed t_at t_rowSize t_steps t_foundMany t_keptMany t_keptLetters t_isFull t_isSaved t_savedKind t_savedExponent t_savedLetters) t.heap) A) args s 0 0 A) (F0 m 5 ls []) := by
  have C1 := C0
  obtain ⟨hx, hb, hr, hml, hown, hts, hlocks, hK, hA⟩ := C1
  intro n
  induction n with
  | zero => intro x3 x4 hv; exact hv.elim
  | succ n ih =>
    intro x3 x4 hv H locs ls hP hD hS hl
    refine lv_iload hx hb dX11_entry_5 (lv_at hl 4 rfl) ?_
    refine lv_aload_n hx hb dX11_entry_7 rfl (lv_at hl 0 rfl) ?_
    refine va_get (D := (dC, dI)) (ci := 11) (v := .ref (h 2)) (C := RX11) (T := TX11) (N := 36) hx hb hts nX11_entry_X11 hown hK hP 0 rfl rfl 7 (by decide) (hts _ mX11_entry_1) (fun _ h9 => h9) rfl dX11_entry_8 ?_
    refine lv_iload_n hx hb dX11_entry_11 rfl (lv_at hl 2 rfl) ?_
    have h_3 := hv.1
    have hv := hv.2
    refine va_iald hx hb hK hP 2 0 rfl rfl h_3 dX11_entry_12 ?_
    refine lv_topi (fun y_2 ey_2 => ?_)
    have hv := hv y_2 ey_2
    refine lv_icmp_ge (tgt := 45) hx hb dX11_entry_13 (by decide) (fun c_7 => ?_) (fun c_7 => ?_)
    · have hv := hv.1 c_7
      refine lv_iload_n hx hb dX11_entry_45 rfl (lv_at hl 3 rfl) ?_
      exact W.iret (v := x3) hx hb hr (fun t ht hW => ⟨⟨x3, (), rfl, hv, va_Ph ht hP⟩, hS.F ht⟩) hS.2.2 dX11_entry_46
    · have hv := hv.2 c_7
      refine lv_iload_n hx hb dX11_entry_16 rfl (lv_at hl 3 rfl) ?_
      refine lv_aload_n hx hb dX11_entry_17 rfl (lv_at hl 0 rfl) ?_
      refine va_get (D := (dC, dI)) (ci := 11) (v := .ref (h 1)) (C := RX11) (T := TX11) (N := 36) hx hb hts nX11_entry_X11 hown hK hP 0 rfl rfl 6 (by decide) (hts _ mX11_entry_2) (fun _ h9 => h9) rfl dX11_entry_18 ?_
      refine lv_iconst (v := 4) hx hb dX11_entry_21 (by decide) ?_
      refine lv_iload_n hx hb dX11_entry_22 rfl (lv_at hl 2 rfl) ?_
      refine lv_imul hx hb dX11_entry_23 ?_
      refine lv_iload hx hb dX11_entry_24 (lv_at hl 4 rfl) ?_
      refine lv_iadd hx hb dX11_entry_26 ?_
      have h_5 := hv.1
      have hv := hv.2
      refine va_iald hx hb hK hP 1 0 rfl rfl h_5 dX11_entry_27 ?_
      refine lv_topi (fun y_4 ey_4 => ?_)
      have hv := hv y_4 ey_4
      refine lv_iload_n hx hb dX11_entry_28 rfl (lv_at hl 1 rfl) ?_
      refine lv_icmp_ne (tgt := 36) hx hb dX11_entry_29 (by decide) (fun c_6 => ?_) (fun c_6 => ?_)
      · have hv := hv.1 c_6
        refine lv_iconst (v := 0) hx hb dX11_entry_36 (by decide) ?_
        refine lv_iadd hx hb dX11_entry_37 ?_
        refine lv_istore_n (lv' := [(3, .int ((x3 + 0))), (0, .ref (h 0)), (1, .int p1), (2, .int p2), (4, .int x4)]) hx hb dX11_entry_38 rfl hl (by decide) rfl (fun ls hl => ?_)
        refine lv_iinc (v := (x4 + 1)) (lv' := [(4, .int ((x4 + 1))), (3, .int ((x3 + 0))), (0, .ref (h 0)), (1, .int p1), (2, .int p2)]) hx hb dX11_entry_39 hl (k := 4) rfl rfl (by decide) rfl (fun ls hl => ?_)
        refine lv_goto (tgt := 5) hx hb dX11_entry_42 (by decide) ?_
        exact ih (x3 + 0) (x4 + 1) hv _ _ _ hP hD hS (lv_sub hl [2, 3, 4, 1, 0] rfl)
      · have hv := hv.2 c_6
        refine lv_iconst (v := 1) hx hb dX11_entry_32 (by decide) ?_
        refine lv_goto (tgt := 37) hx hb dX11_entry_33 (by decide) ?_
        refine lv_iadd hx hb dX11_entry_37 ?_
        refine lv_istore_n (lv' := [(3, .int ((x3 + 1))), (0, .ref (h 0)), (1, .int p1), (2, .int p2), (4, .int x4)]) hx hb dX11_entry_38 rfl hl (by decide) rfl (fun ls hl => ?_)
        refine lv_iinc (v := (x4 + 1)) (lv' := [(4, .int ((x4 + 1))), (3, .int ((x3 + 1))), (0, .ref (h 0)), (1, .int p1), (2, .int p2)]) hx hb dX11_entry_39 hl (k := 4) rfl rfl (by decide) rfl (fun ls hl => ?_)
        refine lv_goto (tgt := 5) hx hb dX11_entry_42 (by decide) ?_
        exact ih (x3 + 1) (x4 + 1) hv _ _ _ hP hD hS (lv_sub hl [2, 3, 4, 1, 0] rfl)
set_option maxHeartbeats 4000000 in
set_option maxRecDepth 100000 in
theorem wX11_entry_0 {p : Program} (l : Launch) {e : Env} {s : State} {m : MethodId} {args : Array Value} {below : List Frame} {meth : Method} {c : Code} {dC : Nat → ClassId} {dI : Nat → Nat → Nat} {cy : Nat → ClassId} {A : Nat → Prop} (h : Nat → Nat) (post : Int32 → Prop)   (t_kind : Int32) (t_exponent : Int32) (t_letters : Int32) (t_images : Nat → Int32) (t_imageSizes : Nat → Int32) (t_fed : Int32) (t_at : Int32) (t_rowSize : Int32) (t_steps : Int32) (t_foundMany : Int32) (t_keptMany : Int32) (t_keptLetters : Int32) (t_isFull : Int32) (t_isSaved : Int32) (t_savedKind : Int32) (t_savedExponent : Int32) (t_savedLetters : Int32) (p1 : Int32) (p2 : Int32) (C0 : cx p s m args meth c cX11_entry 5 (some .int) wsX11_entry RX11 dC dI cy A)  : VX11_entry post t_images t_imageSizes p1 p2  → ∀ (H : Heap) (locs : List Loc) (ls : Array Slot), va_P (dC, dI) vwCl (pX11_entry cy h t_kind t_exponent t_letters t_images t_imageSizes t_fed t_at t_rowSize t_steps t_foundMany t_keptMany t_keptLetters t_isFull t_isSaved t_savedKind t_savedExponent t_savedLetters) H → va_D A (pX11_entry cy h t_kind t_exponent t_letters t_images t_imageSizes t_fed t_at t_rowSize t_steps t_foundMany t_keptMany t_keptLetters t_isFull t_isSaved t_savedKind t_savedExponent t_savedLetters) → va_S A s.heap H locs → lv_has ls 5 [(0, .ref (h 0)), (1, .int p1), (2, .int p2)] → W p l e rX11_entry s m args below meth c H locs 0 0 (MQ below (va_Qi (fun (r : Int32) (_ : Unit) => post r) (fun (_ : Unit) (t : State) => va_P (dC, dI) vwCl (pX11_entry cy h t_kind t_exponent t_letters t_images t_imageSizes t_fed t_at t_rowSize t_steps t_foundMany t_keptMany t_keptLetters t_isFull t_isSaved t_savedKind t_savedExponent t_savedLetters) t.heap) A) args s 0 0 A) (F0 m 0 ls []) := by
  have C1 := C0
  obtain ⟨hx, hb, hr, hml, hown, hts, hlocks, hK, hA⟩ := C1
  intro  hv H locs ls hP hD hS hl
  refine lv_iconst (v := 0) hx hb dX11_entry_0 (by decide) ?_
  refine lv_istore_n (lv' := [(3, .int 0), (0, .ref (h 0)), (1, .int p1), (2, .int p2)]) hx hb dX11_entry_1 rfl hl (by decide) rfl (fun ls hl => ?_)
  refine lv_iconst (v := 0) hx hb dX11_entry_2 (by decide) ?_
  refine lv_istore (lv' := [(4, .int 0), (3, .int 0), (0, .ref (h 0)), (1, .int p1), (2, .int p2)]) hx hb dX11_entry_3 hl (by decide) rfl (fun ls hl => ?_)
  obtain ⟨n_1, hv⟩ := hv
  exact wX11_entry_5 l h post  t_kind t_exponent t_letters t_images t_imageSizes t_fed t_at t_rowSize t_steps t_foundMany t_keptMany t_keptLetters t_isFull t_isSaved t_savedKind t_savedExponent t_savedLetters p1 p2 C0 n_1 0 0 hv _ _ _ hP hD hS (lv_sub hl [2, 3, 4, 1, 0] rfl)
theorem kX11_entry (l : Launch) (dC : Nat → ClassId) (dI : Nat → Nat → Nat) (cy : Nat → ClassId) (h : Nat → Nat) (t_kind : Int32) (t_exponent : Int32) (t_letters : Int32) (t_images : Nat → Int32) (t_imageSizes : Nat → Int32) (t_fed : Int32) (t_at : Int32) (t_rowSize : Int32) (t_steps : Int32) (t_foundMany : Int32) (t_keptMany : Int32) (t_keptLetters : Int32) (t_isFull : Int32) (t_isSaved : Int32) (t_savedKind : Int32) (t_savedExponent : Int32) (t_savedLetters : Int32) (p1 : Int32) (p2 : Int32) (post : Int32 → Prop) (hv : VX11_entry post t_images t_imageSizes p1 p2 ) : CtI l yX11_entry wsX11_entry rX11_entry dC dI cy [.ref (h 0), .int p1, .int p2] (pX11_entry cy h t_kind t_exponent t_letters t_images t_imageSizes t_fed t_at t_rowSize t_steps t_foundMany t_keptMany t_keptLetters t_isFull t_isSaved t_savedKind t_savedExponent t_savedLetters) (fun (_ : Unit) => pX11_entry cy h t_kind t_exponent t_letters t_images t_imageSizes t_fed t_at t_rowSize t_steps t_foundMany t_keptMany t_keptLetters t_isFull t_isSaved t_savedKind t_savedExponent t_savedLetters) (fun (r : Int32) (_ : Unit) => post r) :=
  ct_ofI (by decide) rfl (Nat.le_of_ble_eq_true rfl) (fun p e s m below meth c A ls C0 hP hD hS hl => wX11_entry_0 l h post t_kind t_exponent t_letters t_images t_imageSizes t_fed t_at t_rowSize t_steps t_foundMany t_keptMany t_keptLetters t_isFull t_isSaved t_savedKind t_savedExponent t_savedLetters p1 p2 C0  hv _ _ _ hP hD hS hl)
theorem mX11_minor_1 : (Cond.fieldLink RX11 16 "AbelianPowersModel" "letters" "I") ∈ wsX11_minor := List.mem_of_getElem? (i := 1) rfl
theorem nX11_minor_X11 : ∀ w ∈ wsX110, w ∈ wsX11_minor := fun _ h => List.mem_cons_of_mem _ (List.mem_append_right _ h)
theorem zX11_minor : yX11_minor.cls = RX11 ∧ yX11_minor.cls ≠ "java/lang/invoke/MethodHandle" ∧ yX11_minor.cls ≠ "java/lang/invoke/VarHandle" ∧ (parseMethodDescriptor yX11_minor.desc).map (fun d => d.parameters.length) = some 2 := by decide +kernel
abbrev rX11_minor (d : Nat) : Room := { frames := 1 + d, cells := 0, slots := 0, locals := 24 + d * 26 }
abbrev pX11_minor (cy : Nat → ClassId) (h : Nat → Nat) (t_kind : Int32) (t_exponent : Int32) (t_letters : Int32) (t_images : Nat → Int32) (t_imageSizes : Nat → Int32) (t_fed : Int32) (t_at : Int32) (t_rowSize : Int32) (t_steps : Int32) (t_foundMany : Int32) (t_keptMany : Int32) (t_keptLetters : Int32) (t_isFull : Int32) (t_isSaved : Int32) (t_savedKind : Int32) (t_savedExponent : Int32) (t_savedLetters : Int32) : va_W := [(h 0, .inr (11, [.int t_kind, .int t_exponent, .int t_letters, .ref (h 3), .ref (h 4), .ref (h 5), .ref (h 1), .ref (h 2), .ref (h 6), .int t_fed, .int t_at, .ref (h 7), .int t_rowSize, .int t_steps, .ref (h 8), .int t_foundMany, .ref (h 9), .int t_keptMany, .int t_keptLetters, .ref (h 10), .ref (h 11), .ref (h 12), .ref (h 13), .ref (h 14), .int t_isFull, .ref (h 15), .ref (h 16), .int t_isSaved, .int t_savedKind, .int t_savedExponent, .int t_savedLetters, .ref (h 17), .ref (h 18), .ref (h 19), .ref (h 20), .ref (h 21)])), (h 1, .inl (cy 0, 16, .inl t_images)), (h 2, .inl (cy 0, 4, .inl t_imageSizes))]
def VX11_minor_18 (post : Int64 → Prop)  (rec : (Int64 → Prop) → Int32 → Int32 → Prop) (t_letters : Int32) (t_images : Nat → Int32) (t_imageSizes : Nat → Int32) (p1 : Int32) (p2 : Int32) : Nat → Int64 → Int32 → Int32 → Prop
  | 0, _, _, _ => False
  | n + 1, x3, x5, x6 => ((t_letters ≤ x6) → post x3) ∧ (¬ (t_letters ≤ x6) → (¬ (((p2 >>> (x6 &&& 31)) &&& 1) = 0) → VX11_minor_18 post rec t_letters t_images t_imageSizes p1 p2 n x3 x5 (x6 + 1)) ∧ ((((p2 >>> (x6 &&& 31)) &&& 1) = 0) → VX11_entry (fun r_3 => ∀ y_4 : Int32, y_4 = ((1 : Int32) <<< (x6 &&& 31)) → rec (fun r_5 => ∀ y_6 : Int64, y_6 = (x3 + ((x5 * r_3).toInt64 * r_5)) → VX11_minor_18 post rec t_letters t_images t_imageSizes p1 p2 n y_6 (-x5) (x6 + 1)) (p1 + 1) (p2 ||| y_4)) t_images t_imageSizes p1 x6))
def VX11_minors (post : Int64 → Prop)  (rec : (Int64 → Prop) → Int32 → Int32 → Prop) (t_letters : Int32) (t_images : Nat → Int32) (t_imageSizes : Nat → Int32) (p1 : Int32) (p2 : Int32)  : Prop := (¬ (p1 = t_letters) → ∃ n18 : Nat, VX11_minor_18 post rec t_letters t_images t_imageSizes p1 p2 n18 0 1 0) ∧ ((p1 = t_letters) → post 1)
set_option maxHeartbeats 4000000 in
set_option maxRecDepth 100000 in
theorem wX11_minor_18 {p : Program} (l : Launch) {e : Env} {s : State} {m : MethodId} {args : Array Value} {below : List Frame} {meth : Method} {c : Code} {dC : Nat → ClassId} {dI : Nat → Nat → Nat} {cy : Nat → ClassId} {A : Nat → Prop} (h : Nat → Nat) (post : Int64 → Prop)  (rec : (Int64 → Prop) → Int32 → Int32 → Prop) (d : Nat)  (t_kind : Int32) (t_exponent : Int32) (t_letters : Int32) (t_images : Nat → Int32) (t_imageSizes : Nat → Int32) (t_fed : Int32) (t_at : Int32) (t_rowSize : Int32) (t_steps : Int32) (t_foundMany : Int32) (t_keptMany : Int32) (t_keptLetters : Int32) (t_isFull : Int32) (t_isSaved : Int32) (t_savedKind : Int32) (t_savedExponent : Int32) (t_savedLetters : Int32) (p1 : Int32) (p2 : Int32) (C0 : cx p s m args meth c cX11_minor 7 (some .long) wsX11_minor RX11 dC dI cy A) (hrec : ∀ (p1 : Int32) (p2 : Int32) (post : Int64 → Prop), rec post p1 p2 → CtL l yX11_minor wsX11_minor (rX11_minor d) dC dI cy [.ref (h 0), .int p1, .int p2] (pX11_minor cy h t_kind t_exponent t_letters t_images t_imageSizes t_fed t_at t_rowSize t_steps t_foundMany t_keptMany t_keptLetters t_isFull t_isSaved t_savedKind t_savedExponent t_savedLetters) (fun (_ : Unit) => pX11_minor cy h t_kind t_exponent t_letters t_images t_imageSizes t_fed t_at t_rowSize t_steps t_foundMany t_keptMany t_keptLetters t_isFull t_isSaved t_savedKind t_savedExponent t_savedLetters) (fun (r : Int64) (_ : Unit) => post r))  : ∀ (n : Nat) (x3 : Int64) (x5 : Int32) (x6 : Int32), VX11_minor_18 post rec t_letters t_images t_imageSizes p1 p2 n x3 x5 x6 → ∀ (H : Heap) (locs : List Loc) (ls : Array Slot), va_P (dC, dI) vwCl (pX11_minor cy h t_kind t_exponent t_letters t_images t_imageSizes t_fed t_at t_rowSize t_steps t_foundMany t_keptMany t_keptLetters t_isFull t_isSaved t_savedKind t_savedExponent t_savedLetters) H → va_D A (pX11_minor cy h t_kind t_exponent t_letters t_images t_imageSizes t_fed t_at t_rowSize t_steps t_foundMany t_keptMany t_keptLetters t_isFull t_isSaved t_savedKind t_savedExponent t_savedLetters) → va_S A s.heap H locs → lv_has ls 7 [(0, .ref (h 0)), (1, .int p1), (2, .int p2), (3, .long x3), (5, .int x5), (6, .int x6)] → W p l e (rX11_minor (d + 1)) s m args below meth c H locs 0 0 (MQ below (va_Ql (fun (r : Int64) (_ : Unit) => post r) (fun (_ : Unit) (t : State) => va_P (dC, dI) vwCl (pX11_minor cy h t_kind t_exponent t_letters t_images t_imageSizes t_fed t_at t_rowSize t_steps t_foundMany t_keptMany t_keptLetters t_isFull t_isSaved t_savedKind t_savedExponent t_savedLetters) t.heap) A) args s 0 0 A) (F0 m 18 ls []) := by
  have C1 := C0
  obtain ⟨hx, hb, hr, hml, hown, hts, hlocks, hK, hA⟩ := C1
  intro n
  induction n with
  | zero => intro x3 x5 x6 hv; exact hv.elim
  | succ n ih =>
    intro x3 x5 x6 hv H locs ls hP hD hS hl
    refine lv_iload hx hb dX11_minor_18 (lv_at hl 5 rfl) ?_
    refine lv_aload_n hx hb dX11_minor_20 rfl (lv_at hl 0 rfl) ?_
    refine va_get (D := (dC, dI)) (ci := 11) (v := .int t_letters) (C := RX11) (T := TX11) (N := 36) hx hb hts nX11_minor_X11 hown hK hP 0 rfl rfl 2 (by decide) (hts _ mX11_minor_1) (fun _ h9 => h9) rfl dX11_minor_21 ?_
    refine lv_icmp_ge (tgt := 75) hx hb dX11_minor_24 (by decide) (fun c_10 => ?_) (fun c_10 => ?_)
    · have hv := hv.1 c_10
      refine lv_lload_n hx hb dX11_minor_75 rfl (lv_at hl 3 rfl) ?_
      exact W.lret (v := x3) hx hb hr (fun t ht hW => ⟨⟨x3, (), rfl, hv, va_Ph ht hP⟩, hS.F ht⟩) hS.2.2 dX11_minor_76
    · have hv := hv.2 c_10
      refine lv_iload_n hx hb dX11_minor_27 rfl (lv_at hl 2 rfl) ?_
      refine lv_iload hx hb dX11_minor_28 (lv_at hl 5 rfl) ?_
      refine lv_ishr hx hb dX11_minor_30 ?_
      refine lv_iconst (v := 1) hx hb dX11_minor_31 (by decide) ?_
      refine lv_iand hx hb dX11_minor_32 ?_
      refine lv_if_ne (tgt := 69) hx hb dX11_minor_33 (by decide) (fun c_9 => ?_) (fun c_9 => ?_)
      · have hv := hv.1 c_9
        refine lv_iinc (v := (x6 + 1)) (lv' := [(6, .int ((x6 + 1))), (0, .ref (h 0)), (1, .int p1), (2, .int p2), (3, .long x3), (5, .int x5)]) hx hb dX11_minor_69 hl (k := 5) rfl rfl (by decide) rfl (fun ls hl => ?_)
        refine lv_goto (tgt := 18) hx hb dX11_minor_72 (by decide) ?_
        exact ih x3 x5 (x6 + 1) hv _ _ _ hP hD hS (lv_sub hl [1, 2, 3, 4, 5, 0] rfl)
      · have hv := hv.2 c_9
        refine lv_lload_n hx hb dX11_minor_36 rfl (lv_at hl 3 rfl) ?_
        refine lv_iload hx hb dX11_minor_37 (lv_at hl 4 rfl) ?_
        refine lv_aload_n hx hb dX11_minor_39 rfl (lv_at hl 0 rfl) ?_
        refine lv_iload_n hx hb dX11_minor_40 rfl (lv_at hl 1 rfl) ?_
        refine lv_iload hx hb dX11_minor_41 (lv_at hl 5 rfl) ?_
        refine cb_VI (As := [.int p1, .int x6]) (rest := [.int x5, .long x3]) ⟨hx, hb, hml, hown, hts⟩ (kX11_entry l dC dI cy (adl [h 0, h 1, h 2, h 3, h 4, h 5, h 6, h 7, h 8, h 9, h 10, h 11, h 12, h 13, h 14, h 15, h 16, h 17, h 18, h 19, h 20, h 21]) t_kind t_exponent t_letters t_images t_imageSizes t_fed t_at t_rowSize t_steps t_foundMany t_keptMany t_keptLetters t_isFull t_isSaved t_savedKind t_savedExponent t_savedLetters p1 x6 _ hv) (cwV 2 hts gX11_minor_X11_entry rfl rfl rfl zX11_entry ⟨by simp only [rX11_minor, rX11_entry]; omega, by simp only [rX11_minor, rX11_entry]; omega⟩) hK hP hD hS hA [0, 1, 2] [some 0, some 1, some 2] rfl rfl rfl (ci := 11) rfl rfl (fun _ => rfl) rfl hl.1 rfl (Nat.le_of_ble_eq_true rfl) dX11_minor_43 (fun r_3 w_8 H locs hv hP hD hS => ?_)
        have hP : va_P (dC, dI) vwCl (pX11_minor cy h t_kind t_exponent t_letters t_images t_imageSizes t_fed t_at t_rowSize t_steps t_foundMany t_keptMany t_keptLetters t_isFull t_isSaved t_savedKind t_savedExponent t_savedLetters) H := hP
        have hD : va_D A (pX11_minor cy h t_kind t_exponent t_letters t_images t_imageSizes t_fed t_at t_rowSize t_steps t_foundMany t_keptMany t_keptLetters t_isFull t_isSaved t_savedKind t_savedExponent t_savedLetters) := hD
        refine lv_imul hx hb dX11_minor_46 ?_
        refine lv_i2l (v := (x5 * r_3).toInt64) hx hb dX11_minor_47 rfl ?_
        refine lv_aload_n hx hb dX11_minor_48 rfl (lv_at hl 0 rfl) ?_
        refine lv_iload_n hx hb dX11_minor_49 rfl (lv_at hl 1 rfl) ?_
        refine lv_iconst (v := 1) hx hb dX11_minor_50 (by decide) ?_
        refine lv_iadd hx hb dX11_minor_51 ?_
        refine lv_iload_n hx hb dX11_minor_52 rfl (lv_at hl 2 rfl) ?_
        refine lv_iconst (v := 1) hx hb dX11_minor_53 (by decide) ?_
        refine lv_iload hx hb dX11_minor_54 (lv_at hl 5 rfl) ?_
        refine lv_ishl hx hb dX11_minor_56 ?_
        refine lv_topi (fun y_4 ey_4 => ?_)
        have hv := hv y_4 ey_4
        refine lv_ior hx hb dX11_minor_57 ?_
        refine cb_VL (As := [.int ((p1 + 1)), .int ((p2 ||| y_4))]) (rest := [.long ((x5 * r_3).toInt64), .long x3]) ⟨hx, hb, hml, hown, hts⟩ (hrec (p1 + 1) (p2 ||| y_4) _ hv) (cwV 2 hts gX11_minor_X11_minor rfl rfl rfl zX11_minor ⟨by simp only [rX11_minor]; omega, by simp only [rX11_minor]; omega⟩) hK hP hD hS hA [0, 1, 2] [some 0, some 1, some 2] rfl rfl rfl (ci := 11) rfl rfl (fun _ => rfl) rfl hl.1 rfl (Nat.le_of_ble_eq_true rfl) dX11_minor_58 (fun r_5 w_7 H locs hv hP hD hS => ?_)
        have hP : va_P (dC, dI) vwCl (pX11_minor cy h t_kind t_exponent t_letters t_images t_imageSizes t_fed t_at t_rowSize t_steps t_foundMany t_keptMany t_keptLetters t_isFull t_isSaved t_savedKind t_savedExponent t_savedLetters) H := hP
        have hD : va_D A (pX11_minor cy h t_kind t_exponent t_letters t_images t_imageSizes t_fed t_at t_rowSize t_steps t_foundMany t_keptMany t_keptLetters t_isFull t_isSaved t_savedKind t_savedExponent t_savedLetters) := hD
        refine lv_lmul hx hb dX11_minor_61 ?_
        refine lv_ladd hx hb dX11_minor_62 ?_
        refine lv_topl (fun y_6 ey_6 => ?_)
        have hv := hv y_6 ey_6
        refine lv_lstore_n (lv' := [(3, .long y_6), (0, .ref (h 0)), (1, .int p1), (2, .int p2), (5, .int x5), (6, .int x6)]) hx hb dX11_minor_63 rfl hl (by decide) rfl (fun ls hl => ?_)
        refine lv_iload hx hb dX11_minor_64 (lv_at hl 4 rfl) ?_
        refine lv_ineg hx hb dX11_minor_66 ?_
        refine lv_istore (lv' := [(5, .int ((-x5))), (3, .long y_6), (0, .ref (h 0)), (1, .int p1), (2, .int p2), (6, .int x6)]) hx hb dX11_minor_67 hl (by decide) rfl (fun ls hl => ?_)
        refine lv_iinc (v := (x6 + 1)) (lv' := [(6, .int ((x6 + 1))), (5, .int ((-x5))), (3, .long y_6), (0, .ref (h 0)), (1, .int p1), (2, .int p2)]) hx hb dX11_minor_69 hl (k := 5) rfl rfl (by decide) rfl (fun ls hl => ?_)
        refine lv_goto (tgt := 18) hx hb dX11_minor_72 (by decide) ?_
        exact ih y_6 (-x5) (x6 + 1) hv _ _ _ hP hD hS (lv_sub hl [3, 4, 5, 2, 1, 0] rfl)
set_option maxHeartbeats 4000000 in
set_option maxRecDepth 100000 in
theorem wX11_minor_0 {p : Program} (l : Launch) {e : Env} {s : State} {m : MethodId} {args : Array Value} {below : List Frame} {meth : Method} {c : Code} {dC : Nat → ClassId} {dI : Nat → Nat → Nat} {cy : Nat → ClassId} {A : Nat → Prop} (h : Nat → Nat) (post : Int64 → Prop)  (rec : (Int64 → Prop) → Int32 → Int32 → Prop) (d : Nat)  (t_kind : Int32) (t_exponent : Int32) (t_letters : Int32) (t_images : Nat → Int32) (t_imageSizes : Nat → Int32) (t_fed : Int32) (t_at : Int32) (t_rowSize : Int32) (t_steps : Int32) (t_foundMany : Int32) (t_keptMany : Int32) (t_keptLetters : Int32) (t_isFull : Int32) (t_isSaved : Int32) (t_savedKind : Int32) (t_savedExponent : Int32) (t_savedLetters : Int32) (p1 : Int32) (p2 : Int32) (C0 : cx p s m args meth c cX11_minor 7 (some .long) wsX11_minor RX11 dC dI cy A) (hrec : ∀ (p1 : Int32) (p2 : Int32) (post : Int64 → Prop), rec post p1 p2 → CtL l yX11_minor wsX11_minor (rX11_minor d) dC dI cy [.ref (h 0), .int p1, .int p2] (pX11_minor cy h t_kind t_exponent t_letters t_images t_imageSizes t_fed t_at t_rowSize t_steps t_foundMany t_keptMany t_keptLetters t_isFull t_isSaved t_savedKind t_savedExponent t_savedLetters) (fun (_ : Unit) => pX11_minor cy h t_kind t_exponent t_letters t_images t_imageSizes t_fed t_at t_rowSize t_steps t_foundMany t_keptMany t_keptLetters t_isFull t_isSaved t_savedKind t_savedExponent t_savedLetters) (fun (r : Int64) (_ : Unit) => post r))  : VX11_minors post rec t_letters t_images t_imageSizes p1 p2  → ∀ (H : Heap) (locs : List Loc) (ls : Array Slot), va_P (dC, dI) vwCl (pX11_minor cy h t_kind t_exponent t_letters t_images t_imageSizes t_fed t_at t_rowSize t_steps t_foundMany t_keptMany t_keptLetters t_isFull t_isSaved t_savedKind t_savedExponent t_savedLetters) H → va_D A (pX11_minor cy h t_kind t_exponent t_letters t_images t_imageSizes t_fed t_at t_rowSize t_steps t_foundMany t_keptMany t_keptLetters t_isFull t_isSaved t_savedKind t_savedExponent t_savedLetters) → va_S A s.heap H locs → lv_has ls 7 [(0, .ref (h 0)), (1, .int p1), (2, .int p2)] → W p l e (rX11_minor (d + 1)) s m args below meth c H locs 0 0 (MQ below (va_Ql (fun (r : Int64) (_ : Unit) => post r) (fun (_ : Unit) (t : State) => va_P (dC, dI) vwCl (pX11_minor cy h t_kind t_exponent t_letters t_images t_imageSizes t_fed t_at t_rowSize t_steps t_foundMany t_keptMany t_keptLetters t_isFull t_isSaved t_savedKind t_savedExponent t_savedLetters) t.heap) A) args s 0 0 A) (F0 m 0 ls []) := by
  have C1 := C0
  obtain ⟨hx, hb, hr, hml, hown, hts, hlocks, hK, hA⟩ := C1
  intro  hv H locs ls hP hD hS hl
  refine lv_iload_n hx hb dX11_minor_0 rfl (lv_at hl 1 rfl) ?_
  refine lv_aload_n hx hb dX11_minor_1 rfl (lv_at hl 0 rfl) ?_
  refine va_get (D := (dC, dI)) (ci := 11) (v := .int t_letters) (C := RX11) (T := TX11) (N := 36) hx hb hts nX11_minor_X11 hown hK hP 0 rfl rfl 2 (by decide) (hts _ mX11_minor_1) (fun _ h9 => h9) rfl dX11_minor_2 ?_
  refine lv_icmp_ne (tgt := 10) hx hb dX11_minor_5 (by decide) (fun c_2 => ?_) (fun c_2 => ?_)
  · have hv := hv.1 c_2
    refine lv_lconst (v := 0) hx hb dX11_minor_10 (by decide) ?_
    refine lv_lstore_n (lv' := [(3, .long 0), (0, .ref (h 0)), (1, .int p1), (2, .int p2)]) hx hb dX11_minor_11 rfl hl (by decide) rfl (fun ls hl => ?_)
    refine lv_iconst (v := 1) hx hb dX11_minor_12 (by decide) ?_
    refine lv_istore (lv' := [(5, .int 1), (3, .long 0), (0, .ref (h 0)), (1, .int p1), (2, .int p2)]) hx hb dX11_minor_13 hl (by decide) rfl (fun ls hl => ?_)
    refine lv_iconst (v := 0) hx hb dX11_minor_15 (by decide) ?_
    refine lv_istore (lv' := [(6, .int 0), (5, .int 1), (3, .long 0), (0, .ref (h 0)), (1, .int p1), (2, .int p2)]) hx hb dX11_minor_16 hl (by decide) rfl (fun ls hl => ?_)
    obtain ⟨n_1, hv⟩ := hv
    exact wX11_minor_18 l h post  rec d t_kind t_exponent t_letters t_images t_imageSizes t_fed t_at t_rowSize t_steps t_foundMany t_keptMany t_keptLetters t_isFull t_isSaved t_savedKind t_savedExponent t_savedLetters p1 p2 C0 hrec n_1 0 1 0 hv _ _ _ hP hD hS (lv_sub hl [3, 4, 5, 2, 1, 0] rfl)
  · have hv := hv.2 c_2
    refine lv_lconst (v := 1) hx hb dX11_minor_8 (by decide) ?_
    exact W.lret (v := 1) hx hb hr (fun t ht hW => ⟨⟨1, (), rfl, hv, va_Ph ht hP⟩, hS.F ht⟩) hS.2.2 dX11_minor_9
def VX11_minor (t_letters : Int32) (t_images : Nat → Int32) (t_imageSizes : Nat → Int32) : Nat → (Int64 → Prop) → Int32 → Int32 → Prop
  | 0, _, _, _ => False
  | d + 1, post, p1, p2 => VX11_minors post (VX11_minor t_letters t_images t_imageSizes d) t_letters t_images t_imageSizes p1 p2
theorem kX11_minor (l : Launch) (dC : Nat → ClassId) (dI : Nat → Nat → Nat) (cy : Nat → ClassId) (h : Nat → Nat) (t_kind : Int32) (t_exponent : Int32) (t_letters : Int32) (t_images : Nat → Int32) (t_imageSizes : Nat → Int32) (t_fed : Int32) (t_at : Int32) (t_rowSize : Int32) (t_steps : Int32) (t_foundMany : Int32) (t_keptMany : Int32) (t_keptLetters : Int32) (t_isFull : Int32) (t_isSaved : Int32) (t_savedKind : Int32) (t_savedExponent : Int32) (t_savedLetters : Int32) : ∀ (d : Nat) (p1 : Int32) (p2 : Int32) (post : Int64 → Prop), VX11_minor t_letters t_images t_imageSizes d post p1 p2 → CtL l yX11_minor wsX11_minor (rX11_minor d) dC dI cy [.ref (h 0), .int p1, .int p2] (pX11_minor cy h t_kind t_exponent t_letters t_images t_imageSizes t_fed t_at t_rowSize t_steps t_foundMany t_keptMany t_keptLetters t_isFull t_isSaved t_savedKind t_savedExponent t_savedLetters) (fun (_ : Unit) => pX11_minor cy h t_kind t_exponent t_letters t_images t_imageSizes t_fed t_at t_rowSize t_steps t_foundMany t_keptMany t_keptLetters t_isFull t_isSaved t_savedKind t_savedExponent t_savedLetters) (fun (r : Int64) (_ : Unit) => post r) := by
  intro d
  induction d with
  | zero => intro p1 p2 post hv; exact hv.elim
  | succ d ih =>
    intro p1 p2 post hv
    exact ct_ofL (by decide) rfl (Nat.le_of_ble_eq_true rfl) (fun p e s m below meth c A ls C0 hP hD hS hl => wX11_minor_0 l h post (VX11_minor t_letters t_images t_imageSizes d) d t_kind t_exponent t_letters t_images t_imageSizes t_fed t_at t_rowSize t_steps t_foundMany t_keptMany t_keptLetters t_isFull t_isSaved t_savedKind t_savedExponent t_savedLetters p1 p2 C0 ih  hv _ _ _ hP hD hS hl)
theorem mX11_determinant_1 : (Cond.constantLong RX11 196 (-9223372036854775808)) ∈ wsX11_determinant := List.mem_of_getElem? (i := 1) rfl
theorem zX11_determinant : yX11_determinant.cls = RX11 ∧ yX11_determinant.cls ≠ "java/lang/invoke/MethodHandle" ∧ yX11_determinant.cls ≠ "java/lang/invoke/VarHandle" ∧ (parseMethodDescriptor yX11_determinant.desc).map (fun d => d.parameters.length) = some 0 := by decide +kernel
abbrev rX11_determinant : Room := { frames := 10, cells := 0, slots := 0, locals := 258 }
abbrev pX11_determinant (cy : Nat → ClassId) (h : Nat → Nat) (t_kind : Int32) (t_exponent : Int32) (t_letters : Int32) (t_images : Nat → Int32) (t_imageSizes : Nat → Int32) (t_fed : Int32) (t_at : Int32) (t_rowSize : Int32) (t_steps : Int32) (t_foundMany : Int32) (t_keptMany : Int32) (t_keptLetters : Int32) (t_isFull : Int32) (t_isSaved : Int32) (t_savedKind : Int32) (t_savedExponent : Int32) (t_savedLetters : Int32) : va_W := [(h 0, .inr (11, [.int t_kind, .int t_exponent, .int t_letters, .ref (h 3), .ref (h 4), .ref (h 5), .ref (h 1), .ref (h 2), .ref (h 6), .int t_fed, .int t_at, .ref (h 7), .int t_rowSize, .int t_steps, .ref (h 8), .int t_foundMany, .ref (h 9), .int t_keptMany, .int t_keptLetters, .ref (h 10), .ref (h 11), .ref (h 12), .ref (h 13), .ref (h 14), .int t_isFull, .ref (h 15), .ref (h 16), .int t_isSaved, .int t_savedKind, .int t_savedExponent, .int t_savedLetters, .ref (h 17), .ref (h 18), .ref (h 19), .ref (h 20), .ref (h 21)])), (h 1, .inl (cy 0, 16, .inl t_images)), (h 2, .inl (cy 0, 4, .inl t_imageSizes))]
def VX11_determinant (post : Int64 → Prop)  (t_letters : Int32) (t_images : Nat → Int32) (t_imageSizes : Nat → Int32)  : Prop := VX11_isMissing (fun r_1 => ((r_1 = 0) → VX11_minor t_letters t_images t_imageSizes 8 (fun r_2 => post r_2) 0 0) ∧ (¬ (r_1 = 0) → post (-9223372036854775808))) t_letters t_imageSizes
set_option maxHeartbeats 4000000 in
set_option maxRecDepth 100000 in
theorem wX11_determinant_0 {p : Program} (l : Launch) {e : Env} {s : State} {m : MethodId} {args : Array Value} {below : List Frame} {meth : Method} {c : Code} {dC : Nat → ClassId} {dI : Nat → Nat → Nat} {cy : Nat → ClassId} {A : Nat → Prop} (h : Nat → Nat) (post : Int64 → Prop)   (t_kind : Int32) (t_exponent : Int32) (t_letters : Int32) (t_images : Nat → Int32) (t_imageSizes : Nat → Int32) (t_fed : Int32) (t_at : Int32) (t_rowSize : Int32) (t_steps : Int32) (t_foundMany : Int32) (t_keptMany : Int32) (t_keptLetters : Int32) (t_isFull : Int32) (t_isSaved : Int32) (t_savedKind : Int32) (t_savedExponent : Int32) (t_savedLetters : Int32)  (C0 : cx p s m args meth c cX11_determinant 1 (some .long) wsX11_determinant RX11 dC dI cy A)  : VX11_determinant post t_letters t_images t_imageSizes  → ∀ (H : Heap) (locs : List Loc) (ls : Array Slot), va_P (dC, dI) vwCl (pX11_determinant cy h t_kind t_exponent t_letters t_images t_imageSizes t_fed t_at t_rowSize t_steps t_foundMany t_keptMany t_keptLetters t_isFull t_isSaved t_savedKind t_savedExponent t_savedLetters) H → va_D A (pX11_determinant cy h t_kind t_exponent t_letters t_images t_imageSizes t_fed t_at t_rowSize t_steps t_foundMany t_keptMany t_keptLetters t_isFull t_isSaved t_savedKind t_savedExponent t_savedLetters) → va_S A s.heap H locs → lv_has ls 1 [(0, .ref (h 0))] → W p l e rX11_determinant s m args below meth c H locs 0 0 (MQ below (va_Ql (fun (r : Int64) (_ : Unit) => post r) (fun (_ : Unit) (t : State) => va_P (dC, dI) vwCl (pX11_determinant cy h t_kind t_exponent t_letters t_images t_imageSizes t_fed t_at t_rowSize t_steps t_foundMany t_keptMany t_keptLetters t_isFull t_isSaved t_savedKind t_savedExponent t_savedLetters) t.heap) A) args s 0 0 A) (F0 m 0 ls []) := by
  have C1 := C0
  obtain ⟨hx, hb, hr, hml, hown, hts, hlocks, hK, hA⟩ := C1
  intro  hv H locs ls hP hD hS hl
  refine lv_aload_n hx hb dX11_determinant_0 rfl (lv_at hl 0 rfl) ?_
  refine cb_VI (As := []) (rest := []) ⟨hx, hb, hml, hown, hts⟩ (kX11_isMissing l dC dI cy (adl [h 0, h 2, h 3, h 4, h 5, h 1, h 6, h 7, h 8, h 9, h 10, h 11, h 12, h 13, h 14, h 15, h 16, h 17, h 18, h 19, h 20, h 21]) t_kind t_exponent t_letters t_imageSizes t_fed t_at t_rowSize t_steps t_foundMany t_keptMany t_keptLetters t_isFull t_isSaved t_savedKind t_savedExponent t_savedLetters _ hv) (cwV 0 hts gX11_determinant_X11_isMissing rfl rfl rfl zX11_isMissing ⟨Nat.le_of_ble_eq_true rfl, Nat.le_of_ble_eq_true rfl⟩) hK hP hD hS hA [0, 2] [some 0, none, some 1] rfl rfl rfl (ci := 11) rfl rfl (fun _ => rfl) rfl hl.1 rfl (Nat.le_of_ble_eq_true rfl) dX11_determinant_1 (fun r_1 w_5 H locs hv hP hD hS => ?_)
  have hP : va_P (dC, dI) vwCl (pX11_determinant cy h t_kind t_exponent t_letters t_images t_imageSizes t_fed t_at t_rowSize t_steps t_foundMany t_keptMany t_keptLetters t_isFull t_isSaved t_savedKind t_savedExponent t_savedLetters) H := hP
  have hD : va_D A (pX11_determinant cy h t_kind t_exponent t_letters t_images t_imageSizes t_fed t_at t_rowSize t_steps t_foundMany t_keptMany t_keptLetters t_isFull t_isSaved t_savedKind t_savedExponent t_savedLetters) := hD
  refine lv_if_eq (tgt := 13) hx hb dX11_determinant_4 (by decide) (fun c_4 => ?_) (fun c_4 => ?_)
  · have hv := hv.1 c_4
    refine lv_aload_n hx hb dX11_determinant_13 rfl (lv_at hl 0 rfl) ?_
    refine lv_iconst (v := 0) hx hb dX11_determinant_14 (by decide) ?_
    refine lv_iconst (v := 0) hx hb dX11_determinant_15 (by decide) ?_
    refine cb_VL (As := [.int 0, .int 0]) (rest := []) ⟨hx, hb, hml, hown, hts⟩ (kX11_minor l dC dI cy (adl [h 0, h 1, h 2, h 3, h 4, h 5, h 6, h 7, h 8, h 9, h 10, h 11, h 12, h 13, h 14, h 15, h 16, h 17, h 18, h 19, h 20, h 21]) t_kind t_exponent t_letters t_images t_imageSizes t_fed t_at t_rowSize t_steps t_foundMany t_keptMany t_keptLetters t_isFull t_isSaved t_savedKind t_savedExponent t_savedLetters 8 0 0 _ hv) (cwV 2 hts gX11_determinant_X11_minor rfl rfl rfl zX11_minor ⟨Nat.le_of_ble_eq_true rfl, Nat.le_of_ble_eq_true rfl⟩) hK hP hD hS hA [0, 1, 2] [some 0, some 1, some 2] rfl rfl rfl (ci := 11) rfl rfl (fun _ => rfl) rfl hl.1 rfl (Nat.le_of_ble_eq_true rfl) dX11_determinant_16 (fun r_2 w_3 H locs hv hP hD hS => ?_)
    have hP : va_P (dC, dI) vwCl (pX11_determinant cy h t_kind t_exponent t_letters t_images t_imageSizes t_fed t_at t_rowSize t_steps t_foundMany t_keptMany t_keptLetters t_isFull t_isSaved t_savedKind t_savedExponent t_savedLetters) H := hP
    have hD : va_D A (pX11_determinant cy h t_kind t_exponent t_letters t_images t_imageSizes t_fed t_at t_rowSize t_steps t_foundMany t_keptMany t_keptLetters t_isFull t_isSaved t_savedKind t_savedExponent t_savedLetters) := hD
    exact W.lret (v := r_2) hx hb hr (fun t ht hW => ⟨⟨r_2, (), rfl, hv, va_Ph ht hP⟩, hS.F ht⟩) hS.2.2 dX11_determinant_19
  · have hv := hv.2 c_4
    refine lv_ldc2 hx hb hown (hts _ mX11_determinant_1) dX11_determinant_7 ?_
    refine lv_goto (tgt := 19) hx hb dX11_determinant_10 (by decide) ?_
    exact W.lret (v := (-9223372036854775808)) hx hb hr (fun t ht hW => ⟨⟨(-9223372036854775808), (), rfl, hv, va_Ph ht hP⟩, hS.F ht⟩) hS.2.2 dX11_determinant_19
theorem kX11_determinant (l : Launch) (dC : Nat → ClassId) (dI : Nat → Nat → Nat) (cy : Nat → ClassId) (h : Nat → Nat) (t_kind : Int32) (t_exponent : Int32) (t_letters : Int32) (t_images : Nat → Int32) (t_imageSizes : Nat → Int32) (t_fed : Int32) (t_at : Int32) (t_rowSize : Int32) (t_steps : Int32) (t_foundMany : Int32) (t_keptMany : Int32) (t_keptLetters : Int32) (t_isFull : Int32) (t_isSaved : Int32) (t_savedKind : Int32) (t_savedExponent : Int32) (t_savedLetters : Int32)  (post : Int64 → Prop) (hv : VX11_determinant post t_letters t_images t_imageSizes ) : CtL l yX11_determinant wsX11_determinant rX11_determinant dC dI cy [.ref (h 0)] (pX11_determinant cy h t_kind t_exponent t_letters t_images t_imageSizes t_fed t_at t_rowSize t_steps t_foundMany t_keptMany t_keptLetters t_isFull t_isSaved t_savedKind t_savedExponent t_savedLetters) (fun (_ : Unit) => pX11_determinant cy h t_kind t_exponent t_letters t_images t_imageSizes t_fed t_at t_rowSize t_steps t_foundMany t_keptMany t_keptLetters t_isFull t_isSaved t_savedKind t_savedExponent t_savedLetters) (fun (r : Int64) (_ : Unit) => post r) :=
  ct_ofL (by decide) rfl (Nat.le_of_ble_eq_true rfl) (fun p e s m below meth c A ls C0 hP hD hS hl => wX11_determinant_0 l h post t_kind t_exponent t_letters t_images t_imageSizes t_fed t_at t_rowSize t_steps t_foundMany t_keptMany t_keptLetters t_isFull t_isSaved t_savedKind t_savedExponent t_savedLetters C0  hv _ _ _ hP hD hS hl)
theorem mX11_compare_1 : (Cond.fieldLink RX11 41 "AbelianPowersModel" "found" "[I") ∈ wsX11_compare := List.mem_of_getElem? (i := 1) rfl
theorem mX11_compare_2 : (Cond.fieldLink RX11 47 "AbelianPowersModel" "made" "[I") ∈ wsX11_compare := List.mem_of_getElem? (i := 2) rfl
theorem nX11_compare_X11 : ∀ w ∈ wsX110, w ∈ wsX11_compare := fun _ h => List.mem_cons_of_mem _ (List.mem_append_right _ h)
theorem zX11_compare : yX11_compare.cls = RX11 ∧ yX11_compare.cls ≠ "java/lang/invoke/MethodHandle" ∧ yX11_compare.cls ≠ "java/lang/invoke/VarHandle" ∧ (parseMethodDescriptor yX11_compare.desc).map (fun d => d.parameters.length) = some 1 := by decide +kernel
abbrev rX11_compare : Room := { frames := 0, cells := 0, slots := 0, locals := 0 }
abbrev pX11_compare (cy : Nat → ClassId) (h : Nat → Nat) (t_kind : Int32) (t_exponent : Int32) (t_letters : Int32) (t_fed : Int32) (t_at : Int32) (t_rowSize : Int32) (t_steps : Int32) (t_found : Nat → Int32) (t_foundMany : Int32) (t_keptMany : Int32) (t_keptLetters : Int32) (t_made : Nat → Int32) (t_isFull : Int32) (t_isSaved : Int32) (t_savedKind : Int32) (t_savedExponent : Int32) (t_savedLetters : Int32) : va_W := [(h 0, .inr (11, [.int t_kind, .int t_exponent, .int t_letters, .ref (h 3), .ref (h 4), .ref (h 5), .ref (h 6), .ref (h 7), .ref (h 8), .int t_fed, .int t_at, .ref (h 9), .int t_rowSize, .int t_steps, .ref (h 1), .int t_foundMany, .ref (h 10), .int t_keptMany, .int t_keptLetters, .ref (h 2), .ref (h 11), .ref (h 12), .ref (h 13), .ref (h 14), .int t_isFull, .ref (h 15), .ref (h 16), .int t_isSaved, .int t_savedKind, .int t_savedExponent, .int t_savedLetters, .ref (h 17), .ref (h 18), .ref (h 19), .ref (h 20), .ref (h 21)])), (h 1, .inl (cy 0, 1407, .inl t_found)), (h 2, .inl (cy 0, 7, .inl t_made))]
def VX11_compare_2 (post : Int32 → Prop)  (t_found : Nat → Int32) (t_made : Nat → Int32) (p1 : Int32) : Nat → Int32 → Prop
  | 0, _ => False
  | n + 1, x2 => ((7 ≤ x2) → post (0 : Int32)) ∧ (¬ (7 ≤ x2) → vp_in (((7 : Int32) * p1) + x2) 1407 ∧ (∀ y_2 : Int32, y_2 = (t_found (((7 : Int32) * p1) + x2).toNatClampNeg) → vp_in x2 7 ∧ (∀ y_5 : Int32, y_5 = (y_2 - (t_made x2.toNatClampNeg)) → ((y_5 = 0) → VX11_compare_2 post t_found t_made p1 n (x2 + 1)) ∧ (¬ (y_5 = 0) → post y_5))))
def VX11_compare (post : Int32 → Prop)  (t_found : Nat → Int32) (t_made : Nat → Int32) (p1 : Int32)  : Prop := ∃ n2 : Nat, VX11_compare_2 post t_found t_made p1 n2 0
set_option maxHeartbeats 4000000 in
set_option maxRecDepth 100000 in
theorem wX11_compare_2 {p : Program} (l : Launch) {e : Env} {s : State} {m : MethodId} {args : Array Value} {below : List Frame} {meth : Method} {c : Code} {dC : Nat → ClassId} {dI : Nat → Nat → Nat} {cy : Nat → ClassId} {A : Nat → Prop} (h : Nat → Nat) (post : Int32 → Prop)   (t_kind : Int32) (t_exponent : Int32) (t_letters : Int32) (t_fed : Int32) (t_at : Int32) (t_rowSize : Int32) (t_steps : Int32) (t_found : Nat → Int32) (t_foundMany : Int32) (t_keptMany : Int32) (t_keptLetters : Int32) (t_made : Nat → Int32) (t_isFull : Int32) (t_isSaved : Int32) (t_savedKind : Int32) (t_savedExponent : Int32) (t_savedLetters : Int32) (p1 : Int32) (C0 : cx p s m args meth c cX11_compare 4 (some .int) wsX11_compare RX11 dC dI cy A)  : ∀ (n : Nat) (x2 : Int32), VX11_compare_2 post t_found t_made p1 n x2 → ∀ (H : Heap) (locs : List Loc) (ls : Array Slot), va_P (dC, dI) vwCl (pX11_compare cy h t_kind t_exponent t_letters t_fed t_at t_rowSize t_steps t_found t_foundMany t_keptMany t_keptLetters t_made t_isFull t_isSaved t_savedKind t_savedExponent t_savedLetters) H → va_D A (pX11_compare cy h t_kind t_exponent t_letters t_fed t_at t_rowSize t_steps t_found t_foundMany t_keptMany t_keptLetters t_made t_isFull t_isSaved t_savedKind t_savedExponent t_savedLetters) → va_S A s.heap H locs → lv_has ls 4 [(0, .ref (h 0)), (1, .int p1), (2, .int x2)] → W p l e rX11_compare s m args below meth c H locs 0 0 (MQ below (va_Qi (fun (r : Int32) (_ : Unit) => post r) (fun (_ : Unit) (t : State) => va_P (dC, dI) vwCl (pX11_compare cy h t_kind t_exponent t_letters t_fed t_at t_rowSize t_steps t_found t_foundMany t_keptMany t_keptLetters t_made t_isFull t_isSaved t_savedKind t_savedExponent t_savedLetters) t.heap) A) args s 0 0 A) (F0 m 2 ls []) := by
  have C1 := C0
  obtain ⟨hx, hb, hr, hml, hown, hts, hlocks, hK, hA⟩ := C1
  intro n
  induction n with
  | zero => intro x2 hv; exact hv.elim
  | succ n ih =>
    intro x2 hv H locs ls hP hD hS hl
    refine lv_iload_n hx hb dX11_compare_2 rfl (lv_at hl 2 rfl) ?_
    refine lv_bipush (v := 7) hx hb dX11_compare_3 (by decide) ?_
    refine lv_icmp_ge (tgt := 39) hx hb dX11_compare_5 (by decide) (fun c_7 => ?_) (fun c_7 => ?_)
    · have hv := hv.1 c_7
      refine lv_iconst (v := 0) hx hb dX11_compare_39 (by decide) ?_
      exact W.iret (v := 0) hx hb hr (fun t ht hW => ⟨⟨0, (), rfl, hv, va_Ph ht hP⟩, hS.F ht⟩) hS.2.2 dX11_compare_40
    · have hv := hv.2 c_7
      refine lv_aload_n hx hb dX11_compare_8 rfl (lv_at hl 0 rfl) ?_
      refine va_get (D := (dC, dI)) (ci := 11) (v := .ref (h 1)) (C := RX11) (T := TX11) (N := 36) hx hb hts nX11_compare_X11 hown hK hP 0 rfl rfl 14 (by decide) (hts _ mX11_compare_1) (fun _ h9 => h9) rfl dX11_compare_9 ?_
      refine lv_bipush (v := 7) hx hb dX11_compare_12 (by decide) ?_
      refine lv_iload_n hx hb dX11_compare_14 rfl (lv_at hl 1 rfl) ?_
      refine lv_imul hx hb dX11_compare_15 ?_
      refine lv_iload_n hx hb dX11_compare_16 rfl (lv_at hl 2 rfl) ?_
      refine lv_iadd hx hb dX11_compare_17 ?_
      have h_3 := hv.1
      have hv := hv.2
      refine va_iald hx hb hK hP 1 0 rfl rfl h_3 dX11_compare_18 ?_
      refine lv_topi (fun y_2 ey_2 => ?_)
      have hv := hv y_2 ey_2
      refine lv_aload_n hx hb dX11_compare_19 rfl (lv_at hl 0 rfl) ?_
      refine va_get (D := (dC, dI)) (ci := 11) (v := .ref (h 2)) (C := RX11) (T := TX11) (N := 36) hx hb hts nX11_compare_X11 hown hK hP 0 rfl rfl 19 (by decide) (hts _ mX11_compare_2) (fun _ h9 => h9) rfl dX11_compare_20 ?_
      refine lv_iload_n hx hb dX11_compare_23 rfl (lv_at hl 2 rfl) ?_
      have h_4 := hv.1
      have hv := hv.2
      refine va_iald hx hb hK hP 2 0 rfl rfl h_4 dX11_compare_24 ?_
      refine lv_isub hx hb dX11_compare_25 ?_
      refine lv_topi (fun y_5 ey_5 => ?_)
      have hv := hv y_5 ey_5
      refine lv_istore_n (lv' := [(3, .int y_5), (0, .ref (h 0)), (1, .int p1), (2, .int x2)]) hx hb dX11_compare_26 rfl hl (by decide) rfl (fun ls hl => ?_)
      refine lv_iload_n hx hb dX11_compare_27 rfl (lv_at hl 0 rfl) ?_
      refine lv_if_eq (tgt := 33) hx hb dX11_compare_28 (by decide) (fun c_6 => ?_) (fun c_6 => ?_)
      · have hv := hv.1 c_6
        refine lv_iinc (v := (x2 + 1)) (lv' := [(2, .int ((x2 + 1))), (3, .int y_5), (0, .ref (h 0)), (1, .int p1)]) hx hb dX11_compare_33 hl (k := 3) rfl rfl (by decide) rfl (fun ls hl => ?_)
        refine lv_goto (tgt := 2) hx hb dX11_compare_36 (by decide) ?_
        exact ih (x2 + 1) hv _ _ _ hP hD hS (lv_sub hl [2, 3, 0] rfl)
      · have hv := hv.2 c_6
        refine lv_iload_n hx hb dX11_compare_31 rfl (lv_at hl 0 rfl) ?_
        exact W.iret (v := y_5) hx hb hr (fun t ht hW => ⟨⟨y_5, (), rfl, hv, va_Ph ht hP⟩, hS.F ht⟩) hS.2.2 dX11_compare_32
set_option maxHeartbeats 4000000 in
set_option maxRecDepth 100000 in
theorem wX11_compare_0 {p : Program} (l : Launch) {e : Env} {s : State} {m : MethodId} {args : Array Value} {below : List Frame} {meth : Method} {c : Code} {dC : Nat → ClassId} {dI : Nat → Nat → Nat} {cy : Nat → ClassId} {A : Nat → Prop} (h : Nat → Nat) (post : Int32 → Prop)   (t_kind : Int32) (t_exponent : Int32) (t_letters : Int32) (t_fed : Int32) (t_at : Int32) (t_rowSize : Int32) (t_steps : Int32) (t_found : Nat → Int32) (t_foundMany : Int32) (t_keptMany : Int32) (t_keptLetters : Int32) (t_made : Nat → Int32) (t_isFull : Int32) (t_isSaved : Int32) (t_savedKind : Int32) (t_savedExponent : Int32) (t_savedLetters : Int32) (p1 : Int32) (C0 : cx p s m args meth c cX11_compare 4 (some .int) wsX11_compare RX11 dC dI cy A)  : VX11_compare post t_found t_made p1  → ∀ (H : Heap) (locs : List Loc) (ls : Array Slot), va_P (dC, dI) vwCl (pX11_compare cy h t_kind t_exponent t_letters t_fed t_at t_rowSize t_steps t_found t_foundMany t_keptMany t_keptLetters t_made t_isFull t_isSaved t_savedKind t_savedExponent t_savedLetters) H → va_D A (pX11_compare cy h t_kind t_exponent t_letters t_fed t_at t_rowSize t_steps t_found t_foundMany t_keptMany t_keptLetters t_made t_isFull t_isSaved t_savedKind t_savedExponent t_savedLetters) → va_S A s.heap H locs → lv_has ls 4 [(0, .ref (h 0)), (1, .int p1)] → W p l e rX11_compare s m args below meth c H locs 0 0 (MQ below (va_Qi (fun (r : Int32) (_ : Unit) => post r) (fun (_ : Unit) (t : State) => va_P (dC, dI) vwCl (pX11_compare cy h t_kind t_exponent t_letters t_fed t_at t_rowSize t_steps t_found t_foundMany t_keptMany t_keptLetters t_made t_isFull t_isSaved t_savedKind t_savedExponent t_savedLetters) t.heap) A) args s 0 0 A) (F0 m 0 ls []) := by
  have C1 := C0
  obtain ⟨hx, hb, hr, hml, hown, hts, hlocks, hK, hA⟩ := C1
  intro  hv H locs ls hP hD hS hl
  refine lv_iconst (v := 0) hx hb dX11_compare_0 (by decide) ?_
  refine lv_istore_n (lv' := [(2, .int 0), (0, .ref (h 0)), (1, .int p1)]) hx hb dX11_compare_1 rfl hl (by decide) rfl (fun ls hl => ?_)
  obtain ⟨n_1, hv⟩ := hv
  exact wX11_compare_2 l h post  t_kind t_exponent t_letters t_fed t_at t_rowSize t_steps t_found t_foundMany t_keptMany t_keptLetters t_made t_isFull t_isSaved t_savedKind t_savedExponent t_savedLetters p1 C0 n_1 0 hv _ _ _ hP hD hS (lv_sub hl [1, 2, 0] rfl)
theorem kX11_compare (l : Launch) (dC : Nat → ClassId) (dI : Nat → Nat → Nat) (cy : Nat → ClassId) (h : Nat → Nat) (t_kind : Int32) (t_exponent : Int32) (t_letters : Int32) (t_fed : Int32) (t_at : Int32) (t_rowSize : Int32) (t_steps : Int32) (t_found : Nat → Int32) (t_foundMany : Int32) (t_keptMany : Int32) (t_keptLetters : Int32) (t_made : Nat → Int32) (t_isFull : Int32) (t_isSaved : Int32) (t_savedKind : Int32) (t_savedExponent : Int32) (t_savedLetters : Int32) (p1 : Int32) (post : Int32 → Prop) (hv : VX11_compare post t_found t_made p1 ) : CtI l yX11_compare wsX11_compare rX11_compare dC dI cy [.ref (h 0), .int p1] (pX11_compare cy h t_kind t_exponent t_letters t_fed t_at t_rowSize t_steps t_found t_foundMany t_keptMany t_keptLetters t_made t_isFull t_isSaved t_savedKind t_savedExponent t_savedLetters) (fun (_ : Unit) => pX11_compare cy h t_kind t_exponent t_letters t_fed t_at t_rowSize t_steps t_found t_foundMany t_keptMany t_keptLetters t_made t_isFull t_isSaved t_savedKind t_savedExponent t_savedLetters) (fun (r : Int32) (_ : Unit) => post r) :=
  ct_ofI (by decide) rfl (Nat.le_of_ble_eq_true rfl) (fun p e s m below meth c A ls C0 hP hD hS hl => wX11_compare_0 l h post t_kind t_exponent t_letters t_fed t_at t_rowSize t_steps t_found t_foundMany t_keptMany t_keptLetters t_made t_isFull t_isSaved t_savedKind t_savedExponent t_savedLetters p1 C0  hv _ _ _ hP hD hS hl)
theorem mX11_enter_1 : (Cond.fieldLink RX11 198 "AbelianPowersModel" "foundMany" "I") ∈ wsX11_enter := List.mem_of_getElem? (i := 1) rfl
theorem mX11_enter_2 : (Cond.fieldLink RX11 41 "AbelianPowersModel" "found" "[I") ∈ wsX11_enter := List.mem_of_getElem? (i := 2) rfl
theorem mX11_enter_3 : (Cond.fieldLink RX11 47 "AbelianPowersModel" "made" "[I") ∈ wsX11_enter := List.mem_of_getElem? (i := 3) rfl
theorem nX11_enter_X11 : ∀ w ∈ wsX110, w ∈ wsX11_enter := fun _ h => List.mem_cons_of_mem _ (List.mem_append_right _ h)
theorem zX11_enter : yX11_enter.cls = RX11 ∧ yX11_enter.cls ≠ "java/lang/invoke/MethodHandle" ∧ yX11_enter.cls ≠ "java/lang/invoke/VarHandle" ∧ (parseMethodDescriptor yX11_enter.desc).map (fun d => d.parameters.length) = some 0 := by decide +kernel
abbrev rX11_enter : Room := { frames := 1, cells := 0, slots := 0, locals := 23 }
abbrev pX11_enter (cy : Nat → ClassId) (h : Nat → Nat) (t_kind : Int32) (t_exponent : Int32) (t_letters : Int32) (t_fed : Int32) (t_at : Int32) (t_rowSize : Int32) (t_steps : Int32) (t_found : Nat → Int32) (t_foundMany : Int32) (t_keptMany : Int32) (t_keptLetters : Int32) (t_made : Nat → Int32) (t_isFull : Int32) (t_isSaved : Int32) (t_savedKind : Int32) (t_savedExponent : Int32) (t_savedLetters : Int32) : va_W := [(h 0, .inr (11, [.int t_kind, .int t_exponent, .int t_letters, .ref (h 3), .ref (h 4), .ref (h 5), .ref (h 6), .ref (h 7), .ref (h 8), .int t_fed, .int t_at, .ref (h 9), .int t_rowSize, .int t_steps, .ref (h 1), .int t_foundMany, .ref (h 10), .int t_keptMany, .int t_keptLetters, .ref (h 2), .ref (h 11), .ref (h 12), .ref (h 13), .ref (h 14), .int t_isFull, .ref (h 15), .ref (h 16), .int t_isSaved, .int t_savedKind, .int t_savedExponent, .int t_savedLetters, .ref (h 17), .ref (h 18), .ref (h 19), .ref (h 20), .ref (h 21)])), (h 1, .inl (cy 0, 1407, .inl t_found)), (h 2, .inl (cy 0, 7, .inl t_made))]
def VX11_enter_113 (post : Int32 → (Nat → Int32) → Int32 → Prop)  (t_made : Nat → Int32) (t_found : Nat → Int32) (t_foundMany : Int32) (x1 : Int32) : Prop := post x1 t_found (t_foundMany + 1)
def VX11_enter_84 (post : Int32 → (Nat → Int32) → Int32 → Prop)  (t_made : Nat → Int32) : Nat → (Nat → Int32) → Int32 → Int32 → Int32 → Prop
  | 0, _, _, _, _ => False
  | n + 1, t_found, t_foundMany, x1, x2 => ((7 ≤ x2) → VX11_enter_113 post t_made t_found t_foundMany x1) ∧ (¬ (7 ≤ x2) → vp_in x2 7 ∧ (vp_in (((7 : Int32) * x1) + x2) 1407 ∧ (VX11_enter_84 post t_made n (upd t_found (((7 : Int32) * x1) + x2).toNatClampNeg (t_made x2.toNatClampNeg)) t_foundMany x1 (x2 + 1))))
def VX11_enter_53 (post : Int32 → (Nat → Int32) → Int32 → Prop)  (t_made : Nat → Int32) : Nat → (Nat → Int32) → Int32 → Int32 → Int32 → Prop
  | 0, _, _, _, _ => False
  | n + 1, t_found, t_foundMany, x1, x2 => ((x2 < ((7 : Int32) * x1)) → ∃ n84 : Nat, VX11_enter_84 post t_made n84 t_found t_foundMany x1 0) ∧ (¬ (x2 < ((7 : Int32) * x1)) → vp_in x2 1407 ∧ (vp_in (x2 + 7) 1407 ∧ (VX11_enter_53 post t_made n (upd t_found (x2 + 7).toNatClampNeg (t_found x2.toNatClampNeg)) t_foundMany x1 (x2 + (-1)))))
def VX11_enter_43 (post : Int32 → (Nat → Int32) → Int32 → Prop)  (t_made : Nat → Int32) (t_found : Nat → Int32) (t_foundMany : Int32) (x1 : Int32) : Prop := ∀ y_10 : Int32, y_10 = (((7 : Int32) * t_foundMany) - 1) → ∃ n53 : Nat, VX11_enter_53 post t_made n53 t_found t_foundMany x1 y_10
def VX11_enter_24 (post : Int32 → (Nat → Int32) → Int32 → Prop)  (t_made : Nat → Int32) (t_found : Nat → Int32) (t_foundMany : Int32) (x1 : Int32) : Prop := ((t_foundMany ≤ x1) → VX11_enter_43 post t_made t_found t_foundMany x1) ∧ (¬ (t_foundMany ≤ x1) → VX11_compare (fun r_6 => (¬ (r_6 = 0) → VX11_enter_43 post t_made t_found t_foundMany x1) ∧ ((r_6 = 0) → post (-2 : Int32) t_found t_foundMany)) t_found t_made x1)
def VX11_enter_2 (post : Int32 → (Nat → Int32) → Int32 → Prop)  (t_made : Nat → Int32) : Nat → (Nat → Int32) → Int32 → Int32 → Prop
  | 0, _, _, _ => False
  | n + 1, t_found, t_foundMany, x1 => ((t_foundMany ≤ x1) → VX11_enter_24 post t_made t_found t_foundMany x1) ∧ (¬ (t_foundMany ≤ x1) → VX11_compare (fun r_2 => ((0 ≤ r_2) → VX11_enter_24 post t_made t_found t_foundMany x1) ∧ (¬ (0 ≤ r_2) → VX11_enter_2 post t_made n t_found t_foundMany (x1 + 1))) t_found t_made x1)
def VX11_enter (post : Int32 → (Nat → Int32) → Int32 → Prop)  (t_made : Nat → Int32) (t_found : Nat → Int32) (t_foundMany : Int32) : Prop := ∃ n2 : Nat, VX11_enter_2 post t_made n2 t_found t_foundMany 0
set_option maxHeartbeats 4000000 in
set_option maxRecDepth 100000 in
theorem wX11_enter_113 {p : Program} (l : Launch) {e : Env} {s : State} {m : MethodId} {args : Array Value} {below : List Frame} {meth : Method} {c : Code} {dC : Nat → ClassId} {dI : Nat → Nat → Nat} {cy : Nat → ClassId} {A : Nat → Prop} (h : Nat → Nat) (post : Int32 → (Nat → Int32) → Int32 → Prop)   (t_kind : Int32) (t_exponent : Int32) (t_letters : Int32) (t_fed : Int32) (t_at : Int32) (t_rowSize : Int32) (t_steps : Int32) (t_keptMany : Int32) (t_keptLetters : Int32) (t_made : Nat → Int32) (t_isFull : Int32) (t_isSaved : Int32) (t_savedKind : Int32) (t_savedExponent : Int32) (t_savedLetters : Int32)  (C0 : cx p s m args meth c cX11_enter 3 (some .int) wsX11_enter RX11 dC dI cy A)  : ∀ (t_found : Nat → Int32) (t_foundMany : Int32) (x1 : Int32), VX11_enter_113 post t_made t_found t_foundMany x1 → ∀ (H : Heap) (locs : List Loc) (ls : Array Slot), va_P (dC, dI) vwCl (pX11_enter cy h t_kind t_exponent t_letters t_fed t_at t_rowSize t_steps t_found t_foundMany t_keptMany t_keptLetters t_made t_isFull t_isSaved t_savedKind t_savedExponent t_savedLetters) H → va_D A (pX11_enter cy h t_kind t_exponent t_letters t_fed t_at t_rowSize t_steps t_found t_foundMany t_keptMany t_keptLetters t_made t_isFull t_isSaved t_savedKind t_savedExponent t_savedLetters) → va_S A s.heap H locs → lv_has ls 3 [(0, .ref (h 0)), (1, .int x1)] → W p l e rX11_enter s m args below meth c H locs 0 0 (MQ below (va_Qi (fun (r : Int32) (u : (Nat → Int32) × Int32) => post r u.1 u.2) (fun (u : (Nat → Int32) × Int32) (t : State) => va_P (dC, dI) vwCl (pX11_enter cy h t_kind t_exponent t_letters t_fed t_at t_rowSize t_steps u.1 u.2 t_keptMany t_keptLetters t_made t_isFull t_isSaved t_savedKind t_savedExponent t_savedLetters) t.heap) A) args s 0 0 A) (F0 m 113 ls []) := by
  have C1 := C0
  obtain ⟨hx, hb, hr, hml, hown, hts, hlocks, hK, hA⟩ := C1
  intro t_found t_foundMany x1 hv H locs ls hP hD hS hl
  refine lv_aload_n hx hb dX11_enter_113 rfl (lv_at hl 0 rfl) ?_
  refine lv_dup hx hb dX11_enter_114 rfl ?_
  refine va_get (D := (dC, dI)) (ci := 11) (v := .int t_foundMany) (C := RX11) (T := TX11) (N := 36) hx hb hts nX11_enter_X11 hown hK hP 0 rfl rfl 15 (by decide) (hts _ mX11_enter_1) (fun _ h9 => h9) rfl dX11_enter_115 ?_
  refine lv_iconst (v := 1) hx hb dX11_enter_118 (by decide) ?_
  refine lv_iadd hx hb dX11_enter_119 ?_
  refine va_put (D := (dC, dI)) (ci := 11) (v := .int (t_foundMany + 1)) (ty := .int) (C := RX11) (T := TX11) (N := 36) hx hb hts nX11_enter_X11 tyX11 tyX11_ok nmX11 hown hK hP hD hS 0 rfl rfl 15 (by decide) (hts _ mX11_enter_1) (fun _ h9 => h9) rfl (by decide +kernel) rfl rfl (Nat.le_of_ble_eq_true rfl) dX11_enter_120 (fun H locs hP hD hS => ?_)
  have hP : va_P (dC, dI) vwCl (pX11_enter cy h t_kind t_exponent t_letters t_fed t_at t_rowSize t_steps t_found (t_foundMany + 1) t_keptMany t_keptLetters t_made t_isFull t_isSaved t_savedKind t_savedExponent t_savedLetters) H := hP
  have hD : va_D A (pX11_enter cy h t_kind t_exponent t_letters t_fed t_at t_rowSize t_steps t_found (t_foundMany + 1) t_keptMany t_keptLetters t_made t_isFull t_isSaved t_savedKind t_savedExponent t_savedLetters) := hD
  refine lv_iload_n hx hb dX11_enter_123 rfl (lv_at hl 1 rfl) ?_
  exact W.iret (v := x1) hx hb hr (fun t ht hW => ⟨⟨x1, (t_found, (t_foundMany + 1)), rfl, hv, va_Ph ht hP⟩, hS.F ht⟩) hS.2.2 dX11_enter_124
set_option maxHeartbeats 4000000 in
set_option maxRecDepth 100000 in
theorem wX11_enter_84 {p : Program} (l : Launch) {e : Env} {s : State} {m : MethodId} {args : Array Value} {below : List Frame} {meth : Method} {c : Code} {dC : Nat → ClassId} {dI : Nat → Nat → Nat} {cy : Nat → ClassId} {A : Nat → Prop} (h : Nat → Nat) (post : Int32 → (Nat → Int32) → Int32 → Prop)   (t_kind : Int32) (t_exponent : Int32) (t_letters : Int32) (t_fed : Int32) (t_at : Int32) (t_rowSize : Int32) (t_steps : Int32) (t_keptMany : Int32) (t_keptLetters : Int32) (t_made : Nat → Int32) (t_isFull : Int32) (t_isSaved : Int32) (t_savedKind : Int32) (t_savedExponent : Int32) (t_savedLetters : Int32)  (C0 : cx p s m args meth c cX11_enter 3 (some .int) wsX11_enter RX11 dC dI cy A)  : ∀ (n : Nat) (t_found : Nat → Int32) (t_foundMany : Int32) (x1 : Int32) (x2 : Int32), VX11_enter_84 post t_made n t_found t_foundMany x1 x2 → ∀ (H : Heap) (locs : List Loc) (ls : Array Slot), va_P (dC, dI) vwCl (pX11_enter cy h t_kind t_exponent t_letters t_fed t_at t_rowSize t_steps t_found t_foundMany t_keptMany t_keptLetters t_made t_isFull t_isSaved t_savedKind t_savedExponent t_savedLetters) H → va_D A (pX11_enter cy h t_kind t_exponent t_letters t_fed t_at t_rowSize t_steps t_found t_foundMany t_keptMany t_keptLetters t_made t_isFull t_isSaved t_savedKind t_savedExponent t_savedLetters) → va_S A s.heap H locs → lv_has ls 3 [(0, .ref (h 0)), (1, .int x1), (2, .int x2)] → W p l e rX11_enter s m args below meth c H locs 0 0 (MQ below (va_Qi (fun (r : Int32) (u : (Nat → Int32) × Int32) => post r u.1 u.2) (fun (u : (Nat → Int32) × Int32) (t : State) => va_P (dC, dI) vwCl (pX11_enter cy h t_kind t_exponent t_letters t_fed t_at t_rowSize t_steps u.1 u.2 t_keptMany t_keptLetters t_made t_isFull t_isSaved t_savedKind t_savedExponent t_savedLetters) t.heap) A) args s 0 0 A) (F0 m 84 ls []) := by
  have C1 := C0
  obtain ⟨hx, hb, hr, hml, hown, hts, hlocks, hK, hA⟩ := C1
  intro n
  induction n with
  | zero => intro t_found t_foundMany x1 x2 hv; exact hv.elim
  | succ n ih =>
    intro t_found t_foundMany x1 x2 hv H locs ls hP hD hS hl
    refine lv_iload_n hx hb dX11_enter_84 rfl (lv_at hl 2 rfl) ?_
    refine lv_bipush (v := 7) hx hb dX11_enter_85 (by decide) ?_
    refine lv_icmp_ge (tgt := 113) hx hb dX11_enter_87 (by decide) (fun c_18 => ?_) (fun c_18 => ?_)
    · have hv := hv.1 c_18
      exact wX11_enter_113 l h post  t_kind t_exponent t_letters t_fed t_at t_rowSize t_steps t_keptMany t_keptLetters t_made t_isFull t_isSaved t_savedKind t_savedExponent t_savedLetters C0 t_found t_foundMany x1 hv _ _ _ hP hD hS (lv_sub hl [0, 1] rfl)
    · have hv := hv.2 c_18
      refine lv_aload_n hx hb dX11_enter_90 rfl (lv_at hl 0 rfl) ?_
      refine va_get (D := (dC, dI)) (ci := 11) (v := .ref (h 1)) (C := RX11) (T := TX11) (N := 36) hx hb hts nX11_enter_X11 hown hK hP 0 rfl rfl 14 (by decide) (hts _ mX11_enter_2) (fun _ h9 => h9) rfl dX11_enter_91 ?_
      refine lv_bipush (v := 7) hx hb dX11_enter_94 (by decide) ?_
      refine lv_iload_n hx hb dX11_enter_96 rfl (lv_at hl 1 rfl) ?_
      refine lv_imul hx hb dX11_enter_97 ?_
      refine lv_iload_n hx hb dX11_enter_98 rfl (lv_at hl 2 rfl) ?_
      refine lv_iadd hx hb dX11_enter_99 ?_
      refine lv_aload_n hx hb dX11_enter_100 rfl (lv_at hl 0 rfl) ?_
      refine va_get (D := (dC, dI)) (ci := 11) (v := .ref (h 2)) (C := RX11) (T := TX11) (N := 36) hx hb hts nX11_enter_X11 hown hK hP 0 rfl rfl 19 (by decide) (hts _ mX11_enter_3) (fun _ h9 => h9) rfl dX11_enter_101 ?_
      refine lv_iload_n hx hb dX11_enter_104 rfl (lv_at hl 2 rfl) ?_
      have h_16 := hv.1
      have hv := hv.2
      refine va_iald hx hb hK hP 2 0 rfl rfl h_16 dX11_enter_105 ?_
      have h_17 := hv.1
      have hv := hv.2
      refine va_iast hx hb hK hP hD hS 1 0 rfl rfl h_17 dX11_enter_106 (fun H locs hP hD hS => ?_)
      have hP : va_P (dC, dI) vwCl (pX11_enter cy h t_kind t_exponent t_letters t_fed t_at t_rowSize t_steps (upd t_found (((7 : Int32) * x1) + x2).toNatClampNeg (t_made x2.toNatClampNeg)) t_foundMany t_keptMany t_keptLetters t_made t_isFull t_isSaved t_savedKind t_savedExponent t_savedLetters) H := hP
      have hD : va_D A (pX11_enter cy h t_kind t_exponent t_letters t_fed t_at t_rowSize t_steps (upd t_found (((7 : Int32) * x1) + x2).toNatClampNeg (t_made x2.toNatClampNeg)) t_foundMany t_keptMany t_keptLetters t_made t_isFull t_isSaved t_savedKind t_savedExponent t_savedLetters) := hD
      refine lv_iinc (v := (x2 + 1)) (lv' := [(2, .int ((x2 + 1))), (0, .ref (h 0)), (1, .int x1)]) hx hb dX11_enter_107 hl (k := 2) rfl rfl (by decide) rfl (fun ls hl => ?_)
      refine lv_goto (tgt := 84) hx hb dX11_enter_110 (by decide) ?_
      exact ih (upd t_found (((7 : Int32) * x1) + x2).toNatClampNeg (t_made x2.toNatClampNeg)) t_foundMany x1 (x2 + 1) hv _ _ _ hP hD hS (lv_sub hl [1, 2, 0] rfl)
set_option maxHeartbeats 4000000 in
set_option maxRecDepth 100000 in
theorem wX11_enter_53 {p : Program} (l : Launch) {e : Env} {s : State} {m : MethodId} {args : Array Value} {below : List Frame} {meth : Method} {c : Code} {dC : Nat → ClassId} {dI : Nat → Nat → Nat} {cy : Nat → ClassId} {A : Nat → Prop} (h : Nat → Nat) (post : Int32 → (Nat → Int32) → Int32 → Prop)   (t_kind : Int32) (t_exponent : Int32) (t_letters : Int32) (t_fed : Int32) (t_at : Int32) (t_rowSize : Int32) (t_steps : Int32) (t_keptMany : Int32) (t_keptLetters : Int32) (t_made : Nat → Int32) (t_isFull : Int32) (t_isSaved : Int32) (t_savedKind : Int32) (t_savedExponent : Int32) (t_savedLetters : Int32)  (C0 : cx p s m args meth c cX11_enter 3 (some .int) wsX11_enter RX11 dC dI cy A)  : ∀ (n : Nat) (t_found : Nat → Int32) (t_foundMany : Int32) (x1 : Int32) (x2 : Int32), VX11_enter_53 post t_made n t_found t_foundMany x1 x2 → ∀ (H : Heap) (locs : List Loc) (ls : Array Slot), va_P (dC, dI) vwCl (pX11_enter cy h t_kind t_exponent t_letters t_fed t_at t_rowSize t_steps t_found t_foundMany t_keptMany t_keptLetters t_made t_isFull t_isSaved t_savedKind t_savedExponent t_savedLetters) H → va_D A (pX11_enter cy h t_kind t_exponent t_letters t_fed t_at t_rowSize t_steps t_found t_foundMany t_keptMany t_keptLetters t_made t_isFull t_isSaved t_savedKind t_savedExponent t_savedLetters) → va_S A s.heap H locs → lv_has ls 3 [(0, .ref (h 0)), (1, .int x1), (2, .int x2)] → W p l e rX11_enter s m args below meth c H locs 0 0 (MQ below (va_Qi (fun (r : Int32) (u : (Nat → Int32) × Int32) => post r u.1 u.2) (fun (u : (Nat → Int32) × Int32) (t : State) => va_P (dC, dI) vwCl (pX11_enter cy h t_kind t_exponent t_letters t_fed t_at t_rowSize t_steps u.1 u.2 t_keptMany t_keptLetters t_made t_isFull t_isSaved t_savedKind t_savedExponent t_savedLetters) t.heap) A) args s 0 0 A) (F0 m 53 ls []) := by
  have C1 := C0
  obtain ⟨hx, hb, hr, hml, hown, hts, hlocks, hK, hA⟩ := C1
  intro n
  induction n with
  | zero => intro t_found t_foundMany x1 x2 hv; exact hv.elim
  | succ n ih =>
    intro t_found t_foundMany x1 x2 hv H locs ls hP hD hS hl
    refine lv_iload_n hx hb dX11_enter_53 rfl (lv_at hl 2 rfl) ?_
    refine lv_bipush (v := 7) hx hb dX11_enter_54 (by decide) ?_
    refine lv_iload_n hx hb dX11_enter_56 rfl (lv_at hl 1 rfl) ?_
    refine lv_imul hx hb dX11_enter_57 ?_
    refine lv_icmp_lt (tgt := 82) hx hb dX11_enter_58 (by decide) (fun c_15 => ?_) (fun c_15 => ?_)
    · have hv := hv.1 c_15
      refine lv_iconst (v := 0) hx hb dX11_enter_82 (by decide) ?_
      refine lv_istore_n (lv' := [(2, .int 0), (0, .ref (h 0)), (1, .int x1)]) hx hb dX11_enter_83 rfl hl (by decide) rfl (fun ls hl => ?_)
      obtain ⟨n_12, hv⟩ := hv
      exact wX11_enter_84 l h post  t_kind t_exponent t_letters t_fed t_at t_rowSize t_steps t_keptMany t_keptLetters t_made t_isFull t_isSaved t_savedKind t_savedExponent t_savedLetters C0 n_12 t_found t_foundMany x1 0 hv _ _ _ hP hD hS (lv_sub hl [1, 2, 0] rfl)
    · have hv := hv.2 c_15
      refine lv_aload_n hx hb dX11_enter_61 rfl (lv_at hl 0 rfl) ?_
      refine va_get (D := (dC, dI)) (ci := 11) (v := .ref (h 1)) (C := RX11) (T := TX11) (N := 36) hx hb hts nX11_enter_X11 hown hK hP 0 rfl rfl 14 (by decide) (hts _ mX11_enter_2) (fun _ h9 => h9) rfl dX11_enter_62 ?_
      refine lv_iload_n hx hb dX11_enter_65 rfl (lv_at hl 2 rfl) ?_
      refine lv_bipush (v := 7) hx hb dX11_enter_66 (by decide) ?_
      refine lv_iadd hx hb dX11_enter_68 ?_
      refine lv_aload_n hx hb dX11_enter_69 rfl (lv_at hl 0 rfl) ?_
      refine va_get (D := (dC, dI)) (ci := 11) (v := .ref (h 1)) (C := RX11) (T := TX11) (N := 36) hx hb hts nX11_enter_X11 hown hK hP 0 rfl rfl 14 (by decide) (hts _ mX11_enter_2) (fun _ h9 => h9) rfl dX11_enter_70 ?_
      refine lv_iload_n hx hb dX11_enter_73 rfl (lv_at hl 2 rfl) ?_
      have h_13 := hv.1
      have hv := hv.2
      refine va_iald hx hb hK hP 1 0 rfl rfl h_13 dX11_enter_74 ?_
      have h_14 := hv.1
      have hv := hv.2
      refine va_iast hx hb hK hP hD hS 1 0 rfl rfl h_14 dX11_enter_75 (fun H locs hP hD hS => ?_)
      have hP : va_P (dC, dI) vwCl (pX11_enter cy h t_kind t_exponent t_letters t_fed t_at t_rowSize t_steps (upd t_found (x2 + 7).toNatClampNeg (t_found x2.toNatClampNeg)) t_foundMany t_keptMany t_keptLetters t_made t_isFull t_isSaved t_savedKind t_savedExponent t_savedLetters) H := hP
      have hD : va_D A (pX11_enter cy h t_kind t_exponent t_letters t_fed t_at t_rowSize t_steps (upd t_found (x2 + 7).toNatClampNeg (t_found x2.toNatClampNeg)) t_foundMany t_keptMany t_keptLetters t_made t_isFull t_isSaved t_savedKind t_savedExponent t_savedLetters) := hD
      refine lv_iinc (v := (x2 + (-1))) (lv' := [(2, .int ((x2 + (-1)))), (0, .ref (h 0)), (1, .int x1)]) hx hb dX11_enter_76 hl (k := 2) rfl rfl (by decide) rfl (fun ls hl => ?_)
      refine lv_goto (tgt := 53) hx hb dX11_enter_79 (by decide) ?_
      exact ih (upd t_found (x2 + 7).toNatClampNeg (t_found x2.toNatClampNeg)) t_foundMany x1 (x2 + (-1)) hv _ _ _ hP hD hS (lv_sub hl [1, 2, 0] rfl)
set_option maxHeartbeats 4000000 in
set_option maxRecDepth 100000 in
theorem wX11_enter_43 {p : Program} (l : Launch) {e : Env} {s : State} {m : MethodId} {args : Array Value} {below : List Frame} {meth : Method} {c : Code} {dC : Nat → ClassId} {dI : Nat → Nat → Nat} {cy : Nat → ClassId} {A : Nat → Prop} (h : Nat → Nat) (post : Int32 → (Nat → Int32) → Int32 → Prop)   (t_kind : Int32) (t_exponent : Int32) (t_letters : Int32) (t_fed : Int32) (t_at : Int32) (t_rowSize : Int32) (t_steps : Int32) (t_keptMany : Int32) (t_keptLetters : Int32) (t_made : Nat → Int32) (t_isFull : Int32) (t_isSaved : Int32) (t_savedKind : Int32) (t_savedExponent : Int32) (t_savedLetters : Int32)  (C0 : cx p s m args meth c cX11_enter 3 (some .int) wsX11_enter RX11 dC dI cy A)  : ∀ (t_found : Nat → Int32) (t_foundMany : Int32) (x1 : Int32), VX11_enter_43 post t_made t_found t_foundMany x1 → ∀ (H : Heap) (locs : List Loc) (ls : Array Slot), va_P (dC, dI) vwCl (pX11_enter cy h t_kind t_exponent t_letters t_fed t_at t_rowSize t_steps t_found t_foundMany t_keptMany t_keptLetters t_made t_isFull t_isSaved t_savedKind t_savedExponent t_savedLetters) H → va_D A (pX11_enter cy h t_kind t_exponent t_letters t_fed t_at t_rowSize t_steps t_found t_foundMany t_keptMany t_keptLetters t_made t_isFull t_isSaved t_savedKind t_savedExponent t_savedLetters) → va_S A s.heap H locs → lv_has ls 3 [(0, .ref (h 0)), (1, .int x1)] → W p l e rX11_enter s m args below meth c H locs 0 0 (MQ below (va_Qi (fun (r : Int32) (u : (Nat → Int32) × Int32) => post r u.1 u.2) (fun (u : (Nat → Int32) × Int32) (t : State) => va_P (dC, dI) vwCl (pX11_enter cy h t_kind t_exponent t_letters t_fed t_at t_rowSize t_steps u.1 u.2 t_keptMany t_keptLetters t_made t_isFull t_isSaved t_savedKind t_savedExponent t_savedLetters) t.heap) A) args s 0 0 A) (F0 m 43 ls []) := by
  have C1 := C0
  obtain ⟨hx, hb, hr, hml, hown, hts, hlocks, hK, hA⟩ := C1
  intro t_found t_foundMany x1 hv H locs ls hP hD hS hl
  refine lv_bipush (v := 7) hx hb dX11_enter_43 (by decide) ?_
  refine lv_aload_n hx hb dX11_enter_45 rfl (lv_at hl 0 rfl) ?_
  refine va_get (D := (dC, dI)) (ci := 11) (v := .int t_foundMany) (C := RX11) (T := TX11) (N := 36) hx hb hts nX11_enter_X11 hown hK hP 0 rfl rfl 15 (by decide) (hts _ mX11_enter_1) (fun _ h9 => h9) rfl dX11_enter_46 ?_
  refine lv_imul hx hb dX11_enter_49 ?_
  refine lv_iconst (v := 1) hx hb dX11_enter_50 (by decide) ?_
  refine lv_isub hx hb dX11_enter_51 ?_
  refine lv_topi (fun y_10 ey_10 => ?_)
  have hv := hv y_10 ey_10
  refine lv_istore_n (lv' := [(2, .int y_10), (0, .ref (h 0)), (1, .int x1)]) hx hb dX11_enter_52 rfl hl (by decide) rfl (fun ls hl => ?_)
  obtain ⟨n_11, hv⟩ := hv
  exact wX11_enter_53 l h post  t_kind t_exponent t_letters t_fed t_at t_rowSize t_steps t_keptMany t_keptLetters t_made t_isFull t_isSaved t_savedKind t_savedExponent t_savedLetters C0 n_11 t_found t_foundMany x1 y_10 hv _ _ _ hP hD hS (lv_sub hl [1, 2, 0] rfl)
set_option maxHeartbeats 4000000 in
set_option maxRecDepth 100000 in
theorem wX11_enter_24 {p : Program} (l : Launch) {e : Env} {s : State} {m : MethodId} {args : Array Value} {below : List Frame} {meth : Method} {c : Code} {dC : Nat → ClassId} {dI : Nat → Nat → Nat} {cy : Nat → ClassId} {A : Nat → Prop} (h : Nat → Nat) (post : Int32 → (Nat → Int32) → Int32 → Prop)   (t_kind : Int32) (t_exponent : Int32) (t_letters : Int32) (t_fed : Int32) (t_at : Int32) (t_rowSize : Int32) (t_steps : Int32) (t_keptMany : Int32) (t_keptLetters : Int32) (t_made : Nat → Int32) (t_isFull : Int32) (t_isSaved : Int32) (t_savedKind : Int32) (t_savedExponent : Int32) (t_savedLetters : Int32)  (C0 : cx p s m args meth c cX11_enter 3 (some .int) wsX11_enter RX11 dC dI cy A)  : ∀ (t_found : Nat → Int32) (t_foundMany : Int32) (x1 : Int32), VX11_enter_24 post t_made t_found t_foundMany x1 → ∀ (H : Heap) (locs : List Loc) (ls : Array Slot), va_P (dC, dI) vwCl (pX11_enter cy h t_kind t_exponent t_letters t_fed t_at t_rowSize t_steps t_found t_foundMany t_keptMany t_keptLetters t_made t_isFull t_isSaved t_savedKind t_savedExponent t_savedLetters) H → va_D A (pX11_enter cy h t_kind t_exponent t_letters t_fed t_at t_rowSize t_steps t_found t_foundMany t_keptMany t_keptLetters t_made t_isFull t_isSaved t_savedKind t_savedExponent t_savedLetters) → va_S A s.heap H locs → lv_has ls 3 [(0, .ref (h 0)), (1, .int x1)] → W p l e rX11_enter s m args below meth c H locs 0 0 (MQ below (va_Qi (fun (r : Int32) (u : (Nat → Int32) × Int32) => post r u.1 u.2) (fun (u : (Nat → Int32) × Int32) (t : State) => va_P (dC, dI) vwCl (pX11_enter cy h t_kind t_exponent t_letters t_fed t_at t_rowSize t_steps u.1 u.2 t_keptMany t_keptLetters t_made t_isFull t_isSaved t_savedKind t_savedExponent t_savedLetters) t.heap) A) args s 0 0 A) (F0 m 24 ls []) := by
  have C1 := C0
  obtain ⟨hx, hb, hr, hml, hown, hts, hlocks, hK, hA⟩ := C1
  intro t_found t_foundMany x1 hv H locs ls hP hD hS hl
  refine lv_iload_n hx hb dX11_enter_24 rfl (lv_at hl 1 rfl) ?_
  refine lv_aload_n hx hb dX11_enter_25 rfl (lv_at hl 0 rfl) ?_
  refine va_get (D := (dC, dI)) (ci := 11) (v := .int t_foundMany) (C := RX11) (T := TX11) (N := 36) hx hb hts nX11_enter_X11 hown hK hP 0 rfl rfl 15 (by decide) (hts _ mX11_enter_1) (fun _ h9 => h9) rfl dX11_enter_26 ?_
  refine lv_icmp_ge (tgt := 43) hx hb dX11_enter_29 (by decide) (fun c_9 => ?_) (fun c_9 => ?_)
  · have hv := hv.1 c_9
    exact wX11_enter_43 l h post  t_kind t_exponent t_letters t_fed t_at t_rowSize t_steps t_keptMany t_keptLetters t_made t_isFull t_isSaved t_savedKind t_savedExponent t_savedLetters C0 t_found t_foundMany x1 hv _ _ _ hP hD hS (lv_sub hl [0, 1] rfl)
  · have hv := hv.2 c_9
    refine lv_aload_n hx hb dX11_enter_32 rfl (lv_at hl 0 rfl) ?_
    refine lv_iload_n hx hb dX11_enter_33 rfl (lv_at hl 1 rfl) ?_
    refine cb_VI (As := [.int x1]) (rest := []) ⟨hx, hb, hml, hown, hts⟩ (kX11_compare l dC dI cy (adl [h 0, h 1, h 2, h 3, h 4, h 5, h 6, h 7, h 8, h 9, h 10, h 11, h 12, h 13, h 14, h 15, h 16, h 17, h 18, h 19, h 20, h 21]) t_kind t_exponent t_letters t_fed t_at t_rowSize t_steps t_found t_foundMany t_keptMany t_keptLetters t_made t_isFull t_isSaved t_savedKind t_savedExponent t_savedLetters x1 _ hv) (cwV 1 hts gX11_enter_X11_compare rfl rfl rfl zX11_compare ⟨Nat.le_of_ble_eq_true rfl, Nat.le_of_ble_eq_true rfl⟩) hK hP hD hS hA [0, 1, 2] [some 0, some 1, some 2] rfl rfl rfl (ci := 11) rfl rfl (fun _ => rfl) rfl hl.1 rfl (Nat.le_of_ble_eq_true rfl) dX11_enter_34 (fun r_6 w_8 H locs hv hP hD hS => ?_)
    have hP : va_P (dC, dI) vwCl (pX11_enter cy h t_kind t_exponent t_letters t_fed t_at t_rowSize t_steps t_found t_foundMany t_keptMany t_keptLetters t_made t_isFull t_isSaved t_savedKind t_savedExponent t_savedLetters) H := hP
    have hD : va_D A (pX11_enter cy h t_kind t_exponent t_letters t_fed t_at t_rowSize t_steps t_found t_foundMany t_keptMany t_keptLetters t_made t_isFull t_isSaved t_savedKind t_savedExponent t_savedLetters) := hD
    refine lv_if_ne (tgt := 43) hx hb dX11_enter_37 (by decide) (fun c_7 => ?_) (fun c_7 => ?_)
    · have hv := hv.1 c_7
      exact wX11_enter_43 l h post  t_kind t_exponent t_letters t_fed t_at t_rowSize t_steps t_keptMany t_keptLetters t_made t_isFull t_isSaved t_savedKind t_savedExponent t_savedLetters C0 t_found t_foundMany x1 hv _ _ _ hP hD hS (lv_sub hl [0, 1] rfl)
    · have hv := hv.2 c_7
      refine lv_bipush (v := (-2)) hx hb dX11_enter_40 (by decide) ?_
      exact W.iret (v := (-2)) hx hb hr (fun t ht hW => ⟨⟨(-2), (t_found, t_foundMany), rfl, hv, va_Ph ht hP⟩, hS.F ht⟩) hS.2.2 dX11_enter_42
set_option maxHeartbeats 4000000 in
set_option maxRecDepth 100000 in
theorem wX11_enter_2 {p : Program} (l : Launch) {e : Env} {s : State} {m : MethodId} {args : Array Value} {below : List Frame} {meth : Method} {c : Code} {dC : Nat → ClassId} {dI : Nat → Nat → Nat} {cy : Nat → ClassId} {A : Nat → Prop} (h : Nat → Nat) (post : Int32 → (Nat → Int32) → Int32 → Prop)   (t_kind : Int32) (t_exponent : Int32) (t_letters : Int32) (t_fed : Int32) (t_at : Int32) (t_rowSize : Int32) (t_steps : Int32) (t_keptMany : Int32) (t_keptLetters : Int32) (t_made : Nat → Int32) (t_isFull : Int32) (t_isSaved : Int32) (t_savedKind : Int32) (t_savedExponent : Int32) (t_savedLetters : Int32)  (C0 : cx p s m args meth c cX11_enter 3 (some .int) wsX11_enter RX11 dC dI cy A)  : ∀ (n : Nat) (t_found : Nat → Int32) (t_foundMany : Int32) (x1 : Int32), VX11_enter_2 post t_made n t_found t_foundMany x1 → ∀ (H : Heap) (locs : List Loc) (ls : Array Slot), va_P (dC, dI) vwCl (pX11_enter cy h t_kind t_exponent t_letters t_fed t_at t_rowSize t_steps t_found t_foundMany t_keptMany t_keptLetters t_made t_isFull t_isSaved t_savedKind t_savedExponent t_savedLetters) H → va_D A (pX11_enter cy h t_kind t_exponent t_letters t_fed t_at t_rowSize t_steps t_found t_foundMany t_keptMany t_keptLetters t_made t_isFull t_isSaved t_savedKind t_savedExponent t_savedLetters) → va_S A s.heap H locs → lv_has ls 3 [(0, .ref (h 0)), (1, .int x1)] → W p l e rX11_enter s m args below meth c H locs 0 0 (MQ below (va_Qi (fun (r : Int32) (u : (Nat → Int32) × Int32) => post r u.1 u.2) (fun (u : (Nat → Int32) × Int32) (t : State) => va_P (dC, dI) vwCl (pX11_enter cy h t_kind t_exponent t_letters t_fed t_at t_rowSize t_steps u.1 u.2 t_keptMany t_keptLetters t_made t_isFull t_isSaved t_savedKind t_savedExponent t_savedLetters) t.heap) A) args s 0 0 A) (F0 m 2 ls []) := by
  have C1 := C0
  obtain ⟨hx, hb, hr, hml, hown, hts, hlocks, hK, hA⟩ := C1
  intro n
  induction n with
  | zero => intro t_found t_foundMany x1 hv; exact hv.elim
  | succ n ih =>
    intro t_found t_foundMany x1 hv H locs ls hP hD hS hl
    refine lv_iload_n hx hb dX11_enter_2 rfl (lv_at hl 1 rfl) ?_
    refine lv_aload_n hx hb dX11_enter_3 rfl (lv_at hl 0 rfl) ?_
    refine va_get (D := (dC, dI)) (ci := 11) (v := .int t_foundMany) (C := RX11) (T := TX11) (N := 36) hx hb hts nX11_enter_X11 hown hK hP 0 rfl rfl 15 (by decide) (hts _ mX11_enter_1) (fun _ h9 => h9) rfl dX11_enter_4 ?_
    refine lv_icmp_ge (tgt := 24) hx hb dX11_enter_7 (by decide) (fun c_5 => ?_) (fun c_5 => ?_)
    · have hv := hv.1 c_5
      exact wX11_enter_24 l h post  t_kind t_exponent t_letters t_fed t_at t_rowSize t_steps t_keptMany t_keptLetters t_made t_isFull t_isSaved t_savedKind t_savedExponent t_savedLetters C0 t_found t_foundMany x1 hv _ _ _ hP hD hS (lv_sub hl [0, 1] rfl)
    · have hv := hv.2 c_5
      refine lv_aload_n hx hb dX11_enter_10 rfl (lv_at hl 0 rfl) ?_
      refine lv_iload_n hx hb dX11_enter_11 rfl (lv_at hl 1 rfl) ?_
      refine cb_VI (As := [.int x1]) (rest := []) ⟨hx, hb, hml, hown, hts⟩ (kX11_compare l dC dI cy (adl [h 0, h 1, h 2, h 3, h 4, h 5, h 6, h 7, h 8, h 9, h 10, h 11, h 12, h 13, h 14, h 15, h 16, h 17, h 18, h 19, h 20, h 21]) t_kind t_exponent t_letters t_fed t_at t_rowSize t_steps t_found t_foundMany t_keptMany t_keptLetters t_made t_isFull t_isSaved t_savedKind t_savedExponent t_savedLetters x1 _ hv) (cwV 1 hts gX11_enter_X11_compare rfl rfl rfl zX11_compare ⟨Nat.le_of_ble_eq_true rfl, Nat.le_of_ble_eq_true rfl⟩) hK hP hD hS hA [0, 1, 2] [some 0, some 1, some 2] rfl rfl rfl (ci := 11) rfl rfl (fun _ => rfl) rfl hl.1 rfl (Nat.le_of_ble_eq_true rfl) dX11_enter_12 (fun r_2 w_4 H locs hv hP hD hS => ?_)
      have hP : va_P (dC, dI) vwCl (pX11_enter cy h t_kind t_exponent t_letters t_fed t_at t_rowSize t_steps t_found t_foundMany t_keptMany t_keptLetters t_made t_isFull t_isSaved t_savedKind t_savedExponent t_savedLetters) H := hP
      have hD : va_D A (pX11_enter cy h t_kind t_exponent t_letters t_fed t_at t_rowSize t_steps t_found t_foundMany t_keptMany t_keptLetters t_made t_isFull t_isSaved t_savedKind t_savedExponent t_savedLetters) := hD
      refine lv_if_ge (tgt := 24) hx hb dX11_enter_15 (by decide) (fun c_3 => ?_) (fun c_3 => ?_)
      · have hv := hv.1 c_3
        exact wX11_enter_24 l h post  t_kind t_exponent t_letters t_fed t_at t_rowSize t_steps t_keptMany t_keptLetters t_made t_isFull t_isSaved t_savedKind t_savedExponent t_savedLetters C0 t_found t_foundMany x1 hv _ _ _ hP hD hS (lv_sub hl [0, 1] rfl)
      · have hv := hv.2 c_3
        refine lv_iinc (v := (x1 + 1)) (lv' := [(1, .int ((x1 + 1))), (0, .ref (h 0))]) hx hb dX11_enter_18 hl (k := 1) rfl rfl (by decide) rfl (fun ls hl => ?_)
        refine lv_goto (tgt := 2) hx hb dX11_enter_21 (by decide) ?_
        exact ih t_found t_foundMany (x1 + 1) hv _ _ _ hP hD hS (lv_sub hl [1, 0] rfl)
set_option maxHeartbeats 4000000 in
set_option maxRecDepth 100000 in
theorem wX11_enter_0 {p : Program} (l : Launch) {e : Env} {s : State} {m : MethodId} {args : Array Value} {below : List Frame} {meth : Method} {c : Code} {dC : Nat → ClassId} {dI : Nat → Nat → Nat} {cy : Nat → ClassId} {A : Nat → Prop} (h : Nat → Nat) (post : Int32 → (Nat → Int32) → Int32 → Prop)   (t_kind : Int32) (t_exponent : Int32) (t_letters : Int32) (t_fed : Int32) (t_at : Int32) (t_rowSize : Int32) (t_steps : Int32) (t_keptMany : Int32) (t_keptLetters : Int32) (t_made : Nat → Int32) (t_isFull : Int32) (t_isSaved : Int32) (t_savedKind : Int32) (t_savedExponent : Int32) (t_savedLetters : Int32)  (C0 : cx p s m args meth c cX11_enter 3 (some .int) wsX11_enter RX11 dC dI cy A)  : ∀ (t_found : Nat → Int32) (t_foundMany : Int32), VX11_enter post t_made t_found t_foundMany → ∀ (H : Heap) (locs : List Loc) (ls : Array Slot), va_P (dC, dI) vwCl (pX11_enter cy h t_kind t_exponent t_letters t_fed t_at t_rowSize t_steps t_found t_foundMany t_keptMany t_keptLetters t_made t_isFull t_isSaved t_savedKind t_savedExponent t_savedLetters) H → va_D A (pX11_enter cy h t_kind t_exponent t_letters t_fed t_at t_rowSize t_steps t_found t_foundMany t_keptMany t_keptLetters t_made t_isFull t_isSaved t_savedKind t_savedExponent t_savedLetters) → va_S A s.heap H locs → lv_has ls 3 [(0, .ref (h 0))] → W p l e rX11_enter s m args below meth c H locs 0 0 (MQ below (va_Qi (fun (r : Int32) (u : (Nat → Int32) × Int32) => post r u.1 u.2) (fun (u : (Nat → Int32) × Int32) (t : State) => va_P (dC, dI) vwCl (pX11_enter cy h t_kind t_exponent t_letters t_fed t_at t_rowSize t_steps u.1 u.2 t_keptMany t_keptLetters t_made t_isFull t_isSaved t_savedKind t_savedExponent t_savedLetters) t.heap) A) args s 0 0 A) (F0 m 0 ls []) := by
  have C1 := C0
  obtain ⟨hx, hb, hr, hml, hown, hts, hlocks, hK, hA⟩ := C1
  intro t_found t_foundMany hv H locs ls hP hD hS hl
  refine lv_iconst (v := 0) hx hb dX11_enter_0 (by decide) ?_
  refine lv_istore_n (lv' := [(1, .int 0), (0, .ref (h 0))]) hx hb dX11_enter_1 rfl hl (by decide) rfl (fun ls hl => ?_)
  obtain ⟨n_1, hv⟩ := hv
  exact wX11_enter_2 l h post  t_kind t_exponent t_letters t_fed t_at t_rowSize t_steps t_keptMany t_keptLetters t_made t_isFull t_isSaved t_savedKind t_savedExponent t_savedLetters C0 n_1 t_found t_foundMany 0 hv _ _ _ hP hD hS (lv_sub hl [1, 0] rfl)
theorem kX11_enter (l : Launch) (dC : Nat → ClassId) (dI : Nat → Nat → Nat) (cy : Nat → ClassId) (h : Nat → Nat) (t_kind : Int32) (t_exponent : Int32) (t_letters : Int32) (t_fed : Int32) (t_at : Int32) (t_rowSize : Int32) (t_steps : Int32) (t_found : Nat → Int32) (t_foundMany : Int32) (t_keptMany : Int32) (t_keptLetters : Int32) (t_made : Nat → Int32) (t_isFull : Int32) (t_isSaved : Int32) (t_savedKind : Int32) (t_savedExponent : Int32) (t_savedLetters : Int32)  (post : Int32 → (Nat → Int32) → Int32 → Prop) (hv : VX11_enter post t_made t_found t_foundMany) : CtI l yX11_enter wsX11_enter rX11_enter dC dI cy [.ref (h 0)] (pX11_enter cy h t_kind t_exponent t_letters t_fed t_at t_rowSize t_steps t_found t_foundMany t_keptMany t_keptLetters t_made t_isFull t_isSaved t_savedKind t_savedExponent t_savedLetters) (fun (u : (Nat → Int32) × Int32) => pX11_enter cy h t_kind t_exponent t_letters t_fed t_at t_rowSize t_steps u.1 u.2 t_keptMany t_keptLetters t_made t_isFull t_isSaved t_savedKind t_savedExponent t_savedLetters) (fun (r : Int32) (u : (Nat → Int32) × Int32) => post r u.1 u.2) :=
  ct_ofI (by decide) rfl (Nat.le_of_ble_eq_true rfl) (fun p e s m below meth c A ls C0 hP hD hS hl => wX11_enter_0 l h post t_kind t_exponent t_letters t_fed t_at t_rowSize t_steps t_keptMany t_keptLetters t_made t_isFull t_isSaved t_savedKind t_savedExponent t_savedLetters C0 t_found t_foundMany hv _ _ _ hP hD hS hl)
theorem mX11_endSize_1 : (Cond.fieldLink RX11 32 "AbelianPowersModel" "imageSizes" "[I") ∈ wsX11_endSize := List.mem_of_getElem? (i := 1) rfl
theorem nX11_endSize_X11 : ∀ w ∈ wsX110, w ∈ wsX11_endSize := fun _ h => List.mem_cons_of_mem _ (List.mem_append_right _ h)
theorem zX11_endSize : yX11_endSize.cls = RX11 ∧ yX11_endSize.cls ≠ "java/lang/invoke/MethodHandle" ∧ yX11_endSize.cls ≠ "java/lang/invoke/VarHandle" ∧ (parseMethodDescriptor yX11_endSize.desc).map (fun d => d.parameters.length) = some 1 := by decide +kernel
abbrev rX11_endSize : Room := { frames := 0, cells := 0, slots := 0, locals := 0 }
abbrev pX11_endSize (cy : Nat → ClassId) (h : Nat → Nat) (t_kind : Int32) (t_exponent : Int32) (t_letters : Int32) (t_imageSizes : Nat → Int32) (t_fed : Int32) (t_at : Int32) (t_rowSize : Int32) (t_steps : Int32) (t_foundMany : Int32) (t_keptMany : Int32) (t_keptLetters : Int32) (t_isFull : Int32) (t_isSaved : Int32) (t_savedKind : Int32) (t_savedExponent : Int32) (t_savedLetters : Int32) : va_W := [(h 0, .inr (11, [.int t_kind, .int t_exponent, .int t_letters, .ref (h 2), .ref (h 3), .ref (h 4), .ref (h 5), .ref (h 1), .ref (h 6), .int t_fed, .int t_at, .ref (h 7), .int t_rowSize, .int t_steps, .ref (h 8), .int t_foundMany, .ref (h 9), .int t_keptMany, .int t_keptLetters, .ref (h 10), .ref (h 11), .ref (h 12), .ref (h 13), .ref (h 14), .int t_isFull, .ref (h 15), .ref (h 16), .int t_isSaved, .int t_savedKind, .int t_savedExponent, .int t_savedLetters, .ref (h 17), .ref (h 18), .ref (h 19), .ref (h 20), .ref (h 21)])), (h 1, .inl (cy 0, 4, .inl t_imageSizes))]
def VX11_endSize (post : Int32 → Prop)  (t_imageSizes : Nat → Int32) (p1 : Int32)  : Prop := ((0 ≤ p1) → vp_in p1 4 ∧ (∀ y_1 : Int32, y_1 = (t_imageSizes p1.toNatClampNeg) → post y_1)) ∧ (¬ (0 ≤ p1) → post (0 : Int32))
set_option maxHeartbeats 4000000 in
set_option maxRecDepth 100000 in
theorem wX11_endSize_0 {p : Program} (l : Launch) {e : Env} {s : State} {m : MethodId} {args : Array Value} {below : List Frame} {meth : Method} {c : Code} {dC : Nat → ClassId} {dI : Nat → Nat → Nat} {cy : Nat → ClassId} {A : Nat → Prop} (h : Nat → Nat) (post : Int32 → Prop)   (t_kind : Int32) (t_exponent : Int32) (t_letters : Int32) (t_imageSizes : Nat → Int32) (t_fed : Int32) (t_at : Int32) (t_rowSize : Int32) (t_steps : Int32) (t_foundMany : Int32) (t_keptMany : Int32) (t_keptLetters : Int32) (t_isFull : Int32) (t_isSaved : Int32) (t_savedKind : Int32) (t_savedExponent : Int32) (t_savedLetters : Int32) (p1 : Int32) (C0 : cx p s m args meth c cX11_endSize 2 (some .int) wsX11_endSize RX11 dC dI cy A)  : VX11_endSize post t_imageSizes p1  → ∀ (H : Heap) (locs : List Loc) (ls : Array Slot), va_P (dC, dI) vwCl (pX11_endSize cy h t_kind t_exponent t_letters t_imageSizes t_fed t_at t_rowSize t_steps t_foundMany t_keptMany t_keptLetters t_isFull t_isSaved t_savedKind t_savedExponent t_savedLetters) H → va_D A (pX11_endSize cy h t_kind t_exponent t_letters t_imageSizes t_fed t_at t_rowSize t_steps t_foundMany t_keptMany t_keptLetters t_isFull t_isSaved t_savedKind t_savedExponent t_savedLetters) → va_S A s.heap H locs → lv_has ls 2 [(0, .ref (h 0)), (1, .int p1)] → W p l e rX11_endSize s m args below meth c H locs 0 0 (MQ below (va_Qi (fun (r : Int32) (_ : Unit) => post r) (fun (_ : Unit) (t : State) => va_P (dC, dI) vwCl (pX11_endSize cy h t_kind t_exponent t_letters t_imageSizes t_fed t_at t_rowSize t_steps t_foundMany t_keptMany t_keptLetters t_isFull t_isSaved t_savedKind t_savedExponent t_savedLetters) t.heap) A) args s 0 0 A) (F0 m 0 ls []) := by
  have C1 := C0
  obtain ⟨hx, hb, hr, hml, hown, hts, hlocks, hK, hA⟩ := C1
  intro  hv H locs ls hP hD hS hl
  refine lv_iload_n hx hb dX11_endSize_0 rfl (lv_at hl 1 rfl) ?_
  refine lv_if_ge (tgt := 8) hx hb dX11_endSize_1 (by decide) (fun c_3 => ?_) (fun c_3 => ?_)
  · have hv := hv.1 c_3
    refine lv_aload_n hx hb dX11_endSize_8 rfl (lv_at hl 0 rfl) ?_
    refine va_get (D := (dC, dI)) (ci := 11) (v := .ref (h 1)) (C := RX11) (T := TX11) (N := 36) hx hb hts nX11_endSize_X11 hown hK hP 0 rfl rfl 7 (by decide) (hts _ mX11_endSize_1) (fun _ h9 => h9) rfl dX11_endSize_9 ?_
    refine lv_iload_n hx hb dX11_endSize_12 rfl (lv_at hl 1 rfl) ?_
    have h_2 := hv.1
    have hv := hv.2
    refine va_iald hx hb hK hP 1 0 rfl rfl h_2 dX11_endSize_13 ?_
    refine lv_topi (fun y_1 ey_1 => ?_)
    have hv := hv y_1 ey_1
    exact W.iret (v := y_1) hx hb hr (fun t ht hW => ⟨⟨y_1, (), rfl, hv, va_Ph ht hP⟩, hS.F ht⟩) hS.2.2 dX11_endSize_14
  · have hv := hv.2 c_3
    refine lv_iconst (v := 0) hx hb dX11_endSize_4 (by decide) ?_
    refine lv_goto (tgt := 14) hx hb dX11_endSize_5 (by decide) ?_
    exact W.iret (v := 0) hx hb hr (fun t ht hW => ⟨⟨0, (), rfl, hv, va_Ph ht hP⟩, hS.F ht⟩) hS.2.2 dX11_endSize_14
theorem kX11_endSize (l : Launch) (dC : Nat → ClassId) (dI : Nat → Nat → Nat) (cy : Nat → ClassId) (h : Nat → Nat) (t_kind : Int32) (t_exponent : Int32) (t_letters : Int32) (t_imageSizes : Nat → Int32) (t_fed : Int32) (t_at : Int32) (t_rowSize : Int32) (t_steps : Int32) (t_foundMany : Int32) (t_keptMany : Int32) (t_keptLetters : Int32) (t_isFull : Int32) (t_isSaved : Int32) (t_savedKind : Int32) (t_savedExponent : Int32) (t_savedLetters : Int32) (p1 : Int32) (post : Int32 → Prop) (hv : VX11_endSize post t_imageSizes p1 ) : CtI l yX11_endSize wsX11_endSize rX11_endSize dC dI cy [.ref (h 0), .int p1] (pX11_endSize cy h t_kind t_exponent t_letters t_imageSizes t_fed t_at t_rowSize t_steps t_foundMany t_keptMany t_keptLetters t_isFull t_isSaved t_savedKind t_savedExponent t_savedLetters) (fun (_ : Unit) => pX11_endSize cy h t_kind t_exponent t_letters t_imageSizes t_fed t_at t_rowSize t_steps t_foundMany t_keptMany t_keptLetters t_isFull t_isSaved t_savedKind t_savedExponent t_savedLetters) (fun (r : Int32) (_ : Unit) => post r) :=
  ct_ofI (by decide) rfl (Nat.le_of_ble_eq_true rfl) (fun p e s m below meth c A ls C0 hP hD hS hl => wX11_endSize_0 l h post t_kind t_exponent t_letters t_imageSizes t_fed t_at t_rowSize t_steps t_foundMany t_keptMany t_keptLetters t_isFull t_isSaved t_savedKind t_savedExponent t_savedLetters p1 C0  hv _ _ _ hP hD hS hl)
theorem mX11_isCut_1 : (Cond.fieldLink RX11 29 "AbelianPowersModel" "images" "[I") ∈ wsX11_isCut := List.mem_of_getElem? (i := 1) rfl
theorem nX11_isCut_X11 : ∀ w ∈ wsX110, w ∈ wsX11_isCut := fun _ h => List.mem_cons_of_mem _ (List.mem_append_right _ h)
theorem zX11_isCut : yX11_isCut.cls = RX11 ∧ yX11_isCut.cls ≠ "java/lang/invoke/MethodHandle" ∧ yX11_isCut.cls ≠ "java/lang/invoke/VarHandle" ∧ (parseMethodDescriptor yX11_isCut.desc).map (fun d => d.parameters.length) = some 3 := by decide +kernel
abbrev rX11_isCut : Room := { frames := 1, cells := 0, slots := 0, locals := 21 }
abbrev pX11_isCut (cy : Nat → ClassId) (h : Nat → Nat) (t_kind : Int32) (t_exponent : Int32) (t_letters : Int32) (t_images : Nat → Int32) (t_imageSizes : Nat → Int32) (t_fed : Int32) (t_at : Int32) (t_rowSize : Int32) (t_steps : Int32) (t_foundMany : Int32) (t_keptMany : Int32) (t_keptLetters : Int32) (t_isFull : Int32) (t_isSaved : Int32) (t_savedKind : Int32) (t_savedExponent : Int32) (t_savedLetters : Int32) : va_W := [(h 0, .inr (11, [.int t_kind, .int t_exponent, .int t_letters, .ref (h 3), .ref (h 4), .ref (h 5), .ref (h 1), .ref (h 2), .ref (h 6), .int t_fed, .int t_at, .ref (h 7), .int t_rowSize, .int t_steps, .ref (h 8), .int t_foundMany, .ref (h 9), .int t_keptMany, .int t_keptLetters, .ref (h 10), .ref (h 11), .ref (h 12), .ref (h 13), .ref (h 14), .int t_isFull, .ref (h 15), .ref (h 16), .int t_isSaved, .int t_savedKind, .int t_savedExponent, .int t_savedLetters, .ref (h 17), .ref (h 18), .ref (h 19), .ref (h 20), .ref (h 21)])), (h 1, .inl (cy 0, 16, .inl t_images)), (h 2, .inl (cy 0, 4, .inl t_imageSizes))]
def VX11_isCut (post : Int32 → Prop)  (t_images : Nat → Int32) (t_imageSizes : Nat → Int32) (p1 : Int32) (p2 : Int32) (p3 : Int32)  : Prop := VX11_endSize (fun r_1 => ((0 ≤ p2) → ((r_1 ≤ p3) → post (0 : Int32)) ∧ (¬ (r_1 ≤ p3) → vp_in (((4 : Int32) * p1) + p3) 16 ∧ (∀ y_2 : Int32, y_2 = (t_images (((4 : Int32) * p1) + p3).toNatClampNeg) → (¬ (y_2 = p2) → post (0 : Int32)) ∧ ((y_2 = p2) → post (1 : Int32))))) ∧ (¬ (0 ≤ p2) → ((r_1 < p3) → post (0 : Int32)) ∧ (¬ (r_1 < p3) → post (1 : Int32)))) t_imageSizes p1
set_option maxHeartbeats 4000000 in
set_option maxRecDepth 100000 in
theorem wX11_isCut_0 {p : Program} (l : Launch) {e : Env} {s : State} {m : MethodId} {args : Array Value} {below : List Frame} {meth : Method} {c : Code} {dC : Nat → ClassId} {dI : Nat → Nat → Nat} {cy : Nat → ClassId} {A : Nat → Prop} (h : Nat → Nat) (post : Int32 → Prop)   (t_kind : Int32) (t_exponent : Int32) (t_letters : Int32) (t_images : Nat → Int32) (t_imageSizes : Nat → Int32) (t_fed : Int32) (t_at : Int32) (t_rowSize : Int32) (t_steps : Int32) (t_foundMany : Int32) (t_keptMany : Int32) (t_keptLetters : Int32) (t_isFull : Int32) (t_isSaved : Int32) (t_savedKind : Int32) (t_savedExponent : Int32) (t_savedLetters : Int32) (p1 : Int32) (p2 : Int32) (p3 : Int32) (C0 : cx p s m args meth c cX11_isCut 5 (some .boolean) wsX11_isCut RX11 dC dI cy A)  : VX11_isCut post t_images t_imageSizes p1 p2 p3  → ∀ (H : Heap) (locs : List Loc) (ls : Array Slot), va_P (dC, dI) vwCl (pX11_isCut cy h t_kind t_exponent t_letters t_images t_imageSizes t_fed t_at t_rowSize t_steps t_foundMany t_keptMany t_keptLetters t_isFull t_isSaved t_savedKind t_savedExponent t_savedLetters) H → va_D A (pX11_isCut cy h t_kind t_exponent t_letters t_images t_imageSizes t_fed t_at t_rowSize t_steps t_foundMany t_keptMany t_keptLetters t_isFull t_isSaved t_savedKind t_savedExponent t_savedLetters) → va_S A s.heap H locs → lv_has ls 5 [(0, .ref (h 0)), (1, .int p1), (2, .int p2), (3, .int p3)] → W p l e rX11_isCut s m args below meth c H locs 0 0 (MQ below (va_Qi (fun (r : Int32) (_ : Unit) => post r) (fun (_ : Unit) (t : State) => va_P (dC, dI) vwCl (pX11_isCut cy h t_kind t_exponent t_letters t_images t_imageSizes t_fed t_at t_rowSize t_steps t_foundMany t_keptMany t_keptLetters t_isFull t_isSaved t_savedKind t_savedExponent t_savedLetters) t.heap) A) args s 0 0 A) (F0 m 0 ls []) := by
  have C1 := C0
  obtain ⟨hx, hb, hr, hml, hown, hts, hlocks, hK, hA⟩ := C1
  intro  hv H locs ls hP hD hS hl
  refine lv_aload_n hx hb dX11_isCut_0 rfl (lv_at hl 0 rfl) ?_
  refine lv_iload_n hx hb dX11_isCut_1 rfl (lv_at hl 1 rfl) ?_
  refine cb_VI (As := [.int p1]) (rest := []) ⟨hx, hb, hml, hown, hts⟩ (kX11_endSize l dC dI cy (adl [h 0, h 2, h 3, h 4, h 5, h 1, h 6, h 7, h 8, h 9, h 10, h 11, h 12, h 13, h 14, h 15, h 16, h 17, h 18, h 19, h 20, h 21]) t_kind t_exponent t_letters t_imageSizes t_fed t_at t_rowSize t_steps t_foundMany t_keptMany t_keptLetters t_isFull t_isSaved t_savedKind t_savedExponent t_savedLetters p1 _ hv) (cwV 1 hts gX11_isCut_X11_endSize rfl rfl rfl zX11_endSize ⟨Nat.le_of_ble_eq_true rfl, Nat.le_of_ble_eq_true rfl⟩) hK hP hD hS hA [0, 2] [some 0, none, some 1] rfl rfl rfl (ci := 11) rfl rfl (fun _ => rfl) rfl hl.1 rfl (Nat.le_of_ble_eq_true rfl) dX11_isCut_2 (fun r_1 w_8 H locs hv hP hD hS => ?_)
  have hP : va_P (dC, dI) vwCl (pX11_isCut cy h t_kind t_exponent t_letters t_images t_imageSizes t_fed t_at t_rowSize t_steps t_foundMany t_keptMany t_keptLetters t_isFull t_isSaved t_savedKind t_savedExponent t_savedLetters) H := hP
  have hD : va_D A (pX11_isCut cy h t_kind t_exponent t_letters t_images t_imageSizes t_fed t_at t_rowSize t_steps t_foundMany t_keptMany t_keptLetters t_isFull t_isSaved t_savedKind t_savedExponent t_savedLetters) := hD
  refine lv_istore (lv' := [(4, .int r_1), (0, .ref (h 0)), (1, .int p1), (2, .int p2), (3, .int p3)]) hx hb dX11_isCut_5 hl (by decide) rfl (fun ls hl => ?_)
  refine lv_iload_n hx hb dX11_isCut_7 rfl (lv_at hl 3 rfl) ?_
  refine lv_if_ge (tgt := 25) hx hb dX11_isCut_8 (by decide) (fun c_7 => ?_) (fun c_7 => ?_)
  · have hv := hv.1 c_7
    refine lv_iload_n hx hb dX11_isCut_25 rfl (lv_at hl 4 rfl) ?_
    refine lv_iload hx hb dX11_isCut_26 (lv_at hl 0 rfl) ?_
    refine lv_icmp_ge (tgt := 49) hx hb dX11_isCut_28 (by decide) (fun c_5 => ?_) (fun c_5 => ?_)
    · have hv := hv.1 c_5
      refine lv_iconst (v := 0) hx hb dX11_isCut_49 (by decide) ?_
      exact W.zret (v := 0) hx hb hr rfl (fun t ht hW => ⟨⟨0, (), rfl, hv, va_Ph ht hP⟩, hS.F ht⟩) hS.2.2 dX11_isCut_50
    · have hv := hv.2 c_5
      refine lv_aload_n hx hb dX11_isCut_31 rfl (lv_at hl 1 rfl) ?_
      refine va_get (D := (dC, dI)) (ci := 11) (v := .ref (h 1)) (C := RX11) (T := TX11) (N := 36) hx hb hts nX11_isCut_X11 hown hK hP 0 rfl rfl 6 (by decide) (hts _ mX11_isCut_1) (fun _ h9 => h9) rfl dX11_isCut_32 ?_
      refine lv_iconst (v := 4) hx hb dX11_isCut_35 (by decide) ?_
      refine lv_iload_n hx hb dX11_isCut_36 rfl (lv_at hl 2 rfl) ?_
      refine lv_imul hx hb dX11_isCut_37 ?_
      refine lv_iload_n hx hb dX11_isCut_38 rfl (lv_at hl 4 rfl) ?_
      refine lv_iadd hx hb dX11_isCut_39 ?_
      have h_3 := hv.1
      have hv := hv.2
      refine va_iald hx hb hK hP 1 0 rfl rfl h_3 dX11_isCut_40 ?_
      refine lv_topi (fun y_2 ey_2 => ?_)
      have hv := hv y_2 ey_2
      refine lv_iload_n hx hb dX11_isCut_41 rfl (lv_at hl 3 rfl) ?_
      refine lv_icmp_ne (tgt := 49) hx hb dX11_isCut_42 (by decide) (fun c_4 => ?_) (fun c_4 => ?_)
      · have hv := hv.1 c_4
        refine lv_iconst (v := 0) hx hb dX11_isCut_49 (by decide) ?_
        exact W.zret (v := 0) hx hb hr rfl (fun t ht hW => ⟨⟨0, (), rfl, hv, va_Ph ht hP⟩, hS.F ht⟩) hS.2.2 dX11_isCut_50
      · have hv := hv.2 c_4
        refine lv_iconst (v := 1) hx hb dX11_isCut_45 (by decide) ?_
        refine lv_goto (tgt := 50) hx hb dX11_isCut_46 (by decide) ?_
        exact W.zret (v := 1) hx hb hr rfl (fun t ht hW => ⟨⟨1, (), rfl, hv, va_Ph ht hP⟩, hS.F ht⟩) hS.2.2 dX11_isCut_50
  · have hv := hv.2 c_7
    refine lv_iload_n hx hb dX11_isCut_11 rfl (lv_at hl 4 rfl) ?_
    refine lv_iload hx hb dX11_isCut_12 (lv_at hl 0 rfl) ?_
    refine lv_icmp_gt (tgt := 21) hx hb dX11_isCut_14 (by decide) (fun c_6 => ?_) (fun c_6 => ?_)
    · have hv := hv.1 c_6
      refine lv_iconst (v := 0) hx hb dX11_isCut_21 (by decide) ?_
      refine lv_goto (tgt := 50) hx hb dX11_isCut_22 (by decide) ?_
      exact W.zret (v := 0) hx hb hr rfl (fun t ht hW => ⟨⟨0, (), rfl, hv, va_Ph ht hP⟩, hS.F ht⟩) hS.2.2 dX11_isCut_50
    · have hv := hv.2 c_6
      refine lv_iconst (v := 1) hx hb dX11_isCut_17 (by decide) ?_
      refine lv_goto (tgt := 50) hx hb dX11_isCut_18 (by decide) ?_
      exact W.zret (v := 1) hx hb hr rfl (fun t ht hW => ⟨⟨1, (), rfl, hv, va_Ph ht hP⟩, hS.F ht⟩) hS.2.2 dX11_isCut_50
theorem kX11_isCut (l : Launch) (dC : Nat → ClassId) (dI : Nat → Nat → Nat) (cy : Nat → ClassId) (h : Nat → Nat) (t_kind : Int32) (t_exponent : Int32) (t_letters : Int32) (t_images : Nat → Int32) (t_imageSizes : Nat → Int32) (t_fed : Int32) (t_at : Int32) (t_rowSize : Int32) (t_steps : Int32) (t_foundMany : Int32) (t_keptMany : Int32) (t_keptLetters : Int32) (t_isFull : Int32) (t_isSaved : Int32) (t_savedKind : Int32) (t_savedExponent : Int32) (t_savedLetters : Int32) (p1 : Int32) (p2 : Int32) (p3 : Int32) (post : Int32 → Prop) (hv : VX11_isCut post t_images t_imageSizes p1 p2 p3 ) : CtI l yX11_isCut wsX11_isCut rX11_isCut dC dI cy [.ref (h 0), .int p1, .int p2, .int p3] (pX11_isCut cy h t_kind t_exponent t_letters t_images t_imageSizes t_fed t_at t_rowSize t_steps t_foundMany t_keptMany t_keptLetters t_isFull t_isSaved t_savedKind t_savedExponent t_savedLetters) (fun (_ : Unit) => pX11_isCut cy h t_kind t_exponent t_letters t_images t_imageSizes t_fed t_at t_rowSize t_steps t_foundMany t_keptMany t_keptLetters t_isFull t_isSaved t_savedKind t_savedExponent t_savedLetters) (fun (r : Int32) (_ : Unit) => post r) :=
  ct_ofI (by decide) rfl (Nat.le_of_ble_eq_true rfl) (fun p e s m below meth c A ls C0 hP hD hS hl => wX11_isCut_0 l h post t_kind t_exponent t_letters t_images t_imageSizes t_fed t_at t_rowSize t_steps t_foundMany t_keptMany t_keptLetters t_isFull t_isSaved t_savedKind t_savedExponent t_savedLetters p1 p2 p3 C0  hv _ _ _ hP hD hS hl)
theorem mX11_inPart_1 : (Cond.fieldLink RX11 29 "AbelianPowersModel" "images" "[I") ∈ wsX11_inPart := List.mem_of_getElem? (i := 1) rfl
theorem nX11_inPart_X11 : ∀ w ∈ wsX110, w ∈ wsX11_inPart := fun _ h => List.mem_cons_of_mem _ (List.mem_append_right _ h)
theorem zX11_inPart : yX11_inPart.cls = RX11 ∧ yX11_inPart.cls ≠ "java/lang/invoke/MethodHandle" ∧ yX11_inPart.cls ≠ "java/lang/invoke/VarHandle" ∧ (parseMethodDescriptor yX11_inPart.desc).map (fun d => d.parameters.length) = some 4 := by decide +kernel
abbrev rX11_inPart : Room := { frames := 0, cells := 0, slots := 0, locals := 0 }
abbrev pX11_inPart (cy : Nat → ClassId) (h : Nat → Nat) (t_kind : Int32) (t_exponent : Int32) (t_letters : Int32) (t_images : Nat → Int32) (t_fed : Int32) (t_at : Int32) (t_rowSize : Int32) (t_steps : Int32) (t_foundMany : Int32) (t_keptMany : Int32) (t_keptLetters : Int32) (t_isFull : Int32) (t_isSaved : Int32) (t_savedKind : Int32) (t_savedExponent : Int32) (t_savedLetters : Int32) : va_W := [(h 0, .inr (11, [.int t_kind, .int t_exponent, .int t_letters, .ref (h 2), .ref (h 3), .ref (h 4), .ref (h 1), .ref (h 5), .ref (h 6), .int t_fed, .int t_at, .ref (h 7), .int t_rowSize, .int t_steps, .ref (h 8), .int t_foundMany, .ref (h 9), .int t_keptMany, .int t_keptLetters, .ref (h 10), .ref (h 11), .ref (h 12), .ref (h 13), .ref (h 14), .int t_isFull, .ref (h 15), .ref (h 16), .int t_isSaved, .int t_savedKind, .int t_savedExponent, .int t_savedLetters, .ref (h 17), .ref (h 18), .ref (h 19), .ref (h 20), .ref (h 21)])), (h 1, .inl (cy 0, 16, .inl t_images))]
def VX11_inPart_6 (post : Int32 → Prop)  (t_images : Nat → Int32) (p1 : Int32) (p2 : Int32) (p3 : Int32) (p4 : Int32) : Nat → Int32 → Int32 → Prop
  | 0, _, _ => False
  | n + 1, x5, x6 => ((p3 ≤ x6) → post x5) ∧ (¬ (p3 ≤ x6) → vp_in (((4 : Int32) * p1) + x6) 16 ∧ (∀ y_2 : Int32, y_2 = (t_images (((4 : Int32) * p1) + x6).toNatClampNeg) → (¬ (y_2 = p4) → VX11_inPart_6 post t_images p1 p2 p3 p4 n (x5 + 0) (x6 + 1)) ∧ ((y_2 = p4) → VX11_inPart_6 post t_images p1 p2 p3 p4 n (x5 + 1) (x6 + 1))))
def VX11_inPart (post : Int32 → Prop)  (t_images : Nat → Int32) (p1 : Int32) (p2 : Int32) (p3 : Int32) (p4 : Int32)  : Prop := ∃ n6 : Nat, VX11_inPart_6 post t_images p1 p2 p3 p4 n6 0 p2
set_option maxHeartbeats 4000000 in
set_option maxRecDepth 100000 in
theorem wX11_inPart_6 {p : Program} (l : Launch) {e : Env} {s : State} {m : MethodId} {args : Array Value} {below : List Frame} {meth : Method} {c : Code} {dC : Nat → ClassId} {dI : Nat → Nat → Nat} {cy : Nat → ClassId} {A : Nat → Prop} (h : Nat → Nat) (post : Int32 → Prop)   (t_kind : Int32) (t_exponent : Int32) (t_letters : Int32) (t_images : Nat → Int32) (t_fed : Int32) (t_at : Int32) (t_rowSize : Int32) (t_steps : Int32) (t_foundMany : Int32) (t_keptMany : Int32) (t_keptLetters : Int32) (t_isFull : Int32) (t_isSaved : Int32) (t_savedKind : Int32) (t_savedExponent : Int32) (t_savedLetters : Int32) (p1 : Int32) (p2 : Int32) (p3 : Int32) (p4 : Int32) (C0 : cx p s m args meth c cX11_inPart 7 (some .int) wsX11_inPart RX11 dC dI cy A)  : ∀ (n : Nat) (x5 : Int32) (x6 : Int32), VX11_inPart_6 post t_images p1 p2 p3 p4 n x5 x6 → ∀ (H : Heap) (locs : List Loc) (ls : Array Slot), va_P (dC, dI) vwCl (pX11_inPart cy h t_kind t_exponent t_letters t_images t_fed t_at t_rowSize t_steps t_foundMany t_keptMany t_keptLetters t_isFull t_isSaved t_savedKind t_savedExponent t_savedLetters) H → va_D A (pX11_inPart cy h t_kind t_exponent t_letters t_images t_fed t_at t_rowSize t_steps t_foundMany t_keptMany t_keptLetters t_isFull t_isSaved t_savedKind t_savedExponent t_savedLetters) → va_S A s.heap H locs → lv_has ls 7 [(0, .ref (h 0)), (1, .int p1), (3, .int p3), (4, .int p4), (5, .int x5), (6, .int x6)] → W p l e rX11_inPart s m args below meth c H locs 0 0 (MQ below (va_Qi (fun (r : Int32) (_ : Unit) => post r) (fun (_ : Unit) (t : State) => va_P (dC, dI) vwCl (pX11_inPart cy h t_kind t_exponent t_letters t_images t_fed t_at t_rowSize t_steps t_foundMany t_keptMany t_keptLetters t_isFull t_isSaved t_savedKind t_savedExponent t_savedLetters) t.heap) A) args s 0 0 A) (F0 m 6 ls []) := by
  have C1 := C0
  obtain ⟨hx, hb, hr, hml, hown, hts, hlocks, hK, hA⟩ := C1
  intro n
  induction n with
  | zero => intro x5 x6 hv; exact hv.elim
  | succ n ih =>
    intro x5 x6 hv H locs ls hP hD hS hl
    refine lv_iload hx hb dX11_inPart_6 (lv_at hl 5 rfl) ?_
    refine lv_iload_n hx hb dX11_inPart_8 rfl (lv_at hl 2 rfl) ?_
    refine lv_icmp_ge (tgt := 44) hx hb dX11_inPart_9 (by decide) (fun c_5 => ?_) (fun c_5 => ?_)
    · have hv := hv.1 c_5
      refine lv_iload hx hb dX11_inPart_44 (lv_at hl 4 rfl) ?_
      exact W.iret (v := x5) hx hb hr (fun t ht hW => ⟨⟨x5, (), rfl, hv, va_Ph ht hP⟩, hS.F ht⟩) hS.2.2 dX11_inPart_46
    · have hv := hv.2 c_5
      refine lv_iload hx hb dX11_inPart_12 (lv_at hl 4 rfl) ?_
      refine lv_aload_n hx hb dX11_inPart_14 rfl (lv_at hl 0 rfl) ?_
      refine va_get (D := (dC, dI)) (ci := 11) (v := .ref (h 1)) (C := RX11) (T := TX11) (N := 36) hx hb hts nX11_inPart_X11 hown hK hP 0 rfl rfl 6 (by decide) (hts _ mX11_inPart_1) (fun _ h9 => h9) rfl dX11_inPart_15 ?_
      refine lv_iconst (v := 4) hx hb dX11_inPart_18 (by decide) ?_
      refine lv_iload_n hx hb dX11_inPart_19 rfl (lv_at hl 1 rfl) ?_
      refine lv_imul hx hb dX11_inPart_20 ?_
      refine lv_iload hx hb dX11_inPart_21 (lv_at hl 5 rfl) ?_
      refine lv_iadd hx hb dX11_inPart_23 ?_
      have h_3 := hv.1
      have hv := hv.2
      refine va_iald hx hb hK hP 1 0 rfl rfl h_3 dX11_inPart_24 ?_
      refine lv_topi (fun y_2 ey_2 => ?_)
      have hv := hv y_2 ey_2
      refine lv_iload hx hb dX11_inPart_25 (lv_at hl 3 rfl) ?_
      refine lv_icmp_ne (tgt := 34) hx hb dX11_inPart_27 (by decide) (fun c_4 => ?_) (fun c_4 => ?_)
      · have hv := hv.1 c_4
        refine lv_iconst (v := 0) hx hb dX11_inPart_34 (by decide) ?_
        refine lv_iadd hx hb dX11_inPart_35 ?_
        refine lv_istore (lv' := [(5, .int ((x5 + 0))), (0, .ref (h 0)), (1, .int p1), (3, .int p3), (4, .int p4), (6, .int x6)]) hx hb dX11_inPart_36 hl (by decide) rfl (fun ls hl => ?_)
        refine lv_iinc (v := (x6 + 1)) (lv' := [(6, .int ((x6 + 1))), (5, .int ((x5 + 0))), (0, .ref (h 0)), (1, .int p1), (3, .int p3), (4, .int p4)]) hx hb dX11_inPart_38 hl (k := 5) rfl rfl (by decide) rfl (fun ls hl => ?_)
        refine lv_goto (tgt := 6) hx hb dX11_inPart_41 (by decide) ?_
        exact ih (x5 + 0) (x6 + 1) hv _ _ _ hP hD hS (lv_sub hl [2, 3, 4, 5, 1, 0] rfl)
      · have hv := hv.2 c_4
        refine lv_iconst (v := 1) hx hb dX11_inPart_30 (by decide) ?_
        refine lv_goto (tgt := 35) hx hb dX11_inPart_31 (by decide) ?_
        refine lv_iadd hx hb dX11_inPart_35 ?_
        refine lv_istore (lv' := [(5, .int ((x5 + 1))), (0, .ref (h 0)), (1, .int p1), (3, .int p3), (4, .int p4), (6, .int x6)]) hx hb dX11_inPart_36 hl (by decide) rfl (fun ls hl => ?_)
        refine lv_iinc (v := (x6 + 1)) (lv' := [(6, .int ((x6 + 1))), (5, .int ((x5 + 1))), (0, .ref (h 0)), (1, .int p1), (3, .int p3), (4, .int p4)]) hx hb dX11_inPart_38 hl (k := 5) rfl rfl (by decide) rfl (fun ls hl => ?_)
        refine lv_goto (tgt := 6) hx hb dX11_inPart_41 (by decide) ?_
        exact ih (x5 + 1) (x6 + 1) hv _ _ _ hP hD hS (lv_sub hl [2, 3, 4, 5, 1, 0] rfl)
set_option maxHeartbeats 4000000 in
set_option maxRecDepth 100000 in
theorem wX11_inPart_0 {p : Program} (l : Launch) {e : Env} {s : State} {m : MethodId} {args : Array Value} {below : List Frame} {meth : Method} {c : Code} {dC : Nat → ClassId} {dI : Nat → Nat → Nat} {cy : Nat → ClassId} {A : Nat → Prop} (h : Nat → Nat) (post : Int32 → Prop)   (t_kind : Int32) (t_exponent : Int32) (t_letters : Int32) (t_images : Nat → Int32) (t_fed : Int32) (t_at : Int32) (t_rowSize : Int32) (t_steps : Int32) (t_foundMany : Int32) (t_keptMany : Int32) (t_keptLetters : Int32) (t_isFull : Int32) (t_isSaved : Int32) (t_savedKind : Int32) (t_savedExponent : Int32) (t_savedLetters : Int32) (p1 : Int32) (p2 : Int32) (p3 : Int32) (p4 : Int32) (C0 : cx p s m args meth c cX11_inPart 7 (some .int) wsX11_inPart RX11 dC dI cy A)  : VX11_inPart post t_images p1 p2 p3 p4  → ∀ (H : Heap) (locs : List Loc) (ls : Array Slot), va_P (dC, dI) vwCl (pX11_inPart cy h t_kind t_exponent t_letters t_images t_fed t_at t_rowSize t_steps t_foundMany t_keptMany t_keptLetters t_isFull t_isSaved t_savedKind t_savedExponent t_savedLetters) H → va_D A (pX11_inPart cy h t_kind t_exponent t_letters t_images t_fed t_at t_rowSize t_steps t_foundMany t_keptMany t_keptLetters t_isFull t_isSaved t_savedKind t_savedExponent t_savedLetters) → va_S A s.heap H locs → lv_has ls 7 [(0, .ref (h 0)), (1, .int p1), (2, .int p2), (3, .int p3), (4, .int p4)] → W p l e rX11_inPart s m args below meth c H locs 0 0 (MQ below (va_Qi (fun (r : Int32) (_ : Unit) => post r) (fun (_ : Unit) (t : State) => va_P (dC, dI) vwCl (pX11_inPart cy h t_kind t_exponent t_letters t_images t_fed t_at t_rowSize t_steps t_foundMany t_keptMany t_keptLetters t_isFull t_isSaved t_savedKind t_savedExponent t_savedLetters) t.heap) A) args s 0 0 A) (F0 m 0 ls []) := by
  have C1 := C0
  obtain ⟨hx, hb, hr, hml, hown, hts, hlocks, hK, hA⟩ := C1
  intro  hv H locs ls hP hD hS hl
  refine lv_iconst (v := 0) hx hb dX11_inPart_0 (by decide) ?_
  refine lv_istore (lv' := [(5, .int 0), (0, .ref (h 0)), (1, .int p1), (2, .int p2), (3, .int p3), (4, .int p4)]) hx hb dX11_inPart_1 hl (by decide) rfl (fun ls hl => ?_)
  refine lv_iload_n hx hb dX11_inPart_3 rfl (lv_at hl 3 rfl) ?_
  refine lv_istore (lv' := [(6, .int p2), (5, .int 0), (0, .ref (h 0)), (1, .int p1), (2, .int p2), (3, .int p3), (4, .int p4)]) hx hb dX11_inPart_4 hl (by decide) rfl (fun ls hl => ?_)
  obtain ⟨n_1, hv⟩ := hv
  exact wX11_inPart_6 l h post  t_kind t_exponent t_letters t_images t_fed t_at t_rowSize t_steps t_foundMany t_keptMany t_keptLetters t_isFull t_isSaved t_savedKind t_savedExponent t_savedLetters p1 p2 p3 p4 C0 n_1 0 p2 hv _ _ _ hP hD hS (lv_sub hl [2, 3, 5, 6, 1, 0] rfl)
theorem kX11_inPart (l : Launch) (dC : Nat → ClassId) (dI : Nat → Nat → Nat) (cy : Nat → ClassId) (h : Nat → Nat) (t_kind : Int32) (t_exponent : Int32) (t_letters : Int32) (t_images : Nat → Int32) (t_fed : Int32) (t_at : Int32) (t_rowSize : Int32) (t_steps : Int32) (t_foundMany : Int32) (t_keptMany : Int32) (t_keptLetters : Int32) (t_isFull : Int32) (t_isSaved : Int32) (t_savedKind : Int32) (t_savedExponent : Int32) (t_savedLetters : Int32) (p1 : Int32) (p2 : Int32) (p3 : Int32) (p4 : Int32) (post : Int32 → Prop) (hv : VX11_inPart post t_images p1 p2 p3 p4 ) : CtI l yX11_inPart wsX11_inPart rX11_inPart dC dI cy [.ref (h 0), .int p1, .int p2, .int p3, .int p4] (pX11_inPart cy h t_kind t_exponent t_letters t_images t_fed t_at t_rowSize t_steps t_foundMany t_keptMany t_keptLetters t_isFull t_isSaved t_savedKind t_savedExponent t_savedLetters) (fun (_ : Unit) => pX11_inPart cy h t_kind t_exponent t_letters t_images t_fed t_at t_rowSize t_steps t_foundMany t_keptMany t_keptLetters t_isFull t_isSaved t_savedKind t_savedExponent t_savedLetters) (fun (r : Int32) (_ : Unit) => post r) :=
  ct_ofI (by decide) rfl (Nat.le_of_ble_eq_true rfl) (fun p e s m below meth c A ls C0 hP hD hS hl => wX11_inPart_0 l h post t_kind t_exponent t_letters t_images t_fed t_at t_rowSize t_steps t_foundMany t_keptMany t_keptLetters t_isFull t_isSaved t_savedKind t_savedExponent t_savedLetters p1 p2 p3 p4 C0  hv _ _ _ hP hD hS hl)
theorem mX11_before_1 : (Cond.fieldLink RX11 47 "AbelianPowersModel" "made" "[I") ∈ wsX11_before := List.mem_of_getElem? (i := 1) rfl
theorem mX11_before_2 : (Cond.fieldLink RX11 50 "AbelianPowersModel" "cutAt" "[I") ∈ wsX11_before := List.mem_of_getElem? (i := 2) rfl
theorem nX11_before_X11 : ∀ w ∈ wsX110, w ∈ wsX11_before := fun _ h => List.mem_cons_of_mem _ (List.mem_append_right _ h)
theorem zX11_before : yX11_before.cls = RX11 ∧ yX11_before.cls ≠ "java/lang/invoke/MethodHandle" ∧ yX11_before.cls ≠ "java/lang/invoke/VarHandle" ∧ (parseMethodDescriptor yX11_before.desc).map (fun d => d.parameters.length) = some 2 := by decide +kernel
abbrev rX11_before : Room := { frames := 1, cells := 0, slots := 0, locals := 26 }
abbrev pX11_before (cy : Nat → ClassId) (h : Nat → Nat) (t_kind : Int32) (t_exponent : Int32) (t_letters : Int32) (t_images : Nat → Int32) (t_fed : Int32) (t_at : Int32) (t_rowSize : Int32) (t_steps : Int32) (t_foundMany : Int32) (t_keptMany : Int32) (t_keptLetters : Int32) (t_made : Nat → Int32) (t_cutAt : Nat → Int32) (t_isFull : Int32) (t_isSaved : Int32) (t_savedKind : Int32) (t_savedExponent : Int32) (t_savedLetters : Int32) : va_W := [(h 0, .inr (11, [.int t_kind, .int t_exponent, .int t_letters, .ref (h 4), .ref (h 5), .ref (h 6), .ref (h 1), .ref (h 7), .ref (h 8), .int t_fed, .int t_at, .ref (h 9), .int t_rowSize, .int t_steps, .ref (h 10), .int t_foundMany, .ref (h 11), .int t_keptMany, .int t_keptLetters, .ref (h 2), .ref (h 3), .ref (h 12), .ref (h 13), .ref (h 14), .int t_isFull, .ref (h 15), .ref (h 16), .int t_isSaved, .int t_savedKind, .int t_savedExponent, .int t_savedLetters, .ref (h 17), .ref (h 18), .ref (h 19), .ref (h 20), .ref (h 21)])), (h 1, .inl (cy 0, 16, .inl t_images)), (h 2, .inl (cy 0, 7, .inl t_made)), (h 3, .inl (cy 0, 3, .inl t_cutAt))]
def VX11_before (post : Int32 → Prop)  (t_images : Nat → Int32) (t_made : Nat → Int32) (t_cutAt : Nat → Int32) (p1 : Int32) (p2 : Int32)  : Prop := vp_in p1 7 ∧ (vp_in p1 3 ∧ (VX11_inPart (fun r_3 => post r_3) t_images (t_made p1.toNatClampNeg) 0 (t_cutAt p1.toNatClampNeg) p2))
set_option maxHeartbeats 4000000 in
set_option maxRecDepth 100000 in
theorem wX11_before_0 {p : Program} (l : Launch) {e : Env} {s : State} {m : MethodId} {args : Array Value} {below : List Frame} {meth : Method} {c : Code} {dC : Nat → ClassId} {dI : Nat → Nat → Nat} {cy : Nat → ClassId} {A : Nat → Prop} (h : Nat → Nat) (post : Int32 → Prop)   (t_kind : Int32) (t_exponent : Int32) (t_letters : Int32) (t_images : Nat → Int32) (t_fed : Int32) (t_at : Int32) (t_rowSize : Int32) (t_steps : Int32) (t_foundMany : Int32) (t_keptMany : Int32) (t_keptLetters : Int32) (t_made : Nat → Int32) (t_cutAt : Nat → Int32) (t_isFull : Int32) (t_isSaved : Int32) (t_savedKind : Int32) (t_savedExponent : Int32) (t_savedLetters : Int32) (p1 : Int32) (p2 : Int32) (C0 : cx p s m args meth c cX11_before 3 (some .int) wsX11_before RX11 dC dI cy A)  : VX11_before post t_images t_made t_cutAt p1 p2  → ∀ (H : Heap) (locs : List Loc) (ls : Array Slot), va_P (dC, dI) vwCl (pX11_before cy h t_kind t_exponent t_letters t_images t_fed t_at t_rowSize t_steps t_foundMany t_keptMany t_keptLetters t_made t_cutAt t_isFull t_isSaved t_savedKind t_savedExponent t_savedLetters) H → va_D A (pX11_before cy h t_kind t_exponent t_letters t_images t_fed t_at t_rowSize t_steps t_foundMany t_keptMany t_keptLetters t_made t_cutAt t_isFull t_isSaved t_savedKind t_savedExponent t_savedLetters) → va_S A s.heap H locs → lv_has ls 3 [(0, .ref (h 0)), (1, .int p1), (2, .int p2)] → W p l e rX11_before s m args below meth c H locs 0 0 (MQ below (va_Qi (fun (r : Int32) (_ : Unit) => post r) (fun (_ : Unit) (t : State) => va_P (dC, dI) vwCl (pX11_before cy h t_kind t_exponent t_letters t_images t_fed t_at t_rowSize t_steps t_foundMany t_keptMany t_keptLetters t_made t_cutAt t_isFull t_isSaved t_savedKind t_savedExponent t_savedLetters) t.heap) A) args s 0 0 A) (F0 m 0 ls []) := by
  have C1 := C0
  obtain ⟨hx, hb, hr, hml, hown, hts, hlocks, hK, hA⟩ := C1
  intro  hv H locs ls hP hD hS hl
  refine lv_aload_n hx hb dX11_before_0 rfl (lv_at hl 0 rfl) ?_
  refine lv_aload_n hx hb dX11_before_1 rfl (lv_at hl 0 rfl) ?_
  refine va_get (D := (dC, dI)) (ci := 11) (v := .ref (h 2)) (C := RX11) (T := TX11) (N := 36) hx hb hts nX11_before_X11 hown hK hP 0 rfl rfl 19 (by decide) (hts _ mX11_before_1) (fun _ h9 => h9) rfl dX11_before_2 ?_
  refine lv_iload_n hx hb dX11_before_5 rfl (lv_at hl 1 rfl) ?_
  have h_1 := hv.1
  have hv := hv.2
  refine va_iald hx hb hK hP 2 0 rfl rfl h_1 dX11_before_6 ?_
  refine lv_iconst (v := 0) hx hb dX11_before_7 (by decide) ?_
  refine lv_aload_n hx hb dX11_before_8 rfl (lv_at hl 0 rfl) ?_
  refine va_get (D := (dC, dI)) (ci := 11) (v := .ref (h 3)) (C := RX11) (T := TX11) (N := 36) hx hb hts nX11_before_X11 hown hK hP 0 rfl rfl 20 (by decide) (hts _ mX11_before_2) (fun _ h9 => h9) rfl dX11_before_9 ?_
  refine lv_iload_n hx hb dX11_before_12 rfl (lv_at hl 1 rfl) ?_
  have h_2 := hv.1
  have hv := hv.2
  refine va_iald hx hb hK hP 3 0 rfl rfl h_2 dX11_before_13 ?_
  refine lv_iload_n hx hb dX11_before_14 rfl (lv_at hl 2 rfl) ?_
  refine cb_VI (As := [.int ((t_made p1.toNatClampNeg)), .int 0, .int ((t_cutAt p1.toNatClampNeg)), .int p2]) (rest := []) ⟨hx, hb, hml, hown, hts⟩ (kX11_inPart l dC dI cy (adl [h 0, h 1, h 4, h 5, h 6, h 7, h 8, h 9, h 10, h 11, h 2, h 3, h 12, h 13, h 14, h 15, h 16, h 17, h 18, h 19, h 20, h 21]) t_kind t_exponent t_letters t_images t_fed t_at t_rowSize t_steps t_foundMany t_keptMany t_keptLetters t_isFull t_isSaved t_savedKind t_savedExponent t_savedLetters (t_made p1.toNatClampNeg) 0 (t_cutAt p1.toNatClampNeg) p2 _ hv) (cwV 4 hts gX11_before_X11_inPart rfl rfl rfl zX11_inPart ⟨Nat.le_of_ble_eq_true rfl, Nat.le_of_ble_eq_true rfl⟩) hK hP hD hS hA [0, 1] [some 0, some 1, none, none] rfl rfl rfl (ci := 11) rfl rfl (fun _ => rfl) rfl hl.1 rfl (Nat.le_of_ble_eq_true rfl) dX11_before_15 (fun r_3 w_4 H locs hv hP hD hS => ?_)
  have hP : va_P (dC, dI) vwCl (pX11_before cy h t_kind t_exponent t_letters t_images t_fed t_at t_rowSize t_steps t_foundMany t_keptMany t_keptLetters t_made t_cutAt t_isFull t_isSaved t_savedKind t_savedExponent t_savedLetters) H := hP
  have hD : va_D A (pX11_before cy h t_kind t_exponent t_letters t_images t_fed t_at t_rowSize t_steps t_foundMany t_keptMany t_keptLetters t_made t_cutAt t_isFull t_isSaved t_savedKind t_savedExponent t_savedLetters) := hD
  exact W.iret (v := r_3) hx hb hr (fun t ht hW => ⟨⟨r_3, (), rfl, hv, va_Ph ht hP⟩, hS.F ht⟩) hS.2.2 dX11_before_18
theorem kX11_before (l : Launch) (dC : Nat → ClassId) (dI : Nat → Nat → Nat) (cy : Nat → ClassId) (h : Nat → Nat) (t_kind : Int32) (t_exponent : Int32) (t_letters : Int32) (t_images : Nat → Int32) (t_fed : Int32) (t_at : Int32) (t_rowSize : Int32) (t_steps : Int32) (t_foundMany : Int32) (t_keptMany : Int32) (t_keptLetters : Int32) (t_made : Nat → Int32) (t_cutAt : Nat → Int32) (t_isFull : Int32) (t_isSaved : Int32) (t_savedKind : Int32) (t_savedExponent : Int32) (t_savedLetters : Int32) (p1 : Int32) (p2 : Int32) (post : Int32 → Prop) (hv : VX11_before post t_images t_made t_cutAt p1 p2 ) : CtI l yX11_before wsX11_before rX11_before dC dI cy [.ref (h 0), .int p1, .int p2] (pX11_before cy h t_kind t_exponent t_letters t_images t_fed t_at t_rowSize t_steps t_foundMany t_keptMany t_keptLetters t_made t_cutAt t_isFull t_isSaved t_savedKind t_savedExponent t_savedLetters) (fun (_ : Unit) => pX11_before cy h t_kind t_exponent t_letters t_images t_fed t_at t_rowSize t_steps t_foundMany t_keptMany t_keptLetters t_made t_cutAt t_isFull t_isSaved t_savedKind t_savedExponent t_savedLetters) (fun (r : Int32) (_ : Unit) => post r) :=
  ct_ofI (by decide) rfl (Nat.le_of_ble_eq_true rfl) (fun p e s m below meth c A ls C0 hP hD hS hl => wX11_before_0 l h post t_kind t_exponent t_letters t_images t_fed t_at t_rowSize t_steps t_foundMany t_keptMany t_keptLetters t_made t_cutAt t_isFull t_isSaved t_savedKind t_savedExponent t_savedLetters p1 p2 C0  hv _ _ _ hP hD hS hl)
theorem mX11_behind_1 : (Cond.fieldLink RX11 47 "AbelianPowersModel" "made" "[I") ∈ wsX11_behind := List.mem_of_getElem? (i := 1) rfl
theorem mX11_behind_2 : (Cond.fieldLink RX11 50 "AbelianPowersModel" "cutAt" "[I") ∈ wsX11_behind := List.mem_of_getElem? (i := 2) rfl
theorem nX11_behind_X11 : ∀ w ∈ wsX110, w ∈ wsX11_behind := fun _ h => List.mem_cons_of_mem _ (List.mem_append_right _ h)
theorem zX11_behind : yX11_behind.cls = RX11 ∧ yX11_behind.cls ≠ "java/lang/invoke/MethodHandle" ∧ yX11_behind.cls ≠ "java/lang/invoke/VarHandle" ∧ (parseMethodDescriptor yX11_behind.desc).map (fun d => d.parameters.length) = some 3 := by decide +kernel
abbrev rX11_behind : Room := { frames := 1, cells := 0, slots := 0, locals := 26 }
abbrev pX11_behind (cy : Nat → ClassId) (h : Nat → Nat) (t_kind : Int32) (t_exponent : Int32) (t_letters : Int32) (t_images : Nat → Int32) (t_imageSizes : Nat → Int32) (t_fed : Int32) (t_at : Int32) (t_rowSize : Int32) (t_steps : Int32) (t_foundMany : Int32) (t_keptMany : Int32) (t_keptLetters : Int32) (t_made : Nat → Int32) (t_cutAt : Nat → Int32) (t_isFull : Int32) (t_isSaved : Int32) (t_savedKind : Int32) (t_savedExponent : Int32) (t_savedLetters : Int32) : va_W := [(h 0, .inr (11, [.int t_kind, .int t_exponent, .int t_letters, .ref (h 5), .ref (h 6), .ref (h 7), .ref (h 1), .ref (h 2), .ref (h 8), .int t_fed, .int t_at, .ref (h 9), .int t_rowSize, .int t_steps, .ref (h 10), .int t_foundMany, .ref (h 11), .int t_keptMany, .int t_keptLetters, .ref (h 3), .ref (h 4), .ref (h 12), .ref (h 13), .ref (h 14), .int t_isFull, .ref (h 15), .ref (h 16), .int t_isSaved, .int t_savedKind, .int t_savedExponent, .int t_savedLetters, .ref (h 17), .ref (h 18), .ref (h 19), .ref (h 20), .ref (h 21)])), (h 1, .inl (cy 0, 16, .inl t_images)), (h 2, .inl (cy 0, 4, .inl t_imageSizes)), (h 3, .inl (cy 0, 7, .inl t_made)), (h 4, .inl (cy 0, 3, .inl t_cutAt))]
def VX11_behind_22 (post : Int32 → Prop)  (t_images : Nat → Int32) (t_imageSizes : Nat → Int32) (t_made : Nat → Int32) (t_cutAt : Nat → Int32) (p1 : Int32) (p2 : Int32) (p3 : Int32) (s0 : Int32) (s1 : Int32) (s2 : Int32) : Prop := vp_in p1 7 ∧ (VX11_endSize (fun r_5 => VX11_inPart (fun r_6 => post r_6) t_images s2 (s1 + s0) r_5 p3) t_imageSizes (t_made p1.toNatClampNeg))
def VX11_behind (post : Int32 → Prop)  (t_images : Nat → Int32) (t_imageSizes : Nat → Int32) (t_made : Nat → Int32) (t_cutAt : Nat → Int32) (p1 : Int32) (p2 : Int32) (p3 : Int32)  : Prop := vp_in p1 7 ∧ (vp_in p1 3 ∧ (((0 ≤ p2) → VX11_behind_22 post t_images t_imageSizes t_made t_cutAt p1 p2 p3 1 (t_cutAt p1.toNatClampNeg) (t_made p1.toNatClampNeg)) ∧ (¬ (0 ≤ p2) → VX11_behind_22 post t_images t_imageSizes t_made t_cutAt p1 p2 p3 0 (t_cutAt p1.toNatClampNeg) (t_made p1.toNatClampNeg))))
set_option maxHeartbeats 4000000 in
set_option maxRecDepth 100000 in
theorem wX11_behind_22 {p : Program} (l : Launch) {e : Env} {s : State} {m : MethodId} {args : Array Value} {below : List Frame} {meth : Method} {c : Code} {dC : Nat → ClassId} {dI : Nat → Nat → Nat} {cy : Nat → ClassId} {A : Nat → Prop} (h : Nat → Nat) (post : Int32 → Prop)   (t_kind : Int32) (t_exponent : Int32) (t_letters : Int32) (t_images : Nat → Int32) (t_imageSizes : Nat → Int32) (t_fed : Int32) (t_at : Int32) (t_rowSize : Int32) (t_steps : Int32) (t_foundMany : Int32) (t_keptMany : Int32) (t_keptLetters : Int32) (t_made : Nat → Int32) (t_cutAt : Nat → Int32) (t_isFull : Int32) (t_isSaved : Int32) (t_savedKind : Int32) (t_savedExponent : Int32) (t_savedLetters : Int32) (p1 : Int32) (p2 : Int32) (p3 : Int32) (C0 : cx p s m args meth c cX11_behind 4 (some .int) wsX11_behind RX11 dC dI cy A)  : ∀ (s0 : Int32) (s1 : Int32) (s2 : Int32), VX11_behind_22 post t_images t_imageSizes t_made t_cutAt p1 p2 p3 s0 s1 s2 → ∀ (H : Heap) (locs : List Loc) (ls : Array Slot), va_P (dC, dI) vwCl (pX11_behind cy h t_kind t_exponent t_letters t_images t_imageSizes t_fed t_at t_rowSize t_steps t_foundMany t_keptMany t_keptLetters t_made t_cutAt t_isFull t_isSaved t_savedKind t_savedExponent t_savedLetters) H → va_D A (pX11_behind cy h t_kind t_exponent t_letters t_images t_imageSizes t_fed t_at t_rowSize t_steps t_foundMany t_keptMany t_keptLetters t_made t_cutAt t_isFull t_isSaved t_savedKind t_savedExponent t_savedLetters) → va_S A s.heap H locs → lv_has ls 4 [(0, .ref (h 0)), (1, .int p1), (3, .int p3)] → W p l e rX11_behind s m args below meth c H locs 0 0 (MQ below (va_Qi (fun (r : Int32) (_ : Unit) => post r) (fun (_ : Unit) (t : State) => va_P (dC, dI) vwCl (pX11_behind cy h t_kind t_exponent t_letters t_images t_imageSizes t_fed t_at t_rowSize t_steps t_foundMany t_keptMany t_keptLetters t_made t_cutAt t_isFull t_isSaved t_savedKind t_savedExponent t_savedLetters) t.heap) A) args s 0 0 A) (F0 m 22 ls [.int s0, .int s1, .int s2, .ref (h 0)]) := by
  have C1 := C0
  obtain ⟨hx, hb, hr, hml, hown, hts, hlocks, hK, hA⟩ := C1
  intro s0 s1 s2 hv H locs ls hP hD hS hl
  refine lv_iadd hx hb dX11_behind_22 ?_
  refine lv_aload_n hx hb dX11_behind_23 rfl (lv_at hl 0 rfl) ?_
  refine lv_aload_n hx hb dX11_behind_24 rfl (lv_at hl 0 rfl) ?_
  refine va_get (D := (dC, dI)) (ci := 11) (v := .ref (h 3)) (C := RX11) (T := TX11) (N := 36) hx hb hts nX11_behind_X11 hown hK hP 0 rfl rfl 19 (by decide) (hts _ mX11_behind_1) (fun _ h9 => h9) rfl dX11_behind_25 ?_
  refine lv_iload_n hx hb dX11_behind_28 rfl (lv_at hl 1 rfl) ?_
  have h_4 := hv.1
  have hv := hv.2
  refine va_iald hx hb hK hP 3 0 rfl rfl h_4 dX11_behind_29 ?_
  refine cb_VI (As := [.int ((t_made p1.toNatClampNeg))]) (rest := [.int ((s1 + s0)), .int s2, .ref (h 0)]) ⟨hx, hb, hml, hown, hts⟩ (kX11_endSize l dC dI cy (adl [h 0, h 2, h 5, h 6, h 7, h 1, h 8, h 9, h 10, h 11, h 3, h 4, h 12, h 13, h 14, h 15, h 16, h 17, h 18, h 19, h 20, h 21]) t_kind t_exponent t_letters t_imageSizes t_fed t_at t_rowSize t_steps t_foundMany t_keptMany t_keptLetters t_isFull t_isSaved t_savedKind t_savedExponent t_savedLetters (t_made p1.toNatClampNeg) _ hv) (cwV 1 hts gX11_behind_X11_endSize rfl rfl rfl zX11_endSize ⟨Nat.le_of_ble_eq_true rfl, Nat.le_of_ble_eq_true rfl⟩) hK hP hD hS hA [0, 2] [some 0, none, some 1, none, none] rfl rfl rfl (ci := 11) rfl rfl (fun _ => rfl) rfl hl.1 rfl (Nat.le_of_ble_eq_true rfl) dX11_behind_30 (fun r_5 w_8 H locs hv hP hD hS => ?_)
  have hP : va_P (dC, dI) vwCl (pX11_behind cy h t_kind t_exponent t_letters t_images t_imageSizes t_fed t_at t_rowSize t_steps t_foundMany t_keptMany t_keptLetters t_made t_cutAt t_isFull t_isSaved t_savedKind t_savedExponent t_savedLetters) H := hP
  have hD : va_D A (pX11_behind cy h t_kind t_exponent t_letters t_images t_imageSizes t_fed t_at t_rowSize t_steps t_foundMany t_keptMany t_keptLetters t_made t_cutAt t_isFull t_isSaved t_savedKind t_savedExponent t_savedLetters) := hD
  refine lv_iload_n hx hb dX11_behind_33 rfl (lv_at hl 2 rfl) ?_
  refine cb_VI (As := [.int s2, .int ((s1 + s0)), .int r_5, .int p3]) (rest := []) ⟨hx, hb, hml, hown, hts⟩ (kX11_inPart l dC dI cy (adl [h 0, h 1, h 5, h 6, h 7, h 2, h 8, h 9, h 10, h 11, h 3, h 4, h 12, h 13, h 14, h 15, h 16, h 17, h 18, h 19, h 20, h 21]) t_kind t_exponent t_letters t_images t_fed t_at t_rowSize t_steps t_foundMany t_keptMany t_keptLetters t_isFull t_isSaved t_savedKind t_savedExponent t_savedLetters s2 (s1 + s0) r_5 p3 _ hv) (cwV 4 hts gX11_behind_X11_inPart rfl rfl rfl zX11_inPart ⟨Nat.le_of_ble_eq_true rfl, Nat.le_of_ble_eq_true rfl⟩) hK hP hD hS hA [0, 1] [some 0, some 1, none, none, none] rfl rfl rfl (ci := 11) rfl rfl (fun _ => rfl) rfl hl.1 rfl (Nat.le_of_ble_eq_true rfl) dX11_behind_34 (fun r_6 w_7 H locs hv hP hD hS => ?_)
  have hP : va_P (dC, dI) vwCl (pX11_behind cy h t_kind t_exponent t_letters t_images t_imageSizes t_fed t_at t_rowSize t_steps t_foundMany t_keptMany t_keptLetters t_made t_cutAt t_isFull t_isSaved t_savedKind t_savedExponent t_savedLetters) H := hP
  have hD : va_D A (pX11_behind cy h t_kind t_exponent t_letters t_images t_imageSizes t_fed t_at t_rowSize t_steps t_foundMany t_keptMany t_keptLetters t_made t_cutAt t_isFull t_isSaved t_savedKind t_savedExponent t_savedLetters) := hD
  exact W.iret (v := r_6) hx hb hr (fun t ht hW => ⟨⟨r_6, (), rfl, hv, va_Ph ht hP⟩, hS.F ht⟩) hS.2.2 dX11_behind_37
set_option maxHeartbeats 4000000 in
set_option maxRecDepth 100000 in
theorem wX11_behind_0 {p : Program} (l : Launch) {e : Env} {s : State} {m : MethodId} {args : Array Value} {below : List Frame} {meth : Method} {c : Code} {dC : Nat → ClassId} {dI : Nat → Nat → Nat} {cy : Nat → ClassId} {A : Nat → Prop} (h : Nat → Nat) (post : Int32 → Prop)   (t_kind : Int32) (t_exponent : Int32) (t_letters : Int32) (t_images : Nat → Int32) (t_imageSizes : Nat → Int32) (t_fed : Int32) (t_at : Int32) (t_rowSize : Int32) (t_steps : Int32) (t_foundMany : Int32) (t_keptMany : Int32) (t_keptLetters : Int32) (t_made : Nat → Int32) (t_cutAt : Nat → Int32) (t_isFull : Int32) (t_isSaved : Int32) (t_savedKind : Int32) (t_savedExponent : Int32) (t_savedLetters : Int32) (p1 : Int32) (p2 : Int32) (p3 : Int32) (C0 : cx p s m args meth c cX11_behind 4 (some .int) wsX11_behind RX11 dC dI cy A)  : VX11_behind post t_images t_imageSizes t_made t_cutAt p1 p2 p3  → ∀ (H : Heap) (locs : List Loc) (ls : Array Slot), va_P (dC, dI) vwCl (pX11_behind cy h t_kind t_exponent t_letters t_images t_imageSizes t_fed t_at t_rowSize t_steps t_foundMany t_keptMany t_keptLetters t_made t_cutAt t_isFull t_isSaved t_savedKind t_savedExponent t_savedLetters) H → va_D A (pX11_behind cy h t_kind t_exponent t_letters t_images t_imageSizes t_fed t_at t_rowSize t_steps t_foundMany t_keptMany t_keptLetters t_made t_cutAt t_isFull t_isSaved t_savedKind t_savedExponent t_savedLetters) → va_S A s.heap H locs → lv_has ls 4 [(0, .ref (h 0)), (1, .int p1), (2, .int p2), (3, .int p3)] → W p l e rX11_behind s m args below meth c H locs 0 0 (MQ below (va_Qi (fun (r : Int32) (_ : Unit) => post r) (fun (_ : Unit) (t : State) => va_P (dC, dI) vwCl (pX11_behind cy h t_kind t_exponent t_letters t_images t_imageSizes t_fed t_at t_rowSize t_steps t_foundMany t_keptMany t_keptLetters t_made t_cutAt t_isFull t_isSaved t_savedKind t_savedExponent t_savedLetters) t.heap) A) args s 0 0 A) (F0 m 0 ls []) := by
  have C1 := C0
  obtain ⟨hx, hb, hr, hml, hown, hts, hlocks, hK, hA⟩ := C1
  intro  hv H locs ls hP hD hS hl
  refine lv_aload_n hx hb dX11_behind_0 rfl (lv_at hl 0 rfl) ?_
  refine lv_aload_n hx hb dX11_behind_1 rfl (lv_at hl 0 rfl) ?_
  refine va_get (D := (dC, dI)) (ci := 11) (v := .ref (h 3)) (C := RX11) (T := TX11) (N := 36) hx hb hts nX11_behind_X11 hown hK hP 0 rfl rfl 19 (by decide) (hts _ mX11_behind_1) (fun _ h9 => h9) rfl dX11_behind_2 ?_
  refine lv_iload_n hx hb dX11_behind_5 rfl (lv_at hl 1 rfl) ?_
  have h_1 := hv.1
  have hv := hv.2
  refine va_iald hx hb hK hP 3 0 rfl rfl h_1 dX11_behind_6 ?_
  refine lv_aload_n hx hb dX11_behind_7 rfl (lv_at hl 0 rfl) ?_
  refine va_get (D := (dC, dI)) (ci := 11) (v := .ref (h 4)) (C := RX11) (T := TX11) (N := 36) hx hb hts nX11_behind_X11 hown hK hP 0 rfl rfl 20 (by decide) (hts _ mX11_behind_2) (fun _ h9 => h9) rfl dX11_behind_8 ?_
  refine lv_iload_n hx hb dX11_behind_11 rfl (lv_at hl 1 rfl) ?_
  have h_2 := hv.1
  have hv := hv.2
  refine va_iald hx hb hK hP 4 0 rfl rfl h_2 dX11_behind_12 ?_
  refine lv_iload_n hx hb dX11_behind_13 rfl (lv_at hl 2 rfl) ?_
  refine lv_if_ge (tgt := 21) hx hb dX11_behind_14 (by decide) (fun c_3 => ?_) (fun c_3 => ?_)
  · have hv := hv.1 c_3
    refine lv_iconst (v := 1) hx hb dX11_behind_21 (by decide) ?_
    exact wX11_behind_22 l h post  t_kind t_exponent t_letters t_images t_imageSizes t_fed t_at t_rowSize t_steps t_foundMany t_keptMany t_keptLetters t_made t_cutAt t_isFull t_isSaved t_savedKind t_savedExponent t_savedLetters p1 p2 p3 C0 1 (t_cutAt p1.toNatClampNeg) (t_made p1.toNatClampNeg) hv _ _ _ hP hD hS (lv_sub hl [0, 1, 3] rfl)
  · have hv := hv.2 c_3
    refine lv_iconst (v := 0) hx hb dX11_behind_17 (by decide) ?_
    refine lv_goto (tgt := 22) hx hb dX11_behind_18 (by decide) ?_
    exact wX11_behind_22 l h post  t_kind t_exponent t_letters t_images t_imageSizes t_fed t_at t_rowSize t_steps t_foundMany t_keptMany t_keptLetters t_made t_cutAt t_isFull t_isSaved t_savedKind t_savedExponent t_savedLetters p1 p2 p3 C0 0 (t_cutAt p1.toNatClampNeg) (t_made p1.toNatClampNeg) hv _ _ _ hP hD hS (lv_sub hl [0, 1, 3] rfl)
theorem kX11_behind (l : Launch) (dC : Nat → ClassId) (dI : Nat → Nat → Nat) (cy : Nat → ClassId) (h : Nat → Nat) (t_kind : Int32) (t_exponent : Int32) (t_letters : Int32) (t_images : Nat → Int32) (t_imageSizes : Nat → Int32) (t_fed : Int32) (t_at : Int32) (t_rowSize : Int32) (t_steps : Int32) (t_foundMany : Int32) (t_keptMany : Int32) (t_keptLetters : Int32) (t_made : Nat → Int32) (t_cutAt : Nat → Int32) (t_isFull : Int32) (t_isSaved : Int32) (t_savedKind : Int32) (t_savedExponent : Int32) (t_savedLetters : Int32) (p1 : Int32) (p2 : Int32) (p3 : Int32) (post : Int32 → Prop) (hv : VX11_behind post t_images t_imageSizes t_made t_cutAt p1 p2 p3 ) : CtI l yX11_behind wsX11_behind rX11_behind dC dI cy [.ref (h 0), .int p1, .int p2, .int p3] (pX11_behind cy h t_kind t_exponent t_letters t_images t_imageSizes t_fed t_at t_rowSize t_steps t_foundMany t_keptMany t_keptLetters t_made t_cutAt t_isFull t_isSaved t_savedKind t_savedExponent t_savedLetters) (fun (_ : Unit) => pX11_behind cy h t_kind t_exponent t_letters t_images t_imageSizes t_fed t_at t_rowSize t_steps t_foundMany t_keptMany t_keptLetters t_made t_cutAt t_isFull t_isSaved t_savedKind t_savedExponent t_savedLetters) (fun (r : Int32) (_ : Unit) => post r) :=
  ct_ofI (by decide) rfl (Nat.le_of_ble_eq_true rfl) (fun p e s m below meth c A ls C0 hP hD hS hl => wX11_behind_0 l h post t_kind t_exponent t_letters t_images t_imageSizes t_fed t_at t_rowSize t_steps t_foundMany t_keptMany t_keptLetters t_made t_cutAt t_isFull t_isSaved t_savedKind t_savedExponent t_savedLetters p1 p2 p3 C0  hv _ _ _ hP hD hS hl)
theorem mX11_replaced_1 : (Cond.fieldLink RX11 16 "AbelianPowersModel" "letters" "I") ∈ wsX11_replaced := List.mem_of_getElem? (i := 1) rfl
theorem mX11_replaced_2 : (Cond.fieldLink RX11 53 "AbelianPowersModel" "wanted" "[I") ∈ wsX11_replaced := List.mem_of_getElem? (i := 2) rfl
theorem nX11_replaced_X11 : ∀ w ∈ wsX110, w ∈ wsX11_replaced := fun _ h => List.mem_cons_of_mem _ (List.mem_append_right _ h)
theorem zX11_replaced : yX11_replaced.cls = RX11 ∧ yX11_replaced.cls ≠ "java/lang/invoke/MethodHandle" ∧ yX11_replaced.cls ≠ "java/lang/invoke/VarHandle" ∧ (parseMethodDescriptor yX11_replaced.desc).map (fun d => d.parameters.length) = some 3 := by decide +kernel
abbrev rX11_replaced (d : Nat) : Room := { frames := 1 + d, cells := 0, slots := 0, locals := 24 + d * 28 }
abbrev pX11_replaced (cy : Nat → ClassId) (h : Nat → Nat) (t_kind : Int32) (t_exponent : Int32) (t_letters : Int32) (t_images : Nat → Int32) (t_imageSizes : Nat → Int32) (t_fed : Int32) (t_at : Int32) (t_rowSize : Int32) (t_steps : Int32) (t_foundMany : Int32) (t_keptMany : Int32) (t_keptLetters : Int32) (t_wanted : Nat → Int32) (t_isFull : Int32) (t_isSaved : Int32) (t_savedKind : Int32) (t_savedExponent : Int32) (t_savedLetters : Int32) : va_W := [(h 0, .inr (11, [.int t_kind, .int t_exponent, .int t_letters, .ref (h 4), .ref (h 5), .ref (h 6), .ref (h 1), .ref (h 2), .ref (h 7), .int t_fed, .int t_at, .ref (h 8), .int t_rowSize, .int t_steps, .ref (h 9), .int t_foundMany, .ref (h 10), .int t_keptMany, .int t_keptLetters, .ref (h 11), .ref (h 12), .ref (h 3), .ref (h 13), .ref (h 14), .int t_isFull, .ref (h 15), .ref (h 16), .int t_isSaved, .int t_savedKind, .int t_savedExponent, .int t_savedLetters, .ref (h 17), .ref (h 18), .ref (h 19), .ref (h 20), .ref (h 21)])), (h 1, .inl (cy 0, 16, .inl t_images)), (h 2, .inl (cy 0, 4, .inl t_imageSizes)), (h 3, .inl (cy 0, 4, .inl t_wanted))]
def VX11_replaced_59 (post : Int64 → Prop) (K19 : Int64 → Int32 → Int32 → Prop) (rec : (Int64 → Prop) → Int32 → Int32 → Int32 → Prop) (t_letters : Int32) (t_images : Nat → Int32) (t_imageSizes : Nat → Int32) (t_wanted : Nat → Int32) (p1 : Int32) (p2 : Int32) (p3 : Int32) (x4 : Int64) (x6 : Int32) (x7 : Int32) (s0 : Int32) : Prop := ∀ y_9 : Int32, y_9 = ((1 : Int32) <<< (x7 &&& 31)) → rec (fun r_10 => ∀ y_11 : Int64, y_11 = ((x6.toInt64 * s0.toInt64) * r_10) → K19 (x4 + y_11) (-x6) (x7 + 1)) p1 (p2 + 1) (p3 ||| y_9)
def VX11_replaced_19 (post : Int64 → Prop)  (rec : (Int64 → Prop) → Int32 → Int32 → Int32 → Prop) (t_letters : Int32) (t_images : Nat → Int32) (t_imageSizes : Nat → Int32) (t_wanted : Nat → Int32) (p1 : Int32) (p2 : Int32) (p3 : Int32) : Nat → Int64 → Int32 → Int32 → Prop
  | 0, _, _, _ => False
  | n + 1, x4, x6, x7 => ((t_letters ≤ x7) → post x4) ∧ (¬ (t_letters ≤ x7) → (¬ (((p3 >>> (x7 &&& 31)) &&& 1) = 0) → VX11_replaced_19 post rec t_letters t_images t_imageSizes t_wanted p1 p2 p3 n x4 x6 (x7 + 1)) ∧ ((((p3 >>> (x7 &&& 31)) &&& 1) = 0) → (¬ (x7 = p1) → VX11_entry (fun r_3 => VX11_replaced_59 post (fun x4 x6 x7 => VX11_replaced_19 post rec t_letters t_images t_imageSizes t_wanted p1 p2 p3 n x4 x6 x7) rec t_letters t_images t_imageSizes t_wanted p1 p2 p3 x4 x6 x7 r_3) t_images t_imageSizes p2 x7) ∧ ((x7 = p1) → vp_in p2 4 ∧ (VX11_replaced_59 post (fun x4 x6 x7 => VX11_replaced_19 post rec t_letters t_images t_imageSizes t_wanted p1 p2 p3 n x4 x6 x7) rec t_letters t_images t_imageSizes t_wanted p1 p2 p3 x4 x6 x7 (t_wanted p2.toNatClampNeg)))))
def VX11_replaceds (post : Int64 → Prop)  (rec : (Int64 → Prop) → Int32 → Int32 → Int32 → Prop) (t_letters : Int32) (t_images : Nat → Int32) (t_imageSizes : Nat → Int32) (t_wanted : Nat → Int32) (p1 : Int32) (p2 : Int32) (p3 : Int32)  : Prop := (¬ (p2 = t_letters) → ∃ n19 : Nat, VX11_replaced_19 post rec t_letters t_images t_imageSizes t_wanted p1 p2 p3 n19 0 1 0) ∧ ((p2 = t_letters) → post 1)
set_option maxHeartbeats 4000000 in
set_option maxRecDepth 100000 in
theorem wX11_replaced_59 {p : Program} (l : Launch) {e : Env} {s : State} {m : MethodId} {args : Array Value} {below : List Frame} {meth : Method} {c : Code} {dC : Nat → ClassId} {dI : Nat → Nat → Nat} {cy : Nat → ClassId} {A : Nat → Prop} (h : Nat → Nat) (post : Int64 → Prop) (K19 : Int64 → Int32 → Int32 → Prop) (rec : (Int64 → Prop) → Int32 → Int32 → Int32 → Prop) (d : Nat)  (t_kind : Int32) (t_exponent : Int32) (t_letters : Int32) (t_images : Nat → Int32) (t_imageSizes : Nat → Int32) (t_fed : Int32) (t_at : Int32) (t_rowSize : Int32) (t_steps : Int32) (t_foundMany : Int32) (t_keptMany : Int32) (t_keptLetters : Int32) (t_wanted : Nat → Int32) (t_isFull : Int32) (t_isSaved : Int32) (t_savedKind : Int32) (t_savedExponent : Int32) (t_savedLetters : Int32) (p1 : Int32) (p2 : Int32) (p3 : Int32) (C0 : cx p s m args meth c cX11_replaced 9 (some .long) wsX11_replaced RX11 dC dI cy A) (hrec : ∀ (p1 : Int32) (p2 : Int32) (p3 : Int32) (post : Int64 → Prop), rec post p1 p2 p3 → CtL l yX11_replaced wsX11_replaced (rX11_replaced d) dC dI cy [.ref (h 0), .int p1, .int p2, .int p3] (pX11_replaced cy h t_kind t_exponent t_letters t_images t_imageSizes t_fed t_at t_rowSize t_steps t_foundMany t_keptMany t_keptLetters t_wanted t_isFull t_isSaved t_savedKind t_savedExponent t_savedLetters) (fun (_ : Unit) => pX11_replaced cy h t_kind t_exponent t_letters t_images t_imageSizes t_fed t_at t_rowSize t_steps t_foundMany t_keptMany t_keptLetters t_wanted t_isFull t_isSaved t_savedKind t_savedExponent t_savedLetters) (fun (r : Int64) (_ : Unit) => post r)) (hK19 : ∀ (x4 : Int64) (x6 : Int32) (x7 : Int32), K19 x4 x6 x7 → ∀ (H : Heap) (locs : List Loc) (ls : Array Slot), va_P (dC, dI) vwCl (pX11_replaced cy h t_kind t_exponent t_letters t_images t_imageSizes t_fed t_at t_rowSize t_steps t_foundMany t_keptMany t_keptLetters t_wanted t_isFull t_isSaved t_savedKind t_savedExponent t_savedLetters) H → va_D A (pX11_replaced cy h t_kind t_exponent t_letters t_images t_imageSizes t_fed t_at t_rowSize t_steps t_foundMany t_keptMany t_keptLetters t_wanted t_isFull t_isSaved t_savedKind t_savedExponent t_savedLetters) → va_S A s.heap H locs → lv_has ls 9 [(0, .ref (h 0)), (1, .int p1), (2, .int p2), (3, .int p3), (4, .long x4), (6, .int x6), (7, .int x7)] → W p l e (rX11_replaced (d + 1)) s m args below meth c H locs 0 0 (MQ below (va_Ql (fun (r : Int64) (_ : Unit) => post r) (fun (_ : Unit) (t : State) => va_P (dC, dI) vwCl (pX11_replaced cy h t_kind t_exponent t_letters t_images t_imageSizes t_fed t_at t_rowSize t_steps t_foundMany t_keptMany t_keptLetters t_wanted t_isFull t_isSaved t_savedKind t_savedExponent t_savedLetters) t.heap) A) args s 0 0 A) (F0 m 19 ls [])) : ∀ (x4 : Int64) (x6 : Int32) (x7 : Int32) (s0 : Int32), VX11_replaced_59 post K19 rec t_letters t_images t_imageSizes t_wanted p1 p2 p3 x4 x6 x7 s0 → ∀ (H : Heap) (locs : List Loc) (ls : Array Slot), va_P (dC, dI) vwCl (pX11_replaced cy h t_kind t_exponent t_letters t_images t_imageSizes t_fed t_at t_rowSize t_steps t_foundMany t_keptMany t_keptLetters t_wanted t_isFull t_isSaved t_savedKind t_savedExponent t_savedLetters) H → va_D A (pX11_replaced cy h t_kind t_exponent t_letters t_images t_imageSizes t_fed t_at t_rowSize t_steps t_foundMany t_keptMany t_keptLetters t_wanted t_isFull t_isSaved t_savedKind t_savedExponent t_savedLetters) → va_S A s.heap H locs → lv_has ls 9 [(0, .ref (h 0)), (1, .int p1), (2, .int p2), (3, .int p3), (4, .long x4), (6, .int x6), (7, .int x7)] → W p l e (rX11_replaced (d + 1)) s m args below meth c H locs 0 0 (MQ below (va_Ql (fun (r : Int64) (_ : Unit) => post r) (fun (_ : Unit) (t : State) => va_P (dC, dI) vwCl (pX11_replaced cy h t_kind t_exponent t_letters t_images t_imageSizes t_fed t_at t_rowSize t_steps t_foundMany t_keptMany t_keptLetters t_wanted t_isFull t_isSaved t_savedKind t_savedExponent t_savedLetters) t.heap) A) args s 0 0 A) (F0 m 59 ls [.int s0]) := by
  have C1 := C0
  obtain ⟨hx, hb, hr, hml, hown, hts, hlocks, hK, hA⟩ := C1
  intro x4 x6 x7 s0 hv H locs ls hP hD hS hl
  refine lv_istore (lv' := [(8, .int s0), (0, .ref (h 0)), (1, .int p1), (2, .int p2), (3, .int p3), (4, .long x4), (6, .int x6), (7, .int x7)]) hx hb dX11_replaced_59 hl (by decide) rfl (fun ls hl => ?_)
  refine lv_lload hx hb dX11_replaced_61 (lv_at hl 5 rfl) ?_
  refine lv_iload hx hb dX11_replaced_63 (lv_at hl 6 rfl) ?_
  refine lv_i2l (v := x6.toInt64) hx hb dX11_replaced_65 rfl ?_
  refine lv_iload hx hb dX11_replaced_66 (lv_at hl 0 rfl) ?_
  refine lv_i2l (v := s0.toInt64) hx hb dX11_replaced_68 rfl ?_
  refine lv_lmul hx hb dX11_replaced_69 ?_
  refine lv_aload_n hx hb dX11_replaced_70 rfl (lv_at hl 1 rfl) ?_
  refine lv_iload_n hx hb dX11_replaced_71 rfl (lv_at hl 2 rfl) ?_
  refine lv_iload_n hx hb dX11_replaced_72 rfl (lv_at hl 3 rfl) ?_
  refine lv_iconst (v := 1) hx hb dX11_replaced_73 (by decide) ?_
  refine lv_iadd hx hb dX11_replaced_74 ?_
  refine lv_iload_n hx hb dX11_replaced_75 rfl (lv_at hl 4 rfl) ?_
  refine lv_iconst (v := 1) hx hb dX11_replaced_76 (by decide) ?_
  refine lv_iload hx hb dX11_replaced_77 (lv_at hl 7 rfl) ?_
  refine lv_ishl hx hb dX11_replaced_79 ?_
  refine lv_topi (fun y_9 ey_9 => ?_)
  have hv := hv y_9 ey_9
  refine lv_ior hx hb dX11_replaced_80 ?_
  refine cb_VL (As := [.int p1, .int ((p2 + 1)), .int ((p3 ||| y_9))]) (rest := [.long ((x6.toInt64 * s0.toInt64)), .long x4]) ⟨hx, hb, hml, hown, hts⟩ (hrec p1 (p2 + 1) (p3 ||| y_9) _ hv) (cwV 3 hts gX11_replaced_X11_replaced rfl rfl rfl zX11_replaced ⟨by simp only [rX11_replaced]; omega, by simp only [rX11_replaced]; omega⟩) hK hP hD hS hA [0, 1, 2, 3] [some 0, some 1, some 2, some 3] rfl rfl rfl (ci := 11) rfl rfl (fun _ => rfl) rfl hl.1 rfl (Nat.le_of_ble_eq_true rfl) dX11_replaced_81 (fun r_10 w_12 H locs hv hP hD hS => ?_)
  have hP : va_P (dC, dI) vwCl (pX11_replaced cy h t_kind t_exponent t_letters t_images t_imageSizes t_fed t_at t_rowSize t_steps t_foundMany t_keptMany t_keptLetters t_wanted t_isFull t_isSaved t_savedKind t_savedExponent t_savedLetters) H := hP
  have hD : va_D A (pX11_replaced cy h t_kind t_exponent t_letters t_images t_imageSizes t_fed t_at t_rowSize t_steps t_foundMany t_keptMany t_keptLetters t_wanted t_isFull t_isSaved t_savedKind t_savedExponent t_savedLetters) := hD
  refine lv_lmul hx hb dX11_replaced_84 ?_
  refine lv_topl (fun y_11 ey_11 => ?_)
  have hv := hv y_11 ey_11
  refine lv_ladd hx hb dX11_replaced_85 ?_
  refine lv_lstore (lv' := [(4, .long ((x4 + y_11))), (8, .int s0), (0, .ref (h 0)), (1, .int p1), (2, .int p2), (3, .int p3), (6, .int x6), (7, .int x7)]) hx hb dX11_replaced_86 hl (by decide) rfl (fun ls hl => ?_)
  refine lv_iload hx hb dX11_replaced_88 (lv_at hl 6 rfl) ?_
  refine lv_ineg hx hb dX11_replaced_90 ?_
  refine lv_istore (lv' := [(6, .int ((-x6))), (4, .long ((x4 + y_11))), (8, .int s0), (0, .ref (h 0)), (1, .int p1), (2, .int p2), (3, .int p3), (7, .int x7)]) hx hb dX11_replaced_91 hl (by decide) rfl (fun ls hl => ?_)
  refine lv_iinc (v := (x7 + 1)) (lv' := [(7, .int ((x7 + 1))), (6, .int ((-x6))), (4, .long ((x4 + y_11))), (8, .int s0), (0, .ref (h 0)), (1, .int p1), (2, .int p2), (3, .int p3)]) hx hb dX11_replaced_93 hl (k := 7) rfl rfl (by decide) rfl (fun ls hl => ?_)
  refine lv_goto (tgt := 19) hx hb dX11_replaced_96 (by decide) ?_
  exact hK19 (x4 + y_11) (-x6) (x7 + 1) hv _ _ _ hP hD hS (lv_sub hl [4, 5, 6, 7, 2, 1, 0] rfl)
set_option maxHeartbeats 4000000 in
set_option maxRecDepth 100000 in
theorem wX11_replaced_19 {p : Program} (l : Launch) {e : Env} {s : State} {m : MethodId} {args : Array Value} {below : List Frame} {meth : Method} {c : Code} {dC : Nat → ClassId} {dI : Nat → Nat → Nat} {cy : Nat → ClassId} {A : Nat → Prop} (h : Nat → Nat) (post : Int64 → Prop)  (rec : (Int64 → Prop) → Int32 → Int32 → Int32 → Prop) (d : Nat)  (t_kind : Int32) (t_exponent : Int32) (t_letters : Int32) (t_images : Nat → Int32) (t_imageSizes : Nat → Int32) (t_fed : Int32) (t_at : Int32) (t_rowSize : Int32) (t_steps : Int32) (t_foundMany : Int32) (t_keptMany : Int32) (t_keptLetters : Int32) (t_wanted : Nat → Int32) (t_isFull : Int32) (t_isSaved : Int32) (t_savedKind : Int32) (t_savedExponent : Int32) (t_savedLetters : Int32) (p1 : Int32) (p2 : Int32) (p3 : Int32) (C0 : cx p s m args meth c cX11_replaced 9 (some .long) wsX11_replaced RX11 dC dI cy A) (hrec : ∀ (p1 : Int32) (p2 : Int32) (p3 : Int32) (post : Int64 → Prop), rec post p1 p2 p3 → CtL l yX11_replaced wsX11_replaced (rX11_replaced d) dC dI cy [.ref (h 0), .int p1, .int p2, .int p3] (pX11_replaced cy h t_kind t_exponent t_letters t_images t_imageSizes t_fed t_at t_rowSize t_steps t_foundMany t_keptMany t_keptLetters t_wanted t_isFull t_isSaved t_savedKind t_savedExponent t_savedLetters) (fun (_ : Unit) => pX11_replaced cy h t_kind t_exponent t_letters t_images t_imageSizes t_fed t_at t_rowSize t_steps t_foundMany t_keptMany t_keptLetters t_wanted t_isFull t_isSaved t_savedKind t_savedExponent t_savedLetters) (fun (r : Int64) (_ : Unit) => post r))  : ∀ (n : Nat) (x4 : Int64) (x6 : Int32) (x7 : Int32), VX11_replaced_19 post rec t_letters t_images t_imageSizes t_wanted p1 p2 p3 n x4 x6 x7 → ∀ (H : Heap) (locs : List Loc) (ls : Array Slot), va_P (dC, dI) vwCl (pX11_replaced cy h t_kind t_exponent t_letters t_images t_imageSizes t_fed t_at t_rowSize t_steps t_foundMany t_keptMany t_keptLetters t_wanted t_isFull t_isSaved t_savedKind t_savedExponent t_savedLetters) H → va_D A (pX11_replaced cy h t_kind t_exponent t_letters t_images t_imageSizes t_fed t_at t_rowSize t_steps t_foundMany t_keptMany t_keptLetters t_wanted t_isFull t_isSaved t_savedKind t_savedExponent t_savedLetters) → va_S A s.heap H locs → lv_has ls 9 [(0, .ref (h 0)), (1, .int p1), (2, .int p2), (3, .int p3), (4, .long x4), (6, .int x6), (7, .int x7)] → W p l e (rX11_replaced (d + 1)) s m args below meth c H locs 0 0 (MQ below (va_Ql (fun (r : Int64) (_ : Unit) => post r) (fun (_ : Unit) (t : State) => va_P (dC, dI) vwCl (pX11_replaced cy h t_kind t_exponent t_letters t_images t_imageSizes t_fed t_at t_rowSize t_steps t_foundMany t_keptMany t_keptLetters t_wanted t_isFull t_isSaved t_savedKind t_savedExponent t_savedLetters) t.heap) A) args s 0 0 A) (F0 m 19 ls []) := by
  have C1 := C0
  obtain ⟨hx, hb, hr, hml, hown, hts, hlocks, hK, hA⟩ := C1
  intro n
  induction n with
  | zero => intro x4 x6 x7 hv; exact hv.elim
  | succ n ih =>
    intro x4 x6 x7 hv H locs ls hP hD hS hl
    refine lv_iload hx hb dX11_replaced_19 (lv_at hl 6 rfl) ?_
    refine lv_aload_n hx hb dX11_replaced_21 rfl (lv_at hl 0 rfl) ?_
    refine va_get (D := (dC, dI)) (ci := 11) (v := .int t_letters) (C := RX11) (T := TX11) (N := 36) hx hb hts nX11_replaced_X11 hown hK hP 0 rfl rfl 2 (by decide) (hts _ mX11_replaced_1) (fun _ h9 => h9) rfl dX11_replaced_22 ?_
    refine lv_icmp_ge (tgt := 99) hx hb dX11_replaced_25 (by decide) (fun c_8 => ?_) (fun c_8 => ?_)
    · have hv := hv.1 c_8
      refine lv_lload hx hb dX11_replaced_99 (lv_at hl 4 rfl) ?_
      exact W.lret (v := x4) hx hb hr (fun t ht hW => ⟨⟨x4, (), rfl, hv, va_Ph ht hP⟩, hS.F ht⟩) hS.2.2 dX11_replaced_101
    · have hv := hv.2 c_8
      refine lv_iload_n hx hb dX11_replaced_28 rfl (lv_at hl 3 rfl) ?_
      refine lv_iload hx hb dX11_replaced_29 (lv_at hl 6 rfl) ?_
      refine lv_ishr hx hb dX11_replaced_31 ?_
      refine lv_iconst (v := 1) hx hb dX11_replaced_32 (by decide) ?_
      refine lv_iand hx hb dX11_replaced_33 ?_
      refine lv_if_ne (tgt := 93) hx hb dX11_replaced_34 (by decide) (fun c_7 => ?_) (fun c_7 => ?_)
      · have hv := hv.1 c_7
        refine lv_iinc (v := (x7 + 1)) (lv' := [(7, .int ((x7 + 1))), (0, .ref (h 0)), (1, .int p1), (2, .int p2), (3, .int p3), (4, .long x4), (6, .int x6)]) hx hb dX11_replaced_93 hl (k := 6) rfl rfl (by decide) rfl (fun ls hl => ?_)
        refine lv_goto (tgt := 19) hx hb dX11_replaced_96 (by decide) ?_
        exact ih x4 x6 (x7 + 1) hv _ _ _ hP hD hS (lv_sub hl [1, 2, 3, 4, 5, 6, 0] rfl)
      · have hv := hv.2 c_7
        refine lv_iload hx hb dX11_replaced_37 (lv_at hl 6 rfl) ?_
        refine lv_iload_n hx hb dX11_replaced_39 rfl (lv_at hl 1 rfl) ?_
        refine lv_icmp_ne (tgt := 52) hx hb dX11_replaced_40 (by decide) (fun c_6 => ?_) (fun c_6 => ?_)
        · have hv := hv.1 c_6
          refine lv_aload_n hx hb dX11_replaced_52 rfl (lv_at hl 0 rfl) ?_
          refine lv_iload_n hx hb dX11_replaced_53 rfl (lv_at hl 2 rfl) ?_
          refine lv_iload hx hb dX11_replaced_54 (lv_at hl 6 rfl) ?_
          refine cb_VI (As := [.int p2, .int x7]) (rest := []) ⟨hx, hb, hml, hown, hts⟩ (kX11_entry l dC dI cy (adl [h 0, h 1, h 2, h 4, h 5, h 6, h 7, h 8, h 9, h 10, h 11, h 12, h 3, h 13, h 14, h 15, h 16, h 17, h 18, h 19, h 20, h 21]) t_kind t_exponent t_letters t_images t_imageSizes t_fed t_at t_rowSize t_steps t_foundMany t_keptMany t_keptLetters t_isFull t_isSaved t_savedKind t_savedExponent t_savedLetters p2 x7 _ hv) (cwV 2 hts gX11_replaced_X11_entry rfl rfl rfl zX11_entry ⟨by simp only [rX11_replaced, rX11_entry]; omega, by simp only [rX11_replaced, rX11_entry]; omega⟩) hK hP hD hS hA [0, 1, 2] [some 0, some 1, some 2, none] rfl rfl rfl (ci := 11) rfl rfl (fun _ => rfl) rfl hl.1 rfl (Nat.le_of_ble_eq_true rfl) dX11_replaced_56 (fun r_3 w_4 H locs hv hP hD hS => ?_)
          have hP : va_P (dC, dI) vwCl (pX11_replaced cy h t_kind t_exponent t_letters t_images t_imageSizes t_fed t_at t_rowSize t_steps t_foundMany t_keptMany t_keptLetters t_wanted t_isFull t_isSaved t_savedKind t_savedExponent t_savedLetters) H := hP
          have hD : va_D A (pX11_replaced cy h t_kind t_exponent t_letters t_images t_imageSizes t_fed t_at t_rowSize t_steps t_foundMany t_keptMany t_keptLetters t_wanted t_isFull t_isSaved t_savedKind t_savedExponent t_savedLetters) := hD
          exact wX11_replaced_59 l h post (fun x4 x6 x7 => VX11_replaced_19 post rec t_letters t_images t_imageSizes t_wanted p1 p2 p3 n x4 x6 x7)  rec d t_kind t_exponent t_letters t_images t_imageSizes t_fed t_at t_rowSize t_steps t_foundMany t_keptMany t_keptLetters t_wanted t_isFull t_isSaved t_savedKind t_savedExponent t_savedLetters p1 p2 p3 C0 hrec ih x4 x6 x7 r_3 hv _ _ _ hP hD hS (lv_sub hl [0, 1, 2, 3, 4, 5, 6] rfl)
        · have hv := hv.2 c_6
          refine lv_aload_n hx hb dX11_replaced_43 rfl (lv_at hl 0 rfl) ?_
          refine va_get (D := (dC, dI)) (ci := 11) (v := .ref (h 3)) (C := RX11) (T := TX11) (N := 36) hx hb hts nX11_replaced_X11 hown hK hP 0 rfl rfl 21 (by decide) (hts _ mX11_replaced_2) (fun _ h9 => h9) rfl dX11_replaced_44 ?_
          refine lv_iload_n hx hb dX11_replaced_47 rfl (lv_at hl 2 rfl) ?_
          have h_5 := hv.1
          have hv := hv.2
          refine va_iald hx hb hK hP 3 0 rfl rfl h_5 dX11_replaced_48 ?_
          refine lv_goto (tgt := 59) hx hb dX11_replaced_49 (by decide) ?_
          exact wX11_replaced_59 l h post (fun x4 x6 x7 => VX11_replaced_19 post rec t_letters t_images t_imageSizes t_wanted p1 p2 p3 n x4 x6 x7)  rec d t_kind t_exponent t_letters t_images t_imageSizes t_fed t_at t_rowSize t_steps t_foundMany t_keptMany t_keptLetters t_wanted t_isFull t_isSaved t_savedKind t_savedExponent t_savedLetters p1 p2 p3 C0 hrec ih x4 x6 x7 (t_wanted p2.toNatClampNeg) hv _ _ _ hP hD hS (lv_sub hl [0, 1, 2, 3, 4, 5, 6] rfl)
set_option maxHeartbeats 4000000 in
set_option maxRecDepth 100000 in
theorem wX11_replaced_0 {p : Program} (l : Launch) {e : Env} {s : State} {m : MethodId} {args : Array Value} {below : List Frame} {meth : Method} {c : Code} {dC : Nat → ClassId} {dI : Nat → Nat → Nat} {cy : Nat → ClassId} {A : Nat → Prop} (h : Nat → Nat) (post : Int64 → Prop)  (rec : (Int64 → Prop) → Int32 → Int32 → Int32 → Prop) (d : Nat)  (t_kind : Int32) (t_exponent : Int32) (t_letters : Int32) (t_images : Nat → Int32) (t_imageSizes : Nat → Int32) (t_fed : Int32) (t_at : Int32) (t_rowSize : Int32) (t_steps : Int32) (t_foundMany : Int32) (t_keptMany : Int32) (t_keptLetters : Int32) (t_wanted : Nat → Int32) (t_isFull : Int32) (t_isSaved : Int32) (t_savedKind : Int32) (t_savedExponent : Int32) (t_savedLetters : Int32) (p1 : Int32) (p2 : Int32) (p3 : Int32) (C0 : cx p s m args meth c cX11_replaced 9 (some .long) wsX11_replaced RX11 dC dI cy A) (hrec : ∀ (p1 : Int32) (p2 : Int32) (p3 : Int32) (post : Int64 → Prop), rec post p1 p2 p3 → CtL l yX11_replaced wsX11_replaced (rX11_replaced d) dC dI cy [.ref (h 0), .int p1, .int p2, .int p3] (pX11_replaced cy h t_kind t_exponent t_letters t_images t_imageSizes t_fed t_at t_rowSize t_steps t_foundMany t_keptMany t_keptLetters t_wanted t_isFull t_isSaved t_savedKind t_savedExponent t_savedLetters) (fun (_ : Unit) => pX11_replaced cy h t_kind t_exponent t_letters t_images t_imageSizes t_fed t_at t_rowSize t_steps t_foundMany t_keptMany t_keptLetters t_wanted t_isFull t_isSaved t_savedKind t_savedExponent t_savedLetters) (fun (r : Int64) (_ : Unit) => post r))  : VX11_replaceds post rec t_letters t_images t_imageSizes t_wanted p1 p2 p3  → ∀ (H : Heap) (locs : List Loc) (ls : Array Slot), va_P (dC, dI) vwCl (pX11_replaced cy h t_kind t_exponent t_letters t_images t_imageSizes t_fed t_at t_rowSize t_steps t_foundMany t_keptMany t_keptLetters t_wanted t_isFull t_isSaved t_savedKind t_savedExponent t_savedLetters) H → va_D A (pX11_replaced cy h t_kind t_exponent t_letters t_images t_imageSizes t_fed t_at t_rowSize t_steps t_foundMany t_keptMany t_keptLetters t_wanted t_isFull t_isSaved t_savedKind t_savedExponent t_savedLetters) → va_S A s.heap H locs → lv_has ls 9 [(0, .ref (h 0)), (1, .int p1), (2, .int p2), (3, .int p3)] → W p l e (rX11_replaced (d + 1)) s m args below meth c H locs 0 0 (MQ below (va_Ql (fun (r : Int64) (_ : Unit) => post r) (fun (_ : Unit) (t : State) => va_P (dC, dI) vwCl (pX11_replaced cy h t_kind t_exponent t_letters t_images t_imageSizes t_fed t_at t_rowSize t_steps t_foundMany t_keptMany t_keptLetters t_wanted t_isFull t_isSaved t_savedKind t_savedExponent t_savedLetters) t.heap) A) args s 0 0 A) (F0 m 0 ls []) := by
  have C1 := C0
  obtain ⟨hx, hb, hr, hml, hown, hts, hlocks, hK, hA⟩ := C1
  intro  hv H locs ls hP hD hS hl
  refine lv_iload_n hx hb dX11_replaced_0 rfl (lv_at hl 2 rfl) ?_
  refine lv_aload_n hx hb dX11_replaced_1 rfl (lv_at hl 0 rfl) ?_
  refine va_get (D := (dC, dI)) (ci := 11) (v := .int t_letters) (C := RX11) (T := TX11) (N := 36) hx hb hts nX11_replaced_X11 hown hK hP 0 rfl rfl 2 (by decide) (hts _ mX11_replaced_1) (fun _ h9 => h9) rfl dX11_replaced_2 ?_
  refine lv_icmp_ne (tgt := 10) hx hb dX11_replaced_5 (by decide) (fun c_2 => ?_) (fun c_2 => ?_)
  · have hv := hv.1 c_2
    refine lv_lconst (v := 0) hx hb dX11_replaced_10 (by decide) ?_
    refine lv_lstore (lv' := [(4, .long 0), (0, .ref (h 0)), (1, .int p1), (2, .int p2), (3, .int p3)]) hx hb dX11_replaced_11 hl (by decide) rfl (fun ls hl => ?_)
    refine lv_iconst (v := 1) hx hb dX11_replaced_13 (by decide) ?_
    refine lv_istore (lv' := [(6, .int 1), (4, .long 0), (0, .ref (h 0)), (1, .int p1), (2, .int p2), (3, .int p3)]) hx hb dX11_replaced_14 hl (by decide) rfl (fun ls hl => ?_)
    refine lv_iconst (v := 0) hx hb dX11_replaced_16 (by decide) ?_
    refine lv_istore (lv' := [(7, .int 0), (6, .int 1), (4, .long 0), (0, .ref (h 0)), (1, .int p1), (2, .int p2), (3, .int p3)]) hx hb dX11_replaced_17 hl (by decide) rfl (fun ls hl => ?_)
    obtain ⟨n_1, hv⟩ := hv
    exact wX11_replaced_19 l h post  rec d t_kind t_exponent t_letters t_images t_imageSizes t_fed t_at t_rowSize t_steps t_foundMany t_keptMany t_keptLetters t_wanted t_isFull t_isSaved t_savedKind t_savedExponent t_savedLetters p1 p2 p3 C0 hrec n_1 0 1 0 hv _ _ _ hP hD hS (lv_sub hl [3, 4, 5, 6, 2, 1, 0] rfl)
  · have hv := hv.2 c_2
    refine lv_lconst (v := 1) hx hb dX11_replaced_8 (by decide) ?_
    exact W.lret (v := 1) hx hb hr (fun t ht hW => ⟨⟨1, (), rfl, hv, va_Ph ht hP⟩, hS.F ht⟩) hS.2.2 dX11_replaced_9
def VX11_replaced (t_letters : Int32) (t_images : Nat → Int32) (t_imageSizes : Nat → Int32) (t_wanted : Nat → Int32) : Nat → (Int64 → Prop) → Int32 → Int32 → Int32 → Prop
  | 0, _, _, _, _ => False
  | d + 1, post, p1, p2, p3 => VX11_replaceds post (VX11_replaced t_letters t_images t_imageSizes t_wanted d) t_letters t_images t_imageSizes t_wanted p1 p2 p3
theorem kX11_replaced (l : Launch) (dC : Nat → ClassId) (dI : Nat → Nat → Nat) (cy : Nat → ClassId) (h : Nat → Nat) (t_kind : Int32) (t_exponent : Int32) (t_letters : Int32) (t_images : Nat → Int32) (t_imageSizes : Nat → Int32) (t_fed : Int32) (t_at : Int32) (t_rowSize : Int32) (t_steps : Int32) (t_foundMany : Int32) (t_keptMany : Int32) (t_keptLetters : Int32) (t_wanted : Nat → Int32) (t_isFull : Int32) (t_isSaved : Int32) (t_savedKind : Int32) (t_savedExponent : Int32) (t_savedLetters : Int32) : ∀ (d : Nat) (p1 : Int32) (p2 : Int32) (p3 : Int32) (post : Int64 → Prop), VX11_replaced t_letters t_images t_imageSizes t_wanted d post p1 p2 p3 → CtL l yX11_replaced wsX11_replaced (rX11_replaced d) dC dI cy [.ref (h 0), .int p1, .int p2, .int p3] (pX11_replaced cy h t_kind t_exponent t_letters t_images t_imageSizes t_fed t_at t_rowSize t_steps t_foundMany t_keptMany t_keptLetters t_wanted t_isFull t_isSaved t_savedKind t_savedExponent t_savedLetters) (fun (_ : Unit) => pX11_replaced cy h t_kind t_exponent t_letters t_images t_imageSizes t_fed t_at t_rowSize t_steps t_foundMany t_keptMany t_keptLetters t_wanted t_isFull t_isSaved t_savedKind t_savedExponent t_savedLetters) (fun (r : Int64) (_ : Unit) => post r) := by
  intro d
  induction d with
  | zero => intro p1 p2 p3 post hv; exact hv.elim
  | succ d ih =>
    intro p1 p2 p3 post hv
    exact ct_ofL (by decide) rfl (Nat.le_of_ble_eq_true rfl) (fun p e s m below meth c A ls C0 hP hD hS hl => wX11_replaced_0 l h post (VX11_replaced t_letters t_images t_imageSizes t_wanted d) d t_kind t_exponent t_letters t_images t_imageSizes t_fed t_at t_rowSize t_steps t_foundMany t_keptMany t_keptLetters t_wanted t_isFull t_isSaved t_savedKind t_savedExponent t_savedLetters p1 p2 p3 C0 ih  hv _ _ _ hP hD hS hl)
theorem mX11_solves_1 : (Cond.fieldLink RX11 16 "AbelianPowersModel" "letters" "I") ∈ wsX11_solves := List.mem_of_getElem? (i := 1) rfl
theorem mX11_solves_6 : (Cond.constantLong RX11 218 (9)) ∈ wsX11_solves := List.mem_of_getElem? (i := 6) rfl
theorem mX11_solves_7 : (Cond.fieldLink RX11 47 "AbelianPowersModel" "made" "[I") ∈ wsX11_solves := List.mem_of_getElem? (i := 7) rfl
theorem mX11_solves_2 : (Cond.methodLink RX11 214 Lib.MathLoose.abs_long.x) ∈ wsX11_solves := List.mem_of_getElem? (i := 2) rfl
theorem mX11_solves_3 : (Cond.static Lib.MathLoose.abs_long.x) ∈ wsX11_solves := List.mem_of_getElem? (i := 3) rfl
theorem mX11_solves_4 : (Cond.initialized "java/lang/Math") ∈ wsX11_solves := List.mem_of_getElem? (i := 4) rfl
theorem mX11_solves_5 : (Cond.code Lib.MathLoose.abs_long.x Lib.MathLoose.abs_long.code 2 (some .long)) ∈ wsX11_solves := List.mem_of_getElem? (i := 5) rfl
theorem nX11_solves_X11 : ∀ w ∈ wsX110, w ∈ wsX11_solves := fun _ h => List.mem_cons_of_mem _ (List.mem_append_right _ h)
theorem zX11_solves : yX11_solves.cls = RX11 ∧ yX11_solves.cls ≠ "java/lang/invoke/MethodHandle" ∧ yX11_solves.cls ≠ "java/lang/invoke/VarHandle" ∧ (parseMethodDescriptor yX11_solves.desc).map (fun d => d.parameters.length) = some 1 := by decide +kernel
abbrev rX11_solves : Room := { frames := 10, cells := 0, slots := 0, locals := 276 }
abbrev pX11_solves (cy : Nat → ClassId) (h : Nat → Nat) (t_kind : Int32) (t_exponent : Int32) (t_letters : Int32) (t_images : Nat → Int32) (t_imageSizes : Nat → Int32) (t_fed : Int32) (t_at : Int32) (t_rowSize : Int32) (t_steps : Int32) (t_foundMany : Int32) (t_keptMany : Int32) (t_keptLetters : Int32) (t_made : Nat → Int32) (t_wanted : Nat → Int32) (t_isFull : Int32) (t_isSaved : Int32) (t_savedKind : Int32) (t_savedExponent : Int32) (t_savedLetters : Int32) : va_W := [(h 0, .inr (11, [.int t_kind, .int t_exponent, .int t_letters, .ref (h 5), .ref (h 6), .ref (h 7), .ref (h 1), .ref (h 2), .ref (h 8), .int t_fed, .int t_at, .ref (h 9), .int t_rowSize, .int t_steps, .ref (h 10), .int t_foundMany, .ref (h 11), .int t_keptMany, .int t_keptLetters, .ref (h 3), .ref (h 12), .ref (h 4), .ref (h 13), .ref (h 14), .int t_isFull, .ref (h 15), .ref (h 16), .int t_isSaved, .int t_savedKind, .int t_savedExponent, .int t_savedLetters, .ref (h 17), .ref (h 18), .ref (h 19), .ref (h 20), .ref (h 21)])), (h 1, .inl (cy 0, 16, .inl t_images)), (h 2, .inl (cy 0, 4, .inl t_imageSizes)), (h 3, .inl (cy 0, 7, .inl t_made)), (h 4, .inl (cy 0, 4, .inl t_wanted))]
def VX11_solves_2 (post : Int32 → (Nat → Int32) → Prop)  (t_letters : Int32) (t_images : Nat → Int32) (t_imageSizes : Nat → Int32) (t_wanted : Nat → Int32) (p1 : Int64) : Nat → (Nat → Int32) → Int32 → Prop
  | 0, _, _ => False
  | n + 1, t_made, x3 => ((t_letters ≤ x3) → post (1 : Int32) t_made) ∧ (¬ (t_letters ≤ x3) → VX11_replaced t_letters t_images t_imageSizes t_wanted 8 (fun r_2 => ¬ p1 = 0 ∧ ((¬ ((lg_cmp (r_2 - r_2 / p1 * p1) (0 : Int64)) = 0) → post (0 : Int32) t_made) ∧ (((lg_cmp (r_2 - r_2 / p1 * p1) (0 : Int64)) = 0) → ¬ p1 = 0 ∧ (∀ y_5 : Int64, y_5 = (if 0 < (r_2 / p1) then (r_2 / p1) else -(r_2 / p1)) → (((lg_cmp y_5 (9 : Int64)) ≤ 0) → ¬ p1 = 0 ∧ (vp_in ((3 : Int32) + x3) 7 ∧ (VX11_solves_2 post t_letters t_images t_imageSizes t_wanted p1 n (upd t_made ((3 : Int32) + x3).toNatClampNeg ((r_2 / p1).toInt32)) (x3 + 1)))) ∧ (¬ ((lg_cmp y_5 (9 : Int64)) ≤ 0) → post (0 : Int32) t_made))))) x3 0 0)
def VX11_solves (post : Int32 → (Nat → Int32) → Prop)  (t_letters : Int32) (t_images : Nat → Int32) (t_imageSizes : Nat → Int32) (t_wanted : Nat → Int32) (p1 : Int64) (t_made : Nat → Int32) : Prop := ∃ n2 : Nat, VX11_solves_2 post t_letters t_images t_imageSizes t_wanted p1 n2 t_made 0
set_option maxHeartbeats 4000000 in
set_option maxRecDepth 100000 in
theorem wX11_solves_2 {p : Program} (l : Launch) {e : Env} {s : State} {m : MethodId} {args : Array Value} {below : List Frame} {meth : Method} {c : Code} {dC : Nat → ClassId} {dI : Nat → Nat → Nat} {cy : Nat → ClassId} {A : Nat → Prop} (h : Nat → Nat) (post : Int32 → (Nat → Int32) → Prop)   (t_kind : Int32) (t_exponent : Int32) (t_letters : Int32) (t_images : Nat → Int32) (t_imageSizes : Nat → Int32) (t_fed : Int32) (t_at : Int32) (t_rowSize : Int32) (t_steps : Int32) (t_foundMany : Int32) (t_keptMany : Int32) (t_keptLetters : Int32) (t_wanted : Nat → Int32) (t_isFull : Int32) (t_isSaved : Int32) (t_savedKind : Int32) (t_savedExponent : Int32) (t_savedLetters : Int32) (p1 : Int64) (C0 : cx p s m args meth c cX11_solves 6 (some .boolean) wsX11_solves RX11 dC dI cy A)  : ∀ (n : Nat) (t_made : Nat → Int32) (x3 : Int32), VX11_solves_2 post t_letters t_images t_imageSizes t_wanted p1 n t_made x3 → ∀ (H : Heap) (locs : List Loc) (ls : Array Slot), va_P (dC, dI) vwCl (pX11_solves cy h t_kind t_exponent t_letters t_images t_imageSizes t_fed t_at t_rowSize t_steps t_foundMany t_keptMany t_keptLetters t_made t_wanted t_isFull t_isSaved t_savedKind t_savedExponent t_savedLetters) H → va_D A (pX11_solves cy h t_kind t_exponent t_letters t_images t_imageSizes t_fed t_at t_rowSize t_steps t_foundMany t_keptMany t_keptLetters t_made t_wanted t_isFull t_isSaved t_savedKind t_savedExponent t_savedLetters) → va_S A s.heap H locs → lv_has ls 6 [(0, .ref (h 0)), (1, .long p1), (3, .int x3)] → W p l e rX11_solves s m args below meth c H locs 0 0 (MQ below (va_Qi (fun (r : Int32) (u : (Nat → Int32)) => post r u) (fun (u : (Nat → Int32)) (t : State) => va_P (dC, dI) vwCl (pX11_solves cy h t_kind t_exponent t_letters t_images t_imageSizes t_fed t_at t_rowSize t_steps t_foundMany t_keptMany t_keptLetters u t_wanted t_isFull t_isSaved t_savedKind t_savedExponent t_savedLetters) t.heap) A) args s 0 0 A) (F0 m 2 ls []) := by
  have C1 := C0
  obtain ⟨hx, hb, hr, hml, hown, hts, hlocks, hK, hA⟩ := C1
  intro n
  induction n with
  | zero => intro t_made x3 hv; exact hv.elim
  | succ n ih =>
    intro t_made x3 hv H locs ls hP hD hS hl
    refine lv_iload_n hx hb dX11_solves_2 rfl (lv_at hl 2 rfl) ?_
    refine lv_aload_n hx hb dX11_solves_3 rfl (lv_at hl 0 rfl) ?_
    refine va_get (D := (dC, dI)) (ci := 11) (v := .int t_letters) (C := RX11) (T := TX11) (N := 36) hx hb hts nX11_solves_X11 hown hK hP 0 rfl rfl 2 (by decide) (hts _ mX11_solves_1) (fun _ h9 => h9) rfl dX11_solves_4 ?_
    refine lv_icmp_ge (tgt := 63) hx hb dX11_solves_7 (by decide) (fun c_11 => ?_) (fun c_11 => ?_)
    · have hv := hv.1 c_11
      refine lv_iconst (v := 1) hx hb dX11_solves_63 (by decide) ?_
      exact W.zret (v := 1) hx hb hr rfl (fun t ht hW => ⟨⟨1, (t_made), rfl, hv, va_Ph ht hP⟩, hS.F ht⟩) hS.2.2 dX11_solves_64
    · have hv := hv.2 c_11
      refine lv_aload_n hx hb dX11_solves_10 rfl (lv_at hl 0 rfl) ?_
      refine lv_iload_n hx hb dX11_solves_11 rfl (lv_at hl 2 rfl) ?_
      refine lv_iconst (v := 0) hx hb dX11_solves_12 (by decide) ?_
      refine lv_iconst (v := 0) hx hb dX11_solves_13 (by decide) ?_
      refine cb_VL (As := [.int x3, .int 0, .int 0]) (rest := []) ⟨hx, hb, hml, hown, hts⟩ (kX11_replaced l dC dI cy (adl [h 0, h 1, h 2, h 4, h 5, h 6, h 7, h 8, h 9, h 10, h 11, h 3, h 12, h 13, h 14, h 15, h 16, h 17, h 18, h 19, h 20, h 21]) t_kind t_exponent t_letters t_images t_imageSizes t_fed t_at t_rowSize t_steps t_foundMany t_keptMany t_keptLetters t_wanted t_isFull t_isSaved t_savedKind t_savedExponent t_savedLetters 8 x3 0 0 _ hv) (cwV 3 hts gX11_solves_X11_replaced rfl rfl rfl zX11_replaced ⟨Nat.le_of_ble_eq_true rfl, Nat.le_of_ble_eq_true rfl⟩) hK hP hD hS hA [0, 1, 2, 4] [some 0, some 1, some 2, none, some 3] rfl rfl rfl (ci := 11) rfl rfl (fun _ => rfl) rfl hl.1 rfl (Nat.le_of_ble_eq_true rfl) dX11_solves_14 (fun r_2 w_10 H locs hv hP hD hS => ?_)
      have hP : va_P (dC, dI) vwCl (pX11_solves cy h t_kind t_exponent t_letters t_images t_imageSizes t_fed t_at t_rowSize t_steps t_foundMany t_keptMany t_keptLetters t_made t_wanted t_isFull t_isSaved t_savedKind t_savedExponent t_savedLetters) H := hP
      have hD : va_D A (pX11_solves cy h t_kind t_exponent t_letters t_images t_imageSizes t_fed t_at t_rowSize t_steps t_foundMany t_keptMany t_keptLetters t_made t_wanted t_isFull t_isSaved t_savedKind t_savedExponent t_savedLetters) := hD
      refine lv_lstore (lv' := [(4, .long r_2), (0, .ref (h 0)), (1, .long p1), (3, .int x3)]) hx hb dX11_solves_17 hl (by decide) rfl (fun ls hl => ?_)
      refine lv_lload hx hb dX11_solves_19 (lv_at hl 0 rfl) ?_
      refine lv_lload_n hx hb dX11_solves_21 rfl (lv_at hl 2 rfl) ?_
      have hz_3 := hv.1
      have hv := hv.2
      refine lv_lrem hx hb dX11_solves_22 hz_3 ?_
      refine lv_lconst (v := 0) hx hb dX11_solves_23 (by decide) ?_
      refine W.lcmp hx hb dX11_solves_24 ?_
      refine lv_if_ne (tgt := 42) hx hb dX11_solves_25 (by decide) (fun c_9 => ?_) (fun c_9 => ?_)
      · have hv := hv.1 c_9
        refine lv_iconst (v := 0) hx hb dX11_solves_42 (by decide) ?_
        exact W.zret (v := 0) hx hb hr rfl (fun t ht hW => ⟨⟨0, (t_made), rfl, hv, va_Ph ht hP⟩, hS.F ht⟩) hS.2.2 dX11_solves_43
      · have hv := hv.2 c_9
        refine lv_lload hx hb dX11_solves_28 (lv_at hl 0 rfl) ?_
        refine lv_lload_n hx hb dX11_solves_30 rfl (lv_at hl 2 rfl) ?_
        have hz_4 := hv.1
        have hv := hv.2
        refine lv_ldiv hx hb dX11_solves_31 hz_4 ?_
        refine va_mabs_long hx hb (hml.trans hl.1.symm) hown (hts _ mX11_solves_2) (hts _ mX11_solves_3) (hts _ mX11_solves_4) (hts _ mX11_solves_5) (Nat.le_of_ble_eq_true rfl) (Nat.le_of_ble_eq_true rfl) (Nat.zero_le _) (Nat.zero_le _) dX11_solves_32 ?_
        refine lv_topl (fun y_5 ey_5 => ?_)
        have hv := hv y_5 ey_5
        refine lv_ldc2 hx hb hown (hts _ mX11_solves_6) dX11_solves_35 ?_
        refine W.lcmp hx hb dX11_solves_38 ?_
        refine lv_if_le (tgt := 44) hx hb dX11_solves_39 (by decide) (fun c_8 => ?_) (fun c_8 => ?_)
        · have hv := hv.1 c_8
          refine lv_aload_n hx hb dX11_solves_44 rfl (lv_at hl 1 rfl) ?_
          refine va_get (D := (dC, dI)) (ci := 11) (v := .ref (h 3)) (C := RX11) (T := TX11) (N := 36) hx hb hts nX11_solves_X11 hown hK hP 0 rfl rfl 19 (by decide) (hts _ mX11_solves_7) (fun _ h9 => h9) rfl dX11_solves_45 ?_
          refine lv_iconst (v := 3) hx hb dX11_solves_48 (by decide) ?_
          refine lv_iload_n hx hb dX11_solves_49 rfl (lv_at hl 3 rfl) ?_
          refine lv_iadd hx hb dX11_solves_50 ?_
          refine lv_lload hx hb dX11_solves_51 (lv_at hl 0 rfl) ?_
          refine lv_lload_n hx hb dX11_solves_53 rfl (lv_at hl 2 rfl) ?_
          have hz_6 := hv.1
          have hv := hv.2
          refine lv_ldiv hx hb dX11_solves_54 hz_6 ?_
          refine lv_l2i (v := (r_2 / p1).toInt32) hx hb dX11_solves_55 rfl ?_
          have h_7 := hv.1
          have hv := hv.2
          refine va_iast hx hb hK hP hD hS 3 0 rfl rfl h_7 dX11_solves_56 (fun H locs hP hD hS => ?_)
          have hP : va_P (dC, dI) vwCl (pX11_solves cy h t_kind t_exponent t_letters t_images t_imageSizes t_fed t_at t_rowSize t_steps t_foundMany t_keptMany t_keptLetters (upd t_made ((3 : Int32) + x3).toNatClampNeg ((r_2 / p1).toInt32)) t_wanted t_isFull t_isSaved t_savedKind t_savedExponent t_savedLetters) H := hP
          have hD : va_D A (pX11_solves cy h t_kind t_exponent t_letters t_images t_imageSizes t_fed t_at t_rowSize t_steps t_foundMany t_keptMany t_keptLetters (upd t_made ((3 : Int32) + x3).toNatClampNeg ((r_2 / p1).toInt32)) t_wanted t_isFull t_isSaved t_savedKind t_savedExponent t_savedLetters) := hD
          refine lv_iinc (v := (x3 + 1)) (lv' := [(3, .int ((x3 + 1))), (4, .long r_2), (0, .ref (h 0)), (1, .long p1)]) hx hb dX11_solves_57 hl (k := 3) rfl rfl (by decide) rfl (fun ls hl => ?_)
          refine lv_goto (tgt := 2) hx hb dX11_solves_60 (by decide) ?_
          exact ih (upd t_made ((3 : Int32) + x3).toNatClampNeg ((r_2 / p1).toInt32)) (x3 + 1) hv _ _ _ hP hD hS (lv_sub hl [2, 3, 0] rfl)
        · have hv := hv.2 c_8
          refine lv_iconst (v := 0) hx hb dX11_solves_42 (by decide) ?_
          exact W.zret (v := 0) hx hb hr rfl (fun t ht hW => ⟨⟨0, (t_made), rfl, hv, va_Ph ht hP⟩, hS.F ht⟩) hS.2.2 dX11_solves_43
set_option maxHeartbeats 4000000 in
set_option maxRecDepth 100000 in
theorem wX11_solves_0 {p : Program} (l : Launch) {e : Env} {s : State} {m : MethodId} {args : Array Value} {below : List Frame} {meth : Method} {c : Code} {dC : Nat → ClassId} {dI : Nat → Nat → Nat} {cy : Nat → ClassId} {A : Nat → Prop} (h : Nat → Nat) (post : Int32 → (Nat → Int32) → Prop)   (t_kind : Int32) (t_exponent : Int32) (t_letters : Int32) (t_images : Nat → Int32) (t_imageSizes : Nat → Int32) (t_fed : Int32) (t_at : Int32) (t_rowSize : Int32) (t_steps : Int32) (t_foundMany : Int32) (t_keptMany : Int32) (t_keptLetters : Int32) (t_wanted : Nat → Int32) (t_isFull : Int32) (t_isSaved : Int32) (t_savedKind : Int32) (t_savedExponent : Int32) (t_savedLetters : Int32) (p1 : Int64) (C0 : cx p s m args meth c cX11_solves 6 (some .boolean) wsX11_solves RX11 dC dI cy A)  : ∀ (t_made : Nat → Int32), VX11_solves post t_letters t_images t_imageSizes t_wanted p1 t_made → ∀ (H : Heap) (locs : List Loc) (ls : Array Slot), va_P (dC, dI) vwCl (pX11_solves cy h t_kind t_exponent t_letters t_images t_imageSizes t_fed t_at t_rowSize t_steps t_foundMany t_keptMany t_keptLetters t_made t_wanted t_isFull t_isSaved t_savedKind t_savedExponent t_savedLetters) H → va_D A (pX11_solves cy h t_kind t_exponent t_letters t_images t_imageSizes t_fed t_at t_rowSize t_steps t_foundMany t_keptMany t_keptLetters t_made t_wanted t_isFull t_isSaved t_savedKind t_savedExponent t_savedLetters) → va_S A s.heap H locs → lv_has ls 6 [(0, .ref (h 0)), (1, .long p1)] → W p l e rX11_solves s m args below meth c H locs 0 0 (MQ below (va_Qi (fun (r : Int32) (u : (Nat → Int32)) => post r u) (fun (u : (Nat → Int32)) (t : State) => va_P (dC, dI) vwCl (pX11_solves cy h t_kind t_exponent t_letters t_images t_imageSizes t_fed t_at t_rowSize t_steps t_foundMany t_keptMany t_keptLetters u t_wanted t_isFull t_isSaved t_savedKind t_savedExponent t_savedLetters) t.heap) A) args s 0 0 A) (F0 m 0 ls []) := by
  have C1 := C0
  obtain ⟨hx, hb, hr, hml, hown, hts, hlocks, hK, hA⟩ := C1
  intro t_made hv H locs ls hP hD hS hl
  refine lv_iconst (v := 0) hx hb dX11_solves_0 (by decide) ?_
  refine lv_istore_n (lv' := [(3, .int 0), (0, .ref (h 0)), (1, .long p1)]) hx hb dX11_solves_1 rfl hl (by decide) rfl (fun ls hl => ?_)
  obtain ⟨n_1, hv⟩ := hv
  exact wX11_solves_2 l h post  t_kind t_exponent t_letters t_images t_imageSizes t_fed t_at t_rowSize t_steps t_foundMany t_keptMany t_keptLetters t_wanted t_isFull t_isSaved t_savedKind t_savedExponent t_savedLetters p1 C0 n_1 t_made 0 hv _ _ _ hP hD hS (lv_sub hl [1, 2, 0] rfl)
theorem kX11_solves (l : Launch) (dC : Nat → ClassId) (dI : Nat → Nat → Nat) (cy : Nat → ClassId) (h : Nat → Nat) (t_kind : Int32) (t_exponent : Int32) (t_letters : Int32) (t_images : Nat → Int32) (t_imageSizes : Nat → Int32) (t_fed : Int32) (t_at : Int32) (t_rowSize : Int32) (t_steps : Int32) (t_foundMany : Int32) (t_keptMany : Int32) (t_keptLetters : Int32) (t_made : Nat → Int32) (t_wanted : Nat → Int32) (t_isFull : Int32) (t_isSaved : Int32) (t_savedKind : Int32) (t_savedExponent : Int32) (t_savedLetters : Int32) (p1 : Int64) (post : Int32 → (Nat → Int32) → Prop) (hv : VX11_solves post t_letters t_images t_imageSizes t_wanted p1 t_made) : CtI l yX11_solves wsX11_solves rX11_solves dC dI cy [.ref (h 0), .long p1] (pX11_solves cy h t_kind t_exponent t_letters t_images t_imageSizes t_fed t_at t_rowSize t_steps t_foundMany t_keptMany t_keptLetters t_made t_wanted t_isFull t_isSaved t_savedKind t_savedExponent t_savedLetters) (fun (u : (Nat → Int32)) => pX11_solves cy h t_kind t_exponent t_letters t_images t_imageSizes t_fed t_at t_rowSize t_steps t_foundMany t_keptMany t_keptLetters u t_wanted t_isFull t_isSaved t_savedKind t_savedExponent t_savedLetters) (fun (r : Int32) (u : (Nat → Int32)) => post r u) :=
  ct_ofI (by decide) rfl (Nat.le_of_ble_eq_true rfl) (fun p e s m below meth c A ls C0 hP hD hS hl => wX11_solves_0 l h post t_kind t_exponent t_letters t_images t_imageSizes t_fed t_at t_rowSize t_steps t_foundMany t_keptMany t_keptLetters t_wanted t_isFull t_isSaved t_savedKind t_savedExponent t_savedLetters p1 C0 t_made hv _ _ _ hP hD hS hl)
theorem mX11_findParent_1 : (Cond.fieldLink RX11 16 "AbelianPowersModel" "letters" "I") ∈ wsX11_findParent := List.mem_of_getElem? (i := 1) rfl
theorem mX11_findParent_2 : (Cond.fieldLink RX11 53 "AbelianPowersModel" "wanted" "[I") ∈ wsX11_findParent := List.mem_of_getElem? (i := 2) rfl
theorem mX11_findParent_3 : (Cond.fieldLink RX11 60 "AbelianPowersModel" "child" "[I") ∈ wsX11_findParent := List.mem_of_getElem? (i := 3) rfl
theorem mX11_findParent_4 : (Cond.fieldLink RX11 47 "AbelianPowersModel" "made" "[I") ∈ wsX11_findParent := List.mem_of_getElem? (i := 4) rfl
theorem mX11_findParent_5 : (Cond.fieldLink RX11 198 "AbelianPowersModel" "foundMany" "I") ∈ wsX11_findParent := List.mem_of_getElem? (i := 5) rfl
theorem mX11_findParent_6 : (Cond.methodLink RX11 245 Lib.Math.min.name) ∈ wsX11_findParent := List.mem_of_getElem? (i := 6) rfl
theorem mX11_findParent_7 : (Cond.static Lib.Math.min.name) ∈ wsX11_findParent := List.mem_of_getElem? (i := 7) rfl
theorem mX11_findParent_8 : (Cond.initialized "java/lang/Math") ∈ wsX11_findParent := List.mem_of_getElem? (i := 8) rfl
theorem mX11_findParent_9 : (Cond.code Lib.Math.min.name Lib.Math.min.code 2 (some .int)) ∈ wsX11_findParent := List.mem_of_getElem? (i := 9) rfl
theorem mX11_findParent_10 : (Cond.fieldLink RX11 56 "AbelianPowersModel" "isDone" "[Z") ∈ wsX11_findParent := List.mem_of_getElem? (i := 10) rfl
theorem mX11_findParent_11 : (Cond.fieldLink RX11 220 "AbelianPowersModel" "isFull" "Z") ∈ wsX11_findParent := List.mem_of_getElem? (i := 11) rfl
theorem nX11_findParent_X11 : ∀ w ∈ wsX110, w ∈ wsX11_findParent := fun _ h => List.mem_cons_of_mem _ (List.mem_append_right _ h)
theorem zX11_findParent : yX11_findParent.cls = RX11 ∧ yX11_findParent.cls ≠ "java/lang/invoke/MethodHandle" ∧ yX11_findParent.cls ≠ "java/lang/invoke/VarHandle" ∧ (parseMethodDescriptor yX11_findParent.desc).map (fun d => d.parameters.length) = some 1 := by decide +kernel
abbrev rX11_findParent : Room := { frames := 11, cells := 0, slots := 0, locals := 301 }
abbrev pX11_findParent (cy : Nat → ClassId) (h : Nat → Nat) (t_kind : Int32) (t_exponent : Int32) (t_letters : Int32) (t_images : Nat → Int32) (t_imageSizes : Nat → Int32) (t_fed : Int32) (t_at : Int32) (t_rowSize : Int32) (t_steps : Int32) (t_found : Nat → Int32) (t_foundMany : Int32) (t_keptMany : Int32) (t_keptLetters : Int32) (t_made : Nat → Int32) (t_cutAt : Nat → Int32) (t_wanted : Nat → Int32) (t_isDone : Nat → Int32) (t_child : Nat → Int32) (t_isFull : Int32) (t_isSaved : Int32) (t_savedKind : Int32) (t_savedExponent : Int32) (t_savedLetters : Int32) : va_W := [(h 0, .inr (11, [.int t_kind, .int t_exponent, .int t_letters, .ref (h 9), .ref (h 10), .ref (h 11), .ref (h 1), .ref (h 2), .ref (h 12), .int t_fed, .int t_at, .ref (h 13), .int t_rowSize, .int t_steps, .ref (h 3), .int t_foundMany, .ref (h 14), .int t_keptMany, .int t_keptLetters, .ref (h 4), .ref (h 5), .ref (h 6), .ref (h 7), .ref (h 8), .int t_isFull, .ref (h 15), .ref (h 16), .int t_isSaved, .int t_savedKind, .int t_savedExponent, .int t_savedLetters, .ref (h 17), .ref (h 18), .ref (h 19), .ref (h 20), .ref (h 21)])), (h 1, .inl (cy 0, 16, .inl t_images)), (h 2, .inl (cy 0, 4, .inl t_imageSizes)), (h 3, .inl (cy 0, 1407, .inl t_found)), (h 4, .inl (cy 0, 7, .inl t_made)), (h 5, .inl (cy 0, 3, .inl t_cutAt)), (h 6, .inl (cy 0, 4, .inl t_wanted)), (h 7, .inl (cy 2, 201, .inl t_isDone)), (h 8, .inl (cy 0, 7, .inl t_child))]
def VX11_findParent_150 (post : (Nat → Int32) → Int32 → (Nat → Int32) → (Nat → Int32) → (Nat → Int32) → Int32 → Prop)  (t_letters : Int32) (t_images : Nat → Int32) (t_imageSizes : Nat → Int32) (t_cutAt : Nat → Int32) (t_child : Nat → Int32) (p1 : Int64) (t_found : Nat → Int32) (t_foundMany : Int32) (t_made : Nat → Int32) (t_wanted : Nat → Int32) (t_isDone : Nat → Int32) (t_isFull : Int32) (x3 : Int32) : Prop := vp_in x3 201 ∧ (((t_foundMany ≤ 200) → post t_found t_foundMany t_made t_wanted (upd t_isDone x3.toNatClampNeg (vp_nar .boolean (0 : Int32))) 0) ∧ (¬ (t_foundMany ≤ 200) → post t_found t_foundMany t_made t_wanted (upd t_isDone x3.toNatClampNeg (vp_nar .boolean (0 : Int32))) 1))
def VX11_findParent_122 (post : (Nat → Int32) → Int32 → (Nat → Int32) → (Nat → Int32) → (Nat → Int32) → Int32 → Prop)  (t_letters : Int32) (t_images : Nat → Int32) (t_imageSizes : Nat → Int32) (t_cutAt : Nat → Int32) (t_child : Nat → Int32) (p1 : Int64) : Nat → (Nat → Int32) → Int32 → (Nat → Int32) → (Nat → Int32) → (Nat → Int32) → Int32 → Int32 → Int32 → Prop
  | 0, _, _, _, _, _, _, _, _ => False
  | n + 1, t_found, t_foundMany, t_made, t_wanted, t_isDone, t_isFull, x3, x4 => ((x4 ≤ x3) → VX11_findParent_150 post t_letters t_images t_imageSizes t_cutAt t_child p1 t_found t_foundMany t_made t_wanted t_isDone t_isFull x3) ∧ (¬ (x4 ≤ x3) → vp_in (x4 - 1) 201 ∧ (∀ y_33 : Int32, y_33 = (t_isDone (x4 - 1).toNatClampNeg) → vp_in x4 201 ∧ (VX11_findParent_122 post t_letters t_images t_imageSizes t_cutAt t_child p1 n t_found t_foundMany t_made t_wanted (upd t_isDone x4.toNatClampNeg (vp_nar .boolean y_33)) t_isFull x3 (x4 + (-1)))))
def VX11_findParent_91 (post : (Nat → Int32) → Int32 → (Nat → Int32) → (Nat → Int32) → (Nat → Int32) → Int32 → Prop)  (t_letters : Int32) (t_images : Nat → Int32) (t_imageSizes : Nat → Int32) (t_cutAt : Nat → Int32) (t_child : Nat → Int32) (p1 : Int64) (t_found : Nat → Int32) (t_foundMany : Int32) (t_made : Nat → Int32) (t_wanted : Nat → Int32) (t_isDone : Nat → Int32) (t_isFull : Int32) : Prop := VX11_solves (fun r_22 u_23 => ((r_22 = 0) → post t_found t_foundMany u_23 t_wanted t_isDone t_isFull) ∧ (¬ (r_22 = 0) → VX11_enter (fun r_24 u_25 u_26 => ((r_24 = (-2)) → post u_25 u_26 u_23 t_wanted t_isDone t_isFull) ∧ (¬ (r_24 = (-2)) → ∀ y_27 : Int32, y_27 = (if (200 : Int32) < u_26 then 200 else u_26) → ∃ n122 : Nat, VX11_findParent_122 post t_letters t_images t_imageSizes t_cutAt t_child p1 n122 u_25 u_26 u_23 t_wanted t_isDone t_isFull r_24 y_27)) u_23 t_found t_foundMany)) t_letters t_images t_imageSizes t_wanted p1 t_made
def VX11_findParent_72 (post : (Nat → Int32) → Int32 → (Nat → Int32) → (Nat → Int32) → (Nat → Int32) → Int32 → Prop)  (t_letters : Int32) (t_images : Nat → Int32) (t_imageSizes : Nat → Int32) (t_cutAt : Nat → Int32) (t_child : Nat → Int32) (p1 : Int64) : Nat → (Nat → Int32) → Int32 → (Nat → Int32) → (Nat → Int32) → (Nat → Int32) → Int32 → Int32 → Prop
  | 0, _, _, _, _, _, _, _ => False
  | n + 1, t_found, t_foundMany, t_made, t_wanted, t_isDone, t_isFull, x3 => ((7 ≤ x3) → VX11_findParent_91 post t_letters t_images t_imageSizes t_cutAt t_child p1 t_found t_foundMany t_made t_wanted t_isDone t_isFull) ∧ (¬ (7 ≤ x3) → vp_in x3 7 ∧ (VX11_findParent_72 post t_letters t_images t_imageSizes t_cutAt t_child p1 n t_found t_foundMany (upd t_made x3.toNatClampNeg 0) t_wanted t_isDone t_isFull (x3 + 1)))
def VX11_findParent_2 (post : (Nat → Int32) → Int32 → (Nat → Int32) → (Nat → Int32) → (Nat → Int32) → Int32 → Prop)  (t_letters : Int32) (t_images : Nat → Int32) (t_imageSizes : Nat → Int32) (t_cutAt : Nat → Int32) (t_child : Nat → Int32) (p1 : Int64) : Nat → (Nat → Int32) → Int32 → (Nat → Int32) → (Nat → Int32) → (Nat → Int32) → Int32 → Int32 → Prop
  | 0, _, _, _, _, _, _, _ => False
  | n + 1, t_found, t_foundMany, t_made, t_wanted, t_isDone, t_isFull, x3 => ((t_letters ≤ x3) → ∃ n72 : Nat, VX11_findParent_72 post t_letters t_images t_imageSizes t_cutAt t_child p1 n72 t_found t_foundMany t_made t_wanted t_isDone t_isFull 3) ∧ (¬ (t_letters ≤ x3) → vp_in ((3 : Int32) + x3) 7 ∧ (∀ y_3 : Int32, y_3 = (t_child ((3 : Int32) + x3).toNatClampNeg) → vp_in (1 : Int32) 7 ∧ (∀ y_5 : Int32, y_5 = (t_child (1 : Int32).toNatClampNeg) → VX11_behind (fun r_7 => VX11_before (fun r_8 => vp_in (0 : Int32) 7 ∧ (∀ y_9 : Int32, y_9 = (t_child (0 : Int32).toNatClampNeg) → VX11_behind (fun r_11 => VX11_before (fun r_12 => ∀ y_13 : Int32, y_13 = ((((y_3 - r_7) - r_8) + r_11) + r_12) → vp_in x3 4 ∧ (VX11_findParent_2 post t_letters t_images t_imageSizes t_cutAt t_child p1 n t_found t_foundMany t_made (upd t_wanted x3.toNatClampNeg y_13) t_isDone t_isFull (x3 + 1))) t_images t_made t_cutAt 1 x3) t_images t_imageSizes t_made t_cutAt 0 y_9 x3)) t_images t_made t_cutAt 2 x3) t_images t_imageSizes t_made t_cutAt 1 y_5 x3)))
def VX11_findParent (post : (Nat → Int32) → Int32 → (Nat → Int32) → (Nat → Int32) → (Nat → Int32) → Int32 → Prop)  (t_letters : Int32) (t_images : Nat → Int32) (t_imageSizes : Nat → Int32) (t_cutAt : Nat → Int32) (t_child : Nat → Int32) (p1 : Int64) (t_found : Nat → Int32) (t_foundMany : Int32) (t_made : Nat → Int32) (t_wanted : Nat → Int32) (t_isDone : Nat → Int32) (t_isFull : Int32) : Prop := ∃ n2 : Nat, VX11_findParent_2 post t_letters t_images t_imageSizes t_cutAt t_child p1 n2 t_found t_foundMany t_made t_wanted t_isDone t_isFull 0
set_option maxHeartbeats 4000000 in
set_option maxRecDepth 100000 in
theorem wX11_findParent_150 {p : Program} (l : Launch) {e : Env} {s : State} {m : MethodId} {args : Array Value} {below : List Frame} {meth : Method} {c : Code} {dC : Nat → ClassId} {dI : Nat → Nat → Nat} {cy : Nat → ClassId} {A : Nat → Prop} (h : Nat → Nat) (post : (Nat → Int32) → Int32 → (Nat → Int32) → (Nat → Int32) → (Nat → Int32) → Int32 → Prop)   (t_kind : Int32) (t_exponent : Int32) (t_letters : Int32) (t_images : Nat → Int32) (t_imageSizes : Nat → Int32) (t_fed : Int32) (t_at : Int32) (t_rowSize : Int32) (t_steps : Int32) (t_keptMany : Int32) (t_keptLetters : Int32) (t_cutAt : Nat → Int32) (t_child : Nat → Int32) (t_isSaved : Int32) (t_savedKind : Int32) (t_savedExponent : Int32) (t_savedLetters : Int32) (p1 : Int64) (C0 : cx p s m args meth c cX11_findParent 5 none wsX11_findParent RX11 dC dI cy A)  : ∀ (t_found : Nat → Int32) (t_foundMany : Int32) (t_made : Nat → Int32) (t_wanted : Nat → Int32) (t_isDone : Nat → Int32) (t_isFull : Int32) (x3 : Int32), VX11_findParent_150 post t_letters t_images t_imageSizes t_cutAt t_child p1 t_found t_foundMany t_made t_wanted t_isDone t_isFull x3 → ∀ (H : Heap) (locs : List Loc) (ls : Array Slot), va_P (dC, dI) vwCl (pX11_findParent cy h t_kind t_exponent t_letters t_images t_imageSizes t_fed t_at t_rowSize t_steps t_found t_foundMany t_keptMany t_keptLetters t_made t_cutAt t_wanted t_isDone t_child t_isFull t_isSaved t_savedKind t_savedExponent t_savedLetters) H → va_D A (pX11_findParent cy h t_kind t_exponent t_letters t_images t_imageSizes t_fed t_at t_rowSize t_steps t_found t_foundMany t_keptMany t_keptLetters t_made t_cutAt t_wanted t_isDone t_child t_isFull t_isSaved t_savedKind t_savedExponent t_savedLetters) → va_S A s.heap H locs → lv_has ls 5 [(0, .ref (h 0)), (3, .int x3)] → W p l e rX11_findParent s m args below meth c H locs 0 0 (MQ below (va_Qv (fun (u : (Nat → Int32) × Int32 × (Nat → Int32) × (Nat → Int32) × (Nat → Int32) × Int32) => post u.1 u.2.1 u.2.2.1 u.2.2.2.1 u.2.2.2.2.1 u.2.2.2.2.2) (fun (u : (Nat → Int32) × Int32 × (Nat → Int32) × (Nat → Int32) × (Nat → Int32) × Int32) (t : State) => va_P (dC, dI) vwCl (pX11_findParent cy h t_kind t_exponent t_letters t_images t_imageSizes t_fed t_at t_rowSize t_steps u.1 u.2.1 t_keptMany t_keptLetters u.2.2.1 t_cutAt u.2.2.2.1 u.2.2.2.2.1 t_child u.2.2.2.2.2 t_isSaved t_savedKind t_savedExponent t_savedLetters) t.heap) A) args s 0 0 A) (F0 m 150 ls []) := by
  have C1 := C0
  obtain ⟨hx, hb, hr, hml, hown, hts, hlocks, hK, hA⟩ := C1
  intro t_found t_foundMany t_made t_wanted t_isDone t_isFull x3 hv H locs ls hP hD hS hl
  refine lv_aload_n hx hb dX11_findParent_150 rfl (lv_at hl 0 rfl) ?_
  refine va_get (D := (dC, dI)) (ci := 11) (v := .ref (h 7)) (C := RX11) (T := TX11) (N := 36) hx hb hts nX11_findParent_X11 hown hK hP 0 rfl rfl 22 (by decide) (hts _ mX11_findParent_10) (fun _ h9 => h9) rfl dX11_findParent_151 ?_
  refine lv_iload_n hx hb dX11_findParent_154 rfl (lv_at hl 1 rfl) ?_
  refine lv_iconst (v := 0) hx hb dX11_findParent_155 (by decide) ?_
  have h_37 := hv.1
  have hv := hv.2
  refine va_zast hx hb hK hP hD hS 7 2 rfl rfl h_37 dX11_findParent_156 (fun H locs hP hD hS => ?_)
  have hP : va_P (dC, dI) vwCl (pX11_findParent cy h t_kind t_exponent t_letters t_images t_imageSizes t_fed t_at t_rowSize t_steps t_found t_foundMany t_keptMany t_keptLetters t_made t_cutAt t_wanted (upd t_isDone x3.toNatClampNeg (vp_nar .boolean (0 : Int32))) t_child t_isFull t_isSaved t_savedKind t_savedExponent t_savedLetters) H := hP
  have hD : va_D A (pX11_findParent cy h t_kind t_exponent t_letters t_images t_imageSizes t_fed t_at t_rowSize t_steps t_found t_foundMany t_keptMany t_keptLetters t_made t_cutAt t_wanted (upd t_isDone x3.toNatClampNeg (vp_nar .boolean (0 : Int32))) t_child t_isFull t_isSaved t_savedKind t_savedExponent t_savedLetters) := hD
  refine lv_aload_n hx hb dX11_findParent_157 rfl (lv_at hl 0 rfl) ?_
  refine lv_aload_n hx hb dX11_findParent_158 rfl (lv_at hl 0 rfl) ?_
  refine va_get (D := (dC, dI)) (ci := 11) (v := .int t_foundMany) (C := RX11) (T := TX11) (N := 36) hx hb hts nX11_findParent_X11 hown hK hP 0 rfl rfl 15 (by decide) (hts _ mX11_findParent_5) (fun _ h9 => h9) rfl dX11_findParent_159 ?_
  refine lv_sipush (v := 200) hx hb dX11_findParent_162 (by decide) ?_
  refine lv_icmp_le (tgt := 172) hx hb dX11_findParent_165 (by decide) (fun c_38 => ?_) (fun c_38 => ?_)
  · have hv := hv.1 c_38
    refine lv_iconst (v := 0) hx hb dX11_findParent_172 (by decide) ?_
    refine va_put (D := (dC, dI)) (ci := 11) (v := .int 0) (ty := .boolean) (C := RX11) (T := TX11) (N := 36) hx hb hts nX11_findParent_X11 tyX11 tyX11_ok nmX11 hown hK hP hD hS 0 rfl rfl 24 (by decide) (hts _ mX11_findParent_11) (fun _ h9 => h9) rfl (by decide +kernel) rfl rfl (Nat.le_of_ble_eq_true rfl) dX11_findParent_173 (fun H locs hP hD hS => ?_)
    have hP : va_P (dC, dI) vwCl (pX11_findParent cy h t_kind t_exponent t_letters t_images t_imageSizes t_fed t_at t_rowSize t_steps t_found t_foundMany t_keptMany t_keptLetters t_made t_cutAt t_wanted (upd t_isDone x3.toNatClampNeg (vp_nar .boolean (0 : Int32))) t_child 0 t_isSaved t_savedKind t_savedExponent t_savedLetters) H := hP
    have hD : va_D A (pX11_findParent cy h t_kind t_exponent t_letters t_images t_imageSizes t_fed t_at t_rowSize t_steps t_found t_foundMany t_keptMany t_keptLetters t_made t_cutAt t_wanted (upd t_isDone x3.toNatClampNeg (vp_nar .boolean (0 : Int32))) t_child 0 t_isSaved t_savedKind t_savedExponent t_savedLetters) := hD
    exact W.vret hx hb hr (fun t ht hW => ⟨⟨(t_found, t_foundMany, t_made, t_wanted, (upd t_isDone x3.toNatClampNeg (vp_nar .boolean (0 : Int32))), 0), rfl, hv, va_Ph ht hP⟩, hS.F ht⟩) hS.2.2 dX11_findParent_176
  · have hv := hv.2 c_38
    refine lv_iconst (v := 1) hx hb dX11_findParent_168 (by decide) ?_
    refine lv_goto (tgt := 173) hx hb dX11_findParent_169 (by decide) ?_
    refine va_put (D := (dC, dI)) (ci := 11) (v := .int 1) (ty := .boolean) (C := RX11) (T := TX11) (N := 36) hx hb hts nX11_findParent_X11 tyX11 tyX11_ok nmX11 hown hK hP hD hS 0 rfl rfl 24 (by decide) (hts _ mX11_findParent_11) (fun _ h9 => h9) rfl (by decide +kernel) rfl rfl (Nat.le_of_ble_eq_true rfl) dX11_findParent_173 (fun H locs hP hD hS => ?_)
    have hP : va_P (dC, dI) vwCl (pX11_findParent cy h t_kind t_exponent t_letters t_images t_imageSizes t_fed t_at t_rowSize t_steps t_found t_foundMany t_keptMany t_keptLetters t_made t_cutAt t_wanted (upd t_isDone x3.toNatClampNeg (vp_nar .boolean (0 : Int32))) t_child 1 t_isSaved t_savedKind t_savedExponent t_savedLetters) H := hP
    have hD : va_D A (pX11_findParent cy h t_kind t_exponent t_letters t_images t_imageSizes t_fed t_at t_rowSize t_steps t_found t_foundMany t_keptMany t_keptLetters t_made t_cutAt t_wanted (upd t_isDone x3.toNatClampNeg (vp_nar .boolean (0 : Int32))) t_child 1 t_isSaved t_savedKind t_savedExponent t_savedLetters) := hD
    exact W.vret hx hb hr (fun t ht hW => ⟨⟨(t_found, t_foundMany, t_made, t_wanted, (upd t_isDone x3.toNatClampNeg (vp_nar .boolean (0 : Int32))), 1), rfl, hv, va_Ph ht hP⟩, hS.F ht⟩) hS.2.2 dX11_findParent_176
set_option maxHeartbeats 4000000 in
set_option maxRecDepth 100000 in
theorem wX11_findParent_122 {p : Program} (l : Launch) {e : Env} {s : State} {m : MethodId} {args : Array Value} {below : List Frame} {meth : Method} {c : Code} {dC : Nat → ClassId} {dI : Nat → Nat → Nat} {cy : Nat → ClassId} {A : Nat → Prop} (h : Nat → Nat) (post : (Nat → Int32) → Int32 → (Nat → Int32) → (Nat → Int32) → (Nat → Int32) → Int32 → Prop)   (t_kind : Int32) (t_exponent : Int32) (t_letters : Int32) (t_images : Nat → Int32) (t_imageSizes : Nat → Int32) (t_fed : Int32) (t_at : Int32) (t_rowSize : Int32) (t_steps : Int32) (t_keptMany : Int32) (t_keptLetters : Int32) (t_cutAt : Nat → Int32) (t_child : Nat → Int32) (t_isSaved : Int32) (t_savedKind : Int32) (t_savedExponent : Int32) (t_savedLetters : Int32) (p1 : Int64) (C0 : cx p s m args meth c cX11_findParent 5 none wsX11_findParent RX11 dC dI cy A)  : ∀ (n : Nat) (t_found : Nat → Int32) (t_foundMany : Int32) (t_made : Nat → Int32) (t_wanted : Nat → Int32) (t_isDone : Nat → Int32) (t_isFull : Int32) (x3 : Int32) (x4 : Int32), VX11_findParent_122 post t_letters t_images t_imageSizes t_cutAt t_child p1 n t_found t_foundMany t_made t_wanted t_isDone t_isFull x3 x4 → ∀ (H : Heap) (locs : List Loc) (ls : Array Slot), va_P (dC, dI) vwCl (pX11_findParent cy h t_kind t_exponent t_letters t_images t_imageSizes t_fed t_at t_rowSize t_steps t_found t_foundMany t_keptMany t_keptLetters t_made t_cutAt t_wanted t_isDone t_child t_isFull t_isSaved t_savedKind t_savedExponent t_savedLetters) H → va_D A (pX11_findParent cy h t_kind t_exponent t_letters t_images t_imageSizes t_fed t_at t_rowSize t_steps t_found t_foundMany t_keptMany t_keptLetters t_made t_cutAt t_wanted t_isDone t_child t_isFull t_isSaved t_savedKind t_savedExponent t_savedLetters) → va_S A s.heap H locs → lv_has ls 5 [(0, .ref (h 0)), (3, .int x3), (4, .int x4)] → W p l e rX11_findParent s m args below meth c H locs 0 0 (MQ below (va_Qv (fun (u : (Nat → Int32) × Int32 × (Nat → Int32) × (Nat → Int32) × (Nat → Int32) × Int32) => post u.1 u.2.1 u.2.2.1 u.2.2.2.1 u.2.2.2.2.1 u.2.2.2.2.2) (fun (u : (Nat → Int32) × Int32 × (Nat → Int32) × (Nat → Int32) × (Nat → Int32) × Int32) (t : State) => va_P (dC, dI) vwCl (pX11_findParent cy h t_kind t_exponent t_letters t_images t_imageSizes t_fed t_at t_rowSize t_steps u.1 u.2.1 t_keptMany t_keptLetters u.2.2.1 t_cutAt u.2.2.2.1 u.2.2.2.2.1 t_child u.2.2.2.2.2 t_isSaved t_savedKind t_savedExponent t_savedLetters) t.heap) A) args s 0 0 A) (F0 m 122 ls []) := by
  have C1 := C0
  obtain ⟨hx, hb, hr, hml, hown, hts, hlocks, hK, hA⟩ := C1
  intro n
  induction n with
  | zero => intro t_found t_foundMany t_made t_wanted t_isDone t_isFull x3 x4 hv; exact hv.elim
  | succ n ih =>
    intro t_found t_foundMany t_made t_wanted t_isDone t_isFull x3 x4 hv H locs ls hP hD hS hl
    refine lv_iload hx hb dX11_findParent_122 (lv_at hl 2 rfl) ?_
    refine lv_iload_n hx hb dX11_findParent_124 rfl (lv_at hl 1 rfl) ?_
    refine lv_icmp_le (tgt := 150) hx hb dX11_findParent_125 (by decide) (fun c_36 => ?_) (fun c_36 => ?_)
    · have hv := hv.1 c_36
      exact wX11_findParent_150 l h post  t_kind t_exponent t_letters t_images t_imageSizes t_fed t_at t_rowSize t_steps t_keptMany t_keptLetters t_cutAt t_child t_isSaved t_savedKind t_savedExponent t_savedLetters p1 C0 t_found t_foundMany t_made t_wanted t_isDone t_isFull x3 hv _ _ _ hP hD hS (lv_sub hl [0, 1] rfl)
    · have hv := hv.2 c_36
      refine lv_aload_n hx hb dX11_findParent_128 rfl (lv_at hl 0 rfl) ?_
      refine va_get (D := (dC, dI)) (ci := 11) (v := .ref (h 7)) (C := RX11) (T := TX11) (N := 36) hx hb hts nX11_findParent_X11 hown hK hP 0 rfl rfl 22 (by decide) (hts _ mX11_findParent_10) (fun _ h9 => h9) rfl dX11_findParent_129 ?_
      refine lv_iload hx hb dX11_findParent_132 (lv_at hl 2 rfl) ?_
      refine lv_aload_n hx hb dX11_findParent_134 rfl (lv_at hl 0 rfl) ?_
      refine va_get (D := (dC, dI)) (ci := 11) (v := .ref (h 7)) (C := RX11) (T := TX11) (N := 36) hx hb hts nX11_findParent_X11 hown hK hP 0 rfl rfl 22 (by decide) (hts _ mX11_findParent_10) (fun _ h9 => h9) rfl dX11_findParent_135 ?_
      refine lv_iload hx hb dX11_findParent_138 (lv_at hl 2 rfl) ?_
      refine lv_iconst (v := 1) hx hb dX11_findParent_140 (by decide) ?_
      refine lv_isub hx hb dX11_findParent_141 ?_
      have h_34 := hv.1
      have hv := hv.2
      refine va_zald hx hb hK hP 7 2 rfl rfl h_34 dX11_findParent_142 ?_
      refine lv_topi (fun y_33 ey_33 => ?_)
      have hv := hv y_33 ey_33
      have h_35 := hv.1
      have hv := hv.2
      refine va_zast hx hb hK hP hD hS 7 2 rfl rfl h_35 dX11_findParent_143 (fun H locs hP hD hS => ?_)
      have hP : va_P (dC, dI) vwCl (pX11_findParent cy h t_kind t_exponent t_letters t_images t_imageSizes t_fed t_at t_rowSize t_steps t_found t_foundMany t_keptMany t_keptLetters t_made t_cutAt t_wanted (upd t_isDone x4.toNatClampNeg (vp_nar .boolean y_33)) t_child t_isFull t_isSaved t_savedKind t_savedExponent t_savedLetters) H := hP
      have hD : va_D A (pX11_findParent cy h t_kind t_exponent t_letters t_images t_imageSizes t_fed t_at t_rowSize t_steps t_found t_foundMany t_keptMany t_keptLetters t_made t_cutAt t_wanted (upd t_isDone x4.toNatClampNeg (vp_nar .boolean y_33)) t_child t_isFull t_isSaved t_savedKind t_savedExponent t_savedLetters) := hD
      refine lv_iinc (v := (x4 + (-1))) (lv' := [(4, .int ((x4 + (-1)))), (0, .ref (h 0)), (3, .int x3)]) hx hb dX11_findParent_144 hl (k := 2) rfl rfl (by decide) rfl (fun ls hl => ?_)
      refine lv_goto (tgt := 122) hx hb dX11_findParent_147 (by decide) ?_
      exact ih t_found t_foundMany t_made t_wanted (upd t_isDone x4.toNatClampNeg (vp_nar .boolean y_33)) t_isFull x3 (x4 + (-1)) hv _ _ _ hP hD hS (lv_sub hl [1, 2, 0] rfl)
set_option maxHeartbeats 4000000 in
set_option maxRecDepth 100000 in
theorem wX11_findParent_91 {p : Program} (l : Launch) {e : Env} {s : State} {m : MethodId} {args : Array Value} {below : List Frame} {meth : Method} {c : Code} {dC : Nat → ClassId} {dI : Nat → Nat → Nat} {cy : Nat → ClassId} {A : Nat → Prop} (h : Nat → Nat) (post : (Nat → Int32) → Int32 → (Nat → Int32) → (Nat → Int32) → (Nat → Int32) → Int32 → Prop)   (t_kind : Int32) (t_exponent : Int32) (t_letters : Int32) (t_images : Nat → Int32) (t_imageSizes : Nat → Int32) (t_fed : Int32) (t_at : Int32) (t_rowSize : Int32) (t_steps : Int32) (t_keptMany : Int32) (t_keptLetters : Int32) (t_cutAt : Nat → Int32) (t_child : Nat → Int32) (t_isSaved : Int32) (t_savedKind : Int32) (t_savedExponent : Int32) (t_savedLetters : Int32) (p1 : Int64) (C0 : cx p s m args meth c cX11_findParent 5 none wsX11_findParent RX11 dC dI cy A)  : ∀ (t_found : Nat → Int32) (t_foundMany : Int32) (t_made : Nat → Int32) (t_wanted : Nat → Int32) (t_isDone : Nat → Int32) (t_isFull : Int32), VX11_findParent_91 post t_letters t_images t_imageSizes t_cutAt t_child p1 t_found t_foundMany t_made t_wanted t_isDone t_isFull → ∀ (H : Heap) (locs : List Loc) (ls : Array Slot), va_P (dC, dI) vwCl (pX11_findParent cy h t_kind t_exponent t_letters t_images t_imageSizes t_fed t_at t_rowSize t_steps t_found t_foundMany t_keptMany t_keptLetters t_made t_cutAt t_wanted t_isDone t_child t_isFull t_isSaved t_savedKind t_savedExponent t_savedLetters) H → va_D A (pX11_findParent cy h t_kind t_exponent t_letters t_images t_imageSizes t_fed t_at t_rowSize t_steps t_found t_foundMany t_keptMany t_keptLetters t_made t_cutAt t_wanted t_isDone t_child t_isFull t_isSaved t_savedKind t_savedExponent t_savedLetters) → va_S A s.heap H locs → lv_has ls 5 [(0, .ref (h 0)), (1, .long p1)] → W p l e rX11_findParent s m args below meth c H locs 0 0 (MQ below (va_Qv (fun (u : (Nat → Int32) × Int32 × (Nat → Int32) × (Nat → Int32) × (Nat → Int32) × Int32) => post u.1 u.2.1 u.2.2.1 u.2.2.2.1 u.2.2.2.2.1 u.2.2.2.2.2) (fun (u : (Nat → Int32) × Int32 × (Nat → Int32) × (Nat → Int32) × (Nat → Int32) × Int32) (t : State) => va_P (dC, dI) vwCl (pX11_findParent cy h t_kind t_exponent t_letters t_images t_imageSizes t_fed t_at t_rowSize t_steps u.1 u.2.1 t_keptMany t_keptLetters u.2.2.1 t_cutAt u.2.2.2.1 u.2.2.2.2.1 t_child u.2.2.2.2.2 t_isSaved t_savedKind t_savedExponent t_savedLetters) t.heap) A) args s 0 0 A) (F0 m 91 ls []) := by
  have C1 := C0
  obtain ⟨hx, hb, hr, hml, hown, hts, hlocks, hK, hA⟩ := C1
  intro t_found t_foundMany t_made t_wanted t_isDone t_isFull hv H locs ls hP hD hS hl
  refine lv_aload_n hx hb dX11_findParent_91 rfl (lv_at hl 0 rfl) ?_
  refine lv_lload_n hx hb dX11_findParent_92 rfl (lv_at hl 1 rfl) ?_
  refine cb_VI (As := [.long p1]) (rest := []) ⟨hx, hb, hml, hown, hts⟩ (kX11_solves l dC dI cy (adl [h 0, h 1, h 2, h 4, h 6, h 9, h 10, h 11, h 12, h 13, h 3, h 14, h 5, h 7, h 8, h 15, h 16, h 17, h 18, h 19, h 20, h 21]) t_kind t_exponent t_letters t_images t_imageSizes t_fed t_at t_rowSize t_steps t_foundMany t_keptMany t_keptLetters t_made t_wanted t_isFull t_isSaved t_savedKind t_savedExponent t_savedLetters p1 _ hv) (cwV 1 hts gX11_findParent_X11_solves rfl rfl rfl zX11_solves ⟨Nat.le_of_ble_eq_true rfl, Nat.le_of_ble_eq_true rfl⟩) hK hP hD hS hA [0, 1, 2, 4, 6] [some 0, some 1, some 2, none, some 3, none, some 4, none, none] rfl rfl rfl (ci := 11) rfl rfl (fun _ => rfl) rfl hl.1 rfl (Nat.le_of_ble_eq_true rfl) dX11_findParent_93 (fun r_22 u_23 H locs hv hP hD hS => ?_)
  have hP : va_P (dC, dI) vwCl (pX11_findParent cy h t_kind t_exponent t_letters t_images t_imageSizes t_fed t_at t_rowSize t_steps t_found t_foundMany t_keptMany t_keptLetters u_23 t_cutAt t_wanted t_isDone t_child t_isFull t_isSaved t_savedKind t_savedExponent t_savedLetters) H := hP
  have hD : va_D A (pX11_findParent cy h t_kind t_exponent t_letters t_images t_imageSizes t_fed t_at t_rowSize t_steps t_found t_foundMany t_keptMany t_keptLetters u_23 t_cutAt t_wanted t_isDone t_child t_isFull t_isSaved t_savedKind t_savedExponent t_savedLetters) := hD
  refine lv_if_eq (tgt := 176) hx hb dX11_findParent_96 (by decide) (fun c_31 => ?_) (fun c_31 => ?_)
  · have hv := hv.1 c_31
    exact W.vret hx hb hr (fun t ht hW => ⟨⟨(t_found, t_foundMany, u_23, t_wanted, t_isDone, t_isFull), rfl, hv, va_Ph ht hP⟩, hS.F ht⟩) hS.2.2 dX11_findParent_176
  · have hv := hv.2 c_31
    refine lv_aload_n hx hb dX11_findParent_99 rfl (lv_at hl 0 rfl) ?_
    refine cb_VI (As := []) (rest := []) ⟨hx, hb, hml, hown, hts⟩ (kX11_enter l dC dI cy (adl [h 0, h 3, h 4, h 9, h 10, h 11, h 1, h 2, h 12, h 13, h 14, h 5, h 6, h 7, h 8, h 15, h 16, h 17, h 18, h 19, h 20, h 21]) t_kind t_exponent t_letters t_fed t_at t_rowSize t_steps t_found t_foundMany t_keptMany t_keptLetters u_23 t_isFull t_isSaved t_savedKind t_savedExponent t_savedLetters _ hv) (cwV 0 hts gX11_findParent_X11_enter rfl rfl rfl zX11_enter ⟨Nat.le_of_ble_eq_true rfl, Nat.le_of_ble_eq_true rfl⟩) hK hP hD hS hA [0, 3, 4] [some 0, none, none, some 1, some 2, none, none, none, none] rfl rfl rfl (ci := 11) rfl rfl (fun _ => rfl) rfl hl.1 rfl (Nat.le_of_ble_eq_true rfl) dX11_findParent_100 (fun r_24 w_30 H locs hv hP hD hS => ?_)
    obtain ⟨u_25, u_26⟩ := w_30
    have hP : va_P (dC, dI) vwCl (pX11_findParent cy h t_kind t_exponent t_letters t_images t_imageSizes t_fed t_at t_rowSize t_steps u_25 u_26 t_keptMany t_keptLetters u_23 t_cutAt t_wanted t_isDone t_child t_isFull t_isSaved t_savedKind t_savedExponent t_savedLetters) H := hP
    have hD : va_D A (pX11_findParent cy h t_kind t_exponent t_letters t_images t_imageSizes t_fed t_at t_rowSize t_steps u_25 u_26 t_keptMany t_keptLetters u_23 t_cutAt t_wanted t_isDone t_child t_isFull t_isSaved t_savedKind t_savedExponent t_savedLetters) := hD
    refine lv_istore_n (lv' := [(3, .int r_24), (0, .ref (h 0)), (1, .long p1)]) hx hb dX11_findParent_103 rfl hl (by decide) rfl (fun ls hl => ?_)
    refine lv_iload_n hx hb dX11_findParent_104 rfl (lv_at hl 0 rfl) ?_
    refine lv_bipush (v := (-2)) hx hb dX11_findParent_105 (by decide) ?_
    refine lv_icmp_eq (tgt := 176) hx hb dX11_findParent_107 (by decide) (fun c_29 => ?_) (fun c_29 => ?_)
    · have hv := hv.1 c_29
      exact W.vret hx hb hr (fun t ht hW => ⟨⟨(u_25, u_26, u_23, t_wanted, t_isDone, t_isFull), rfl, hv, va_Ph ht hP⟩, hS.F ht⟩) hS.2.2 dX11_findParent_176
    · have hv := hv.2 c_29
      refine lv_aload_n hx hb dX11_findParent_110 rfl (lv_at hl 1 rfl) ?_
      refine va_get (D := (dC, dI)) (ci := 11) (v := .int u_26) (C := RX11) (T := TX11) (N := 36) hx hb hts nX11_findParent_X11 hown hK hP 0 rfl rfl 15 (by decide) (hts _ mX11_findParent_5) (fun _ h9 => h9) rfl dX11_findParent_111 ?_
      refine lv_sipush (v := 200) hx hb dX11_findParent_114 (by decide) ?_
      refine va_mmin hx hb (hml.trans hl.1.symm) hown (hts _ mX11_findParent_6) (hts _ mX11_findParent_7) (hts _ mX11_findParent_8) (hts _ mX11_findParent_9) (Nat.le_of_ble_eq_true rfl) (Nat.le_of_ble_eq_true rfl) (Nat.zero_le _) (Nat.zero_le _) dX11_findParent_117 ?_
      refine lv_topi (fun y_27 ey_27 => ?_)
      have hv := hv y_27 ey_27
      refine lv_istore (lv' := [(4, .int y_27), (3, .int r_24), (0, .ref (h 0)), (1, .long p1)]) hx hb dX11_findParent_120 hl (by decide) rfl (fun ls hl => ?_)
      obtain ⟨n_28, hv⟩ := hv
      exact wX11_findParent_122 l h post  t_kind t_exponent t_letters t_images t_imageSizes t_fed t_at t_rowSize t_steps t_keptMany t_keptLetters t_cutAt t_child t_isSaved t_savedKind t_savedExponent t_savedLetters p1 C0 n_28 u_25 u_26 u_23 t_wanted t_isDone t_isFull r_24 y_27 hv _ _ _ hP hD hS (lv_sub hl [2, 1, 0] rfl)
set_option maxHeartbeats 4000000 in
set_option maxRecDepth 100000 in
theorem wX11_findParent_72 {p : Program} (l : Launch) {e : Env} {s : State} {m : MethodId} {args : Array Value} {below : List Frame} {meth : Method} {c : Code} {dC : Nat → ClassId} {dI : Nat → Nat → Nat} {cy : Nat → ClassId} {A : Nat → Prop} (h : Nat → Nat) (post : (Nat → Int32) → Int32 → (Nat → Int32) → (Nat → Int32) → (Nat → Int32) → Int32 → Prop)   (t_kind : Int32) (t_exponent : Int32) (t_letters : Int32) (t_images : Nat → Int32) (t_imageSizes : Nat → Int32) (t_fed : Int32) (t_at : Int32) (t_rowSize : Int32) (t_steps : Int32) (t_keptMany : Int32) (t_keptLetters : Int32) (t_cutAt : Nat → Int32) (t_child : Nat → Int32) (t_isSaved : Int32) (t_savedKind : Int32) (t_savedExponent : Int32) (t_savedLetters : Int32) (p1 : Int64) (C0 : cx p s m args meth c cX11_findParent 5 none wsX11_findParent RX11 dC dI cy A)  : ∀ (n : Nat) (t_found : Nat → Int32) (t_foundMany : Int32) (t_made : Nat → Int32) (t_wanted : Nat → Int32) (t_isDone : Nat → Int32) (t_isFull : Int32) (x3 : Int32), VX11_findParent_72 post t_letters t_images t_imageSizes t_cutAt t_child p1 n t_found t_foundMany t_made t_wanted t_isDone t_isFull x3 → ∀ (H : Heap) (locs : List Loc) (ls : Array Slot), va_P (dC, dI) vwCl (pX11_findParent cy h t_kind t_exponent t_letters t_images t_imageSizes t_fed t_at t_rowSize t_steps t_found t_foundMany t_keptMany t_keptLetters t_made t_cutAt t_wanted t_isDone t_child t_isFull t_isSaved t_savedKind t_savedExponent t_savedLetters) H → va_D A (pX11_findParent cy h t_kind t_exponent t_letters t_images t_imageSizes t_fed t_at t_rowSize t_steps t_found t_foundMany t_keptMany t_keptLetters t_made t_cutAt t_wanted t_isDone t_child t_isFull t_isSaved t_savedKind t_savedExponent t_savedLetters) → va_S A s.heap H locs → lv_has ls 5 [(0, .ref (h 0)), (1, .long p1), (3, .int x3)] → W p l e rX11_findParent s m args below meth c H locs 0 0 (MQ below (va_Qv (fun (u : (Nat → Int32) × Int32 × (Nat → Int32) × (Nat → Int32) × (Nat → Int32) × Int32) => post u.1 u.2.1 u.2.2.1 u.2.2.2.1 u.2.2.2.2.1 u.2.2.2.2.2) (fun (u : (Nat → Int32) × Int32 × (Nat → Int32) × (Nat → Int32) × (Nat → Int32) × Int32) (t : State) => va_P (dC, dI) vwCl (pX11_findParent cy h t_kind t_exponent t_letters t_images t_imageSizes t_fed t_at t_rowSize t_steps u.1 u.2.1 t_keptMany t_keptLetters u.2.2.1 t_cutAt u.2.2.2.1 u.2.2.2.2.1 t_child u.2.2.2.2.2 t_isSaved t_savedKind t_savedExponent t_savedLetters) t.heap) A) args s 0 0 A) (F0 m 72 ls []) := by
  have C1 := C0
  obtain ⟨hx, hb, hr, hml, hown, hts, hlocks, hK, hA⟩ := C1
  intro n
  induction n with
  | zero => intro t_found t_foundMany t_made t_wanted t_isDone t_isFull x3 hv; exact hv.elim
  | succ n ih =>
    intro t_found t_foundMany t_made t_wanted t_isDone t_isFull x3 hv H locs ls hP hD hS hl
    refine lv_iload_n hx hb dX11_findParent_72 rfl (lv_at hl 2 rfl) ?_
    refine lv_bipush (v := 7) hx hb dX11_findParent_73 (by decide) ?_
    refine lv_icmp_ge (tgt := 91) hx hb dX11_findParent_75 (by decide) (fun c_21 => ?_) (fun c_21 => ?_)
    · have hv := hv.1 c_21
      exact wX11_findParent_91 l h post  t_kind t_exponent t_letters t_images t_imageSizes t_fed t_at t_rowSize t_steps t_keptMany t_keptLetters t_cutAt t_child t_isSaved t_savedKind t_savedExponent t_savedLetters p1 C0 t_found t_foundMany t_made t_wanted t_isDone t_isFull hv _ _ _ hP hD hS (lv_sub hl [0, 1] rfl)
    · have hv := hv.2 c_21
      refine lv_aload_n hx hb dX11_findParent_78 rfl (lv_at hl 0 rfl) ?_
      refine va_get (D := (dC, dI)) (ci := 11) (v := .ref (h 4)) (C := RX11) (T := TX11) (N := 36) hx hb hts nX11_findParent_X11 hown hK hP 0 rfl rfl 19 (by decide) (hts _ mX11_findParent_4) (fun _ h9 => h9) rfl dX11_findParent_79 ?_
      refine lv_iload_n hx hb dX11_findParent_82 rfl (lv_at hl 2 rfl) ?_
      refine lv_iconst (v := 0) hx hb dX11_findParent_83 (by decide) ?_
      have h_20 := hv.1
      have hv := hv.2
      refine va_iast hx hb hK hP hD hS 4 0 rfl rfl h_20 dX11_findParent_84 (fun H locs hP hD hS => ?_)
      have hP : va_P (dC, dI) vwCl (pX11_findParent cy h t_kind t_exponent t_letters t_images t_imageSizes t_fed t_at t_rowSize t_steps t_found t_foundMany t_keptMany t_keptLetters (upd t_made x3.toNatClampNeg 0) t_cutAt t_wanted t_isDone t_child t_isFull t_isSaved t_savedKind t_savedExponent t_savedLetters) H := hP
      have hD : va_D A (pX11_findParent cy h t_kind t_exponent t_letters t_images t_imageSizes t_fed t_at t_rowSize t_steps t_found t_foundMany t_keptMany t_keptLetters (upd t_made x3.toNatClampNeg 0) t_cutAt t_wanted t_isDone t_child t_isFull t_isSaved t_savedKind t_savedExponent t_savedLetters) := hD
      refine lv_iinc (v := (x3 + 1)) (lv' := [(3, .int ((x3 + 1))), (0, .ref (h 0)), (1, .long p1)]) hx hb dX11_findParent_85 hl (k := 2) rfl rfl (by decide) rfl (fun ls hl => ?_)
      refine lv_goto (tgt := 72) hx hb dX11_findParent_88 (by decide) ?_
      exact ih t_found t_foundMany (upd t_made x3.toNatClampNeg 0) t_wanted t_isDone t_isFull (x3 + 1) hv _ _ _ hP hD hS (lv_sub hl [1, 2, 0] rfl)
set_option maxHeartbeats 4000000 in
set_option maxRecDepth 100000 in
theorem wX11_findParent_2 {p : Program} (l : Launch) {e : Env} {s : State} {m : MethodId} {args : Array Value} {below : List Frame} {meth : Method} {c : Code} {dC : Nat → ClassId} {dI : Nat → Nat → Nat} {cy : Nat → ClassId} {A : Nat → Prop} (h : Nat → Nat) (post : (Nat → Int32) → Int32 → (Nat → Int32) → (Nat → Int32) → (Nat → Int32) → Int32 → Prop)   (t_kind : Int32) (t_exponent : Int32) (t_letters : Int32) (t_images : Nat → Int32) (t_imageSizes : Nat → Int32) (t_fed : Int32) (t_at : Int32) (t_rowSize : Int32) (t_steps : Int32) (t_keptMany : Int32) (t_keptLetters : Int32) (t_cutAt : Nat → Int32) (t_child : Nat → Int32) (t_isSaved : Int32) (t_savedKind : Int32) (t_savedExponent : Int32) (t_savedLetters : Int32) (p1 : Int64) (C0 : cx p s m args meth c cX11_findParent 5 none wsX11_findParent RX11 dC dI cy A)  : ∀ (n : Nat) (t_found : Nat → Int32) (t_foundMany : Int32) (t_made : Nat → Int32) (t_wanted : Nat → Int32) (t_isDone : Nat → Int32) (t_isFull : Int32) (x3 : Int32), VX11_findParent_2 post t_letters t_images t_imageSizes t_cutAt t_child p1 n t_found t_foundMany t_made t_wanted t_isDone t_isFull x3 → ∀ (H : Heap) (locs : List Loc) (ls : Array Slot), va_P (dC, dI) vwCl (pX11_findParent cy h t_kind t_exponent t_letters t_images t_imageSizes t_fed t_at t_rowSize t_steps t_found t_foundMany t_keptMany t_keptLetters t_made t_cutAt t_wanted t_isDone t_child t_isFull t_isSaved t_savedKind t_savedExponent t_savedLetters) H → va_D A (pX11_findParent cy h t_kind t_exponent t_letters t_images t_imageSizes t_fed t_at t_rowSize t_steps t_found t_foundMany t_keptMany t_keptLetters t_made t_cutAt t_wanted t_isDone t_child t_isFull t_isSaved t_savedKind t_savedExponent t_savedLetters) → va_S A s.heap H locs → lv_has ls 5 [(0, .ref (h 0)), (1, .long p1), (3, .int x3)] → W p l e rX11_findParent s m args below meth c H locs 0 0 (MQ below (va_Qv (fun (u : (Nat → Int32) × Int32 × (Nat → Int32) × (Nat → Int32) × (Nat → Int32) × Int32) => post u.1 u.2.1 u.2.2.1 u.2.2.2.1 u.2.2.2.2.1 u.2.2.2.2.2) (fun (u : (Nat → Int32) × Int32 × (Nat → Int32) × (Nat → Int32) × (Nat → Int32) × Int32) (t : State) => va_P (dC, dI) vwCl (pX11_findParent cy h t_kind t_exponent t_letters t_images t_imageSizes t_fed t_at t_rowSize t_steps u.1 u.2.1 t_keptMany t_keptLetters u.2.2.1 t_cutAt u.2.2.2.1 u.2.2.2.2.1 t_child u.2.2.2.2.2 t_isSaved t_savedKind t_savedExponent t_savedLetters) t.heap) A) args s 0 0 A) (F0 m 2 ls []) := by
  have C1 := C0
  obtain ⟨hx, hb, hr, hml, hown, hts, hlocks, hK, hA⟩ := C1
  intro n
  induction n with
  | zero => intro t_found t_foundMany t_made t_wanted t_isDone t_isFull x3 hv; exact hv.elim
  | succ n ih =>
    intro t_found t_foundMany t_made t_wanted t_isDone t_isFull x3 hv H locs ls hP hD hS hl
    refine lv_iload_n hx hb dX11_findParent_2 rfl (lv_at hl 2 rfl) ?_
    refine lv_aload_n hx hb dX11_findParent_3 rfl (lv_at hl 0 rfl) ?_
    refine va_get (D := (dC, dI)) (ci := 11) (v := .int t_letters) (C := RX11) (T := TX11) (N := 36) hx hb hts nX11_findParent_X11 hown hK hP 0 rfl rfl 2 (by decide) (hts _ mX11_findParent_1) (fun _ h9 => h9) rfl dX11_findParent_4 ?_
    refine lv_icmp_ge (tgt := 70) hx hb dX11_findParent_7 (by decide) (fun c_19 => ?_) (fun c_19 => ?_)
    · have hv := hv.1 c_19
      refine lv_iconst (v := 3) hx hb dX11_findParent_70 (by decide) ?_
      refine lv_istore_n (lv' := [(3, .int 3), (0, .ref (h 0)), (1, .long p1)]) hx hb dX11_findParent_71 rfl hl (by decide) rfl (fun ls hl => ?_)
      obtain ⟨n_2, hv⟩ := hv
      exact wX11_findParent_72 l h post  t_kind t_exponent t_letters t_images t_imageSizes t_fed t_at t_rowSize t_steps t_keptMany t_keptLetters t_cutAt t_child t_isSaved t_savedKind t_savedExponent t_savedLetters p1 C0 n_2 t_found t_foundMany t_made t_wanted t_isDone t_isFull 3 hv _ _ _ hP hD hS (lv_sub hl [1, 2, 0] rfl)
    · have hv := hv.2 c_19
      refine lv_aload_n hx hb dX11_findParent_10 rfl (lv_at hl 0 rfl) ?_
      refine va_get (D := (dC, dI)) (ci := 11) (v := .ref (h 6)) (C := RX11) (T := TX11) (N := 36) hx hb hts nX11_findParent_X11 hown hK hP 0 rfl rfl 21 (by decide) (hts _ mX11_findParent_2) (fun _ h9 => h9) rfl dX11_findParent_11 ?_
      refine lv_iload_n hx hb dX11_findParent_14 rfl (lv_at hl 2 rfl) ?_
      refine lv_aload_n hx hb dX11_findParent_15 rfl (lv_at hl 0 rfl) ?_
      refine va_get (D := (dC, dI)) (ci := 11) (v := .ref (h 8)) (C := RX11) (T := TX11) (N := 36) hx hb hts nX11_findParent_X11 hown hK hP 0 rfl rfl 23 (by decide) (hts _ mX11_findParent_3) (fun _ h9 => h9) rfl dX11_findParent_16 ?_
      refine lv_iconst (v := 3) hx hb dX11_findParent_19 (by decide) ?_
      refine lv_iload_n hx hb dX11_findParent_20 rfl (lv_at hl 2 rfl) ?_
      refine lv_iadd hx hb dX11_findParent_21 ?_
      have h_4 := hv.1
      have hv := hv.2
      refine va_iald hx hb hK hP 8 0 rfl rfl h_4 dX11_findParent_22 ?_
      refine lv_topi (fun y_3 ey_3 => ?_)
      have hv := hv y_3 ey_3
      refine lv_aload_n hx hb dX11_findParent_23 rfl (lv_at hl 0 rfl) ?_
      refine lv_iconst (v := 1) hx hb dX11_findParent_24 (by decide) ?_
      refine lv_aload_n hx hb dX11_findParent_25 rfl (lv_at hl 0 rfl) ?_
      refine va_get (D := (dC, dI)) (ci := 11) (v := .ref (h 8)) (C := RX11) (T := TX11) (N := 36) hx hb hts nX11_findParent_X11 hown hK hP 0 rfl rfl 23 (by decide) (hts _ mX11_findParent_3) (fun _ h9 => h9) rfl dX11_findParent_26 ?_
      refine lv_iconst (v := 1) hx hb dX11_findParent_29 (by decide) ?_
      have h_6 := hv.1
      have hv := hv.2
      refine va_iald hx hb hK hP 8 0 rfl rfl h_6 dX11_findParent_30 ?_
      refine lv_topi (fun y_5 ey_5 => ?_)
      have hv := hv y_5 ey_5
      refine lv_iload_n hx hb dX11_findParent_31 rfl (lv_at hl 2 rfl) ?_
      refine cb_VI (As := [.int 1, .int y_5, .int x3]) (rest := [.int y_3, .int x3, .ref (h 6)]) ⟨hx, hb, hml, hown, hts⟩ (kX11_behind l dC dI cy (adl [h 0, h 1, h 2, h 4, h 5, h 9, h 10, h 11, h 12, h 13, h 3, h 14, h 6, h 7, h 8, h 15, h 16, h 17, h 18, h 19, h 20, h 21]) t_kind t_exponent t_letters t_images t_imageSizes t_fed t_at t_rowSize t_steps t_foundMany t_keptMany t_keptLetters t_made t_cutAt t_isFull t_isSaved t_savedKind t_savedExponent t_savedLetters 1 y_5 x3 _ hv) (cwV 3 hts gX11_findParent_X11_behind rfl rfl rfl zX11_behind ⟨Nat.le_of_ble_eq_true rfl, Nat.le_of_ble_eq_true rfl⟩) hK hP hD hS hA [0, 1, 2, 4, 5] [some 0, some 1, some 2, none, some 3, some 4, none, none, none] rfl rfl rfl (ci := 11) rfl rfl (fun _ => rfl) rfl hl.1 rfl (Nat.le_of_ble_eq_true rfl) dX11_findParent_32 (fun r_7 w_18 H locs hv hP hD hS => ?_)
      have hP : va_P (dC, dI) vwCl (pX11_findParent cy h t_kind t_exponent t_letters t_images t_imageSizes t_fed t_at t_rowSize t_steps t_found t_foundMany t_keptMany t_keptLetters t_made t_cutAt t_wanted t_isDone t_child t_isFull t_isSaved t_savedKind t_savedExponent t_savedLetters) H := hP
      have hD : va_D A (pX11_findParent cy h t_kind t_exponent t_letters t_images t_imageSizes t_fed t_at t_rowSize t_steps t_found t_foundMany t_keptMany t_keptLetters t_made t_cutAt t_wanted t_isDone t_child t_isFull t_isSaved t_savedKind t_savedExponent t_savedLetters) := hD
      refine lv_isub hx hb dX11_findParent_35 ?_
      refine lv_aload_n hx hb dX11_findParent_36 rfl (lv_at hl 0 rfl) ?_
      refine lv_iconst (v := 2) hx hb dX11_findParent_37 (by decide) ?_
      refine lv_iload_n hx hb dX11_findParent_38 rfl (lv_at hl 2 rfl) ?_
      refine cb_VI (As := [.int 2, .int x3]) (rest := [.int ((y_3 - r_7)), .int x3, .ref (h 6)]) ⟨hx, hb, hml, hown, hts⟩ (kX11_before l dC dI cy (adl [h 0, h 1, h 4, h 5, h 9, h 10, h 11, h 2, h 12, h 13, h 3, h 14, h 6, h 7, h 8, h 15, h 16, h 17, h 18, h 19, h 20, h 21]) t_kind t_exponent t_letters t_images t_fed t_at t_rowSize t_steps t_foundMany t_keptMany t_keptLetters t_made t_cutAt t_isFull t_isSaved t_savedKind t_savedExponent t_savedLetters 2 x3 _ hv) (cwV 2 hts gX11_findParent_X11_before rfl rfl rfl zX11_before ⟨Nat.le_of_ble_eq_true rfl, Nat.le_of_ble_eq_true rfl⟩) hK hP hD hS hA [0, 1, 4, 5] [some 0, some 1, none, none, some 2, some 3, none, none, none] rfl rfl rfl (ci := 11) rfl rfl (fun _ => rfl) rfl hl.1 rfl (Nat.le_of_ble_eq_true rfl) dX11_findParent_39 (fun r_8 w_17 H locs hv hP hD hS => ?_)
      have hP : va_P (dC, dI) vwCl (pX11_findParent cy h t_kind t_exponent t_letters t_images t_imageSizes t_fed t_at t_rowSize t_steps t_found t_foundMany t_keptMany t_keptLetters t_made t_cutAt t_wanted t_isDone t_child t_isFull t_isSaved t_savedKind t_savedExponent t_savedLetters) H := hP
      have hD : va_D A (pX11_findParent cy h t_kind t_exponent t_letters t_images t_imageSizes t_fed t_at t_rowSize t_steps t_found t_foundMany t_keptMany t_keptLetters t_made t_cutAt t_wanted t_isDone t_child t_isFull t_isSaved t_savedKind t_savedExponent t_savedLetters) := hD
      refine lv_isub hx hb dX11_findParent_42 ?_
      refine lv_aload_n hx hb dX11_findParent_43 rfl (lv_at hl 0 rfl) ?_
      refine lv_iconst (v := 0) hx hb dX11_findParent_44 (by decide) ?_
      refine lv_aload_n hx hb dX11_findParent_45 rfl (lv_at hl 0 rfl) ?_
      refine va_get (D := (dC, dI)) (ci := 11) (v := .ref (h 8)) (C := RX11) (T := TX11) (N := 36) hx hb hts nX11_findParent_X11 hown hK hP 0 rfl rfl 23 (by decide) (hts _ mX11_findParent_3) (fun _ h9 => h9) rfl dX11_findParent_46 ?_
      refine lv_iconst (v := 0) hx hb dX11_findParent_49 (by decide) ?_
      have h_10 := hv.1
      have hv := hv.2
      refine va_iald hx hb hK hP 8 0 rfl rfl h_10 dX11_findParent_50 ?_
      refine lv_topi (fun y_9 ey_9 => ?_)
      have hv := hv y_9 ey_9
      refine lv_iload_n hx hb dX11_findParent_51 rfl (lv_at hl 2 rfl) ?_
      refine cb_VI (As := [.int 0, .int y_9, .int x3]) (rest := [.int (((y_3 - r_7) - r_8)), .int x3, .ref (h 6)]) ⟨hx, hb, hml, hown, hts⟩ (kX11_behind l dC dI cy (adl [h 0, h 1, h 2, h 4, h 5, h 9, h 10, h 11, h 12, h 13, h 3, h 14, h 6, h 7, h 8, h 15, h 16, h 17, h 18, h 19, h 20, h 21]) t_kind t_exponent t_letters t_images t_imageSizes t_fed t_at t_rowSize t_steps t_foundMany t_keptMany t_keptLetters t_made t_cutAt t_isFull t_isSaved t_savedKind t_savedExponent t_savedLetters 0 y_9 x3 _ hv) (cwV 3 hts gX11_findParent_X11_behind rfl rfl rfl zX11_behind ⟨Nat.le_of_ble_eq_true rfl, Nat.le_of_ble_eq_true rfl⟩) hK hP hD hS hA [0, 1, 2, 4, 5] [some 0, some 1, some 2, none, some 3, some 4, none, none, none] rfl rfl rfl (ci := 11) rfl rfl (fun _ => rfl) rfl hl.1 rfl (Nat.le_of_ble_eq_true rfl) dX11_findParent_52 (fun r_11 w_16 H locs hv hP hD hS => ?_)
      have hP : va_P (dC, dI) vwCl (pX11_findParent cy h t_kind t_exponent t_letters t_images t_imageSizes t_fed t_at t_rowSize t_steps t_found t_foundMany t_keptMany t_keptLetters t_made t_cutAt t_wanted t_isDone t_child t_isFull t_isSaved t_savedKind t_savedExponent t_savedLetters) H := hP
      have hD : va_D A (pX11_findParent cy h t_kind t_exponent t_letters t_images t_imageSizes t_fed t_at t_rowSize t_steps t_found t_foundMany t_keptMany t_keptLetters t_made t_cutAt t_wanted t_isDone t_child t_isFull t_isSaved t_savedKind t_savedExponent t_savedLetters) := hD
      refine lv_iadd hx hb dX11_findParent_55 ?_
      refine lv_aload_n hx hb dX11_findParent_56 rfl (lv_at hl 0 rfl) ?_
      refine lv_iconst (v := 1) hx hb dX11_findParent_57 (by decide) ?_
      refine lv_iload_n hx hb dX11_findParent_58 rfl (lv_at hl 2 rfl) ?_
      refine cb_VI (As := [.int 1, .int x3]) (rest := [.int ((((y_3 - r_7) - r_8) + r_11)), .int x3, .ref (h 6)]) ⟨hx, hb, hml, hown, hts⟩ (kX11_before l dC dI cy (adl [h 0, h 1, h 4, h 5, h 9, h 10, h 11, h 2, h 12, h 13, h 3, h 14, h 6, h 7, h 8, h 15, h 16, h 17, h 18, h 19, h 20, h 21]) t_kind t_exponent t_letters t_images t_fed t_at t_rowSize t_steps t_foundMany t_keptMany t_keptLetters t_made t_cutAt t_isFull t_isSaved t_savedKind t_savedExponent t_savedLetters 1 x3 _ hv) (cwV 2 hts gX11_findParent_X11_before rfl rfl rfl zX11_before ⟨Nat.le_of_ble_eq_true rfl, Nat.le_of_ble_eq_true rfl⟩) hK hP hD hS hA [0, 1, 4, 5] [some 0, some 1, none, none, some 2, some 3, none, none, none] rfl rfl rfl (ci := 11) rfl rfl (fun _ => rfl) rfl hl.1 rfl (Nat.le_of_ble_eq_true rfl) dX11_findParent_59 (fun r_12 w_15 H locs hv hP hD hS => ?_)
      have hP : va_P (dC, dI) vwCl (pX11_findParent cy h t_kind t_exponent t_letters t_images t_imageSizes t_fed t_at t_rowSize t_steps t_found t_foundMany t_keptMany t_keptLetters t_made t_cutAt t_wanted t_isDone t_child t_isFull t_isSaved t_savedKind t_savedExponent t_savedLetters) H := hP
      have hD : va_D A (pX11_findParent cy h t_kind t_exponent t_letters t_images t_imageSizes t_fed t_at t_rowSize t_steps t_found t_foundMany t_keptMany t_keptLetters t_made t_cutAt t_wanted t_isDone t_child t_isFull t_isSaved t_savedKind t_savedExponent t_savedLetters) := hD
      refine lv_iadd hx hb dX11_findParent_62 ?_
      refine lv_topi (fun y_13 ey_13 => ?_)
      have hv := hv y_13 ey_13
      have h_14 := hv.1
      have hv := hv.2
      refine va_iast hx hb hK hP hD hS 6 0 rfl rfl h_14 dX11_findParent_63 (fun H locs hP hD hS => ?_)
      have hP : va_P (dC, dI) vwCl (pX11_findParent cy h t_kind t_exponent t_letters t_images t_imageSizes t_fed t_at t_rowSize t_steps t_found t_foundMany t_keptMany t_keptLetters t_made t_cutAt (upd t_wanted x3.toNatClampNeg y_13) t_isDone t_child t_isFull t_isSaved t_savedKind t_savedExponent t_savedLetters) H := hP
      have hD : va_D A (pX11_findParent cy h t_kind t_exponent t_letters t_images t_imageSizes t_fed t_at t_rowSize t_steps t_found t_foundMany t_keptMany t_keptLetters t_made t_cutAt (upd t_wanted x3.toNatClampNeg y_13) t_isDone t_child t_isFull t_isSaved t_savedKind t_savedExponent t_savedLetters) := hD
      refine lv_iinc (v := (x3 + 1)) (lv' := [(3, .int ((x3 + 1))), (0, .ref (h 0)), (1, .long p1)]) hx hb dX11_findParent_64 hl (k := 2) rfl rfl (by decide) rfl (fun ls hl => ?_)
      refine lv_goto (tgt := 2) hx hb dX11_findParent_67 (by decide) ?_
      exact ih t_found t_foundMany t_made (upd t_wanted x3.toNatClampNeg y_13) t_isDone t_isFull (x3 + 1) hv _ _ _ hP hD hS (lv_sub hl [1, 2, 0] rfl)
set_option maxHeartbeats 4000000 in
set_option maxRecDepth 100000 in
theorem wX11_findParent_0 {p : Program} (l : Launch) {e : Env} {s : State} {m : MethodId} {args : Array Value} {below : List Frame} {meth : Method} {c : Code} {dC : Nat → ClassId} {dI : Nat → Nat → Nat} {cy : Nat → ClassId} {A : Nat → Prop} (h : Nat → Nat) (post : (Nat → Int32) → Int32 → (Nat → Int32) → (Nat → Int32) → (Nat → Int32) → Int32 → Prop)   (t_kind : Int32) (t_exponent : Int32) (t_letters : Int32) (t_images : Nat → Int32) (t_imageSizes : Nat → Int32) (t_fed : Int32) (t_at : Int32) (t_rowSize : Int32) (t_steps : Int32) (t_keptMany : Int32) (t_keptLetters : Int32) (t_cutAt : Nat → Int32) (t_child : Nat → Int32) (t_isSaved : Int32) (t_savedKind : Int32) (t_savedExponent : Int32) (t_savedLetters : Int32) (p1 : Int64) (C0 : cx p s m args meth c cX11_findParent 5 none wsX11_findParent RX11 dC dI cy A)  : ∀ (t_found : Nat → Int32) (t_foundMany : Int32) (t_made : Nat → Int32) (t_wanted : Nat → Int32) (t_isDone : Nat → Int32) (t_isFull : Int32), VX11_findParent post t_letters t_images t_imageSizes t_cutAt t_child p1 t_found t_foundMany t_made t_wanted t_isDone t_isFull → ∀ (H : Heap) (locs : List Loc) (ls : Array Slot), va_P (dC, dI) vwCl (pX11_findParent cy h t_kind t_exponent t_letters t_images t_imageSizes t_fed t_at t_rowSize t_steps t_found t_foundMany t_keptMany t_keptLetters t_made t_cutAt t_wanted t_isDone t_child t_isFull t_isSaved t_savedKind t_savedExponent t_savedLetters) H → va_D A (pX11_findParent cy h t_kind t_exponent t_letters t_images t_imageSizes t_fed t_at t_rowSize t_steps t_found t_foundMany t_keptMany t_keptLetters t_made t_cutAt t_wanted t_isDone t_child t_isFull t_isSaved t_savedKind t_savedExponent t_savedLetters) → va_S A s.heap H locs → lv_has ls 5 [(0, .ref (h 0)), (1, .long p1)] → W p l e rX11_findParent s m args below meth c H locs 0 0 (MQ below (va_Qv (fun (u : (Nat → Int32) × Int32 × (Nat → Int32) × (Nat → Int32) × (Nat → Int32) × Int32) => post u.1 u.2.1 u.2.2.1 u.2.2.2.1 u.2.2.2.2.1 u.2.2.2.2.2) (fun (u : (Nat → Int32) × Int32 × (Nat → Int32) × (Nat → Int32) × (Nat → Int32) × Int32) (t : State) => va_P (dC, dI) vwCl (pX11_findParent cy h t_kind t_exponent t_letters t_images t_imageSizes t_fed t_at t_rowSize t_steps u.1 u.2.1 t_keptMany t_keptLetters u.2.2.1 t_cutAt u.2.2.2.1 u.2.2.2.2.1 t_child u.2.2.2.2.2 t_isSaved t_savedKind t_savedExponent t_savedLetters) t.heap) A) args s 0 0 A) (F0 m 0 ls []) := by
  have C1 := C0
  obtain ⟨hx, hb, hr, hml, hown, hts, hlocks, hK, hA⟩ := C1
  intro t_found t_foundMany t_made t_wanted t_isDone t_isFull hv H locs ls hP hD hS hl
  refine lv_iconst (v := 0) hx hb dX11_findParent_0 (by decide) ?_
  refine lv_istore_n (lv' := [(3, .int 0), (0, .ref (h 0)), (1, .long p1)]) hx hb dX11_findParent_1 rfl hl (by decide) rfl (fun ls hl => ?_)
  obtain ⟨n_1, hv⟩ := hv
  exact wX11_findParent_2 l h post  t_kind t_exponent t_letters t_images t_imageSizes t_fed t_at t_rowSize t_steps t_keptMany t_keptLetters t_cutAt t_child t_isSaved t_savedKind t_savedExponent t_savedLetters p1 C0 n_1 t_found t_foundMany t_made t_wanted t_isDone t_isFull 0 hv _ _ _ hP hD hS (lv_sub hl [1, 2, 0] rfl)
theorem kX11_findParent (l : Launch) (dC : Nat → ClassId) (dI : Nat → Nat → Nat) (cy : Nat → ClassId) (h : Nat → Nat) (t_kind : Int32) (t_exponent : Int32) (t_letters : Int32) (t_images : Nat → Int32) (t_imageSizes : Nat → Int32) (t_fed : Int32) (t_at : Int32) (t_rowSize : Int32) (t_steps : Int32) (t_found : Nat → Int32) (t_foundMany : Int32) (t_keptMany : Int32) (t_keptLetters : Int32) (t_made : Nat → Int32) (t_cutAt : Nat → Int32) (t_wanted : Nat → Int32) (t_isDone : Nat → Int32) (t_child : Nat → Int32) (t_isFull : Int32) (t_isSaved : Int32) (t_savedKind : Int32) (t_savedExponent : Int32) (t_savedLetters : Int32) (p1 : Int64) (post : (Nat → Int32) → Int32 → (Nat → Int32) → (Nat → Int32) → (Nat → Int32) → Int32 → Prop) (hv : VX11_findParent post t_letters t_images t_imageSizes t_cutAt t_child p1 t_found t_foundMany t_made t_wanted t_isDone t_isFull) : CtV l yX11_findParent wsX11_findParent rX11_findParent dC dI cy [.ref (h 0), .long p1] (pX11_findParent cy h t_kind t_exponent t_letters t_images t_imageSizes t_fed t_at t_rowSize t_steps t_found t_foundMany t_keptMany t_keptLetters t_made t_cutAt t_wanted t_isDone t_child t_isFull t_isSaved t_savedKind t_savedExponent t_savedLetters) (fun (u : (Nat → Int32) × Int32 × (Nat → Int32) × (Nat → Int32) × (Nat → Int32) × Int32) => pX11_findParent cy h t_kind t_exponent t_letters t_images t_imageSizes t_fed t_at t_rowSize t_steps u.1 u.2.1 t_keptMany t_keptLetters u.2.2.1 t_cutAt u.2.2.2.1 u.2.2.2.2.1 t_child u.2.2.2.2.2 t_isSaved t_savedKind t_savedExponent t_savedLetters) (fun (u : (Nat → Int32) × Int32 × (Nat → Int32) × (Nat → Int32) × (Nat → Int32) × Int32) => post u.1 u.2.1 u.2.2.1 u.2.2.2.1 u.2.2.2.2.1 u.2.2.2.2.2) :=
  ct_ofV (by decide) rfl (Nat.le_of_ble_eq_true rfl) (fun p e s m below meth c A ls C0 hP hD hS hl => wX11_findParent_0 l h post t_kind t_exponent t_letters t_images t_imageSizes t_fed t_at t_rowSize t_steps t_keptMany t_keptLetters t_cutAt t_child t_isSaved t_savedKind t_savedExponent t_savedLetters p1 C0 t_found t_foundMany t_made t_wanted t_isDone t_isFull hv _ _ _ hP hD hS hl)
theorem mX11_findParents_1 : (Cond.fieldLink RX11 16 "AbelianPowersModel" "letters" "I") ∈ wsX11_findParents := List.mem_of_getElem? (i := 1) rfl
theorem mX11_findParents_2 : (Cond.fieldLink RX11 47 "AbelianPowersModel" "made" "[I") ∈ wsX11_findParents := List.mem_of_getElem? (i := 2) rfl
theorem mX11_findParents_3 : (Cond.fieldLink RX11 220 "AbelianPowersModel" "isFull" "Z") ∈ wsX11_findParents := List.mem_of_getElem? (i := 3) rfl
theorem mX11_findParents_4 : (Cond.fieldLink RX11 50 "AbelianPowersModel" "cutAt" "[I") ∈ wsX11_findParents := List.mem_of_getElem? (i := 4) rfl
theorem mX11_findParents_5 : (Cond.fieldLink RX11 60 "AbelianPowersModel" "child" "[I") ∈ wsX11_findParents := List.mem_of_getElem? (i := 5) rfl
theorem nX11_findParents_X11 : ∀ w ∈ wsX110, w ∈ wsX11_findParents := fun _ h => List.mem_cons_of_mem _ (List.mem_append_right _ h)
theorem zX11_findParents : yX11_findParents.cls = RX11 ∧ yX11_findParents.cls ≠ "java/lang/invoke/MethodHandle" ∧ yX11_findParents.cls ≠ "java/lang/invoke/VarHandle" ∧ (parseMethodDescriptor yX11_findParents.desc).map (fun d => d.parameters.length) = some 1 := by decide +kernel
abbrev rX11_findParents : Room := { frames := 12, cells := 0, slots := 0, locals := 325 }
abbrev pX11_findParents (cy : Nat → ClassId) (h : Nat → Nat) (t_kind : Int32) (t_exponent : Int32) (t_letters : Int32) (t_images : Nat → Int32) (t_imageSizes : Nat → Int32) (t_fed : Int32) (t_at : Int32) (t_rowSize : Int32) (t_steps : Int32) (t_found : Nat → Int32) (t_foundMany : Int32) (t_keptMany : Int32) (t_keptLetters : Int32) (t_made : Nat → Int32) (t_cutAt : Nat → Int32) (t_wanted : Nat → Int32) (t_isDone : Nat → Int32) (t_child : Nat → Int32) (t_isFull : Int32) (t_isSaved : Int32) (t_savedKind : Int32) (t_savedExponent : Int32) (t_savedLetters : Int32) : va_W := [(h 0, .inr (11, [.int t_kind, .int t_exponent, .int t_letters, .ref (h 9), .ref (h 10), .ref (h 11), .ref (h 1), .ref (h 2), .ref (h 12), .int t_fed, .int t_at, .ref (h 13), .int t_rowSize, .int t_steps, .ref (h 3), .int t_foundMany, .ref (h 14), .int t_keptMany, .int t_keptLetters, .ref (h 4), .ref (h 5), .ref (h 6), .ref (h 7), .ref (h 8), .int t_isFull, .ref (h 15), .ref (h 16), .int t_isSaved, .int t_savedKind, .int t_savedExponent, .int t_savedLetters, .ref (h 17), .ref (h 18), .ref (h 19), .ref (h 20), .ref (h 21)])), (h 1, .inl (cy 0, 16, .inl t_images)), (h 2, .inl (cy 0, 4, .inl t_imageSizes)), (h 3, .inl (cy 0, 1407, .inl t_found)), (h 4, .inl (cy 0, 7, .inl t_made)), (h 5, .inl (cy 0, 3, .inl t_cutAt)), (h 6, .inl (cy 0, 4, .inl t_wanted)), (h 7, .inl (cy 2, 201, .inl t_isDone)), (h 8, .inl (cy 0, 7, .inl t_child))]
def VX11_findParents_91 (post : (Nat → Int32) → Int32 → (Nat → Int32) → (Nat → Int32) → (Nat → Int32) → (Nat → Int32) → Int32 → Prop) (K2 : (Nat → Int32) → Int32 → (Nat → Int32) → (Nat → Int32) → (Nat → Int32) → (Nat → Int32) → Int32 → Int32 → Prop) (t_letters : Int32) (t_images : Nat → Int32) (t_imageSizes : Nat → Int32) (t_child : Nat → Int32) (p1 : Int64) : Nat → (Nat → Int32) → Int32 → (Nat → Int32) → (Nat → Int32) → (Nat → Int32) → (Nat → Int32) → Int32 → Int32 → Int32 → Prop
  | 0, _, _, _, _, _, _, _, _, _ => False
  | n + 1, t_found, t_foundMany, t_made, t_cutAt, t_wanted, t_isDone, t_isFull, x3, x4 => ((125 ≤ x4) → K2 t_found t_foundMany t_made t_cutAt t_wanted t_isDone t_isFull (x3 + 1)) ∧ (¬ (125 ≤ x4) → (¬ (t_isFull = 0) → K2 t_found t_foundMany t_made t_cutAt t_wanted t_isDone t_isFull (x3 + 1)) ∧ ((t_isFull = 0) → vp_in (0 : Int32) 3 ∧ (∀ y_19 : Int32, y_19 = ((x4 / 5) - (x4 / 5) / 5 * 5) → vp_in (1 : Int32) 3 ∧ (vp_in (2 : Int32) 3 ∧ (vp_in (0 : Int32) 7 ∧ (∀ y_23 : Int32, y_23 = (t_made (0 : Int32).toNatClampNeg) → vp_in (0 : Int32) 7 ∧ (∀ y_25 : Int32, y_25 = (t_child (0 : Int32).toNatClampNeg) → vp_in (0 : Int32) 3 ∧ (∀ y_27 : Int32, y_27 = ((upd (upd (upd t_cutAt (0 : Int32).toNatClampNeg (x4 / 25)) (1 : Int32).toNatClampNeg y_19) (2 : Int32).toNatClampNeg (x4 - x4 / 5 * 5)) (0 : Int32).toNatClampNeg) → VX11_isCut (fun r_29 => ((r_29 = 0) → VX11_findParents_91 post K2 t_letters t_images t_imageSizes t_child p1 n t_found t_foundMany t_made (upd (upd (upd t_cutAt (0 : Int32).toNatClampNeg (x4 / 25)) (1 : Int32).toNatClampNeg y_19) (2 : Int32).toNatClampNeg (x4 - x4 / 5 * 5)) t_wanted t_isDone t_isFull x3 (x4 + 1)) ∧ (¬ (r_29 = 0) → vp_in (1 : Int32) 7 ∧ (∀ y_30 : Int32, y_30 = (t_made (1 : Int32).toNatClampNeg) → vp_in (1 : Int32) 7 ∧ (∀ y_32 : Int32, y_32 = (t_child (1 : Int32).toNatClampNeg) → vp_in (1 : Int32) 3 ∧ (∀ y_34 : Int32, y_34 = ((upd (upd (upd t_cutAt (0 : Int32).toNatClampNeg (x4 / 25)) (1 : Int32).toNatClampNeg y_19) (2 : Int32).toNatClampNeg (x4 - x4 / 5 * 5)) (1 : Int32).toNatClampNeg) → VX11_isCut (fun r_36 => ((r_36 = 0) → VX11_findParents_91 post K2 t_letters t_images t_imageSizes t_child p1 n t_found t_foundMany t_made (upd (upd (upd t_cutAt (0 : Int32).toNatClampNeg (x4 / 25)) (1 : Int32).toNatClampNeg y_19) (2 : Int32).toNatClampNeg (x4 - x4 / 5 * 5)) t_wanted t_isDone t_isFull x3 (x4 + 1)) ∧ (¬ (r_36 = 0) → vp_in (2 : Int32) 7 ∧ (∀ y_37 : Int32, y_37 = (t_made (2 : Int32).toNatClampNeg) → vp_in (2 : Int32) 7 ∧ (∀ y_39 : Int32, y_39 = (t_child (2 : Int32).toNatClampNeg) → vp_in (2 : Int32) 3 ∧ (∀ y_41 : Int32, y_41 = ((upd (upd (upd t_cutAt (0 : Int32).toNatClampNeg (x4 / 25)) (1 : Int32).toNatClampNeg y_19) (2 : Int32).toNatClampNeg (x4 - x4 / 5 * 5)) (2 : Int32).toNatClampNeg) → VX11_isCut (fun r_43 => ((r_43 = 0) → VX11_findParents_91 post K2 t_letters t_images t_imageSizes t_child p1 n t_found t_foundMany t_made (upd (upd (upd t_cutAt (0 : Int32).toNatClampNeg (x4 / 25)) (1 : Int32).toNatClampNeg y_19) (2 : Int32).toNatClampNeg (x4 - x4 / 5 * 5)) t_wanted t_isDone t_isFull x3 (x4 + 1)) ∧ (¬ (r_43 = 0) → VX11_findParent (fun u_44 u_45 u_46 u_47 u_48 u_49 => VX11_findParents_91 post K2 t_letters t_images t_imageSizes t_child p1 n u_44 u_45 u_46 (upd (upd (upd t_cutAt (0 : Int32).toNatClampNeg (x4 / 25)) (1 : Int32).toNatClampNeg y_19) (2 : Int32).toNatClampNeg (x4 - x4 / 5 * 5)) u_47 u_48 u_49 x3 (x4 + 1)) t_letters t_images t_imageSizes (upd (upd (upd t_cutAt (0 : Int32).toNatClampNeg (x4 / 25)) (1 : Int32).toNatClampNeg y_19) (2 : Int32).toNatClampNeg (x4 - x4 / 5 * 5)) t_child p1 t_found t_foundMany t_made t_wanted t_isDone t_isFull)) t_images t_imageSizes y_37 y_39 y_41))))) t_images t_imageSizes y_30 y_32 y_34))))) t_images t_imageSizes y_23 y_25 y_27))))))))
def VX11_findParents_2 (post : (Nat → Int32) → Int32 → (Nat → Int32) → (Nat → Int32) → (Nat → Int32) → (Nat → Int32) → Int32 → Prop)  (t_letters : Int32) (t_images : Nat → Int32) (t_imageSizes : Nat → Int32) (t_child : Nat → Int32) (p1 : Int64) : Nat → (Nat → Int32) → Int32 → (Nat → Int32) → (Nat → Int32) → (Nat → Int32) → (Nat → Int32) → Int32 → Int32 → Prop
  | 0, _, _, _, _, _, _, _, _ => False
  | n + 1, t_found, t_foundMany, t_made, t_cutAt, t_wanted, t_isDone, t_isFull, x3 => ∀ y_2 : Int32, y_2 = ((t_letters + 1) * (t_letters + 1)) → (((y_2 * (t_letters + 1)) ≤ x3) → post t_found t_foundMany t_made t_cutAt t_wanted t_isDone t_isFull) ∧ (¬ ((y_2 * (t_letters + 1)) ≤ x3) → ∀ y_3 : Int32, y_3 = ((t_letters + 1) * (t_letters + 1)) → ¬ y_3 = 0 ∧ (vp_in (0 : Int32) 7 ∧ (¬ (t_letters + 1) = 0 ∧ (¬ (t_letters + 1) = 0 ∧ (∀ y_8 : Int32, y_8 = ((x3 / (t_letters + 1)) - (x3 / (t_letters + 1)) / (t_letters + 1) * (t_letters + 1)) → vp_in (1 : Int32) 7 ∧ (¬ (t_letters + 1) = 0 ∧ (∀ y_11 : Int32, y_11 = (x3 - x3 / (t_letters + 1) * (t_letters + 1)) → vp_in (2 : Int32) 7 ∧ (∃ n91 : Nat, VX11_findParents_91 post (fun t_found t_foundMany t_made t_cutAt t_wanted t_isDone t_isFull x3 => VX11_findParents_2 post t_letters t_images t_imageSizes t_child p1 n t_found t_foundMany t_made t_cutAt t_wanted t_isDone t_isFull x3) t_letters t_images t_imageSizes t_child p1 n91 t_found t_foundMany (upd (upd (upd t_made (0 : Int32).toNatClampNeg ((x3 / y_3) - 1)) (1 : Int32).toNatClampNeg (y_8 - 1)) (2 : Int32).toNatClampNeg (y_11 - 1)) t_cutAt t_wanted t_isDone t_isFull x3 0))))))))
def VX11_findParents (post : (Nat → Int32) → Int32 → (Nat → Int32) → (Nat → Int32) → (Nat → Int32) → (Nat → Int32) → Int32 → Prop)  (t_letters : Int32) (t_images : Nat → Int32) (t_imageSizes : Nat → Int32) (t_child : Nat → Int32) (p1 : Int64) (t_found : Nat → Int32) (t_foundMany : Int32) (t_made : Nat → Int32) (t_cutAt : Nat → Int32) (t_wanted : Nat → Int32) (t_isDone : Nat → Int32) (t_isFull : Int32) : Prop := ∃ n2 : Nat, VX11_findParents_2 post t_letters t_images t_imageSizes t_child p1 n2 t_found t_foundMany t_made t_cutAt t_wanted t_isDone t_isFull 0
set_option maxHeartbeats 4000000 in
set_option maxRecDepth 100000 in
theorem wX11_findParents_91 {p : Program} (l : Launch) {e : Env} {s : State} {m : MethodId} {args : Array Value} {below : List Frame} {meth : Method} {c : Code} {dC : Nat → ClassId} {dI : Nat → Nat → Nat} {cy : Nat → ClassId} {A : Nat → Prop} (h : Nat → Nat) (post : (Nat → Int32) → Int32 → (Nat → Int32) → (Nat → Int32) → (Nat → Int32) → (Nat → Int32) → Int32 → Prop) (K2 : (Nat → Int32) → Int32 → (Nat → Int32) → (Nat → Int32) → (Nat → Int32) → (Nat → Int32) → Int32 → Int32 → Prop)  (t_kind : Int32) (t_exponent : Int32) (t_letters : Int32) (t_images : Nat → Int32) (t_imageSizes : Nat → Int32) (t_fed : Int32) (t_at : Int32) (t_rowSize : Int32) (t_steps : Int32) (t_keptMany : Int32) (t_keptLetters : Int32) (t_child : Nat → Int32) (t_isSaved : Int32) (t_savedKind : Int32) (t_savedExponent : Int32) (t_savedLetters : Int32) (p1 : Int64) (C0 : cx p s m args meth c cX11_findParents 5 none wsX11_findParents RX11 dC dI cy A) (hK2 : ∀ (t_found : Nat → Int32) (t_foundMany : Int32) (t_made : Nat → Int32) (t_cutAt : Nat → Int32) (t_wanted : Nat → Int32) (t_isDone : Nat → Int32) (t_isFull : Int32) (x3 : Int32), K2 t_found t_foundMany t_made t_cutAt t_wanted t_isDone t_isFull x3 → ∀ (H : Heap) (locs : List Loc) (ls : Array Slot), va_P (dC, dI) vwCl (pX11_findParents cy h t_kind t_exponent t_letters t_images t_imageSizes t_fed t_at t_rowSize t_steps t_found t_foundMany t_keptMany t_keptLetters t_made t_cutAt t_wanted t_isDone t_child t_isFull t_isSaved t_savedKind t_savedExponent t_savedLetters) H → va_D A (pX11_findParents cy h t_kind t_exponent t_letters t_images t_imageSizes t_fed t_at t_rowSize t_steps t_found t_foundMany t_keptMany t_keptLetters t_made t_cutAt t_wanted t_isDone t_child t_isFull t_isSaved t_savedKind t_savedExponent t_savedLetters) → va_S A s.heap H locs → lv_has ls 5 [(0, .ref (h 0)), (1, .long p1), (3, .int x3)] → W p l e rX11_findParents s m args below meth c H locs 0 0 (MQ below (va_Qv (fun (u : (Nat → Int32) × Int32 × (Nat → Int32) × (Nat → Int32) × (Nat → Int32) × (Nat → Int32) × Int32) => post u.1 u.2.1 u.2.2.1 u.2.2.2.1 u.2.2.2.2.1 u.2.2.2.2.2.1 u.2.2.2.2.2.2) (fun (u : (Nat → Int32) × Int32 × (Nat → Int32) × (Nat → Int32) × (Nat → Int32) × (Nat → Int32) × Int32) (t : State) => va_P (dC, dI) vwCl (pX11_findParents cy h t_kind t_exponent t_letters t_images t_imageSizes t_fed t_at t_rowSize t_steps u.1 u.2.1 t_keptMany t_keptLetters u.2.2.1 u.2.2.2.1 u.2.2.2.2.1 u.2.2.2.2.2.1 t_child u.2.2.2.2.2.2 t_isSaved t_savedKind t_savedExponent t_savedLetters) t.heap) A) args s 0 0 A) (F0 m 2 ls [])) : ∀ (n : Nat) (t_found : Nat → Int32) (t_foundMany : Int32) (t_made : Nat → Int32) (t_cutAt : Nat → Int32) (t_wanted : Nat → Int32) (t_isDone : Nat → Int32) (t_isFull : Int32) (x3 : Int32) (x4 : Int32), VX11_findParents_91 post K2 t_letters t_images t_imageSizes t_child p1 n t_found t_foundMany t_made t_cutAt t_wanted t_isDone t_isFull x3 x4 → ∀ (H : Heap) (locs : List Loc) (ls : Array Slot), va_P (dC, dI) vwCl (pX11_findParents cy h t_kind t_exponent t_letters t_images t_imageSizes t_fed t_at t_rowSize t_steps t_found t_foundMany t_keptMany t_keptLetters t_made t_cutAt t_wanted t_isDone t_child t_isFull t_isSaved t_savedKind t_savedExponent t_savedLetters) H → va_D A (pX11_findParents cy h t_kind t_exponent t_letters t_images t_imageSizes t_fed t_at t_rowSize t_steps t_found t_foundMany t_keptMany t_keptLetters t_made t_cutAt t_wanted t_isDone t_child t_isFull t_isSaved t_savedKind t_savedExponent t_savedLetters) → va_S A s.heap H locs → lv_has ls 5 [(0, .ref (h 0)), (1, .long p1), (3, .int x3), (4, .int x4)] → W p l e rX11_findParents s m args below meth c H locs 0 0 (MQ below (va_Qv (fun (u : (Nat → Int32) × Int32 × (Nat → Int32) × (Nat → Int32) × (Nat → Int32) × (Nat → Int32) × Int32) => post u.1 u.2.1 u.2.2.1 u.2.2.2.1 u.2.2.2.2.1 u.2.2.2.2.2.1 u.2.2.2.2.2.2) (fun (u : (Nat → Int32) × Int32 × (Nat → Int32) × (Nat → Int32) × (Nat → Int32) × (Nat → Int32) × Int32) (t : State) => va_P (dC, dI) vwCl (pX11_findParents cy h t_kind t_exponent t_letters t_images t_imageSizes t_fed t_at t_rowSize t_steps u.1 u.2.1 t_keptMany t_keptLetters u.2.2.1 u.2.2.2.1 u.2.2.2.2.1 u.2.2.2.2.2.1 t_child u.2.2.2.2.2.2 t_isSaved t_savedKind t_savedExponent t_savedLetters) t.heap) A) args s 0 0 A) (F0 m 91 ls []) := by
  have C1 := C0
  obtain ⟨hx, hb, hr, hml, hown, hts, hlocks, hK, hA⟩ := C1
  intro n
  induction n with
  | zero => intro t_found t_foundMany t_made t_cutAt t_wanted t_isDone t_isFull x3 x4 hv; exact hv.elim
  | succ n ih =>
    intro t_found t_foundMany t_made t_cutAt t_wanted t_isDone t_isFull x3 x4 hv H locs ls hP hD hS hl
    refine lv_iload hx hb dX11_findParents_91 (lv_at hl 3 rfl) ?_
    refine lv_bipush (v := 125) hx hb dX11_findParents_93 (by decide) ?_
    refine lv_icmp_ge (tgt := 224) hx hb dX11_findParents_95 (by decide) (fun c_58 => ?_) (fun c_58 => ?_)
    · have hv := hv.1 c_58
      refine lv_iinc (v := (x3 + 1)) (lv' := [(3, .int ((x3 + 1))), (0, .ref (h 0)), (1, .long p1), (4, .int x4)]) hx hb dX11_findParents_224 hl (k := 2) rfl rfl (by decide) rfl (fun ls hl => ?_)
      refine lv_goto (tgt := 2) hx hb dX11_findParents_227 (by decide) ?_
      exact hK2 t_found t_foundMany t_made t_cutAt t_wanted t_isDone t_isFull (x3 + 1) hv _ _ _ hP hD hS (lv_sub hl [1, 2, 0] rfl)
    · have hv := hv.2 c_58
      refine lv_aload_n hx hb dX11_findParents_98 rfl (lv_at hl 0 rfl) ?_
      refine va_get (D := (dC, dI)) (ci := 11) (v := .int t_isFull) (C := RX11) (T := TX11) (N := 36) hx hb hts nX11_findParents_X11 hown hK hP 0 rfl rfl 24 (by decide) (hts _ mX11_findParents_3) (fun _ h9 => h9) rfl dX11_findParents_99 ?_
      refine lv_if_ne (tgt := 224) hx hb dX11_findParents_102 (by decide) (fun c_57 => ?_) (fun c_57 => ?_)
      · have hv := hv.1 c_57
        refine lv_iinc (v := (x3 + 1)) (lv' := [(3, .int ((x3 + 1))), (0, .ref (h 0)), (1, .long p1), (4, .int x4)]) hx hb dX11_findParents_224 hl (k := 2) rfl rfl (by decide) rfl (fun ls hl => ?_)
        refine lv_goto (tgt := 2) hx hb dX11_findParents_227 (by decide) ?_
        exact hK2 t_found t_foundMany t_made t_cutAt t_wanted t_isDone t_isFull (x3 + 1) hv _ _ _ hP hD hS (lv_sub hl [1, 2, 0] rfl)
      · have hv := hv.2 c_57
        refine lv_aload_n hx hb dX11_findParents_105 rfl (lv_at hl 0 rfl) ?_
        refine va_get (D := (dC, dI)) (ci := 11) (v := .ref (h 5)) (C := RX11) (T := TX11) (N := 36) hx hb hts nX11_findParents_X11 hown hK hP 0 rfl rfl 20 (by decide) (hts _ mX11_findParents_4) (fun _ h9 => h9) rfl dX11_findParents_106 ?_
        refine lv_iconst (v := 0) hx hb dX11_findParents_109 (by decide) ?_
        refine lv_iload hx hb dX11_findParents_110 (lv_at hl 3 rfl) ?_
        refine lv_bipush (v := 25) hx hb dX11_findParents_112 (by decide) ?_
        refine lv_idiv hx hb dX11_findParents_114 (by decide) ?_
        have h_16 := hv.1
        have hv := hv.2
        refine va_iast hx hb hK hP hD hS 5 0 rfl rfl h_16 dX11_findParents_115 (fun H locs hP hD hS => ?_)
        have hP : va_P (dC, dI) vwCl (pX11_findParents cy h t_kind t_exponent t_letters t_images t_imageSizes t_fed t_at t_rowSize t_steps t_found t_foundMany t_keptMany t_keptLetters t_made (upd t_cutAt (0 : Int32).toNatClampNeg (x4 / 25)) t_wanted t_isDone t_child t_isFull t_isSaved t_savedKind t_savedExponent t_savedLetters) H := hP
        have hD : va_D A (pX11_findParents cy h t_kind t_exponent t_letters t_images t_imageSizes t_fed t_at t_rowSize t_steps t_found t_foundMany t_keptMany t_keptLetters t_made (upd t_cutAt (0 : Int32).toNatClampNeg (x4 / 25)) t_wanted t_isDone t_child t_isFull t_isSaved t_savedKind t_savedExponent t_savedLetters) := hD
        refine lv_aload_n hx hb dX11_findParents_116 rfl (lv_at hl 0 rfl) ?_
        refine va_get (D := (dC, dI)) (ci := 11) (v := .ref (h 5)) (C := RX11) (T := TX11) (N := 36) hx hb hts nX11_findParents_X11 hown hK hP 0 rfl rfl 20 (by decide) (hts _ mX11_findParents_4) (fun _ h9 => h9) rfl dX11_findParents_117 ?_
        refine lv_iconst (v := 1) hx hb dX11_findParents_120 (by decide) ?_
        refine lv_iload hx hb dX11_findParents_121 (lv_at hl 3 rfl) ?_
        refine lv_iconst (v := 5) hx hb dX11_findParents_123 (by decide) ?_
        refine lv_idiv hx hb dX11_findParents_124 (by decide) ?_
        refine lv_iconst (v := 5) hx hb dX11_findParents_125 (by decide) ?_
        refine lv_irem hx hb dX11_findParents_126 (by decide) ?_
        refine lv_topi (fun y_19 ey_19 => ?_)
        have hv := hv y_19 ey_19
        have h_20 := hv.1
        have hv := hv.2
        refine va_iast hx hb hK hP hD hS 5 0 rfl rfl h_20 dX11_findParents_127 (fun H locs hP hD hS => ?_)
        have hP : va_P (dC, dI) vwCl (pX11_findParents cy h t_kind t_exponent t_letters t_images t_imageSizes t_fed t_at t_rowSize t_steps t_found t_foundMany t_keptMany t_keptLetters t_made (upd (upd t_cutAt (0 : Int32).toNatClampNeg (x4 / 25)) (1 : Int32).toNatClampNeg y_19) t_wanted t_isDone t_child t_isFull t_isSaved t_savedKind t_savedExponent t_savedLetters) H := hP
        have hD : va_D A (pX11_findParents cy h t_kind t_exponent t_letters t_images t_imageSizes t_fed t_at t_rowSize t_steps t_found t_foundMany t_keptMany t_keptLetters t_made (upd (upd t_cutAt (0 : Int32).toNatClampNeg (x4 / 25)) (1 : Int32).toNatClampNeg y_19) t_wanted t_isDone t_child t_isFull t_isSaved t_savedKind t_savedExponent t_savedLetters) := hD
        refine lv_aload_n hx hb dX11_findParents_128 rfl (lv_at hl 0 rfl) ?_
        refine va_get (D := (dC, dI)) (ci := 11) (v := .ref (h 5)) (C := RX11) (T := TX11) (N := 36) hx hb hts nX11_findParents_X11 hown hK hP 0 rfl rfl 20 (by decide) (hts _ mX11_findParents_4) (fun _ h9 => h9) rfl dX11_findParents_129 ?_
        refine lv_iconst (v := 2) hx hb dX11_findParents_132 (by decide) ?_
        refine lv_iload hx hb dX11_findParents_133 (lv_at hl 3 rfl) ?_
        refine lv_iconst (v := 5) hx hb dX11_findParents_135 (by decide) ?_
        refine lv_irem hx hb dX11_findParents_136 (by decide) ?_
        have h_22 := hv.1
        have hv := hv.2
        refine va_iast hx hb hK hP hD hS 5 0 rfl rfl h_22 dX11_findParents_137 (fun H locs hP hD hS => ?_)
        have hP : va_P (dC, dI) vwCl (pX11_findParents cy h t_kind t_exponent t_letters t_images t_imageSizes t_fed t_at t_rowSize t_steps t_found t_foundMany t_keptMany t_keptLetters t_made (upd (upd (upd t_cutAt (0 : Int32).toNatClampNeg (x4 / 25)) (1 : Int32).toNatClampNeg y_19) (2 : Int32).toNatClampNeg (x4 - x4 / 5 * 5)) t_wanted t_isDone t_child t_isFull t_isSaved t_savedKind t_savedExponent t_savedLetters) H := hP
        have hD : va_D A (pX11_findParents cy h t_kind t_exponent t_letters t_images t_imageSizes t_fed t_at t_rowSize t_steps t_found t_foundMany t_keptMany t_keptLetters t_made (upd (upd (upd t_cutAt (0 : Int32).toNatClampNeg (x4 / 25)) (1 : Int32).toNatClampNeg y_19) (2 : Int32).toNatClampNeg (x4 - x4 / 5 * 5)) t_wanted t_isDone t_child t_isFull t_isSaved t_savedKind t_savedExponent t_savedLetters) := hD
        refine lv_aload_n hx hb dX11_findParents_138 rfl (lv_at hl 0 rfl) ?_
        refine lv_aload_n hx hb dX11_findParents_139 rfl (lv_at hl 0 rfl) ?_
        refine va_get (D := (dC, dI)) (ci := 11) (v := .ref (h 4)) (C := RX11) (T := TX11) (N := 36) hx hb hts nX11_findParents_X11 hown hK hP 0 rfl rfl 19 (by decide) (hts _ mX11_findParents_2) (fun _ h9 => h9) rfl dX11_findParents_140 ?_
        refine lv_iconst (v := 0) hx hb dX11_findParents_143 (by decide) ?_
        have h_24 := hv.1
        have hv := hv.2
        refine va_iald hx hb hK hP 4 0 rfl rfl h_24 dX11_findParents_144 ?_
        refine lv_topi (fun y_23 ey_23 => ?_)
        have hv := hv y_23 ey_23
        refine lv_aload_n hx hb dX11_findParents_145 rfl (lv_at hl 0 rfl) ?_
        refine va_get (D := (dC, dI)) (ci := 11) (v := .ref (h 8)) (C := RX11) (T := TX11) (N := 36) hx hb hts nX11_findParents_X11 hown hK hP 0 rfl rfl 23 (by decide) (hts _ mX11_findParents_5) (fun _ h9 => h9) rfl dX11_findParents_146 ?_
        refine lv_iconst (v := 0) hx hb dX11_findParents_149 (by decide) ?_
        have h_26 := hv.1
        have hv := hv.2
        refine va_iald hx hb hK hP 8 0 rfl rfl h_26 dX11_findParents_150 ?_
        refine lv_topi (fun y_25 ey_25 => ?_)
        have hv := hv y_25 ey_25
        refine lv_aload_n hx hb dX11_findParents_151 rfl (lv_at hl 0 rfl) ?_
        refine va_get (D := (dC, dI)) (ci := 11) (v := .ref (h 5)) (C := RX11) (T := TX11) (N := 36) hx hb hts nX11_findParents_X11 hown hK hP 0 rfl rfl 20 (by decide) (hts _ mX11_findParents_4) (fun _ h9 => h9) rfl dX11_findParents_152 ?_
        refine lv_iconst (v := 0) hx hb dX11_findParents_155 (by decide) ?_
        have h_28 := hv.1
        have hv := hv.2
        refine va_iald hx hb hK hP 5 0 rfl rfl h_28 dX11_findParents_156 ?_
        refine lv_topi (fun y_27 ey_27 => ?_)
        have hv := hv y_27 ey_27
        refine cb_VI (As := [.int y_23, .int y_25, .int y_27]) (rest := []) ⟨hx, hb, hml, hown, hts⟩ (kX11_isCut l dC dI cy (adl [h 0, h 1, h 2, h 9, h 10, h 11, h 12, h 13, h 3, h 14, h 4, h 5, h 6, h 7, h 8, h 15, h 16, h 17, h 18, h 19, h 20, h 21]) t_kind t_exponent t_letters t_images t_imageSizes t_fed t_at t_rowSize t_steps t_foundMany t_keptMany t_keptLetters t_isFull t_isSaved t_savedKind t_savedExponent t_savedLetters y_23 y_25 y_27 _ hv) (cwV 3 hts gX11_findParents_X11_isCut rfl rfl rfl zX11_isCut ⟨Nat.le_of_ble_eq_true rfl, Nat.le_of_ble_eq_true rfl⟩) hK hP hD hS hA [0, 1, 2] [some 0, some 1, some 2, none, none, none, none, none, none] rfl rfl rfl (ci := 11) rfl rfl (fun _ => rfl) rfl hl.1 rfl (Nat.le_of_ble_eq_true rfl) dX11_findParents_157 (fun r_29 w_56 H locs hv hP hD hS => ?_)
        have hP : va_P (dC, dI) vwCl (pX11_findParents cy h t_kind t_exponent t_letters t_images t_imageSizes t_fed t_at t_rowSize t_steps t_found t_foundMany t_keptMany t_keptLetters t_made (upd (upd (upd t_cutAt (0 : Int32).toNatClampNeg (x4 / 25)) (1 : Int32).toNatClampNeg y_19) (2 : Int32).toNatClampNeg (x4 - x4 / 5 * 5)) t_wanted t_isDone t_child t_isFull t_isSaved t_savedKind t_savedExponent t_savedLetters) H := hP
        have hD : va_D A (pX11_findParents cy h t_kind t_exponent t_letters t_images t_imageSizes t_fed t_at t_rowSize t_steps t_found t_foundMany t_keptMany t_keptLetters t_made (upd (upd (upd t_cutAt (0 : Int32).toNatClampNeg (x4 / 25)) (1 : Int32).toNatClampNeg y_19) (2 : Int32).toNatClampNeg (x4 - x4 / 5 * 5)) t_wanted t_isDone t_child t_isFull t_isSaved t_savedKind t_savedExponent t_savedLetters) := hD
        refine lv_if_eq (tgt := 218) hx hb dX11_findParents_160 (by decide) (fun c_55 => ?_) (fun c_55 => ?_)
        · have hv := hv.1 c_55
          refine lv_iinc (v := (x4 + 1)) (lv' := [(4, .int ((x4 + 1))), (0, .ref (h 0)), (1, .long p1), (3, .int x3)]) hx hb dX11_findParents_218 hl (k := 3) rfl rfl (by decide) rfl (fun ls hl => ?_)
          refine lv_goto (tgt := 91) hx hb dX11_findParents_221 (by decide) ?_
          exact ih t_found t_foundMany t_made (upd (upd (upd t_cutAt (0 : Int32).toNatClampNeg (x4 / 25)) (1 : Int32).toNatClampNeg y_19) (2 : Int32).toNatClampNeg (x4 - x4 / 5 * 5)) t_wanted t_isDone t_isFull x3 (x4 + 1) hv _ _ _ hP hD hS (lv_sub hl [1, 2, 3, 0] rfl)
        · have hv := hv.2 c_55
          refine lv_aload_n hx hb dX11_findParents_163 rfl (lv_at hl 0 rfl) ?_
          refine lv_aload_n hx hb dX11_findParents_164 rfl (lv_at hl 0 rfl) ?_
          refine va_get (D := (dC, dI)) (ci := 11) (v := .ref (h 4)) (C := RX11) (T := TX11) (N := 36) hx hb hts nX11_findParents_X11 hown hK hP 0 rfl rfl 19 (by decide) (hts _ mX11_findParents_2) (fun _ h9 => h9) rfl dX11_findParents_165 ?_
          refine lv_iconst (v := 1) hx hb dX11_findParents_168 (by decide) ?_
          have h_31 := hv.1
          have hv := hv.2
          refine va_iald hx hb hK hP 4 0 rfl rfl h_31 dX11_findParents_169 ?_
          refine lv_topi (fun y_30 ey_30 => ?_)
          have hv := hv y_30 ey_30
          refine lv_aload_n hx hb dX11_findParents_170 rfl (lv_at hl 0 rfl) ?_
          refine va_get (D := (dC, dI)) (ci := 11) (v := .ref (h 8)) (C := RX11) (T := TX11) (N := 36) hx hb hts nX11_findParents_X11 hown hK hP 0 rfl rfl 23 (by decide) (hts _ mX11_findParents_5) (fun _ h9 => h9) rfl dX11_findParents_171 ?_
          refine lv_iconst (v := 1) hx hb dX11_findParents_174 (by decide) ?_
          have h_33 := hv.1
          have hv := hv.2
          refine va_iald hx hb hK hP 8 0 rfl rfl h_33 dX11_findParents_175 ?_
          refine lv_topi (fun y_32 ey_32 => ?_)
          have hv := hv y_32 ey_32
          refine lv_aload_n hx hb dX11_findParents_176 rfl (lv_at hl 0 rfl) ?_
          refine va_get (D := (dC, dI)) (ci := 11) (v := .ref (h 5)) (C := RX11) (T := TX11) (N := 36) hx hb hts nX11_findParents_X11 hown hK hP 0 rfl rfl 20 (by decide) (hts _ mX11_findParents_4) (fun _ h9 => h9) rfl dX11_findParents_177 ?_
          refine lv_iconst (v := 1) hx hb dX11_findParents_180 (by decide) ?_
          have h_35 := hv.1
          have hv := hv.2
          refine va_iald hx hb hK hP 5 0 rfl rfl h_35 dX11_findParents_181 ?_
          refine lv_topi (fun y_34 ey_34 => ?_)
          have hv := hv y_34 ey_34
          refine cb_VI (As := [.int y_30, .int y_32, .int y_34]) (rest := []) ⟨hx, hb, hml, hown, hts⟩ (kX11_isCut l dC dI cy (adl [h 0, h 1, h 2, h 9, h 10, h 11, h 12, h 13, h 3, h 14, h 4, h 5, h 6, h 7, h 8, h 15, h 16, h 17, h 18, h 19, h 20, h 21]) t_kind t_exponent t_letters t_images t_imageSizes t_fed t_at t_rowSize t_steps t_foundMany t_keptMany t_keptLetters t_isFull t_isSaved t_savedKind t_savedExponent t_savedLetters y_30 y_32 y_34 _ hv) (cwV 3 hts gX11_findParents_X11_isCut rfl rfl rfl zX11_isCut ⟨Nat.le_of_ble_eq_true rfl, Nat.le_of_ble_eq_true rfl⟩) hK hP hD hS hA [0, 1, 2] [some 0, some 1, some 2, none, none, none, none, none, none] rfl rfl rfl (ci := 11) rfl rfl (fun _ => rfl) rfl hl.1 rfl (Nat.le_of_ble_eq_true rfl) dX11_findParents_182 (fun r_36 w_54 H locs hv hP hD hS => ?_)
          have hP : va_P (dC, dI) vwCl (pX11_findParents cy h t_kind t_exponent t_letters t_images t_imageSizes t_fed t_at t_rowSize t_steps t_found t_foundMany t_keptMany t_keptLetters t_made (upd (upd (upd t_cutAt (0 : Int32).toNatClampNeg (x4 / 25)) (1 : Int32).toNatClampNeg y_19) (2 : Int32).toNatClampNeg (x4 - x4 / 5 * 5)) t_wanted t_isDone t_child t_isFull t_isSaved t_savedKind t_savedExponent t_savedLetters) H := hP
          have hD : va_D A (pX11_findParents cy h t_kind t_exponent t_letters t_images t_imageSizes t_fed t_at t_rowSize t_steps t_found t_foundMany t_keptMany t_keptLetters t_made (upd (upd (upd t_cutAt (0 : Int32).toNatClampNeg (x4 / 25)) (1 : Int32).toNatClampNeg y_19) (2 : Int32).toNatClampNeg (x4 - x4 / 5 * 5)) t_wanted t_isDone t_child t_isFull t_isSaved t_savedKind t_savedExponent t_savedLetters) := hD
          refine lv_if_eq (tgt := 218) hx hb dX11_findParents_185 (by decide) (fun c_53 => ?_) (fun c_53 => ?_)
          · have hv := hv.1 c_53
            refine lv_iinc (v := (x4 + 1)) (lv' := [(4, .int ((x4 + 1))), (0, .ref (h 0)), (1, .long p1), (3, .int x3)]) hx hb dX11_findParents_218 hl (k := 3) rfl rfl (by decide) rfl (fun ls hl => ?_)
            refine lv_goto (tgt := 91) hx hb dX11_findParents_221 (by decide) ?_
            exact ih t_found t_foundMany t_made (upd (upd (upd t_cutAt (0 : Int32).toNatClampNeg (x4 / 25)) (1 : Int32).toNatClampNeg y_19) (2 : Int32).toNatClampNeg (x4 - x4 / 5 * 5)) t_wanted t_isDone t_isFull x3 (x4 + 1) hv _ _ _ hP hD hS (lv_sub hl [1, 2, 3, 0] rfl)
          · have hv := hv.2 c_53
            refine lv_aload_n hx hb dX11_findParents_188 rfl (lv_at hl 0 rfl) ?_
            refine lv_aload_n hx hb dX11_findParents_189 rfl (lv_at hl 0 rfl) ?_
            refine va_get (D := (dC, dI)) (ci := 11) (v := .ref (h 4)) (C := RX11) (T := TX11) (N := 36) hx hb hts nX11_findParents_X11 hown hK hP 0 rfl rfl 19 (by decide) (hts _ mX11_findParents_2) (fun _ h9 => h9) rfl dX11_findParents_190 ?_
            refine lv_iconst (v := 2) hx hb dX11_findParents_193 (by decide) ?_
            have h_38 := hv.1
            have hv := hv.2
            refine va_iald hx hb hK hP 4 0 rfl rfl h_38 dX11_findParents_194 ?_
            refine lv_topi (fun y_37 ey_37 => ?_)
            have hv := hv y_37 ey_37
            refine lv_aload_n hx hb dX11_findParents_195 rfl (lv_at hl 0 rfl) ?_
            refine va_get (D := (dC, dI)) (ci := 11) (v := .ref (h 8)) (C := RX11) (T := TX11) (N := 36) hx hb hts nX11_findParents_X11 hown hK hP 0 rfl rfl 23 (by decide) (hts _ mX11_findParents_5) (fun _ h9 => h9) rfl dX11_findParents_196 ?_
            refine lv_iconst (v := 2) hx hb dX11_findParents_199 (by decide) ?_
            have h_40 := hv.1
            have hv := hv.2
            refine va_iald hx hb hK hP 8 0 rfl rfl h_40 dX11_findParents_200 ?_
            refine lv_topi (fun y_39 ey_39 => ?_)
            have hv := hv y_39 ey_39
            refine lv_aload_n hx hb dX11_findParents_201 rfl (lv_at hl 0 rfl) ?_
            refine va_get (D := (dC, dI)) (ci := 11) (v := .ref (h 5)) (C := RX11) (T := TX11) (N := 36) hx hb hts nX11_findParents_X11 hown hK hP 0 rfl rfl 20 (by decide) (hts _ mX11_findParents_4) (fun _ h9 => h9) rfl dX11_findParents_202 ?_
            refine lv_iconst (v := 2) hx hb dX11_findParents_205 (by decide) ?_
            have h_42 := hv.1
            have hv := hv.2
            refine va_iald hx hb hK hP 5 0 rfl rfl h_42 dX11_findParents_206 ?_
            refine lv_topi (fun y_41 ey_41 => ?_)
            have hv := hv y_41 ey_41
            refine cb_VI (As := [.int y_37, .int y_39, .int y_41]) (rest := []) ⟨hx, hb, hml, hown, hts⟩ (kX11_isCut l dC dI cy (adl [h 0, h 1, h 2, h 9, h 10, h 11, h 12, h 13, h 3, h 14, h 4, h 5, h 6, h 7, h 8, h 15, h 16, h 17, h 18, h 19, h 20, h 21]) t_kind t_exponent t_letters t_images t_imageSizes t_fed t_at t_rowSize t_steps t_foundMany t_keptMany t_keptLetters t_isFull t_isSaved t_savedKind t_savedExponent t_savedLetters y_37 y_39 y_41 _ hv) (cwV 3 hts gX11_findParents_X11_isCut rfl rfl rfl zX11_isCut ⟨Nat.le_of_ble_eq_true rfl, Nat.le_of_ble_eq_true rfl⟩) hK hP hD hS hA [0, 1, 2] [some 0, some 1, some 2, none, none, none, none, none, none] rfl rfl rfl (ci := 11) rfl rfl (fun _ => rfl) rfl hl.1 rfl (Nat.le_of_ble_eq_true rfl) dX11_findParents_207 (fun r_43 w_52 H locs hv hP hD hS => ?_)
            have hP : va_P (dC, dI) vwCl (pX11_findParents cy h t_kind t_exponent t_letters t_images t_imageSizes t_fed t_at t_rowSize t_steps t_found t_foundMany t_keptMany t_keptLetters t_made (upd (upd (upd t_cutAt (0 : Int32).toNatClampNeg (x4 / 25)) (1 : Int32).toNatClampNeg y_19) (2 : Int32).toNatClampNeg (x4 - x4 / 5 * 5)) t_wanted t_isDone t_child t_isFull t_isSaved t_savedKind t_savedExponent t_savedLetters) H := hP
            have hD : va_D A (pX11_findParents cy h t_kind t_exponent t_letters t_images t_imageSizes t_fed t_at t_rowSize t_steps t_found t_foundMany t_keptMany t_keptLetters t_made (upd (upd (upd t_cutAt (0 : Int32).toNatClampNeg (x4 / 25)) (1 : Int32).toNatClampNeg y_19) (2 : Int32).toNatClampNeg (x4 - x4 / 5 * 5)) t_wanted t_isDone t_child t_isFull t_isSaved t_savedKind t_savedExponent t_savedLetters) := hD
            refine lv_if_eq (tgt := 218) hx hb dX11_findParents_210 (by decide) (fun c_51 => ?_) (fun c_51 => ?_)
            · have hv := hv.1 c_51
              refine lv_iinc (v := (x4 + 1)) (lv' := [(4, .int ((x4 + 1))), (0, .ref (h 0)), (1, .long p1), (3, .int x3)]) hx hb dX11_findParents_218 hl (k := 3) rfl rfl (by decide) rfl (fun ls hl => ?_)
              refine lv_goto (tgt := 91) hx hb dX11_findParents_221 (by decide) ?_
              exact ih t_found t_foundMany t_made (upd (upd (upd t_cutAt (0 : Int32).toNatClampNeg (x4 / 25)) (1 : Int32).toNatClampNeg y_19) (2 : Int32).toNatClampNeg (x4 - x4 / 5 * 5)) t_wanted t_isDone t_isFull x3 (x4 + 1) hv _ _ _ hP hD hS (lv_sub hl [1, 2, 3, 0] rfl)
            · have hv := hv.2 c_51
              refine lv_aload_n hx hb dX11_findParents_213 rfl (lv_at hl 0 rfl) ?_
              refine lv_lload_n hx hb dX11_findParents_214 rfl (lv_at hl 1 rfl) ?_
              refine cb_VV (As := [.long p1]) (rest := []) ⟨hx, hb, hml, hown, hts⟩ (kX11_findParent l dC dI cy (adl [h 0, h 1, h 2, h 3, h 4, h 5, h 6, h 7, h 8, h 9, h 10, h 11, h 12, h 13, h 14, h 15, h 16, h 17, h 18, h 19, h 20, h 21]) t_kind t_exponent t_letters t_images t_imageSizes t_fed t_at t_rowSize t_steps t_found t_foundMany t_keptMany t_keptLetters t_made (upd (upd (upd t_cutAt (0 : Int32).toNatClampNeg (x4 / 25)) (1 : Int32).toNatClampNeg y_19) (2 : Int32).toNatClampNeg (x4 - x4 / 5 * 5)) t_wanted t_isDone t_child t_isFull t_isSaved t_savedKind t_savedExponent t_savedLetters p1 _ hv) (cwV 1 hts gX11_findParents_X11_findParent rfl rfl rfl zX11_findParent ⟨Nat.le_of_ble_eq_true rfl, Nat.le_of_ble_eq_true rfl⟩) hK hP hD hS hA [0, 1, 2, 3, 4, 5, 6, 7, 8] [some 0, some 1, some 2, some 3, some 4, some 5, some 6, some 7, some 8] rfl rfl rfl (ci := 11) rfl rfl (fun _ => rfl) rfl hl.1 rfl (Nat.le_of_ble_eq_true rfl) dX11_findParents_215 (fun w_50 H locs hv hP hD hS => ?_)
              obtain ⟨u_44, u_45, u_46, u_47, u_48, u_49⟩ := w_50
              have hP : va_P (dC, dI) vwCl (pX11_findParents cy h t_kind t_exponent t_letters t_images t_imageSizes t_fed t_at t_rowSize t_steps u_44 u_45 t_keptMany t_keptLetters u_46 (upd (upd (upd t_cutAt (0 : Int32).toNatClampNeg (x4 / 25)) (1 : Int32).toNatClampNeg y_19) (2 : Int32).toNatClampNeg (x4 - x4 / 5 * 5)) u_47 u_48 t_child u_49 t_isSaved t_savedKind t_savedExponent t_savedLetters) H := hP
              have hD : va_D A (pX11_findParents cy h t_kind t_exponent t_letters t_images t_imageSizes t_fed t_at t_rowSize t_steps u_44 u_45 t_keptMany t_keptLetters u_46 (upd (upd (upd t_cutAt (0 : Int32).toNatClampNeg (x4 / 25)) (1 : Int32).toNatClampNeg y_19) (2 : Int32).toNatClampNeg (x4 - x4 / 5 * 5)) u_47 u_48 t_child u_49 t_isSaved t_savedKind t_savedExponent t_savedLetters) := hD
              refine lv_iinc (v := (x4 + 1)) (lv' := [(4, .int ((x4 + 1))), (0, .ref (h 0)), (1, .long p1), (3, .int x3)]) hx hb dX11_findParents_218 hl (k := 3) rfl rfl (by decide) rfl (fun ls hl => ?_)
              refine lv_goto (tgt := 91) hx hb dX11_findParents_221 (by decide) ?_
              exact ih u_44 u_45 u_46 (upd (upd (upd t_cutAt (0 : Int32).toNatClampNeg (x4 / 25)) (1 : Int32).toNatClampNeg y_19) (2 : Int32).toNatClampNeg (x4 - x4 / 5 * 5)) u_47 u_48 u_49 x3 (x4 + 1) hv _ _ _ hP hD hS (lv_sub hl [1, 2, 3, 0] rfl)
set_option maxHeartbeats 4000000 in
set_option maxRecDepth 100000 in
theorem wX11_findParents_2 {p : Program} (l : Launch) {e : Env} {s : State} {m : MethodId} {args : Array Value} {below : List Frame} {meth : Method} {c : Code} {dC : Nat → ClassId} {dI : Nat → Nat → Nat} {cy : Nat → ClassId} {A : Nat → Prop} (h : Nat → Nat) (post : (Nat → Int32) → Int32 → (Nat → Int32) → (Nat → Int32) → (Nat → Int32) → (Nat → Int32) → Int32 → Prop)   (t_kind : Int32) (t_exponent : Int32) (t_letters : Int32) (t_images : Nat → Int32) (t_imageSizes : Nat → Int32) (t_fed : Int32) (t_at : Int32) (t_rowSize : Int32) (t_steps : Int32) (t_keptMany : Int32) (t_keptLetters : Int32) (t_child : Nat → Int32) (t_isSaved : Int32) (t_savedKind : Int32) (t_savedExponent : Int32) (t_savedLetters : Int32) (p1 : Int64) (C0 : cx p s m args meth c cX11_findParents 5 none wsX11_findParents RX11 dC dI cy A)  : ∀ (n : Nat) (t_found : Nat → Int32) (t_foundMany : Int32) (t_made : Nat → Int32) (t_cutAt : Nat → Int32) (t_wanted : Nat → Int32) (t_isDone : Nat → Int32) (t_isFull : Int32) (x3 : Int32), VX11_findParents_2 post t_letters t_images t_imageSizes t_child p1 n t_found t_foundMany t_made t_cutAt t_wanted t_isDone t_isFull x3 → ∀ (H : Heap) (locs : List Loc) (ls : Array Slot), va_P (dC, dI) vwCl (pX11_findParents cy h t_kind t_exponent t_letters t_images t_imageSizes t_fed t_at t_rowSize t_steps t_found t_foundMany t_keptMany t_keptLetters t_made t_cutAt t_wanted t_isDone t_child t_isFull t_isSaved t_savedKind t_savedExponent t_savedLetters) H → va_D A (pX11_findParents cy h t_kind t_exponent t_letters t_images t_imageSizes t_fed t_at t_rowSize t_steps t_found t_foundMany t_keptMany t_keptLetters t_made t_cutAt t_wanted t_isDone t_child t_isFull t_isSaved t_savedKind t_savedExponent t_savedLetters) → va_S A s.heap H locs → lv_has ls 5 [(0, .ref (h 0)), (1, .long p1), (3, .int x3)] → W p l e rX11_findParents s m args below meth c H locs 0 0 (MQ below (va_Qv (fun (u : (Nat → Int32) × Int32 × (Nat → Int32) × (Nat → Int32) × (Nat → Int32) × (Nat → Int32) × Int32) => post u.1 u.2.1 u.2.2.1 u.2.2.2.1 u.2.2.2.2.1 u.2.2.2.2.2.1 u.2.2.2.2.2.2) (fun (u : (Nat → Int32) × Int32 × (Nat → Int32) × (Nat → Int32) × (Nat → Int32) × (Nat → Int32) × Int32) (t : State) => va_P (dC, dI) vwCl (pX11_findParents cy h t_kind t_exponent t_letters t_images t_imageSizes t_fed t_at t_rowSize t_steps u.1 u.2.1 t_keptMany t_keptLetters u.2.2.1 u.2.2.2.1 u.2.2.2.2.1 u.2.2.2.2.2.1 t_child u.2.2.2.2.2.2 t_isSaved t_savedKind t_savedExponent t_savedLetters) t.heap) A) args s 0 0 A) (F0 m 2 ls []) := by
  have C1 := C0
  obtain ⟨hx, hb, hr, hml, hown, hts, hlocks, hK, hA⟩ := C1
  intro n
  induction n with
  | zero => intro t_found t_foundMany t_made t_cutAt t_wanted t_isDone t_isFull x3 hv; exact hv.elim
  | succ n ih =>
    intro t_found t_foundMany t_made t_cutAt t_wanted t_isDone t_isFull x3 hv H locs ls hP hD hS hl
    refine lv_iload_n hx hb dX11_findParents_2 rfl (lv_at hl 2 rfl) ?_
    refine lv_aload_n hx hb dX11_findParents_3 rfl (lv_at hl 0 rfl) ?_
    refine va_get (D := (dC, dI)) (ci := 11) (v := .int t_letters) (C := RX11) (T := TX11) (N := 36) hx hb hts nX11_findParents_X11 hown hK hP 0 rfl rfl 2 (by decide) (hts _ mX11_findParents_1) (fun _ h9 => h9) rfl dX11_findParents_4 ?_
    refine lv_iconst (v := 1) hx hb dX11_findParents_7 (by decide) ?_
    refine lv_iadd hx hb dX11_findParents_8 ?_
    refine lv_aload_n hx hb dX11_findParents_9 rfl (lv_at hl 0 rfl) ?_
    refine va_get (D := (dC, dI)) (ci := 11) (v := .int t_letters) (C := RX11) (T := TX11) (N := 36) hx hb hts nX11_findParents_X11 hown hK hP 0 rfl rfl 2 (by decide) (hts _ mX11_findParents_1) (fun _ h9 => h9) rfl dX11_findParents_10 ?_
    refine lv_iconst (v := 1) hx hb dX11_findParents_13 (by decide) ?_
    refine lv_iadd hx hb dX11_findParents_14 ?_
    refine lv_imul hx hb dX11_findParents_15 ?_
    refine lv_topi (fun y_2 ey_2 => ?_)
    have hv := hv y_2 ey_2
    refine lv_aload_n hx hb dX11_findParents_16 rfl (lv_at hl 0 rfl) ?_
    refine va_get (D := (dC, dI)) (ci := 11) (v := .int t_letters) (C := RX11) (T := TX11) (N := 36) hx hb hts nX11_findParents_X11 hown hK hP 0 rfl rfl 2 (by decide) (hts _ mX11_findParents_1) (fun _ h9 => h9) rfl dX11_findParents_17 ?_
    refine lv_iconst (v := 1) hx hb dX11_findParents_20 (by decide) ?_
    refine lv_iadd hx hb dX11_findParents_21 ?_
    refine lv_imul hx hb dX11_findParents_22 ?_
    refine lv_icmp_ge (tgt := 230) hx hb dX11_findParents_23 (by decide) (fun c_14 => ?_) (fun c_14 => ?_)
    · have hv := hv.1 c_14
      exact W.vret hx hb hr (fun t ht hW => ⟨⟨(t_found, t_foundMany, t_made, t_cutAt, t_wanted, t_isDone, t_isFull), rfl, hv, va_Ph ht hP⟩, hS.F ht⟩) hS.2.2 dX11_findParents_230
    · have hv := hv.2 c_14
      refine lv_aload_n hx hb dX11_findParents_26 rfl (lv_at hl 0 rfl) ?_
      refine va_get (D := (dC, dI)) (ci := 11) (v := .ref (h 4)) (C := RX11) (T := TX11) (N := 36) hx hb hts nX11_findParents_X11 hown hK hP 0 rfl rfl 19 (by decide) (hts _ mX11_findParents_2) (fun _ h9 => h9) rfl dX11_findParents_27 ?_
      refine lv_iconst (v := 0) hx hb dX11_findParents_30 (by decide) ?_
      refine lv_iload_n hx hb dX11_findParents_31 rfl (lv_at hl 2 rfl) ?_
      refine lv_aload_n hx hb dX11_findParents_32 rfl (lv_at hl 0 rfl) ?_
      refine va_get (D := (dC, dI)) (ci := 11) (v := .int t_letters) (C := RX11) (T := TX11) (N := 36) hx hb hts nX11_findParents_X11 hown hK hP 0 rfl rfl 2 (by decide) (hts _ mX11_findParents_1) (fun _ h9 => h9) rfl dX11_findParents_33 ?_
      refine lv_iconst (v := 1) hx hb dX11_findParents_36 (by decide) ?_
      refine lv_iadd hx hb dX11_findParents_37 ?_
      refine lv_aload_n hx hb dX11_findParents_38 rfl (lv_at hl 0 rfl) ?_
      refine va_get (D := (dC, dI)) (ci := 11) (v := .int t_letters) (C := RX11) (T := TX11) (N := 36) hx hb hts nX11_findParents_X11 hown hK hP 0 rfl rfl 2 (by decide) (hts _ mX11_findParents_1) (fun _ h9 => h9) rfl dX11_findParents_39 ?_
      refine lv_iconst (v := 1) hx hb dX11_findParents_42 (by decide) ?_
      refine lv_iadd hx hb dX11_findParents_43 ?_
      refine lv_imul hx hb dX11_findParents_44 ?_
      refine lv_topi (fun y_3 ey_3 => ?_)
      have hv := hv y_3 ey_3
      have hz_4 := hv.1
      have hv := hv.2
      refine lv_idiv hx hb dX11_findParents_45 hz_4 ?_
      refine lv_iconst (v := 1) hx hb dX11_findParents_46 (by decide) ?_
      refine lv_isub hx hb dX11_findParents_47 ?_
      have h_5 := hv.1
      have hv := hv.2
      refine va_iast hx hb hK hP hD hS 4 0 rfl rfl h_5 dX11_findParents_48 (fun H locs hP hD hS => ?_)
      have hP : va_P (dC, dI) vwCl (pX11_findParents cy h t_kind t_exponent t_letters t_images t_imageSizes t_fed t_at t_rowSize t_steps t_found t_foundMany t_keptMany t_keptLetters (upd t_made (0 : Int32).toNatClampNeg ((x3 / y_3) - 1)) t_cutAt t_wanted t_isDone t_child t_isFull t_isSaved t_savedKind t_savedExponent t_savedLetters) H := hP
      have hD : va_D A (pX11_findParents cy h t_kind t_exponent t_letters t_images t_imageSizes t_fed t_at t_rowSize t_steps t_found t_foundMany t_keptMany t_keptLetters (upd t_made (0 : Int32).toNatClampNeg ((x3 / y_3) - 1)) t_cutAt t_wanted t_isDone t_child t_isFull t_isSaved t_savedKind t_savedExponent t_savedLetters) := hD
      refine lv_aload_n hx hb dX11_findParents_49 rfl (lv_at hl 0 rfl) ?_
      refine va_get (D := (dC, dI)) (ci := 11) (v := .ref (h 4)) (C := RX11) (T := TX11) (N := 36) hx hb hts nX11_findParents_X11 hown hK hP 0 rfl rfl 19 (by decide) (hts _ mX11_findParents_2) (fun _ h9 => h9) rfl dX11_findParents_50 ?_
      refine lv_iconst (v := 1) hx hb dX11_findParents_53 (by decide) ?_
      refine lv_iload_n hx hb dX11_findParents_54 rfl (lv_at hl 2 rfl) ?_
      refine lv_aload_n hx hb dX11_findParents_55 rfl (lv_at hl 0 rfl) ?_
      refine va_get (D := (dC, dI)) (ci := 11) (v := .int t_letters) (C := RX11) (T := TX11) (N := 36) hx hb hts nX11_findParents_X11 hown hK hP 0 rfl rfl 2 (by decide) (hts _ mX11_findParents_1) (fun _ h9 => h9) rfl dX11_findParents_56 ?_
      refine lv_iconst (v := 1) hx hb dX11_findParents_59 (by decide) ?_
      refine lv_iadd hx hb dX11_findParents_60 ?_
      have hz_6 := hv.1
      have hv := hv.2
      refine lv_idiv hx hb dX11_findParents_61 hz_6 ?_
      refine lv_aload_n hx hb dX11_findParents_62 rfl (lv_at hl 0 rfl) ?_
      refine va_get (D := (dC, dI)) (ci := 11) (v := .int t_letters) (C := RX11) (T := TX11) (N := 36) hx hb hts nX11_findParents_X11 hown hK hP 0 rfl rfl 2 (by decide) (hts _ mX11_findParents_1) (fun _ h9 => h9) rfl dX11_findParents_63 ?_
      refine lv_iconst (v := 1) hx hb dX11_findParents_66 (by decide) ?_
      refine lv_iadd hx hb dX11_findParents_67 ?_
      have hz_7 := hv.1
      have hv := hv.2
      refine lv_irem hx hb dX11_findParents_68 hz_7 ?_
      refine lv_topi (fun y_8 ey_8 => ?_)
      have hv := hv y_8 ey_8
      refine lv_iconst (v := 1) hx hb dX11_findParents_69 (by decide) ?_
      refine lv_isub hx hb dX11_findParents_70 ?_
      have h_9 := hv.1
      have hv := hv.2
      refine va_iast hx hb hK hP hD hS 4 0 rfl rfl h_9 dX11_findParents_71 (fun H locs hP hD hS => ?_)
      have hP : va_P (dC, dI) vwCl (pX11_findParents cy h t_kind t_exponent t_letters t_images t_imageSizes t_fed t_at t_rowSize t_steps t_found t_foundMany t_keptMany t_keptLetters (upd (upd t_made (0 : Int32).toNatClampNeg ((x3 / y_3) - 1)) (1 : Int32).toNatClampNeg (y_8 - 1)) t_cutAt t_wanted t_isDone t_child t_isFull t_isSaved t_savedKind t_savedExponent t_savedLetters) H := hP
      have hD : va_D A (pX11_findParents cy h t_kind t_exponent t_letters t_images t_imageSizes t_fed t_at t_rowSize t_steps t_found t_foundMany t_keptMany t_keptLetters (upd (upd t_made (0 : Int32).toNatClampNeg ((x3 / y_3) - 1)) (1 : Int32).toNatClampNeg (y_8 - 1)) t_cutAt t_wanted t_isDone t_child t_isFull t_isSaved t_savedKind t_savedExponent t_savedLetters) := hD
      refine lv_aload_n hx hb dX11_findParents_72 rfl (lv_at hl 0 rfl) ?_
      refine va_get (D := (dC, dI)) (ci := 11) (v := .ref (h 4)) (C := RX11) (T := TX11) (N := 36) hx hb hts nX11_findParents_X11 hown hK hP 0 rfl rfl 19 (by decide) (hts _ mX11_findParents_2) (fun _ h9 => h9) rfl dX11_findParents_73 ?_
      refine lv_iconst (v := 2) hx hb dX11_findParents_76 (by decide) ?_
      refine lv_iload_n hx hb dX11_findParents_77 rfl (lv_at hl 2 rfl) ?_
      refine lv_aload_n hx hb dX11_findParents_78 rfl (lv_at hl 0 rfl) ?_
      refine va_get (D := (dC, dI)) (ci := 11) (v := .int t_letters) (C := RX11) (T := TX11) (N := 36) hx hb hts nX11_findParents_X11 hown hK hP 0 rfl rfl 2 (by decide) (hts _ mX11_findParents_1) (fun _ h9 => h9) rfl dX11_findParents_79 ?_
      refine lv_iconst (v := 1) hx hb dX11_findParents_82 (by decide) ?_
      refine lv_iadd hx hb dX11_findParents_83 ?_
      have hz_10 := hv.1
      have hv := hv.2
      refine lv_irem hx hb dX11_findParents_84 hz_10 ?_
      refine lv_topi (fun y_11 ey_11 => ?_)
      have hv := hv y_11 ey_11
      refine lv_iconst (v := 1) hx hb dX11_findParents_85 (by decide) ?_
      refine lv_isub hx hb dX11_findParents_86 ?_
      have h_12 := hv.1
      have hv := hv.2
      refine va_iast hx hb hK hP hD hS 4 0 rfl rfl h_12 dX11_findParents_87 (fun H locs hP hD hS => ?_)
      have hP : va_P (dC, dI) vwCl (pX11_findParents cy h t_kind t_exponent t_letters t_images t_imageSizes t_fed t_at t_rowSize t_steps t_found t_foundMany t_keptMany t_keptLetters (upd (upd (upd t_made (0 : Int32).toNatClampNeg ((x3 / y_3) - 1)) (1 : Int32).toNatClampNeg (y_8 - 1)) (2 : Int32).toNatClampNeg (y_11 - 1)) t_cutAt t_wanted t_isDone t_child t_isFull t_isSaved t_savedKind t_savedExponent t_savedLetters) H := hP
      have hD : va_D A (pX11_findParents cy h t_kind t_exponent t_letters t_images t_imageSizes t_fed t_at t_rowSize t_steps t_found t_foundMany t_keptMany t_keptLetters (upd (upd (upd t_made (0 : Int32).toNatClampNeg ((x3 / y_3) - 1)) (1 : Int32).toNatClampNeg (y_8 - 1)) (2 : Int32).toNatClampNeg (y_11 - 1)) t_cutAt t_wanted t_isDone t_child t_isFull t_isSaved t_savedKind t_savedExponent t_savedLetters) := hD
      refine lv_iconst (v := 0) hx hb dX11_findParents_88 (by decide) ?_
      refine lv_istore (lv' := [(4, .int 0), (0, .ref (h 0)), (1, .long p1), (3, .int x3)]) hx hb dX11_findParents_89 hl (by decide) rfl (fun ls hl => ?_)
      obtain ⟨n_13, hv⟩ := hv
      exact wX11_findParents_91 l h post (fun t_found t_foundMany t_made t_cutAt t_wanted t_isDone t_isFull x3 => VX11_findParents_2 post t_letters t_images t_imageSizes t_child p1 n t_found t_foundMany t_made t_cutAt t_wanted t_isDone t_isFull x3)  t_kind t_exponent t_letters t_images t_imageSizes t_fed t_at t_rowSize t_steps t_keptMany t_keptLetters t_child t_isSaved t_savedKind t_savedExponent t_savedLetters p1 C0 ih n_13 t_found t_foundMany (upd (upd (upd t_made (0 : Int32).toNatClampNeg ((x3 / y_3) - 1)) (1 : Int32).toNatClampNeg (y_8 - 1)) (2 : Int32).toNatClampNeg (y_11 - 1)) t_cutAt t_wanted t_isDone t_isFull x3 0 hv _ _ _ hP hD hS (lv_sub hl [1, 2, 3, 0] rfl)
set_option maxHeartbeats 4000000 in
set_option maxRecDepth 100000 in
theorem wX11_findParents_0 {p : Program} (l : Launch) {e : Env} {s : State} {m : MethodId} {args : Array Value} {below : List Frame} {meth : Method} {c : Code} {dC : Nat → ClassId} {dI : Nat → Nat → Nat} {cy : Nat → ClassId} {A : Nat → Prop} (h : Nat → Nat) (post : (Nat → Int32) → Int32 → (Nat → Int32) → (Nat → Int32) → (Nat → Int32) → (Nat → Int32) → Int32 → Prop)   (t_kind : Int32) (t_exponent : Int32) (t_letters : Int32) (t_images : Nat → Int32) (t_imageSizes : Nat → Int32) (t_fed : Int32) (t_at : Int32) (t_rowSize : Int32) (t_steps : Int32) (t_keptMany : Int32) (t_keptLetters : Int32) (t_child : Nat → Int32) (t_isSaved : Int32) (t_savedKind : Int32) (t_savedExponent : Int32) (t_savedLetters : Int32) (p1 : Int64) (C0 : cx p s m args meth c cX11_findParents 5 none wsX11_findParents RX11 dC dI cy A)  : ∀ (t_found : Nat → Int32) (t_foundMany : Int32) (t_made : Nat → Int32) (t_cutAt : Nat → Int32) (t_wanted : Nat → Int32) (t_isDone : Nat → Int32) (t_isFull : Int32), VX11_findParents post t_letters t_images t_imageSizes t_child p1 t_found t_foundMany t_made t_cutAt t_wanted t_isDone t_isFull → ∀ (H : Heap) (locs : List Loc) (ls : Array Slot), va_P (dC, dI) vwCl (pX11_findParents cy h t_kind t_exponent t_letters t_images t_imageSizes t_fed t_at t_rowSize t_steps t_found t_foundMany t_keptMany t_keptLetters t_made t_cutAt t_wanted t_isDone t_child t_isFull t_isSaved t_savedKind t_savedExponent t_savedLetters) H → va_D A (pX11_findParents cy h t_kind t_exponent t_letters t_images t_imageSizes t_fed t_at t_rowSize t_steps t_found t_foundMany t_keptMany t_keptLetters t_made t_cutAt t_wanted t_isDone t_child t_isFull t_isSaved t_savedKind t_savedExponent t_savedLetters) → va_S A s.heap H locs → lv_has ls 5 [(0, .ref (h 0)), (1, .long p1)] → W p l e rX11_findParents s m args below meth c H locs 0 0 (MQ below (va_Qv (fun (u : (Nat → Int32) × Int32 × (Nat → Int32) × (Nat → Int32) × (Nat → Int32) × (Nat → Int32) × Int32) => post u.1 u.2.1 u.2.2.1 u.2.2.2.1 u.2.2.2.2.1 u.2.2.2.2.2.1 u.2.2.2.2.2.2) (fun (u : (Nat → Int32) × Int32 × (Nat → Int32) × (Nat → Int32) × (Nat → Int32) × (Nat → Int32) × Int32) (t : State) => va_P (dC, dI) vwCl (pX11_findParents cy h t_kind t_exponent t_letters t_images t_imageSizes t_fed t_at t_rowSize t_steps u.1 u.2.1 t_keptMany t_keptLetters u.2.2.1 u.2.2.2.1 u.2.2.2.2.1 u.2.2.2.2.2.1 t_child u.2.2.2.2.2.2 t_isSaved t_savedKind t_savedExponent t_savedLetters) t.heap) A) args s 0 0 A) (F0 m 0 ls []) := by
  have C1 := C0
  obtain ⟨hx, hb, hr, hml, hown, hts, hlocks, hK, hA⟩ := C1
  intro t_found t_foundMany t_made t_cutAt t_wanted t_isDone t_isFull hv H locs ls hP hD hS hl
  refine lv_iconst (v := 0) hx hb dX11_findParents_0 (by decide) ?_
  refine lv_istore_n (lv' := [(3, .int 0), (0, .ref (h 0)), (1, .long p1)]) hx hb dX11_findParents_1 rfl hl (by decide) rfl (fun ls hl => ?_)
  obtain ⟨n_1, hv⟩ := hv
  exact wX11_findParents_2 l h post  t_kind t_exponent t_letters t_images t_imageSizes t_fed t_at t_rowSize t_steps t_keptMany t_keptLetters t_child t_isSaved t_savedKind t_savedExponent t_savedLetters p1 C0 n_1 t_found t_foundMany t_made t_cutAt t_wanted t_isDone t_isFull 0 hv _ _ _ hP hD hS (lv_sub hl [1, 2, 0] rfl)
theorem kX11_findParents (l : Launch) (dC : Nat → ClassId) (dI : Nat → Nat → Nat) (cy : Nat → ClassId) (h : Nat → Nat) (t_kind : Int32) (t_exponent : Int32) (t_letters : Int32) (t_images : Nat → Int32) (t_imageSizes : Nat → Int32) (t_fed : Int32) (t_at : Int32) (t_rowSize : Int32) (t_steps : Int32) (t_found : Nat → Int32) (t_foundMany : Int32) (t_keptMany : Int32) (t_keptLetters : Int32) (t_made : Nat → Int32) (t_cutAt : Nat → Int32) (t_wanted : Nat → Int32) (t_isDone : Nat → Int32) (t_child : Nat → Int32) (t_isFull : Int32) (t_isSaved : Int32) (t_savedKind : Int32) (t_savedExponent : Int32) (t_savedLetters : Int32) (p1 : Int64) (post : (Nat → Int32) → Int32 → (Nat → Int32) → (Nat → Int32) → (Nat → Int32) → (Nat → Int32) → Int32 → Prop) (hv : VX11_findParents post t_letters t_images t_imageSizes t_child p1 t_found t_foundMany t_made t_cutAt t_wanted t_isDone t_isFull) : CtV l yX11_findParents wsX11_findParents rX11_findParents dC dI cy [.ref (h 0), .long p1] (pX11_findParents cy h t_kind t_exponent t_letters t_images t_imageSizes t_fed t_at t_rowSize t_steps t_found t_foundMany t_keptMany t_keptLetters t_made t_cutAt t_wanted t_isDone t_child t_isFull t_isSaved t_savedKind t_savedExponent t_savedLetters) (fun (u : (Nat → Int32) × Int32 × (Nat → Int32) × (Nat → Int32) × (Nat → Int32) × (Nat → Int32) × Int32) => pX11_findParents cy h t_kind t_exponent t_letters t_images t_imageSizes t_fed t_at t_rowSize t_steps u.1 u.2.1 t_keptMany t_keptLetters u.2.2.1 u.2.2.2.1 u.2.2.2.2.1 u.2.2.2.2.2.1 t_child u.2.2.2.2.2.2 t_isSaved t_savedKind t_savedExponent t_savedLetters) (fun (u : (Nat → Int32) × Int32 × (Nat → Int32) × (Nat → Int32) × (Nat → Int32) × (Nat → Int32) × Int32) => post u.1 u.2.1 u.2.2.1 u.2.2.2.1 u.2.2.2.2.1 u.2.2.2.2.2.1 u.2.2.2.2.2.2) :=
  ct_ofV (by decide) rfl (Nat.le_of_ble_eq_true rfl) (fun p e s m below meth c A ls C0 hP hD hS hl => wX11_findParents_0 l h post t_kind t_exponent t_letters t_images t_imageSizes t_fed t_at t_rowSize t_steps t_keptMany t_keptLetters t_child t_isSaved t_savedKind t_savedExponent t_savedLetters p1 C0 t_found t_foundMany t_made t_cutAt t_wanted t_isDone t_isFull hv _ _ _ hP hD hS hl)
theorem mX11_firstOpen_1 : (Cond.fieldLink RX11 198 "AbelianPowersModel" "foundMany" "I") ∈ wsX11_firstOpen := List.mem_of_getElem? (i := 1) rfl
theorem mX11_firstOpen_2 : (Cond.fieldLink RX11 56 "AbelianPowersModel" "isDone" "[Z") ∈ wsX11_firstOpen := List.mem_of_getElem? (i := 2) rfl
theorem nX11_firstOpen_X11 : ∀ w ∈ wsX110, w ∈ wsX11_firstOpen := fun _ h => List.mem_cons_of_mem _ (List.mem_append_right _ h)
theorem zX11_firstOpen : yX11_firstOpen.cls = RX11 ∧ yX11_firstOpen.cls ≠ "java/lang/invoke/MethodHandle" ∧ yX11_firstOpen.cls ≠ "java/lang/invoke/VarHandle" ∧ (parseMethodDescriptor yX11_firstOpen.desc).map (fun d => d.parameters.length) = some 0 := by decide +kernel
abbrev rX11_firstOpen : Room := { frames := 0, cells := 0, slots := 0, locals := 0 }
abbrev pX11_firstOpen (cy : Nat → ClassId) (h : Nat → Nat) (t_kind : Int32) (t_exponent : Int32) (t_letters : Int32) (t_fed : Int32) (t_at : Int32) (t_rowSize : Int32) (t_steps : Int32) (t_foundMany : Int32) (t_keptMany : Int32) (t_keptLetters : Int32) (t_isDone : Nat → Int32) (t_isFull : Int32) (t_isSaved : Int32) (t_savedKind : Int32) (t_savedExponent : Int32) (t_savedLetters : Int32) : va_W := [(h 0, .inr (11, [.int t_kind, .int t_exponent, .int t_letters, .ref (h 2), .ref (h 3), .ref (h 4), .ref (h 5), .ref (h 6), .ref (h 7), .int t_fed, .int t_at, .ref (h 8), .int t_rowSize, .int t_steps, .ref (h 9), .int t_foundMany, .ref (h 10), .int t_keptMany, .int t_keptLetters, .ref (h 11), .ref (h 12), .ref (h 13), .ref (h 1), .ref (h 14), .int t_isFull, .ref (h 15), .ref (h 16), .int t_isSaved, .int t_savedKind, .int t_savedExponent, .int t_savedLetters, .ref (h 17), .ref (h 18), .ref (h 19), .ref (h 20), .ref (h 21)])), (h 1, .inl (cy 2, 201, .inl t_isDone))]
def VX11_firstOpen_2 (post : Int32 → Prop)  (t_foundMany : Int32) (t_isDone : Nat → Int32) : Nat → Int32 → Prop
  | 0, _ => False
  | n + 1, x1 => ((t_foundMany ≤ x1) → post (-2 : Int32)) ∧ (¬ (t_foundMany ≤ x1) → vp_in x1 201 ∧ ((¬ ((t_isDone x1.toNatClampNeg) = 0) → VX11_firstOpen_2 post t_foundMany t_isDone n (x1 + 1)) ∧ (((t_isDone x1.toNatClampNeg) = 0) → post x1)))
def VX11_firstOpen (post : Int32 → Prop)  (t_foundMany : Int32) (t_isDone : Nat → Int32)  : Prop := ∃ n2 : Nat, VX11_firstOpen_2 post t_foundMany t_isDone n2 0
set_option maxHeartbeats 4000000 in
set_option maxRecDepth 100000 in
theorem wX11_firstOpen_2 {p : Program} (l : Launch) {e : Env} {s : State} {m : MethodId} {args : Array Value} {below : List Frame} {meth : Method} {c : Code} {dC : Nat → ClassId} {dI : Nat → Nat → Nat} {cy : Nat → ClassId} {A : Nat → Prop} (h : Nat → Nat) (post : Int32 → Prop)   (t_kind : Int32) (t_exponent : Int32) (t_letters : Int32) (t_fed : Int32) (t_at : Int32) (t_rowSize : Int32) (t_steps : Int32) (t_foundMany : Int32) (t_keptMany : Int32) (t_keptLetters : Int32) (t_isDone : Nat → Int32) (t_isFull : Int32) (t_isSaved : Int32) (t_savedKind : Int32) (t_savedExponent : Int32) (t_savedLetters : Int32)  (C0 : cx p s m args meth c cX11_firstOpen 2 (some .int) wsX11_firstOpen RX11 dC dI cy A)  : ∀ (n : Nat) (x1 : Int32), VX11_firstOpen_2 post t_foundMany t_isDone n x1 → ∀ (H : Heap) (locs : List Loc) (ls : Array Slot), va_P (dC, dI) vwCl (pX11_firstOpen cy h t_kind t_exponent t_letters t_fed t_at t_rowSize t_steps t_foundMany t_keptMany t_keptLetters t_isDone t_isFull t_isSaved t_savedKind t_savedExponent t_savedLetters) H → va_D A (pX11_firstOpen cy h t_kind t_exponent t_letters t_fed t_at t_rowSize t_steps t_foundMany t_keptMany t_keptLetters t_isDone t_isFull t_isSaved t_savedKind t_savedExponent t_savedLetters) → va_S A s.heap H locs → lv_has ls 2 [(0, .ref (h 0)), (1, .int x1)] → W p l e rX11_firstOpen s m args below meth c H locs 0 0 (MQ below (va_Qi (fun (r : Int32) (_ : Unit) => post r) (fun (_ : Unit) (t : State) => va_P (dC, dI) vwCl (pX11_firstOpen cy h t_kind t_exponent t_letters t_fed t_at t_rowSize t_steps t_foundMany t_keptMany t_keptLetters t_isDone t_isFull t_isSaved t_savedKind t_savedExponent t_savedLetters) t.heap) A) args s 0 0 A) (F0 m 2 ls []) := by
  have C1 := C0
  obtain ⟨hx, hb, hr, hml, hown, hts, hlocks, hK, hA⟩ := C1
  intro n
  induction n with
  | zero => intro x1 hv; exact hv.elim
  | succ n ih =>
    intro x1 hv H locs ls hP hD hS hl
    refine lv_iload_n hx hb dX11_firstOpen_2 rfl (lv_at hl 1 rfl) ?_
    refine lv_aload_n hx hb dX11_firstOpen_3 rfl (lv_at hl 0 rfl) ?_
    refine va_get (D := (dC, dI)) (ci := 11) (v := .int t_foundMany) (C := RX11) (T := TX11) (N := 36) hx hb hts nX11_firstOpen_X11 hown hK hP 0 rfl rfl 15 (by decide) (hts _ mX11_firstOpen_1) (fun _ h9 => h9) rfl dX11_firstOpen_4 ?_
    refine lv_icmp_ge (tgt := 27) hx hb dX11_firstOpen_7 (by decide) (fun c_4 => ?_) (fun c_4 => ?_)
    · have hv := hv.1 c_4
      refine lv_bipush (v := (-2)) hx hb dX11_firstOpen_27 (by decide) ?_
      exact W.iret (v := (-2)) hx hb hr (fun t ht hW => ⟨⟨(-2), (), rfl, hv, va_Ph ht hP⟩, hS.F ht⟩) hS.2.2 dX11_firstOpen_29
    · have hv := hv.2 c_4
      refine lv_aload_n hx hb dX11_firstOpen_10 rfl (lv_at hl 0 rfl) ?_
      refine va_get (D := (dC, dI)) (ci := 11) (v := .ref (h 1)) (C := RX11) (T := TX11) (N := 36) hx hb hts nX11_firstOpen_X11 hown hK hP 0 rfl rfl 22 (by decide) (hts _ mX11_firstOpen_2) (fun _ h9 => h9) rfl dX11_firstOpen_11 ?_
      refine lv_iload_n hx hb dX11_firstOpen_14 rfl (lv_at hl 1 rfl) ?_
      have h_2 := hv.1
      have hv := hv.2
      refine va_zald hx hb hK hP 1 2 rfl rfl h_2 dX11_firstOpen_15 ?_
      refine lv_if_ne (tgt := 21) hx hb dX11_firstOpen_16 (by decide) (fun c_3 => ?_) (fun c_3 => ?_)
      · have hv := hv.1 c_3
        refine lv_iinc (v := (x1 + 1)) (lv' := [(1, .int ((x1 + 1))), (0, .ref (h 0))]) hx hb dX11_firstOpen_21 hl (k := 1) rfl rfl (by decide) rfl (fun ls hl => ?_)
        refine lv_goto (tgt := 2) hx hb dX11_firstOpen_24 (by decide) ?_
        exact ih (x1 + 1) hv _ _ _ hP hD hS (lv_sub hl [1, 0] rfl)
      · have hv := hv.2 c_3
        refine lv_iload_n hx hb dX11_firstOpen_19 rfl (lv_at hl 1 rfl) ?_
        exact W.iret (v := x1) hx hb hr (fun t ht hW => ⟨⟨x1, (), rfl, hv, va_Ph ht hP⟩, hS.F ht⟩) hS.2.2 dX11_firstOpen_20
set_option maxHeartbeats 4000000 in
set_option maxRecDepth 100000 in
theorem wX11_firstOpen_0 {p : Program} (l : Launch) {e : Env} {s : State} {m : MethodId} {args : Array Value} {below : List Frame} {meth : Method} {c : Code} {dC : Nat → ClassId} {dI : Nat → Nat → Nat} {cy : Nat → ClassId} {A : Nat → Prop} (h : Nat → Nat) (post : Int32 → Prop)   (t_kind : Int32) (t_exponent : Int32) (t_letters : Int32) (t_fed : Int32) (t_at : Int32) (t_rowSize : Int32) (t_steps : Int32) (t_foundMany : Int32) (t_keptMany : Int32) (t_keptLetters : Int32) (t_isDone : Nat → Int32) (t_isFull : Int32) (t_isSaved : Int32) (t_savedKind : Int32) (t_savedExponent : Int32) (t_savedLetters : Int32)  (C0 : cx p s m args meth c cX11_firstOpen 2 (some .int) wsX11_firstOpen RX11 dC dI cy A)  : VX11_firstOpen post t_foundMany t_isDone  → ∀ (H : Heap) (locs : List Loc) (ls : Array Slot), va_P (dC, dI) vwCl (pX11_firstOpen cy h t_kind t_exponent t_letters t_fed t_at t_rowSize t_steps t_foundMany t_keptMany t_keptLetters t_isDone t_isFull t_isSaved t_savedKind t_savedExponent t_savedLetters) H → va_D A (pX11_firstOpen cy h t_kind t_exponent t_letters t_fed t_at t_rowSize t_steps t_foundMany t_keptMany t_keptLetters t_isDone t_isFull t_isSaved t_savedKind t_savedExponent t_savedLetters) → va_S A s.heap H locs → lv_has ls 2 [(0, .ref (h 0))] → W p l e rX11_firstOpen s m args below meth c H locs 0 0 (MQ below (va_Qi (fun (r : Int32) (_ : Unit) => post r) (fun (_ : Unit) (t : State) => va_P (dC, dI) vwCl (pX11_firstOpen cy h t_kind t_exponent t_letters t_fed t_at t_rowSize t_steps t_foundMany t_keptMany t_keptLetters t_isDone t_isFull t_isSaved t_savedKind t_savedExponent t_savedLetters) t.heap) A) args s 0 0 A) (F0 m 0 ls []) := by
  have C1 := C0
  obtain ⟨hx, hb, hr, hml, hown, hts, hlocks, hK, hA⟩ := C1
  intro  hv H locs ls hP hD hS hl
  refine lv_iconst (v := 0) hx hb dX11_firstOpen_0 (by decide) ?_
  refine lv_istore_n (lv' := [(1, .int 0), (0, .ref (h 0))]) hx hb dX11_firstOpen_1 rfl hl (by decide) rfl (fun ls hl => ?_)
  obtain ⟨n_1, hv⟩ := hv
  exact wX11_firstOpen_2 l h post  t_kind t_exponent t_letters t_fed t_at t_rowSize t_steps t_foundMany t_keptMany t_keptLetters t_isDone t_isFull t_isSaved t_savedKind t_savedExponent t_savedLetters C0 n_1 0 hv _ _ _ hP hD hS (lv_sub hl [1, 0] rfl)
theorem kX11_firstOpen (l : Launch) (dC : Nat → ClassId) (dI : Nat → Nat → Nat) (cy : Nat → ClassId) (h : Nat → Nat) (t_kind : Int32) (t_exponent : Int32) (t_letters : Int32) (t_fed : Int32) (t_at : Int32) (t_rowSize : Int32) (t_steps : Int32) (t_foundMany : Int32) (t_keptMany : Int32) (t_keptLetters : Int32) (t_isDone : Nat → Int32) (t_isFull : Int32) (t_isSaved : Int32) (t_savedKind : Int32) (t_savedExponent : Int32) (t_savedLetters : Int32)  (post : Int32 → Prop) (hv : VX11_firstOpen post t_foundMany t_isDone ) : CtI l yX11_firstOpen wsX11_firstOpen rX11_firstOpen dC dI cy [.ref (h 0)] (pX11_firstOpen cy h t_kind t_exponent t_letters t_fed t_at t_rowSize t_steps t_foundMany t_keptMany t_keptLetters t_isDone t_isFull t_isSaved t_savedKind t_savedExponent t_savedLetters) (fun (_ : Unit) => pX11_firstOpen cy h t_kind t_exponent t_letters t_fed t_at t_rowSize t_steps t_foundMany t_keptMany t_keptLetters t_isDone t_isFull t_isSaved t_savedKind t_savedExponent t_savedLetters) (fun (r : Int32) (_ : Unit) => post r) :=
  ct_ofI (by decide) rfl (Nat.le_of_ble_eq_true rfl) (fun p e s m below meth c A ls C0 hP hD hS hl => wX11_firstOpen_0 l h post t_kind t_exponent t_letters t_fed t_at t_rowSize t_steps t_foundMany t_keptMany t_keptLetters t_isDone t_isFull t_isSaved t_savedKind t_savedExponent t_savedLetters C0  hv _ _ _ hP hD hS hl)
