theorem mX8_begin_1 : (Cond.fieldLink RX8 31 "AbelianPowers$Trail" "size" "I") ∈ wsX8_begin := List.mem_of_getElem? (i := 1) rfl
theorem mX8_begin_2 : (Cond.fieldLink RX8 35 "AbelianPowers$Trail" "kind" "I") ∈ wsX8_begin := List.mem_of_getElem? (i := 2) rfl
theorem mX8_begin_3 : (Cond.fieldLink RX8 38 "AbelianPowers$Setting" "exponent" "I") ∈ wsX8_begin := List.mem_of_getElem? (i := 3) rfl
theorem mX8_begin_4 : (Cond.fieldLink RX8 43 "AbelianPowers$Trail" "exponent" "I") ∈ wsX8_begin := List.mem_of_getElem? (i := 4) rfl
theorem mX8_begin_5 : (Cond.fieldLink RX8 28 "AbelianPowers$Trail" "weights" "[J") ∈ wsX8_begin := List.mem_of_getElem? (i := 5) rfl
theorem mX8_begin_6 : (Cond.fieldLink RX8 44 "AbelianPowers$Setting" "values" "[I") ∈ wsX8_begin := List.mem_of_getElem? (i := 6) rfl
theorem nX8_begin_X8 : ∀ w ∈ wsX80, w ∈ wsX8_begin := fun _ h => List.mem_cons_of_mem _ (List.mem_append_left _ (List.mem_append_right _ h))
theorem nX8_begin_X5 : ∀ w ∈ wsX50, w ∈ wsX8_begin := fun _ h => List.mem_cons_of_mem _ (List.mem_append_right _ h)
theorem zX8_begin : yX8_begin.cls = RX8 ∧ yX8_begin.cls ≠ "java/lang/invoke/MethodHandle" ∧ yX8_begin.cls ≠ "java/lang/invoke/VarHandle" ∧ (parseMethodDescriptor yX8_begin.desc).map (fun d => d.parameters.length) = some 2 := by decide +kernel
abbrev rX8_begin : Room := { frames := 0, cells := 0, slots := 0, locals := 0 }
abbrev pX8_begin (cy : Nat → ClassId) (h : Nat → Nat) (t_weights : Nat → Int64) (t_size : Int32) (t_kind : Int32) (t_exponent : Int32) (a2_kind : Int32) (a2_exponent : Int32) (a2_letters : Int32) (a2_values : Nat → Int32) : va_W := [(h 0, .inr (8, [.ref (h 4), .ref (h 5), .ref (h 6), .ref (h 7), .ref (h 8), .ref (h 1), .int t_size, .int t_kind, .int t_exponent])), (h 1, .inl (cy 1, 4, .inr (.inl t_weights))), (h 2, .inr (5, [.int a2_kind, .int a2_exponent, .int a2_letters, .ref (h 3), .ref (h 9), .ref (h 10)])), (h 3, .inl (cy 0, 4, .inl a2_values))]
def VX8_begin_20 (post : (Nat → Int64) → Int32 → Int32 → Int32 → Prop)  (a2_exponent : Int32) (a2_values : Nat → Int32) (p1 : Int32) : Nat → (Nat → Int64) → Int32 → Int32 → Int32 → Int32 → Prop
  | 0, _, _, _, _, _ => False
  | n + 1, t_weights, t_size, t_kind, t_exponent, x3 => ((4 ≤ x3) → post t_weights t_size t_kind t_exponent) ∧ (¬ (4 ≤ x3) → (¬ (t_kind = 2) → ∀ y_2 : Int64, y_2 = ((1 : Int64) <<< (((16 : Int32) * x3).toInt64 &&& 63)) → vp_in x3 4 ∧ (VX8_begin_20 post a2_exponent a2_values p1 n (vp_updL t_weights x3.toNatClampNeg y_2) t_size t_kind t_exponent (x3 + 1))) ∧ ((t_kind = 2) → vp_in x3 4 ∧ (vp_in x3 4 ∧ (VX8_begin_20 post a2_exponent a2_values p1 n (vp_updL t_weights x3.toNatClampNeg ((a2_values x3.toNatClampNeg).toInt64)) t_size t_kind t_exponent (x3 + 1)))))
def VX8_begin (post : (Nat → Int64) → Int32 → Int32 → Int32 → Prop)  (a2_exponent : Int32) (a2_values : Nat → Int32) (p1 : Int32) (t_weights : Nat → Int64) (t_size : Int32) (t_kind : Int32) (t_exponent : Int32) : Prop := ∃ n20 : Nat, VX8_begin_20 post a2_exponent a2_values p1 n20 t_weights 0 p1 a2_exponent 0
set_option maxHeartbeats 4000000 in
set_option maxRecDepth 100000 in
theorem wX8_begin_20 {p : Program} (l : Launch) {e : Env} {s : State} {m : MethodId} {args : Array Value} {below : List Frame} {meth : Method} {c : Code} {dC : Nat → ClassId} {dI : Nat → Nat → Nat} {cy : Nat → ClassId} {A : Nat → Prop} (h : Nat → Nat) (post : (Nat → Int64) → Int32 → Int32 → Int32 → Prop)   (a2_kind : Int32) (a2_exponent : Int32) (a2_letters : Int32) (a2_values : Nat → Int32) (p1 : Int32) (C0 : cx p s m args meth c cX8_begin 4 none wsX8_begin RX8 dC dI cy A)  : ∀ (n : Nat) (t_weights : Nat → Int64) (t_size : Int32) (t_kind : Int32) (t_exponent : Int32) (x3 : Int32), VX8_begin_20 post a2_exponent a2_values p1 n t_weights t_size t_kind t_exponent x3 → ∀ (H : Heap) (locs : List Loc) (ls : Array Slot), va_P (dC, dI) vwCl (pX8_begin cy h t_weights t_size t_kind t_exponent a2_kind a2_exponent a2_letters a2_values) H → va_D A (pX8_begin cy h t_weights t_size t_kind t_exponent a2_kind a2_exponent a2_letters a2_values) → va_S A s.heap H locs → lv_has ls 4 [(0, .ref (h 0)), (2, .ref (h 2)), (3, .int x3)] → W p l e rX8_begin s m args below meth c H locs 0 0 (MQ below (va_Qv (fun (u : (Nat → Int64) × Int32 × Int32 × Int32) => post u.1 u.2.1 u.2.2.1 u.2.2.2) (fun (u : (Nat → Int64) × Int32 × Int32 × Int32) (t : State) => va_P (dC, dI) vwCl (pX8_begin cy h u.1 u.2.1 u.2.2.1 u.2.2.2 a2_kind a2_exponent a2_letters a2_values) t.heap) A) args s 0 0 A) (F0 m 20 ls []) := by
  have C1 := C0
  obtain ⟨hx, hb, hr, hml, hown, hts, hlocks, hK, hA⟩ := C1
  intro n
  induction n with
  | zero => intro t_weights t_size t_kind t_exponent x3 hv; exact hv.elim
  | succ n ih =>
    intro t_weights t_size t_kind t_exponent x3 hv H locs ls hP hD hS hl
    refine lv_iload_n hx hb dX8_begin_20 rfl (lv_at hl 2 rfl) ?_
    refine lv_iconst (v := 4) hx hb dX8_begin_21 (by decide) ?_
    refine lv_icmp_ge (tgt := 61) hx hb dX8_begin_22 (by decide) (fun c_7 => ?_) (fun c_7 => ?_)
    · have hv := hv.1 c_7
      exact W.vret hx hb hr (fun t ht hW => ⟨⟨(t_weights, t_size, t_kind, t_exponent), rfl, hv, va_Ph ht hP⟩, hS.F ht⟩) hS.2.2 dX8_begin_61
    · have hv := hv.2 c_7
      refine lv_aload_n hx hb dX8_begin_25 rfl (lv_at hl 0 rfl) ?_
      refine va_get (D := (dC, dI)) (ci := 8) (v := .ref (h 1)) (C := RX8) (T := TX8) (N := 9) hx hb hts nX8_begin_X8 hown hK hP 0 rfl rfl 5 (by decide) (hts _ mX8_begin_5) (fun _ h9 => h9) rfl dX8_begin_26 ?_
      refine lv_iload_n hx hb dX8_begin_29 rfl (lv_at hl 2 rfl) ?_
      refine lv_aload_n hx hb dX8_begin_30 rfl (lv_at hl 0 rfl) ?_
      refine va_get (D := (dC, dI)) (ci := 8) (v := .int t_kind) (C := RX8) (T := TX8) (N := 9) hx hb hts nX8_begin_X8 hown hK hP 0 rfl rfl 7 (by decide) (hts _ mX8_begin_2) (fun _ h9 => h9) rfl dX8_begin_31 ?_
      refine lv_iconst (v := 2) hx hb dX8_begin_34 (by decide) ?_
      refine lv_icmp_ne (tgt := 48) hx hb dX8_begin_35 (by decide) (fun c_6 => ?_) (fun c_6 => ?_)
      · have hv := hv.1 c_6
        refine lv_lconst (v := 1) hx hb dX8_begin_48 (by decide) ?_
        refine lv_bipush (v := 16) hx hb dX8_begin_49 (by decide) ?_
        refine lv_iload_n hx hb dX8_begin_51 rfl (lv_at hl 2 rfl) ?_
        refine lv_imul hx hb dX8_begin_52 ?_
        refine lv_lshl (v := ((1 : Int64) <<< (((16 : Int32) * x3).toInt64 &&& 63))) hx hb dX8_begin_53 rfl ?_
        refine lv_topl (fun y_2 ey_2 => ?_)
        have hv := hv y_2 ey_2
        have h_3 := hv.1
        have hv := hv.2
        refine va_last hx hb hK hP hD hS 1 1 rfl rfl h_3 dX8_begin_54 (fun H locs hP hD hS => ?_)
        have hP : va_P (dC, dI) vwCl (pX8_begin cy h (vp_updL t_weights x3.toNatClampNeg y_2) t_size t_kind t_exponent a2_kind a2_exponent a2_letters a2_values) H := hP
        have hD : va_D A (pX8_begin cy h (vp_updL t_weights x3.toNatClampNeg y_2) t_size t_kind t_exponent a2_kind a2_exponent a2_letters a2_values) := hD
        refine lv_iinc (v := (x3 + 1)) (lv' := [(3, .int ((x3 + 1))), (0, .ref (h 0)), (2, .ref (h 2))]) hx hb dX8_begin_55 hl (k := 2) rfl rfl (by decide) rfl (fun ls hl => ?_)
        refine lv_goto (tgt := 20) hx hb dX8_begin_58 (by decide) ?_
        exact ih (vp_updL t_weights x3.toNatClampNeg y_2) t_size t_kind t_exponent (x3 + 1) hv _ _ _ hP hD hS (lv_sub hl [1, 2, 0] rfl)
      · have hv := hv.2 c_6
        refine lv_aload_n hx hb dX8_begin_38 rfl (lv_at hl 1 rfl) ?_
        refine va_get (D := (dC, dI)) (ci := 5) (v := .ref (h 3)) (C := RX5) (T := TX5) (N := 6) hx hb hts nX8_begin_X5 hown hK hP 2 rfl rfl 3 (by decide) (hts _ mX8_begin_6) (fun _ h9 => h9) rfl dX8_begin_39 ?_
        refine lv_iload_n hx hb dX8_begin_42 rfl (lv_at hl 2 rfl) ?_
        have h_4 := hv.1
        have hv := hv.2
        refine va_iald hx hb hK hP 3 0 rfl rfl h_4 dX8_begin_43 ?_
        refine lv_i2l (v := (a2_values x3.toNatClampNeg).toInt64) hx hb dX8_begin_44 rfl ?_
        refine lv_goto (tgt := 54) hx hb dX8_begin_45 (by decide) ?_
        have h_5 := hv.1
        have hv := hv.2
        refine va_last hx hb hK hP hD hS 1 1 rfl rfl h_5 dX8_begin_54 (fun H locs hP hD hS => ?_)
        have hP : va_P (dC, dI) vwCl (pX8_begin cy h (vp_updL t_weights x3.toNatClampNeg ((a2_values x3.toNatClampNeg).toInt64)) t_size t_kind t_exponent a2_kind a2_exponent a2_letters a2_values) H := hP
        have hD : va_D A (pX8_begin cy h (vp_updL t_weights x3.toNatClampNeg ((a2_values x3.toNatClampNeg).toInt64)) t_size t_kind t_exponent a2_kind a2_exponent a2_letters a2_values) := hD
        refine lv_iinc (v := (x3 + 1)) (lv' := [(3, .int ((x3 + 1))), (0, .ref (h 0)), (2, .ref (h 2))]) hx hb dX8_begin_55 hl (k := 2) rfl rfl (by decide) rfl (fun ls hl => ?_)
        refine lv_goto (tgt := 20) hx hb dX8_begin_58 (by decide) ?_
        exact ih (vp_updL t_weights x3.toNatClampNeg ((a2_values x3.toNatClampNeg).toInt64)) t_size t_kind t_exponent (x3 + 1) hv _ _ _ hP hD hS (lv_sub hl [1, 2, 0] rfl)
set_option maxHeartbeats 4000000 in
set_option maxRecDepth 100000 in
theorem wX8_begin_0 {p : Program} (l : Launch) {e : Env} {s : State} {m : MethodId} {args : Array Value} {below : List Frame} {meth : Method} {c : Code} {dC : Nat → ClassId} {dI : Nat → Nat → Nat} {cy : Nat → ClassId} {A : Nat → Prop} (h : Nat → Nat) (post : (Nat → Int64) → Int32 → Int32 → Int32 → Prop)   (a2_kind : Int32) (a2_exponent : Int32) (a2_letters : Int32) (a2_values : Nat → Int32) (p1 : Int32) (C0 : cx p s m args meth c cX8_begin 4 none wsX8_begin RX8 dC dI cy A)  : ∀ (t_weights : Nat → Int64) (t_size : Int32) (t_kind : Int32) (t_exponent : Int32), VX8_begin post a2_exponent a2_values p1 t_weights t_size t_kind t_exponent → ∀ (H : Heap) (locs : List Loc) (ls : Array Slot), va_P (dC, dI) vwCl (pX8_begin cy h t_weights t_size t_kind t_exponent a2_kind a2_exponent a2_letters a2_values) H → va_D A (pX8_begin cy h t_weights t_size t_kind t_exponent a2_kind a2_exponent a2_letters a2_values) → va_S A s.heap H locs → lv_has ls 4 [(0, .ref (h 0)), (1, .int p1), (2, .ref (h 2))] → W p l e rX8_begin s m args below meth c H locs 0 0 (MQ below (va_Qv (fun (u : (Nat → Int64) × Int32 × Int32 × Int32) => post u.1 u.2.1 u.2.2.1 u.2.2.2) (fun (u : (Nat → Int64) × Int32 × Int32 × Int32) (t : State) => va_P (dC, dI) vwCl (pX8_begin cy h u.1 u.2.1 u.2.2.1 u.2.2.2 a2_kind a2_exponent a2_letters a2_values) t.heap) A) args s 0 0 A) (F0 m 0 ls []) := by
  have C1 := C0
  obtain ⟨hx, hb, hr, hml, hown, hts, hlocks, hK, hA⟩ := C1
  intro t_weights t_size t_kind t_exponent hv H locs ls hP hD hS hl
  refine lv_aload_n hx hb dX8_begin_0 rfl (lv_at hl 0 rfl) ?_
  refine lv_iconst (v := 0) hx hb dX8_begin_1 (by decide) ?_
  refine va_put (D := (dC, dI)) (ci := 8) (v := .int 0) (ty := .int) (C := RX8) (T := TX8) (N := 9) hx hb hts nX8_begin_X8 tyX8 tyX8_ok nmX8 hown hK hP hD hS 0 rfl rfl 6 (by decide) (hts _ mX8_begin_1) (fun _ h9 => h9) rfl (by decide +kernel) rfl rfl (Nat.le_of_ble_eq_true rfl) dX8_begin_2 (fun H locs hP hD hS => ?_)
  have hP : va_P (dC, dI) vwCl (pX8_begin cy h t_weights 0 t_kind t_exponent a2_kind a2_exponent a2_letters a2_values) H := hP
  have hD : va_D A (pX8_begin cy h t_weights 0 t_kind t_exponent a2_kind a2_exponent a2_letters a2_values) := hD
  refine lv_aload_n hx hb dX8_begin_5 rfl (lv_at hl 0 rfl) ?_
  refine lv_iload_n hx hb dX8_begin_6 rfl (lv_at hl 1 rfl) ?_
  refine va_put (D := (dC, dI)) (ci := 8) (v := .int p1) (ty := .int) (C := RX8) (T := TX8) (N := 9) hx hb hts nX8_begin_X8 tyX8 tyX8_ok nmX8 hown hK hP hD hS 0 rfl rfl 7 (by decide) (hts _ mX8_begin_2) (fun _ h9 => h9) rfl (by decide +kernel) rfl rfl (Nat.le_of_ble_eq_true rfl) dX8_begin_7 (fun H locs hP hD hS => ?_)
  have hP : va_P (dC, dI) vwCl (pX8_begin cy h t_weights 0 p1 t_exponent a2_kind a2_exponent a2_letters a2_values) H := hP
  have hD : va_D A (pX8_begin cy h t_weights 0 p1 t_exponent a2_kind a2_exponent a2_letters a2_values) := hD
  refine lv_aload_n hx hb dX8_begin_10 rfl (lv_at hl 0 rfl) ?_
  refine lv_aload_n hx hb dX8_begin_11 rfl (lv_at hl 2 rfl) ?_
  refine va_get (D := (dC, dI)) (ci := 5) (v := .int a2_exponent) (C := RX5) (T := TX5) (N := 6) hx hb hts nX8_begin_X5 hown hK hP 2 rfl rfl 1 (by decide) (hts _ mX8_begin_3) (fun _ h9 => h9) rfl dX8_begin_12 ?_
  refine va_put (D := (dC, dI)) (ci := 8) (v := .int a2_exponent) (ty := .int) (C := RX8) (T := TX8) (N := 9) hx hb hts nX8_begin_X8 tyX8 tyX8_ok nmX8 hown hK hP hD hS 0 rfl rfl 8 (by decide) (hts _ mX8_begin_4) (fun _ h9 => h9) rfl (by decide +kernel) rfl rfl (Nat.le_of_ble_eq_true rfl) dX8_begin_15 (fun H locs hP hD hS => ?_)
  have hP : va_P (dC, dI) vwCl (pX8_begin cy h t_weights 0 p1 a2_exponent a2_kind a2_exponent a2_letters a2_values) H := hP
  have hD : va_D A (pX8_begin cy h t_weights 0 p1 a2_exponent a2_kind a2_exponent a2_letters a2_values) := hD
  refine lv_iconst (v := 0) hx hb dX8_begin_18 (by decide) ?_
  refine lv_istore_n (lv' := [(3, .int 0), (0, .ref (h 0)), (1, .int p1), (2, .ref (h 2))]) hx hb dX8_begin_19 rfl hl (by decide) rfl (fun ls hl => ?_)
  obtain ⟨n_1, hv⟩ := hv
  exact wX8_begin_20 l h post  a2_kind a2_exponent a2_letters a2_values p1 C0 n_1 t_weights 0 p1 a2_exponent 0 hv _ _ _ hP hD hS (lv_sub hl [1, 3, 0] rfl)
theorem kX8_begin (l : Launch) (dC : Nat → ClassId) (dI : Nat → Nat → Nat) (cy : Nat → ClassId) (h : Nat → Nat) (t_weights : Nat → Int64) (t_size : Int32) (t_kind : Int32) (t_exponent : Int32) (a2_kind : Int32) (a2_exponent : Int32) (a2_letters : Int32) (a2_values : Nat → Int32) (p1 : Int32) (post : (Nat → Int64) → Int32 → Int32 → Int32 → Prop) (hv : VX8_begin post a2_exponent a2_values p1 t_weights t_size t_kind t_exponent) : CtV l yX8_begin wsX8_begin rX8_begin dC dI cy [.ref (h 0), .int p1, .ref (h 2)] (pX8_begin cy h t_weights t_size t_kind t_exponent a2_kind a2_exponent a2_letters a2_values) (fun (u : (Nat → Int64) × Int32 × Int32 × Int32) => pX8_begin cy h u.1 u.2.1 u.2.2.1 u.2.2.2 a2_kind a2_exponent a2_letters a2_values) (fun (u : (Nat → Int64) × Int32 × Int32 × Int32) => post u.1 u.2.1 u.2.2.1 u.2.2.2) :=
  ct_ofV (by decide) rfl (Nat.le_of_ble_eq_true rfl) (fun p e s m below meth c A ls C0 hP hD hS hl => wX8_begin_0 l h post a2_kind a2_exponent a2_letters a2_values p1 C0 t_weights t_size t_kind t_exponent hv _ _ _ hP hD hS hl)
theorem mX8_sumPairs_1 : (Cond.fieldLink RX8 22 "AbelianPowers$Trail" "lowPairs" "[J") ∈ wsX8_sumPairs := List.mem_of_getElem? (i := 1) rfl
theorem mX8_sumPairs_2 : (Cond.fieldLink RX8 31 "AbelianPowers$Trail" "size" "I") ∈ wsX8_sumPairs := List.mem_of_getElem? (i := 2) rfl
theorem mX8_sumPairs_3 : (Cond.fieldLink RX8 25 "AbelianPowers$Trail" "highPairs" "[J") ∈ wsX8_sumPairs := List.mem_of_getElem? (i := 3) rfl
theorem mX8_sumPairs_4 : (Cond.fieldLink RX8 9 "AbelianPowers$Trail" "letters" "[I") ∈ wsX8_sumPairs := List.mem_of_getElem? (i := 4) rfl
theorem nX8_sumPairs_X8 : ∀ w ∈ wsX80, w ∈ wsX8_sumPairs := fun _ h => List.mem_cons_of_mem _ (List.mem_append_right _ h)
theorem zX8_sumPairs : yX8_sumPairs.cls = RX8 ∧ yX8_sumPairs.cls ≠ "java/lang/invoke/MethodHandle" ∧ yX8_sumPairs.cls ≠ "java/lang/invoke/VarHandle" ∧ (parseMethodDescriptor yX8_sumPairs.desc).map (fun d => d.parameters.length) = some 1 := by decide +kernel
abbrev rX8_sumPairs : Room := { frames := 0, cells := 0, slots := 0, locals := 0 }
abbrev pX8_sumPairs (cy : Nat → ClassId) (h : Nat → Nat) (t_letters : Nat → Int32) (t_lowPairs : Nat → Int64) (t_highPairs : Nat → Int64) (t_size : Int32) (t_kind : Int32) (t_exponent : Int32) : va_W := [(h 0, .inr (8, [.ref (h 1), .ref (h 4), .ref (h 5), .ref (h 2), .ref (h 3), .ref (h 6), .int t_size, .int t_kind, .int t_exponent])), (h 1, .inl (cy 0, 41, .inl t_letters)), (h 2, .inl (cy 1, 42, .inr (.inl t_lowPairs))), (h 3, .inl (cy 1, 42, .inr (.inl t_highPairs)))]
def VX8_sumPairs (post : (Nat → Int64) → (Nat → Int64) → Prop)  (t_letters : Nat → Int32) (t_size : Int32) (p1 : Int32) (t_lowPairs : Nat → Int64) (t_highPairs : Nat → Int64) : Prop := vp_in t_size 42 ∧ (∀ y_1 : Int64, y_1 = (t_lowPairs t_size.toNatClampNeg) → vp_in (t_size + 1) 42 ∧ (vp_in t_size 42 ∧ (∀ y_4 : Int64, y_4 = (t_highPairs t_size.toNatClampNeg) → vp_in (t_size + 1) 42 ∧ ((¬ (t_size = 0) → vp_in (t_size - 1) 41 ∧ (∀ y_7 : Int32, y_7 = (t_letters (t_size - 1).toNatClampNeg) → ((8 ≤ (((4 : Int32) * y_7) + p1)) → vp_in (t_size + 1) 42 ∧ (∀ y_9 : Int64, y_9 = ((vp_updL t_highPairs (t_size + 1).toNatClampNeg y_4) (t_size + 1).toNatClampNeg) → ∀ y_11 : Int32, y_11 = ((((4 : Int32) * y_7) + p1) - 8) → ∀ y_12 : Int64, y_12 = ((1 : Int64) <<< (((8 : Int32) * y_11).toInt64 &&& 63)) → vp_in (t_size + 1) 42 ∧ (post (vp_updL t_lowPairs (t_size + 1).toNatClampNeg y_1) (vp_updL (vp_updL t_highPairs (t_size + 1).toNatClampNeg y_4) (t_size + 1).toNatClampNeg (y_9 + y_12))))) ∧ (¬ (8 ≤ (((4 : Int32) * y_7) + p1)) → vp_in (t_size + 1) 42 ∧ (∀ y_14 : Int64, y_14 = ((vp_updL t_lowPairs (t_size + 1).toNatClampNeg y_1) (t_size + 1).toNatClampNeg) → ∀ y_16 : Int32, y_16 = ((8 : Int32) * (((4 : Int32) * y_7) + p1)) → ∀ y_17 : Int64, y_17 = ((1 : Int64) <<< (y_16.toInt64 &&& 63)) → vp_in (t_size + 1) 42 ∧ (post (vp_updL (vp_updL t_lowPairs (t_size + 1).toNatClampNeg y_1) (t_size + 1).toNatClampNeg (y_14 + y_17)) (vp_updL t_highPairs (t_size + 1).toNatClampNeg y_4)))))) ∧ ((t_size = 0) → post (vp_updL t_lowPairs (t_size + 1).toNatClampNeg y_1) (vp_updL t_highPairs (t_size + 1).toNatClampNeg y_4))))))
set_option maxHeartbeats 4000000 in
set_option maxRecDepth 100000 in
theorem wX8_sumPairs_0 {p : Program} (l : Launch) {e : Env} {s : State} {m : MethodId} {args : Array Value} {below : List Frame} {meth : Method} {c : Code} {dC : Nat → ClassId} {dI : Nat → Nat → Nat} {cy : Nat → ClassId} {A : Nat → Prop} (h : Nat → Nat) (post : (Nat → Int64) → (Nat → Int64) → Prop)   (t_letters : Nat → Int32) (t_size : Int32) (t_kind : Int32) (t_exponent : Int32) (p1 : Int32) (C0 : cx p s m args meth c cX8_sumPairs 3 none wsX8_sumPairs RX8 dC dI cy A)  : ∀ (t_lowPairs : Nat → Int64) (t_highPairs : Nat → Int64), VX8_sumPairs post t_letters t_size p1 t_lowPairs t_highPairs → ∀ (H : Heap) (locs : List Loc) (ls : Array Slot), va_P (dC, dI) vwCl (pX8_sumPairs cy h t_letters t_lowPairs t_highPairs t_size t_kind t_exponent) H → va_D A (pX8_sumPairs cy h t_letters t_lowPairs t_highPairs t_size t_kind t_exponent) → va_S A s.heap H locs → lv_has ls 3 [(0, .ref (h 0)), (1, .int p1)] → W p l e rX8_sumPairs s m args below meth c H locs 0 0 (MQ below (va_Qv (fun (u : (Nat → Int64) × (Nat → Int64)) => post u.1 u.2) (fun (u : (Nat → Int64) × (Nat → Int64)) (t : State) => va_P (dC, dI) vwCl (pX8_sumPairs cy h t_letters u.1 u.2 t_size t_kind t_exponent) t.heap) A) args s 0 0 A) (F0 m 0 ls []) := by
  have C1 := C0
  obtain ⟨hx, hb, hr, hml, hown, hts, hlocks, hK, hA⟩ := C1
  intro t_lowPairs t_highPairs hv H locs ls hP hD hS hl
  refine lv_aload_n hx hb dX8_sumPairs_0 rfl (lv_at hl 0 rfl) ?_
  refine va_get (D := (dC, dI)) (ci := 8) (v := .ref (h 2)) (C := RX8) (T := TX8) (N := 9) hx hb hts nX8_sumPairs_X8 hown hK hP 0 rfl rfl 3 (by decide) (hts _ mX8_sumPairs_1) (fun _ h9 => h9) rfl dX8_sumPairs_1 ?_
  refine lv_aload_n hx hb dX8_sumPairs_4 rfl (lv_at hl 0 rfl) ?_
  refine va_get (D := (dC, dI)) (ci := 8) (v := .int t_size) (C := RX8) (T := TX8) (N := 9) hx hb hts nX8_sumPairs_X8 hown hK hP 0 rfl rfl 6 (by decide) (hts _ mX8_sumPairs_2) (fun _ h9 => h9) rfl dX8_sumPairs_5 ?_
  refine lv_iconst (v := 1) hx hb dX8_sumPairs_8 (by decide) ?_
  refine lv_iadd hx hb dX8_sumPairs_9 ?_
  refine lv_aload_n hx hb dX8_sumPairs_10 rfl (lv_at hl 0 rfl) ?_
  refine va_get (D := (dC, dI)) (ci := 8) (v := .ref (h 2)) (C := RX8) (T := TX8) (N := 9) hx hb hts nX8_sumPairs_X8 hown hK hP 0 rfl rfl 3 (by decide) (hts _ mX8_sumPairs_1) (fun _ h9 => h9) rfl dX8_sumPairs_11 ?_
  refine lv_aload_n hx hb dX8_sumPairs_14 rfl (lv_at hl 0 rfl) ?_
  refine va_get (D := (dC, dI)) (ci := 8) (v := .int t_size) (C := RX8) (T := TX8) (N := 9) hx hb hts nX8_sumPairs_X8 hown hK hP 0 rfl rfl 6 (by decide) (hts _ mX8_sumPairs_2) (fun _ h9 => h9) rfl dX8_sumPairs_15 ?_
  have h_2 := hv.1
  have hv := hv.2
  refine va_lald hx hb hK hP 2 1 rfl rfl h_2 dX8_sumPairs_18 ?_
  refine lv_topl (fun y_1 ey_1 => ?_)
  have hv := hv y_1 ey_1
  have h_3 := hv.1
  have hv := hv.2
  refine va_last hx hb hK hP hD hS 2 1 rfl rfl h_3 dX8_sumPairs_19 (fun H locs hP hD hS => ?_)
  have hP : va_P (dC, dI) vwCl (pX8_sumPairs cy h t_letters (vp_updL t_lowPairs (t_size + 1).toNatClampNeg y_1) t_highPairs t_size t_kind t_exponent) H := hP
  have hD : va_D A (pX8_sumPairs cy h t_letters (vp_updL t_lowPairs (t_size + 1).toNatClampNeg y_1) t_highPairs t_size t_kind t_exponent) := hD
  refine lv_aload_n hx hb dX8_sumPairs_20 rfl (lv_at hl 0 rfl) ?_
  refine va_get (D := (dC, dI)) (ci := 8) (v := .ref (h 3)) (C := RX8) (T := TX8) (N := 9) hx hb hts nX8_sumPairs_X8 hown hK hP 0 rfl rfl 4 (by decide) (hts _ mX8_sumPairs_3) (fun _ h9 => h9) rfl dX8_sumPairs_21 ?_
  refine lv_aload_n hx hb dX8_sumPairs_24 rfl (lv_at hl 0 rfl) ?_
  refine va_get (D := (dC, dI)) (ci := 8) (v := .int t_size) (C := RX8) (T := TX8) (N := 9) hx hb hts nX8_sumPairs_X8 hown hK hP 0 rfl rfl 6 (by decide) (hts _ mX8_sumPairs_2) (fun _ h9 => h9) rfl dX8_sumPairs_25 ?_
  refine lv_iconst (v := 1) hx hb dX8_sumPairs_28 (by decide) ?_
  refine lv_iadd hx hb dX8_sumPairs_29 ?_
  refine lv_aload_n hx hb dX8_sumPairs_30 rfl (lv_at hl 0 rfl) ?_
  refine va_get (D := (dC, dI)) (ci := 8) (v := .ref (h 3)) (C := RX8) (T := TX8) (N := 9) hx hb hts nX8_sumPairs_X8 hown hK hP 0 rfl rfl 4 (by decide) (hts _ mX8_sumPairs_3) (fun _ h9 => h9) rfl dX8_sumPairs_31 ?_
  refine lv_aload_n hx hb dX8_sumPairs_34 rfl (lv_at hl 0 rfl) ?_
  refine va_get (D := (dC, dI)) (ci := 8) (v := .int t_size) (C := RX8) (T := TX8) (N := 9) hx hb hts nX8_sumPairs_X8 hown hK hP 0 rfl rfl 6 (by decide) (hts _ mX8_sumPairs_2) (fun _ h9 => h9) rfl dX8_sumPairs_35 ?_
  have h_5 := hv.1
  have hv := hv.2
  refine va_lald hx hb hK hP 3 1 rfl rfl h_5 dX8_sumPairs_38 ?_
  refine lv_topl (fun y_4 ey_4 => ?_)
  have hv := hv y_4 ey_4
  have h_6 := hv.1
  have hv := hv.2
  refine va_last hx hb hK hP hD hS 3 1 rfl rfl h_6 dX8_sumPairs_39 (fun H locs hP hD hS => ?_)
  have hP : va_P (dC, dI) vwCl (pX8_sumPairs cy h t_letters (vp_updL t_lowPairs (t_size + 1).toNatClampNeg y_1) (vp_updL t_highPairs (t_size + 1).toNatClampNeg y_4) t_size t_kind t_exponent) H := hP
  have hD : va_D A (pX8_sumPairs cy h t_letters (vp_updL t_lowPairs (t_size + 1).toNatClampNeg y_1) (vp_updL t_highPairs (t_size + 1).toNatClampNeg y_4) t_size t_kind t_exponent) := hD
  refine lv_aload_n hx hb dX8_sumPairs_40 rfl (lv_at hl 0 rfl) ?_
  refine va_get (D := (dC, dI)) (ci := 8) (v := .int t_size) (C := RX8) (T := TX8) (N := 9) hx hb hts nX8_sumPairs_X8 hown hK hP 0 rfl rfl 6 (by decide) (hts _ mX8_sumPairs_2) (fun _ h9 => h9) rfl dX8_sumPairs_41 ?_
  refine lv_if_ne (tgt := 48) hx hb dX8_sumPairs_44 (by decide) (fun c_20 => ?_) (fun c_20 => ?_)
  · have hv := hv.1 c_20
    refine lv_iconst (v := 4) hx hb dX8_sumPairs_48 (by decide) ?_
    refine lv_aload_n hx hb dX8_sumPairs_49 rfl (lv_at hl 0 rfl) ?_
    refine va_get (D := (dC, dI)) (ci := 8) (v := .ref (h 1)) (C := RX8) (T := TX8) (N := 9) hx hb hts nX8_sumPairs_X8 hown hK hP 0 rfl rfl 0 (by decide) (hts _ mX8_sumPairs_4) (fun _ h9 => h9) rfl dX8_sumPairs_50 ?_
    refine lv_aload_n hx hb dX8_sumPairs_53 rfl (lv_at hl 0 rfl) ?_
    refine va_get (D := (dC, dI)) (ci := 8) (v := .int t_size) (C := RX8) (T := TX8) (N := 9) hx hb hts nX8_sumPairs_X8 hown hK hP 0 rfl rfl 6 (by decide) (hts _ mX8_sumPairs_2) (fun _ h9 => h9) rfl dX8_sumPairs_54 ?_
    refine lv_iconst (v := 1) hx hb dX8_sumPairs_57 (by decide) ?_
    refine lv_isub hx hb dX8_sumPairs_58 ?_
    have h_8 := hv.1
    have hv := hv.2
    refine va_iald hx hb hK hP 1 0 rfl rfl h_8 dX8_sumPairs_59 ?_
    refine lv_topi (fun y_7 ey_7 => ?_)
    have hv := hv y_7 ey_7
    refine lv_imul hx hb dX8_sumPairs_60 ?_
    refine lv_iload_n hx hb dX8_sumPairs_61 rfl (lv_at hl 1 rfl) ?_
    refine lv_iadd hx hb dX8_sumPairs_62 ?_
    refine lv_istore_n (lv' := [(2, .int ((((4 : Int32) * y_7) + p1))), (0, .ref (h 0)), (1, .int p1)]) hx hb dX8_sumPairs_63 rfl hl (by decide) rfl (fun ls hl => ?_)
    refine lv_iload_n hx hb dX8_sumPairs_64 rfl (lv_at hl 0 rfl) ?_
    refine lv_bipush (v := 8) hx hb dX8_sumPairs_65 (by decide) ?_
    refine lv_icmp_ge (tgt := 93) hx hb dX8_sumPairs_67 (by decide) (fun c_19 => ?_) (fun c_19 => ?_)
    · have hv := hv.1 c_19
      refine lv_aload_n hx hb dX8_sumPairs_93 rfl (lv_at hl 1 rfl) ?_
      refine va_get (D := (dC, dI)) (ci := 8) (v := .ref (h 3)) (C := RX8) (T := TX8) (N := 9) hx hb hts nX8_sumPairs_X8 hown hK hP 0 rfl rfl 4 (by decide) (hts _ mX8_sumPairs_3) (fun _ h9 => h9) rfl dX8_sumPairs_94 ?_
      refine lv_aload_n hx hb dX8_sumPairs_97 rfl (lv_at hl 1 rfl) ?_
      refine va_get (D := (dC, dI)) (ci := 8) (v := .int t_size) (C := RX8) (T := TX8) (N := 9) hx hb hts nX8_sumPairs_X8 hown hK hP 0 rfl rfl 6 (by decide) (hts _ mX8_sumPairs_2) (fun _ h9 => h9) rfl dX8_sumPairs_98 ?_
      refine lv_iconst (v := 1) hx hb dX8_sumPairs_101 (by decide) ?_
      refine lv_iadd hx hb dX8_sumPairs_102 ?_
      refine lv_dup2_11 hx hb dX8_sumPairs_103 rfl rfl ?_
      have h_10 := hv.1
      have hv := hv.2
      refine va_lald hx hb hK hP 3 1 rfl rfl h_10 dX8_sumPairs_104 ?_
      refine lv_topl (fun y_9 ey_9 => ?_)
      have hv := hv y_9 ey_9
      refine lv_lconst (v := 1) hx hb dX8_sumPairs_105 (by decide) ?_
      refine lv_bipush (v := 8) hx hb dX8_sumPairs_106 (by decide) ?_
      refine lv_iload_n hx hb dX8_sumPairs_108 rfl (lv_at hl 0 rfl) ?_
      refine lv_bipush (v := 8) hx hb dX8_sumPairs_109 (by decide) ?_
      refine lv_isub hx hb dX8_sumPairs_111 ?_
      refine lv_topi (fun y_11 ey_11 => ?_)
      have hv := hv y_11 ey_11
      refine lv_imul hx hb dX8_sumPairs_112 ?_
      refine lv_lshl (v := ((1 : Int64) <<< (((8 : Int32) * y_11).toInt64 &&& 63))) hx hb dX8_sumPairs_113 rfl ?_
      refine lv_topl (fun y_12 ey_12 => ?_)
      have hv := hv y_12 ey_12
      refine lv_ladd hx hb dX8_sumPairs_114 ?_
      have h_13 := hv.1
      have hv := hv.2
      refine va_last hx hb hK hP hD hS 3 1 rfl rfl h_13 dX8_sumPairs_115 (fun H locs hP hD hS => ?_)
      have hP : va_P (dC, dI) vwCl (pX8_sumPairs cy h t_letters (vp_updL t_lowPairs (t_size + 1).toNatClampNeg y_1) (vp_updL (vp_updL t_highPairs (t_size + 1).toNatClampNeg y_4) (t_size + 1).toNatClampNeg (y_9 + y_12)) t_size t_kind t_exponent) H := hP
      have hD : va_D A (pX8_sumPairs cy h t_letters (vp_updL t_lowPairs (t_size + 1).toNatClampNeg y_1) (vp_updL (vp_updL t_highPairs (t_size + 1).toNatClampNeg y_4) (t_size + 1).toNatClampNeg (y_9 + y_12)) t_size t_kind t_exponent) := hD
      exact W.vret hx hb hr (fun t ht hW => ⟨⟨((vp_updL t_lowPairs (t_size + 1).toNatClampNeg y_1), (vp_updL (vp_updL t_highPairs (t_size + 1).toNatClampNeg y_4) (t_size + 1).toNatClampNeg (y_9 + y_12))), rfl, hv, va_Ph ht hP⟩, hS.F ht⟩) hS.2.2 dX8_sumPairs_116
    · have hv := hv.2 c_19
      refine lv_aload_n hx hb dX8_sumPairs_70 rfl (lv_at hl 1 rfl) ?_
      refine va_get (D := (dC, dI)) (ci := 8) (v := .ref (h 2)) (C := RX8) (T := TX8) (N := 9) hx hb hts nX8_sumPairs_X8 hown hK hP 0 rfl rfl 3 (by decide) (hts _ mX8_sumPairs_1) (fun _ h9 => h9) rfl dX8_sumPairs_71 ?_
      refine lv_aload_n hx hb dX8_sumPairs_74 rfl (lv_at hl 1 rfl) ?_
      refine va_get (D := (dC, dI)) (ci := 8) (v := .int t_size) (C := RX8) (T := TX8) (N := 9) hx hb hts nX8_sumPairs_X8 hown hK hP 0 rfl rfl 6 (by decide) (hts _ mX8_sumPairs_2) (fun _ h9 => h9) rfl dX8_sumPairs_75 ?_
      refine lv_iconst (v := 1) hx hb dX8_sumPairs_78 (by decide) ?_
      refine lv_iadd hx hb dX8_sumPairs_79 ?_
      refine lv_dup2_11 hx hb dX8_sumPairs_80 rfl rfl ?_
      have h_15 := hv.1
      have hv := hv.2
      refine va_lald hx hb hK hP 2 1 rfl rfl h_15 dX8_sumPairs_81 ?_
      refine lv_topl (fun y_14 ey_14 => ?_)
      have hv := hv y_14 ey_14
      refine lv_lconst (v := 1) hx hb dX8_sumPairs_82 (by decide) ?_
      refine lv_bipush (v := 8) hx hb dX8_sumPairs_83 (by decide) ?_
      refine lv_iload_n hx hb dX8_sumPairs_85 rfl (lv_at hl 0 rfl) ?_
      refine lv_imul hx hb dX8_sumPairs_86 ?_
      refine lv_topi (fun y_16 ey_16 => ?_)
      have hv := hv y_16 ey_16
      refine lv_lshl (v := ((1 : Int64) <<< (y_16.toInt64 &&& 63))) hx hb dX8_sumPairs_87 rfl ?_
      refine lv_topl (fun y_17 ey_17 => ?_)
      have hv := hv y_17 ey_17
      refine lv_ladd hx hb dX8_sumPairs_88 ?_
      have h_18 := hv.1
      have hv := hv.2
      refine va_last hx hb hK hP hD hS 2 1 rfl rfl h_18 dX8_sumPairs_89 (fun H locs hP hD hS => ?_)
      have hP : va_P (dC, dI) vwCl (pX8_sumPairs cy h t_letters (vp_updL (vp_updL t_lowPairs (t_size + 1).toNatClampNeg y_1) (t_size + 1).toNatClampNeg (y_14 + y_17)) (vp_updL t_highPairs (t_size + 1).toNatClampNeg y_4) t_size t_kind t_exponent) H := hP
      have hD : va_D A (pX8_sumPairs cy h t_letters (vp_updL (vp_updL t_lowPairs (t_size + 1).toNatClampNeg y_1) (t_size + 1).toNatClampNeg (y_14 + y_17)) (vp_updL t_highPairs (t_size + 1).toNatClampNeg y_4) t_size t_kind t_exponent) := hD
      refine lv_goto (tgt := 116) hx hb dX8_sumPairs_90 (by decide) ?_
      exact W.vret hx hb hr (fun t ht hW => ⟨⟨((vp_updL (vp_updL t_lowPairs (t_size + 1).toNatClampNeg y_1) (t_size + 1).toNatClampNeg (y_14 + y_17)), (vp_updL t_highPairs (t_size + 1).toNatClampNeg y_4)), rfl, hv, va_Ph ht hP⟩, hS.F ht⟩) hS.2.2 dX8_sumPairs_116
  · have hv := hv.2 c_20
    exact W.vret hx hb hr (fun t ht hW => ⟨⟨((vp_updL t_lowPairs (t_size + 1).toNatClampNeg y_1), (vp_updL t_highPairs (t_size + 1).toNatClampNeg y_4)), rfl, hv, va_Ph ht hP⟩, hS.F ht⟩) hS.2.2 dX8_sumPairs_47
theorem kX8_sumPairs (l : Launch) (dC : Nat → ClassId) (dI : Nat → Nat → Nat) (cy : Nat → ClassId) (h : Nat → Nat) (t_letters : Nat → Int32) (t_lowPairs : Nat → Int64) (t_highPairs : Nat → Int64) (t_size : Int32) (t_kind : Int32) (t_exponent : Int32) (p1 : Int32) (post : (Nat → Int64) → (Nat → Int64) → Prop) (hv : VX8_sumPairs post t_letters t_size p1 t_lowPairs t_highPairs) : CtV l yX8_sumPairs wsX8_sumPairs rX8_sumPairs dC dI cy [.ref (h 0), .int p1] (pX8_sumPairs cy h t_letters t_lowPairs t_highPairs t_size t_kind t_exponent) (fun (u : (Nat → Int64) × (Nat → Int64)) => pX8_sumPairs cy h t_letters u.1 u.2 t_size t_kind t_exponent) (fun (u : (Nat → Int64) × (Nat → Int64)) => post u.1 u.2) :=
  ct_ofV (by decide) rfl (Nat.le_of_ble_eq_true rfl) (fun p e s m below meth c A ls C0 hP hD hS hl => wX8_sumPairs_0 l h post t_letters t_size t_kind t_exponent p1 C0 t_lowPairs t_highPairs hv _ _ _ hP hD hS hl)
theorem mX8_push_1 : (Cond.fieldLink RX8 31 "AbelianPowers$Trail" "size" "I") ∈ wsX8_push := List.mem_of_getElem? (i := 1) rfl
theorem mX8_push_2 : (Cond.fieldLink RX8 9 "AbelianPowers$Trail" "letters" "[I") ∈ wsX8_push := List.mem_of_getElem? (i := 2) rfl
theorem mX8_push_3 : (Cond.fieldLink RX8 18 "AbelianPowers$Trail" "sums" "[J") ∈ wsX8_push := List.mem_of_getElem? (i := 3) rfl
theorem mX8_push_4 : (Cond.fieldLink RX8 28 "AbelianPowers$Trail" "weights" "[J") ∈ wsX8_push := List.mem_of_getElem? (i := 4) rfl
theorem mX8_push_5 : (Cond.fieldLink RX8 15 "AbelianPowers$Trail" "tops" "[I") ∈ wsX8_push := List.mem_of_getElem? (i := 5) rfl
theorem mX8_push_10 : (Cond.fieldLink RX8 35 "AbelianPowers$Trail" "kind" "I") ∈ wsX8_push := List.mem_of_getElem? (i := 10) rfl
theorem mX8_push_6 : (Cond.methodLink RX8 47 Lib.Math.max.name) ∈ wsX8_push := List.mem_of_getElem? (i := 6) rfl
theorem mX8_push_7 : (Cond.static Lib.Math.max.name) ∈ wsX8_push := List.mem_of_getElem? (i := 7) rfl
theorem mX8_push_8 : (Cond.initialized "java/lang/Math") ∈ wsX8_push := List.mem_of_getElem? (i := 8) rfl
theorem mX8_push_9 : (Cond.code Lib.Math.max.name Lib.Math.max.code 2 (some .int)) ∈ wsX8_push := List.mem_of_getElem? (i := 9) rfl
theorem nX8_push_X8 : ∀ w ∈ wsX80, w ∈ wsX8_push := fun _ h => List.mem_cons_of_mem _ (List.mem_append_right _ h)
theorem zX8_push : yX8_push.cls = RX8 ∧ yX8_push.cls ≠ "java/lang/invoke/MethodHandle" ∧ yX8_push.cls ≠ "java/lang/invoke/VarHandle" ∧ (parseMethodDescriptor yX8_push.desc).map (fun d => d.parameters.length) = some 1 := by decide +kernel
abbrev rX8_push : Room := { frames := 1, cells := 0, slots := 0, locals := 22 }
abbrev pX8_push (cy : Nat → ClassId) (h : Nat → Nat) (t_letters : Nat → Int32) (t_tops : Nat → Int32) (t_sums : Nat → Int64) (t_lowPairs : Nat → Int64) (t_highPairs : Nat → Int64) (t_weights : Nat → Int64) (t_size : Int32) (t_kind : Int32) (t_exponent : Int32) : va_W := [(h 0, .inr (8, [.ref (h 1), .ref (h 2), .ref (h 3), .ref (h 4), .ref (h 5), .ref (h 6), .int t_size, .int t_kind, .int t_exponent])), (h 1, .inl (cy 0, 41, .inl t_letters)), (h 2, .inl (cy 0, 42, .inl t_tops)), (h 3, .inl (cy 1, 42, .inr (.inl t_sums))), (h 4, .inl (cy 1, 42, .inr (.inl t_lowPairs))), (h 5, .inl (cy 1, 42, .inr (.inl t_highPairs))), (h 6, .inl (cy 1, 4, .inr (.inl t_weights)))]
def VX8_push_95 (post : (Nat → Int32) → (Nat → Int32) → (Nat → Int64) → (Nat → Int64) → (Nat → Int64) → Int32 → Prop)  (t_weights : Nat → Int64) (t_kind : Int32) (p1 : Int32) (t_letters : Nat → Int32) (t_tops : Nat → Int32) (t_sums : Nat → Int64) (t_lowPairs : Nat → Int64) (t_highPairs : Nat → Int64) (t_size : Int32) : Prop := post t_letters t_tops t_sums t_lowPairs t_highPairs (t_size + 1)
def VX8_push (post : (Nat → Int32) → (Nat → Int32) → (Nat → Int64) → (Nat → Int64) → (Nat → Int64) → Int32 → Prop)  (t_weights : Nat → Int64) (t_kind : Int32) (p1 : Int32) (t_letters : Nat → Int32) (t_tops : Nat → Int32) (t_sums : Nat → Int64) (t_lowPairs : Nat → Int64) (t_highPairs : Nat → Int64) (t_size : Int32) : Prop := ((40 < t_size) → post t_letters t_tops t_sums t_lowPairs t_highPairs t_size) ∧ (¬ (40 < t_size) → ((p1 < 0) → post t_letters t_tops t_sums t_lowPairs t_highPairs t_size) ∧ (¬ (p1 < 0) → ((p1 < 4) → vp_in t_size 41 ∧ (vp_in t_size 42 ∧ (∀ y_2 : Int64, y_2 = (t_sums t_size.toNatClampNeg) → vp_in p1 4 ∧ (∀ y_5 : Int64, y_5 = (y_2 + (t_weights p1.toNatClampNeg)) → vp_in (t_size + 1) 42 ∧ (vp_in t_size 42 ∧ (∀ y_7 : Int32, y_7 = (t_tops t_size.toNatClampNeg) → ∀ y_9 : Int32, y_9 = (if y_7 < (p1 + 1) then (p1 + 1) else y_7) → vp_in (t_size + 1) 42 ∧ ((¬ (t_kind = 3) → VX8_push_95 post t_weights t_kind p1 (upd t_letters t_size.toNatClampNeg p1) (upd t_tops (t_size + 1).toNatClampNeg y_9) (vp_updL t_sums (t_size + 1).toNatClampNeg y_5) t_lowPairs t_highPairs t_size) ∧ ((t_kind = 3) → VX8_sumPairs (fun u_11 u_12 => VX8_push_95 post t_weights t_kind p1 (upd t_letters t_size.toNatClampNeg p1) (upd t_tops (t_size + 1).toNatClampNeg y_9) (vp_updL t_sums (t_size + 1).toNatClampNeg y_5) u_11 u_12 t_size) (upd t_letters t_size.toNatClampNeg p1) t_size p1 t_lowPairs t_highPairs)))))))) ∧ (¬ (p1 < 4) → post t_letters t_tops t_sums t_lowPairs t_highPairs t_size)))
set_option maxHeartbeats 4000000 in
set_option maxRecDepth 100000 in
theorem wX8_push_95 {p : Program} (l : Launch) {e : Env} {s : State} {m : MethodId} {args : Array Value} {below : List Frame} {meth : Method} {c : Code} {dC : Nat → ClassId} {dI : Nat → Nat → Nat} {cy : Nat → ClassId} {A : Nat → Prop} (h : Nat → Nat) (post : (Nat → Int32) → (Nat → Int32) → (Nat → Int64) → (Nat → Int64) → (Nat → Int64) → Int32 → Prop)   (t_weights : Nat → Int64) (t_kind : Int32) (t_exponent : Int32) (p1 : Int32) (C0 : cx p s m args meth c cX8_push 2 none wsX8_push RX8 dC dI cy A)  : ∀ (t_letters : Nat → Int32) (t_tops : Nat → Int32) (t_sums : Nat → Int64) (t_lowPairs : Nat → Int64) (t_highPairs : Nat → Int64) (t_size : Int32), VX8_push_95 post t_weights t_kind p1 t_letters t_tops t_sums t_lowPairs t_highPairs t_size → ∀ (H : Heap) (locs : List Loc) (ls : Array Slot), va_P (dC, dI) vwCl (pX8_push cy h t_letters t_tops t_sums t_lowPairs t_highPairs t_weights t_size t_kind t_exponent) H → va_D A (pX8_push cy h t_letters t_tops t_sums t_lowPairs t_highPairs t_weights t_size t_kind t_exponent) → va_S A s.heap H locs → lv_has ls 2 [(0, .ref (h 0))] → W p l e rX8_push s m args below meth c H locs 0 0 (MQ below (va_Qv (fun (u : (Nat → Int32) × (Nat → Int32) × (Nat → Int64) × (Nat → Int64) × (Nat → Int64) × Int32) => post u.1 u.2.1 u.2.2.1 u.2.2.2.1 u.2.2.2.2.1 u.2.2.2.2.2) (fun (u : (Nat → Int32) × (Nat → Int32) × (Nat → Int64) × (Nat → Int64) × (Nat → Int64) × Int32) (t : State) => va_P (dC, dI) vwCl (pX8_push cy h u.1 u.2.1 u.2.2.1 u.2.2.2.1 u.2.2.2.2.1 t_weights u.2.2.2.2.2 t_kind t_exponent) t.heap) A) args s 0 0 A) (F0 m 95 ls []) := by
  have C1 := C0
  obtain ⟨hx, hb, hr, hml, hown, hts, hlocks, hK, hA⟩ := C1
  intro t_letters t_tops t_sums t_lowPairs t_highPairs t_size hv H locs ls hP hD hS hl
  refine lv_aload_n hx hb dX8_push_95 rfl (lv_at hl 0 rfl) ?_
  refine lv_dup hx hb dX8_push_96 rfl ?_
  refine va_get (D := (dC, dI)) (ci := 8) (v := .int t_size) (C := RX8) (T := TX8) (N := 9) hx hb hts nX8_push_X8 hown hK hP 0 rfl rfl 6 (by decide) (hts _ mX8_push_1) (fun _ h9 => h9) rfl dX8_push_97 ?_
  refine lv_iconst (v := 1) hx hb dX8_push_100 (by decide) ?_
  refine lv_iadd hx hb dX8_push_101 ?_
  refine va_put (D := (dC, dI)) (ci := 8) (v := .int (t_size + 1)) (ty := .int) (C := RX8) (T := TX8) (N := 9) hx hb hts nX8_push_X8 tyX8 tyX8_ok nmX8 hown hK hP hD hS 0 rfl rfl 6 (by decide) (hts _ mX8_push_1) (fun _ h9 => h9) rfl (by decide +kernel) rfl rfl (Nat.le_of_ble_eq_true rfl) dX8_push_102 (fun H locs hP hD hS => ?_)
  have hP : va_P (dC, dI) vwCl (pX8_push cy h t_letters t_tops t_sums t_lowPairs t_highPairs t_weights (t_size + 1) t_kind t_exponent) H := hP
  have hD : va_D A (pX8_push cy h t_letters t_tops t_sums t_lowPairs t_highPairs t_weights (t_size + 1) t_kind t_exponent) := hD
  exact W.vret hx hb hr (fun t ht hW => ⟨⟨(t_letters, t_tops, t_sums, t_lowPairs, t_highPairs, (t_size + 1)), rfl, hv, va_Ph ht hP⟩, hS.F ht⟩) hS.2.2 dX8_push_105
set_option maxHeartbeats 4000000 in
set_option maxRecDepth 100000 in
theorem wX8_push_0 {p : Program} (l : Launch) {e : Env} {s : State} {m : MethodId} {args : Array Value} {below : List Frame} {meth : Method} {c : Code} {dC : Nat → ClassId} {dI : Nat → Nat → Nat} {cy : Nat → ClassId} {A : Nat → Prop} (h : Nat → Nat) (post : (Nat → Int32) → (Nat → Int32) → (Nat → Int64) → (Nat → Int64) → (Nat → Int64) → Int32 → Prop)   (t_weights : Nat → Int64) (t_kind : Int32) (t_exponent : Int32) (p1 : Int32) (C0 : cx p s m args meth c cX8_push 2 none wsX8_push RX8 dC dI cy A)  : ∀ (t_letters : Nat → Int32) (t_tops : Nat → Int32) (t_sums : Nat → Int64) (t_lowPairs : Nat → Int64) (t_highPairs : Nat → Int64) (t_size : Int32), VX8_push post t_weights t_kind p1 t_letters t_tops t_sums t_lowPairs t_highPairs t_size → ∀ (H : Heap) (locs : List Loc) (ls : Array Slot), va_P (dC, dI) vwCl (pX8_push cy h t_letters t_tops t_sums t_lowPairs t_highPairs t_weights t_size t_kind t_exponent) H → va_D A (pX8_push cy h t_letters t_tops t_sums t_lowPairs t_highPairs t_weights t_size t_kind t_exponent) → va_S A s.heap H locs → lv_has ls 2 [(0, .ref (h 0)), (1, .int p1)] → W p l e rX8_push s m args below meth c H locs 0 0 (MQ below (va_Qv (fun (u : (Nat → Int32) × (Nat → Int32) × (Nat → Int64) × (Nat → Int64) × (Nat → Int64) × Int32) => post u.1 u.2.1 u.2.2.1 u.2.2.2.1 u.2.2.2.2.1 u.2.2.2.2.2) (fun (u : (Nat → Int32) × (Nat → Int32) × (Nat → Int64) × (Nat → Int64) × (Nat → Int64) × Int32) (t : State) => va_P (dC, dI) vwCl (pX8_push cy h u.1 u.2.1 u.2.2.1 u.2.2.2.1 u.2.2.2.2.1 t_weights u.2.2.2.2.2 t_kind t_exponent) t.heap) A) args s 0 0 A) (F0 m 0 ls []) := by
  have C1 := C0
  obtain ⟨hx, hb, hr, hml, hown, hts, hlocks, hK, hA⟩ := C1
  intro t_letters t_tops t_sums t_lowPairs t_highPairs t_size hv H locs ls hP hD hS hl
  refine lv_aload_n hx hb dX8_push_0 rfl (lv_at hl 0 rfl) ?_
  refine va_get (D := (dC, dI)) (ci := 8) (v := .int t_size) (C := RX8) (T := TX8) (N := 9) hx hb hts nX8_push_X8 hown hK hP 0 rfl rfl 6 (by decide) (hts _ mX8_push_1) (fun _ h9 => h9) rfl dX8_push_1 ?_
  refine lv_bipush (v := 40) hx hb dX8_push_4 (by decide) ?_
  refine lv_icmp_gt (tgt := 18) hx hb dX8_push_6 (by decide) (fun c_17 => ?_) (fun c_17 => ?_)
  · have hv := hv.1 c_17
    exact W.vret hx hb hr (fun t ht hW => ⟨⟨(t_letters, t_tops, t_sums, t_lowPairs, t_highPairs, t_size), rfl, hv, va_Ph ht hP⟩, hS.F ht⟩) hS.2.2 dX8_push_18
  · have hv := hv.2 c_17
    refine lv_iload_n hx hb dX8_push_9 rfl (lv_at hl 1 rfl) ?_
    refine lv_if_lt (tgt := 18) hx hb dX8_push_10 (by decide) (fun c_16 => ?_) (fun c_16 => ?_)
    · have hv := hv.1 c_16
      exact W.vret hx hb hr (fun t ht hW => ⟨⟨(t_letters, t_tops, t_sums, t_lowPairs, t_highPairs, t_size), rfl, hv, va_Ph ht hP⟩, hS.F ht⟩) hS.2.2 dX8_push_18
    · have hv := hv.2 c_16
      refine lv_iload_n hx hb dX8_push_13 rfl (lv_at hl 1 rfl) ?_
      refine lv_iconst (v := 4) hx hb dX8_push_14 (by decide) ?_
      refine lv_icmp_lt (tgt := 19) hx hb dX8_push_15 (by decide) (fun c_15 => ?_) (fun c_15 => ?_)
      · have hv := hv.1 c_15
        refine lv_aload_n hx hb dX8_push_19 rfl (lv_at hl 0 rfl) ?_
        refine va_get (D := (dC, dI)) (ci := 8) (v := .ref (h 1)) (C := RX8) (T := TX8) (N := 9) hx hb hts nX8_push_X8 hown hK hP 0 rfl rfl 0 (by decide) (hts _ mX8_push_2) (fun _ h9 => h9) rfl dX8_push_20 ?_
        refine lv_aload_n hx hb dX8_push_23 rfl (lv_at hl 0 rfl) ?_
        refine va_get (D := (dC, dI)) (ci := 8) (v := .int t_size) (C := RX8) (T := TX8) (N := 9) hx hb hts nX8_push_X8 hown hK hP 0 rfl rfl 6 (by decide) (hts _ mX8_push_1) (fun _ h9 => h9) rfl dX8_push_24 ?_
        refine lv_iload_n hx hb dX8_push_27 rfl (lv_at hl 1 rfl) ?_
        have h_1 := hv.1
        have hv := hv.2
        refine va_iast hx hb hK hP hD hS 1 0 rfl rfl h_1 dX8_push_28 (fun H locs hP hD hS => ?_)
        have hP : va_P (dC, dI) vwCl (pX8_push cy h (upd t_letters t_size.toNatClampNeg p1) t_tops t_sums t_lowPairs t_highPairs t_weights t_size t_kind t_exponent) H := hP
        have hD : va_D A (pX8_push cy h (upd t_letters t_size.toNatClampNeg p1) t_tops t_sums t_lowPairs t_highPairs t_weights t_size t_kind t_exponent) := hD
        refine lv_aload_n hx hb dX8_push_29 rfl (lv_at hl 0 rfl) ?_
        refine va_get (D := (dC, dI)) (ci := 8) (v := .ref (h 3)) (C := RX8) (T := TX8) (N := 9) hx hb hts nX8_push_X8 hown hK hP 0 rfl rfl 2 (by decide) (hts _ mX8_push_3) (fun _ h9 => h9) rfl dX8_push_30 ?_
        refine lv_aload_n hx hb dX8_push_33 rfl (lv_at hl 0 rfl) ?_
        refine va_get (D := (dC, dI)) (ci := 8) (v := .int t_size) (C := RX8) (T := TX8) (N := 9) hx hb hts nX8_push_X8 hown hK hP 0 rfl rfl 6 (by decide) (hts _ mX8_push_1) (fun _ h9 => h9) rfl dX8_push_34 ?_
        refine lv_iconst (v := 1) hx hb dX8_push_37 (by decide) ?_
        refine lv_iadd hx hb dX8_push_38 ?_
        refine lv_aload_n hx hb dX8_push_39 rfl (lv_at hl 0 rfl) ?_
        refine va_get (D := (dC, dI)) (ci := 8) (v := .ref (h 3)) (C := RX8) (T := TX8) (N := 9) hx hb hts nX8_push_X8 hown hK hP 0 rfl rfl 2 (by decide) (hts _ mX8_push_3) (fun _ h9 => h9) rfl dX8_push_40 ?_
        refine lv_aload_n hx hb dX8_push_43 rfl (lv_at hl 0 rfl) ?_
        refine va_get (D := (dC, dI)) (ci := 8) (v := .int t_size) (C := RX8) (T := TX8) (N := 9) hx hb hts nX8_push_X8 hown hK hP 0 rfl rfl 6 (by decide) (hts _ mX8_push_1) (fun _ h9 => h9) rfl dX8_push_44 ?_
        have h_3 := hv.1
        have hv := hv.2
        refine va_lald hx hb hK hP 3 1 rfl rfl h_3 dX8_push_47 ?_
        refine lv_topl (fun y_2 ey_2 => ?_)
        have hv := hv y_2 ey_2
        refine lv_aload_n hx hb dX8_push_48 rfl (lv_at hl 0 rfl) ?_
        refine va_get (D := (dC, dI)) (ci := 8) (v := .ref (h 6)) (C := RX8) (T := TX8) (N := 9) hx hb hts nX8_push_X8 hown hK hP 0 rfl rfl 5 (by decide) (hts _ mX8_push_4) (fun _ h9 => h9) rfl dX8_push_49 ?_
        refine lv_iload_n hx hb dX8_push_52 rfl (lv_at hl 1 rfl) ?_
        have h_4 := hv.1
        have hv := hv.2
        refine va_lald hx hb hK hP 6 1 rfl rfl h_4 dX8_push_53 ?_
        refine lv_ladd hx hb dX8_push_54 ?_
        refine lv_topl (fun y_5 ey_5 => ?_)
        have hv := hv y_5 ey_5
        have h_6 := hv.1
        have hv := hv.2
        refine va_last hx hb hK hP hD hS 3 1 rfl rfl h_6 dX8_push_55 (fun H locs hP hD hS => ?_)
        have hP : va_P (dC, dI) vwCl (pX8_push cy h (upd t_letters t_size.toNatClampNeg p1) t_tops (vp_updL t_sums (t_size + 1).toNatClampNeg y_5) t_lowPairs t_highPairs t_weights t_size t_kind t_exponent) H := hP
        have hD : va_D A (pX8_push cy h (upd t_letters t_size.toNatClampNeg p1) t_tops (vp_updL t_sums (t_size + 1).toNatClampNeg y_5) t_lowPairs t_highPairs t_weights t_size t_kind t_exponent) := hD
        refine lv_aload_n hx hb dX8_push_56 rfl (lv_at hl 0 rfl) ?_
        refine va_get (D := (dC, dI)) (ci := 8) (v := .ref (h 2)) (C := RX8) (T := TX8) (N := 9) hx hb hts nX8_push_X8 hown hK hP 0 rfl rfl 1 (by decide) (hts _ mX8_push_5) (fun _ h9 => h9) rfl dX8_push_57 ?_
        refine lv_aload_n hx hb dX8_push_60 rfl (lv_at hl 0 rfl) ?_
        refine va_get (D := (dC, dI)) (ci := 8) (v := .int t_size) (C := RX8) (T := TX8) (N := 9) hx hb hts nX8_push_X8 hown hK hP 0 rfl rfl 6 (by decide) (hts _ mX8_push_1) (fun _ h9 => h9) rfl dX8_push_61 ?_
        refine lv_iconst (v := 1) hx hb dX8_push_64 (by decide) ?_
        refine lv_iadd hx hb dX8_push_65 ?_
        refine lv_aload_n hx hb dX8_push_66 rfl (lv_at hl 0 rfl) ?_
        refine va_get (D := (dC, dI)) (ci := 8) (v := .ref (h 2)) (C := RX8) (T := TX8) (N := 9) hx hb hts nX8_push_X8 hown hK hP 0 rfl rfl 1 (by decide) (hts _ mX8_push_5) (fun _ h9 => h9) rfl dX8_push_67 ?_
        refine lv_aload_n hx hb dX8_push_70 rfl (lv_at hl 0 rfl) ?_
        refine va_get (D := (dC, dI)) (ci := 8) (v := .int t_size) (C := RX8) (T := TX8) (N := 9) hx hb hts nX8_push_X8 hown hK hP 0 rfl rfl 6 (by decide) (hts _ mX8_push_1) (fun _ h9 => h9) rfl dX8_push_71 ?_
        have h_8 := hv.1
        have hv := hv.2
        refine va_iald hx hb hK hP 2 0 rfl rfl h_8 dX8_push_74 ?_
        refine lv_topi (fun y_7 ey_7 => ?_)
        have hv := hv y_7 ey_7
        refine lv_iload_n hx hb dX8_push_75 rfl (lv_at hl 1 rfl) ?_
        refine lv_iconst (v := 1) hx hb dX8_push_76 (by decide) ?_
        refine lv_iadd hx hb dX8_push_77 ?_
        refine va_mmax hx hb (hml.trans hl.1.symm) hown (hts _ mX8_push_6) (hts _ mX8_push_7) (hts _ mX8_push_8) (hts _ mX8_push_9) (Nat.le_of_ble_eq_true rfl) (Nat.le_of_ble_eq_true rfl) (Nat.zero_le _) (Nat.zero_le _) dX8_push_78 ?_
        refine lv_topi (fun y_9 ey_9 => ?_)
        have hv := hv y_9 ey_9
        have h_10 := hv.1
        have hv := hv.2
        refine va_iast hx hb hK hP hD hS 2 0 rfl rfl h_10 dX8_push_81 (fun H locs hP hD hS => ?_)
        have hP : va_P (dC, dI) vwCl (pX8_push cy h (upd t_letters t_size.toNatClampNeg p1) (upd t_tops (t_size + 1).toNatClampNeg y_9) (vp_updL t_sums (t_size + 1).toNatClampNeg y_5) t_lowPairs t_highPairs t_weights t_size t_kind t_exponent) H := hP
        have hD : va_D A (pX8_push cy h (upd t_letters t_size.toNatClampNeg p1) (upd t_tops (t_size + 1).toNatClampNeg y_9) (vp_updL t_sums (t_size + 1).toNatClampNeg y_5) t_lowPairs t_highPairs t_weights t_size t_kind t_exponent) := hD
        refine lv_aload_n hx hb dX8_push_82 rfl (lv_at hl 0 rfl) ?_
        refine va_get (D := (dC, dI)) (ci := 8) (v := .int t_kind) (C := RX8) (T := TX8) (N := 9) hx hb hts nX8_push_X8 hown hK hP 0 rfl rfl 7 (by decide) (hts _ mX8_push_10) (fun _ h9 => h9) rfl dX8_push_83 ?_
        refine lv_iconst (v := 3) hx hb dX8_push_86 (by decide) ?_
        refine lv_icmp_ne (tgt := 95) hx hb dX8_push_87 (by decide) (fun c_14 => ?_) (fun c_14 => ?_)
        · have hv := hv.1 c_14
          exact wX8_push_95 l h post  t_weights t_kind t_exponent p1 C0 (upd t_letters t_size.toNatClampNeg p1) (upd t_tops (t_size + 1).toNatClampNeg y_9) (vp_updL t_sums (t_size + 1).toNatClampNeg y_5) t_lowPairs t_highPairs t_size hv _ _ _ hP hD hS (lv_sub hl [0] rfl)
        · have hv := hv.2 c_14
          refine lv_aload_n hx hb dX8_push_90 rfl (lv_at hl 0 rfl) ?_
          refine lv_iload_n hx hb dX8_push_91 rfl (lv_at hl 1 rfl) ?_
          refine cb_VV (As := [.int p1]) (rest := []) ⟨hx, hb, hml, hown, hts⟩ (kX8_sumPairs l dC dI cy (adl [h 0, h 1, h 4, h 5, h 2, h 3, h 6]) (upd t_letters t_size.toNatClampNeg p1) t_lowPairs t_highPairs t_size t_kind t_exponent p1 _ hv) (cwV 1 hts gX8_push_X8_sumPairs rfl rfl rfl zX8_sumPairs ⟨Nat.le_of_ble_eq_true rfl, Nat.le_of_ble_eq_true rfl⟩) hK hP hD hS hA [0, 1, 4, 5] [some 0, some 1, none, none, some 2, some 3, none] rfl rfl rfl (ci := 8) rfl rfl (fun _ => rfl) rfl hl.1 rfl (Nat.le_of_ble_eq_true rfl) dX8_push_92 (fun w_13 H locs hv hP hD hS => ?_)
          obtain ⟨u_11, u_12⟩ := w_13
          have hP : va_P (dC, dI) vwCl (pX8_push cy h (upd t_letters t_size.toNatClampNeg p1) (upd t_tops (t_size + 1).toNatClampNeg y_9) (vp_updL t_sums (t_size + 1).toNatClampNeg y_5) u_11 u_12 t_weights t_size t_kind t_exponent) H := hP
          have hD : va_D A (pX8_push cy h (upd t_letters t_size.toNatClampNeg p1) (upd t_tops (t_size + 1).toNatClampNeg y_9) (vp_updL t_sums (t_size + 1).toNatClampNeg y_5) u_11 u_12 t_weights t_size t_kind t_exponent) := hD
          exact wX8_push_95 l h post  t_weights t_kind t_exponent p1 C0 (upd t_letters t_size.toNatClampNeg p1) (upd t_tops (t_size + 1).toNatClampNeg y_9) (vp_updL t_sums (t_size + 1).toNatClampNeg y_5) u_11 u_12 t_size hv _ _ _ hP hD hS (lv_sub hl [0] rfl)
      · have hv := hv.2 c_15
        exact W.vret hx hb hr (fun t ht hW => ⟨⟨(t_letters, t_tops, t_sums, t_lowPairs, t_highPairs, t_size), rfl, hv, va_Ph ht hP⟩, hS.F ht⟩) hS.2.2 dX8_push_18
theorem kX8_push (l : Launch) (dC : Nat → ClassId) (dI : Nat → Nat → Nat) (cy : Nat → ClassId) (h : Nat → Nat) (t_letters : Nat → Int32) (t_tops : Nat → Int32) (t_sums : Nat → Int64) (t_lowPairs : Nat → Int64) (t_highPairs : Nat → Int64) (t_weights : Nat → Int64) (t_size : Int32) (t_kind : Int32) (t_exponent : Int32) (p1 : Int32) (post : (Nat → Int32) → (Nat → Int32) → (Nat → Int64) → (Nat → Int64) → (Nat → Int64) → Int32 → Prop) (hv : VX8_push post t_weights t_kind p1 t_letters t_tops t_sums t_lowPairs t_highPairs t_size) : CtV l yX8_push wsX8_push rX8_push dC dI cy [.ref (h 0), .int p1] (pX8_push cy h t_letters t_tops t_sums t_lowPairs t_highPairs t_weights t_size t_kind t_exponent) (fun (u : (Nat → Int32) × (Nat → Int32) × (Nat → Int64) × (Nat → Int64) × (Nat → Int64) × Int32) => pX8_push cy h u.1 u.2.1 u.2.2.1 u.2.2.2.1 u.2.2.2.2.1 t_weights u.2.2.2.2.2 t_kind t_exponent) (fun (u : (Nat → Int32) × (Nat → Int32) × (Nat → Int64) × (Nat → Int64) × (Nat → Int64) × Int32) => post u.1 u.2.1 u.2.2.1 u.2.2.2.1 u.2.2.2.2.1 u.2.2.2.2.2) :=
  ct_ofV (by decide) rfl (Nat.le_of_ble_eq_true rfl) (fun p e s m below meth c A ls C0 hP hD hS hl => wX8_push_0 l h post t_weights t_kind t_exponent p1 C0 t_letters t_tops t_sums t_lowPairs t_highPairs t_size hv _ _ _ hP hD hS hl)
theorem mX8_pushAll_1 : (Cond.fieldLink RX8 57 "AbelianPowers$Word" "size" "I") ∈ wsX8_pushAll := List.mem_of_getElem? (i := 1) rfl
theorem mX8_pushAll_2 : (Cond.fieldLink RX8 60 "AbelianPowers$Word" "letters" "[I") ∈ wsX8_pushAll := List.mem_of_getElem? (i := 2) rfl
theorem nX8_pushAll_X9 : ∀ w ∈ wsX90, w ∈ wsX8_pushAll := fun _ h => List.mem_cons_of_mem _ (List.mem_append_left _ (List.mem_append_right _ h))
theorem zX8_pushAll : yX8_pushAll.cls = RX8 ∧ yX8_pushAll.cls ≠ "java/lang/invoke/MethodHandle" ∧ yX8_pushAll.cls ≠ "java/lang/invoke/VarHandle" ∧ (parseMethodDescriptor yX8_pushAll.desc).map (fun d => d.parameters.length) = some 1 := by decide +kernel
abbrev rX8_pushAll : Room := { frames := 2, cells := 0, slots := 0, locals := 43 }
abbrev pX8_pushAll (cy : Nat → ClassId) (h : Nat → Nat) (a1_n : Nat) (t_letters : Nat → Int32) (t_tops : Nat → Int32) (t_sums : Nat → Int64) (t_lowPairs : Nat → Int64) (t_highPairs : Nat → Int64) (t_weights : Nat → Int64) (t_size : Int32) (t_kind : Int32) (t_exponent : Int32) (a1_letters : Nat → Int32) (a1_size : Int32) : va_W := [(h 0, .inr (8, [.ref (h 1), .ref (h 2), .ref (h 3), .ref (h 4), .ref (h 5), .ref (h 6), .int t_size, .int t_kind, .int t_exponent])), (h 1, .inl (cy 0, 41, .inl t_letters)), (h 2, .inl (cy 0, 42, .inl t_tops)), (h 3, .inl (cy 1, 42, .inr (.inl t_sums))), (h 4, .inl (cy 1, 42, .inr (.inl t_lowPairs))), (h 5, .inl (cy 1, 42, .inr (.inl t_highPairs))), (h 6, .inl (cy 1, 4, .inr (.inl t_weights))), (h 7, .inr (9, [.ref (h 8), .int a1_size])), (h 8, .inl (cy 0, a1_n, .inl a1_letters))]
def VX8_pushAll_2 (post : (Nat → Int32) → (Nat → Int32) → (Nat → Int64) → (Nat → Int64) → (Nat → Int64) → Int32 → Prop)  (a1_n : Nat) (t_weights : Nat → Int64) (t_kind : Int32) (a1_letters : Nat → Int32) (a1_size : Int32) : Nat → (Nat → Int32) → (Nat → Int32) → (Nat → Int64) → (Nat → Int64) → (Nat → Int64) → Int32 → Int32 → Prop
  | 0, _, _, _, _, _, _, _ => False
  | n + 1, t_letters, t_tops, t_sums, t_lowPairs, t_highPairs, t_size, x2 => ((a1_size ≤ x2) → post t_letters t_tops t_sums t_lowPairs t_highPairs t_size) ∧ (¬ (a1_size ≤ x2) → vp_in x2 a1_n ∧ (∀ y_2 : Int32, y_2 = (a1_letters x2.toNatClampNeg) → VX8_push (fun u_4 u_5 u_6 u_7 u_8 u_9 => VX8_pushAll_2 post a1_n t_weights t_kind a1_letters a1_size n u_4 u_5 u_6 u_7 u_8 u_9 (x2 + 1)) t_weights t_kind y_2 t_letters t_tops t_sums t_lowPairs t_highPairs t_size))
def VX8_pushAll (post : (Nat → Int32) → (Nat → Int32) → (Nat → Int64) → (Nat → Int64) → (Nat → Int64) → Int32 → Prop)  (a1_n : Nat) (t_weights : Nat → Int64) (t_kind : Int32) (a1_letters : Nat → Int32) (a1_size : Int32) (t_letters : Nat → Int32) (t_tops : Nat → Int32) (t_sums : Nat → Int64) (t_lowPairs : Nat → Int64) (t_highPairs : Nat → Int64) (t_size : Int32) : Prop := ∃ n2 : Nat, VX8_pushAll_2 post a1_n t_weights t_kind a1_letters a1_size n2 t_letters t_tops t_sums t_lowPairs t_highPairs t_size 0
set_option maxHeartbeats 4000000 in
set_option maxRecDepth 100000 in
theorem wX8_pushAll_2 {p : Program} (l : Launch) {e : Env} {s : State} {m : MethodId} {args : Array Value} {below : List Frame} {meth : Method} {c : Code} {dC : Nat → ClassId} {dI : Nat → Nat → Nat} {cy : Nat → ClassId} {A : Nat → Prop} (h : Nat → Nat) (a1_n : Nat) (post : (Nat → Int32) → (Nat → Int32) → (Nat → Int64) → (Nat → Int64) → (Nat → Int64) → Int32 → Prop)   (t_weights : Nat → Int64) (t_kind : Int32) (t_exponent : Int32) (a1_letters : Nat → Int32) (a1_size : Int32)  (C0 : cx p s m args meth c cX8_pushAll 3 none wsX8_pushAll RX8 dC dI cy A)  : ∀ (n : Nat) (t_letters : Nat → Int32) (t_tops : Nat → Int32) (t_sums : Nat → Int64) (t_lowPairs : Nat → Int64) (t_highPairs : Nat → Int64) (t_size : Int32) (x2 : Int32), VX8_pushAll_2 post a1_n t_weights t_kind a1_letters a1_size n t_letters t_tops t_sums t_lowPairs t_highPairs t_size x2 → ∀ (H : Heap) (locs : List Loc) (ls : Array Slot), va_P (dC, dI) vwCl (pX8_pushAll cy h a1_n t_letters t_tops t_sums t_lowPairs t_highPairs t_weights t_size t_kind t_exponent a1_letters a1_size) H → va_D A (pX8_pushAll cy h a1_n t_letters t_tops t_sums t_lowPairs t_highPairs t_weights t_size t_kind t_exponent a1_letters a1_size) → va_S A s.heap H locs → lv_has ls 3 [(0, .ref (h 0)), (1, .ref (h 7)), (2, .int x2)] → W p l e rX8_pushAll s m args below meth c H locs 0 0 (MQ below (va_Qv (fun (u : (Nat → Int32) × (Nat → Int32) × (Nat → Int64) × (Nat → Int64) × (Nat → Int64) × Int32) => post u.1 u.2.1 u.2.2.1 u.2.2.2.1 u.2.2.2.2.1 u.2.2.2.2.2) (fun (u : (Nat → Int32) × (Nat → Int32) × (Nat → Int64) × (Nat → Int64) × (Nat → Int64) × Int32) (t : State) => va_P (dC, dI) vwCl (pX8_pushAll cy h a1_n u.1 u.2.1 u.2.2.1 u.2.2.2.1 u.2.2.2.2.1 t_weights u.2.2.2.2.2 t_kind t_exponent a1_letters a1_size) t.heap) A) args s 0 0 A) (F0 m 2 ls []) := by
  have C1 := C0
  obtain ⟨hx, hb, hr, hml, hown, hts, hlocks, hK, hA⟩ := C1
  intro n
  induction n with
  | zero => intro t_letters t_tops t_sums t_lowPairs t_highPairs t_size x2 hv; exact hv.elim
  | succ n ih =>
    intro t_letters t_tops t_sums t_lowPairs t_highPairs t_size x2 hv H locs ls hP hD hS hl
    refine lv_iload_n hx hb dX8_pushAll_2 rfl (lv_at hl 2 rfl) ?_
    refine lv_aload_n hx hb dX8_pushAll_3 rfl (lv_at hl 1 rfl) ?_
    refine va_get (D := (dC, dI)) (ci := 9) (v := .int a1_size) (C := RX9) (T := TX9) (N := 2) hx hb hts nX8_pushAll_X9 hown hK hP 7 rfl rfl 1 (by decide) (hts _ mX8_pushAll_1) (fun _ h9 => h9) rfl dX8_pushAll_4 ?_
    refine lv_icmp_ge (tgt := 26) hx hb dX8_pushAll_7 (by decide) (fun c_11 => ?_) (fun c_11 => ?_)
    · have hv := hv.1 c_11
      exact W.vret hx hb hr (fun t ht hW => ⟨⟨(t_letters, t_tops, t_sums, t_lowPairs, t_highPairs, t_size), rfl, hv, va_Ph ht hP⟩, hS.F ht⟩) hS.2.2 dX8_pushAll_26
    · have hv := hv.2 c_11
      refine lv_aload_n hx hb dX8_pushAll_10 rfl (lv_at hl 0 rfl) ?_
      refine lv_aload_n hx hb dX8_pushAll_11 rfl (lv_at hl 1 rfl) ?_
      refine va_get (D := (dC, dI)) (ci := 9) (v := .ref (h 8)) (C := RX9) (T := TX9) (N := 2) hx hb hts nX8_pushAll_X9 hown hK hP 7 rfl rfl 0 (by decide) (hts _ mX8_pushAll_2) (fun _ h9 => h9) rfl dX8_pushAll_12 ?_
      refine lv_iload_n hx hb dX8_pushAll_15 rfl (lv_at hl 2 rfl) ?_
      have h_3 := hv.1
      have hv := hv.2
      refine va_iald hx hb hK hP 8 0 rfl rfl h_3 dX8_pushAll_16 ?_
      refine lv_topi (fun y_2 ey_2 => ?_)
      have hv := hv y_2 ey_2
      refine cb_VV (As := [.int y_2]) (rest := []) ⟨hx, hb, hml, hown, hts⟩ (kX8_push l dC dI cy (adl [h 0, h 1, h 2, h 3, h 4, h 5, h 6]) t_letters t_tops t_sums t_lowPairs t_highPairs t_weights t_size t_kind t_exponent y_2 _ hv) (cwV 1 hts gX8_pushAll_X8_push rfl rfl rfl zX8_push ⟨Nat.le_of_ble_eq_true rfl, Nat.le_of_ble_eq_true rfl⟩) hK hP hD hS hA [0, 1, 2, 3, 4, 5, 6] [some 0, some 1, some 2, some 3, some 4, some 5, some 6, none, none] rfl rfl rfl (ci := 8) rfl rfl (fun _ => rfl) rfl hl.1 rfl (Nat.le_of_ble_eq_true rfl) dX8_pushAll_17 (fun w_10 H locs hv hP hD hS => ?_)
      obtain ⟨u_4, u_5, u_6, u_7, u_8, u_9⟩ := w_10
      have hP : va_P (dC, dI) vwCl (pX8_pushAll cy h a1_n u_4 u_5 u_6 u_7 u_8 t_weights u_9 t_kind t_exponent a1_letters a1_size) H := hP
      have hD : va_D A (pX8_pushAll cy h a1_n u_4 u_5 u_6 u_7 u_8 t_weights u_9 t_kind t_exponent a1_letters a1_size) := hD
      refine lv_iinc (v := (x2 + 1)) (lv' := [(2, .int ((x2 + 1))), (0, .ref (h 0)), (1, .ref (h 7))]) hx hb dX8_pushAll_20 hl (k := 2) rfl rfl (by decide) rfl (fun ls hl => ?_)
      refine lv_goto (tgt := 2) hx hb dX8_pushAll_23 (by decide) ?_
      exact ih u_4 u_5 u_6 u_7 u_8 u_9 (x2 + 1) hv _ _ _ hP hD hS (lv_sub hl [1, 2, 0] rfl)
set_option maxHeartbeats 4000000 in
set_option maxRecDepth 100000 in
theorem wX8_pushAll_0 {p : Program} (l : Launch) {e : Env} {s : State} {m : MethodId} {args : Array Value} {below : List Frame} {meth : Method} {c : Code} {dC : Nat → ClassId} {dI : Nat → Nat → Nat} {cy : Nat → ClassId} {A : Nat → Prop} (h : Nat → Nat) (a1_n : Nat) (post : (Nat → Int32) → (Nat → Int32) → (Nat → Int64) → (Nat → Int64) → (Nat → Int64) → Int32 → Prop)   (t_weights : Nat → Int64) (t_kind : Int32) (t_exponent : Int32) (a1_letters : Nat → Int32) (a1_size : Int32)  (C0 : cx p s m args meth c cX8_pushAll 3 none wsX8_pushAll RX8 dC dI cy A)  : ∀ (t_letters : Nat → Int32) (t_tops : Nat → Int32) (t_sums : Nat → Int64) (t_lowPairs : Nat → Int64) (t_highPairs : Nat → Int64) (t_size : Int32), VX8_pushAll post a1_n t_weights t_kind a1_letters a1_size t_letters t_tops t_sums t_lowPairs t_highPairs t_size → ∀ (H : Heap) (locs : List Loc) (ls : Array Slot), va_P (dC, dI) vwCl (pX8_pushAll cy h a1_n t_letters t_tops t_sums t_lowPairs t_highPairs t_weights t_size t_kind t_exponent a1_letters a1_size) H → va_D A (pX8_pushAll cy h a1_n t_letters t_tops t_sums t_lowPairs t_highPairs t_weights t_size t_kind t_exponent a1_letters a1_size) → va_S A s.heap H locs → lv_has ls 3 [(0, .ref (h 0)), (1, .ref (h 7))] → W p l e rX8_pushAll s m args below meth c H locs 0 0 (MQ below (va_Qv (fun (u : (Nat → Int32) × (Nat → Int32) × (Nat → Int64) × (Nat → Int64) × (Nat → Int64) × Int32) => post u.1 u.2.1 u.2.2.1 u.2.2.2.1 u.2.2.2.2.1 u.2.2.2.2.2) (fun (u : (Nat → Int32) × (Nat → Int32) × (Nat → Int64) × (Nat → Int64) × (Nat → Int64) × Int32) (t : State) => va_P (dC, dI) vwCl (pX8_pushAll cy h a1_n u.1 u.2.1 u.2.2.1 u.2.2.2.1 u.2.2.2.2.1 t_weights u.2.2.2.2.2 t_kind t_exponent a1_letters a1_size) t.heap) A) args s 0 0 A) (F0 m 0 ls []) := by
  have C1 := C0
  obtain ⟨hx, hb, hr, hml, hown, hts, hlocks, hK, hA⟩ := C1
  intro t_letters t_tops t_sums t_lowPairs t_highPairs t_size hv H locs ls hP hD hS hl
  refine lv_iconst (v := 0) hx hb dX8_pushAll_0 (by decide) ?_
  refine lv_istore_n (lv' := [(2, .int 0), (0, .ref (h 0)), (1, .ref (h 7))]) hx hb dX8_pushAll_1 rfl hl (by decide) rfl (fun ls hl => ?_)
  obtain ⟨n_1, hv⟩ := hv
  exact wX8_pushAll_2 l h a1_n post  t_weights t_kind t_exponent a1_letters a1_size C0 n_1 t_letters t_tops t_sums t_lowPairs t_highPairs t_size 0 hv _ _ _ hP hD hS (lv_sub hl [1, 2, 0] rfl)
theorem kX8_pushAll (l : Launch) (dC : Nat → ClassId) (dI : Nat → Nat → Nat) (cy : Nat → ClassId) (h : Nat → Nat) (a1_n : Nat) (t_letters : Nat → Int32) (t_tops : Nat → Int32) (t_sums : Nat → Int64) (t_lowPairs : Nat → Int64) (t_highPairs : Nat → Int64) (t_weights : Nat → Int64) (t_size : Int32) (t_kind : Int32) (t_exponent : Int32) (a1_letters : Nat → Int32) (a1_size : Int32)  (post : (Nat → Int32) → (Nat → Int32) → (Nat → Int64) → (Nat → Int64) → (Nat → Int64) → Int32 → Prop) (hv : VX8_pushAll post a1_n t_weights t_kind a1_letters a1_size t_letters t_tops t_sums t_lowPairs t_highPairs t_size) : CtV l yX8_pushAll wsX8_pushAll rX8_pushAll dC dI cy [.ref (h 0), .ref (h 7)] (pX8_pushAll cy h a1_n t_letters t_tops t_sums t_lowPairs t_highPairs t_weights t_size t_kind t_exponent a1_letters a1_size) (fun (u : (Nat → Int32) × (Nat → Int32) × (Nat → Int64) × (Nat → Int64) × (Nat → Int64) × Int32) => pX8_pushAll cy h a1_n u.1 u.2.1 u.2.2.1 u.2.2.2.1 u.2.2.2.2.1 t_weights u.2.2.2.2.2 t_kind t_exponent a1_letters a1_size) (fun (u : (Nat → Int32) × (Nat → Int32) × (Nat → Int64) × (Nat → Int64) × (Nat → Int64) × Int32) => post u.1 u.2.1 u.2.2.1 u.2.2.2.1 u.2.2.2.2.1 u.2.2.2.2.2) :=
  ct_ofV (by decide) rfl (Nat.le_of_ble_eq_true rfl) (fun p e s m below meth c A ls C0 hP hD hS hl => wX8_pushAll_0 l h a1_n post t_weights t_kind t_exponent a1_letters a1_size C0 t_letters t_tops t_sums t_lowPairs t_highPairs t_size hv _ _ _ hP hD hS hl)
theorem mX8_pop_1 : (Cond.fieldLink RX8 31 "AbelianPowers$Trail" "size" "I") ∈ wsX8_pop := List.mem_of_getElem? (i := 1) rfl
theorem mX8_pop_2 : (Cond.fieldLink RX8 9 "AbelianPowers$Trail" "letters" "[I") ∈ wsX8_pop := List.mem_of_getElem? (i := 2) rfl
theorem nX8_pop_X8 : ∀ w ∈ wsX80, w ∈ wsX8_pop := fun _ h => List.mem_cons_of_mem _ (List.mem_append_right _ h)
theorem zX8_pop : yX8_pop.cls = RX8 ∧ yX8_pop.cls ≠ "java/lang/invoke/MethodHandle" ∧ yX8_pop.cls ≠ "java/lang/invoke/VarHandle" ∧ (parseMethodDescriptor yX8_pop.desc).map (fun d => d.parameters.length) = some 0 := by decide +kernel
abbrev rX8_pop : Room := { frames := 0, cells := 0, slots := 0, locals := 0 }
abbrev pX8_pop (cy : Nat → ClassId) (h : Nat → Nat) (t_letters : Nat → Int32) (t_size : Int32) (t_kind : Int32) (t_exponent : Int32) : va_W := [(h 0, .inr (8, [.ref (h 1), .ref (h 2), .ref (h 3), .ref (h 4), .ref (h 5), .ref (h 6), .int t_size, .int t_kind, .int t_exponent])), (h 1, .inl (cy 0, 41, .inl t_letters))]
def VX8_pop (post : Int32 → Int32 → Prop)  (t_letters : Nat → Int32) (t_size : Int32) : Prop := (¬ (t_size = 0) → vp_in (t_size - 1) 41 ∧ (∀ y_1 : Int32, y_1 = (t_letters (t_size - 1).toNatClampNeg) → post y_1 (t_size - 1))) ∧ ((t_size = 0) → post (-1 : Int32) t_size)
set_option maxHeartbeats 4000000 in
set_option maxRecDepth 100000 in
theorem wX8_pop_0 {p : Program} (l : Launch) {e : Env} {s : State} {m : MethodId} {args : Array Value} {below : List Frame} {meth : Method} {c : Code} {dC : Nat → ClassId} {dI : Nat → Nat → Nat} {cy : Nat → ClassId} {A : Nat → Prop} (h : Nat → Nat) (post : Int32 → Int32 → Prop)   (t_letters : Nat → Int32) (t_kind : Int32) (t_exponent : Int32)  (C0 : cx p s m args meth c cX8_pop 1 (some .int) wsX8_pop RX8 dC dI cy A)  : ∀ (t_size : Int32), VX8_pop post t_letters t_size → ∀ (H : Heap) (locs : List Loc) (ls : Array Slot), va_P (dC, dI) vwCl (pX8_pop cy h t_letters t_size t_kind t_exponent) H → va_D A (pX8_pop cy h t_letters t_size t_kind t_exponent) → va_S A s.heap H locs → lv_has ls 1 [(0, .ref (h 0))] → W p l e rX8_pop s m args below meth c H locs 0 0 (MQ below (va_Qi (fun (r : Int32) (u : Int32) => post r u) (fun (u : Int32) (t : State) => va_P (dC, dI) vwCl (pX8_pop cy h t_letters u t_kind t_exponent) t.heap) A) args s 0 0 A) (F0 m 0 ls []) := by
  have C1 := C0
  obtain ⟨hx, hb, hr, hml, hown, hts, hlocks, hK, hA⟩ := C1
  intro t_size hv H locs ls hP hD hS hl
  refine lv_aload_n hx hb dX8_pop_0 rfl (lv_at hl 0 rfl) ?_
  refine va_get (D := (dC, dI)) (ci := 8) (v := .int t_size) (C := RX8) (T := TX8) (N := 9) hx hb hts nX8_pop_X8 hown hK hP 0 rfl rfl 6 (by decide) (hts _ mX8_pop_1) (fun _ h9 => h9) rfl dX8_pop_1 ?_
  refine lv_if_ne (tgt := 9) hx hb dX8_pop_4 (by decide) (fun c_3 => ?_) (fun c_3 => ?_)
  · have hv := hv.1 c_3
    refine lv_aload_n hx hb dX8_pop_9 rfl (lv_at hl 0 rfl) ?_
    refine lv_dup hx hb dX8_pop_10 rfl ?_
    refine va_get (D := (dC, dI)) (ci := 8) (v := .int t_size) (C := RX8) (T := TX8) (N := 9) hx hb hts nX8_pop_X8 hown hK hP 0 rfl rfl 6 (by decide) (hts _ mX8_pop_1) (fun _ h9 => h9) rfl dX8_pop_11 ?_
    refine lv_iconst (v := 1) hx hb dX8_pop_14 (by decide) ?_
    refine lv_isub hx hb dX8_pop_15 ?_
    refine va_put (D := (dC, dI)) (ci := 8) (v := .int (t_size - 1)) (ty := .int) (C := RX8) (T := TX8) (N := 9) hx hb hts nX8_pop_X8 tyX8 tyX8_ok nmX8 hown hK hP hD hS 0 rfl rfl 6 (by decide) (hts _ mX8_pop_1) (fun _ h9 => h9) rfl (by decide +kernel) rfl rfl (Nat.le_of_ble_eq_true rfl) dX8_pop_16 (fun H locs hP hD hS => ?_)
    have hP : va_P (dC, dI) vwCl (pX8_pop cy h t_letters (t_size - 1) t_kind t_exponent) H := hP
    have hD : va_D A (pX8_pop cy h t_letters (t_size - 1) t_kind t_exponent) := hD
    refine lv_aload_n hx hb dX8_pop_19 rfl (lv_at hl 0 rfl) ?_
    refine va_get (D := (dC, dI)) (ci := 8) (v := .ref (h 1)) (C := RX8) (T := TX8) (N := 9) hx hb hts nX8_pop_X8 hown hK hP 0 rfl rfl 0 (by decide) (hts _ mX8_pop_2) (fun _ h9 => h9) rfl dX8_pop_20 ?_
    refine lv_aload_n hx hb dX8_pop_23 rfl (lv_at hl 0 rfl) ?_
    refine va_get (D := (dC, dI)) (ci := 8) (v := .int ((t_size - 1))) (C := RX8) (T := TX8) (N := 9) hx hb hts nX8_pop_X8 hown hK hP 0 rfl rfl 6 (by decide) (hts _ mX8_pop_1) (fun _ h9 => h9) rfl dX8_pop_24 ?_
    have h_2 := hv.1
    have hv := hv.2
    refine va_iald hx hb hK hP 1 0 rfl rfl h_2 dX8_pop_27 ?_
    refine lv_topi (fun y_1 ey_1 => ?_)
    have hv := hv y_1 ey_1
    exact W.iret (v := y_1) hx hb hr (fun t ht hW => ⟨⟨y_1, ((t_size - 1)), rfl, hv, va_Ph ht hP⟩, hS.F ht⟩) hS.2.2 dX8_pop_28
  · have hv := hv.2 c_3
    refine lv_iconst (v := (-1)) hx hb dX8_pop_7 (by decide) ?_
    exact W.iret (v := (-1)) hx hb hr (fun t ht hW => ⟨⟨(-1), (t_size), rfl, hv, va_Ph ht hP⟩, hS.F ht⟩) hS.2.2 dX8_pop_8
theorem kX8_pop (l : Launch) (dC : Nat → ClassId) (dI : Nat → Nat → Nat) (cy : Nat → ClassId) (h : Nat → Nat) (t_letters : Nat → Int32) (t_size : Int32) (t_kind : Int32) (t_exponent : Int32)  (post : Int32 → Int32 → Prop) (hv : VX8_pop post t_letters t_size) : CtI l yX8_pop wsX8_pop rX8_pop dC dI cy [.ref (h 0)] (pX8_pop cy h t_letters t_size t_kind t_exponent) (fun (u : Int32) => pX8_pop cy h t_letters u t_kind t_exponent) (fun (r : Int32) (u : Int32) => post r u) :=
  ct_ofI (by decide) rfl (Nat.le_of_ble_eq_true rfl) (fun p e s m below meth c A ls C0 hP hD hS hl => wX8_pop_0 l h post t_letters t_kind t_exponent C0 t_size hv _ _ _ hP hD hS hl)
theorem mX8_copyTo_1 : (Cond.fieldLink RX8 57 "AbelianPowers$Word" "size" "I") ∈ wsX8_copyTo := List.mem_of_getElem? (i := 1) rfl
theorem mX8_copyTo_2 : (Cond.fieldLink RX8 31 "AbelianPowers$Trail" "size" "I") ∈ wsX8_copyTo := List.mem_of_getElem? (i := 2) rfl
theorem mX8_copyTo_3 : (Cond.fieldLink RX8 9 "AbelianPowers$Trail" "letters" "[I") ∈ wsX8_copyTo := List.mem_of_getElem? (i := 3) rfl
theorem nX8_copyTo_X9 : ∀ w ∈ wsX90, w ∈ wsX8_copyTo := fun _ h => List.mem_cons_of_mem _ (List.mem_append_left _ (List.mem_append_right _ h))
theorem nX8_copyTo_X8 : ∀ w ∈ wsX80, w ∈ wsX8_copyTo := fun _ h => List.mem_cons_of_mem _ (List.mem_append_right _ h)
theorem zX8_copyTo : yX8_copyTo.cls = RX8 ∧ yX8_copyTo.cls ≠ "java/lang/invoke/MethodHandle" ∧ yX8_copyTo.cls ≠ "java/lang/invoke/VarHandle" ∧ (parseMethodDescriptor yX8_copyTo.desc).map (fun d => d.parameters.length) = some 1 := by decide +kernel
abbrev rX8_copyTo : Room := { frames := 1, cells := 0, slots := 0, locals := 21 }
abbrev pX8_copyTo (cy : Nat → ClassId) (h : Nat → Nat) (a1_n : Nat) (t_letters : Nat → Int32) (t_size : Int32) (t_kind : Int32) (t_exponent : Int32) (a1_letters : Nat → Int32) (a1_size : Int32) : va_W := [(h 0, .inr (8, [.ref (h 1), .ref (h 4), .ref (h 5), .ref (h 6), .ref (h 7), .ref (h 8), .int t_size, .int t_kind, .int t_exponent])), (h 1, .inl (cy 0, 41, .inl t_letters)), (h 2, .inr (9, [.ref (h 3), .int a1_size])), (h 3, .inl (cy 0, a1_n, .inl a1_letters))]
def VX8_copyTo_7 (post : (Nat → Int32) → Int32 → Prop)  (a1_n : Nat) (t_letters : Nat → Int32) (t_size : Int32) : Nat → (Nat → Int32) → Int32 → Int32 → Prop
  | 0, _, _, _ => False
  | n + 1, a1_letters, a1_size, x2 => ((t_size ≤ x2) → post a1_letters a1_size) ∧ (¬ (t_size ≤ x2) → vp_in x2 41 ∧ (VX9_put (fun u_3 u_4 => VX8_copyTo_7 post a1_n t_letters t_size n u_3 u_4 (x2 + 1)) a1_n (t_letters x2.toNatClampNeg) a1_letters a1_size))
def VX8_copyTo (post : (Nat → Int32) → Int32 → Prop)  (a1_n : Nat) (t_letters : Nat → Int32) (t_size : Int32) (a1_letters : Nat → Int32) (a1_size : Int32) : Prop := ∃ n7 : Nat, VX8_copyTo_7 post a1_n t_letters t_size n7 a1_letters 0 0
set_option maxHeartbeats 4000000 in
set_option maxRecDepth 100000 in
theorem wX8_copyTo_7 {p : Program} (l : Launch) {e : Env} {s : State} {m : MethodId} {args : Array Value} {below : List Frame} {meth : Method} {c : Code} {dC : Nat → ClassId} {dI : Nat → Nat → Nat} {cy : Nat → ClassId} {A : Nat → Prop} (h : Nat → Nat) (a1_n : Nat) (post : (Nat → Int32) → Int32 → Prop)   (t_letters : Nat → Int32) (t_size : Int32) (t_kind : Int32) (t_exponent : Int32)  (C0 : cx p s m args meth c cX8_copyTo 3 none wsX8_copyTo RX8 dC dI cy A)  : ∀ (n : Nat) (a1_letters : Nat → Int32) (a1_size : Int32) (x2 : Int32), VX8_copyTo_7 post a1_n t_letters t_size n a1_letters a1_size x2 → ∀ (H : Heap) (locs : List Loc) (ls : Array Slot), va_P (dC, dI) vwCl (pX8_copyTo cy h a1_n t_letters t_size t_kind t_exponent a1_letters a1_size) H → va_D A (pX8_copyTo cy h a1_n t_letters t_size t_kind t_exponent a1_letters a1_size) → va_S A s.heap H locs → lv_has ls 3 [(0, .ref (h 0)), (1, .ref (h 2)), (2, .int x2)] → W p l e rX8_copyTo s m args below meth c H locs 0 0 (MQ below (va_Qv (fun (u : (Nat → Int32) × Int32) => post u.1 u.2) (fun (u : (Nat → Int32) × Int32) (t : State) => va_P (dC, dI) vwCl (pX8_copyTo cy h a1_n t_letters t_size t_kind t_exponent u.1 u.2) t.heap) A) args s 0 0 A) (F0 m 7 ls []) := by
  have C1 := C0
  obtain ⟨hx, hb, hr, hml, hown, hts, hlocks, hK, hA⟩ := C1
  intro n
  induction n with
  | zero => intro a1_letters a1_size x2 hv; exact hv.elim
  | succ n ih =>
    intro a1_letters a1_size x2 hv H locs ls hP hD hS hl
    refine lv_iload_n hx hb dX8_copyTo_7 rfl (lv_at hl 2 rfl) ?_
    refine lv_aload_n hx hb dX8_copyTo_8 rfl (lv_at hl 0 rfl) ?_
    refine va_get (D := (dC, dI)) (ci := 8) (v := .int t_size) (C := RX8) (T := TX8) (N := 9) hx hb hts nX8_copyTo_X8 hown hK hP 0 rfl rfl 6 (by decide) (hts _ mX8_copyTo_2) (fun _ h9 => h9) rfl dX8_copyTo_9 ?_
    refine lv_icmp_ge (tgt := 31) hx hb dX8_copyTo_12 (by decide) (fun c_6 => ?_) (fun c_6 => ?_)
    · have hv := hv.1 c_6
      exact W.vret hx hb hr (fun t ht hW => ⟨⟨(a1_letters, a1_size), rfl, hv, va_Ph ht hP⟩, hS.F ht⟩) hS.2.2 dX8_copyTo_31
    · have hv := hv.2 c_6
      refine lv_aload_n hx hb dX8_copyTo_15 rfl (lv_at hl 1 rfl) ?_
      refine lv_aload_n hx hb dX8_copyTo_16 rfl (lv_at hl 0 rfl) ?_
      refine va_get (D := (dC, dI)) (ci := 8) (v := .ref (h 1)) (C := RX8) (T := TX8) (N := 9) hx hb hts nX8_copyTo_X8 hown hK hP 0 rfl rfl 0 (by decide) (hts _ mX8_copyTo_3) (fun _ h9 => h9) rfl dX8_copyTo_17 ?_
      refine lv_iload_n hx hb dX8_copyTo_20 rfl (lv_at hl 2 rfl) ?_
      have h_2 := hv.1
      have hv := hv.2
      refine va_iald hx hb hK hP 1 0 rfl rfl h_2 dX8_copyTo_21 ?_
      refine cb_VV (As := [.int ((t_letters x2.toNatClampNeg))]) (rest := []) ⟨hx, hb, hml, hown, hts⟩ (kX9_put l dC dI cy (adl [h 2, h 3]) a1_n a1_letters a1_size (t_letters x2.toNatClampNeg) _ hv) (cwV 1 hts gX8_copyTo_X9_put rfl rfl rfl zX9_put ⟨Nat.le_of_ble_eq_true rfl, Nat.le_of_ble_eq_true rfl⟩) hK hP hD hS hA [2, 3] [none, none, some 0, some 1] rfl rfl rfl (ci := 9) rfl rfl (fun _ => rfl) rfl hl.1 rfl (Nat.le_of_ble_eq_true rfl) dX8_copyTo_22 (fun w_5 H locs hv hP hD hS => ?_)
      obtain ⟨u_3, u_4⟩ := w_5
      have hP : va_P (dC, dI) vwCl (pX8_copyTo cy h a1_n t_letters t_size t_kind t_exponent u_3 u_4) H := hP
      have hD : va_D A (pX8_copyTo cy h a1_n t_letters t_size t_kind t_exponent u_3 u_4) := hD
      refine lv_iinc (v := (x2 + 1)) (lv' := [(2, .int ((x2 + 1))), (0, .ref (h 0)), (1, .ref (h 2))]) hx hb dX8_copyTo_25 hl (k := 2) rfl rfl (by decide) rfl (fun ls hl => ?_)
      refine lv_goto (tgt := 7) hx hb dX8_copyTo_28 (by decide) ?_
      exact ih u_3 u_4 (x2 + 1) hv _ _ _ hP hD hS (lv_sub hl [1, 2, 0] rfl)
set_option maxHeartbeats 4000000 in
set_option maxRecDepth 100000 in
theorem wX8_copyTo_0 {p : Program} (l : Launch) {e : Env} {s : State} {m : MethodId} {args : Array Value} {below : List Frame} {meth : Method} {c : Code} {dC : Nat → ClassId} {dI : Nat → Nat → Nat} {cy : Nat → ClassId} {A : Nat → Prop} (h : Nat → Nat) (a1_n : Nat) (post : (Nat → Int32) → Int32 → Prop)   (t_letters : Nat → Int32) (t_size : Int32) (t_kind : Int32) (t_exponent : Int32)  (C0 : cx p s m args meth c cX8_copyTo 3 none wsX8_copyTo RX8 dC dI cy A)  : ∀ (a1_letters : Nat → Int32) (a1_size : Int32), VX8_copyTo post a1_n t_letters t_size a1_letters a1_size → ∀ (H : Heap) (locs : List Loc) (ls : Array Slot), va_P (dC, dI) vwCl (pX8_copyTo cy h a1_n t_letters t_size t_kind t_exponent a1_letters a1_size) H → va_D A (pX8_copyTo cy h a1_n t_letters t_size t_kind t_exponent a1_letters a1_size) → va_S A s.heap H locs → lv_has ls 3 [(0, .ref (h 0)), (1, .ref (h 2))] → W p l e rX8_copyTo s m args below meth c H locs 0 0 (MQ below (va_Qv (fun (u : (Nat → Int32) × Int32) => post u.1 u.2) (fun (u : (Nat → Int32) × Int32) (t : State) => va_P (dC, dI) vwCl (pX8_copyTo cy h a1_n t_letters t_size t_kind t_exponent u.1 u.2) t.heap) A) args s 0 0 A) (F0 m 0 ls []) := by
  have C1 := C0
  obtain ⟨hx, hb, hr, hml, hown, hts, hlocks, hK, hA⟩ := C1
  intro a1_letters a1_size hv H locs ls hP hD hS hl
  refine lv_aload_n hx hb dX8_copyTo_0 rfl (lv_at hl 1 rfl) ?_
  refine lv_iconst (v := 0) hx hb dX8_copyTo_1 (by decide) ?_
  refine va_put (D := (dC, dI)) (ci := 9) (v := .int 0) (ty := .int) (C := RX9) (T := TX9) (N := 2) hx hb hts nX8_copyTo_X9 tyX9 tyX9_ok nmX9 hown hK hP hD hS 2 rfl rfl 1 (by decide) (hts _ mX8_copyTo_1) (fun _ h9 => h9) rfl (by decide +kernel) rfl rfl (Nat.le_of_ble_eq_true rfl) dX8_copyTo_2 (fun H locs hP hD hS => ?_)
  have hP : va_P (dC, dI) vwCl (pX8_copyTo cy h a1_n t_letters t_size t_kind t_exponent a1_letters 0) H := hP
  have hD : va_D A (pX8_copyTo cy h a1_n t_letters t_size t_kind t_exponent a1_letters 0) := hD
  refine lv_iconst (v := 0) hx hb dX8_copyTo_5 (by decide) ?_
  refine lv_istore_n (lv' := [(2, .int 0), (0, .ref (h 0)), (1, .ref (h 2))]) hx hb dX8_copyTo_6 rfl hl (by decide) rfl (fun ls hl => ?_)
  obtain ⟨n_1, hv⟩ := hv
  exact wX8_copyTo_7 l h a1_n post  t_letters t_size t_kind t_exponent C0 n_1 a1_letters 0 0 hv _ _ _ hP hD hS (lv_sub hl [1, 2, 0] rfl)
theorem kX8_copyTo (l : Launch) (dC : Nat → ClassId) (dI : Nat → Nat → Nat) (cy : Nat → ClassId) (h : Nat → Nat) (a1_n : Nat) (t_letters : Nat → Int32) (t_size : Int32) (t_kind : Int32) (t_exponent : Int32) (a1_letters : Nat → Int32) (a1_size : Int32)  (post : (Nat → Int32) → Int32 → Prop) (hv : VX8_copyTo post a1_n t_letters t_size a1_letters a1_size) : CtV l yX8_copyTo wsX8_copyTo rX8_copyTo dC dI cy [.ref (h 0), .ref (h 2)] (pX8_copyTo cy h a1_n t_letters t_size t_kind t_exponent a1_letters a1_size) (fun (u : (Nat → Int32) × Int32) => pX8_copyTo cy h a1_n t_letters t_size t_kind t_exponent u.1 u.2) (fun (u : (Nat → Int32) × Int32) => post u.1 u.2) :=
  ct_ofV (by decide) rfl (Nat.le_of_ble_eq_true rfl) (fun p e s m below meth c A ls C0 hP hD hS hl => wX8_copyTo_0 l h a1_n post t_letters t_size t_kind t_exponent C0 a1_letters a1_size hv _ _ _ hP hD hS hl)
theorem mX8_sameLetters_1 : (Cond.fieldLink RX8 9 "AbelianPowers$Trail" "letters" "[I") ∈ wsX8_sameLetters := List.mem_of_getElem? (i := 1) rfl
theorem nX8_sameLetters_X8 : ∀ w ∈ wsX80, w ∈ wsX8_sameLetters := fun _ h => List.mem_cons_of_mem _ (List.mem_append_right _ h)
theorem zX8_sameLetters : yX8_sameLetters.cls = RX8 ∧ yX8_sameLetters.cls ≠ "java/lang/invoke/MethodHandle" ∧ yX8_sameLetters.cls ≠ "java/lang/invoke/VarHandle" ∧ (parseMethodDescriptor yX8_sameLetters.desc).map (fun d => d.parameters.length) = some 3 := by decide +kernel
abbrev rX8_sameLetters : Room := { frames := 0, cells := 0, slots := 0, locals := 0 }
abbrev pX8_sameLetters (cy : Nat → ClassId) (h : Nat → Nat) (t_letters : Nat → Int32) (t_size : Int32) (t_kind : Int32) (t_exponent : Int32) : va_W := [(h 0, .inr (8, [.ref (h 1), .ref (h 2), .ref (h 3), .ref (h 4), .ref (h 5), .ref (h 6), .int t_size, .int t_kind, .int t_exponent])), (h 1, .inl (cy 0, 41, .inl t_letters))]
def VX8_sameLetters_3 (post : Int32 → Prop)  (t_letters : Nat → Int32) (p1 : Int32) (p2 : Int32) (p3 : Int32) : Nat → Int32 → Prop
  | 0, _ => False
  | n + 1, x4 => ((p3 ≤ x4) → post (1 : Int32)) ∧ (¬ (p3 ≤ x4) → vp_in (p1 + x4) 41 ∧ (∀ y_2 : Int32, y_2 = (t_letters (p1 + x4).toNatClampNeg) → vp_in (p2 + x4) 41 ∧ (∀ y_4 : Int32, y_4 = (t_letters (p2 + x4).toNatClampNeg) → ((y_2 = y_4) → VX8_sameLetters_3 post t_letters p1 p2 p3 n (x4 + 1)) ∧ (¬ (y_2 = y_4) → post (0 : Int32)))))
def VX8_sameLetters (post : Int32 → Prop)  (t_letters : Nat → Int32) (p1 : Int32) (p2 : Int32) (p3 : Int32)  : Prop := ∃ n3 : Nat, VX8_sameLetters_3 post t_letters p1 p2 p3 n3 0
set_option maxHeartbeats 4000000 in
set_option maxRecDepth 100000 in
theorem wX8_sameLetters_3 {p : Program} (l : Launch) {e : Env} {s : State} {m : MethodId} {args : Array Value} {below : List Frame} {meth : Method} {c : Code} {dC : Nat → ClassId} {dI : Nat → Nat → Nat} {cy : Nat → ClassId} {A : Nat → Prop} (h : Nat → Nat) (post : Int32 → Prop)   (t_letters : Nat → Int32) (t_size : Int32) (t_kind : Int32) (t_exponent : Int32) (p1 : Int32) (p2 : Int32) (p3 : Int32) (C0 : cx p s m args meth c cX8_sameLetters 5 (some .boolean) wsX8_sameLetters RX8 dC dI cy A)  : ∀ (n : Nat) (x4 : Int32), VX8_sameLetters_3 post t_letters p1 p2 p3 n x4 → ∀ (H : Heap) (locs : List Loc) (ls : Array Slot), va_P (dC, dI) vwCl (pX8_sameLetters cy h t_letters t_size t_kind t_exponent) H → va_D A (pX8_sameLetters cy h t_letters t_size t_kind t_exponent) → va_S A s.heap H locs → lv_has ls 5 [(0, .ref (h 0)), (1, .int p1), (2, .int p2), (3, .int p3), (4, .int x4)] → W p l e rX8_sameLetters s m args below meth c H locs 0 0 (MQ below (va_Qi (fun (r : Int32) (_ : Unit) => post r) (fun (_ : Unit) (t : State) => va_P (dC, dI) vwCl (pX8_sameLetters cy h t_letters t_size t_kind t_exponent) t.heap) A) args s 0 0 A) (F0 m 3 ls []) := by
  have C1 := C0
  obtain ⟨hx, hb, hr, hml, hown, hts, hlocks, hK, hA⟩ := C1
  intro n
  induction n with
  | zero => intro x4 hv; exact hv.elim
  | succ n ih =>
    intro x4 hv H locs ls hP hD hS hl
    refine lv_iload hx hb dX8_sameLetters_3 (lv_at hl 4 rfl) ?_
    refine lv_iload_n hx hb dX8_sameLetters_5 rfl (lv_at hl 3 rfl) ?_
    refine lv_icmp_ge (tgt := 38) hx hb dX8_sameLetters_6 (by decide) (fun c_7 => ?_) (fun c_7 => ?_)
    · have hv := hv.1 c_7
      refine lv_iconst (v := 1) hx hb dX8_sameLetters_38 (by decide) ?_
      exact W.zret (v := 1) hx hb hr rfl (fun t ht hW => ⟨⟨1, (), rfl, hv, va_Ph ht hP⟩, hS.F ht⟩) hS.2.2 dX8_sameLetters_39
    · have hv := hv.2 c_7
      refine lv_aload_n hx hb dX8_sameLetters_9 rfl (lv_at hl 0 rfl) ?_
      refine va_get (D := (dC, dI)) (ci := 8) (v := .ref (h 1)) (C := RX8) (T := TX8) (N := 9) hx hb hts nX8_sameLetters_X8 hown hK hP 0 rfl rfl 0 (by decide) (hts _ mX8_sameLetters_1) (fun _ h9 => h9) rfl dX8_sameLetters_10 ?_
      refine lv_iload_n hx hb dX8_sameLetters_13 rfl (lv_at hl 1 rfl) ?_
      refine lv_iload hx hb dX8_sameLetters_14 (lv_at hl 4 rfl) ?_
      refine lv_iadd hx hb dX8_sameLetters_16 ?_
      have h_3 := hv.1
      have hv := hv.2
      refine va_iald hx hb hK hP 1 0 rfl rfl h_3 dX8_sameLetters_17 ?_
      refine lv_topi (fun y_2 ey_2 => ?_)
      have hv := hv y_2 ey_2
      refine lv_aload_n hx hb dX8_sameLetters_18 rfl (lv_at hl 0 rfl) ?_
      refine va_get (D := (dC, dI)) (ci := 8) (v := .ref (h 1)) (C := RX8) (T := TX8) (N := 9) hx hb hts nX8_sameLetters_X8 hown hK hP 0 rfl rfl 0 (by decide) (hts _ mX8_sameLetters_1) (fun _ h9 => h9) rfl dX8_sameLetters_19 ?_
      refine lv_iload_n hx hb dX8_sameLetters_22 rfl (lv_at hl 2 rfl) ?_
      refine lv_iload hx hb dX8_sameLetters_23 (lv_at hl 4 rfl) ?_
      refine lv_iadd hx hb dX8_sameLetters_25 ?_
      have h_5 := hv.1
      have hv := hv.2
      refine va_iald hx hb hK hP 1 0 rfl rfl h_5 dX8_sameLetters_26 ?_
      refine lv_topi (fun y_4 ey_4 => ?_)
      have hv := hv y_4 ey_4
      refine lv_icmp_eq (tgt := 32) hx hb dX8_sameLetters_27 (by decide) (fun c_6 => ?_) (fun c_6 => ?_)
      · have hv := hv.1 c_6
        refine lv_iinc (v := (x4 + 1)) (lv' := [(4, .int ((x4 + 1))), (0, .ref (h 0)), (1, .int p1), (2, .int p2), (3, .int p3)]) hx hb dX8_sameLetters_32 hl (k := 4) rfl rfl (by decide) rfl (fun ls hl => ?_)
        refine lv_goto (tgt := 3) hx hb dX8_sameLetters_35 (by decide) ?_
        exact ih (x4 + 1) hv _ _ _ hP hD hS (lv_sub hl [1, 2, 3, 4, 0] rfl)
      · have hv := hv.2 c_6
        refine lv_iconst (v := 0) hx hb dX8_sameLetters_30 (by decide) ?_
        exact W.zret (v := 0) hx hb hr rfl (fun t ht hW => ⟨⟨0, (), rfl, hv, va_Ph ht hP⟩, hS.F ht⟩) hS.2.2 dX8_sameLetters_31
set_option maxHeartbeats 4000000 in
set_option maxRecDepth 100000 in
theorem wX8_sameLetters_0 {p : Program} (l : Launch) {e : Env} {s : State} {m : MethodId} {args : Array Value} {below : List Frame} {meth : Method} {c : Code} {dC : Nat → ClassId} {dI : Nat → Nat → Nat} {cy : Nat → ClassId} {A : Nat → Prop} (h : Nat → Nat) (post : Int32 → Prop)   (t_letters : Nat → Int32) (t_size : Int32) (t_kind : Int32) (t_exponent : Int32) (p1 : Int32) (p2 : Int32) (p3 : Int32) (C0 : cx p s m args meth c cX8_sameLetters 5 (some .boolean) wsX8_sameLetters RX8 dC dI cy A)  : VX8_sameLetters post t_letters p1 p2 p3  → ∀ (H : Heap) (locs : List Loc) (ls : Array Slot), va_P (dC, dI) vwCl (pX8_sameLetters cy h t_letters t_size t_kind t_exponent) H → va_D A (pX8_sameLetters cy h t_letters t_size t_kind t_exponent) → va_S A s.heap H locs → lv_has ls 5 [(0, .ref (h 0)), (1, .int p1), (2, .int p2), (3, .int p3)] → W p l e rX8_sameLetters s m args below meth c H locs 0 0 (MQ below (va_Qi (fun (r : Int32) (_ : Unit) => post r) (fun (_ : Unit) (t : State) => va_P (dC, dI) vwCl (pX8_sameLetters cy h t_letters t_size t_kind t_exponent) t.heap) A) args s 0 0 A) (F0 m 0 ls []) := by
  have C1 := C0
  obtain ⟨hx, hb, hr, hml, hown, hts, hlocks, hK, hA⟩ := C1
  intro  hv H locs ls hP hD hS hl
  refine lv_iconst (v := 0) hx hb dX8_sameLetters_0 (by decide) ?_
  refine lv_istore (lv' := [(4, .int 0), (0, .ref (h 0)), (1, .int p1), (2, .int p2), (3, .int p3)]) hx hb dX8_sameLetters_1 hl (by decide) rfl (fun ls hl => ?_)
  obtain ⟨n_1, hv⟩ := hv
  exact wX8_sameLetters_3 l h post  t_letters t_size t_kind t_exponent p1 p2 p3 C0 n_1 0 hv _ _ _ hP hD hS (lv_sub hl [1, 2, 3, 4, 0] rfl)
theorem kX8_sameLetters (l : Launch) (dC : Nat → ClassId) (dI : Nat → Nat → Nat) (cy : Nat → ClassId) (h : Nat → Nat) (t_letters : Nat → Int32) (t_size : Int32) (t_kind : Int32) (t_exponent : Int32) (p1 : Int32) (p2 : Int32) (p3 : Int32) (post : Int32 → Prop) (hv : VX8_sameLetters post t_letters p1 p2 p3 ) : CtI l yX8_sameLetters wsX8_sameLetters rX8_sameLetters dC dI cy [.ref (h 0), .int p1, .int p2, .int p3] (pX8_sameLetters cy h t_letters t_size t_kind t_exponent) (fun (_ : Unit) => pX8_sameLetters cy h t_letters t_size t_kind t_exponent) (fun (r : Int32) (_ : Unit) => post r) :=
  ct_ofI (by decide) rfl (Nat.le_of_ble_eq_true rfl) (fun p e s m below meth c A ls C0 hP hD hS hl => wX8_sameLetters_0 l h post t_letters t_size t_kind t_exponent p1 p2 p3 C0  hv _ _ _ hP hD hS hl)
theorem mX8_samePairs_1 : (Cond.fieldLink RX8 22 "AbelianPowers$Trail" "lowPairs" "[J") ∈ wsX8_samePairs := List.mem_of_getElem? (i := 1) rfl
theorem mX8_samePairs_2 : (Cond.fieldLink RX8 25 "AbelianPowers$Trail" "highPairs" "[J") ∈ wsX8_samePairs := List.mem_of_getElem? (i := 2) rfl
theorem nX8_samePairs_X8 : ∀ w ∈ wsX80, w ∈ wsX8_samePairs := fun _ h => List.mem_cons_of_mem _ (List.mem_append_right _ h)
theorem zX8_samePairs : yX8_samePairs.cls = RX8 ∧ yX8_samePairs.cls ≠ "java/lang/invoke/MethodHandle" ∧ yX8_samePairs.cls ≠ "java/lang/invoke/VarHandle" ∧ (parseMethodDescriptor yX8_samePairs.desc).map (fun d => d.parameters.length) = some 3 := by decide +kernel
abbrev rX8_samePairs : Room := { frames := 0, cells := 0, slots := 0, locals := 0 }
abbrev pX8_samePairs (cy : Nat → ClassId) (h : Nat → Nat) (t_lowPairs : Nat → Int64) (t_highPairs : Nat → Int64) (t_size : Int32) (t_kind : Int32) (t_exponent : Int32) : va_W := [(h 0, .inr (8, [.ref (h 3), .ref (h 4), .ref (h 5), .ref (h 1), .ref (h 2), .ref (h 6), .int t_size, .int t_kind, .int t_exponent])), (h 1, .inl (cy 1, 42, .inr (.inl t_lowPairs))), (h 2, .inl (cy 1, 42, .inr (.inl t_highPairs)))]
def VX8_samePairs (post : Int32 → Prop)  (t_lowPairs : Nat → Int64) (t_highPairs : Nat → Int64) (p1 : Int32) (p2 : Int32) (p3 : Int32)  : Prop := vp_in (p1 + p3) 42 ∧ (∀ y_1 : Int64, y_1 = (t_lowPairs (p1 + p3).toNatClampNeg) → vp_in (p1 + 1) 42 ∧ (∀ y_3 : Int64, y_3 = (t_lowPairs (p1 + 1).toNatClampNeg) → vp_in (p2 + p3) 42 ∧ (∀ y_5 : Int64, y_5 = (t_lowPairs (p2 + p3).toNatClampNeg) → vp_in (p2 + 1) 42 ∧ (∀ y_7 : Int64, y_7 = (t_lowPairs (p2 + 1).toNatClampNeg) → (¬ ((lg_cmp (y_1 - y_3) (y_5 - y_7)) = 0) → post (0 : Int32)) ∧ (((lg_cmp (y_1 - y_3) (y_5 - y_7)) = 0) → vp_in (p1 + p3) 42 ∧ (∀ y_9 : Int64, y_9 = (t_highPairs (p1 + p3).toNatClampNeg) → vp_in (p1 + 1) 42 ∧ (∀ y_11 : Int64, y_11 = (t_highPairs (p1 + 1).toNatClampNeg) → vp_in (p2 + p3) 42 ∧ (∀ y_13 : Int64, y_13 = (t_highPairs (p2 + p3).toNatClampNeg) → vp_in (p2 + 1) 42 ∧ (∀ y_15 : Int64, y_15 = (t_highPairs (p2 + 1).toNatClampNeg) → (¬ ((lg_cmp (y_9 - y_11) (y_13 - y_15)) = 0) → post (0 : Int32)) ∧ (((lg_cmp (y_9 - y_11) (y_13 - y_15)) = 0) → post (1 : Int32)))))))))))
set_option maxHeartbeats 4000000 in
set_option maxRecDepth 100000 in
theorem wX8_samePairs_0 {p : Program} (l : Launch) {e : Env} {s : State} {m : MethodId} {args : Array Value} {below : List Frame} {meth : Method} {c : Code} {dC : Nat → ClassId} {dI : Nat → Nat → Nat} {cy : Nat → ClassId} {A : Nat → Prop} (h : Nat → Nat) (post : Int32 → Prop)   (t_lowPairs : Nat → Int64) (t_highPairs : Nat → Int64) (t_size : Int32) (t_kind : Int32) (t_exponent : Int32) (p1 : Int32) (p2 : Int32) (p3 : Int32) (C0 : cx p s m args meth c cX8_samePairs 4 (some .boolean) wsX8_samePairs RX8 dC dI cy A)  : VX8_samePairs post t_lowPairs t_highPairs p1 p2 p3  → ∀ (H : Heap) (locs : List Loc) (ls : Array Slot), va_P (dC, dI) vwCl (pX8_samePairs cy h t_lowPairs t_highPairs t_size t_kind t_exponent) H → va_D A (pX8_samePairs cy h t_lowPairs t_highPairs t_size t_kind t_exponent) → va_S A s.heap H locs → lv_has ls 4 [(0, .ref (h 0)), (1, .int p1), (2, .int p2), (3, .int p3)] → W p l e rX8_samePairs s m args below meth c H locs 0 0 (MQ below (va_Qi (fun (r : Int32) (_ : Unit) => post r) (fun (_ : Unit) (t : State) => va_P (dC, dI) vwCl (pX8_samePairs cy h t_lowPairs t_highPairs t_size t_kind t_exponent) t.heap) A) args s 0 0 A) (F0 m 0 ls []) := by
  have C1 := C0
  obtain ⟨hx, hb, hr, hml, hown, hts, hlocks, hK, hA⟩ := C1
  intro  hv H locs ls hP hD hS hl
  refine lv_aload_n hx hb dX8_samePairs_0 rfl (lv_at hl 0 rfl) ?_
  refine va_get (D := (dC, dI)) (ci := 8) (v := .ref (h 1)) (C := RX8) (T := TX8) (N := 9) hx hb hts nX8_samePairs_X8 hown hK hP 0 rfl rfl 3 (by decide) (hts _ mX8_samePairs_1) (fun _ h9 => h9) rfl dX8_samePairs_1 ?_
  refine lv_iload_n hx hb dX8_samePairs_4 rfl (lv_at hl 1 rfl) ?_
  refine lv_iload_n hx hb dX8_samePairs_5 rfl (lv_at hl 3 rfl) ?_
  refine lv_iadd hx hb dX8_samePairs_6 ?_
  have h_2 := hv.1
  have hv := hv.2
  refine va_lald hx hb hK hP 1 1 rfl rfl h_2 dX8_samePairs_7 ?_
  refine lv_topl (fun y_1 ey_1 => ?_)
  have hv := hv y_1 ey_1
  refine lv_aload_n hx hb dX8_samePairs_8 rfl (lv_at hl 0 rfl) ?_
  refine va_get (D := (dC, dI)) (ci := 8) (v := .ref (h 1)) (C := RX8) (T := TX8) (N := 9) hx hb hts nX8_samePairs_X8 hown hK hP 0 rfl rfl 3 (by decide) (hts _ mX8_samePairs_1) (fun _ h9 => h9) rfl dX8_samePairs_9 ?_
  refine lv_iload_n hx hb dX8_samePairs_12 rfl (lv_at hl 1 rfl) ?_
  refine lv_iconst (v := 1) hx hb dX8_samePairs_13 (by decide) ?_
  refine lv_iadd hx hb dX8_samePairs_14 ?_
  have h_4 := hv.1
  have hv := hv.2
  refine va_lald hx hb hK hP 1 1 rfl rfl h_4 dX8_samePairs_15 ?_
  refine lv_topl (fun y_3 ey_3 => ?_)
  have hv := hv y_3 ey_3
  refine lv_lsub hx hb dX8_samePairs_16 ?_
  refine lv_aload_n hx hb dX8_samePairs_17 rfl (lv_at hl 0 rfl) ?_
  refine va_get (D := (dC, dI)) (ci := 8) (v := .ref (h 1)) (C := RX8) (T := TX8) (N := 9) hx hb hts nX8_samePairs_X8 hown hK hP 0 rfl rfl 3 (by decide) (hts _ mX8_samePairs_1) (fun _ h9 => h9) rfl dX8_samePairs_18 ?_
  refine lv_iload_n hx hb dX8_samePairs_21 rfl (lv_at hl 2 rfl) ?_
  refine lv_iload_n hx hb dX8_samePairs_22 rfl (lv_at hl 3 rfl) ?_
  refine lv_iadd hx hb dX8_samePairs_23 ?_
  have h_6 := hv.1
  have hv := hv.2
  refine va_lald hx hb hK hP 1 1 rfl rfl h_6 dX8_samePairs_24 ?_
  refine lv_topl (fun y_5 ey_5 => ?_)
  have hv := hv y_5 ey_5
  refine lv_aload_n hx hb dX8_samePairs_25 rfl (lv_at hl 0 rfl) ?_
  refine va_get (D := (dC, dI)) (ci := 8) (v := .ref (h 1)) (C := RX8) (T := TX8) (N := 9) hx hb hts nX8_samePairs_X8 hown hK hP 0 rfl rfl 3 (by decide) (hts _ mX8_samePairs_1) (fun _ h9 => h9) rfl dX8_samePairs_26 ?_
  refine lv_iload_n hx hb dX8_samePairs_29 rfl (lv_at hl 2 rfl) ?_
  refine lv_iconst (v := 1) hx hb dX8_samePairs_30 (by decide) ?_
  refine lv_iadd hx hb dX8_samePairs_31 ?_
  have h_8 := hv.1
  have hv := hv.2
  refine va_lald hx hb hK hP 1 1 rfl rfl h_8 dX8_samePairs_32 ?_
  refine lv_topl (fun y_7 ey_7 => ?_)
  have hv := hv y_7 ey_7
  refine lv_lsub hx hb dX8_samePairs_33 ?_
  refine W.lcmp hx hb dX8_samePairs_34 ?_
  refine lv_if_ne (tgt := 80) hx hb dX8_samePairs_35 (by decide) (fun c_18 => ?_) (fun c_18 => ?_)
  · have hv := hv.1 c_18
    refine lv_iconst (v := 0) hx hb dX8_samePairs_80 (by decide) ?_
    exact W.zret (v := 0) hx hb hr rfl (fun t ht hW => ⟨⟨0, (), rfl, hv, va_Ph ht hP⟩, hS.F ht⟩) hS.2.2 dX8_samePairs_81
  · have hv := hv.2 c_18
    refine lv_aload_n hx hb dX8_samePairs_38 rfl (lv_at hl 0 rfl) ?_
    refine va_get (D := (dC, dI)) (ci := 8) (v := .ref (h 2)) (C := RX8) (T := TX8) (N := 9) hx hb hts nX8_samePairs_X8 hown hK hP 0 rfl rfl 4 (by decide) (hts _ mX8_samePairs_2) (fun _ h9 => h9) rfl dX8_samePairs_39 ?_
    refine lv_iload_n hx hb dX8_samePairs_42 rfl (lv_at hl 1 rfl) ?_
    refine lv_iload_n hx hb dX8_samePairs_43 rfl (lv_at hl 3 rfl) ?_
    refine lv_iadd hx hb dX8_samePairs_44 ?_
    have h_10 := hv.1
    have hv := hv.2
    refine va_lald hx hb hK hP 2 1 rfl rfl h_10 dX8_samePairs_45 ?_
    refine lv_topl (fun y_9 ey_9 => ?_)
    have hv := hv y_9 ey_9
    refine lv_aload_n hx hb dX8_samePairs_46 rfl (lv_at hl 0 rfl) ?_
    refine va_get (D := (dC, dI)) (ci := 8) (v := .ref (h 2)) (C := RX8) (T := TX8) (N := 9) hx hb hts nX8_samePairs_X8 hown hK hP 0 rfl rfl 4 (by decide) (hts _ mX8_samePairs_2) (fun _ h9 => h9) rfl dX8_samePairs_47 ?_
    refine lv_iload_n hx hb dX8_samePairs_50 rfl (lv_at hl 1 rfl) ?_
    refine lv_iconst (v := 1) hx hb dX8_samePairs_51 (by decide) ?_
    refine lv_iadd hx hb dX8_samePairs_52 ?_
    have h_12 := hv.1
    have hv := hv.2
    refine va_lald hx hb hK hP 2 1 rfl rfl h_12 dX8_samePairs_53 ?_
    refine lv_topl (fun y_11 ey_11 => ?_)
    have hv := hv y_11 ey_11
    refine lv_lsub hx hb dX8_samePairs_54 ?_
    refine lv_aload_n hx hb dX8_samePairs_55 rfl (lv_at hl 0 rfl) ?_
    refine va_get (D := (dC, dI)) (ci := 8) (v := .ref (h 2)) (C := RX8) (T := TX8) (N := 9) hx hb hts nX8_samePairs_X8 hown hK hP 0 rfl rfl 4 (by decide) (hts _ mX8_samePairs_2) (fun _ h9 => h9) rfl dX8_samePairs_56 ?_
    refine lv_iload_n hx hb dX8_samePairs_59 rfl (lv_at hl 2 rfl) ?_
    refine lv_iload_n hx hb dX8_samePairs_60 rfl (lv_at hl 3 rfl) ?_
    refine lv_iadd hx hb dX8_samePairs_61 ?_
    have h_14 := hv.1
    have hv := hv.2
    refine va_lald hx hb hK hP 2 1 rfl rfl h_14 dX8_samePairs_62 ?_
    refine lv_topl (fun y_13 ey_13 => ?_)
    have hv := hv y_13 ey_13
    refine lv_aload_n hx hb dX8_samePairs_63 rfl (lv_at hl 0 rfl) ?_
    refine va_get (D := (dC, dI)) (ci := 8) (v := .ref (h 2)) (C := RX8) (T := TX8) (N := 9) hx hb hts nX8_samePairs_X8 hown hK hP 0 rfl rfl 4 (by decide) (hts _ mX8_samePairs_2) (fun _ h9 => h9) rfl dX8_samePairs_64 ?_
    refine lv_iload_n hx hb dX8_samePairs_67 rfl (lv_at hl 2 rfl) ?_
    refine lv_iconst (v := 1) hx hb dX8_samePairs_68 (by decide) ?_
    refine lv_iadd hx hb dX8_samePairs_69 ?_
    have h_16 := hv.1
    have hv := hv.2
    refine va_lald hx hb hK hP 2 1 rfl rfl h_16 dX8_samePairs_70 ?_
    refine lv_topl (fun y_15 ey_15 => ?_)
    have hv := hv y_15 ey_15
    refine lv_lsub hx hb dX8_samePairs_71 ?_
    refine W.lcmp hx hb dX8_samePairs_72 ?_
    refine lv_if_ne (tgt := 80) hx hb dX8_samePairs_73 (by decide) (fun c_17 => ?_) (fun c_17 => ?_)
    · have hv := hv.1 c_17
      refine lv_iconst (v := 0) hx hb dX8_samePairs_80 (by decide) ?_
      exact W.zret (v := 0) hx hb hr rfl (fun t ht hW => ⟨⟨0, (), rfl, hv, va_Ph ht hP⟩, hS.F ht⟩) hS.2.2 dX8_samePairs_81
    · have hv := hv.2 c_17
      refine lv_iconst (v := 1) hx hb dX8_samePairs_76 (by decide) ?_
      refine lv_goto (tgt := 81) hx hb dX8_samePairs_77 (by decide) ?_
      exact W.zret (v := 1) hx hb hr rfl (fun t ht hW => ⟨⟨1, (), rfl, hv, va_Ph ht hP⟩, hS.F ht⟩) hS.2.2 dX8_samePairs_81
theorem kX8_samePairs (l : Launch) (dC : Nat → ClassId) (dI : Nat → Nat → Nat) (cy : Nat → ClassId) (h : Nat → Nat) (t_lowPairs : Nat → Int64) (t_highPairs : Nat → Int64) (t_size : Int32) (t_kind : Int32) (t_exponent : Int32) (p1 : Int32) (p2 : Int32) (p3 : Int32) (post : Int32 → Prop) (hv : VX8_samePairs post t_lowPairs t_highPairs p1 p2 p3 ) : CtI l yX8_samePairs wsX8_samePairs rX8_samePairs dC dI cy [.ref (h 0), .int p1, .int p2, .int p3] (pX8_samePairs cy h t_lowPairs t_highPairs t_size t_kind t_exponent) (fun (_ : Unit) => pX8_samePairs cy h t_lowPairs t_highPairs t_size t_kind t_exponent) (fun (r : Int32) (_ : Unit) => post r) :=
  ct_ofI (by decide) rfl (Nat.le_of_ble_eq_true rfl) (fun p e s m below meth c A ls C0 hP hD hS hl => wX8_samePairs_0 l h post t_lowPairs t_highPairs t_size t_kind t_exponent p1 p2 p3 C0  hv _ _ _ hP hD hS hl)
theorem mX8_sameBlocks_1 : (Cond.fieldLink RX8 35 "AbelianPowers$Trail" "kind" "I") ∈ wsX8_sameBlocks := List.mem_of_getElem? (i := 1) rfl
theorem mX8_sameBlocks_2 : (Cond.fieldLink RX8 18 "AbelianPowers$Trail" "sums" "[J") ∈ wsX8_sameBlocks := List.mem_of_getElem? (i := 2) rfl
theorem mX8_sameBlocks_3 : (Cond.fieldLink RX8 9 "AbelianPowers$Trail" "letters" "[I") ∈ wsX8_sameBlocks := List.mem_of_getElem? (i := 3) rfl
theorem nX8_sameBlocks_X8 : ∀ w ∈ wsX80, w ∈ wsX8_sameBlocks := fun _ h => List.mem_cons_of_mem _ (List.mem_append_right _ h)
theorem zX8_sameBlocks : yX8_sameBlocks.cls = RX8 ∧ yX8_sameBlocks.cls ≠ "java/lang/invoke/MethodHandle" ∧ yX8_sameBlocks.cls ≠ "java/lang/invoke/VarHandle" ∧ (parseMethodDescriptor yX8_sameBlocks.desc).map (fun d => d.parameters.length) = some 3 := by decide +kernel
abbrev rX8_sameBlocks : Room := { frames := 1, cells := 0, slots := 0, locals := 24 }
abbrev pX8_sameBlocks (cy : Nat → ClassId) (h : Nat → Nat) (t_letters : Nat → Int32) (t_sums : Nat → Int64) (t_lowPairs : Nat → Int64) (t_highPairs : Nat → Int64) (t_size : Int32) (t_kind : Int32) (t_exponent : Int32) : va_W := [(h 0, .inr (8, [.ref (h 1), .ref (h 5), .ref (h 2), .ref (h 3), .ref (h 4), .ref (h 6), .int t_size, .int t_kind, .int t_exponent])), (h 1, .inl (cy 0, 41, .inl t_letters)), (h 2, .inl (cy 1, 42, .inr (.inl t_sums))), (h 3, .inl (cy 1, 42, .inr (.inl t_lowPairs))), (h 4, .inl (cy 1, 42, .inr (.inl t_highPairs)))]
def VX8_sameBlocks (post : Int32 → Prop)  (t_letters : Nat → Int32) (t_sums : Nat → Int64) (t_lowPairs : Nat → Int64) (t_highPairs : Nat → Int64) (t_kind : Int32) (p1 : Int32) (p2 : Int32) (p3 : Int32)  : Prop := (¬ (t_kind = 0) → vp_in (p1 + p3) 42 ∧ (∀ y_1 : Int64, y_1 = (t_sums (p1 + p3).toNatClampNeg) → vp_in p1 42 ∧ (∀ y_4 : Int64, y_4 = (y_1 - (t_sums p1.toNatClampNeg)) → vp_in (p2 + p3) 42 ∧ (∀ y_5 : Int64, y_5 = (t_sums (p2 + p3).toNatClampNeg) → vp_in p2 42 ∧ (∀ y_8 : Int64, y_8 = (y_5 - (t_sums p2.toNatClampNeg)) → (((lg_cmp y_4 y_8) = 0) → (¬ (t_kind = 3) → post (1 : Int32)) ∧ ((t_kind = 3) → ((p3 = 0) → post (1 : Int32)) ∧ (¬ (p3 = 0) → vp_in p1 41 ∧ (vp_in p2 41 ∧ ((¬ ((t_letters p1.toNatClampNeg) = (t_letters p2.toNatClampNeg)) → post (0 : Int32)) ∧ (((t_letters p1.toNatClampNeg) = (t_letters p2.toNatClampNeg)) → VX8_samePairs (fun r_11 => ((r_11 = 0) → post (0 : Int32)) ∧ (¬ (r_11 = 0) → post (1 : Int32))) t_lowPairs t_highPairs p1 p2 p3)))))) ∧ (¬ ((lg_cmp y_4 y_8) = 0) → post (0 : Int32))))))) ∧ ((t_kind = 0) → VX8_sameLetters (fun r_18 => vbo r_18 ∧ post r_18) t_letters p1 p2 p3)
set_option maxHeartbeats 4000000 in
set_option maxRecDepth 100000 in
theorem wX8_sameBlocks_0 {p : Program} (l : Launch) {e : Env} {s : State} {m : MethodId} {args : Array Value} {below : List Frame} {meth : Method} {c : Code} {dC : Nat → ClassId} {dI : Nat → Nat → Nat} {cy : Nat → ClassId} {A : Nat → Prop} (h : Nat → Nat) (post : Int32 → Prop)   (t_letters : Nat → Int32) (t_sums : Nat → Int64) (t_lowPairs : Nat → Int64) (t_highPairs : Nat → Int64) (t_size : Int32) (t_kind : Int32) (t_exponent : Int32) (p1 : Int32) (p2 : Int32) (p3 : Int32) (C0 : cx p s m args meth c cX8_sameBlocks 4 (some .boolean) wsX8_sameBlocks RX8 dC dI cy A)  : VX8_sameBlocks post t_letters t_sums t_lowPairs t_highPairs t_kind p1 p2 p3  → ∀ (H : Heap) (locs : List Loc) (ls : Array Slot), va_P (dC, dI) vwCl (pX8_sameBlocks cy h t_letters t_sums t_lowPairs t_highPairs t_size t_kind t_exponent) H → va_D A (pX8_sameBlocks cy h t_letters t_sums t_lowPairs t_highPairs t_size t_kind t_exponent) → va_S A s.heap H locs → lv_has ls 4 [(0, .ref (h 0)), (1, .int p1), (2, .int p2), (3, .int p3)] → W p l e rX8_sameBlocks s m args below meth c H locs 0 0 (MQ below (va_Qi (fun (r : Int32) (_ : Unit) => post r) (fun (_ : Unit) (t : State) => va_P (dC, dI) vwCl (pX8_sameBlocks cy h t_letters t_sums t_lowPairs t_highPairs t_size t_kind t_exponent) t.heap) A) args s 0 0 A) (F0 m 0 ls []) := by
  have C1 := C0
  obtain ⟨hx, hb, hr, hml, hown, hts, hlocks, hK, hA⟩ := C1
  intro  hv H locs ls hP hD hS hl
  refine lv_aload_n hx hb dX8_sameBlocks_0 rfl (lv_at hl 0 rfl) ?_
  refine va_get (D := (dC, dI)) (ci := 8) (v := .int t_kind) (C := RX8) (T := TX8) (N := 9) hx hb hts nX8_sameBlocks_X8 hown hK hP 0 rfl rfl 7 (by decide) (hts _ mX8_sameBlocks_1) (fun _ h9 => h9) rfl dX8_sameBlocks_1 ?_
  refine lv_if_ne (tgt := 15) hx hb dX8_sameBlocks_4 (by decide) (fun c_20 => ?_) (fun c_20 => ?_)
  · have hv := hv.1 c_20
    refine lv_aload_n hx hb dX8_sameBlocks_15 rfl (lv_at hl 0 rfl) ?_
    refine va_get (D := (dC, dI)) (ci := 8) (v := .ref (h 2)) (C := RX8) (T := TX8) (N := 9) hx hb hts nX8_sameBlocks_X8 hown hK hP 0 rfl rfl 2 (by decide) (hts _ mX8_sameBlocks_2) (fun _ h9 => h9) rfl dX8_sameBlocks_16 ?_
    refine lv_iload_n hx hb dX8_sameBlocks_19 rfl (lv_at hl 1 rfl) ?_
    refine lv_iload_n hx hb dX8_sameBlocks_20 rfl (lv_at hl 3 rfl) ?_
    refine lv_iadd hx hb dX8_sameBlocks_21 ?_
    have h_2 := hv.1
    have hv := hv.2
    refine va_lald hx hb hK hP 2 1 rfl rfl h_2 dX8_sameBlocks_22 ?_
    refine lv_topl (fun y_1 ey_1 => ?_)
    have hv := hv y_1 ey_1
    refine lv_aload_n hx hb dX8_sameBlocks_23 rfl (lv_at hl 0 rfl) ?_
    refine va_get (D := (dC, dI)) (ci := 8) (v := .ref (h 2)) (C := RX8) (T := TX8) (N := 9) hx hb hts nX8_sameBlocks_X8 hown hK hP 0 rfl rfl 2 (by decide) (hts _ mX8_sameBlocks_2) (fun _ h9 => h9) rfl dX8_sameBlocks_24 ?_
    refine lv_iload_n hx hb dX8_sameBlocks_27 rfl (lv_at hl 1 rfl) ?_
    have h_3 := hv.1
    have hv := hv.2
    refine va_lald hx hb hK hP 2 1 rfl rfl h_3 dX8_sameBlocks_28 ?_
    refine lv_lsub hx hb dX8_sameBlocks_29 ?_
    refine lv_topl (fun y_4 ey_4 => ?_)
    have hv := hv y_4 ey_4
    refine lv_aload_n hx hb dX8_sameBlocks_30 rfl (lv_at hl 0 rfl) ?_
    refine va_get (D := (dC, dI)) (ci := 8) (v := .ref (h 2)) (C := RX8) (T := TX8) (N := 9) hx hb hts nX8_sameBlocks_X8 hown hK hP 0 rfl rfl 2 (by decide) (hts _ mX8_sameBlocks_2) (fun _ h9 => h9) rfl dX8_sameBlocks_31 ?_
    refine lv_iload_n hx hb dX8_sameBlocks_34 rfl (lv_at hl 2 rfl) ?_
    refine lv_iload_n hx hb dX8_sameBlocks_35 rfl (lv_at hl 3 rfl) ?_
    refine lv_iadd hx hb dX8_sameBlocks_36 ?_
    have h_6 := hv.1
    have hv := hv.2
    refine va_lald hx hb hK hP 2 1 rfl rfl h_6 dX8_sameBlocks_37 ?_
    refine lv_topl (fun y_5 ey_5 => ?_)
    have hv := hv y_5 ey_5
    refine lv_aload_n hx hb dX8_sameBlocks_38 rfl (lv_at hl 0 rfl) ?_
    refine va_get (D := (dC, dI)) (ci := 8) (v := .ref (h 2)) (C := RX8) (T := TX8) (N := 9) hx hb hts nX8_sameBlocks_X8 hown hK hP 0 rfl rfl 2 (by decide) (hts _ mX8_sameBlocks_2) (fun _ h9 => h9) rfl dX8_sameBlocks_39 ?_
    refine lv_iload_n hx hb dX8_sameBlocks_42 rfl (lv_at hl 2 rfl) ?_
    have h_7 := hv.1
    have hv := hv.2
    refine va_lald hx hb hK hP 2 1 rfl rfl h_7 dX8_sameBlocks_43 ?_
    refine lv_lsub hx hb dX8_sameBlocks_44 ?_
    refine lv_topl (fun y_8 ey_8 => ?_)
    have hv := hv y_8 ey_8
    refine W.lcmp hx hb dX8_sameBlocks_45 ?_
    refine lv_if_eq (tgt := 51) hx hb dX8_sameBlocks_46 (by decide) (fun c_17 => ?_) (fun c_17 => ?_)
    · have hv := hv.1 c_17
      refine lv_aload_n hx hb dX8_sameBlocks_51 rfl (lv_at hl 0 rfl) ?_
      refine va_get (D := (dC, dI)) (ci := 8) (v := .int t_kind) (C := RX8) (T := TX8) (N := 9) hx hb hts nX8_sameBlocks_X8 hown hK hP 0 rfl rfl 7 (by decide) (hts _ mX8_sameBlocks_1) (fun _ h9 => h9) rfl dX8_sameBlocks_52 ?_
      refine lv_iconst (v := 3) hx hb dX8_sameBlocks_55 (by decide) ?_
      refine lv_icmp_ne (tgt := 88) hx hb dX8_sameBlocks_56 (by decide) (fun c_16 => ?_) (fun c_16 => ?_)
      · have hv := hv.1 c_16
        refine lv_iconst (v := 1) hx hb dX8_sameBlocks_88 (by decide) ?_
        refine lv_goto (tgt := 93) hx hb dX8_sameBlocks_89 (by decide) ?_
        exact W.zret (v := 1) hx hb hr rfl (fun t ht hW => ⟨⟨1, (), rfl, hv, va_Ph ht hP⟩, hS.F ht⟩) hS.2.2 dX8_sameBlocks_93
      · have hv := hv.2 c_16
        refine lv_iload_n hx hb dX8_sameBlocks_59 rfl (lv_at hl 3 rfl) ?_
        refine lv_if_eq (tgt := 88) hx hb dX8_sameBlocks_60 (by decide) (fun c_15 => ?_) (fun c_15 => ?_)
        · have hv := hv.1 c_15
          refine lv_iconst (v := 1) hx hb dX8_sameBlocks_88 (by decide) ?_
          refine lv_goto (tgt := 93) hx hb dX8_sameBlocks_89 (by decide) ?_
          exact W.zret (v := 1) hx hb hr rfl (fun t ht hW => ⟨⟨1, (), rfl, hv, va_Ph ht hP⟩, hS.F ht⟩) hS.2.2 dX8_sameBlocks_93
        · have hv := hv.2 c_15
          refine lv_aload_n hx hb dX8_sameBlocks_63 rfl (lv_at hl 0 rfl) ?_
          refine va_get (D := (dC, dI)) (ci := 8) (v := .ref (h 1)) (C := RX8) (T := TX8) (N := 9) hx hb hts nX8_sameBlocks_X8 hown hK hP 0 rfl rfl 0 (by decide) (hts _ mX8_sameBlocks_3) (fun _ h9 => h9) rfl dX8_sameBlocks_64 ?_
          refine lv_iload_n hx hb dX8_sameBlocks_67 rfl (lv_at hl 1 rfl) ?_
          have h_9 := hv.1
          have hv := hv.2
          refine va_iald hx hb hK hP 1 0 rfl rfl h_9 dX8_sameBlocks_68 ?_
          refine lv_aload_n hx hb dX8_sameBlocks_69 rfl (lv_at hl 0 rfl) ?_
          refine va_get (D := (dC, dI)) (ci := 8) (v := .ref (h 1)) (C := RX8) (T := TX8) (N := 9) hx hb hts nX8_sameBlocks_X8 hown hK hP 0 rfl rfl 0 (by decide) (hts _ mX8_sameBlocks_3) (fun _ h9 => h9) rfl dX8_sameBlocks_70 ?_
          refine lv_iload_n hx hb dX8_sameBlocks_73 rfl (lv_at hl 2 rfl) ?_
          have h_10 := hv.1
          have hv := hv.2
          refine va_iald hx hb hK hP 1 0 rfl rfl h_10 dX8_sameBlocks_74 ?_
          refine lv_icmp_ne (tgt := 92) hx hb dX8_sameBlocks_75 (by decide) (fun c_14 => ?_) (fun c_14 => ?_)
          · have hv := hv.1 c_14
            refine lv_iconst (v := 0) hx hb dX8_sameBlocks_92 (by decide) ?_
            exact W.zret (v := 0) hx hb hr rfl (fun t ht hW => ⟨⟨0, (), rfl, hv, va_Ph ht hP⟩, hS.F ht⟩) hS.2.2 dX8_sameBlocks_93
          · have hv := hv.2 c_14
            refine lv_aload_n hx hb dX8_sameBlocks_78 rfl (lv_at hl 0 rfl) ?_
            refine lv_iload_n hx hb dX8_sameBlocks_79 rfl (lv_at hl 1 rfl) ?_
            refine lv_iload_n hx hb dX8_sameBlocks_80 rfl (lv_at hl 2 rfl) ?_
            refine lv_iload_n hx hb dX8_sameBlocks_81 rfl (lv_at hl 3 rfl) ?_
            refine cb_VI (As := [.int p1, .int p2, .int p3]) (rest := []) ⟨hx, hb, hml, hown, hts⟩ (kX8_samePairs l dC dI cy (adl [h 0, h 3, h 4, h 1, h 5, h 2, h 6]) t_lowPairs t_highPairs t_size t_kind t_exponent p1 p2 p3 _ hv) (cwV 3 hts gX8_sameBlocks_X8_samePairs rfl rfl rfl zX8_samePairs ⟨Nat.le_of_ble_eq_true rfl, Nat.le_of_ble_eq_true rfl⟩) hK hP hD hS hA [0, 3, 4] [some 0, none, none, some 1, some 2] rfl rfl rfl (ci := 8) rfl rfl (fun _ => rfl) rfl hl.1 rfl (Nat.le_of_ble_eq_true rfl) dX8_sameBlocks_82 (fun r_11 w_13 H locs hv hP hD hS => ?_)
            have hP : va_P (dC, dI) vwCl (pX8_sameBlocks cy h t_letters t_sums t_lowPairs t_highPairs t_size t_kind t_exponent) H := hP
            have hD : va_D A (pX8_sameBlocks cy h t_letters t_sums t_lowPairs t_highPairs t_size t_kind t_exponent) := hD
            refine lv_if_eq (tgt := 92) hx hb dX8_sameBlocks_85 (by decide) (fun c_12 => ?_) (fun c_12 => ?_)
            · have hv := hv.1 c_12
              refine lv_iconst (v := 0) hx hb dX8_sameBlocks_92 (by decide) ?_
              exact W.zret (v := 0) hx hb hr rfl (fun t ht hW => ⟨⟨0, (), rfl, hv, va_Ph ht hP⟩, hS.F ht⟩) hS.2.2 dX8_sameBlocks_93
            · have hv := hv.2 c_12
              refine lv_iconst (v := 1) hx hb dX8_sameBlocks_88 (by decide) ?_
              refine lv_goto (tgt := 93) hx hb dX8_sameBlocks_89 (by decide) ?_
              exact W.zret (v := 1) hx hb hr rfl (fun t ht hW => ⟨⟨1, (), rfl, hv, va_Ph ht hP⟩, hS.F ht⟩) hS.2.2 dX8_sameBlocks_93
    · have hv := hv.2 c_17
      refine lv_iconst (v := 0) hx hb dX8_sameBlocks_49 (by decide) ?_
      exact W.zret (v := 0) hx hb hr rfl (fun t ht hW => ⟨⟨0, (), rfl, hv, va_Ph ht hP⟩, hS.F ht⟩) hS.2.2 dX8_sameBlocks_50
  · have hv := hv.2 c_20
    refine lv_aload_n hx hb dX8_sameBlocks_7 rfl (lv_at hl 0 rfl) ?_
    refine lv_iload_n hx hb dX8_sameBlocks_8 rfl (lv_at hl 1 rfl) ?_
    refine lv_iload_n hx hb dX8_sameBlocks_9 rfl (lv_at hl 2 rfl) ?_
    refine lv_iload_n hx hb dX8_sameBlocks_10 rfl (lv_at hl 3 rfl) ?_
    refine cb_VI (As := [.int p1, .int p2, .int p3]) (rest := []) ⟨hx, hb, hml, hown, hts⟩ (kX8_sameLetters l dC dI cy (adl [h 0, h 1, h 5, h 2, h 3, h 4, h 6]) t_letters t_size t_kind t_exponent p1 p2 p3 _ hv) (cwV 3 hts gX8_sameBlocks_X8_sameLetters rfl rfl rfl zX8_sameLetters ⟨Nat.le_of_ble_eq_true rfl, Nat.le_of_ble_eq_true rfl⟩) hK hP hD hS hA [0, 1] [some 0, some 1, none, none, none] rfl rfl rfl (ci := 8) rfl rfl (fun _ => rfl) rfl hl.1 rfl (Nat.le_of_ble_eq_true rfl) dX8_sameBlocks_11 (fun r_18 w_19 H locs hv hP hD hS => ?_)
    have hP : va_P (dC, dI) vwCl (pX8_sameBlocks cy h t_letters t_sums t_lowPairs t_highPairs t_size t_kind t_exponent) H := hP
    have hD : va_D A (pX8_sameBlocks cy h t_letters t_sums t_lowPairs t_highPairs t_size t_kind t_exponent) := hD
    exact W.zret (v := r_18) hx hb hr hv.1 (fun t ht hW => ⟨⟨r_18, (), rfl, hv.2, va_Ph ht hP⟩, hS.F ht⟩) hS.2.2 dX8_sameBlocks_14
theorem kX8_sameBlocks (l : Launch) (dC : Nat → ClassId) (dI : Nat → Nat → Nat) (cy : Nat → ClassId) (h : Nat → Nat) (t_letters : Nat → Int32) (t_sums : Nat → Int64) (t_lowPairs : Nat → Int64) (t_highPairs : Nat → Int64) (t_size : Int32) (t_kind : Int32) (t_exponent : Int32) (p1 : Int32) (p2 : Int32) (p3 : Int32) (post : Int32 → Prop) (hv : VX8_sameBlocks post t_letters t_sums t_lowPairs t_highPairs t_kind p1 p2 p3 ) : CtI l yX8_sameBlocks wsX8_sameBlocks rX8_sameBlocks dC dI cy [.ref (h 0), .int p1, .int p2, .int p3] (pX8_sameBlocks cy h t_letters t_sums t_lowPairs t_highPairs t_size t_kind t_exponent) (fun (_ : Unit) => pX8_sameBlocks cy h t_letters t_sums t_lowPairs t_highPairs t_size t_kind t_exponent) (fun (r : Int32) (_ : Unit) => post r) :=
  ct_ofI (by decide) rfl (Nat.le_of_ble_eq_true rfl) (fun p e s m below meth c A ls C0 hP hD hS hl => wX8_sameBlocks_0 l h post t_letters t_sums t_lowPairs t_highPairs t_size t_kind t_exponent p1 p2 p3 C0  hv _ _ _ hP hD hS hl)
theorem mX8_isPowerAtEnd_1 : (Cond.fieldLink RX8 31 "AbelianPowers$Trail" "size" "I") ∈ wsX8_isPowerAtEnd := List.mem_of_getElem? (i := 1) rfl
theorem mX8_isPowerAtEnd_2 : (Cond.fieldLink RX8 43 "AbelianPowers$Trail" "exponent" "I") ∈ wsX8_isPowerAtEnd := List.mem_of_getElem? (i := 2) rfl
theorem nX8_isPowerAtEnd_X8 : ∀ w ∈ wsX80, w ∈ wsX8_isPowerAtEnd := fun _ h => List.mem_cons_of_mem _ (List.mem_append_right _ h)
theorem zX8_isPowerAtEnd : yX8_isPowerAtEnd.cls = RX8 ∧ yX8_isPowerAtEnd.cls ≠ "java/lang/invoke/MethodHandle" ∧ yX8_isPowerAtEnd.cls ≠ "java/lang/invoke/VarHandle" ∧ (parseMethodDescriptor yX8_isPowerAtEnd.desc).map (fun d => d.parameters.length) = some 1 := by decide +kernel
abbrev rX8_isPowerAtEnd : Room := { frames := 2, cells := 0, slots := 0, locals := 47 }
abbrev pX8_isPowerAtEnd (cy : Nat → ClassId) (h : Nat → Nat) (t_letters : Nat → Int32) (t_sums : Nat → Int64) (t_lowPairs : Nat → Int64) (t_highPairs : Nat → Int64) (t_size : Int32) (t_kind : Int32) (t_exponent : Int32) : va_W := [(h 0, .inr (8, [.ref (h 1), .ref (h 5), .ref (h 2), .ref (h 3), .ref (h 4), .ref (h 6), .int t_size, .int t_kind, .int t_exponent])), (h 1, .inl (cy 0, 41, .inl t_letters)), (h 2, .inl (cy 1, 42, .inr (.inl t_sums))), (h 3, .inl (cy 1, 42, .inr (.inl t_lowPairs))), (h 4, .inl (cy 1, 42, .inr (.inl t_highPairs)))]
def VX8_isPowerAtEnd_14 (post : Int32 → Prop)  (t_letters : Nat → Int32) (t_sums : Nat → Int64) (t_lowPairs : Nat → Int64) (t_highPairs : Nat → Int64) (t_size : Int32) (t_kind : Int32) (t_exponent : Int32) (p1 : Int32) : Nat → Int32 → Int32 → Prop
  | 0, _, _ => False
  | n + 1, x2, x3 => ((t_exponent ≤ x3) → post (1 : Int32)) ∧ (¬ (t_exponent ≤ x3) → VX8_sameBlocks (fun r_2 => (¬ (r_2 = 0) → VX8_isPowerAtEnd_14 post t_letters t_sums t_lowPairs t_highPairs t_size t_kind t_exponent p1 n x2 (x3 + 1)) ∧ ((r_2 = 0) → post (0 : Int32))) t_letters t_sums t_lowPairs t_highPairs t_kind x2 (x2 + (x3 * p1)) p1)
def VX8_isPowerAtEnd (post : Int32 → Prop)  (t_letters : Nat → Int32) (t_sums : Nat → Int64) (t_lowPairs : Nat → Int64) (t_highPairs : Nat → Int64) (t_size : Int32) (t_kind : Int32) (t_exponent : Int32) (p1 : Int32)  : Prop := ∃ n14 : Nat, VX8_isPowerAtEnd_14 post t_letters t_sums t_lowPairs t_highPairs t_size t_kind t_exponent p1 n14 (t_size - (t_exponent * p1)) 1
set_option maxHeartbeats 4000000 in
set_option maxRecDepth 100000 in
theorem wX8_isPowerAtEnd_14 {p : Program} (l : Launch) {e : Env} {s : State} {m : MethodId} {args : Array Value} {below : List Frame} {meth : Method} {c : Code} {dC : Nat → ClassId} {dI : Nat → Nat → Nat} {cy : Nat → ClassId} {A : Nat → Prop} (h : Nat → Nat) (post : Int32 → Prop)   (t_letters : Nat → Int32) (t_sums : Nat → Int64) (t_lowPairs : Nat → Int64) (t_highPairs : Nat → Int64) (t_size : Int32) (t_kind : Int32) (t_exponent : Int32) (p1 : Int32) (C0 : cx p s m args meth c cX8_isPowerAtEnd 4 (some .boolean) wsX8_isPowerAtEnd RX8 dC dI cy A)  : ∀ (n : Nat) (x2 : Int32) (x3 : Int32), VX8_isPowerAtEnd_14 post t_letters t_sums t_lowPairs t_highPairs t_size t_kind t_exponent p1 n x2 x3 → ∀ (H : Heap) (locs : List Loc) (ls : Array Slot), va_P (dC, dI) vwCl (pX8_isPowerAtEnd cy h t_letters t_sums t_lowPairs t_highPairs t_size t_kind t_exponent) H → va_D A (pX8_isPowerAtEnd cy h t_letters t_sums t_lowPairs t_highPairs t_size t_kind t_exponent) → va_S A s.heap H locs → lv_has ls 4 [(0, .ref (h 0)), (1, .int p1), (2, .int x2), (3, .int x3)] → W p l e rX8_isPowerAtEnd s m args below meth c H locs 0 0 (MQ below (va_Qi (fun (r : Int32) (_ : Unit) => post r) (fun (_ : Unit) (t : State) => va_P (dC, dI) vwCl (pX8_isPowerAtEnd cy h t_letters t_sums t_lowPairs t_highPairs t_size t_kind t_exponent) t.heap) A) args s 0 0 A) (F0 m 14 ls []) := by
  have C1 := C0
  obtain ⟨hx, hb, hr, hml, hown, hts, hlocks, hK, hA⟩ := C1
  intro n
  induction n with
  | zero => intro x2 x3 hv; exact hv.elim
  | succ n ih =>
    intro x2 x3 hv H locs ls hP hD hS hl
    refine lv_iload_n hx hb dX8_isPowerAtEnd_14 rfl (lv_at hl 3 rfl) ?_
    refine lv_aload_n hx hb dX8_isPowerAtEnd_15 rfl (lv_at hl 0 rfl) ?_
    refine va_get (D := (dC, dI)) (ci := 8) (v := .int t_exponent) (C := RX8) (T := TX8) (N := 9) hx hb hts nX8_isPowerAtEnd_X8 hown hK hP 0 rfl rfl 8 (by decide) (hts _ mX8_isPowerAtEnd_2) (fun _ h9 => h9) rfl dX8_isPowerAtEnd_16 ?_
    refine lv_icmp_ge (tgt := 44) hx hb dX8_isPowerAtEnd_19 (by decide) (fun c_5 => ?_) (fun c_5 => ?_)
    · have hv := hv.1 c_5
      refine lv_iconst (v := 1) hx hb dX8_isPowerAtEnd_44 (by decide) ?_
      exact W.zret (v := 1) hx hb hr rfl (fun t ht hW => ⟨⟨1, (), rfl, hv, va_Ph ht hP⟩, hS.F ht⟩) hS.2.2 dX8_isPowerAtEnd_45
    · have hv := hv.2 c_5
      refine lv_aload_n hx hb dX8_isPowerAtEnd_22 rfl (lv_at hl 0 rfl) ?_
      refine lv_iload_n hx hb dX8_isPowerAtEnd_23 rfl (lv_at hl 2 rfl) ?_
      refine lv_iload_n hx hb dX8_isPowerAtEnd_24 rfl (lv_at hl 2 rfl) ?_
      refine lv_iload_n hx hb dX8_isPowerAtEnd_25 rfl (lv_at hl 3 rfl) ?_
      refine lv_iload_n hx hb dX8_isPowerAtEnd_26 rfl (lv_at hl 1 rfl) ?_
      refine lv_imul hx hb dX8_isPowerAtEnd_27 ?_
      refine lv_iadd hx hb dX8_isPowerAtEnd_28 ?_
      refine lv_iload_n hx hb dX8_isPowerAtEnd_29 rfl (lv_at hl 1 rfl) ?_
      refine cb_VI (As := [.int x2, .int ((x2 + (x3 * p1))), .int p1]) (rest := []) ⟨hx, hb, hml, hown, hts⟩ (kX8_sameBlocks l dC dI cy (adl [h 0, h 1, h 2, h 3, h 4, h 5, h 6]) t_letters t_sums t_lowPairs t_highPairs t_size t_kind t_exponent x2 (x2 + (x3 * p1)) p1 _ hv) (cwV 3 hts gX8_isPowerAtEnd_X8_sameBlocks rfl rfl rfl zX8_sameBlocks ⟨Nat.le_of_ble_eq_true rfl, Nat.le_of_ble_eq_true rfl⟩) hK hP hD hS hA [0, 1, 2, 3, 4] [some 0, some 1, some 2, some 3, some 4] rfl rfl rfl (ci := 8) rfl rfl (fun _ => rfl) rfl hl.1 rfl (Nat.le_of_ble_eq_true rfl) dX8_isPowerAtEnd_30 (fun r_2 w_4 H locs hv hP hD hS => ?_)
      have hP : va_P (dC, dI) vwCl (pX8_isPowerAtEnd cy h t_letters t_sums t_lowPairs t_highPairs t_size t_kind t_exponent) H := hP
      have hD : va_D A (pX8_isPowerAtEnd cy h t_letters t_sums t_lowPairs t_highPairs t_size t_kind t_exponent) := hD
      refine lv_if_ne (tgt := 38) hx hb dX8_isPowerAtEnd_33 (by decide) (fun c_3 => ?_) (fun c_3 => ?_)
      · have hv := hv.1 c_3
        refine lv_iinc (v := (x3 + 1)) (lv' := [(3, .int ((x3 + 1))), (0, .ref (h 0)), (1, .int p1), (2, .int x2)]) hx hb dX8_isPowerAtEnd_38 hl (k := 3) rfl rfl (by decide) rfl (fun ls hl => ?_)
        refine lv_goto (tgt := 14) hx hb dX8_isPowerAtEnd_41 (by decide) ?_
        exact ih x2 (x3 + 1) hv _ _ _ hP hD hS (lv_sub hl [1, 2, 3, 0] rfl)
      · have hv := hv.2 c_3
        refine lv_iconst (v := 0) hx hb dX8_isPowerAtEnd_36 (by decide) ?_
        exact W.zret (v := 0) hx hb hr rfl (fun t ht hW => ⟨⟨0, (), rfl, hv, va_Ph ht hP⟩, hS.F ht⟩) hS.2.2 dX8_isPowerAtEnd_37
set_option maxHeartbeats 4000000 in
set_option maxRecDepth 100000 in
theorem wX8_isPowerAtEnd_0 {p : Program} (l : Launch) {e : Env} {s : State} {m : MethodId} {args : Array Value} {below : List Frame} {meth : Method} {c : Code} {dC : Nat → ClassId} {dI : Nat → Nat → Nat} {cy : Nat → ClassId} {A : Nat → Prop} (h : Nat → Nat) (post : Int32 → Prop)   (t_letters : Nat → Int32) (t_sums : Nat → Int64) (t_lowPairs : Nat → Int64) (t_highPairs : Nat → Int64) (t_size : Int32) (t_kind : Int32) (t_exponent : Int32) (p1 : Int32) (C0 : cx p s m args meth c cX8_isPowerAtEnd 4 (some .boolean) wsX8_isPowerAtEnd RX8 dC dI cy A)  : VX8_isPowerAtEnd post t_letters t_sums t_lowPairs t_highPairs t_size t_kind t_exponent p1  → ∀ (H : Heap) (locs : List Loc) (ls : Array Slot), va_P (dC, dI) vwCl (pX8_isPowerAtEnd cy h t_letters t_sums t_lowPairs t_highPairs t_size t_kind t_exponent) H → va_D A (pX8_isPowerAtEnd cy h t_letters t_sums t_lowPairs t_highPairs t_size t_kind t_exponent) → va_S A s.heap H locs → lv_has ls 4 [(0, .ref (h 0)), (1, .int p1)] → W p l e rX8_isPowerAtEnd s m args below meth c H locs 0 0 (MQ below (va_Qi (fun (r : Int32) (_ : Unit) => post r) (fun (_ : Unit) (t : State) => va_P (dC, dI) vwCl (pX8_isPowerAtEnd cy h t_letters t_sums t_lowPairs t_highPairs t_size t_kind t_exponent) t.heap) A) args s 0 0 A) (F0 m 0 ls []) := by
  have C1 := C0
  obtain ⟨hx, hb, hr, hml, hown, hts, hlocks, hK, hA⟩ := C1
  intro  hv H locs ls hP hD hS hl
  refine lv_aload_n hx hb dX8_isPowerAtEnd_0 rfl (lv_at hl 0 rfl) ?_
  refine va_get (D := (dC, dI)) (ci := 8) (v := .int t_size) (C := RX8) (T := TX8) (N := 9) hx hb hts nX8_isPowerAtEnd_X8 hown hK hP 0 rfl rfl 6 (by decide) (hts _ mX8_isPowerAtEnd_1) (fun _ h9 => h9) rfl dX8_isPowerAtEnd_1 ?_
  refine lv_aload_n hx hb dX8_isPowerAtEnd_4 rfl (lv_at hl 0 rfl) ?_
  refine va_get (D := (dC, dI)) (ci := 8) (v := .int t_exponent) (C := RX8) (T := TX8) (N := 9) hx hb hts nX8_isPowerAtEnd_X8 hown hK hP 0 rfl rfl 8 (by decide) (hts _ mX8_isPowerAtEnd_2) (fun _ h9 => h9) rfl dX8_isPowerAtEnd_5 ?_
  refine lv_iload_n hx hb dX8_isPowerAtEnd_8 rfl (lv_at hl 1 rfl) ?_
  refine lv_imul hx hb dX8_isPowerAtEnd_9 ?_
  refine lv_isub hx hb dX8_isPowerAtEnd_10 ?_
  refine lv_istore_n (lv' := [(2, .int ((t_size - (t_exponent * p1)))), (0, .ref (h 0)), (1, .int p1)]) hx hb dX8_isPowerAtEnd_11 rfl hl (by decide) rfl (fun ls hl => ?_)
  refine lv_iconst (v := 1) hx hb dX8_isPowerAtEnd_12 (by decide) ?_
  refine lv_istore_n (lv' := [(3, .int 1), (2, .int ((t_size - (t_exponent * p1)))), (0, .ref (h 0)), (1, .int p1)]) hx hb dX8_isPowerAtEnd_13 rfl hl (by decide) rfl (fun ls hl => ?_)
  obtain ⟨n_1, hv⟩ := hv
  exact wX8_isPowerAtEnd_14 l h post  t_letters t_sums t_lowPairs t_highPairs t_size t_kind t_exponent p1 C0 n_1 (t_size - (t_exponent * p1)) 1 hv _ _ _ hP hD hS (lv_sub hl [2, 3, 1, 0] rfl)
theorem kX8_isPowerAtEnd (l : Launch) (dC : Nat → ClassId) (dI : Nat → Nat → Nat) (cy : Nat → ClassId) (h : Nat → Nat) (t_letters : Nat → Int32) (t_sums : Nat → Int64) (t_lowPairs : Nat → Int64) (t_highPairs : Nat → Int64) (t_size : Int32) (t_kind : Int32) (t_exponent : Int32) (p1 : Int32) (post : Int32 → Prop) (hv : VX8_isPowerAtEnd post t_letters t_sums t_lowPairs t_highPairs t_size t_kind t_exponent p1 ) : CtI l yX8_isPowerAtEnd wsX8_isPowerAtEnd rX8_isPowerAtEnd dC dI cy [.ref (h 0), .int p1] (pX8_isPowerAtEnd cy h t_letters t_sums t_lowPairs t_highPairs t_size t_kind t_exponent) (fun (_ : Unit) => pX8_isPowerAtEnd cy h t_letters t_sums t_lowPairs t_highPairs t_size t_kind t_exponent) (fun (r : Int32) (_ : Unit) => post r) :=
  ct_ofI (by decide) rfl (Nat.le_of_ble_eq_true rfl) (fun p e s m below meth c A ls C0 hP hD hS hl => wX8_isPowerAtEnd_0 l h post t_letters t_sums t_lowPairs t_highPairs t_size t_kind t_exponent p1 C0  hv _ _ _ hP hD hS hl)
theorem mX8_shortestPowerAtEnd_1 : (Cond.fieldLink RX8 31 "AbelianPowers$Trail" "size" "I") ∈ wsX8_shortestPowerAtEnd := List.mem_of_getElem? (i := 1) rfl
theorem mX8_shortestPowerAtEnd_2 : (Cond.fieldLink RX8 43 "AbelianPowers$Trail" "exponent" "I") ∈ wsX8_shortestPowerAtEnd := List.mem_of_getElem? (i := 2) rfl
theorem nX8_shortestPowerAtEnd_X8 : ∀ w ∈ wsX80, w ∈ wsX8_shortestPowerAtEnd := fun _ h => List.mem_cons_of_mem _ (List.mem_append_right _ h)
theorem zX8_shortestPowerAtEnd : yX8_shortestPowerAtEnd.cls = RX8 ∧ yX8_shortestPowerAtEnd.cls ≠ "java/lang/invoke/MethodHandle" ∧ yX8_shortestPowerAtEnd.cls ≠ "java/lang/invoke/VarHandle" ∧ (parseMethodDescriptor yX8_shortestPowerAtEnd.desc).map (fun d => d.parameters.length) = some 0 := by decide +kernel
abbrev rX8_shortestPowerAtEnd : Room := { frames := 3, cells := 0, slots := 0, locals := 70 }
abbrev pX8_shortestPowerAtEnd (cy : Nat → ClassId) (h : Nat → Nat) (t_letters : Nat → Int32) (t_sums : Nat → Int64) (t_lowPairs : Nat → Int64) (t_highPairs : Nat → Int64) (t_size : Int32) (t_kind : Int32) (t_exponent : Int32) : va_W := [(h 0, .inr (8, [.ref (h 1), .ref (h 5), .ref (h 2), .ref (h 3), .ref (h 4), .ref (h 6), .int t_size, .int t_kind, .int t_exponent])), (h 1, .inl (cy 0, 41, .inl t_letters)), (h 2, .inl (cy 1, 42, .inr (.inl t_sums))), (h 3, .inl (cy 1, 42, .inr (.inl t_lowPairs))), (h 4, .inl (cy 1, 42, .inr (.inl t_highPairs)))]
def VX8_shortestPowerAtEnd_2 (post : Int32 → Prop)  (t_letters : Nat → Int32) (t_sums : Nat → Int64) (t_lowPairs : Nat → Int64) (t_highPairs : Nat → Int64) (t_size : Int32) (t_kind : Int32) (t_exponent : Int32) : Nat → Int32 → Prop
  | 0, _ => False
  | n + 1, x1 => ((t_size < x1) → post (0 : Int32)) ∧ (¬ (t_size < x1) → ((t_size < (x1 * t_exponent)) → post (0 : Int32)) ∧ (¬ (t_size < (x1 * t_exponent)) → VX8_isPowerAtEnd (fun r_2 => ((r_2 = 0) → VX8_shortestPowerAtEnd_2 post t_letters t_sums t_lowPairs t_highPairs t_size t_kind t_exponent n (x1 + 1)) ∧ (¬ (r_2 = 0) → post x1)) t_letters t_sums t_lowPairs t_highPairs t_size t_kind t_exponent x1))
def VX8_shortestPowerAtEnd (post : Int32 → Prop)  (t_letters : Nat → Int32) (t_sums : Nat → Int64) (t_lowPairs : Nat → Int64) (t_highPairs : Nat → Int64) (t_size : Int32) (t_kind : Int32) (t_exponent : Int32)  : Prop := ∃ n2 : Nat, VX8_shortestPowerAtEnd_2 post t_letters t_sums t_lowPairs t_highPairs t_size t_kind t_exponent n2 1
set_option maxHeartbeats 4000000 in
set_option maxRecDepth 100000 in
theorem wX8_shortestPowerAtEnd_2 {p : Program} (l : Launch) {e : Env} {s : State} {m : MethodId} {args : Array Value} {below : List Frame} {meth : Method} {c : Code} {dC : Nat → ClassId} {dI : Nat → Nat → Nat} {cy : Nat → ClassId} {A : Nat → Prop} (h : Nat → Nat) (post : Int32 → Prop)   (t_letters : Nat → Int32) (t_sums : Nat → Int64) (t_lowPairs : Nat → Int64) (t_highPairs : Nat → Int64) (t_size : Int32) (t_kind : Int32) (t_exponent : Int32)  (C0 : cx p s m args meth c cX8_shortestPowerAtEnd 2 (some .int) wsX8_shortestPowerAtEnd RX8 dC dI cy A)  : ∀ (n : Nat) (x1 : Int32), VX8_shortestPowerAtEnd_2 post t_letters t_sums t_lowPairs t_highPairs t_size t_kind t_exponent n x1 → ∀ (H : Heap) (locs : List Loc) (ls : Array Slot), va_P (dC, dI) vwCl (pX8_shortestPowerAtEnd cy h t_letters t_sums t_lowPairs t_highPairs t_size t_kind t_exponent) H → va_D A (pX8_shortestPowerAtEnd cy h t_letters t_sums t_lowPairs t_highPairs t_size t_kind t_exponent) → va_S A s.heap H locs → lv_has ls 2 [(0, .ref (h 0)), (1, .int x1)] → W p l e rX8_shortestPowerAtEnd s m args below meth c H locs 0 0 (MQ below (va_Qi (fun (r : Int32) (_ : Unit) => post r) (fun (_ : Unit) (t : State) => va_P (dC, dI) vwCl (pX8_shortestPowerAtEnd cy h t_letters t_sums t_lowPairs t_highPairs t_size t_kind t_exponent) t.heap) A) args s 0 0 A) (F0 m 2 ls []) := by
  have C1 := C0
  obtain ⟨hx, hb, hr, hml, hown, hts, hlocks, hK, hA⟩ := C1
  intro n
  induction n with
  | zero => intro x1 hv; exact hv.elim
  | succ n ih =>
    intro x1 hv H locs ls hP hD hS hl
    refine lv_iload_n hx hb dX8_shortestPowerAtEnd_2 rfl (lv_at hl 1 rfl) ?_
    refine lv_aload_n hx hb dX8_shortestPowerAtEnd_3 rfl (lv_at hl 0 rfl) ?_
    refine va_get (D := (dC, dI)) (ci := 8) (v := .int t_size) (C := RX8) (T := TX8) (N := 9) hx hb hts nX8_shortestPowerAtEnd_X8 hown hK hP 0 rfl rfl 6 (by decide) (hts _ mX8_shortestPowerAtEnd_1) (fun _ h9 => h9) rfl dX8_shortestPowerAtEnd_4 ?_
    refine lv_icmp_gt (tgt := 39) hx hb dX8_shortestPowerAtEnd_7 (by decide) (fun c_6 => ?_) (fun c_6 => ?_)
    · have hv := hv.1 c_6
      refine lv_iconst (v := 0) hx hb dX8_shortestPowerAtEnd_39 (by decide) ?_
      exact W.iret (v := 0) hx hb hr (fun t ht hW => ⟨⟨0, (), rfl, hv, va_Ph ht hP⟩, hS.F ht⟩) hS.2.2 dX8_shortestPowerAtEnd_40
    · have hv := hv.2 c_6
      refine lv_iload_n hx hb dX8_shortestPowerAtEnd_10 rfl (lv_at hl 1 rfl) ?_
      refine lv_aload_n hx hb dX8_shortestPowerAtEnd_11 rfl (lv_at hl 0 rfl) ?_
      refine va_get (D := (dC, dI)) (ci := 8) (v := .int t_exponent) (C := RX8) (T := TX8) (N := 9) hx hb hts nX8_shortestPowerAtEnd_X8 hown hK hP 0 rfl rfl 8 (by decide) (hts _ mX8_shortestPowerAtEnd_2) (fun _ h9 => h9) rfl dX8_shortestPowerAtEnd_12 ?_
      refine lv_imul hx hb dX8_shortestPowerAtEnd_15 ?_
      refine lv_aload_n hx hb dX8_shortestPowerAtEnd_16 rfl (lv_at hl 0 rfl) ?_
      refine va_get (D := (dC, dI)) (ci := 8) (v := .int t_size) (C := RX8) (T := TX8) (N := 9) hx hb hts nX8_shortestPowerAtEnd_X8 hown hK hP 0 rfl rfl 6 (by decide) (hts _ mX8_shortestPowerAtEnd_1) (fun _ h9 => h9) rfl dX8_shortestPowerAtEnd_17 ?_
      refine lv_icmp_gt (tgt := 39) hx hb dX8_shortestPowerAtEnd_20 (by decide) (fun c_5 => ?_) (fun c_5 => ?_)
      · have hv := hv.1 c_5
        refine lv_iconst (v := 0) hx hb dX8_shortestPowerAtEnd_39 (by decide) ?_
        exact W.iret (v := 0) hx hb hr (fun t ht hW => ⟨⟨0, (), rfl, hv, va_Ph ht hP⟩, hS.F ht⟩) hS.2.2 dX8_shortestPowerAtEnd_40
      · have hv := hv.2 c_5
        refine lv_aload_n hx hb dX8_shortestPowerAtEnd_23 rfl (lv_at hl 0 rfl) ?_
        refine lv_iload_n hx hb dX8_shortestPowerAtEnd_24 rfl (lv_at hl 1 rfl) ?_
        refine cb_VI (As := [.int x1]) (rest := []) ⟨hx, hb, hml, hown, hts⟩ (kX8_isPowerAtEnd l dC dI cy (adl [h 0, h 1, h 2, h 3, h 4, h 5, h 6]) t_letters t_sums t_lowPairs t_highPairs t_size t_kind t_exponent x1 _ hv) (cwV 1 hts gX8_shortestPowerAtEnd_X8_isPowerAtEnd rfl rfl rfl zX8_isPowerAtEnd ⟨Nat.le_of_ble_eq_true rfl, Nat.le_of_ble_eq_true rfl⟩) hK hP hD hS hA [0, 1, 2, 3, 4] [some 0, some 1, some 2, some 3, some 4] rfl rfl rfl (ci := 8) rfl rfl (fun _ => rfl) rfl hl.1 rfl (Nat.le_of_ble_eq_true rfl) dX8_shortestPowerAtEnd_25 (fun r_2 w_4 H locs hv hP hD hS => ?_)
        have hP : va_P (dC, dI) vwCl (pX8_shortestPowerAtEnd cy h t_letters t_sums t_lowPairs t_highPairs t_size t_kind t_exponent) H := hP
        have hD : va_D A (pX8_shortestPowerAtEnd cy h t_letters t_sums t_lowPairs t_highPairs t_size t_kind t_exponent) := hD
        refine lv_if_eq (tgt := 33) hx hb dX8_shortestPowerAtEnd_28 (by decide) (fun c_3 => ?_) (fun c_3 => ?_)
        · have hv := hv.1 c_3
          refine lv_iinc (v := (x1 + 1)) (lv' := [(1, .int ((x1 + 1))), (0, .ref (h 0))]) hx hb dX8_shortestPowerAtEnd_33 hl (k := 1) rfl rfl (by decide) rfl (fun ls hl => ?_)
          refine lv_goto (tgt := 2) hx hb dX8_shortestPowerAtEnd_36 (by decide) ?_
          exact ih (x1 + 1) hv _ _ _ hP hD hS (lv_sub hl [1, 0] rfl)
        · have hv := hv.2 c_3
          refine lv_iload_n hx hb dX8_shortestPowerAtEnd_31 rfl (lv_at hl 1 rfl) ?_
          exact W.iret (v := x1) hx hb hr (fun t ht hW => ⟨⟨x1, (), rfl, hv, va_Ph ht hP⟩, hS.F ht⟩) hS.2.2 dX8_shortestPowerAtEnd_32
set_option maxHeartbeats 4000000 in
set_option maxRecDepth 100000 in
theorem wX8_shortestPowerAtEnd_0 {p : Program} (l : Launch) {e : Env} {s : State} {m : MethodId} {args : Array Value} {below : List Frame} {meth : Method} {c : Code} {dC : Nat → ClassId} {dI : Nat → Nat → Nat} {cy : Nat → ClassId} {A : Nat → Prop} (h : Nat → Nat) (post : Int32 → Prop)   (t_letters : Nat → Int32) (t_sums : Nat → Int64) (t_lowPairs : Nat → Int64) (t_highPairs : Nat → Int64) (t_size : Int32) (t_kind : Int32) (t_exponent : Int32)  (C0 : cx p s m args meth c cX8_shortestPowerAtEnd 2 (some .int) wsX8_shortestPowerAtEnd RX8 dC dI cy A)  : VX8_shortestPowerAtEnd post t_letters t_sums t_lowPairs t_highPairs t_size t_kind t_exponent  → ∀ (H : Heap) (locs : List Loc) (ls : Array Slot), va_P (dC, dI) vwCl (pX8_shortestPowerAtEnd cy h t_letters t_sums t_lowPairs t_highPairs t_size t_kind t_exponent) H → va_D A (pX8_shortestPowerAtEnd cy h t_letters t_sums t_lowPairs t_highPairs t_size t_kind t_exponent) → va_S A s.heap H locs → lv_has ls 2 [(0, .ref (h 0))] → W p l e rX8_shortestPowerAtEnd s m args below meth c H locs 0 0 (MQ below (va_Qi (fun (r : Int32) (_ : Unit) => post r) (fun (_ : Unit) (t : State) => va_P (dC, dI) vwCl (pX8_shortestPowerAtEnd cy h t_letters t_sums t_lowPairs t_highPairs t_size t_kind t_exponent) t.heap) A) args s 0 0 A) (F0 m 0 ls []) := by
  have C1 := C0
  obtain ⟨hx, hb, hr, hml, hown, hts, hlocks, hK, hA⟩ := C1
  intro  hv H locs ls hP hD hS hl
  refine lv_iconst (v := 1) hx hb dX8_shortestPowerAtEnd_0 (by decide) ?_
  refine lv_istore_n (lv' := [(1, .int 1), (0, .ref (h 0))]) hx hb dX8_shortestPowerAtEnd_1 rfl hl (by decide) rfl (fun ls hl => ?_)
  obtain ⟨n_1, hv⟩ := hv
  exact wX8_shortestPowerAtEnd_2 l h post  t_letters t_sums t_lowPairs t_highPairs t_size t_kind t_exponent C0 n_1 1 hv _ _ _ hP hD hS (lv_sub hl [1, 0] rfl)
theorem kX8_shortestPowerAtEnd (l : Launch) (dC : Nat → ClassId) (dI : Nat → Nat → Nat) (cy : Nat → ClassId) (h : Nat → Nat) (t_letters : Nat → Int32) (t_sums : Nat → Int64) (t_lowPairs : Nat → Int64) (t_highPairs : Nat → Int64) (t_size : Int32) (t_kind : Int32) (t_exponent : Int32)  (post : Int32 → Prop) (hv : VX8_shortestPowerAtEnd post t_letters t_sums t_lowPairs t_highPairs t_size t_kind t_exponent ) : CtI l yX8_shortestPowerAtEnd wsX8_shortestPowerAtEnd rX8_shortestPowerAtEnd dC dI cy [.ref (h 0)] (pX8_shortestPowerAtEnd cy h t_letters t_sums t_lowPairs t_highPairs t_size t_kind t_exponent) (fun (_ : Unit) => pX8_shortestPowerAtEnd cy h t_letters t_sums t_lowPairs t_highPairs t_size t_kind t_exponent) (fun (r : Int32) (_ : Unit) => post r) :=
  ct_ofI (by decide) rfl (Nat.le_of_ble_eq_true rfl) (fun p e s m below meth c A ls C0 hP hD hS hl => wX8_shortestPowerAtEnd_0 l h post t_letters t_sums t_lowPairs t_highPairs t_size t_kind t_exponent C0  hv _ _ _ hP hD hS hl)
theorem mX8_powersAtEnd_1 : (Cond.fieldLink RX8 31 "AbelianPowers$Trail" "size" "I") ∈ wsX8_powersAtEnd := List.mem_of_getElem? (i := 1) rfl
theorem mX8_powersAtEnd_2 : (Cond.fieldLink RX8 43 "AbelianPowers$Trail" "exponent" "I") ∈ wsX8_powersAtEnd := List.mem_of_getElem? (i := 2) rfl
theorem nX8_powersAtEnd_X8 : ∀ w ∈ wsX80, w ∈ wsX8_powersAtEnd := fun _ h => List.mem_cons_of_mem _ (List.mem_append_right _ h)
theorem zX8_powersAtEnd : yX8_powersAtEnd.cls = RX8 ∧ yX8_powersAtEnd.cls ≠ "java/lang/invoke/MethodHandle" ∧ yX8_powersAtEnd.cls ≠ "java/lang/invoke/VarHandle" ∧ (parseMethodDescriptor yX8_powersAtEnd.desc).map (fun d => d.parameters.length) = some 0 := by decide +kernel
abbrev rX8_powersAtEnd : Room := { frames := 3, cells := 0, slots := 0, locals := 70 }
abbrev pX8_powersAtEnd (cy : Nat → ClassId) (h : Nat → Nat) (t_letters : Nat → Int32) (t_sums : Nat → Int64) (t_lowPairs : Nat → Int64) (t_highPairs : Nat → Int64) (t_size : Int32) (t_kind : Int32) (t_exponent : Int32) : va_W := [(h 0, .inr (8, [.ref (h 1), .ref (h 5), .ref (h 2), .ref (h 3), .ref (h 4), .ref (h 6), .int t_size, .int t_kind, .int t_exponent])), (h 1, .inl (cy 0, 41, .inl t_letters)), (h 2, .inl (cy 1, 42, .inr (.inl t_sums))), (h 3, .inl (cy 1, 42, .inr (.inl t_lowPairs))), (h 4, .inl (cy 1, 42, .inr (.inl t_highPairs)))]
def VX8_powersAtEnd_4 (post : Int32 → Prop)  (t_letters : Nat → Int32) (t_sums : Nat → Int64) (t_lowPairs : Nat → Int64) (t_highPairs : Nat → Int64) (t_size : Int32) (t_kind : Int32) (t_exponent : Int32) : Nat → Int32 → Int32 → Prop
  | 0, _, _ => False
  | n + 1, x1, x2 => ((t_size < x2) → post x1) ∧ (¬ (t_size < x2) → ((t_size < (x2 * t_exponent)) → post x1) ∧ (¬ (t_size < (x2 * t_exponent)) → VX8_isPowerAtEnd (fun r_2 => ((r_2 = 0) → VX8_powersAtEnd_4 post t_letters t_sums t_lowPairs t_highPairs t_size t_kind t_exponent n x1 (x2 + 1)) ∧ (¬ (r_2 = 0) → VX8_powersAtEnd_4 post t_letters t_sums t_lowPairs t_highPairs t_size t_kind t_exponent n (x1 + 1) (x2 + 1))) t_letters t_sums t_lowPairs t_highPairs t_size t_kind t_exponent x2))
def VX8_powersAtEnd (post : Int32 → Prop)  (t_letters : Nat → Int32) (t_sums : Nat → Int64) (t_lowPairs : Nat → Int64) (t_highPairs : Nat → Int64) (t_size : Int32) (t_kind : Int32) (t_exponent : Int32)  : Prop := ∃ n4 : Nat, VX8_powersAtEnd_4 post t_letters t_sums t_lowPairs t_highPairs t_size t_kind t_exponent n4 0 1
set_option maxHeartbeats 4000000 in
set_option maxRecDepth 100000 in
theorem wX8_powersAtEnd_4 {p : Program} (l : Launch) {e : Env} {s : State} {m : MethodId} {args : Array Value} {below : List Frame} {meth : Method} {c : Code} {dC : Nat → ClassId} {dI : Nat → Nat → Nat} {cy : Nat → ClassId} {A : Nat → Prop} (h : Nat → Nat) (post : Int32 → Prop)   (t_letters : Nat → Int32) (t_sums : Nat → Int64) (t_lowPairs : Nat → Int64) (t_highPairs : Nat → Int64) (t_size : Int32) (t_kind : Int32) (t_exponent : Int32)  (C0 : cx p s m args meth c cX8_powersAtEnd 3 (some .int) wsX8_powersAtEnd RX8 dC dI cy A)  : ∀ (n : Nat) (x1 : Int32) (x2 : Int32), VX8_powersAtEnd_4 post t_letters t_sums t_lowPairs t_highPairs t_size t_kind t_exponent n x1 x2 → ∀ (H : Heap) (locs : List Loc) (ls : Array Slot), va_P (dC, dI) vwCl (pX8_powersAtEnd cy h t_letters t_sums t_lowPairs t_highPairs t_size t_kind t_exponent) H → va_D A (pX8_powersAtEnd cy h t_letters t_sums t_lowPairs t_highPairs t_size t_kind t_exponent) → va_S A s.heap H locs → lv_has ls 3 [(0, .ref (h 0)), (1, .int x1), (2, .int x2)] → W p l e rX8_powersAtEnd s m args below meth c H locs 0 0 (MQ below (va_Qi (fun (r : Int32) (_ : Unit) => post r) (fun (_ : Unit) (t : State) => va_P (dC, dI) vwCl (pX8_powersAtEnd cy h t_letters t_sums t_lowPairs t_highPairs t_size t_kind t_exponent) t.heap) A) args s 0 0 A) (F0 m 4 ls []) := by
  have C1 := C0
  obtain ⟨hx, hb, hr, hml, hown, hts, hlocks, hK, hA⟩ := C1
  intro n
  induction n with
  | zero => intro x1 x2 hv; exact hv.elim
  | succ n ih =>
    intro x1 x2 hv H locs ls hP hD hS hl
    refine lv_iload_n hx hb dX8_powersAtEnd_4 rfl (lv_at hl 2 rfl) ?_
    refine lv_aload_n hx hb dX8_powersAtEnd_5 rfl (lv_at hl 0 rfl) ?_
    refine va_get (D := (dC, dI)) (ci := 8) (v := .int t_size) (C := RX8) (T := TX8) (N := 9) hx hb hts nX8_powersAtEnd_X8 hown hK hP 0 rfl rfl 6 (by decide) (hts _ mX8_powersAtEnd_1) (fun _ h9 => h9) rfl dX8_powersAtEnd_6 ?_
    refine lv_icmp_gt (tgt := 42) hx hb dX8_powersAtEnd_9 (by decide) (fun c_6 => ?_) (fun c_6 => ?_)
    · have hv := hv.1 c_6
      refine lv_iload_n hx hb dX8_powersAtEnd_42 rfl (lv_at hl 1 rfl) ?_
      exact W.iret (v := x1) hx hb hr (fun t ht hW => ⟨⟨x1, (), rfl, hv, va_Ph ht hP⟩, hS.F ht⟩) hS.2.2 dX8_powersAtEnd_43
    · have hv := hv.2 c_6
      refine lv_iload_n hx hb dX8_powersAtEnd_12 rfl (lv_at hl 2 rfl) ?_
      refine lv_aload_n hx hb dX8_powersAtEnd_13 rfl (lv_at hl 0 rfl) ?_
      refine va_get (D := (dC, dI)) (ci := 8) (v := .int t_exponent) (C := RX8) (T := TX8) (N := 9) hx hb hts nX8_powersAtEnd_X8 hown hK hP 0 rfl rfl 8 (by decide) (hts _ mX8_powersAtEnd_2) (fun _ h9 => h9) rfl dX8_powersAtEnd_14 ?_
      refine lv_imul hx hb dX8_powersAtEnd_17 ?_
      refine lv_aload_n hx hb dX8_powersAtEnd_18 rfl (lv_at hl 0 rfl) ?_
      refine va_get (D := (dC, dI)) (ci := 8) (v := .int t_size) (C := RX8) (T := TX8) (N := 9) hx hb hts nX8_powersAtEnd_X8 hown hK hP 0 rfl rfl 6 (by decide) (hts _ mX8_powersAtEnd_1) (fun _ h9 => h9) rfl dX8_powersAtEnd_19 ?_
      refine lv_icmp_gt (tgt := 42) hx hb dX8_powersAtEnd_22 (by decide) (fun c_5 => ?_) (fun c_5 => ?_)
      · have hv := hv.1 c_5
        refine lv_iload_n hx hb dX8_powersAtEnd_42 rfl (lv_at hl 1 rfl) ?_
        exact W.iret (v := x1) hx hb hr (fun t ht hW => ⟨⟨x1, (), rfl, hv, va_Ph ht hP⟩, hS.F ht⟩) hS.2.2 dX8_powersAtEnd_43
      · have hv := hv.2 c_5
        refine lv_aload_n hx hb dX8_powersAtEnd_25 rfl (lv_at hl 0 rfl) ?_
        refine lv_iload_n hx hb dX8_powersAtEnd_26 rfl (lv_at hl 2 rfl) ?_
        refine cb_VI (As := [.int x2]) (rest := []) ⟨hx, hb, hml, hown, hts⟩ (kX8_isPowerAtEnd l dC dI cy (adl [h 0, h 1, h 2, h 3, h 4, h 5, h 6]) t_letters t_sums t_lowPairs t_highPairs t_size t_kind t_exponent x2 _ hv) (cwV 1 hts gX8_powersAtEnd_X8_isPowerAtEnd rfl rfl rfl zX8_isPowerAtEnd ⟨Nat.le_of_ble_eq_true rfl, Nat.le_of_ble_eq_true rfl⟩) hK hP hD hS hA [0, 1, 2, 3, 4] [some 0, some 1, some 2, some 3, some 4] rfl rfl rfl (ci := 8) rfl rfl (fun _ => rfl) rfl hl.1 rfl (Nat.le_of_ble_eq_true rfl) dX8_powersAtEnd_27 (fun r_2 w_4 H locs hv hP hD hS => ?_)
        have hP : va_P (dC, dI) vwCl (pX8_powersAtEnd cy h t_letters t_sums t_lowPairs t_highPairs t_size t_kind t_exponent) H := hP
        have hD : va_D A (pX8_powersAtEnd cy h t_letters t_sums t_lowPairs t_highPairs t_size t_kind t_exponent) := hD
        refine lv_if_eq (tgt := 36) hx hb dX8_powersAtEnd_30 (by decide) (fun c_3 => ?_) (fun c_3 => ?_)
        · have hv := hv.1 c_3
          refine lv_iinc (v := (x2 + 1)) (lv' := [(2, .int ((x2 + 1))), (0, .ref (h 0)), (1, .int x1)]) hx hb dX8_powersAtEnd_36 hl (k := 2) rfl rfl (by decide) rfl (fun ls hl => ?_)
          refine lv_goto (tgt := 4) hx hb dX8_powersAtEnd_39 (by decide) ?_
          exact ih x1 (x2 + 1) hv _ _ _ hP hD hS (lv_sub hl [1, 2, 0] rfl)
        · have hv := hv.2 c_3
          refine lv_iinc (v := (x1 + 1)) (lv' := [(1, .int ((x1 + 1))), (0, .ref (h 0)), (2, .int x2)]) hx hb dX8_powersAtEnd_33 hl (k := 1) rfl rfl (by decide) rfl (fun ls hl => ?_)
          refine lv_iinc (v := (x2 + 1)) (lv' := [(2, .int ((x2 + 1))), (1, .int ((x1 + 1))), (0, .ref (h 0))]) hx hb dX8_powersAtEnd_36 hl (k := 2) rfl rfl (by decide) rfl (fun ls hl => ?_)
          refine lv_goto (tgt := 4) hx hb dX8_powersAtEnd_39 (by decide) ?_
          exact ih (x1 + 1) (x2 + 1) hv _ _ _ hP hD hS (lv_sub hl [2, 1, 0] rfl)
set_option maxHeartbeats 4000000 in
set_option maxRecDepth 100000 in
theorem wX8_powersAtEnd_0 {p : Program} (l : Launch) {e : Env} {s : State} {m : MethodId} {args : Array Value} {below : List Frame} {meth : Method} {c : Code} {dC : Nat → ClassId} {dI : Nat → Nat → Nat} {cy : Nat → ClassId} {A : Nat → Prop} (h : Nat → Nat) (post : Int32 → Prop)   (t_letters : Nat → Int32) (t_sums : Nat → Int64) (t_lowPairs : Nat → Int64) (t_highPairs : Nat → Int64) (t_size : Int32) (t_kind : Int32) (t_exponent : Int32)  (C0 : cx p s m args meth c cX8_powersAtEnd 3 (some .int) wsX8_powersAtEnd RX8 dC dI cy A)  : VX8_powersAtEnd post t_letters t_sums t_lowPairs t_highPairs t_size t_kind t_exponent  → ∀ (H : Heap) (locs : List Loc) (ls : Array Slot), va_P (dC, dI) vwCl (pX8_powersAtEnd cy h t_letters t_sums t_lowPairs t_highPairs t_size t_kind t_exponent) H → va_D A (pX8_powersAtEnd cy h t_letters t_sums t_lowPairs t_highPairs t_size t_kind t_exponent) → va_S A s.heap H locs → lv_has ls 3 [(0, .ref (h 0))] → W p l e rX8_powersAtEnd s m args below meth c H locs 0 0 (MQ below (va_Qi (fun (r : Int32) (_ : Unit) => post r) (fun (_ : Unit) (t : State) => va_P (dC, dI) vwCl (pX8_powersAtEnd cy h t_letters t_sums t_lowPairs t_highPairs t_size t_kind t_exponent) t.heap) A) args s 0 0 A) (F0 m 0 ls []) := by
  have C1 := C0
  obtain ⟨hx, hb, hr, hml, hown, hts, hlocks, hK, hA⟩ := C1
  intro  hv H locs ls hP hD hS hl
  refine lv_iconst (v := 0) hx hb dX8_powersAtEnd_0 (by decide) ?_
  refine lv_istore_n (lv' := [(1, .int 0), (0, .ref (h 0))]) hx hb dX8_powersAtEnd_1 rfl hl (by decide) rfl (fun ls hl => ?_)
  refine lv_iconst (v := 1) hx hb dX8_powersAtEnd_2 (by decide) ?_
  refine lv_istore_n (lv' := [(2, .int 1), (1, .int 0), (0, .ref (h 0))]) hx hb dX8_powersAtEnd_3 rfl hl (by decide) rfl (fun ls hl => ?_)
  obtain ⟨n_1, hv⟩ := hv
  exact wX8_powersAtEnd_4 l h post  t_letters t_sums t_lowPairs t_highPairs t_size t_kind t_exponent C0 n_1 0 1 hv _ _ _ hP hD hS (lv_sub hl [2, 1, 0] rfl)
theorem kX8_powersAtEnd (l : Launch) (dC : Nat → ClassId) (dI : Nat → Nat → Nat) (cy : Nat → ClassId) (h : Nat → Nat) (t_letters : Nat → Int32) (t_sums : Nat → Int64) (t_lowPairs : Nat → Int64) (t_highPairs : Nat → Int64) (t_size : Int32) (t_kind : Int32) (t_exponent : Int32)  (post : Int32 → Prop) (hv : VX8_powersAtEnd post t_letters t_sums t_lowPairs t_highPairs t_size t_kind t_exponent ) : CtI l yX8_powersAtEnd wsX8_powersAtEnd rX8_powersAtEnd dC dI cy [.ref (h 0)] (pX8_powersAtEnd cy h t_letters t_sums t_lowPairs t_highPairs t_size t_kind t_exponent) (fun (_ : Unit) => pX8_powersAtEnd cy h t_letters t_sums t_lowPairs t_highPairs t_size t_kind t_exponent) (fun (r : Int32) (_ : Unit) => post r) :=
  ct_ofI (by decide) rfl (Nat.le_of_ble_eq_true rfl) (fun p e s m below meth c A ls C0 hP hD hS hl => wX8_powersAtEnd_0 l h post t_letters t_sums t_lowPairs t_highPairs t_size t_kind t_exponent C0  hv _ _ _ hP hD hS hl)
theorem mX8_hasEnd_1 : (Cond.fieldLink RX8 31 "AbelianPowers$Trail" "size" "I") ∈ wsX8_hasEnd := List.mem_of_getElem? (i := 1) rfl
theorem mX8_hasEnd_2 : (Cond.fieldLink RX8 9 "AbelianPowers$Trail" "letters" "[I") ∈ wsX8_hasEnd := List.mem_of_getElem? (i := 2) rfl
theorem nX8_hasEnd_X8 : ∀ w ∈ wsX80, w ∈ wsX8_hasEnd := fun _ h => List.mem_cons_of_mem _ (List.mem_append_right _ h)
theorem zX8_hasEnd : yX8_hasEnd.cls = RX8 ∧ yX8_hasEnd.cls ≠ "java/lang/invoke/MethodHandle" ∧ yX8_hasEnd.cls ≠ "java/lang/invoke/VarHandle" ∧ (parseMethodDescriptor yX8_hasEnd.desc).map (fun d => d.parameters.length) = some 2 := by decide +kernel
abbrev rX8_hasEnd : Room := { frames := 0, cells := 0, slots := 0, locals := 0 }
abbrev pX8_hasEnd (cy : Nat → ClassId) (h : Nat → Nat) (t_letters : Nat → Int32) (t_size : Int32) (t_kind : Int32) (t_exponent : Int32) : va_W := [(h 0, .inr (8, [.ref (h 1), .ref (h 2), .ref (h 3), .ref (h 4), .ref (h 5), .ref (h 6), .int t_size, .int t_kind, .int t_exponent])), (h 1, .inl (cy 0, 41, .inl t_letters))]
def VX8_hasEnd (post : Int32 → Prop)  (t_letters : Nat → Int32) (t_size : Int32) (p1 : Int32) (p2 : Int32)  : Prop := (¬ (p1 = (-1)) → ((t_size ≤ p2) → post (0 : Int32)) ∧ (¬ (t_size ≤ p2) → vp_in p2 41 ∧ ((¬ ((t_letters p2.toNatClampNeg) = p1) → post (0 : Int32)) ∧ (((t_letters p2.toNatClampNeg) = p1) → post (1 : Int32))))) ∧ ((p1 = (-1)) → ((t_size < p2) → post (0 : Int32)) ∧ (¬ (t_size < p2) → post (1 : Int32)))
set_option maxHeartbeats 4000000 in
set_option maxRecDepth 100000 in
theorem wX8_hasEnd_0 {p : Program} (l : Launch) {e : Env} {s : State} {m : MethodId} {args : Array Value} {below : List Frame} {meth : Method} {c : Code} {dC : Nat → ClassId} {dI : Nat → Nat → Nat} {cy : Nat → ClassId} {A : Nat → Prop} (h : Nat → Nat) (post : Int32 → Prop)   (t_letters : Nat → Int32) (t_size : Int32) (t_kind : Int32) (t_exponent : Int32) (p1 : Int32) (p2 : Int32) (C0 : cx p s m args meth c cX8_hasEnd 3 (some .boolean) wsX8_hasEnd RX8 dC dI cy A)  : VX8_hasEnd post t_letters t_size p1 p2  → ∀ (H : Heap) (locs : List Loc) (ls : Array Slot), va_P (dC, dI) vwCl (pX8_hasEnd cy h t_letters t_size t_kind t_exponent) H → va_D A (pX8_hasEnd cy h t_letters t_size t_kind t_exponent) → va_S A s.heap H locs → lv_has ls 3 [(0, .ref (h 0)), (1, .int p1), (2, .int p2)] → W p l e rX8_hasEnd s m args below meth c H locs 0 0 (MQ below (va_Qi (fun (r : Int32) (_ : Unit) => post r) (fun (_ : Unit) (t : State) => va_P (dC, dI) vwCl (pX8_hasEnd cy h t_letters t_size t_kind t_exponent) t.heap) A) args s 0 0 A) (F0 m 0 ls []) := by
  have C1 := C0
  obtain ⟨hx, hb, hr, hml, hown, hts, hlocks, hK, hA⟩ := C1
  intro  hv H locs ls hP hD hS hl
  refine lv_iload_n hx hb dX8_hasEnd_0 rfl (lv_at hl 1 rfl) ?_
  refine lv_iconst (v := (-1)) hx hb dX8_hasEnd_1 (by decide) ?_
  refine lv_icmp_ne (tgt := 21) hx hb dX8_hasEnd_2 (by decide) (fun c_5 => ?_) (fun c_5 => ?_)
  · have hv := hv.1 c_5
    refine lv_iload_n hx hb dX8_hasEnd_21 rfl (lv_at hl 2 rfl) ?_
    refine lv_aload_n hx hb dX8_hasEnd_22 rfl (lv_at hl 0 rfl) ?_
    refine va_get (D := (dC, dI)) (ci := 8) (v := .int t_size) (C := RX8) (T := TX8) (N := 9) hx hb hts nX8_hasEnd_X8 hown hK hP 0 rfl rfl 6 (by decide) (hts _ mX8_hasEnd_1) (fun _ h9 => h9) rfl dX8_hasEnd_23 ?_
    refine lv_icmp_ge (tgt := 43) hx hb dX8_hasEnd_26 (by decide) (fun c_3 => ?_) (fun c_3 => ?_)
    · have hv := hv.1 c_3
      refine lv_iconst (v := 0) hx hb dX8_hasEnd_43 (by decide) ?_
      exact W.zret (v := 0) hx hb hr rfl (fun t ht hW => ⟨⟨0, (), rfl, hv, va_Ph ht hP⟩, hS.F ht⟩) hS.2.2 dX8_hasEnd_44
    · have hv := hv.2 c_3
      refine lv_aload_n hx hb dX8_hasEnd_29 rfl (lv_at hl 0 rfl) ?_
      refine va_get (D := (dC, dI)) (ci := 8) (v := .ref (h 1)) (C := RX8) (T := TX8) (N := 9) hx hb hts nX8_hasEnd_X8 hown hK hP 0 rfl rfl 0 (by decide) (hts _ mX8_hasEnd_2) (fun _ h9 => h9) rfl dX8_hasEnd_30 ?_
      refine lv_iload_n hx hb dX8_hasEnd_33 rfl (lv_at hl 2 rfl) ?_
      have h_1 := hv.1
      have hv := hv.2
      refine va_iald hx hb hK hP 1 0 rfl rfl h_1 dX8_hasEnd_34 ?_
      refine lv_iload_n hx hb dX8_hasEnd_35 rfl (lv_at hl 1 rfl) ?_
      refine lv_icmp_ne (tgt := 43) hx hb dX8_hasEnd_36 (by decide) (fun c_2 => ?_) (fun c_2 => ?_)
      · have hv := hv.1 c_2
        refine lv_iconst (v := 0) hx hb dX8_hasEnd_43 (by decide) ?_
        exact W.zret (v := 0) hx hb hr rfl (fun t ht hW => ⟨⟨0, (), rfl, hv, va_Ph ht hP⟩, hS.F ht⟩) hS.2.2 dX8_hasEnd_44
      · have hv := hv.2 c_2
        refine lv_iconst (v := 1) hx hb dX8_hasEnd_39 (by decide) ?_
        refine lv_goto (tgt := 44) hx hb dX8_hasEnd_40 (by decide) ?_
        exact W.zret (v := 1) hx hb hr rfl (fun t ht hW => ⟨⟨1, (), rfl, hv, va_Ph ht hP⟩, hS.F ht⟩) hS.2.2 dX8_hasEnd_44
  · have hv := hv.2 c_5
    refine lv_iload_n hx hb dX8_hasEnd_5 rfl (lv_at hl 2 rfl) ?_
    refine lv_aload_n hx hb dX8_hasEnd_6 rfl (lv_at hl 0 rfl) ?_
    refine va_get (D := (dC, dI)) (ci := 8) (v := .int t_size) (C := RX8) (T := TX8) (N := 9) hx hb hts nX8_hasEnd_X8 hown hK hP 0 rfl rfl 6 (by decide) (hts _ mX8_hasEnd_1) (fun _ h9 => h9) rfl dX8_hasEnd_7 ?_
    refine lv_icmp_gt (tgt := 17) hx hb dX8_hasEnd_10 (by decide) (fun c_4 => ?_) (fun c_4 => ?_)
    · have hv := hv.1 c_4
      refine lv_iconst (v := 0) hx hb dX8_hasEnd_17 (by decide) ?_
      refine lv_goto (tgt := 44) hx hb dX8_hasEnd_18 (by decide) ?_
      exact W.zret (v := 0) hx hb hr rfl (fun t ht hW => ⟨⟨0, (), rfl, hv, va_Ph ht hP⟩, hS.F ht⟩) hS.2.2 dX8_hasEnd_44
    · have hv := hv.2 c_4
      refine lv_iconst (v := 1) hx hb dX8_hasEnd_13 (by decide) ?_
      refine lv_goto (tgt := 44) hx hb dX8_hasEnd_14 (by decide) ?_
      exact W.zret (v := 1) hx hb hr rfl (fun t ht hW => ⟨⟨1, (), rfl, hv, va_Ph ht hP⟩, hS.F ht⟩) hS.2.2 dX8_hasEnd_44
theorem kX8_hasEnd (l : Launch) (dC : Nat → ClassId) (dI : Nat → Nat → Nat) (cy : Nat → ClassId) (h : Nat → Nat) (t_letters : Nat → Int32) (t_size : Int32) (t_kind : Int32) (t_exponent : Int32) (p1 : Int32) (p2 : Int32) (post : Int32 → Prop) (hv : VX8_hasEnd post t_letters t_size p1 p2 ) : CtI l yX8_hasEnd wsX8_hasEnd rX8_hasEnd dC dI cy [.ref (h 0), .int p1, .int p2] (pX8_hasEnd cy h t_letters t_size t_kind t_exponent) (fun (_ : Unit) => pX8_hasEnd cy h t_letters t_size t_kind t_exponent) (fun (r : Int32) (_ : Unit) => post r) :=
  ct_ofI (by decide) rfl (Nat.le_of_ble_eq_true rfl) (fun p e s m below meth c A ls C0 hP hD hS hl => wX8_hasEnd_0 l h post t_letters t_size t_kind t_exponent p1 p2 C0  hv _ _ _ hP hD hS hl)
theorem mX8_sumOf_1 : (Cond.fieldLink RX8 106 "AbelianPowers$Template" "numbers" "[I") ∈ wsX8_sumOf := List.mem_of_getElem? (i := 1) rfl
theorem mX8_sumOf_2 : (Cond.fieldLink RX8 28 "AbelianPowers$Trail" "weights" "[J") ∈ wsX8_sumOf := List.mem_of_getElem? (i := 2) rfl
theorem nX8_sumOf_X7 : ∀ w ∈ wsX70, w ∈ wsX8_sumOf := fun _ h => List.mem_cons_of_mem _ (List.mem_append_left _ (List.mem_append_right _ h))
theorem nX8_sumOf_X8 : ∀ w ∈ wsX80, w ∈ wsX8_sumOf := fun _ h => List.mem_cons_of_mem _ (List.mem_append_right _ h)
theorem zX8_sumOf : yX8_sumOf.cls = RX8 ∧ yX8_sumOf.cls ≠ "java/lang/invoke/MethodHandle" ∧ yX8_sumOf.cls ≠ "java/lang/invoke/VarHandle" ∧ (parseMethodDescriptor yX8_sumOf.desc).map (fun d => d.parameters.length) = some 1 := by decide +kernel
abbrev rX8_sumOf : Room := { frames := 0, cells := 0, slots := 0, locals := 0 }
abbrev pX8_sumOf (cy : Nat → ClassId) (h : Nat → Nat) (t_weights : Nat → Int64) (t_size : Int32) (t_kind : Int32) (t_exponent : Int32) (a1_numbers : Nat → Int32) : va_W := [(h 0, .inr (8, [.ref (h 4), .ref (h 5), .ref (h 6), .ref (h 7), .ref (h 8), .ref (h 1), .int t_size, .int t_kind, .int t_exponent])), (h 1, .inl (cy 1, 4, .inr (.inl t_weights))), (h 2, .inr (7, [.ref (h 9), .ref (h 3)])), (h 3, .inl (cy 0, 4, .inl a1_numbers))]
def VX8_sumOf_5 (post : Int64 → Prop)  (t_weights : Nat → Int64) (a1_numbers : Nat → Int32) : Nat → Int64 → Int32 → Prop
  | 0, _, _ => False
  | n + 1, x2, x4 => ((4 ≤ x4) → post x2) ∧ (¬ (4 ≤ x4) → vp_in x4 4 ∧ (∀ y_2 : Int32, y_2 = (a1_numbers x4.toNatClampNeg) → vp_in x4 4 ∧ (∀ y_5 : Int64, y_5 = (y_2.toInt64 * (t_weights x4.toNatClampNeg)) → VX8_sumOf_5 post t_weights a1_numbers n (x2 + y_5) (x4 + 1))))
def VX8_sumOf (post : Int64 → Prop)  (t_weights : Nat → Int64) (a1_numbers : Nat → Int32)  : Prop := ∃ n5 : Nat, VX8_sumOf_5 post t_weights a1_numbers n5 0 0
set_option maxHeartbeats 4000000 in
set_option maxRecDepth 100000 in
theorem wX8_sumOf_5 {p : Program} (l : Launch) {e : Env} {s : State} {m : MethodId} {args : Array Value} {below : List Frame} {meth : Method} {c : Code} {dC : Nat → ClassId} {dI : Nat → Nat → Nat} {cy : Nat → ClassId} {A : Nat → Prop} (h : Nat → Nat) (post : Int64 → Prop)   (t_weights : Nat → Int64) (t_size : Int32) (t_kind : Int32) (t_exponent : Int32) (a1_numbers : Nat → Int32)  (C0 : cx p s m args meth c cX8_sumOf 5 (some .long) wsX8_sumOf RX8 dC dI cy A)  : ∀ (n : Nat) (x2 : Int64) (x4 : Int32), VX8_sumOf_5 post t_weights a1_numbers n x2 x4 → ∀ (H : Heap) (locs : List Loc) (ls : Array Slot), va_P (dC, dI) vwCl (pX8_sumOf cy h t_weights t_size t_kind t_exponent a1_numbers) H → va_D A (pX8_sumOf cy h t_weights t_size t_kind t_exponent a1_numbers) → va_S A s.heap H locs → lv_has ls 5 [(0, .ref (h 0)), (1, .ref (h 2)), (2, .long x2), (4, .int x4)] → W p l e rX8_sumOf s m args below meth c H locs 0 0 (MQ below (va_Ql (fun (r : Int64) (_ : Unit) => post r) (fun (_ : Unit) (t : State) => va_P (dC, dI) vwCl (pX8_sumOf cy h t_weights t_size t_kind t_exponent a1_numbers) t.heap) A) args s 0 0 A) (F0 m 5 ls []) := by
  have C1 := C0
  obtain ⟨hx, hb, hr, hml, hown, hts, hlocks, hK, hA⟩ := C1
  intro n
  induction n with
  | zero => intro x2 x4 hv; exact hv.elim
  | succ n ih =>
    intro x2 x4 hv H locs ls hP hD hS hl
    refine lv_iload hx hb dX8_sumOf_5 (lv_at hl 3 rfl) ?_
    refine lv_iconst (v := 4) hx hb dX8_sumOf_7 (by decide) ?_
    refine lv_icmp_ge (tgt := 36) hx hb dX8_sumOf_8 (by decide) (fun c_6 => ?_) (fun c_6 => ?_)
    · have hv := hv.1 c_6
      refine lv_lload_n hx hb dX8_sumOf_36 rfl (lv_at hl 2 rfl) ?_
      exact W.lret (v := x2) hx hb hr (fun t ht hW => ⟨⟨x2, (), rfl, hv, va_Ph ht hP⟩, hS.F ht⟩) hS.2.2 dX8_sumOf_37
    · have hv := hv.2 c_6
      refine lv_lload_n hx hb dX8_sumOf_11 rfl (lv_at hl 2 rfl) ?_
      refine lv_aload_n hx hb dX8_sumOf_12 rfl (lv_at hl 1 rfl) ?_
      refine va_get (D := (dC, dI)) (ci := 7) (v := .ref (h 3)) (C := RX7) (T := TX7) (N := 2) hx hb hts nX8_sumOf_X7 hown hK hP 2 rfl rfl 1 (by decide) (hts _ mX8_sumOf_1) (fun _ h9 => h9) rfl dX8_sumOf_13 ?_
      refine lv_iload hx hb dX8_sumOf_16 (lv_at hl 3 rfl) ?_
      have h_3 := hv.1
      have hv := hv.2
      refine va_iald hx hb hK hP 3 0 rfl rfl h_3 dX8_sumOf_18 ?_
      refine lv_topi (fun y_2 ey_2 => ?_)
      have hv := hv y_2 ey_2
      refine lv_i2l (v := y_2.toInt64) hx hb dX8_sumOf_19 rfl ?_
      refine lv_aload_n hx hb dX8_sumOf_20 rfl (lv_at hl 0 rfl) ?_
      refine va_get (D := (dC, dI)) (ci := 8) (v := .ref (h 1)) (C := RX8) (T := TX8) (N := 9) hx hb hts nX8_sumOf_X8 hown hK hP 0 rfl rfl 5 (by decide) (hts _ mX8_sumOf_2) (fun _ h9 => h9) rfl dX8_sumOf_21 ?_
      refine lv_iload hx hb dX8_sumOf_24 (lv_at hl 3 rfl) ?_
      have h_4 := hv.1
      have hv := hv.2
      refine va_lald hx hb hK hP 1 1 rfl rfl h_4 dX8_sumOf_26 ?_
      refine lv_lmul hx hb dX8_sumOf_27 ?_
      refine lv_topl (fun y_5 ey_5 => ?_)
      have hv := hv y_5 ey_5
      refine lv_ladd hx hb dX8_sumOf_28 ?_
      refine lv_lstore_n (lv' := [(2, .long ((x2 + y_5))), (0, .ref (h 0)), (1, .ref (h 2)), (4, .int x4)]) hx hb dX8_sumOf_29 rfl hl (by decide) rfl (fun ls hl => ?_)
      refine lv_iinc (v := (x4 + 1)) (lv' := [(4, .int ((x4 + 1))), (2, .long ((x2 + y_5))), (0, .ref (h 0)), (1, .ref (h 2))]) hx hb dX8_sumOf_30 hl (k := 3) rfl rfl (by decide) rfl (fun ls hl => ?_)
      refine lv_goto (tgt := 5) hx hb dX8_sumOf_33 (by decide) ?_
      exact ih (x2 + y_5) (x4 + 1) hv _ _ _ hP hD hS (lv_sub hl [2, 3, 1, 0] rfl)
set_option maxHeartbeats 4000000 in
set_option maxRecDepth 100000 in
theorem wX8_sumOf_0 {p : Program} (l : Launch) {e : Env} {s : State} {m : MethodId} {args : Array Value} {below : List Frame} {meth : Method} {c : Code} {dC : Nat → ClassId} {dI : Nat → Nat → Nat} {cy : Nat → ClassId} {A : Nat → Prop} (h : Nat → Nat) (post : Int64 → Prop)   (t_weights : Nat → Int64) (t_size : Int32) (t_kind : Int32) (t_exponent : Int32) (a1_numbers : Nat → Int32)  (C0 : cx p s m args meth c cX8_sumOf 5 (some .long) wsX8_sumOf RX8 dC dI cy A)  : VX8_sumOf post t_weights a1_numbers  → ∀ (H : Heap) (locs : List Loc) (ls : Array Slot), va_P (dC, dI) vwCl (pX8_sumOf cy h t_weights t_size t_kind t_exponent a1_numbers) H → va_D A (pX8_sumOf cy h t_weights t_size t_kind t_exponent a1_numbers) → va_S A s.heap H locs → lv_has ls 5 [(0, .ref (h 0)), (1, .ref (h 2))] → W p l e rX8_sumOf s m args below meth c H locs 0 0 (MQ below (va_Ql (fun (r : Int64) (_ : Unit) => post r) (fun (_ : Unit) (t : State) => va_P (dC, dI) vwCl (pX8_sumOf cy h t_weights t_size t_kind t_exponent a1_numbers) t.heap) A) args s 0 0 A) (F0 m 0 ls []) := by
  have C1 := C0
  obtain ⟨hx, hb, hr, hml, hown, hts, hlocks, hK, hA⟩ := C1
  intro  hv H locs ls hP hD hS hl
  refine lv_lconst (v := 0) hx hb dX8_sumOf_0 (by decide) ?_
  refine lv_lstore_n (lv' := [(2, .long 0), (0, .ref (h 0)), (1, .ref (h 2))]) hx hb dX8_sumOf_1 rfl hl (by decide) rfl (fun ls hl => ?_)
  refine lv_iconst (v := 0) hx hb dX8_sumOf_2 (by decide) ?_
  refine lv_istore (lv' := [(4, .int 0), (2, .long 0), (0, .ref (h 0)), (1, .ref (h 2))]) hx hb dX8_sumOf_3 hl (by decide) rfl (fun ls hl => ?_)
  obtain ⟨n_1, hv⟩ := hv
  exact wX8_sumOf_5 l h post  t_weights t_size t_kind t_exponent a1_numbers C0 n_1 0 0 hv _ _ _ hP hD hS (lv_sub hl [2, 3, 1, 0] rfl)
theorem kX8_sumOf (l : Launch) (dC : Nat → ClassId) (dI : Nat → Nat → Nat) (cy : Nat → ClassId) (h : Nat → Nat) (t_weights : Nat → Int64) (t_size : Int32) (t_kind : Int32) (t_exponent : Int32) (a1_numbers : Nat → Int32)  (post : Int64 → Prop) (hv : VX8_sumOf post t_weights a1_numbers ) : CtL l yX8_sumOf wsX8_sumOf rX8_sumOf dC dI cy [.ref (h 0), .ref (h 2)] (pX8_sumOf cy h t_weights t_size t_kind t_exponent a1_numbers) (fun (_ : Unit) => pX8_sumOf cy h t_weights t_size t_kind t_exponent a1_numbers) (fun (r : Int64) (_ : Unit) => post r) :=
  ct_ofL (by decide) rfl (Nat.le_of_ble_eq_true rfl) (fun p e s m below meth c A ls C0 hP hD hS hl => wX8_sumOf_0 l h post t_weights t_size t_kind t_exponent a1_numbers C0  hv _ _ _ hP hD hS hl)
theorem mX8_matchAt_1 : (Cond.fieldLink RX8 81 "AbelianPowers$Template" "ends" "[I") ∈ wsX8_matchAt := List.mem_of_getElem? (i := 1) rfl
theorem mX8_matchAt_2 : (Cond.methodLink RX8 47 Lib.Math.max.name) ∈ wsX8_matchAt := List.mem_of_getElem? (i := 2) rfl
theorem mX8_matchAt_3 : (Cond.static Lib.Math.max.name) ∈ wsX8_matchAt := List.mem_of_getElem? (i := 3) rfl
theorem mX8_matchAt_4 : (Cond.initialized "java/lang/Math") ∈ wsX8_matchAt := List.mem_of_getElem? (i := 4) rfl
theorem mX8_matchAt_5 : (Cond.code Lib.Math.max.name Lib.Math.max.code 2 (some .int)) ∈ wsX8_matchAt := List.mem_of_getElem? (i := 5) rfl
theorem mX8_matchAt_6 : (Cond.fieldLink RX8 31 "AbelianPowers$Trail" "size" "I") ∈ wsX8_matchAt := List.mem_of_getElem? (i := 6) rfl
theorem mX8_matchAt_7 : (Cond.fieldLink RX8 18 "AbelianPowers$Trail" "sums" "[J") ∈ wsX8_matchAt := List.mem_of_getElem? (i := 7) rfl
theorem nX8_matchAt_X7 : ∀ w ∈ wsX70, w ∈ wsX8_matchAt := fun _ h => List.mem_cons_of_mem _ (List.mem_append_left _ (List.mem_append_right _ h))
theorem nX8_matchAt_X8 : ∀ w ∈ wsX80, w ∈ wsX8_matchAt := fun _ h => List.mem_cons_of_mem _ (List.mem_append_right _ h)
theorem zX8_matchAt : yX8_matchAt.cls = RX8 ∧ yX8_matchAt.cls ≠ "java/lang/invoke/MethodHandle" ∧ yX8_matchAt.cls ≠ "java/lang/invoke/VarHandle" ∧ (parseMethodDescriptor yX8_matchAt.desc).map (fun d => d.parameters.length) = some 2 := by decide +kernel
abbrev rX8_matchAt : Room := { frames := 1, cells := 0, slots := 0, locals := 24 }
abbrev pX8_matchAt (cy : Nat → ClassId) (h : Nat → Nat) (t_letters : Nat → Int32) (t_sums : Nat → Int64) (t_weights : Nat → Int64) (t_size : Int32) (t_kind : Int32) (t_exponent : Int32) (a1_ends : Nat → Int32) (a1_numbers : Nat → Int32) : va_W := [(h 0, .inr (8, [.ref (h 1), .ref (h 7), .ref (h 2), .ref (h 8), .ref (h 9), .ref (h 3), .int t_size, .int t_kind, .int t_exponent])), (h 1, .inl (cy 0, 41, .inl t_letters)), (h 2, .inl (cy 1, 42, .inr (.inl t_sums))), (h 3, .inl (cy 1, 4, .inr (.inl t_weights))), (h 4, .inr (7, [.ref (h 5), .ref (h 6)])), (h 5, .inl (cy 0, 3, .inl a1_ends)), (h 6, .inl (cy 0, 4, .inl a1_numbers))]
def VX8_matchAt_153 (post : Int32 → Prop)  (t_letters : Nat → Int32) (t_sums : Nat → Int64) (t_weights : Nat → Int64) (t_size : Int32) (a1_ends : Nat → Int32) (a1_numbers : Nat → Int32) (p2 : Int32) (x4 : Int32) (x5 : Int32) : Prop := ∀ y_41 : Int32, y_41 = (((10000 : Int32) * p2) + ((100 : Int32) * x5)) → post ((y_41 + x5) + x4)
def VX8_matchAt_27 (post : Int32 → Prop)  (t_letters : Nat → Int32) (t_sums : Nat → Int64) (t_weights : Nat → Int64) (t_size : Int32) (a1_ends : Nat → Int32) (a1_numbers : Nat → Int32) (p2 : Int32) : Nat → Int32 → Int32 → Int32 → Prop
  | 0, _, _, _ => False
  | n + 1, x3, x4, x5 => ((t_size < (x3 + x5)) → post (-2 : Int32)) ∧ (¬ (t_size < (x3 + x5)) → vp_in (1 : Int32) 3 ∧ (∀ y_9 : Int32, y_9 = (a1_ends (1 : Int32).toNatClampNeg) → VX7_width (fun r_11 => ∀ y_12 : Int32, y_12 = ((((x3 + x5) + r_11) + x5) + x4) → vp_in (1 : Int32) 3 ∧ (∀ y_13 : Int32, y_13 = (a1_ends (1 : Int32).toNatClampNeg) → VX8_hasEnd (fun r_15 => ((r_15 = 0) → VX8_matchAt_27 post t_letters t_sums t_weights t_size a1_ends a1_numbers p2 n x3 x4 (x5 + 1)) ∧ (¬ (r_15 = 0) → vp_in (2 : Int32) 3 ∧ (∀ y_16 : Int32, y_16 = (a1_ends (2 : Int32).toNatClampNeg) → VX8_hasEnd (fun r_18 => ((r_18 = 0) → VX8_matchAt_27 post t_letters t_sums t_weights t_size a1_ends a1_numbers p2 n x3 x4 (x5 + 1)) ∧ (¬ (r_18 = 0) → vp_in (2 : Int32) 3 ∧ (∀ y_19 : Int32, y_19 = (a1_ends (2 : Int32).toNatClampNeg) → VX7_width (fun r_21 => (((y_12 + r_21) ≤ p2) → VX8_matchAt_27 post t_letters t_sums t_weights t_size a1_ends a1_numbers p2 n x3 x4 (x5 + 1)) ∧ (¬ ((y_12 + r_21) ≤ p2) → vp_in y_12 42 ∧ (vp_in ((x3 + x5) + r_11) 42 ∧ (∀ y_23 : Int64, y_23 = (t_sums ((x3 + x5) + r_11).toNatClampNeg) → ∀ y_25 : Int64, y_25 = ((t_sums y_12.toNatClampNeg) - y_23) → vp_in (x3 + x5) 42 ∧ (∀ y_26 : Int64, y_26 = (t_sums (x3 + x5).toNatClampNeg) → vp_in x3 42 ∧ (∀ y_29 : Int64, y_29 = (y_26 - (t_sums x3.toNatClampNeg)) → VX8_sumOf (fun r_30 => (¬ ((lg_cmp (y_25 - y_29) r_30) = 0) → VX8_matchAt_27 post t_letters t_sums t_weights t_size a1_ends a1_numbers p2 n x3 x4 (x5 + 1)) ∧ (((lg_cmp (y_25 - y_29) r_30) = 0) → VX8_matchAt_153 post t_letters t_sums t_weights t_size a1_ends a1_numbers p2 x4 x5)) t_weights a1_numbers)))))) y_19))) t_letters t_size y_16 y_12))) t_letters t_size y_13 (x3 + x5))) y_9))
def VX8_matchAt (post : Int32 → Prop)  (t_letters : Nat → Int32) (t_sums : Nat → Int64) (t_weights : Nat → Int64) (t_size : Int32) (a1_ends : Nat → Int32) (a1_numbers : Nat → Int32) (p2 : Int32)  : Prop := vp_in (0 : Int32) 3 ∧ (∀ y_1 : Int32, y_1 = (a1_ends (0 : Int32).toNatClampNeg) → VX7_width (fun r_3 => VX7_lengthDifference (fun r_4 => ∀ y_5 : Int32, y_5 = (if (0 : Int32) < (-r_4) then (-r_4) else 0) → ∃ n27 : Nat, VX8_matchAt_27 post t_letters t_sums t_weights t_size a1_ends a1_numbers p2 n27 (p2 + r_3) r_4 y_5) a1_numbers) y_1)
set_option maxHeartbeats 4000000 in
set_option maxRecDepth 100000 in
theorem wX8_matchAt_153 {p : Program} (l : Launch) {e : Env} {s : State} {m : MethodId} {args : Array Value} {below : List Frame} {meth : Method} {c : Code} {dC : Nat → ClassId} {dI : Nat → Nat → Nat} {cy : Nat → ClassId} {A : Nat → Prop} (h : Nat → Nat) (post : Int32 → Prop)   (t_letters : Nat → Int32) (t_sums : Nat → Int64) (t_weights : Nat → Int64) (t_size : Int32) (t_kind : Int32) (t_exponent : Int32) (a1_ends : Nat → Int32) (a1_numbers : Nat → Int32) (p2 : Int32) (C0 : cx p s m args meth c cX8_matchAt 9 (some .int) wsX8_matchAt RX8 dC dI cy A)  : ∀ (x4 : Int32) (x5 : Int32), VX8_matchAt_153 post t_letters t_sums t_weights t_size a1_ends a1_numbers p2 x4 x5 → ∀ (H : Heap) (locs : List Loc) (ls : Array Slot), va_P (dC, dI) vwCl (pX8_matchAt cy h t_letters t_sums t_weights t_size t_kind t_exponent a1_ends a1_numbers) H → va_D A (pX8_matchAt cy h t_letters t_sums t_weights t_size t_kind t_exponent a1_ends a1_numbers) → va_S A s.heap H locs → lv_has ls 9 [(2, .int p2), (4, .int x4), (5, .int x5)] → W p l e rX8_matchAt s m args below meth c H locs 0 0 (MQ below (va_Qi (fun (r : Int32) (_ : Unit) => post r) (fun (_ : Unit) (t : State) => va_P (dC, dI) vwCl (pX8_matchAt cy h t_letters t_sums t_weights t_size t_kind t_exponent a1_ends a1_numbers) t.heap) A) args s 0 0 A) (F0 m 153 ls []) := by
  have C1 := C0
  obtain ⟨hx, hb, hr, hml, hown, hts, hlocks, hK, hA⟩ := C1
  intro x4 x5 hv H locs ls hP hD hS hl
  refine lv_sipush (v := 10000) hx hb dX8_matchAt_153 (by decide) ?_
  refine lv_iload_n hx hb dX8_matchAt_156 rfl (lv_at hl 0 rfl) ?_
  refine lv_imul hx hb dX8_matchAt_157 ?_
  refine lv_bipush (v := 100) hx hb dX8_matchAt_158 (by decide) ?_
  refine lv_iload hx hb dX8_matchAt_160 (lv_at hl 2 rfl) ?_
  refine lv_imul hx hb dX8_matchAt_162 ?_
  refine lv_iadd hx hb dX8_matchAt_163 ?_
  refine lv_topi (fun y_41 ey_41 => ?_)
  have hv := hv y_41 ey_41
  refine lv_iload hx hb dX8_matchAt_164 (lv_at hl 2 rfl) ?_
  refine lv_iadd hx hb dX8_matchAt_166 ?_
  refine lv_iload hx hb dX8_matchAt_167 (lv_at hl 1 rfl) ?_
  refine lv_iadd hx hb dX8_matchAt_169 ?_
  exact W.iret (v := ((y_41 + x5) + x4)) hx hb hr (fun t ht hW => ⟨⟨((y_41 + x5) + x4), (), rfl, hv, va_Ph ht hP⟩, hS.F ht⟩) hS.2.2 dX8_matchAt_170
set_option maxHeartbeats 4000000 in
set_option maxRecDepth 100000 in
theorem wX8_matchAt_27 {p : Program} (l : Launch) {e : Env} {s : State} {m : MethodId} {args : Array Value} {below : List Frame} {meth : Method} {c : Code} {dC : Nat → ClassId} {dI : Nat → Nat → Nat} {cy : Nat → ClassId} {A : Nat → Prop} (h : Nat → Nat) (post : Int32 → Prop)   (t_letters : Nat → Int32) (t_sums : Nat → Int64) (t_weights : Nat → Int64) (t_size : Int32) (t_kind : Int32) (t_exponent : Int32) (a1_ends : Nat → Int32) (a1_numbers : Nat → Int32) (p2 : Int32) (C0 : cx p s m args meth c cX8_matchAt 9 (some .int) wsX8_matchAt RX8 dC dI cy A)  : ∀ (n : Nat) (x3 : Int32) (x4 : Int32) (x5 : Int32), VX8_matchAt_27 post t_letters t_sums t_weights t_size a1_ends a1_numbers p2 n x3 x4 x5 → ∀ (H : Heap) (locs : List Loc) (ls : Array Slot), va_P (dC, dI) vwCl (pX8_matchAt cy h t_letters t_sums t_weights t_size t_kind t_exponent a1_ends a1_numbers) H → va_D A (pX8_matchAt cy h t_letters t_sums t_weights t_size t_kind t_exponent a1_ends a1_numbers) → va_S A s.heap H locs → lv_has ls 9 [(0, .ref (h 0)), (1, .ref (h 4)), (2, .int p2), (3, .int x3), (4, .int x4), (5, .int x5)] → W p l e rX8_matchAt s m args below meth c H locs 0 0 (MQ below (va_Qi (fun (r : Int32) (_ : Unit) => post r) (fun (_ : Unit) (t : State) => va_P (dC, dI) vwCl (pX8_matchAt cy h t_letters t_sums t_weights t_size t_kind t_exponent a1_ends a1_numbers) t.heap) A) args s 0 0 A) (F0 m 27 ls []) := by
  have C1 := C0
  obtain ⟨hx, hb, hr, hml, hown, hts, hlocks, hK, hA⟩ := C1
  intro n
  induction n with
  | zero => intro x3 x4 x5 hv; exact hv.elim
  | succ n ih =>
    intro x3 x4 x5 hv H locs ls hP hD hS hl
    refine lv_iload_n hx hb dX8_matchAt_27 rfl (lv_at hl 3 rfl) ?_
    refine lv_iload hx hb dX8_matchAt_28 (lv_at hl 5 rfl) ?_
    refine lv_iadd hx hb dX8_matchAt_30 ?_
    refine lv_aload_n hx hb dX8_matchAt_31 rfl (lv_at hl 0 rfl) ?_
    refine va_get (D := (dC, dI)) (ci := 8) (v := .int t_size) (C := RX8) (T := TX8) (N := 9) hx hb hts nX8_matchAt_X8 hown hK hP 0 rfl rfl 6 (by decide) (hts _ mX8_matchAt_6) (fun _ h9 => h9) rfl dX8_matchAt_32 ?_
    refine lv_icmp_gt (tgt := 177) hx hb dX8_matchAt_35 (by decide) (fun c_40 => ?_) (fun c_40 => ?_)
    · have hv := hv.1 c_40
      refine lv_bipush (v := (-2)) hx hb dX8_matchAt_177 (by decide) ?_
      exact W.iret (v := (-2)) hx hb hr (fun t ht hW => ⟨⟨(-2), (), rfl, hv, va_Ph ht hP⟩, hS.F ht⟩) hS.2.2 dX8_matchAt_179
    · have hv := hv.2 c_40
      refine lv_iload_n hx hb dX8_matchAt_38 rfl (lv_at hl 3 rfl) ?_
      refine lv_iload hx hb dX8_matchAt_39 (lv_at hl 5 rfl) ?_
      refine lv_iadd hx hb dX8_matchAt_41 ?_
      refine lv_istore (lv' := [(6, .int ((x3 + x5))), (0, .ref (h 0)), (1, .ref (h 4)), (2, .int p2), (3, .int x3), (4, .int x4), (5, .int x5)]) hx hb dX8_matchAt_42 hl (by decide) rfl (fun ls hl => ?_)
      refine lv_iload hx hb dX8_matchAt_44 (lv_at hl 0 rfl) ?_
      refine lv_aload_n hx hb dX8_matchAt_46 rfl (lv_at hl 2 rfl) ?_
      refine va_get (D := (dC, dI)) (ci := 7) (v := .ref (h 5)) (C := RX7) (T := TX7) (N := 2) hx hb hts nX8_matchAt_X7 hown hK hP 4 rfl rfl 0 (by decide) (hts _ mX8_matchAt_1) (fun _ h9 => h9) rfl dX8_matchAt_47 ?_
      refine lv_iconst (v := 1) hx hb dX8_matchAt_50 (by decide) ?_
      have h_10 := hv.1
      have hv := hv.2
      refine va_iald hx hb hK hP 5 0 rfl rfl h_10 dX8_matchAt_51 ?_
      refine lv_topi (fun y_9 ey_9 => ?_)
      have hv := hv y_9 ey_9
      refine cb_SI (As := [.int y_9]) (rest := [.int ((x3 + x5))]) ⟨hx, hb, hml, hown, hts⟩ (kX7_width l dC dI cy (adl []) y_9 _ hv) (va_cwS 1 hts gX8_matchAt_X7_width rfl rfl rfl zX7_width ⟨Nat.le_of_ble_eq_true rfl, Nat.le_of_ble_eq_true rfl⟩) hK hP hD hS hA [] [none, none, none, none, none, none, none] rfl rfl rfl (fun _ => rfl) rfl hl.1 rfl (Nat.le_of_ble_eq_true rfl) dX8_matchAt_52 (fun r_11 w_39 H locs hv hP hD hS => ?_)
      have hP : va_P (dC, dI) vwCl (pX8_matchAt cy h t_letters t_sums t_weights t_size t_kind t_exponent a1_ends a1_numbers) H := hP
      have hD : va_D A (pX8_matchAt cy h t_letters t_sums t_weights t_size t_kind t_exponent a1_ends a1_numbers) := hD
      refine lv_iadd hx hb dX8_matchAt_55 ?_
      refine lv_istore (lv' := [(7, .int (((x3 + x5) + r_11))), (6, .int ((x3 + x5))), (0, .ref (h 0)), (1, .ref (h 4)), (2, .int p2), (3, .int x3), (4, .int x4), (5, .int x5)]) hx hb dX8_matchAt_56 hl (by decide) rfl (fun ls hl => ?_)
      refine lv_iload hx hb dX8_matchAt_58 (lv_at hl 0 rfl) ?_
      refine lv_iload hx hb dX8_matchAt_60 (lv_at hl 7 rfl) ?_
      refine lv_iadd hx hb dX8_matchAt_62 ?_
      refine lv_iload hx hb dX8_matchAt_63 (lv_at hl 6 rfl) ?_
      refine lv_iadd hx hb dX8_matchAt_65 ?_
      refine lv_topi (fun y_12 ey_12 => ?_)
      have hv := hv y_12 ey_12
      refine lv_istore (lv' := [(8, .int y_12), (7, .int (((x3 + x5) + r_11))), (6, .int ((x3 + x5))), (0, .ref (h 0)), (1, .ref (h 4)), (2, .int p2), (3, .int x3), (4, .int x4), (5, .int x5)]) hx hb dX8_matchAt_66 hl (by decide) rfl (fun ls hl => ?_)
      refine lv_aload_n hx hb dX8_matchAt_68 rfl (lv_at hl 3 rfl) ?_
      refine lv_aload_n hx hb dX8_matchAt_69 rfl (lv_at hl 4 rfl) ?_
      refine va_get (D := (dC, dI)) (ci := 7) (v := .ref (h 5)) (C := RX7) (T := TX7) (N := 2) hx hb hts nX8_matchAt_X7 hown hK hP 4 rfl rfl 0 (by decide) (hts _ mX8_matchAt_1) (fun _ h9 => h9) rfl dX8_matchAt_70 ?_
      refine lv_iconst (v := 1) hx hb dX8_matchAt_73 (by decide) ?_
      have h_14 := hv.1
      have hv := hv.2
      refine va_iald hx hb hK hP 5 0 rfl rfl h_14 dX8_matchAt_74 ?_
      refine lv_topi (fun y_13 ey_13 => ?_)
      have hv := hv y_13 ey_13
      refine lv_iload hx hb dX8_matchAt_75 (lv_at hl 2 rfl) ?_
      refine cb_VI (As := [.int y_13, .int ((x3 + x5))]) (rest := []) ⟨hx, hb, hml, hown, hts⟩ (kX8_hasEnd l dC dI cy (adl [h 0, h 1, h 7, h 2, h 8, h 9, h 3]) t_letters t_size t_kind t_exponent y_13 (x3 + x5) _ hv) (cwV 2 hts gX8_matchAt_X8_hasEnd rfl rfl rfl zX8_hasEnd ⟨Nat.le_of_ble_eq_true rfl, Nat.le_of_ble_eq_true rfl⟩) hK hP hD hS hA [0, 1] [some 0, some 1, none, none, none, none, none] rfl rfl rfl (ci := 8) rfl rfl (fun _ => rfl) rfl hl.1 rfl (Nat.le_of_ble_eq_true rfl) dX8_matchAt_77 (fun r_15 w_38 H locs hv hP hD hS => ?_)
      have hP : va_P (dC, dI) vwCl (pX8_matchAt cy h t_letters t_sums t_weights t_size t_kind t_exponent a1_ends a1_numbers) H := hP
      have hD : va_D A (pX8_matchAt cy h t_letters t_sums t_weights t_size t_kind t_exponent a1_ends a1_numbers) := hD
      refine lv_if_eq (tgt := 171) hx hb dX8_matchAt_80 (by decide) (fun c_37 => ?_) (fun c_37 => ?_)
      · have hv := hv.1 c_37
        refine lv_iinc (v := (x5 + 1)) (lv' := [(5, .int ((x5 + 1))), (8, .int y_12), (7, .int (((x3 + x5) + r_11))), (6, .int ((x3 + x5))), (0, .ref (h 0)), (1, .ref (h 4)), (2, .int p2), (3, .int x3), (4, .int x4)]) hx hb dX8_matchAt_171 hl (k := 8) rfl rfl (by decide) rfl (fun ls hl => ?_)
        refine lv_goto (tgt := 27) hx hb dX8_matchAt_174 (by decide) ?_
        exact ih x3 x4 (x5 + 1) hv _ _ _ hP hD hS (lv_sub hl [4, 5, 6, 7, 8, 0] rfl)
      · have hv := hv.2 c_37
        refine lv_aload_n hx hb dX8_matchAt_83 rfl (lv_at hl 3 rfl) ?_
        refine lv_aload_n hx hb dX8_matchAt_84 rfl (lv_at hl 4 rfl) ?_
        refine va_get (D := (dC, dI)) (ci := 7) (v := .ref (h 5)) (C := RX7) (T := TX7) (N := 2) hx hb hts nX8_matchAt_X7 hown hK hP 4 rfl rfl 0 (by decide) (hts _ mX8_matchAt_1) (fun _ h9 => h9) rfl dX8_matchAt_85 ?_
        refine lv_iconst (v := 2) hx hb dX8_matchAt_88 (by decide) ?_
        have h_17 := hv.1
        have hv := hv.2
        refine va_iald hx hb hK hP 5 0 rfl rfl h_17 dX8_matchAt_89 ?_
        refine lv_topi (fun y_16 ey_16 => ?_)
        have hv := hv y_16 ey_16
        refine lv_iload hx hb dX8_matchAt_90 (lv_at hl 0 rfl) ?_
        refine cb_VI (As := [.int y_16, .int y_12]) (rest := []) ⟨hx, hb, hml, hown, hts⟩ (kX8_hasEnd l dC dI cy (adl [h 0, h 1, h 7, h 2, h 8, h 9, h 3]) t_letters t_size t_kind t_exponent y_16 y_12 _ hv) (cwV 2 hts gX8_matchAt_X8_hasEnd rfl rfl rfl zX8_hasEnd ⟨Nat.le_of_ble_eq_true rfl, Nat.le_of_ble_eq_true rfl⟩) hK hP hD hS hA [0, 1] [some 0, some 1, none, none, none, none, none] rfl rfl rfl (ci := 8) rfl rfl (fun _ => rfl) rfl hl.1 rfl (Nat.le_of_ble_eq_true rfl) dX8_matchAt_92 (fun r_18 w_36 H locs hv hP hD hS => ?_)
        have hP : va_P (dC, dI) vwCl (pX8_matchAt cy h t_letters t_sums t_weights t_size t_kind t_exponent a1_ends a1_numbers) H := hP
        have hD : va_D A (pX8_matchAt cy h t_letters t_sums t_weights t_size t_kind t_exponent a1_ends a1_numbers) := hD
        refine lv_if_eq (tgt := 171) hx hb dX8_matchAt_95 (by decide) (fun c_35 => ?_) (fun c_35 => ?_)
        · have hv := hv.1 c_35
          refine lv_iinc (v := (x5 + 1)) (lv' := [(5, .int ((x5 + 1))), (8, .int y_12), (7, .int (((x3 + x5) + r_11))), (6, .int ((x3 + x5))), (0, .ref (h 0)), (1, .ref (h 4)), (2, .int p2), (3, .int x3), (4, .int x4)]) hx hb dX8_matchAt_171 hl (k := 8) rfl rfl (by decide) rfl (fun ls hl => ?_)
          refine lv_goto (tgt := 27) hx hb dX8_matchAt_174 (by decide) ?_
          exact ih x3 x4 (x5 + 1) hv _ _ _ hP hD hS (lv_sub hl [4, 5, 6, 7, 8, 0] rfl)
        · have hv := hv.2 c_35
          refine lv_iload hx hb dX8_matchAt_98 (lv_at hl 0 rfl) ?_
          refine lv_aload_n hx hb dX8_matchAt_100 rfl (lv_at hl 4 rfl) ?_
          refine va_get (D := (dC, dI)) (ci := 7) (v := .ref (h 5)) (C := RX7) (T := TX7) (N := 2) hx hb hts nX8_matchAt_X7 hown hK hP 4 rfl rfl 0 (by decide) (hts _ mX8_matchAt_1) (fun _ h9 => h9) rfl dX8_matchAt_101 ?_
          refine lv_iconst (v := 2) hx hb dX8_matchAt_104 (by decide) ?_
          have h_20 := hv.1
          have hv := hv.2
          refine va_iald hx hb hK hP 5 0 rfl rfl h_20 dX8_matchAt_105 ?_
          refine lv_topi (fun y_19 ey_19 => ?_)
          have hv := hv y_19 ey_19
          refine cb_SI (As := [.int y_19]) (rest := [.int y_12]) ⟨hx, hb, hml, hown, hts⟩ (kX7_width l dC dI cy (adl []) y_19 _ hv) (va_cwS 1 hts gX8_matchAt_X7_width rfl rfl rfl zX7_width ⟨Nat.le_of_ble_eq_true rfl, Nat.le_of_ble_eq_true rfl⟩) hK hP hD hS hA [] [none, none, none, none, none, none, none] rfl rfl rfl (fun _ => rfl) rfl hl.1 rfl (Nat.le_of_ble_eq_true rfl) dX8_matchAt_106 (fun r_21 w_34 H locs hv hP hD hS => ?_)
          have hP : va_P (dC, dI) vwCl (pX8_matchAt cy h t_letters t_sums t_weights t_size t_kind t_exponent a1_ends a1_numbers) H := hP
          have hD : va_D A (pX8_matchAt cy h t_letters t_sums t_weights t_size t_kind t_exponent a1_ends a1_numbers) := hD
          refine lv_iadd hx hb dX8_matchAt_109 ?_
          refine lv_iload_n hx hb dX8_matchAt_110 rfl (lv_at hl 5 rfl) ?_
          refine lv_icmp_le (tgt := 171) hx hb dX8_matchAt_111 (by decide) (fun c_33 => ?_) (fun c_33 => ?_)
          · have hv := hv.1 c_33
            refine lv_iinc (v := (x5 + 1)) (lv' := [(5, .int ((x5 + 1))), (8, .int y_12), (7, .int (((x3 + x5) + r_11))), (6, .int ((x3 + x5))), (0, .ref (h 0)), (1, .ref (h 4)), (2, .int p2), (3, .int x3), (4, .int x4)]) hx hb dX8_matchAt_171 hl (k := 8) rfl rfl (by decide) rfl (fun ls hl => ?_)
            refine lv_goto (tgt := 27) hx hb dX8_matchAt_174 (by decide) ?_
            exact ih x3 x4 (x5 + 1) hv _ _ _ hP hD hS (lv_sub hl [4, 5, 6, 7, 8, 0] rfl)
          · have hv := hv.2 c_33
            refine lv_aload_n hx hb dX8_matchAt_114 rfl (lv_at hl 3 rfl) ?_
            refine va_get (D := (dC, dI)) (ci := 8) (v := .ref (h 2)) (C := RX8) (T := TX8) (N := 9) hx hb hts nX8_matchAt_X8 hown hK hP 0 rfl rfl 2 (by decide) (hts _ mX8_matchAt_7) (fun _ h9 => h9) rfl dX8_matchAt_115 ?_
            refine lv_iload hx hb dX8_matchAt_118 (lv_at hl 0 rfl) ?_
            have h_22 := hv.1
            have hv := hv.2
            refine va_lald hx hb hK hP 2 1 rfl rfl h_22 dX8_matchAt_120 ?_
            refine lv_aload_n hx hb dX8_matchAt_121 rfl (lv_at hl 3 rfl) ?_
            refine va_get (D := (dC, dI)) (ci := 8) (v := .ref (h 2)) (C := RX8) (T := TX8) (N := 9) hx hb hts nX8_matchAt_X8 hown hK hP 0 rfl rfl 2 (by decide) (hts _ mX8_matchAt_7) (fun _ h9 => h9) rfl dX8_matchAt_122 ?_
            refine lv_iload hx hb dX8_matchAt_125 (lv_at hl 1 rfl) ?_
            have h_24 := hv.1
            have hv := hv.2
            refine va_lald hx hb hK hP 2 1 rfl rfl h_24 dX8_matchAt_127 ?_
            refine lv_topl (fun y_23 ey_23 => ?_)
            have hv := hv y_23 ey_23
            refine lv_lsub hx hb dX8_matchAt_128 ?_
            refine lv_topl (fun y_25 ey_25 => ?_)
            have hv := hv y_25 ey_25
            refine lv_aload_n hx hb dX8_matchAt_129 rfl (lv_at hl 3 rfl) ?_
            refine va_get (D := (dC, dI)) (ci := 8) (v := .ref (h 2)) (C := RX8) (T := TX8) (N := 9) hx hb hts nX8_matchAt_X8 hown hK hP 0 rfl rfl 2 (by decide) (hts _ mX8_matchAt_7) (fun _ h9 => h9) rfl dX8_matchAt_130 ?_
            refine lv_iload hx hb dX8_matchAt_133 (lv_at hl 2 rfl) ?_
            have h_27 := hv.1
            have hv := hv.2
            refine va_lald hx hb hK hP 2 1 rfl rfl h_27 dX8_matchAt_135 ?_
            refine lv_topl (fun y_26 ey_26 => ?_)
            have hv := hv y_26 ey_26
            refine lv_aload_n hx hb dX8_matchAt_136 rfl (lv_at hl 3 rfl) ?_
            refine va_get (D := (dC, dI)) (ci := 8) (v := .ref (h 2)) (C := RX8) (T := TX8) (N := 9) hx hb hts nX8_matchAt_X8 hown hK hP 0 rfl rfl 2 (by decide) (hts _ mX8_matchAt_7) (fun _ h9 => h9) rfl dX8_matchAt_137 ?_
            refine lv_iload_n hx hb dX8_matchAt_140 rfl (lv_at hl 6 rfl) ?_
            have h_28 := hv.1
            have hv := hv.2
            refine va_lald hx hb hK hP 2 1 rfl rfl h_28 dX8_matchAt_141 ?_
            refine lv_lsub hx hb dX8_matchAt_142 ?_
            refine lv_topl (fun y_29 ey_29 => ?_)
            have hv := hv y_29 ey_29
            refine lv_lsub hx hb dX8_matchAt_143 ?_
            refine lv_aload_n hx hb dX8_matchAt_144 rfl (lv_at hl 3 rfl) ?_
            refine lv_aload_n hx hb dX8_matchAt_145 rfl (lv_at hl 4 rfl) ?_
            refine cb_VL (As := [.ref (h 4)]) (rest := [.long ((y_25 - y_29))]) ⟨hx, hb, hml, hown, hts⟩ (kX8_sumOf l dC dI cy (adl [h 0, h 3, h 4, h 6, h 1, h 7, h 2, h 8, h 9, h 5]) t_weights t_size t_kind t_exponent a1_numbers _ hv) (cwV 1 hts gX8_matchAt_X8_sumOf rfl rfl rfl zX8_sumOf ⟨Nat.le_of_ble_eq_true rfl, Nat.le_of_ble_eq_true rfl⟩) hK hP hD hS hA [0, 3, 4, 6] [some 0, none, none, some 1, some 2, none, some 3] rfl rfl rfl (ci := 8) rfl rfl (fun _ => rfl) rfl hl.1 rfl (Nat.le_of_ble_eq_true rfl) dX8_matchAt_146 (fun r_30 w_32 H locs hv hP hD hS => ?_)
            have hP : va_P (dC, dI) vwCl (pX8_matchAt cy h t_letters t_sums t_weights t_size t_kind t_exponent a1_ends a1_numbers) H := hP
            have hD : va_D A (pX8_matchAt cy h t_letters t_sums t_weights t_size t_kind t_exponent a1_ends a1_numbers) := hD
            refine W.lcmp hx hb dX8_matchAt_149 ?_
            refine lv_if_ne (tgt := 171) hx hb dX8_matchAt_150 (by decide) (fun c_31 => ?_) (fun c_31 => ?_)
            · have hv := hv.1 c_31
              refine lv_iinc (v := (x5 + 1)) (lv' := [(5, .int ((x5 + 1))), (8, .int y_12), (7, .int (((x3 + x5) + r_11))), (6, .int ((x3 + x5))), (0, .ref (h 0)), (1, .ref (h 4)), (2, .int p2), (3, .int x3), (4, .int x4)]) hx hb dX8_matchAt_171 hl (k := 8) rfl rfl (by decide) rfl (fun ls hl => ?_)
              refine lv_goto (tgt := 27) hx hb dX8_matchAt_174 (by decide) ?_
              exact ih x3 x4 (x5 + 1) hv _ _ _ hP hD hS (lv_sub hl [4, 5, 6, 7, 8, 0] rfl)
            · have hv := hv.2 c_31
              exact wX8_matchAt_153 l h post  t_letters t_sums t_weights t_size t_kind t_exponent a1_ends a1_numbers p2 C0 x4 x5 hv _ _ _ hP hD hS (lv_sub hl [5, 7, 8] rfl)
set_option maxHeartbeats 4000000 in
set_option maxRecDepth 100000 in
theorem wX8_matchAt_0 {p : Program} (l : Launch) {e : Env} {s : State} {m : MethodId} {args : Array Value} {below : List Frame} {meth : Method} {c : Code} {dC : Nat → ClassId} {dI : Nat → Nat → Nat} {cy : Nat → ClassId} {A : Nat → Prop} (h : Nat → Nat) (post : Int32 → Prop)   (t_letters : Nat → Int32) (t_sums : Nat → Int64) (t_weights : Nat → Int64) (t_size : Int32) (t_kind : Int32) (t_exponent : Int32) (a1_ends : Nat → Int32) (a1_numbers : Nat → Int32) (p2 : Int32) (C0 : cx p s m args meth c cX8_matchAt 9 (some .int) wsX8_matchAt RX8 dC dI cy A)  : VX8_matchAt post t_letters t_sums t_weights t_size a1_ends a1_numbers p2  → ∀ (H : Heap) (locs : List Loc) (ls : Array Slot), va_P (dC, dI) vwCl (pX8_matchAt cy h t_letters t_sums t_weights t_size t_kind t_exponent a1_ends a1_numbers) H → va_D A (pX8_matchAt cy h t_letters t_sums t_weights t_size t_kind t_exponent a1_ends a1_numbers) → va_S A s.heap H locs → lv_has ls 9 [(0, .ref (h 0)), (1, .ref (h 4)), (2, .int p2)] → W p l e rX8_matchAt s m args below meth c H locs 0 0 (MQ below (va_Qi (fun (r : Int32) (_ : Unit) => post r) (fun (_ : Unit) (t : State) => va_P (dC, dI) vwCl (pX8_matchAt cy h t_letters t_sums t_weights t_size t_kind t_exponent a1_ends a1_numbers) t.heap) A) args s 0 0 A) (F0 m 0 ls []) := by
  have C1 := C0
  obtain ⟨hx, hb, hr, hml, hown, hts, hlocks, hK, hA⟩ := C1
  intro  hv H locs ls hP hD hS hl
  refine lv_iload_n hx hb dX8_matchAt_0 rfl (lv_at hl 2 rfl) ?_
  refine lv_aload_n hx hb dX8_matchAt_1 rfl (lv_at hl 1 rfl) ?_
  refine va_get (D := (dC, dI)) (ci := 7) (v := .ref (h 5)) (C := RX7) (T := TX7) (N := 2) hx hb hts nX8_matchAt_X7 hown hK hP 4 rfl rfl 0 (by decide) (hts _ mX8_matchAt_1) (fun _ h9 => h9) rfl dX8_matchAt_2 ?_
  refine lv_iconst (v := 0) hx hb dX8_matchAt_5 (by decide) ?_
  have h_2 := hv.1
  have hv := hv.2
  refine va_iald hx hb hK hP 5 0 rfl rfl h_2 dX8_matchAt_6 ?_
  refine lv_topi (fun y_1 ey_1 => ?_)
  have hv := hv y_1 ey_1
  refine cb_SI (As := [.int y_1]) (rest := [.int p2]) ⟨hx, hb, hml, hown, hts⟩ (kX7_width l dC dI cy (adl []) y_1 _ hv) (va_cwS 1 hts gX8_matchAt_X7_width rfl rfl rfl zX7_width ⟨Nat.le_of_ble_eq_true rfl, Nat.le_of_ble_eq_true rfl⟩) hK hP hD hS hA [] [none, none, none, none, none, none, none] rfl rfl rfl (fun _ => rfl) rfl hl.1 rfl (Nat.le_of_ble_eq_true rfl) dX8_matchAt_7 (fun r_3 w_8 H locs hv hP hD hS => ?_)
  have hP : va_P (dC, dI) vwCl (pX8_matchAt cy h t_letters t_sums t_weights t_size t_kind t_exponent a1_ends a1_numbers) H := hP
  have hD : va_D A (pX8_matchAt cy h t_letters t_sums t_weights t_size t_kind t_exponent a1_ends a1_numbers) := hD
  refine lv_iadd hx hb dX8_matchAt_10 ?_
  refine lv_istore_n (lv' := [(3, .int ((p2 + r_3))), (0, .ref (h 0)), (1, .ref (h 4)), (2, .int p2)]) hx hb dX8_matchAt_11 rfl hl (by decide) rfl (fun ls hl => ?_)
  refine lv_aload_n hx hb dX8_matchAt_12 rfl (lv_at hl 2 rfl) ?_
  refine cb_VI (As := []) (rest := []) ⟨hx, hb, hml, hown, hts⟩ (kX7_lengthDifference l dC dI cy (adl [h 4, h 6, h 5]) a1_numbers _ hv) (cwV 0 hts gX8_matchAt_X7_lengthDifference rfl rfl rfl zX7_lengthDifference ⟨Nat.le_of_ble_eq_true rfl, Nat.le_of_ble_eq_true rfl⟩) hK hP hD hS hA [4, 6] [none, none, none, none, some 0, none, some 1] rfl rfl rfl (ci := 7) rfl rfl (fun _ => rfl) rfl hl.1 rfl (Nat.le_of_ble_eq_true rfl) dX8_matchAt_13 (fun r_4 w_7 H locs hv hP hD hS => ?_)
  have hP : va_P (dC, dI) vwCl (pX8_matchAt cy h t_letters t_sums t_weights t_size t_kind t_exponent a1_ends a1_numbers) H := hP
  have hD : va_D A (pX8_matchAt cy h t_letters t_sums t_weights t_size t_kind t_exponent a1_ends a1_numbers) := hD
  refine lv_istore (lv' := [(4, .int r_4), (3, .int ((p2 + r_3))), (0, .ref (h 0)), (1, .ref (h 4)), (2, .int p2)]) hx hb dX8_matchAt_16 hl (by decide) rfl (fun ls hl => ?_)
  refine lv_iconst (v := 0) hx hb dX8_matchAt_18 (by decide) ?_
  refine lv_iload hx hb dX8_matchAt_19 (lv_at hl 0 rfl) ?_
  refine lv_ineg hx hb dX8_matchAt_21 ?_
  refine va_mmax hx hb (hml.trans hl.1.symm) hown (hts _ mX8_matchAt_2) (hts _ mX8_matchAt_3) (hts _ mX8_matchAt_4) (hts _ mX8_matchAt_5) (Nat.le_of_ble_eq_true rfl) (Nat.le_of_ble_eq_true rfl) (Nat.zero_le _) (Nat.zero_le _) dX8_matchAt_22 ?_
  refine lv_topi (fun y_5 ey_5 => ?_)
  have hv := hv y_5 ey_5
  refine lv_istore (lv' := [(5, .int y_5), (4, .int r_4), (3, .int ((p2 + r_3))), (0, .ref (h 0)), (1, .ref (h 4)), (2, .int p2)]) hx hb dX8_matchAt_25 hl (by decide) rfl (fun ls hl => ?_)
  obtain ⟨n_6, hv⟩ := hv
  exact wX8_matchAt_27 l h post  t_letters t_sums t_weights t_size t_kind t_exponent a1_ends a1_numbers p2 C0 n_6 (p2 + r_3) r_4 y_5 hv _ _ _ hP hD hS (lv_sub hl [3, 4, 5, 2, 1, 0] rfl)
theorem kX8_matchAt (l : Launch) (dC : Nat → ClassId) (dI : Nat → Nat → Nat) (cy : Nat → ClassId) (h : Nat → Nat) (t_letters : Nat → Int32) (t_sums : Nat → Int64) (t_weights : Nat → Int64) (t_size : Int32) (t_kind : Int32) (t_exponent : Int32) (a1_ends : Nat → Int32) (a1_numbers : Nat → Int32) (p2 : Int32) (post : Int32 → Prop) (hv : VX8_matchAt post t_letters t_sums t_weights t_size a1_ends a1_numbers p2 ) : CtI l yX8_matchAt wsX8_matchAt rX8_matchAt dC dI cy [.ref (h 0), .ref (h 4), .int p2] (pX8_matchAt cy h t_letters t_sums t_weights t_size t_kind t_exponent a1_ends a1_numbers) (fun (_ : Unit) => pX8_matchAt cy h t_letters t_sums t_weights t_size t_kind t_exponent a1_ends a1_numbers) (fun (r : Int32) (_ : Unit) => post r) :=
  ct_ofI (by decide) rfl (Nat.le_of_ble_eq_true rfl) (fun p e s m below meth c A ls C0 hP hD hS hl => wX8_matchAt_0 l h post t_letters t_sums t_weights t_size t_kind t_exponent a1_ends a1_numbers p2 C0  hv _ _ _ hP hD hS hl)
theorem mX8_firstMatch_1 : (Cond.fieldLink RX8 31 "AbelianPowers$Trail" "size" "I") ∈ wsX8_firstMatch := List.mem_of_getElem? (i := 1) rfl
theorem mX8_firstMatch_2 : (Cond.fieldLink RX8 81 "AbelianPowers$Template" "ends" "[I") ∈ wsX8_firstMatch := List.mem_of_getElem? (i := 2) rfl
theorem nX8_firstMatch_X8 : ∀ w ∈ wsX80, w ∈ wsX8_firstMatch := fun _ h => List.mem_cons_of_mem _ (List.mem_append_left _ (List.mem_append_right _ h))
theorem nX8_firstMatch_X7 : ∀ w ∈ wsX70, w ∈ wsX8_firstMatch := fun _ h => List.mem_cons_of_mem _ (List.mem_append_right _ h)
theorem zX8_firstMatch : yX8_firstMatch.cls = RX8 ∧ yX8_firstMatch.cls ≠ "java/lang/invoke/MethodHandle" ∧ yX8_firstMatch.cls ≠ "java/lang/invoke/VarHandle" ∧ (parseMethodDescriptor yX8_firstMatch.desc).map (fun d => d.parameters.length) = some 1 := by decide +kernel
abbrev rX8_firstMatch : Room := { frames := 2, cells := 0, slots := 0, locals := 52 }
abbrev pX8_firstMatch (cy : Nat → ClassId) (h : Nat → Nat) (t_letters : Nat → Int32) (t_sums : Nat → Int64) (t_weights : Nat → Int64) (t_size : Int32) (t_kind : Int32) (t_exponent : Int32) (a1_ends : Nat → Int32) (a1_numbers : Nat → Int32) : va_W := [(h 0, .inr (8, [.ref (h 1), .ref (h 7), .ref (h 2), .ref (h 8), .ref (h 9), .ref (h 3), .int t_size, .int t_kind, .int t_exponent])), (h 1, .inl (cy 0, 41, .inl t_letters)), (h 2, .inl (cy 1, 42, .inr (.inl t_sums))), (h 3, .inl (cy 1, 4, .inr (.inl t_weights))), (h 4, .inr (7, [.ref (h 5), .ref (h 6)])), (h 5, .inl (cy 0, 3, .inl a1_ends)), (h 6, .inl (cy 0, 4, .inl a1_numbers))]
def VX8_firstMatch_35 (post : Int32 → Prop) (K2 : Int32 → Prop) (t_letters : Nat → Int32) (t_sums : Nat → Int64) (t_weights : Nat → Int64) (t_size : Int32) (a1_ends : Nat → Int32) (a1_numbers : Nat → Int32) (x2 : Int32) (s0 : Int32) : Prop := ((s0 = (-2)) → K2 (x2 + 1)) ∧ (¬ (s0 = (-2)) → post s0)
def VX8_firstMatch_2 (post : Int32 → Prop)  (t_letters : Nat → Int32) (t_sums : Nat → Int64) (t_weights : Nat → Int64) (t_size : Int32) (a1_ends : Nat → Int32) (a1_numbers : Nat → Int32) : Nat → Int32 → Prop
  | 0, _ => False
  | n + 1, x2 => ((t_size ≤ x2) → post (-2 : Int32)) ∧ (¬ (t_size ≤ x2) → vp_in (0 : Int32) 3 ∧ (∀ y_2 : Int32, y_2 = (a1_ends (0 : Int32).toNatClampNeg) → VX8_hasEnd (fun r_4 => ((r_4 = 0) → VX8_firstMatch_35 post (fun x2 => VX8_firstMatch_2 post t_letters t_sums t_weights t_size a1_ends a1_numbers n x2) t_letters t_sums t_weights t_size a1_ends a1_numbers x2 (-2)) ∧ (¬ (r_4 = 0) → VX8_matchAt (fun r_5 => VX8_firstMatch_35 post (fun x2 => VX8_firstMatch_2 post t_letters t_sums t_weights t_size a1_ends a1_numbers n x2) t_letters t_sums t_weights t_size a1_ends a1_numbers x2 r_5) t_letters t_sums t_weights t_size a1_ends a1_numbers x2)) t_letters t_size y_2 x2))
def VX8_firstMatch (post : Int32 → Prop)  (t_letters : Nat → Int32) (t_sums : Nat → Int64) (t_weights : Nat → Int64) (t_size : Int32) (a1_ends : Nat → Int32) (a1_numbers : Nat → Int32)  : Prop := ∃ n2 : Nat, VX8_firstMatch_2 post t_letters t_sums t_weights t_size a1_ends a1_numbers n2 0
set_option maxHeartbeats 4000000 in
set_option maxRecDepth 100000 in
theorem wX8_firstMatch_35 {p : Program} (l : Launch) {e : Env} {s : State} {m : MethodId} {args : Array Value} {below : List Frame} {meth : Method} {c : Code} {dC : Nat → ClassId} {dI : Nat → Nat → Nat} {cy : Nat → ClassId} {A : Nat → Prop} (h : Nat → Nat) (post : Int32 → Prop) (K2 : Int32 → Prop)  (t_letters : Nat → Int32) (t_sums : Nat → Int64) (t_weights : Nat → Int64) (t_size : Int32) (t_kind : Int32) (t_exponent : Int32) (a1_ends : Nat → Int32) (a1_numbers : Nat → Int32)  (C0 : cx p s m args meth c cX8_firstMatch 4 (some .int) wsX8_firstMatch RX8 dC dI cy A) (hK2 : ∀ (x2 : Int32), K2 x2 → ∀ (H : Heap) (locs : List Loc) (ls : Array Slot), va_P (dC, dI) vwCl (pX8_firstMatch cy h t_letters t_sums t_weights t_size t_kind t_exponent a1_ends a1_numbers) H → va_D A (pX8_firstMatch cy h t_letters t_sums t_weights t_size t_kind t_exponent a1_ends a1_numbers) → va_S A s.heap H locs → lv_has ls 4 [(0, .ref (h 0)), (1, .ref (h 4)), (2, .int x2)] → W p l e rX8_firstMatch s m args below meth c H locs 0 0 (MQ below (va_Qi (fun (r : Int32) (_ : Unit) => post r) (fun (_ : Unit) (t : State) => va_P (dC, dI) vwCl (pX8_firstMatch cy h t_letters t_sums t_weights t_size t_kind t_exponent a1_ends a1_numbers) t.heap) A) args s 0 0 A) (F0 m 2 ls [])) : ∀ (x2 : Int32) (s0 : Int32), VX8_firstMatch_35 post K2 t_letters t_sums t_weights t_size a1_ends a1_numbers x2 s0 → ∀ (H : Heap) (locs : List Loc) (ls : Array Slot), va_P (dC, dI) vwCl (pX8_firstMatch cy h t_letters t_sums t_weights t_size t_kind t_exponent a1_ends a1_numbers) H → va_D A (pX8_firstMatch cy h t_letters t_sums t_weights t_size t_kind t_exponent a1_ends a1_numbers) → va_S A s.heap H locs → lv_has ls 4 [(0, .ref (h 0)), (1, .ref (h 4)), (2, .int x2)] → W p l e rX8_firstMatch s m args below meth c H locs 0 0 (MQ below (va_Qi (fun (r : Int32) (_ : Unit) => post r) (fun (_ : Unit) (t : State) => va_P (dC, dI) vwCl (pX8_firstMatch cy h t_letters t_sums t_weights t_size t_kind t_exponent a1_ends a1_numbers) t.heap) A) args s 0 0 A) (F0 m 35 ls [.int s0]) := by
  have C1 := C0
  obtain ⟨hx, hb, hr, hml, hown, hts, hlocks, hK, hA⟩ := C1
  intro x2 s0 hv H locs ls hP hD hS hl
  refine lv_istore_n (lv' := [(3, .int s0), (0, .ref (h 0)), (1, .ref (h 4)), (2, .int x2)]) hx hb dX8_firstMatch_35 rfl hl (by decide) rfl (fun ls hl => ?_)
  refine lv_iload_n hx hb dX8_firstMatch_36 rfl (lv_at hl 0 rfl) ?_
  refine lv_bipush (v := (-2)) hx hb dX8_firstMatch_37 (by decide) ?_
  refine lv_icmp_eq (tgt := 44) hx hb dX8_firstMatch_39 (by decide) (fun c_10 => ?_) (fun c_10 => ?_)
  · have hv := hv.1 c_10
    refine lv_iinc (v := (x2 + 1)) (lv' := [(2, .int ((x2 + 1))), (3, .int s0), (0, .ref (h 0)), (1, .ref (h 4))]) hx hb dX8_firstMatch_44 hl (k := 3) rfl rfl (by decide) rfl (fun ls hl => ?_)
    refine lv_goto (tgt := 2) hx hb dX8_firstMatch_47 (by decide) ?_
    exact hK2 (x2 + 1) hv _ _ _ hP hD hS (lv_sub hl [2, 3, 0] rfl)
  · have hv := hv.2 c_10
    refine lv_iload_n hx hb dX8_firstMatch_42 rfl (lv_at hl 0 rfl) ?_
    exact W.iret (v := s0) hx hb hr (fun t ht hW => ⟨⟨s0, (), rfl, hv, va_Ph ht hP⟩, hS.F ht⟩) hS.2.2 dX8_firstMatch_43
set_option maxHeartbeats 4000000 in
set_option maxRecDepth 100000 in
theorem wX8_firstMatch_2 {p : Program} (l : Launch) {e : Env} {s : State} {m : MethodId} {args : Array Value} {below : List Frame} {meth : Method} {c : Code} {dC : Nat → ClassId} {dI : Nat → Nat → Nat} {cy : Nat → ClassId} {A : Nat → Prop} (h : Nat → Nat) (post : Int32 → Prop)   (t_letters : Nat → Int32) (t_sums : Nat → Int64) (t_weights : Nat → Int64) (t_size : Int32) (t_kind : Int32) (t_exponent : Int32) (a1_ends : Nat → Int32) (a1_numbers : Nat → Int32)  (C0 : cx p s m args meth c cX8_firstMatch 4 (some .int) wsX8_firstMatch RX8 dC dI cy A)  : ∀ (n : Nat) (x2 : Int32), VX8_firstMatch_2 post t_letters t_sums t_weights t_size a1_ends a1_numbers n x2 → ∀ (H : Heap) (locs : List Loc) (ls : Array Slot), va_P (dC, dI) vwCl (pX8_firstMatch cy h t_letters t_sums t_weights t_size t_kind t_exponent a1_ends a1_numbers) H → va_D A (pX8_firstMatch cy h t_letters t_sums t_weights t_size t_kind t_exponent a1_ends a1_numbers) → va_S A s.heap H locs → lv_has ls 4 [(0, .ref (h 0)), (1, .ref (h 4)), (2, .int x2)] → W p l e rX8_firstMatch s m args below meth c H locs 0 0 (MQ below (va_Qi (fun (r : Int32) (_ : Unit) => post r) (fun (_ : Unit) (t : State) => va_P (dC, dI) vwCl (pX8_firstMatch cy h t_letters t_sums t_weights t_size t_kind t_exponent a1_ends a1_numbers) t.heap) A) args s 0 0 A) (F0 m 2 ls []) := by
  have C1 := C0
  obtain ⟨hx, hb, hr, hml, hown, hts, hlocks, hK, hA⟩ := C1
  intro n
  induction n with
  | zero => intro x2 hv; exact hv.elim
  | succ n ih =>
    intro x2 hv H locs ls hP hD hS hl
    refine lv_iload_n hx hb dX8_firstMatch_2 rfl (lv_at hl 2 rfl) ?_
    refine lv_aload_n hx hb dX8_firstMatch_3 rfl (lv_at hl 0 rfl) ?_
    refine va_get (D := (dC, dI)) (ci := 8) (v := .int t_size) (C := RX8) (T := TX8) (N := 9) hx hb hts nX8_firstMatch_X8 hown hK hP 0 rfl rfl 6 (by decide) (hts _ mX8_firstMatch_1) (fun _ h9 => h9) rfl dX8_firstMatch_4 ?_
    refine lv_icmp_ge (tgt := 50) hx hb dX8_firstMatch_7 (by decide) (fun c_9 => ?_) (fun c_9 => ?_)
    · have hv := hv.1 c_9
      refine lv_bipush (v := (-2)) hx hb dX8_firstMatch_50 (by decide) ?_
      exact W.iret (v := (-2)) hx hb hr (fun t ht hW => ⟨⟨(-2), (), rfl, hv, va_Ph ht hP⟩, hS.F ht⟩) hS.2.2 dX8_firstMatch_52
    · have hv := hv.2 c_9
      refine lv_aload_n hx hb dX8_firstMatch_10 rfl (lv_at hl 0 rfl) ?_
      refine lv_aload_n hx hb dX8_firstMatch_11 rfl (lv_at hl 1 rfl) ?_
      refine va_get (D := (dC, dI)) (ci := 7) (v := .ref (h 5)) (C := RX7) (T := TX7) (N := 2) hx hb hts nX8_firstMatch_X7 hown hK hP 4 rfl rfl 0 (by decide) (hts _ mX8_firstMatch_2) (fun _ h9 => h9) rfl dX8_firstMatch_12 ?_
      refine lv_iconst (v := 0) hx hb dX8_firstMatch_15 (by decide) ?_
      have h_3 := hv.1
      have hv := hv.2
      refine va_iald hx hb hK hP 5 0 rfl rfl h_3 dX8_firstMatch_16 ?_
      refine lv_topi (fun y_2 ey_2 => ?_)
      have hv := hv y_2 ey_2
      refine lv_iload_n hx hb dX8_firstMatch_17 rfl (lv_at hl 2 rfl) ?_
      refine cb_VI (As := [.int y_2, .int x2]) (rest := []) ⟨hx, hb, hml, hown, hts⟩ (kX8_hasEnd l dC dI cy (adl [h 0, h 1, h 7, h 2, h 8, h 9, h 3]) t_letters t_size t_kind t_exponent y_2 x2 _ hv) (cwV 2 hts gX8_firstMatch_X8_hasEnd rfl rfl rfl zX8_hasEnd ⟨Nat.le_of_ble_eq_true rfl, Nat.le_of_ble_eq_true rfl⟩) hK hP hD hS hA [0, 1] [some 0, some 1, none, none, none, none, none] rfl rfl rfl (ci := 8) rfl rfl (fun _ => rfl) rfl hl.1 rfl (Nat.le_of_ble_eq_true rfl) dX8_firstMatch_18 (fun r_4 w_8 H locs hv hP hD hS => ?_)
      have hP : va_P (dC, dI) vwCl (pX8_firstMatch cy h t_letters t_sums t_weights t_size t_kind t_exponent a1_ends a1_numbers) H := hP
      have hD : va_D A (pX8_firstMatch cy h t_letters t_sums t_weights t_size t_kind t_exponent a1_ends a1_numbers) := hD
      refine lv_if_eq (tgt := 33) hx hb dX8_firstMatch_21 (by decide) (fun c_7 => ?_) (fun c_7 => ?_)
      · have hv := hv.1 c_7
        refine lv_bipush (v := (-2)) hx hb dX8_firstMatch_33 (by decide) ?_
        exact wX8_firstMatch_35 l h post (fun x2 => VX8_firstMatch_2 post t_letters t_sums t_weights t_size a1_ends a1_numbers n x2)  t_letters t_sums t_weights t_size t_kind t_exponent a1_ends a1_numbers C0 ih x2 (-2) hv _ _ _ hP hD hS (lv_sub hl [0, 1, 2] rfl)
      · have hv := hv.2 c_7
        refine lv_aload_n hx hb dX8_firstMatch_24 rfl (lv_at hl 0 rfl) ?_
        refine lv_aload_n hx hb dX8_firstMatch_25 rfl (lv_at hl 1 rfl) ?_
        refine lv_iload_n hx hb dX8_firstMatch_26 rfl (lv_at hl 2 rfl) ?_
        refine cb_VI (As := [.ref (h 4), .int x2]) (rest := []) ⟨hx, hb, hml, hown, hts⟩ (kX8_matchAt l dC dI cy (adl [h 0, h 1, h 2, h 3, h 4, h 5, h 6, h 7, h 8, h 9]) t_letters t_sums t_weights t_size t_kind t_exponent a1_ends a1_numbers x2 _ hv) (cwV 2 hts gX8_firstMatch_X8_matchAt rfl rfl rfl zX8_matchAt ⟨Nat.le_of_ble_eq_true rfl, Nat.le_of_ble_eq_true rfl⟩) hK hP hD hS hA [0, 1, 2, 3, 4, 5, 6] [some 0, some 1, some 2, some 3, some 4, some 5, some 6] rfl rfl rfl (ci := 8) rfl rfl (fun _ => rfl) rfl hl.1 rfl (Nat.le_of_ble_eq_true rfl) dX8_firstMatch_27 (fun r_5 w_6 H locs hv hP hD hS => ?_)
        have hP : va_P (dC, dI) vwCl (pX8_firstMatch cy h t_letters t_sums t_weights t_size t_kind t_exponent a1_ends a1_numbers) H := hP
        have hD : va_D A (pX8_firstMatch cy h t_letters t_sums t_weights t_size t_kind t_exponent a1_ends a1_numbers) := hD
        refine lv_goto (tgt := 35) hx hb dX8_firstMatch_30 (by decide) ?_
        exact wX8_firstMatch_35 l h post (fun x2 => VX8_firstMatch_2 post t_letters t_sums t_weights t_size a1_ends a1_numbers n x2)  t_letters t_sums t_weights t_size t_kind t_exponent a1_ends a1_numbers C0 ih x2 r_5 hv _ _ _ hP hD hS (lv_sub hl [0, 1, 2] rfl)
set_option maxHeartbeats 4000000 in
set_option maxRecDepth 100000 in
theorem wX8_firstMatch_0 {p : Program} (l : Launch) {e : Env} {s : State} {m : MethodId} {args : Array Value} {below : List Frame} {meth : Method} {c : Code} {dC : Nat → ClassId} {dI : Nat → Nat → Nat} {cy : Nat → ClassId} {A : Nat → Prop} (h : Nat → Nat) (post : Int32 → Prop)   (t_letters : Nat → Int32) (t_sums : Nat → Int64) (t_weights : Nat → Int64) (t_size : Int32) (t_kind : Int32) (t_exponent : Int32) (a1_ends : Nat → Int32) (a1_numbers : Nat → Int32)  (C0 : cx p s m args meth c cX8_firstMatch 4 (some .int) wsX8_firstMatch RX8 dC dI cy A)  : VX8_firstMatch post t_letters t_sums t_weights t_size a1_ends a1_numbers  → ∀ (H : Heap) (locs : List Loc) (ls : Array Slot), va_P (dC, dI) vwCl (pX8_firstMatch cy h t_letters t_sums t_weights t_size t_kind t_exponent a1_ends a1_numbers) H → va_D A (pX8_firstMatch cy h t_letters t_sums t_weights t_size t_kind t_exponent a1_ends a1_numbers) → va_S A s.heap H locs → lv_has ls 4 [(0, .ref (h 0)), (1, .ref (h 4))] → W p l e rX8_firstMatch s m args below meth c H locs 0 0 (MQ below (va_Qi (fun (r : Int32) (_ : Unit) => post r) (fun (_ : Unit) (t : State) => va_P (dC, dI) vwCl (pX8_firstMatch cy h t_letters t_sums t_weights t_size t_kind t_exponent a1_ends a1_numbers) t.heap) A) args s 0 0 A) (F0 m 0 ls []) := by
  have C1 := C0
  obtain ⟨hx, hb, hr, hml, hown, hts, hlocks, hK, hA⟩ := C1
  intro  hv H locs ls hP hD hS hl
  refine lv_iconst (v := 0) hx hb dX8_firstMatch_0 (by decide) ?_
  refine lv_istore_n (lv' := [(2, .int 0), (0, .ref (h 0)), (1, .ref (h 4))]) hx hb dX8_firstMatch_1 rfl hl (by decide) rfl (fun ls hl => ?_)
  obtain ⟨n_1, hv⟩ := hv
  exact wX8_firstMatch_2 l h post  t_letters t_sums t_weights t_size t_kind t_exponent a1_ends a1_numbers C0 n_1 0 hv _ _ _ hP hD hS (lv_sub hl [1, 2, 0] rfl)
theorem kX8_firstMatch (l : Launch) (dC : Nat → ClassId) (dI : Nat → Nat → Nat) (cy : Nat → ClassId) (h : Nat → Nat) (t_letters : Nat → Int32) (t_sums : Nat → Int64) (t_weights : Nat → Int64) (t_size : Int32) (t_kind : Int32) (t_exponent : Int32) (a1_ends : Nat → Int32) (a1_numbers : Nat → Int32)  (post : Int32 → Prop) (hv : VX8_firstMatch post t_letters t_sums t_weights t_size a1_ends a1_numbers ) : CtI l yX8_firstMatch wsX8_firstMatch rX8_firstMatch dC dI cy [.ref (h 0), .ref (h 4)] (pX8_firstMatch cy h t_letters t_sums t_weights t_size t_kind t_exponent a1_ends a1_numbers) (fun (_ : Unit) => pX8_firstMatch cy h t_letters t_sums t_weights t_size t_kind t_exponent a1_ends a1_numbers) (fun (r : Int32) (_ : Unit) => post r) :=
  ct_ofI (by decide) rfl (Nat.le_of_ble_eq_true rfl) (fun p e s m below meth c A ls C0 hP hD hS hl => wX8_firstMatch_0 l h post t_letters t_sums t_weights t_size t_kind t_exponent a1_ends a1_numbers C0  hv _ _ _ hP hD hS hl)
theorem mX4_seek_1 : (Cond.fieldLink RX4 9 "AbelianPowers$Search" "deepest" "I") ∈ wsX4_seek := List.mem_of_getElem? (i := 1) rfl
theorem mX4_seek_2 : (Cond.constant RX4 15 (1000000)) ∈ wsX4_seek := List.mem_of_getElem? (i := 2) rfl
theorem mX4_seek_3 : (Cond.fieldLink RX4 16 "AbelianPowers$Trail" "size" "I") ∈ wsX4_seek := List.mem_of_getElem? (i := 3) rfl
theorem mX4_seek_4 : (Cond.methodLink RX4 32 Lib.Math.max.name) ∈ wsX4_seek := List.mem_of_getElem? (i := 4) rfl
theorem mX4_seek_5 : (Cond.static Lib.Math.max.name) ∈ wsX4_seek := List.mem_of_getElem? (i := 5) rfl
theorem mX4_seek_6 : (Cond.initialized "java/lang/Math") ∈ wsX4_seek := List.mem_of_getElem? (i := 6) rfl
theorem mX4_seek_7 : (Cond.code Lib.Math.max.name Lib.Math.max.code 2 (some .int)) ∈ wsX4_seek := List.mem_of_getElem? (i := 7) rfl
theorem nX4_seek_X4 : ∀ w ∈ wsX40, w ∈ wsX4_seek := fun _ h => List.mem_cons_of_mem _ (List.mem_append_left _ (List.mem_append_right _ h))
theorem nX4_seek_X8 : ∀ w ∈ wsX80, w ∈ wsX4_seek := fun _ h => List.mem_cons_of_mem _ (List.mem_append_right _ h)
theorem zX4_seek : yX4_seek.cls = RX4 ∧ yX4_seek.cls ≠ "java/lang/invoke/MethodHandle" ∧ yX4_seek.cls ≠ "java/lang/invoke/VarHandle" ∧ (parseMethodDescriptor yX4_seek.desc).map (fun d => d.parameters.length) = some 3 := by decide +kernel
abbrev rX4_seek : Room := { frames := 4, cells := 0, slots := 0, locals := 91 }
abbrev pX4_seek (cy : Nat → ClassId) (h : Nat → Nat) (t_deepest : Int32) (a1_letters : Nat → Int32) (a1_tops : Nat → Int32) (a1_sums : Nat → Int64) (a1_lowPairs : Nat → Int64) (a1_highPairs : Nat → Int64) (a1_weights : Nat → Int64) (a1_size : Int32) (a1_kind : Int32) (a1_exponent : Int32) : va_W := [(h 0, .inr (4, [.int t_deepest])), (h 1, .inr (8, [.ref (h 2), .ref (h 3), .ref (h 4), .ref (h 5), .ref (h 6), .ref (h 7), .int a1_size, .int a1_kind, .int a1_exponent])), (h 2, .inl (cy 0, 41, .inl a1_letters)), (h 3, .inl (cy 0, 42, .inl a1_tops)), (h 4, .inl (cy 1, 42, .inr (.inl a1_sums))), (h 5, .inl (cy 1, 42, .inr (.inl a1_lowPairs))), (h 6, .inl (cy 1, 42, .inr (.inl a1_highPairs))), (h 7, .inl (cy 1, 4, .inr (.inl a1_weights)))]
def VX4_seek_14 (post : Int32 → Int32 → (Nat → Int32) → (Nat → Int32) → (Nat → Int64) → (Nat → Int64) → (Nat → Int64) → Int32 → Prop)  (a1_weights : Nat → Int64) (a1_kind : Int32) (a1_exponent : Int32) (p2 : Int32) (p3 : Int32) : Nat → Int32 → (Nat → Int32) → (Nat → Int32) → (Nat → Int64) → (Nat → Int64) → (Nat → Int64) → Int32 → Int32 → Int32 → Int32 → Prop
  | 0, _, _, _, _, _, _, _, _, _, _ => False
  | n + 1, t_deepest, a1_letters, a1_tops, a1_sums, a1_lowPairs, a1_highPairs, a1_size, x4, x5, x6 => ((1000000 ≤ x6) → post (-4 : Int32) t_deepest a1_letters a1_tops a1_sums a1_lowPairs a1_highPairs a1_size) ∧ (¬ (1000000 ≤ x6) → ((x5 < p3) → (¬ (x4 = 20000) → VX8_push (fun u_2 u_3 u_4 u_5 u_6 u_7 => VX8_shortestPowerAtEnd (fun r_8 => ((r_8 = 0) → ∀ y_9 : Int32, y_9 = (if t_deepest < u_7 then u_7 else t_deepest) → (¬ (u_7 = p2) → VX4_seek_14 post a1_weights a1_kind a1_exponent p2 p3 n y_9 u_2 u_3 u_4 u_5 u_6 u_7 (x4 + 1) 0 (x6 + 1)) ∧ ((u_7 = p2) → post (x4 + 1) y_9 u_2 u_3 u_4 u_5 u_6 u_7)) ∧ (¬ (r_8 = 0) → VX8_pop (fun r_11 u_12 => VX4_seek_14 post a1_weights a1_kind a1_exponent p2 p3 n t_deepest u_2 u_3 u_4 u_5 u_6 u_12 (x4 + 1) (r_11 + 1) (x6 + 1)) u_2 u_7)) u_2 u_4 u_5 u_6 u_7 a1_kind a1_exponent) a1_weights a1_kind x5 a1_letters a1_tops a1_sums a1_lowPairs a1_highPairs a1_size) ∧ ((x4 = 20000) → post (-4 : Int32) t_deepest a1_letters a1_tops a1_sums a1_lowPairs a1_highPairs a1_size)) ∧ (¬ (x5 < p3) → (¬ (a1_size = 0) → VX8_pop (fun r_18 u_19 => VX4_seek_14 post a1_weights a1_kind a1_exponent p2 p3 n t_deepest a1_letters a1_tops a1_sums a1_lowPairs a1_highPairs u_19 x4 (r_18 + 1) (x6 + 1)) a1_letters a1_size) ∧ ((a1_size = 0) → post (-2 : Int32) t_deepest a1_letters a1_tops a1_sums a1_lowPairs a1_highPairs a1_size)))
def VX4_seek (post : Int32 → Int32 → (Nat → Int32) → (Nat → Int32) → (Nat → Int64) → (Nat → Int64) → (Nat → Int64) → Int32 → Prop)  (a1_weights : Nat → Int64) (a1_kind : Int32) (a1_exponent : Int32) (p2 : Int32) (p3 : Int32) (t_deepest : Int32) (a1_letters : Nat → Int32) (a1_tops : Nat → Int32) (a1_sums : Nat → Int64) (a1_lowPairs : Nat → Int64) (a1_highPairs : Nat → Int64) (a1_size : Int32) : Prop := ∃ n14 : Nat, VX4_seek_14 post a1_weights a1_kind a1_exponent p2 p3 n14 0 a1_letters a1_tops a1_sums a1_lowPairs a1_highPairs a1_size 0 0 0
set_option maxHeartbeats 4000000 in
set_option maxRecDepth 100000 in
theorem wX4_seek_14 {p : Program} (l : Launch) {e : Env} {s : State} {m : MethodId} {args : Array Value} {below : List Frame} {meth : Method} {c : Code} {dC : Nat → ClassId} {dI : Nat → Nat → Nat} {cy : Nat → ClassId} {A : Nat → Prop} (h : Nat → Nat) (post : Int32 → Int32 → (Nat → Int32) → (Nat → Int32) → (Nat → Int64) → (Nat → Int64) → (Nat → Int64) → Int32 → Prop)   (a1_weights : Nat → Int64) (a1_kind : Int32) (a1_exponent : Int32) (p2 : Int32) (p3 : Int32) (C0 : cx p s m args meth c cX4_seek 7 (some .int) wsX4_seek RX4 dC dI cy A)  : ∀ (n : Nat) (t_deepest : Int32) (a1_letters : Nat → Int32) (a1_tops : Nat → Int32) (a1_sums : Nat → Int64) (a1_lowPairs : Nat → Int64) (a1_highPairs : Nat → Int64) (a1_size : Int32) (x4 : Int32) (x5 : Int32) (x6 : Int32), VX4_seek_14 post a1_weights a1_kind a1_exponent p2 p3 n t_deepest a1_letters a1_tops a1_sums a1_lowPairs a1_highPairs a1_size x4 x5 x6 → ∀ (H : Heap) (locs : List Loc) (ls : Array Slot), va_P (dC, dI) vwCl (pX4_seek cy h t_deepest a1_letters a1_tops a1_sums a1_lowPairs a1_highPairs a1_weights a1_size a1_kind a1_exponent) H → va_D A (pX4_seek cy h t_deepest a1_letters a1_tops a1_sums a1_lowPairs a1_highPairs a1_weights a1_size a1_kind a1_exponent) → va_S A s.heap H locs → lv_has ls 7 [(0, .ref (h 0)), (1, .ref (h 1)), (2, .int p2), (3, .int p3), (4, .int x4), (5, .int x5), (6, .int x6)] → W p l e rX4_seek s m args below meth c H locs 0 0 (MQ below (va_Qi (fun (r : Int32) (u : Int32 × (Nat → Int32) × (Nat → Int32) × (Nat → Int64) × (Nat → Int64) × (Nat → Int64) × Int32) => post r u.1 u.2.1 u.2.2.1 u.2.2.2.1 u.2.2.2.2.1 u.2.2.2.2.2.1 u.2.2.2.2.2.2) (fun (u : Int32 × (Nat → Int32) × (Nat → Int32) × (Nat → Int64) × (Nat → Int64) × (Nat → Int64) × Int32) (t : State) => va_P (dC, dI) vwCl (pX4_seek cy h u.1 u.2.1 u.2.2.1 u.2.2.2.1 u.2.2.2.2.1 u.2.2.2.2.2.1 a1_weights u.2.2.2.2.2.2 a1_kind a1_exponent) t.heap) A) args s 0 0 A) (F0 m 14 ls []) := by
  have C1 := C0
  obtain ⟨hx, hb, hr, hml, hown, hts, hlocks, hK, hA⟩ := C1
  intro n
  induction n with
  | zero => intro t_deepest a1_letters a1_tops a1_sums a1_lowPairs a1_highPairs a1_size x4 x5 x6 hv; exact hv.elim
  | succ n ih =>
    intro t_deepest a1_letters a1_tops a1_sums a1_lowPairs a1_highPairs a1_size x4 x5 x6 hv H locs ls hP hD hS hl
    refine lv_iload hx hb dX4_seek_14 (lv_at hl 6 rfl) ?_
    refine lv_ldc hx hb hown (hts _ mX4_seek_2) dX4_seek_16 ?_
    refine lv_icmp_ge (tgt := 121) hx hb dX4_seek_18 (by decide) (fun c_23 => ?_) (fun c_23 => ?_)
    · have hv := hv.1 c_23
      refine lv_bipush (v := (-4)) hx hb dX4_seek_121 (by decide) ?_
      exact W.iret (v := (-4)) hx hb hr (fun t ht hW => ⟨⟨(-4), (t_deepest, a1_letters, a1_tops, a1_sums, a1_lowPairs, a1_highPairs, a1_size), rfl, hv, va_Ph ht hP⟩, hS.F ht⟩) hS.2.2 dX4_seek_123
    · have hv := hv.2 c_23
      refine lv_iload hx hb dX4_seek_21 (lv_at hl 5 rfl) ?_
      refine lv_iload_n hx hb dX4_seek_23 rfl (lv_at hl 3 rfl) ?_
      refine lv_icmp_lt (tgt := 48) hx hb dX4_seek_24 (by decide) (fun c_22 => ?_) (fun c_22 => ?_)
      · have hv := hv.1 c_22
        refine lv_iload hx hb dX4_seek_48 (lv_at hl 4 rfl) ?_
        refine lv_sipush (v := 20000) hx hb dX4_seek_50 (by decide) ?_
        refine lv_icmp_ne (tgt := 59) hx hb dX4_seek_53 (by decide) (fun c_17 => ?_) (fun c_17 => ?_)
        · have hv := hv.1 c_17
          refine lv_iinc (v := (x4 + 1)) (lv' := [(4, .int ((x4 + 1))), (0, .ref (h 0)), (1, .ref (h 1)), (2, .int p2), (3, .int p3), (5, .int x5), (6, .int x6)]) hx hb dX4_seek_59 hl (k := 4) rfl rfl (by decide) rfl (fun ls hl => ?_)
          refine lv_aload_n hx hb dX4_seek_62 rfl (lv_at hl 2 rfl) ?_
          refine lv_iload hx hb dX4_seek_63 (lv_at hl 5 rfl) ?_
          refine cb_VV (As := [.int x5]) (rest := []) ⟨hx, hb, hml, hown, hts⟩ (kX8_push l dC dI cy (adl [h 1, h 2, h 3, h 4, h 5, h 6, h 7]) a1_letters a1_tops a1_sums a1_lowPairs a1_highPairs a1_weights a1_size a1_kind a1_exponent x5 _ hv) (cwV 1 hts gX4_seek_X8_push rfl rfl rfl zX8_push ⟨Nat.le_of_ble_eq_true rfl, Nat.le_of_ble_eq_true rfl⟩) hK hP hD hS hA [1, 2, 3, 4, 5, 6, 7] [none, some 0, some 1, some 2, some 3, some 4, some 5, some 6] rfl rfl rfl (ci := 8) rfl rfl (fun _ => rfl) rfl hl.1 rfl (Nat.le_of_ble_eq_true rfl) dX4_seek_65 (fun w_16 H locs hv hP hD hS => ?_)
          obtain ⟨u_2, u_3, u_4, u_5, u_6, u_7⟩ := w_16
          have hP : va_P (dC, dI) vwCl (pX4_seek cy h t_deepest u_2 u_3 u_4 u_5 u_6 a1_weights u_7 a1_kind a1_exponent) H := hP
          have hD : va_D A (pX4_seek cy h t_deepest u_2 u_3 u_4 u_5 u_6 a1_weights u_7 a1_kind a1_exponent) := hD
          refine lv_aload_n hx hb dX4_seek_68 rfl (lv_at hl 2 rfl) ?_
          refine cb_VI (As := []) (rest := []) ⟨hx, hb, hml, hown, hts⟩ (kX8_shortestPowerAtEnd l dC dI cy (adl [h 1, h 2, h 4, h 5, h 6, h 3, h 7]) u_2 u_4 u_5 u_6 u_7 a1_kind a1_exponent _ hv) (cwV 0 hts gX4_seek_X8_shortestPowerAtEnd rfl rfl rfl zX8_shortestPowerAtEnd ⟨Nat.le_of_ble_eq_true rfl, Nat.le_of_ble_eq_true rfl⟩) hK hP hD hS hA [1, 2, 4, 5, 6] [none, some 0, some 1, none, some 2, some 3, some 4, none] rfl rfl rfl (ci := 8) rfl rfl (fun _ => rfl) rfl hl.1 rfl (Nat.le_of_ble_eq_true rfl) dX4_seek_69 (fun r_8 w_15 H locs hv hP hD hS => ?_)
          have hP : va_P (dC, dI) vwCl (pX4_seek cy h t_deepest u_2 u_3 u_4 u_5 u_6 a1_weights u_7 a1_kind a1_exponent) H := hP
          have hD : va_D A (pX4_seek cy h t_deepest u_2 u_3 u_4 u_5 u_6 a1_weights u_7 a1_kind a1_exponent) := hD
          refine lv_if_eq (tgt := 86) hx hb dX4_seek_72 (by decide) (fun c_14 => ?_) (fun c_14 => ?_)
          · have hv := hv.1 c_14
            refine lv_aload_n hx hb dX4_seek_86 rfl (lv_at hl 1 rfl) ?_
            refine lv_aload_n hx hb dX4_seek_87 rfl (lv_at hl 1 rfl) ?_
            refine va_get (D := (dC, dI)) (ci := 4) (v := .int t_deepest) (C := RX4) (T := TX4) (N := 1) hx hb hts nX4_seek_X4 hown hK hP 0 rfl rfl 0 (by decide) (hts _ mX4_seek_1) (fun _ h9 => h9) rfl dX4_seek_88 ?_
            refine lv_aload_n hx hb dX4_seek_91 rfl (lv_at hl 2 rfl) ?_
            refine va_get (D := (dC, dI)) (ci := 8) (v := .int u_7) (C := RX8) (T := TX8) (N := 9) hx hb hts nX4_seek_X8 hown hK hP 1 rfl rfl 6 (by decide) (hts _ mX4_seek_3) (fun _ h9 => h9) rfl dX4_seek_92 ?_
            refine va_mmax hx hb (hml.trans hl.1.symm) hown (hts _ mX4_seek_4) (hts _ mX4_seek_5) (hts _ mX4_seek_6) (hts _ mX4_seek_7) (Nat.le_of_ble_eq_true rfl) (Nat.le_of_ble_eq_true rfl) (Nat.zero_le _) (Nat.zero_le _) dX4_seek_95 ?_
            refine lv_topi (fun y_9 ey_9 => ?_)
            have hv := hv y_9 ey_9
            refine va_put (D := (dC, dI)) (ci := 4) (v := .int y_9) (ty := .int) (C := RX4) (T := TX4) (N := 1) hx hb hts nX4_seek_X4 tyX4 tyX4_ok nmX4 hown hK hP hD hS 0 rfl rfl 0 (by decide) (hts _ mX4_seek_1) (fun _ h9 => h9) rfl (by decide +kernel) rfl rfl (Nat.le_of_ble_eq_true rfl) dX4_seek_98 (fun H locs hP hD hS => ?_)
            have hP : va_P (dC, dI) vwCl (pX4_seek cy h y_9 u_2 u_3 u_4 u_5 u_6 a1_weights u_7 a1_kind a1_exponent) H := hP
            have hD : va_D A (pX4_seek cy h y_9 u_2 u_3 u_4 u_5 u_6 a1_weights u_7 a1_kind a1_exponent) := hD
            refine lv_aload_n hx hb dX4_seek_101 rfl (lv_at hl 2 rfl) ?_
            refine va_get (D := (dC, dI)) (ci := 8) (v := .int u_7) (C := RX8) (T := TX8) (N := 9) hx hb hts nX4_seek_X8 hown hK hP 1 rfl rfl 6 (by decide) (hts _ mX4_seek_3) (fun _ h9 => h9) rfl dX4_seek_102 ?_
            refine lv_iload_n hx hb dX4_seek_105 rfl (lv_at hl 3 rfl) ?_
            refine lv_icmp_ne (tgt := 112) hx hb dX4_seek_106 (by decide) (fun c_10 => ?_) (fun c_10 => ?_)
            · have hv := hv.1 c_10
              refine lv_iconst (v := 0) hx hb dX4_seek_112 (by decide) ?_
              refine lv_istore (lv' := [(5, .int 0), (4, .int ((x4 + 1))), (0, .ref (h 0)), (1, .ref (h 1)), (2, .int p2), (3, .int p3), (6, .int x6)]) hx hb dX4_seek_113 hl (by decide) rfl (fun ls hl => ?_)
              refine lv_iinc (v := (x6 + 1)) (lv' := [(6, .int ((x6 + 1))), (5, .int 0), (4, .int ((x4 + 1))), (0, .ref (h 0)), (1, .ref (h 1)), (2, .int p2), (3, .int p3)]) hx hb dX4_seek_115 hl (k := 6) rfl rfl (by decide) rfl (fun ls hl => ?_)
              refine lv_goto (tgt := 14) hx hb dX4_seek_118 (by decide) ?_
              exact ih y_9 u_2 u_3 u_4 u_5 u_6 u_7 (x4 + 1) 0 (x6 + 1) hv _ _ _ hP hD hS (lv_sub hl [3, 4, 5, 6, 2, 1, 0] rfl)
            · have hv := hv.2 c_10
              refine lv_iload hx hb dX4_seek_109 (lv_at hl 0 rfl) ?_
              exact W.iret (v := (x4 + 1)) hx hb hr (fun t ht hW => ⟨⟨(x4 + 1), (y_9, u_2, u_3, u_4, u_5, u_6, u_7), rfl, hv, va_Ph ht hP⟩, hS.F ht⟩) hS.2.2 dX4_seek_111
          · have hv := hv.2 c_14
            refine lv_aload_n hx hb dX4_seek_75 rfl (lv_at hl 2 rfl) ?_
            refine cb_VI (As := []) (rest := []) ⟨hx, hb, hml, hown, hts⟩ (kX8_pop l dC dI cy (adl [h 1, h 2, h 3, h 4, h 5, h 6, h 7]) u_2 u_7 a1_kind a1_exponent _ hv) (cwV 0 hts gX4_seek_X8_pop rfl rfl rfl zX8_pop ⟨Nat.le_of_ble_eq_true rfl, Nat.le_of_ble_eq_true rfl⟩) hK hP hD hS hA [1, 2] [none, some 0, some 1, none, none, none, none, none] rfl rfl rfl (ci := 8) rfl rfl (fun _ => rfl) rfl hl.1 rfl (Nat.le_of_ble_eq_true rfl) dX4_seek_76 (fun r_11 u_12 H locs hv hP hD hS => ?_)
            have hP : va_P (dC, dI) vwCl (pX4_seek cy h t_deepest u_2 u_3 u_4 u_5 u_6 a1_weights u_12 a1_kind a1_exponent) H := hP
            have hD : va_D A (pX4_seek cy h t_deepest u_2 u_3 u_4 u_5 u_6 a1_weights u_12 a1_kind a1_exponent) := hD
            refine lv_iconst (v := 1) hx hb dX4_seek_79 (by decide) ?_
            refine lv_iadd hx hb dX4_seek_80 ?_
            refine lv_istore (lv' := [(5, .int ((r_11 + 1))), (4, .int ((x4 + 1))), (0, .ref (h 0)), (1, .ref (h 1)), (2, .int p2), (3, .int p3), (6, .int x6)]) hx hb dX4_seek_81 hl (by decide) rfl (fun ls hl => ?_)
            refine lv_goto (tgt := 115) hx hb dX4_seek_83 (by decide) ?_
            refine lv_iinc (v := (x6 + 1)) (lv' := [(6, .int ((x6 + 1))), (5, .int ((r_11 + 1))), (4, .int ((x4 + 1))), (0, .ref (h 0)), (1, .ref (h 1)), (2, .int p2), (3, .int p3)]) hx hb dX4_seek_115 hl (k := 6) rfl rfl (by decide) rfl (fun ls hl => ?_)
            refine lv_goto (tgt := 14) hx hb dX4_seek_118 (by decide) ?_
            exact ih t_deepest u_2 u_3 u_4 u_5 u_6 u_12 (x4 + 1) (r_11 + 1) (x6 + 1) hv _ _ _ hP hD hS (lv_sub hl [3, 4, 5, 6, 2, 1, 0] rfl)
        · have hv := hv.2 c_17
          refine lv_bipush (v := (-4)) hx hb dX4_seek_56 (by decide) ?_
          exact W.iret (v := (-4)) hx hb hr (fun t ht hW => ⟨⟨(-4), (t_deepest, a1_letters, a1_tops, a1_sums, a1_lowPairs, a1_highPairs, a1_size), rfl, hv, va_Ph ht hP⟩, hS.F ht⟩) hS.2.2 dX4_seek_58
      · have hv := hv.2 c_22
        refine lv_aload_n hx hb dX4_seek_27 rfl (lv_at hl 1 rfl) ?_
        refine va_get (D := (dC, dI)) (ci := 8) (v := .int a1_size) (C := RX8) (T := TX8) (N := 9) hx hb hts nX4_seek_X8 hown hK hP 1 rfl rfl 6 (by decide) (hts _ mX4_seek_3) (fun _ h9 => h9) rfl dX4_seek_28 ?_
        refine lv_if_ne (tgt := 37) hx hb dX4_seek_31 (by decide) (fun c_21 => ?_) (fun c_21 => ?_)
        · have hv := hv.1 c_21
          refine lv_aload_n hx hb dX4_seek_37 rfl (lv_at hl 1 rfl) ?_
          refine cb_VI (As := []) (rest := []) ⟨hx, hb, hml, hown, hts⟩ (kX8_pop l dC dI cy (adl [h 1, h 2, h 3, h 4, h 5, h 6, h 7]) a1_letters a1_size a1_kind a1_exponent _ hv) (cwV 0 hts gX4_seek_X8_pop rfl rfl rfl zX8_pop ⟨Nat.le_of_ble_eq_true rfl, Nat.le_of_ble_eq_true rfl⟩) hK hP hD hS hA [1, 2] [none, some 0, some 1, none, none, none, none, none] rfl rfl rfl (ci := 8) rfl rfl (fun _ => rfl) rfl hl.1 rfl (Nat.le_of_ble_eq_true rfl) dX4_seek_38 (fun r_18 u_19 H locs hv hP hD hS => ?_)
          have hP : va_P (dC, dI) vwCl (pX4_seek cy h t_deepest a1_letters a1_tops a1_sums a1_lowPairs a1_highPairs a1_weights u_19 a1_kind a1_exponent) H := hP
          have hD : va_D A (pX4_seek cy h t_deepest a1_letters a1_tops a1_sums a1_lowPairs a1_highPairs a1_weights u_19 a1_kind a1_exponent) := hD
          refine lv_iconst (v := 1) hx hb dX4_seek_41 (by decide) ?_
          refine lv_iadd hx hb dX4_seek_42 ?_
          refine lv_istore (lv' := [(5, .int ((r_18 + 1))), (0, .ref (h 0)), (1, .ref (h 1)), (2, .int p2), (3, .int p3), (4, .int x4), (6, .int x6)]) hx hb dX4_seek_43 hl (by decide) rfl (fun ls hl => ?_)
          refine lv_goto (tgt := 115) hx hb dX4_seek_45 (by decide) ?_
          refine lv_iinc (v := (x6 + 1)) (lv' := [(6, .int ((x6 + 1))), (5, .int ((r_18 + 1))), (0, .ref (h 0)), (1, .ref (h 1)), (2, .int p2), (3, .int p3), (4, .int x4)]) hx hb dX4_seek_115 hl (k := 6) rfl rfl (by decide) rfl (fun ls hl => ?_)
          refine lv_goto (tgt := 14) hx hb dX4_seek_118 (by decide) ?_
          exact ih t_deepest a1_letters a1_tops a1_sums a1_lowPairs a1_highPairs u_19 x4 (r_18 + 1) (x6 + 1) hv _ _ _ hP hD hS (lv_sub hl [2, 3, 4, 5, 6, 1, 0] rfl)
        · have hv := hv.2 c_21
          refine lv_bipush (v := (-2)) hx hb dX4_seek_34 (by decide) ?_
          exact W.iret (v := (-2)) hx hb hr (fun t ht hW => ⟨⟨(-2), (t_deepest, a1_letters, a1_tops, a1_sums, a1_lowPairs, a1_highPairs, a1_size), rfl, hv, va_Ph ht hP⟩, hS.F ht⟩) hS.2.2 dX4_seek_36
set_option maxHeartbeats 4000000 in
set_option maxRecDepth 100000 in
theorem wX4_seek_0 {p : Program} (l : Launch) {e : Env} {s : State} {m : MethodId} {args : Array Value} {below : List Frame} {meth : Method} {c : Code} {dC : Nat → ClassId} {dI : Nat → Nat → Nat} {cy : Nat → ClassId} {A : Nat → Prop} (h : Nat → Nat) (post : Int32 → Int32 → (Nat → Int32) → (Nat → Int32) → (Nat → Int64) → (Nat → Int64) → (Nat → Int64) → Int32 → Prop)   (a1_weights : Nat → Int64) (a1_kind : Int32) (a1_exponent : Int32) (p2 : Int32) (p3 : Int32) (C0 : cx p s m args meth c cX4_seek 7 (some .int) wsX4_seek RX4 dC dI cy A)  : ∀ (t_deepest : Int32) (a1_letters : Nat → Int32) (a1_tops : Nat → Int32) (a1_sums : Nat → Int64) (a1_lowPairs : Nat → Int64) (a1_highPairs : Nat → Int64) (a1_size : Int32), VX4_seek post a1_weights a1_kind a1_exponent p2 p3 t_deepest a1_letters a1_tops a1_sums a1_lowPairs a1_highPairs a1_size → ∀ (H : Heap) (locs : List Loc) (ls : Array Slot), va_P (dC, dI) vwCl (pX4_seek cy h t_deepest a1_letters a1_tops a1_sums a1_lowPairs a1_highPairs a1_weights a1_size a1_kind a1_exponent) H → va_D A (pX4_seek cy h t_deepest a1_letters a1_tops a1_sums a1_lowPairs a1_highPairs a1_weights a1_size a1_kind a1_exponent) → va_S A s.heap H locs → lv_has ls 7 [(0, .ref (h 0)), (1, .ref (h 1)), (2, .int p2), (3, .int p3)] → W p l e rX4_seek s m args below meth c H locs 0 0 (MQ below (va_Qi (fun (r : Int32) (u : Int32 × (Nat → Int32) × (Nat → Int32) × (Nat → Int64) × (Nat → Int64) × (Nat → Int64) × Int32) => post r u.1 u.2.1 u.2.2.1 u.2.2.2.1 u.2.2.2.2.1 u.2.2.2.2.2.1 u.2.2.2.2.2.2) (fun (u : Int32 × (Nat → Int32) × (Nat → Int32) × (Nat → Int64) × (Nat → Int64) × (Nat → Int64) × Int32) (t : State) => va_P (dC, dI) vwCl (pX4_seek cy h u.1 u.2.1 u.2.2.1 u.2.2.2.1 u.2.2.2.2.1 u.2.2.2.2.2.1 a1_weights u.2.2.2.2.2.2 a1_kind a1_exponent) t.heap) A) args s 0 0 A) (F0 m 0 ls []) := by
  have C1 := C0
  obtain ⟨hx, hb, hr, hml, hown, hts, hlocks, hK, hA⟩ := C1
  intro t_deepest a1_letters a1_tops a1_sums a1_lowPairs a1_highPairs a1_size hv H locs ls hP hD hS hl
  refine lv_iconst (v := 0) hx hb dX4_seek_0 (by decide) ?_
  refine lv_istore (lv' := [(4, .int 0), (0, .ref (h 0)), (1, .ref (h 1)), (2, .int p2), (3, .int p3)]) hx hb dX4_seek_1 hl (by decide) rfl (fun ls hl => ?_)
  refine lv_iconst (v := 0) hx hb dX4_seek_3 (by decide) ?_
  refine lv_istore (lv' := [(5, .int 0), (4, .int 0), (0, .ref (h 0)), (1, .ref (h 1)), (2, .int p2), (3, .int p3)]) hx hb dX4_seek_4 hl (by decide) rfl (fun ls hl => ?_)
  refine lv_aload_n hx hb dX4_seek_6 rfl (lv_at hl 2 rfl) ?_
  refine lv_iconst (v := 0) hx hb dX4_seek_7 (by decide) ?_
  refine va_put (D := (dC, dI)) (ci := 4) (v := .int 0) (ty := .int) (C := RX4) (T := TX4) (N := 1) hx hb hts nX4_seek_X4 tyX4 tyX4_ok nmX4 hown hK hP hD hS 0 rfl rfl 0 (by decide) (hts _ mX4_seek_1) (fun _ h9 => h9) rfl (by decide +kernel) rfl rfl (Nat.le_of_ble_eq_true rfl) dX4_seek_8 (fun H locs hP hD hS => ?_)
  have hP : va_P (dC, dI) vwCl (pX4_seek cy h 0 a1_letters a1_tops a1_sums a1_lowPairs a1_highPairs a1_weights a1_size a1_kind a1_exponent) H := hP
  have hD : va_D A (pX4_seek cy h 0 a1_letters a1_tops a1_sums a1_lowPairs a1_highPairs a1_weights a1_size a1_kind a1_exponent) := hD
  refine lv_iconst (v := 0) hx hb dX4_seek_11 (by decide) ?_
  refine lv_istore (lv' := [(6, .int 0), (5, .int 0), (4, .int 0), (0, .ref (h 0)), (1, .ref (h 1)), (2, .int p2), (3, .int p3)]) hx hb dX4_seek_12 hl (by decide) rfl (fun ls hl => ?_)
  obtain ⟨n_1, hv⟩ := hv
  exact wX4_seek_14 l h post  a1_weights a1_kind a1_exponent p2 p3 C0 n_1 0 a1_letters a1_tops a1_sums a1_lowPairs a1_highPairs a1_size 0 0 0 hv _ _ _ hP hD hS (lv_sub hl [3, 4, 5, 6, 2, 1, 0] rfl)
theorem kX4_seek (l : Launch) (dC : Nat → ClassId) (dI : Nat → Nat → Nat) (cy : Nat → ClassId) (h : Nat → Nat) (t_deepest : Int32) (a1_letters : Nat → Int32) (a1_tops : Nat → Int32) (a1_sums : Nat → Int64) (a1_lowPairs : Nat → Int64) (a1_highPairs : Nat → Int64) (a1_weights : Nat → Int64) (a1_size : Int32) (a1_kind : Int32) (a1_exponent : Int32) (p2 : Int32) (p3 : Int32) (post : Int32 → Int32 → (Nat → Int32) → (Nat → Int32) → (Nat → Int64) → (Nat → Int64) → (Nat → Int64) → Int32 → Prop) (hv : VX4_seek post a1_weights a1_kind a1_exponent p2 p3 t_deepest a1_letters a1_tops a1_sums a1_lowPairs a1_highPairs a1_size) : CtI l yX4_seek wsX4_seek rX4_seek dC dI cy [.ref (h 0), .ref (h 1), .int p2, .int p3] (pX4_seek cy h t_deepest a1_letters a1_tops a1_sums a1_lowPairs a1_highPairs a1_weights a1_size a1_kind a1_exponent) (fun (u : Int32 × (Nat → Int32) × (Nat → Int32) × (Nat → Int64) × (Nat → Int64) × (Nat → Int64) × Int32) => pX4_seek cy h u.1 u.2.1 u.2.2.1 u.2.2.2.1 u.2.2.2.2.1 u.2.2.2.2.2.1 a1_weights u.2.2.2.2.2.2 a1_kind a1_exponent) (fun (r : Int32) (u : Int32 × (Nat → Int32) × (Nat → Int32) × (Nat → Int64) × (Nat → Int64) × (Nat → Int64) × Int32) => post r u.1 u.2.1 u.2.2.1 u.2.2.2.1 u.2.2.2.2.1 u.2.2.2.2.2.1 u.2.2.2.2.2.2) :=
  ct_ofI (by decide) rfl (Nat.le_of_ble_eq_true rfl) (fun p e s m below meth c A ls C0 hP hD hS hl => wX4_seek_0 l h post a1_weights a1_kind a1_exponent p2 p3 C0 t_deepest a1_letters a1_tops a1_sums a1_lowPairs a1_highPairs a1_size hv _ _ _ hP hD hS hl)
theorem mX4_countWords_1 : (Cond.constant RX4 15 (1000000)) ∈ wsX4_countWords := List.mem_of_getElem? (i := 1) rfl
theorem mX4_countWords_2 : (Cond.fieldLink RX4 38 "AbelianPowers$Trail" "tops" "[I") ∈ wsX4_countWords := List.mem_of_getElem? (i := 2) rfl
theorem mX4_countWords_3 : (Cond.fieldLink RX4 16 "AbelianPowers$Trail" "size" "I") ∈ wsX4_countWords := List.mem_of_getElem? (i := 3) rfl
theorem mX4_countWords_4 : (Cond.methodLink RX4 42 Lib.Math.min.name) ∈ wsX4_countWords := List.mem_of_getElem? (i := 4) rfl
theorem mX4_countWords_5 : (Cond.static Lib.Math.min.name) ∈ wsX4_countWords := List.mem_of_getElem? (i := 5) rfl
theorem mX4_countWords_6 : (Cond.initialized "java/lang/Math") ∈ wsX4_countWords := List.mem_of_getElem? (i := 6) rfl
theorem mX4_countWords_7 : (Cond.code Lib.Math.min.name Lib.Math.min.code 2 (some .int)) ∈ wsX4_countWords := List.mem_of_getElem? (i := 7) rfl
theorem nX4_countWords_X8 : ∀ w ∈ wsX80, w ∈ wsX4_countWords := fun _ h => List.mem_cons_of_mem _ (List.mem_append_right _ h)
theorem zX4_countWords : yX4_countWords.cls ≠ "java/lang/invoke/MethodHandle" ∧ yX4_countWords.cls ≠ "java/lang/invoke/VarHandle" ∧ (parseMethodDescriptor yX4_countWords.desc).map (fun d => d.parameters.length) = some 4 := by decide +kernel
abbrev rX4_countWords : Room := { frames := 4, cells := 0, slots := 0, locals := 91 }
abbrev pX4_countWords (cy : Nat → ClassId) (h : Nat → Nat) (a0_letters : Nat → Int32) (a0_tops : Nat → Int32) (a0_sums : Nat → Int64) (a0_lowPairs : Nat → Int64) (a0_highPairs : Nat → Int64) (a0_weights : Nat → Int64) (a0_size : Int32) (a0_kind : Int32) (a0_exponent : Int32) : va_W := [(h 0, .inr (8, [.ref (h 1), .ref (h 2), .ref (h 3), .ref (h 4), .ref (h 5), .ref (h 6), .int a0_size, .int a0_kind, .int a0_exponent])), (h 1, .inl (cy 0, 41, .inl a0_letters)), (h 2, .inl (cy 0, 42, .inl a0_tops)), (h 3, .inl (cy 1, 42, .inr (.inl a0_sums))), (h 4, .inl (cy 1, 42, .inr (.inl a0_lowPairs))), (h 5, .inl (cy 1, 42, .inr (.inl a0_highPairs))), (h 6, .inl (cy 1, 4, .inr (.inl a0_weights)))]
def VX4_countWords_126 (post : Int32 → (Nat → Int32) → (Nat → Int32) → (Nat → Int64) → (Nat → Int64) → (Nat → Int64) → Int32 → Prop) (K15 : (Nat → Int32) → (Nat → Int32) → (Nat → Int64) → (Nat → Int64) → (Nat → Int64) → Int32 → Int32 → Int32 → Int32 → Prop) (a0_weights : Nat → Int64) (a0_kind : Int32) (a0_exponent : Int32) (p1 : Int32) (p2 : Int32) (p3 : Int32) (a0_letters : Nat → Int32) (a0_tops : Nat → Int32) (a0_sums : Nat → Int64) (a0_lowPairs : Nat → Int64) (a0_highPairs : Nat → Int64) (a0_size : Int32) (x6 : Int32) (s0 : Int32) (s1 : Int32) : Prop := VX8_pop (fun r_27 u_28 => K15 a0_letters a0_tops a0_sums a0_lowPairs a0_highPairs u_28 (s1 + s0) (r_27 + 1) (x6 + 1)) a0_letters a0_size
def VX4_countWords_93 (post : Int32 → (Nat → Int32) → (Nat → Int32) → (Nat → Int64) → (Nat → Int64) → (Nat → Int64) → Int32 → Prop) (K15 : (Nat → Int32) → (Nat → Int32) → (Nat → Int64) → (Nat → Int64) → (Nat → Int64) → Int32 → Int32 → Int32 → Int32 → Prop) (a0_weights : Nat → Int64) (a0_kind : Int32) (a0_exponent : Int32) (p1 : Int32) (p2 : Int32) (p3 : Int32) (a0_letters : Nat → Int32) (a0_tops : Nat → Int32) (a0_sums : Nat → Int64) (a0_lowPairs : Nat → Int64) (a0_highPairs : Nat → Int64) (a0_size : Int32) (x4 : Int32) (x6 : Int32) (s0 : Int32) : Prop := ((s0 = 0) → ((s0 = 0) → VX4_countWords_126 post K15 a0_weights a0_kind a0_exponent p1 p2 p3 a0_letters a0_tops a0_sums a0_lowPairs a0_highPairs a0_size x6 0 x4) ∧ (¬ (s0 = 0) → VX4_countWords_126 post K15 a0_weights a0_kind a0_exponent p1 p2 p3 a0_letters a0_tops a0_sums a0_lowPairs a0_highPairs a0_size x6 1 x4)) ∧ (¬ (s0 = 0) → ((p1 ≤ a0_size) → ((s0 = 0) → VX4_countWords_126 post K15 a0_weights a0_kind a0_exponent p1 p2 p3 a0_letters a0_tops a0_sums a0_lowPairs a0_highPairs a0_size x6 0 x4) ∧ (¬ (s0 = 0) → VX4_countWords_126 post K15 a0_weights a0_kind a0_exponent p1 p2 p3 a0_letters a0_tops a0_sums a0_lowPairs a0_highPairs a0_size x6 1 x4)) ∧ (¬ (p1 ≤ a0_size) → K15 a0_letters a0_tops a0_sums a0_lowPairs a0_highPairs a0_size x4 0 (x6 + 1)))
def VX4_countWords_45 (post : Int32 → (Nat → Int32) → (Nat → Int32) → (Nat → Int64) → (Nat → Int64) → (Nat → Int64) → Int32 → Prop) (K15 : (Nat → Int32) → (Nat → Int32) → (Nat → Int64) → (Nat → Int64) → (Nat → Int64) → Int32 → Int32 → Int32 → Int32 → Prop) (a0_weights : Nat → Int64) (a0_kind : Int32) (a0_exponent : Int32) (p1 : Int32) (p2 : Int32) (p3 : Int32) (a0_letters : Nat → Int32) (a0_tops : Nat → Int32) (a0_sums : Nat → Int64) (a0_lowPairs : Nat → Int64) (a0_highPairs : Nat → Int64) (a0_size : Int32) (x4 : Int32) (x5 : Int32) (x6 : Int32) (s0 : Int32) : Prop := ((x5 < s0) → VX8_push (fun u_8 u_9 u_10 u_11 u_12 u_13 => VX8_shortestPowerAtEnd (fun r_14 => (¬ (r_14 = 0) → VX4_countWords_93 post K15 a0_weights a0_kind a0_exponent p1 p2 p3 u_8 u_9 u_10 u_11 u_12 u_13 x4 x6 0) ∧ ((r_14 = 0) → VX4_countWords_93 post K15 a0_weights a0_kind a0_exponent p1 p2 p3 u_8 u_9 u_10 u_11 u_12 u_13 x4 x6 1)) u_8 u_10 u_11 u_12 u_13 a0_kind a0_exponent) a0_weights a0_kind x5 a0_letters a0_tops a0_sums a0_lowPairs a0_highPairs a0_size) ∧ (¬ (x5 < s0) → (¬ (a0_size = 0) → VX8_pop (fun r_18 u_19 => K15 a0_letters a0_tops a0_sums a0_lowPairs a0_highPairs u_19 x4 (r_18 + 1) (x6 + 1)) a0_letters a0_size) ∧ ((a0_size = 0) → post x4 a0_letters a0_tops a0_sums a0_lowPairs a0_highPairs a0_size))
def VX4_countWords_15 (post : Int32 → (Nat → Int32) → (Nat → Int32) → (Nat → Int64) → (Nat → Int64) → (Nat → Int64) → Int32 → Prop)  (a0_weights : Nat → Int64) (a0_kind : Int32) (a0_exponent : Int32) (p1 : Int32) (p2 : Int32) (p3 : Int32) : Nat → (Nat → Int32) → (Nat → Int32) → (Nat → Int64) → (Nat → Int64) → (Nat → Int64) → Int32 → Int32 → Int32 → Int32 → Prop
  | 0, _, _, _, _, _, _, _, _, _ => False
  | n + 1, a0_letters, a0_tops, a0_sums, a0_lowPairs, a0_highPairs, a0_size, x4, x5, x6 => ((1000000 ≤ x6) → post x4 a0_letters a0_tops a0_sums a0_lowPairs a0_highPairs a0_size) ∧ (¬ (1000000 ≤ x6) → ((p3 = 0) → VX4_countWords_45 post (fun a0_letters a0_tops a0_sums a0_lowPairs a0_highPairs a0_size x4 x5 x6 => VX4_countWords_15 post a0_weights a0_kind a0_exponent p1 p2 p3 n a0_letters a0_tops a0_sums a0_lowPairs a0_highPairs a0_size x4 x5 x6) a0_weights a0_kind a0_exponent p1 p2 p3 a0_letters a0_tops a0_sums a0_lowPairs a0_highPairs a0_size x4 x5 x6 p2) ∧ (¬ (p3 = 0) → vp_in a0_size 42 ∧ (∀ y_3 : Int32, y_3 = (a0_tops a0_size.toNatClampNeg) → ∀ y_5 : Int32, y_5 = (if (y_3 + 1) < p2 then (y_3 + 1) else p2) → VX4_countWords_45 post (fun a0_letters a0_tops a0_sums a0_lowPairs a0_highPairs a0_size x4 x5 x6 => VX4_countWords_15 post a0_weights a0_kind a0_exponent p1 p2 p3 n a0_letters a0_tops a0_sums a0_lowPairs a0_highPairs a0_size x4 x5 x6) a0_weights a0_kind a0_exponent p1 p2 p3 a0_letters a0_tops a0_sums a0_lowPairs a0_highPairs a0_size x4 x5 x6 y_5)))
def VX4_countWords (post : Int32 → (Nat → Int32) → (Nat → Int32) → (Nat → Int64) → (Nat → Int64) → (Nat → Int64) → Int32 → Prop)  (a0_weights : Nat → Int64) (a0_kind : Int32) (a0_exponent : Int32) (p1 : Int32) (p2 : Int32) (p3 : Int32) (a0_letters : Nat → Int32) (a0_tops : Nat → Int32) (a0_sums : Nat → Int64) (a0_lowPairs : Nat → Int64) (a0_highPairs : Nat → Int64) (a0_size : Int32) : Prop := (¬ (p1 = 0) → ∃ n15 : Nat, VX4_countWords_15 post a0_weights a0_kind a0_exponent p1 p2 p3 n15 a0_letters a0_tops a0_sums a0_lowPairs a0_highPairs a0_size 0 0 0) ∧ ((p1 = 0) → post (1 : Int32) a0_letters a0_tops a0_sums a0_lowPairs a0_highPairs a0_size)
set_option maxHeartbeats 4000000 in
set_option maxRecDepth 100000 in
theorem wX4_countWords_126 {p : Program} (l : Launch) {e : Env} {s : State} {m : MethodId} {args : Array Value} {below : List Frame} {meth : Method} {c : Code} {dC : Nat → ClassId} {dI : Nat → Nat → Nat} {cy : Nat → ClassId} {A : Nat → Prop} (h : Nat → Nat) (post : Int32 → (Nat → Int32) → (Nat → Int32) → (Nat → Int64) → (Nat → Int64) → (Nat → Int64) → Int32 → Prop) (K15 : (Nat → Int32) → (Nat → Int32) → (Nat → Int64) → (Nat → Int64) → (Nat → Int64) → Int32 → Int32 → Int32 → Int32 → Prop)  (a0_weights : Nat → Int64) (a0_kind : Int32) (a0_exponent : Int32) (p1 : Int32) (p2 : Int32) (p3 : Int32) (C0 : cx p s m args meth c cX4_countWords 9 (some .int) wsX4_countWords RX4 dC dI cy A) (hK15 : ∀ (a0_letters : Nat → Int32) (a0_tops : Nat → Int32) (a0_sums : Nat → Int64) (a0_lowPairs : Nat → Int64) (a0_highPairs : Nat → Int64) (a0_size : Int32) (x4 : Int32) (x5 : Int32) (x6 : Int32), K15 a0_letters a0_tops a0_sums a0_lowPairs a0_highPairs a0_size x4 x5 x6 → ∀ (H : Heap) (locs : List Loc) (ls : Array Slot), va_P (dC, dI) vwCl (pX4_countWords cy h a0_letters a0_tops a0_sums a0_lowPairs a0_highPairs a0_weights a0_size a0_kind a0_exponent) H → va_D A (pX4_countWords cy h a0_letters a0_tops a0_sums a0_lowPairs a0_highPairs a0_weights a0_size a0_kind a0_exponent) → va_S A s.heap H locs → lv_has ls 9 [(0, .ref (h 0)), (1, .int p1), (2, .int p2), (3, .int p3), (4, .int x4), (5, .int x5), (6, .int x6)] → W p l e rX4_countWords s m args below meth c H locs 0 0 (MQ below (va_Qi (fun (r : Int32) (u : (Nat → Int32) × (Nat → Int32) × (Nat → Int64) × (Nat → Int64) × (Nat → Int64) × Int32) => post r u.1 u.2.1 u.2.2.1 u.2.2.2.1 u.2.2.2.2.1 u.2.2.2.2.2) (fun (u : (Nat → Int32) × (Nat → Int32) × (Nat → Int64) × (Nat → Int64) × (Nat → Int64) × Int32) (t : State) => va_P (dC, dI) vwCl (pX4_countWords cy h u.1 u.2.1 u.2.2.1 u.2.2.2.1 u.2.2.2.2.1 a0_weights u.2.2.2.2.2 a0_kind a0_exponent) t.heap) A) args s 0 0 A) (F0 m 15 ls [])) : ∀ (a0_letters : Nat → Int32) (a0_tops : Nat → Int32) (a0_sums : Nat → Int64) (a0_lowPairs : Nat → Int64) (a0_highPairs : Nat → Int64) (a0_size : Int32) (x6 : Int32) (s0 : Int32) (s1 : Int32), VX4_countWords_126 post K15 a0_weights a0_kind a0_exponent p1 p2 p3 a0_letters a0_tops a0_sums a0_lowPairs a0_highPairs a0_size x6 s0 s1 → ∀ (H : Heap) (locs : List Loc) (ls : Array Slot), va_P (dC, dI) vwCl (pX4_countWords cy h a0_letters a0_tops a0_sums a0_lowPairs a0_highPairs a0_weights a0_size a0_kind a0_exponent) H → va_D A (pX4_countWords cy h a0_letters a0_tops a0_sums a0_lowPairs a0_highPairs a0_weights a0_size a0_kind a0_exponent) → va_S A s.heap H locs → lv_has ls 9 [(0, .ref (h 0)), (1, .int p1), (2, .int p2), (3, .int p3), (6, .int x6)] → W p l e rX4_countWords s m args below meth c H locs 0 0 (MQ below (va_Qi (fun (r : Int32) (u : (Nat → Int32) × (Nat → Int32) × (Nat → Int64) × (Nat → Int64) × (Nat → Int64) × Int32) => post r u.1 u.2.1 u.2.2.1 u.2.2.2.1 u.2.2.2.2.1 u.2.2.2.2.2) (fun (u : (Nat → Int32) × (Nat → Int32) × (Nat → Int64) × (Nat → Int64) × (Nat → Int64) × Int32) (t : State) => va_P (dC, dI) vwCl (pX4_countWords cy h u.1 u.2.1 u.2.2.1 u.2.2.2.1 u.2.2.2.2.1 a0_weights u.2.2.2.2.2 a0_kind a0_exponent) t.heap) A) args s 0 0 A) (F0 m 126 ls [.int s0, .int s1]) := by
  have C1 := C0
  obtain ⟨hx, hb, hr, hml, hown, hts, hlocks, hK, hA⟩ := C1
  intro a0_letters a0_tops a0_sums a0_lowPairs a0_highPairs a0_size x6 s0 s1 hv H locs ls hP hD hS hl
  refine lv_iadd hx hb dX4_countWords_126 ?_
  refine lv_istore (lv' := [(4, .int ((s1 + s0))), (0, .ref (h 0)), (1, .int p1), (2, .int p2), (3, .int p3), (6, .int x6)]) hx hb dX4_countWords_127 hl (by decide) rfl (fun ls hl => ?_)
  refine lv_aload_n hx hb dX4_countWords_129 rfl (lv_at hl 1 rfl) ?_
  refine cb_VI (As := []) (rest := []) ⟨hx, hb, hml, hown, hts⟩ (kX8_pop l dC dI cy (adl [h 0, h 1, h 2, h 3, h 4, h 5, h 6]) a0_letters a0_size a0_kind a0_exponent _ hv) (cwV 0 hts gX4_countWords_X8_pop rfl rfl rfl zX8_pop ⟨Nat.le_of_ble_eq_true rfl, Nat.le_of_ble_eq_true rfl⟩) hK hP hD hS hA [0, 1] [some 0, some 1, none, none, none, none, none] rfl rfl rfl (ci := 8) rfl rfl (fun _ => rfl) rfl hl.1 rfl (Nat.le_of_ble_eq_true rfl) dX4_countWords_130 (fun r_27 u_28 H locs hv hP hD hS => ?_)
  have hP : va_P (dC, dI) vwCl (pX4_countWords cy h a0_letters a0_tops a0_sums a0_lowPairs a0_highPairs a0_weights u_28 a0_kind a0_exponent) H := hP
  have hD : va_D A (pX4_countWords cy h a0_letters a0_tops a0_sums a0_lowPairs a0_highPairs a0_weights u_28 a0_kind a0_exponent) := hD
  refine lv_iconst (v := 1) hx hb dX4_countWords_133 (by decide) ?_
  refine lv_iadd hx hb dX4_countWords_134 ?_
  refine lv_istore (lv' := [(5, .int ((r_27 + 1))), (4, .int ((s1 + s0))), (0, .ref (h 0)), (1, .int p1), (2, .int p2), (3, .int p3), (6, .int x6)]) hx hb dX4_countWords_135 hl (by decide) rfl (fun ls hl => ?_)
  refine lv_iinc (v := (x6 + 1)) (lv' := [(6, .int ((x6 + 1))), (5, .int ((r_27 + 1))), (4, .int ((s1 + s0))), (0, .ref (h 0)), (1, .int p1), (2, .int p2), (3, .int p3)]) hx hb dX4_countWords_137 hl (k := 6) rfl rfl (by decide) rfl (fun ls hl => ?_)
  refine lv_goto (tgt := 15) hx hb dX4_countWords_140 (by decide) ?_
  exact hK15 a0_letters a0_tops a0_sums a0_lowPairs a0_highPairs u_28 (s1 + s0) (r_27 + 1) (x6 + 1) hv _ _ _ hP hD hS (lv_sub hl [3, 4, 5, 6, 2, 1, 0] rfl)
set_option maxHeartbeats 4000000 in
set_option maxRecDepth 100000 in
theorem wX4_countWords_93 {p : Program} (l : Launch) {e : Env} {s : State} {m : MethodId} {args : Array Value} {below : List Frame} {meth : Method} {c : Code} {dC : Nat → ClassId} {dI : Nat → Nat → Nat} {cy : Nat → ClassId} {A : Nat → Prop} (h : Nat → Nat) (post : Int32 → (Nat → Int32) → (Nat → Int32) → (Nat → Int64) → (Nat → Int64) → (Nat → Int64) → Int32 → Prop) (K15 : (Nat → Int32) → (Nat → Int32) → (Nat → Int64) → (Nat → Int64) → (Nat → Int64) → Int32 → Int32 → Int32 → Int32 → Prop)  (a0_weights : Nat → Int64) (a0_kind : Int32) (a0_exponent : Int32) (p1 : Int32) (p2 : Int32) (p3 : Int32) (C0 : cx p s m args meth c cX4_countWords 9 (some .int) wsX4_countWords RX4 dC dI cy A) (hK15 : ∀ (a0_letters : Nat → Int32) (a0_tops : Nat → Int32) (a0_sums : Nat → Int64) (a0_lowPairs : Nat → Int64) (a0_highPairs : Nat → Int64) (a0_size : Int32) (x4 : Int32) (x5 : Int32) (x6 : Int32), K15 a0_letters a0_tops a0_sums a0_lowPairs a0_highPairs a0_size x4 x5 x6 → ∀ (H : Heap) (locs : List Loc) (ls : Array Slot), va_P (dC, dI) vwCl (pX4_countWords cy h a0_letters a0_tops a0_sums a0_lowPairs a0_highPairs a0_weights a0_size a0_kind a0_exponent) H → va_D A (pX4_countWords cy h a0_letters a0_tops a0_sums a0_lowPairs a0_highPairs a0_weights a0_size a0_kind a0_exponent) → va_S A s.heap H locs → lv_has ls 9 [(0, .ref (h 0)), (1, .int p1), (2, .int p2), (3, .int p3), (4, .int x4), (5, .int x5), (6, .int x6)] → W p l e rX4_countWords s m args below meth c H locs 0 0 (MQ below (va_Qi (fun (r : Int32) (u : (Nat → Int32) × (Nat → Int32) × (Nat → Int64) × (Nat → Int64) × (Nat → Int64) × Int32) => post r u.1 u.2.1 u.2.2.1 u.2.2.2.1 u.2.2.2.2.1 u.2.2.2.2.2) (fun (u : (Nat → Int32) × (Nat → Int32) × (Nat → Int64) × (Nat → Int64) × (Nat → Int64) × Int32) (t : State) => va_P (dC, dI) vwCl (pX4_countWords cy h u.1 u.2.1 u.2.2.1 u.2.2.2.1 u.2.2.2.2.1 a0_weights u.2.2.2.2.2 a0_kind a0_exponent) t.heap) A) args s 0 0 A) (F0 m 15 ls [])) : ∀ (a0_letters : Nat → Int32) (a0_tops : Nat → Int32) (a0_sums : Nat → Int64) (a0_lowPairs : Nat → Int64) (a0_highPairs : Nat → Int64) (a0_size : Int32) (x4 : Int32) (x6 : Int32) (s0 : Int32), VX4_countWords_93 post K15 a0_weights a0_kind a0_exponent p1 p2 p3 a0_letters a0_tops a0_sums a0_lowPairs a0_highPairs a0_size x4 x6 s0 → ∀ (H : Heap) (locs : List Loc) (ls : Array Slot), va_P (dC, dI) vwCl (pX4_countWords cy h a0_letters a0_tops a0_sums a0_lowPairs a0_highPairs a0_weights a0_size a0_kind a0_exponent) H → va_D A (pX4_countWords cy h a0_letters a0_tops a0_sums a0_lowPairs a0_highPairs a0_weights a0_size a0_kind a0_exponent) → va_S A s.heap H locs → lv_has ls 9 [(0, .ref (h 0)), (1, .int p1), (2, .int p2), (3, .int p3), (4, .int x4), (6, .int x6)] → W p l e rX4_countWords s m args below meth c H locs 0 0 (MQ below (va_Qi (fun (r : Int32) (u : (Nat → Int32) × (Nat → Int32) × (Nat → Int64) × (Nat → Int64) × (Nat → Int64) × Int32) => post r u.1 u.2.1 u.2.2.1 u.2.2.2.1 u.2.2.2.2.1 u.2.2.2.2.2) (fun (u : (Nat → Int32) × (Nat → Int32) × (Nat → Int64) × (Nat → Int64) × (Nat → Int64) × Int32) (t : State) => va_P (dC, dI) vwCl (pX4_countWords cy h u.1 u.2.1 u.2.2.1 u.2.2.2.1 u.2.2.2.2.1 a0_weights u.2.2.2.2.2 a0_kind a0_exponent) t.heap) A) args s 0 0 A) (F0 m 93 ls [.int s0]) := by
  have C1 := C0
  obtain ⟨hx, hb, hr, hml, hown, hts, hlocks, hK, hA⟩ := C1
  intro a0_letters a0_tops a0_sums a0_lowPairs a0_highPairs a0_size x4 x6 s0 hv H locs ls hP hD hS hl
  refine lv_istore (lv' := [(8, .int s0), (0, .ref (h 0)), (1, .int p1), (2, .int p2), (3, .int p3), (4, .int x4), (6, .int x6)]) hx hb dX4_countWords_93 hl (by decide) rfl (fun ls hl => ?_)
  refine lv_iload hx hb dX4_countWords_95 (lv_at hl 0 rfl) ?_
  refine lv_if_eq (tgt := 114) hx hb dX4_countWords_97 (by decide) (fun c_26 => ?_) (fun c_26 => ?_)
  · have hv := hv.1 c_26
    refine lv_iload hx hb dX4_countWords_114 (lv_at hl 5 rfl) ?_
    refine lv_iload hx hb dX4_countWords_116 (lv_at hl 0 rfl) ?_
    refine lv_if_eq (tgt := 125) hx hb dX4_countWords_118 (by decide) (fun c_23 => ?_) (fun c_23 => ?_)
    · have hv := hv.1 c_23
      refine lv_iconst (v := 0) hx hb dX4_countWords_125 (by decide) ?_
      exact wX4_countWords_126 l h post K15  a0_weights a0_kind a0_exponent p1 p2 p3 C0 hK15 a0_letters a0_tops a0_sums a0_lowPairs a0_highPairs a0_size x6 0 x4 hv _ _ _ hP hD hS (lv_sub hl [1, 2, 3, 4, 6] rfl)
    · have hv := hv.2 c_23
      refine lv_iconst (v := 1) hx hb dX4_countWords_121 (by decide) ?_
      refine lv_goto (tgt := 126) hx hb dX4_countWords_122 (by decide) ?_
      exact wX4_countWords_126 l h post K15  a0_weights a0_kind a0_exponent p1 p2 p3 C0 hK15 a0_letters a0_tops a0_sums a0_lowPairs a0_highPairs a0_size x6 1 x4 hv _ _ _ hP hD hS (lv_sub hl [1, 2, 3, 4, 6] rfl)
  · have hv := hv.2 c_26
    refine lv_aload_n hx hb dX4_countWords_100 rfl (lv_at hl 1 rfl) ?_
    refine va_get (D := (dC, dI)) (ci := 8) (v := .int a0_size) (C := RX8) (T := TX8) (N := 9) hx hb hts nX4_countWords_X8 hown hK hP 0 rfl rfl 6 (by decide) (hts _ mX4_countWords_3) (fun _ h9 => h9) rfl dX4_countWords_101 ?_
    refine lv_iload_n hx hb dX4_countWords_104 rfl (lv_at hl 2 rfl) ?_
    refine lv_icmp_ge (tgt := 114) hx hb dX4_countWords_105 (by decide) (fun c_25 => ?_) (fun c_25 => ?_)
    · have hv := hv.1 c_25
      refine lv_iload hx hb dX4_countWords_114 (lv_at hl 5 rfl) ?_
      refine lv_iload hx hb dX4_countWords_116 (lv_at hl 0 rfl) ?_
      refine lv_if_eq (tgt := 125) hx hb dX4_countWords_118 (by decide) (fun c_24 => ?_) (fun c_24 => ?_)
      · have hv := hv.1 c_24
        refine lv_iconst (v := 0) hx hb dX4_countWords_125 (by decide) ?_
        exact wX4_countWords_126 l h post K15  a0_weights a0_kind a0_exponent p1 p2 p3 C0 hK15 a0_letters a0_tops a0_sums a0_lowPairs a0_highPairs a0_size x6 0 x4 hv _ _ _ hP hD hS (lv_sub hl [1, 2, 3, 4, 6] rfl)
      · have hv := hv.2 c_24
        refine lv_iconst (v := 1) hx hb dX4_countWords_121 (by decide) ?_
        refine lv_goto (tgt := 126) hx hb dX4_countWords_122 (by decide) ?_
        exact wX4_countWords_126 l h post K15  a0_weights a0_kind a0_exponent p1 p2 p3 C0 hK15 a0_letters a0_tops a0_sums a0_lowPairs a0_highPairs a0_size x6 1 x4 hv _ _ _ hP hD hS (lv_sub hl [1, 2, 3, 4, 6] rfl)
    · have hv := hv.2 c_25
      refine lv_iconst (v := 0) hx hb dX4_countWords_108 (by decide) ?_
      refine lv_istore (lv' := [(5, .int 0), (8, .int s0), (0, .ref (h 0)), (1, .int p1), (2, .int p2), (3, .int p3), (4, .int x4), (6, .int x6)]) hx hb dX4_countWords_109 hl (by decide) rfl (fun ls hl => ?_)
      refine lv_goto (tgt := 137) hx hb dX4_countWords_111 (by decide) ?_
      refine lv_iinc (v := (x6 + 1)) (lv' := [(6, .int ((x6 + 1))), (5, .int 0), (8, .int s0), (0, .ref (h 0)), (1, .int p1), (2, .int p2), (3, .int p3), (4, .int x4)]) hx hb dX4_countWords_137 hl (k := 7) rfl rfl (by decide) rfl (fun ls hl => ?_)
      refine lv_goto (tgt := 15) hx hb dX4_countWords_140 (by decide) ?_
      exact hK15 a0_letters a0_tops a0_sums a0_lowPairs a0_highPairs a0_size x4 0 (x6 + 1) hv _ _ _ hP hD hS (lv_sub hl [3, 4, 5, 6, 7, 1, 0] rfl)
set_option maxHeartbeats 4000000 in
set_option maxRecDepth 100000 in
theorem wX4_countWords_45 {p : Program} (l : Launch) {e : Env} {s : State} {m : MethodId} {args : Array Value} {below : List Frame} {meth : Method} {c : Code} {dC : Nat → ClassId} {dI : Nat → Nat → Nat} {cy : Nat → ClassId} {A : Nat → Prop} (h : Nat → Nat) (post : Int32 → (Nat → Int32) → (Nat → Int32) → (Nat → Int64) → (Nat → Int64) → (Nat → Int64) → Int32 → Prop) (K15 : (Nat → Int32) → (Nat → Int32) → (Nat → Int64) → (Nat → Int64) → (Nat → Int64) → Int32 → Int32 → Int32 → Int32 → Prop)  (a0_weights : Nat → Int64) (a0_kind : Int32) (a0_exponent : Int32) (p1 : Int32) (p2 : Int32) (p3 : Int32) (C0 : cx p s m args meth c cX4_countWords 9 (some .int) wsX4_countWords RX4 dC dI cy A) (hK15 : ∀ (a0_letters : Nat → Int32) (a0_tops : Nat → Int32) (a0_sums : Nat → Int64) (a0_lowPairs : Nat → Int64) (a0_highPairs : Nat → Int64) (a0_size : Int32) (x4 : Int32) (x5 : Int32) (x6 : Int32), K15 a0_letters a0_tops a0_sums a0_lowPairs a0_highPairs a0_size x4 x5 x6 → ∀ (H : Heap) (locs : List Loc) (ls : Array Slot), va_P (dC, dI) vwCl (pX4_countWords cy h a0_letters a0_tops a0_sums a0_lowPairs a0_highPairs a0_weights a0_size a0_kind a0_exponent) H → va_D A (pX4_countWords cy h a0_letters a0_tops a0_sums a0_lowPairs a0_highPairs a0_weights a0_size a0_kind a0_exponent) → va_S A s.heap H locs → lv_has ls 9 [(0, .ref (h 0)), (1, .int p1), (2, .int p2), (3, .int p3), (4, .int x4), (5, .int x5), (6, .int x6)] → W p l e rX4_countWords s m args below meth c H locs 0 0 (MQ below (va_Qi (fun (r : Int32) (u : (Nat → Int32) × (Nat → Int32) × (Nat → Int64) × (Nat → Int64) × (Nat → Int64) × Int32) => post r u.1 u.2.1 u.2.2.1 u.2.2.2.1 u.2.2.2.2.1 u.2.2.2.2.2) (fun (u : (Nat → Int32) × (Nat → Int32) × (Nat → Int64) × (Nat → Int64) × (Nat → Int64) × Int32) (t : State) => va_P (dC, dI) vwCl (pX4_countWords cy h u.1 u.2.1 u.2.2.1 u.2.2.2.1 u.2.2.2.2.1 a0_weights u.2.2.2.2.2 a0_kind a0_exponent) t.heap) A) args s 0 0 A) (F0 m 15 ls [])) : ∀ (a0_letters : Nat → Int32) (a0_tops : Nat → Int32) (a0_sums : Nat → Int64) (a0_lowPairs : Nat → Int64) (a0_highPairs : Nat → Int64) (a0_size : Int32) (x4 : Int32) (x5 : Int32) (x6 : Int32) (s0 : Int32), VX4_countWords_45 post K15 a0_weights a0_kind a0_exponent p1 p2 p3 a0_letters a0_tops a0_sums a0_lowPairs a0_highPairs a0_size x4 x5 x6 s0 → ∀ (H : Heap) (locs : List Loc) (ls : Array Slot), va_P (dC, dI) vwCl (pX4_countWords cy h a0_letters a0_tops a0_sums a0_lowPairs a0_highPairs a0_weights a0_size a0_kind a0_exponent) H → va_D A (pX4_countWords cy h a0_letters a0_tops a0_sums a0_lowPairs a0_highPairs a0_weights a0_size a0_kind a0_exponent) → va_S A s.heap H locs → lv_has ls 9 [(0, .ref (h 0)), (1, .int p1), (2, .int p2), (3, .int p3), (4, .int x4), (5, .int x5), (6, .int x6)] → W p l e rX4_countWords s m args below meth c H locs 0 0 (MQ below (va_Qi (fun (r : Int32) (u : (Nat → Int32) × (Nat → Int32) × (Nat → Int64) × (Nat → Int64) × (Nat → Int64) × Int32) => post r u.1 u.2.1 u.2.2.1 u.2.2.2.1 u.2.2.2.2.1 u.2.2.2.2.2) (fun (u : (Nat → Int32) × (Nat → Int32) × (Nat → Int64) × (Nat → Int64) × (Nat → Int64) × Int32) (t : State) => va_P (dC, dI) vwCl (pX4_countWords cy h u.1 u.2.1 u.2.2.1 u.2.2.2.1 u.2.2.2.2.1 a0_weights u.2.2.2.2.2 a0_kind a0_exponent) t.heap) A) args s 0 0 A) (F0 m 45 ls [.int s0]) := by
  have C1 := C0
  obtain ⟨hx, hb, hr, hml, hown, hts, hlocks, hK, hA⟩ := C1
  intro a0_letters a0_tops a0_sums a0_lowPairs a0_highPairs a0_size x4 x5 x6 s0 hv H locs ls hP hD hS hl
  refine lv_istore (lv' := [(7, .int s0), (0, .ref (h 0)), (1, .int p1), (2, .int p2), (3, .int p3), (4, .int x4), (5, .int x5), (6, .int x6)]) hx hb dX4_countWords_45 hl (by decide) rfl (fun ls hl => ?_)
  refine lv_iload hx hb dX4_countWords_47 (lv_at hl 6 rfl) ?_
  refine lv_iload hx hb dX4_countWords_49 (lv_at hl 0 rfl) ?_
  refine lv_icmp_lt (tgt := 75) hx hb dX4_countWords_51 (by decide) (fun c_22 => ?_) (fun c_22 => ?_)
  · have hv := hv.1 c_22
    refine lv_aload_n hx hb dX4_countWords_75 rfl (lv_at hl 1 rfl) ?_
    refine lv_iload hx hb dX4_countWords_76 (lv_at hl 6 rfl) ?_
    refine cb_VV (As := [.int x5]) (rest := []) ⟨hx, hb, hml, hown, hts⟩ (kX8_push l dC dI cy (adl [h 0, h 1, h 2, h 3, h 4, h 5, h 6]) a0_letters a0_tops a0_sums a0_lowPairs a0_highPairs a0_weights a0_size a0_kind a0_exponent x5 _ hv) (cwV 1 hts gX4_countWords_X8_push rfl rfl rfl zX8_push ⟨Nat.le_of_ble_eq_true rfl, Nat.le_of_ble_eq_true rfl⟩) hK hP hD hS hA [0, 1, 2, 3, 4, 5, 6] [some 0, some 1, some 2, some 3, some 4, some 5, some 6] rfl rfl rfl (ci := 8) rfl rfl (fun _ => rfl) rfl hl.1 rfl (Nat.le_of_ble_eq_true rfl) dX4_countWords_78 (fun w_17 H locs hv hP hD hS => ?_)
    obtain ⟨u_8, u_9, u_10, u_11, u_12, u_13⟩ := w_17
    have hP : va_P (dC, dI) vwCl (pX4_countWords cy h u_8 u_9 u_10 u_11 u_12 a0_weights u_13 a0_kind a0_exponent) H := hP
    have hD : va_D A (pX4_countWords cy h u_8 u_9 u_10 u_11 u_12 a0_weights u_13 a0_kind a0_exponent) := hD
    refine lv_aload_n hx hb dX4_countWords_81 rfl (lv_at hl 1 rfl) ?_
    refine cb_VI (As := []) (rest := []) ⟨hx, hb, hml, hown, hts⟩ (kX8_shortestPowerAtEnd l dC dI cy (adl [h 0, h 1, h 3, h 4, h 5, h 2, h 6]) u_8 u_10 u_11 u_12 u_13 a0_kind a0_exponent _ hv) (cwV 0 hts gX4_countWords_X8_shortestPowerAtEnd rfl rfl rfl zX8_shortestPowerAtEnd ⟨Nat.le_of_ble_eq_true rfl, Nat.le_of_ble_eq_true rfl⟩) hK hP hD hS hA [0, 1, 3, 4, 5] [some 0, some 1, none, some 2, some 3, some 4, none] rfl rfl rfl (ci := 8) rfl rfl (fun _ => rfl) rfl hl.1 rfl (Nat.le_of_ble_eq_true rfl) dX4_countWords_82 (fun r_14 w_16 H locs hv hP hD hS => ?_)
    have hP : va_P (dC, dI) vwCl (pX4_countWords cy h u_8 u_9 u_10 u_11 u_12 a0_weights u_13 a0_kind a0_exponent) H := hP
    have hD : va_D A (pX4_countWords cy h u_8 u_9 u_10 u_11 u_12 a0_weights u_13 a0_kind a0_exponent) := hD
    refine lv_if_ne (tgt := 92) hx hb dX4_countWords_85 (by decide) (fun c_15 => ?_) (fun c_15 => ?_)
    · have hv := hv.1 c_15
      refine lv_iconst (v := 0) hx hb dX4_countWords_92 (by decide) ?_
      exact wX4_countWords_93 l h post K15  a0_weights a0_kind a0_exponent p1 p2 p3 C0 hK15 u_8 u_9 u_10 u_11 u_12 u_13 x4 x6 0 hv _ _ _ hP hD hS (lv_sub hl [1, 2, 3, 4, 5, 7] rfl)
    · have hv := hv.2 c_15
      refine lv_iconst (v := 1) hx hb dX4_countWords_88 (by decide) ?_
      refine lv_goto (tgt := 93) hx hb dX4_countWords_89 (by decide) ?_
      exact wX4_countWords_93 l h post K15  a0_weights a0_kind a0_exponent p1 p2 p3 C0 hK15 u_8 u_9 u_10 u_11 u_12 u_13 x4 x6 1 hv _ _ _ hP hD hS (lv_sub hl [1, 2, 3, 4, 5, 7] rfl)
  · have hv := hv.2 c_22
    refine lv_aload_n hx hb dX4_countWords_54 rfl (lv_at hl 1 rfl) ?_
    refine va_get (D := (dC, dI)) (ci := 8) (v := .int a0_size) (C := RX8) (T := TX8) (N := 9) hx hb hts nX4_countWords_X8 hown hK hP 0 rfl rfl 6 (by decide) (hts _ mX4_countWords_3) (fun _ h9 => h9) rfl dX4_countWords_55 ?_
    refine lv_if_ne (tgt := 64) hx hb dX4_countWords_58 (by decide) (fun c_21 => ?_) (fun c_21 => ?_)
    · have hv := hv.1 c_21
      refine lv_aload_n hx hb dX4_countWords_64 rfl (lv_at hl 1 rfl) ?_
      refine cb_VI (As := []) (rest := []) ⟨hx, hb, hml, hown, hts⟩ (kX8_pop l dC dI cy (adl [h 0, h 1, h 2, h 3, h 4, h 5, h 6]) a0_letters a0_size a0_kind a0_exponent _ hv) (cwV 0 hts gX4_countWords_X8_pop rfl rfl rfl zX8_pop ⟨Nat.le_of_ble_eq_true rfl, Nat.le_of_ble_eq_true rfl⟩) hK hP hD hS hA [0, 1] [some 0, some 1, none, none, none, none, none] rfl rfl rfl (ci := 8) rfl rfl (fun _ => rfl) rfl hl.1 rfl (Nat.le_of_ble_eq_true rfl) dX4_countWords_65 (fun r_18 u_19 H locs hv hP hD hS => ?_)
      have hP : va_P (dC, dI) vwCl (pX4_countWords cy h a0_letters a0_tops a0_sums a0_lowPairs a0_highPairs a0_weights u_19 a0_kind a0_exponent) H := hP
      have hD : va_D A (pX4_countWords cy h a0_letters a0_tops a0_sums a0_lowPairs a0_highPairs a0_weights u_19 a0_kind a0_exponent) := hD
      refine lv_iconst (v := 1) hx hb dX4_countWords_68 (by decide) ?_
      refine lv_iadd hx hb dX4_countWords_69 ?_
      refine lv_istore (lv' := [(5, .int ((r_18 + 1))), (7, .int s0), (0, .ref (h 0)), (1, .int p1), (2, .int p2), (3, .int p3), (4, .int x4), (6, .int x6)]) hx hb dX4_countWords_70 hl (by decide) rfl (fun ls hl => ?_)
      refine lv_goto (tgt := 137) hx hb dX4_countWords_72 (by decide) ?_
      refine lv_iinc (v := (x6 + 1)) (lv' := [(6, .int ((x6 + 1))), (5, .int ((r_18 + 1))), (7, .int s0), (0, .ref (h 0)), (1, .int p1), (2, .int p2), (3, .int p3), (4, .int x4)]) hx hb dX4_countWords_137 hl (k := 7) rfl rfl (by decide) rfl (fun ls hl => ?_)
      refine lv_goto (tgt := 15) hx hb dX4_countWords_140 (by decide) ?_
      exact hK15 a0_letters a0_tops a0_sums a0_lowPairs a0_highPairs u_19 x4 (r_18 + 1) (x6 + 1) hv _ _ _ hP hD hS (lv_sub hl [3, 4, 5, 6, 7, 1, 0] rfl)
    · have hv := hv.2 c_21
      refine lv_iload hx hb dX4_countWords_61 (lv_at hl 5 rfl) ?_
      exact W.iret (v := x4) hx hb hr (fun t ht hW => ⟨⟨x4, (a0_letters, a0_tops, a0_sums, a0_lowPairs, a0_highPairs, a0_size), rfl, hv, va_Ph ht hP⟩, hS.F ht⟩) hS.2.2 dX4_countWords_63
set_option maxHeartbeats 4000000 in
set_option maxRecDepth 100000 in
theorem wX4_countWords_15 {p : Program} (l : Launch) {e : Env} {s : State} {m : MethodId} {args : Array Value} {below : List Frame} {meth : Method} {c : Code} {dC : Nat → ClassId} {dI : Nat → Nat → Nat} {cy : Nat → ClassId} {A : Nat → Prop} (h : Nat → Nat) (post : Int32 → (Nat → Int32) → (Nat → Int32) → (Nat → Int64) → (Nat → Int64) → (Nat → Int64) → Int32 → Prop)   (a0_weights : Nat → Int64) (a0_kind : Int32) (a0_exponent : Int32) (p1 : Int32) (p2 : Int32) (p3 : Int32) (C0 : cx p s m args meth c cX4_countWords 9 (some .int) wsX4_countWords RX4 dC dI cy A)  : ∀ (n : Nat) (a0_letters : Nat → Int32) (a0_tops : Nat → Int32) (a0_sums : Nat → Int64) (a0_lowPairs : Nat → Int64) (a0_highPairs : Nat → Int64) (a0_size : Int32) (x4 : Int32) (x5 : Int32) (x6 : Int32), VX4_countWords_15 post a0_weights a0_kind a0_exponent p1 p2 p3 n a0_letters a0_tops a0_sums a0_lowPairs a0_highPairs a0_size x4 x5 x6 → ∀ (H : Heap) (locs : List Loc) (ls : Array Slot), va_P (dC, dI) vwCl (pX4_countWords cy h a0_letters a0_tops a0_sums a0_lowPairs a0_highPairs a0_weights a0_size a0_kind a0_exponent) H → va_D A (pX4_countWords cy h a0_letters a0_tops a0_sums a0_lowPairs a0_highPairs a0_weights a0_size a0_kind a0_exponent) → va_S A s.heap H locs → lv_has ls 9 [(0, .ref (h 0)), (1, .int p1), (2, .int p2), (3, .int p3), (4, .int x4), (5, .int x5), (6, .int x6)] → W p l e rX4_countWords s m args below meth c H locs 0 0 (MQ below (va_Qi (fun (r : Int32) (u : (Nat → Int32) × (Nat → Int32) × (Nat → Int64) × (Nat → Int64) × (Nat → Int64) × Int32) => post r u.1 u.2.1 u.2.2.1 u.2.2.2.1 u.2.2.2.2.1 u.2.2.2.2.2) (fun (u : (Nat → Int32) × (Nat → Int32) × (Nat → Int64) × (Nat → Int64) × (Nat → Int64) × Int32) (t : State) => va_P (dC, dI) vwCl (pX4_countWords cy h u.1 u.2.1 u.2.2.1 u.2.2.2.1 u.2.2.2.2.1 a0_weights u.2.2.2.2.2 a0_kind a0_exponent) t.heap) A) args s 0 0 A) (F0 m 15 ls []) := by
  have C1 := C0
  obtain ⟨hx, hb, hr, hml, hown, hts, hlocks, hK, hA⟩ := C1
  intro n
  induction n with
  | zero => intro a0_letters a0_tops a0_sums a0_lowPairs a0_highPairs a0_size x4 x5 x6 hv; exact hv.elim
  | succ n ih =>
    intro a0_letters a0_tops a0_sums a0_lowPairs a0_highPairs a0_size x4 x5 x6 hv H locs ls hP hD hS hl
    refine lv_iload hx hb dX4_countWords_15 (lv_at hl 6 rfl) ?_
    refine lv_ldc hx hb hown (hts _ mX4_countWords_1) dX4_countWords_17 ?_
    refine lv_icmp_ge (tgt := 143) hx hb dX4_countWords_19 (by decide) (fun c_7 => ?_) (fun c_7 => ?_)
    · have hv := hv.1 c_7
      refine lv_iload hx hb dX4_countWords_143 (lv_at hl 4 rfl) ?_
      exact W.iret (v := x4) hx hb hr (fun t ht hW => ⟨⟨x4, (a0_letters, a0_tops, a0_sums, a0_lowPairs, a0_highPairs, a0_size), rfl, hv, va_Ph ht hP⟩, hS.F ht⟩) hS.2.2 dX4_countWords_145
    · have hv := hv.2 c_7
      refine lv_iload_n hx hb dX4_countWords_22 rfl (lv_at hl 3 rfl) ?_
      refine lv_if_eq (tgt := 44) hx hb dX4_countWords_23 (by decide) (fun c_6 => ?_) (fun c_6 => ?_)
      · have hv := hv.1 c_6
        refine lv_iload_n hx hb dX4_countWords_44 rfl (lv_at hl 2 rfl) ?_
        exact wX4_countWords_45 l h post (fun a0_letters a0_tops a0_sums a0_lowPairs a0_highPairs a0_size x4 x5 x6 => VX4_countWords_15 post a0_weights a0_kind a0_exponent p1 p2 p3 n a0_letters a0_tops a0_sums a0_lowPairs a0_highPairs a0_size x4 x5 x6)  a0_weights a0_kind a0_exponent p1 p2 p3 C0 ih a0_letters a0_tops a0_sums a0_lowPairs a0_highPairs a0_size x4 x5 x6 p2 hv _ _ _ hP hD hS (lv_sub hl [0, 1, 2, 3, 4, 5, 6] rfl)
      · have hv := hv.2 c_6
        refine lv_iload_n hx hb dX4_countWords_26 rfl (lv_at hl 2 rfl) ?_
        refine lv_aload_n hx hb dX4_countWords_27 rfl (lv_at hl 0 rfl) ?_
        refine va_get (D := (dC, dI)) (ci := 8) (v := .ref (h 2)) (C := RX8) (T := TX8) (N := 9) hx hb hts nX4_countWords_X8 hown hK hP 0 rfl rfl 1 (by decide) (hts _ mX4_countWords_2) (fun _ h9 => h9) rfl dX4_countWords_28 ?_
        refine lv_aload_n hx hb dX4_countWords_31 rfl (lv_at hl 0 rfl) ?_
        refine va_get (D := (dC, dI)) (ci := 8) (v := .int a0_size) (C := RX8) (T := TX8) (N := 9) hx hb hts nX4_countWords_X8 hown hK hP 0 rfl rfl 6 (by decide) (hts _ mX4_countWords_3) (fun _ h9 => h9) rfl dX4_countWords_32 ?_
        have h_4 := hv.1
        have hv := hv.2
        refine va_iald hx hb hK hP 2 0 rfl rfl h_4 dX4_countWords_35 ?_
        refine lv_topi (fun y_3 ey_3 => ?_)
        have hv := hv y_3 ey_3
        refine lv_iconst (v := 1) hx hb dX4_countWords_36 (by decide) ?_
        refine lv_iadd hx hb dX4_countWords_37 ?_
        refine va_mmin hx hb (hml.trans hl.1.symm) hown (hts _ mX4_countWords_4) (hts _ mX4_countWords_5) (hts _ mX4_countWords_6) (hts _ mX4_countWords_7) (Nat.le_of_ble_eq_true rfl) (Nat.le_of_ble_eq_true rfl) (Nat.zero_le _) (Nat.zero_le _) dX4_countWords_38 ?_
        refine lv_topi (fun y_5 ey_5 => ?_)
        have hv := hv y_5 ey_5
        refine lv_goto (tgt := 45) hx hb dX4_countWords_41 (by decide) ?_
        exact wX4_countWords_45 l h post (fun a0_letters a0_tops a0_sums a0_lowPairs a0_highPairs a0_size x4 x5 x6 => VX4_countWords_15 post a0_weights a0_kind a0_exponent p1 p2 p3 n a0_letters a0_tops a0_sums a0_lowPairs a0_highPairs a0_size x4 x5 x6)  a0_weights a0_kind a0_exponent p1 p2 p3 C0 ih a0_letters a0_tops a0_sums a0_lowPairs a0_highPairs a0_size x4 x5 x6 y_5 hv _ _ _ hP hD hS (lv_sub hl [0, 1, 2, 3, 4, 5, 6] rfl)
set_option maxHeartbeats 4000000 in
set_option maxRecDepth 100000 in
theorem wX4_countWords_0 {p : Program} (l : Launch) {e : Env} {s : State} {m : MethodId} {args : Array Value} {below : List Frame} {meth : Method} {c : Code} {dC : Nat → ClassId} {dI : Nat → Nat → Nat} {cy : Nat → ClassId} {A : Nat → Prop} (h : Nat → Nat) (post : Int32 → (Nat → Int32) → (Nat → Int32) → (Nat → Int64) → (Nat → Int64) → (Nat → Int64) → Int32 → Prop)   (a0_weights : Nat → Int64) (a0_kind : Int32) (a0_exponent : Int32) (p1 : Int32) (p2 : Int32) (p3 : Int32) (C0 : cx p s m args meth c cX4_countWords 9 (some .int) wsX4_countWords RX4 dC dI cy A)  : ∀ (a0_letters : Nat → Int32) (a0_tops : Nat → Int32) (a0_sums : Nat → Int64) (a0_lowPairs : Nat → Int64) (a0_highPairs : Nat → Int64) (a0_size : Int32), VX4_countWords post a0_weights a0_kind a0_exponent p1 p2 p3 a0_letters a0_tops a0_sums a0_lowPairs a0_highPairs a0_size → ∀ (H : Heap) (locs : List Loc) (ls : Array Slot), va_P (dC, dI) vwCl (pX4_countWords cy h a0_letters a0_tops a0_sums a0_lowPairs a0_highPairs a0_weights a0_size a0_kind a0_exponent) H → va_D A (pX4_countWords cy h a0_letters a0_tops a0_sums a0_lowPairs a0_highPairs a0_weights a0_size a0_kind a0_exponent) → va_S A s.heap H locs → lv_has ls 9 [(0, .ref (h 0)), (1, .int p1), (2, .int p2), (3, .int p3)] → W p l e rX4_countWords s m args below meth c H locs 0 0 (MQ below (va_Qi (fun (r : Int32) (u : (Nat → Int32) × (Nat → Int32) × (Nat → Int64) × (Nat → Int64) × (Nat → Int64) × Int32) => post r u.1 u.2.1 u.2.2.1 u.2.2.2.1 u.2.2.2.2.1 u.2.2.2.2.2) (fun (u : (Nat → Int32) × (Nat → Int32) × (Nat → Int64) × (Nat → Int64) × (Nat → Int64) × Int32) (t : State) => va_P (dC, dI) vwCl (pX4_countWords cy h u.1 u.2.1 u.2.2.1 u.2.2.2.1 u.2.2.2.2.1 a0_weights u.2.2.2.2.2 a0_kind a0_exponent) t.heap) A) args s 0 0 A) (F0 m 0 ls []) := by
  have C1 := C0
  obtain ⟨hx, hb, hr, hml, hown, hts, hlocks, hK, hA⟩ := C1
  intro a0_letters a0_tops a0_sums a0_lowPairs a0_highPairs a0_size hv H locs ls hP hD hS hl
  refine lv_iload_n hx hb dX4_countWords_0 rfl (lv_at hl 1 rfl) ?_
  refine lv_if_ne (tgt := 6) hx hb dX4_countWords_1 (by decide) (fun c_2 => ?_) (fun c_2 => ?_)
  · have hv := hv.1 c_2
    refine lv_iconst (v := 0) hx hb dX4_countWords_6 (by decide) ?_
    refine lv_istore (lv' := [(4, .int 0), (0, .ref (h 0)), (1, .int p1), (2, .int p2), (3, .int p3)]) hx hb dX4_countWords_7 hl (by decide) rfl (fun ls hl => ?_)
    refine lv_iconst (v := 0) hx hb dX4_countWords_9 (by decide) ?_
    refine lv_istore (lv' := [(5, .int 0), (4, .int 0), (0, .ref (h 0)), (1, .int p1), (2, .int p2), (3, .int p3)]) hx hb dX4_countWords_10 hl (by decide) rfl (fun ls hl => ?_)
    refine lv_iconst (v := 0) hx hb dX4_countWords_12 (by decide) ?_
    refine lv_istore (lv' := [(6, .int 0), (5, .int 0), (4, .int 0), (0, .ref (h 0)), (1, .int p1), (2, .int p2), (3, .int p3)]) hx hb dX4_countWords_13 hl (by decide) rfl (fun ls hl => ?_)
    obtain ⟨n_1, hv⟩ := hv
    exact wX4_countWords_15 l h post  a0_weights a0_kind a0_exponent p1 p2 p3 C0 n_1 a0_letters a0_tops a0_sums a0_lowPairs a0_highPairs a0_size 0 0 0 hv _ _ _ hP hD hS (lv_sub hl [3, 4, 5, 6, 2, 1, 0] rfl)
  · have hv := hv.2 c_2
    refine lv_iconst (v := 1) hx hb dX4_countWords_4 (by decide) ?_
    exact W.iret (v := 1) hx hb hr (fun t ht hW => ⟨⟨1, (a0_letters, a0_tops, a0_sums, a0_lowPairs, a0_highPairs, a0_size), rfl, hv, va_Ph ht hP⟩, hS.F ht⟩) hS.2.2 dX4_countWords_5
theorem kX4_countWords (l : Launch) (dC : Nat → ClassId) (dI : Nat → Nat → Nat) (cy : Nat → ClassId) (h : Nat → Nat) (a0_letters : Nat → Int32) (a0_tops : Nat → Int32) (a0_sums : Nat → Int64) (a0_lowPairs : Nat → Int64) (a0_highPairs : Nat → Int64) (a0_weights : Nat → Int64) (a0_size : Int32) (a0_kind : Int32) (a0_exponent : Int32) (p1 : Int32) (p2 : Int32) (p3 : Int32) (post : Int32 → (Nat → Int32) → (Nat → Int32) → (Nat → Int64) → (Nat → Int64) → (Nat → Int64) → Int32 → Prop) (hv : VX4_countWords post a0_weights a0_kind a0_exponent p1 p2 p3 a0_letters a0_tops a0_sums a0_lowPairs a0_highPairs a0_size) : CtI l yX4_countWords wsX4_countWords rX4_countWords dC dI cy [.ref (h 0), .int p1, .int p2, .int p3] (pX4_countWords cy h a0_letters a0_tops a0_sums a0_lowPairs a0_highPairs a0_weights a0_size a0_kind a0_exponent) (fun (u : (Nat → Int32) × (Nat → Int32) × (Nat → Int64) × (Nat → Int64) × (Nat → Int64) × Int32) => pX4_countWords cy h u.1 u.2.1 u.2.2.1 u.2.2.2.1 u.2.2.2.2.1 a0_weights u.2.2.2.2.2 a0_kind a0_exponent) (fun (r : Int32) (u : (Nat → Int32) × (Nat → Int32) × (Nat → Int64) × (Nat → Int64) × (Nat → Int64) × Int32) => post r u.1 u.2.1 u.2.2.1 u.2.2.2.1 u.2.2.2.2.1 u.2.2.2.2.2) :=
  ct_ofI (by decide) rfl (Nat.le_of_ble_eq_true rfl) (fun p e s m below meth c A ls C0 hP hD hS hl => wX4_countWords_0 l h post a0_weights a0_kind a0_exponent p1 p2 p3 C0 a0_letters a0_tops a0_sums a0_lowPairs a0_highPairs a0_size hv _ _ _ hP hD hS hl)
