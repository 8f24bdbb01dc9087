theorem mX6_prefixSign_1 : (Cond.fieldLink RX6 18 "AbelianPowers$Splits" "position" "I") ∈ wsX6_prefixSign := List.mem_of_getElem? (i := 1) rfl
theorem nX6_prefixSign_X6 : ∀ w ∈ wsX60, w ∈ wsX6_prefixSign := fun _ h => List.mem_cons_of_mem _ (List.mem_append_right _ h)
theorem zX6_prefixSign : yX6_prefixSign.cls = RX6 ∧ yX6_prefixSign.cls ≠ "java/lang/invoke/MethodHandle" ∧ yX6_prefixSign.cls ≠ "java/lang/invoke/VarHandle" ∧ (parseMethodDescriptor yX6_prefixSign.desc).map (fun d => d.parameters.length) = some 0 := by decide +kernel
abbrev rX6_prefixSign : Room := { frames := 0, cells := 0, slots := 0, locals := 0 }
abbrev pX6_prefixSign (cy : Nat → ClassId) (h : Nat → Nat) (t_position : Int32) (t_size : Int32) : va_W := [(h 0, .inr (6, [.int t_position, .ref (h 1), .ref (h 2), .int t_size]))]
def VX6_prefixSign (post : Int32 → Prop)  (t_position : Int32)  : Prop := (¬ (t_position = 0) → (¬ (t_position = 1) → post (-1 : Int32)) ∧ ((t_position = 1) → post (1 : Int32))) ∧ ((t_position = 0) → post (0 : Int32))
set_option maxHeartbeats 4000000 in
set_option maxRecDepth 100000 in
theorem wX6_prefixSign_0 {p : Program} (l : Launch) {e : Env} {s : State} {m : MethodId} {args : Array Value} {below : List Frame} {meth : Method} {c : Code} {dC : Nat → ClassId} {dI : Nat → Nat → Nat} {cy : Nat → ClassId} {A : Nat → Prop} (h : Nat → Nat) (post : Int32 → Prop)   (t_position : Int32) (t_size : Int32)  (C0 : cx p s m args meth c cX6_prefixSign 1 (some .int) wsX6_prefixSign RX6 dC dI cy A)  : VX6_prefixSign post t_position  → ∀ (H : Heap) (locs : List Loc) (ls : Array Slot), va_P (dC, dI) vwCl (pX6_prefixSign cy h t_position t_size) H → va_D A (pX6_prefixSign cy h t_position t_size) → va_S A s.heap H locs → lv_has ls 1 [(0, .ref (h 0))] → W p l e rX6_prefixSign s m args below meth c H locs 0 0 (MQ below (va_Qi (fun (r : Int32) (_ : Unit) => post r) (fun (_ : Unit) (t : State) => va_P (dC, dI) vwCl (pX6_prefixSign cy h t_position t_size) t.heap) A) args s 0 0 A) (F0 m 0 ls []) := by
  have C1 := C0
  obtain ⟨hx, hb, hr, hml, hown, hts, hlocks, hK, hA⟩ := C1
  intro  hv H locs ls hP hD hS hl
  refine lv_aload_n hx hb dX6_prefixSign_0 rfl (lv_at hl 0 rfl) ?_
  refine va_get (D := (dC, dI)) (ci := 6) (v := .int t_position) (C := RX6) (T := TX6) (N := 4) hx hb hts nX6_prefixSign_X6 hown hK hP 0 rfl rfl 0 (by decide) (hts _ mX6_prefixSign_1) (fun _ h9 => h9) rfl dX6_prefixSign_1 ?_
  refine lv_if_ne (tgt := 11) hx hb dX6_prefixSign_4 (by decide) (fun c_2 => ?_) (fun c_2 => ?_)
  · have hv := hv.1 c_2
    refine lv_aload_n hx hb dX6_prefixSign_11 rfl (lv_at hl 0 rfl) ?_
    refine va_get (D := (dC, dI)) (ci := 6) (v := .int t_position) (C := RX6) (T := TX6) (N := 4) hx hb hts nX6_prefixSign_X6 hown hK hP 0 rfl rfl 0 (by decide) (hts _ mX6_prefixSign_1) (fun _ h9 => h9) rfl dX6_prefixSign_12 ?_
    refine lv_iconst (v := 1) hx hb dX6_prefixSign_15 (by decide) ?_
    refine lv_icmp_ne (tgt := 23) hx hb dX6_prefixSign_16 (by decide) (fun c_1 => ?_) (fun c_1 => ?_)
    · have hv := hv.1 c_1
      refine lv_iconst (v := (-1)) hx hb dX6_prefixSign_23 (by decide) ?_
      exact W.iret (v := (-1)) hx hb hr (fun t ht hW => ⟨⟨(-1), (), rfl, hv, va_Ph ht hP⟩, hS.F ht⟩) hS.2.2 dX6_prefixSign_24
    · have hv := hv.2 c_1
      refine lv_iconst (v := 1) hx hb dX6_prefixSign_19 (by decide) ?_
      refine lv_goto (tgt := 24) hx hb dX6_prefixSign_20 (by decide) ?_
      exact W.iret (v := 1) hx hb hr (fun t ht hW => ⟨⟨1, (), rfl, hv, va_Ph ht hP⟩, hS.F ht⟩) hS.2.2 dX6_prefixSign_24
  · have hv := hv.2 c_2
    refine lv_iconst (v := 0) hx hb dX6_prefixSign_7 (by decide) ?_
    refine lv_goto (tgt := 24) hx hb dX6_prefixSign_8 (by decide) ?_
    exact W.iret (v := 0) hx hb hr (fun t ht hW => ⟨⟨0, (), rfl, hv, va_Ph ht hP⟩, hS.F ht⟩) hS.2.2 dX6_prefixSign_24
theorem kX6_prefixSign (l : Launch) (dC : Nat → ClassId) (dI : Nat → Nat → Nat) (cy : Nat → ClassId) (h : Nat → Nat) (t_position : Int32) (t_size : Int32)  (post : Int32 → Prop) (hv : VX6_prefixSign post t_position ) : CtI l yX6_prefixSign wsX6_prefixSign rX6_prefixSign dC dI cy [.ref (h 0)] (pX6_prefixSign cy h t_position t_size) (fun (_ : Unit) => pX6_prefixSign cy h t_position t_size) (fun (r : Int32) (_ : Unit) => post r) :=
  ct_ofI (by decide) rfl (Nat.le_of_ble_eq_true rfl) (fun p e s m below meth c A ls C0 hP hD hS hl => wX6_prefixSign_0 l h post t_position t_size C0  hv _ _ _ hP hD hS hl)
theorem mX6_suffixSign_1 : (Cond.fieldLink RX6 18 "AbelianPowers$Splits" "position" "I") ∈ wsX6_suffixSign := List.mem_of_getElem? (i := 1) rfl
theorem nX6_suffixSign_X6 : ∀ w ∈ wsX60, w ∈ wsX6_suffixSign := fun _ h => List.mem_cons_of_mem _ (List.mem_append_right _ h)
theorem zX6_suffixSign : yX6_suffixSign.cls = RX6 ∧ yX6_suffixSign.cls ≠ "java/lang/invoke/MethodHandle" ∧ yX6_suffixSign.cls ≠ "java/lang/invoke/VarHandle" ∧ (parseMethodDescriptor yX6_suffixSign.desc).map (fun d => d.parameters.length) = some 0 := by decide +kernel
abbrev rX6_suffixSign : Room := { frames := 0, cells := 0, slots := 0, locals := 0 }
abbrev pX6_suffixSign (cy : Nat → ClassId) (h : Nat → Nat) (t_position : Int32) (t_size : Int32) : va_W := [(h 0, .inr (6, [.int t_position, .ref (h 1), .ref (h 2), .int t_size]))]
def VX6_suffixSign (post : Int32 → Prop)  (t_position : Int32)  : Prop := (¬ (t_position = 0) → (¬ (t_position = 1) → post (0 : Int32)) ∧ ((t_position = 1) → post (-1 : Int32))) ∧ ((t_position = 0) → post (1 : Int32))
set_option maxHeartbeats 4000000 in
set_option maxRecDepth 100000 in
theorem wX6_suffixSign_0 {p : Program} (l : Launch) {e : Env} {s : State} {m : MethodId} {args : Array Value} {below : List Frame} {meth : Method} {c : Code} {dC : Nat → ClassId} {dI : Nat → Nat → Nat} {cy : Nat → ClassId} {A : Nat → Prop} (h : Nat → Nat) (post : Int32 → Prop)   (t_position : Int32) (t_size : Int32)  (C0 : cx p s m args meth c cX6_suffixSign 1 (some .int) wsX6_suffixSign RX6 dC dI cy A)  : VX6_suffixSign post t_position  → ∀ (H : Heap) (locs : List Loc) (ls : Array Slot), va_P (dC, dI) vwCl (pX6_suffixSign cy h t_position t_size) H → va_D A (pX6_suffixSign cy h t_position t_size) → va_S A s.heap H locs → lv_has ls 1 [(0, .ref (h 0))] → W p l e rX6_suffixSign s m args below meth c H locs 0 0 (MQ below (va_Qi (fun (r : Int32) (_ : Unit) => post r) (fun (_ : Unit) (t : State) => va_P (dC, dI) vwCl (pX6_suffixSign cy h t_position t_size) t.heap) A) args s 0 0 A) (F0 m 0 ls []) := by
  have C1 := C0
  obtain ⟨hx, hb, hr, hml, hown, hts, hlocks, hK, hA⟩ := C1
  intro  hv H locs ls hP hD hS hl
  refine lv_aload_n hx hb dX6_suffixSign_0 rfl (lv_at hl 0 rfl) ?_
  refine va_get (D := (dC, dI)) (ci := 6) (v := .int t_position) (C := RX6) (T := TX6) (N := 4) hx hb hts nX6_suffixSign_X6 hown hK hP 0 rfl rfl 0 (by decide) (hts _ mX6_suffixSign_1) (fun _ h9 => h9) rfl dX6_suffixSign_1 ?_
  refine lv_if_ne (tgt := 11) hx hb dX6_suffixSign_4 (by decide) (fun c_2 => ?_) (fun c_2 => ?_)
  · have hv := hv.1 c_2
    refine lv_aload_n hx hb dX6_suffixSign_11 rfl (lv_at hl 0 rfl) ?_
    refine va_get (D := (dC, dI)) (ci := 6) (v := .int t_position) (C := RX6) (T := TX6) (N := 4) hx hb hts nX6_suffixSign_X6 hown hK hP 0 rfl rfl 0 (by decide) (hts _ mX6_suffixSign_1) (fun _ h9 => h9) rfl dX6_suffixSign_12 ?_
    refine lv_iconst (v := 1) hx hb dX6_suffixSign_15 (by decide) ?_
    refine lv_icmp_ne (tgt := 23) hx hb dX6_suffixSign_16 (by decide) (fun c_1 => ?_) (fun c_1 => ?_)
    · have hv := hv.1 c_1
      refine lv_iconst (v := 0) hx hb dX6_suffixSign_23 (by decide) ?_
      exact W.iret (v := 0) hx hb hr (fun t ht hW => ⟨⟨0, (), rfl, hv, va_Ph ht hP⟩, hS.F ht⟩) hS.2.2 dX6_suffixSign_24
    · have hv := hv.2 c_1
      refine lv_iconst (v := (-1)) hx hb dX6_suffixSign_19 (by decide) ?_
      refine lv_goto (tgt := 24) hx hb dX6_suffixSign_20 (by decide) ?_
      exact W.iret (v := (-1)) hx hb hr (fun t ht hW => ⟨⟨(-1), (), rfl, hv, va_Ph ht hP⟩, hS.F ht⟩) hS.2.2 dX6_suffixSign_24
  · have hv := hv.2 c_2
    refine lv_iconst (v := 1) hx hb dX6_suffixSign_7 (by decide) ?_
    refine lv_goto (tgt := 24) hx hb dX6_suffixSign_8 (by decide) ?_
    exact W.iret (v := 1) hx hb hr (fun t ht hW => ⟨⟨1, (), rfl, hv, va_Ph ht hP⟩, hS.F ht⟩) hS.2.2 dX6_suffixSign_24
theorem kX6_suffixSign (l : Launch) (dC : Nat → ClassId) (dI : Nat → Nat → Nat) (cy : Nat → ClassId) (h : Nat → Nat) (t_position : Int32) (t_size : Int32)  (post : Int32 → Prop) (hv : VX6_suffixSign post t_position ) : CtI l yX6_suffixSign wsX6_suffixSign rX6_suffixSign dC dI cy [.ref (h 0)] (pX6_suffixSign cy h t_position t_size) (fun (_ : Unit) => pX6_suffixSign cy h t_position t_size) (fun (r : Int32) (_ : Unit) => post r) :=
  ct_ofI (by decide) rfl (Nat.le_of_ble_eq_true rfl) (fun p e s m below meth c A ls C0 hP hD hS hl => wX6_suffixSign_0 l h post t_position t_size C0  hv _ _ _ hP hD hS hl)
theorem mX6_put_1 : (Cond.fieldLink RX6 22 "AbelianPowers$Splits" "size" "I") ∈ wsX6_put := List.mem_of_getElem? (i := 1) rfl
theorem mX6_put_2 : (Cond.fieldLink RX6 11 "AbelianPowers$Splits" "ends" "[I") ∈ wsX6_put := List.mem_of_getElem? (i := 2) rfl
theorem mX6_put_3 : (Cond.fieldLink RX6 15 "AbelianPowers$Splits" "gains" "[I") ∈ wsX6_put := List.mem_of_getElem? (i := 3) rfl
theorem nX6_put_X6 : ∀ w ∈ wsX60, w ∈ wsX6_put := fun _ h => List.mem_cons_of_mem _ (List.mem_append_right _ h)
theorem zX6_put : yX6_put.cls = RX6 ∧ yX6_put.cls ≠ "java/lang/invoke/MethodHandle" ∧ yX6_put.cls ≠ "java/lang/invoke/VarHandle" ∧ (parseMethodDescriptor yX6_put.desc).map (fun d => d.parameters.length) = some 1 := by decide +kernel
abbrev rX6_put : Room := { frames := 0, cells := 0, slots := 0, locals := 0 }
abbrev pX6_put (cy : Nat → ClassId) (h : Nat → Nat) (t_position : Int32) (t_ends : Nat → Int32) (t_gains : Nat → Int32) (t_size : Int32) : va_W := [(h 0, .inr (6, [.int t_position, .ref (h 1), .ref (h 2), .int t_size])), (h 1, .inl (cy 0, 21, .inl t_ends)), (h 2, .inl (cy 0, 84, .inl t_gains))]
def VX6_put_46 (post : (Nat → Int32) → (Nat → Int32) → Int32 → Prop)  (p1 : Int32) (t_ends : Nat → Int32) (t_gains : Nat → Int32) (t_size : Int32) : Prop := post t_ends t_gains (t_size + 1)
def VX6_put_21 (post : (Nat → Int32) → (Nat → Int32) → Int32 → Prop)  (p1 : Int32) : Nat → (Nat → Int32) → (Nat → Int32) → Int32 → Int32 → Prop
  | 0, _, _, _, _ => False
  | n + 1, t_ends, t_gains, t_size, x2 => ((4 ≤ x2) → VX6_put_46 post p1 t_ends t_gains t_size) ∧ (¬ (4 ≤ x2) → ∀ y_4 : Int32, y_4 = (((4 : Int32) * t_size) + x2) → vp_in y_4 84 ∧ (VX6_put_21 post p1 n t_ends (upd t_gains y_4.toNatClampNeg 0) t_size (x2 + 1)))
def VX6_put (post : (Nat → Int32) → (Nat → Int32) → Int32 → Prop)  (p1 : Int32) (t_ends : Nat → Int32) (t_gains : Nat → Int32) (t_size : Int32) : Prop := ((21 ≤ t_size) → post t_ends t_gains t_size) ∧ (¬ (21 ≤ t_size) → vp_in t_size 21 ∧ (∃ n21 : Nat, VX6_put_21 post p1 n21 (upd t_ends t_size.toNatClampNeg p1) t_gains t_size 0))
set_option maxHeartbeats 4000000 in
set_option maxRecDepth 100000 in
theorem wX6_put_46 {p : Program} (l : Launch) {e : Env} {s : State} {m : MethodId} {args : Array Value} {below : List Frame} {meth : Method} {c : Code} {dC : Nat → ClassId} {dI : Nat → Nat → Nat} {cy : Nat → ClassId} {A : Nat → Prop} (h : Nat → Nat) (post : (Nat → Int32) → (Nat → Int32) → Int32 → Prop)   (t_position : Int32) (p1 : Int32) (C0 : cx p s m args meth c cX6_put 3 none wsX6_put RX6 dC dI cy A)  : ∀ (t_ends : Nat → Int32) (t_gains : Nat → Int32) (t_size : Int32), VX6_put_46 post p1 t_ends t_gains t_size → ∀ (H : Heap) (locs : List Loc) (ls : Array Slot), va_P (dC, dI) vwCl (pX6_put cy h t_position t_ends t_gains t_size) H → va_D A (pX6_put cy h t_position t_ends t_gains t_size) → va_S A s.heap H locs → lv_has ls 3 [(0, .ref (h 0))] → W p l e rX6_put s m args below meth c H locs 0 0 (MQ below (va_Qv (fun (u : (Nat → Int32) × (Nat → Int32) × Int32) => post u.1 u.2.1 u.2.2) (fun (u : (Nat → Int32) × (Nat → Int32) × Int32) (t : State) => va_P (dC, dI) vwCl (pX6_put cy h t_position u.1 u.2.1 u.2.2) t.heap) A) args s 0 0 A) (F0 m 46 ls []) := by
  have C1 := C0
  obtain ⟨hx, hb, hr, hml, hown, hts, hlocks, hK, hA⟩ := C1
  intro t_ends t_gains t_size hv H locs ls hP hD hS hl
  refine lv_aload_n hx hb dX6_put_46 rfl (lv_at hl 0 rfl) ?_
  refine lv_dup hx hb dX6_put_47 rfl ?_
  refine va_get (D := (dC, dI)) (ci := 6) (v := .int t_size) (C := RX6) (T := TX6) (N := 4) hx hb hts nX6_put_X6 hown hK hP 0 rfl rfl 3 (by decide) (hts _ mX6_put_1) (fun _ h9 => h9) rfl dX6_put_48 ?_
  refine lv_iconst (v := 1) hx hb dX6_put_51 (by decide) ?_
  refine lv_iadd hx hb dX6_put_52 ?_
  refine va_put (D := (dC, dI)) (ci := 6) (v := .int (t_size + 1)) (ty := .int) (C := RX6) (T := TX6) (N := 4) hx hb hts nX6_put_X6 tyX6 tyX6_ok nmX6 hown hK hP hD hS 0 rfl rfl 3 (by decide) (hts _ mX6_put_1) (fun _ h9 => h9) rfl (by decide +kernel) rfl rfl (Nat.le_of_ble_eq_true rfl) dX6_put_53 (fun H locs hP hD hS => ?_)
  have hP : va_P (dC, dI) vwCl (pX6_put cy h t_position t_ends t_gains (t_size + 1)) H := hP
  have hD : va_D A (pX6_put cy h t_position t_ends t_gains (t_size + 1)) := hD
  exact W.vret hx hb hr (fun t ht hW => ⟨⟨(t_ends, t_gains, (t_size + 1)), rfl, hv, va_Ph ht hP⟩, hS.F ht⟩) hS.2.2 dX6_put_56
set_option maxHeartbeats 4000000 in
set_option maxRecDepth 100000 in
theorem wX6_put_21 {p : Program} (l : Launch) {e : Env} {s : State} {m : MethodId} {args : Array Value} {below : List Frame} {meth : Method} {c : Code} {dC : Nat → ClassId} {dI : Nat → Nat → Nat} {cy : Nat → ClassId} {A : Nat → Prop} (h : Nat → Nat) (post : (Nat → Int32) → (Nat → Int32) → Int32 → Prop)   (t_position : Int32) (p1 : Int32) (C0 : cx p s m args meth c cX6_put 3 none wsX6_put RX6 dC dI cy A)  : ∀ (n : Nat) (t_ends : Nat → Int32) (t_gains : Nat → Int32) (t_size : Int32) (x2 : Int32), VX6_put_21 post p1 n t_ends t_gains t_size x2 → ∀ (H : Heap) (locs : List Loc) (ls : Array Slot), va_P (dC, dI) vwCl (pX6_put cy h t_position t_ends t_gains t_size) H → va_D A (pX6_put cy h t_position t_ends t_gains t_size) → va_S A s.heap H locs → lv_has ls 3 [(0, .ref (h 0)), (2, .int x2)] → W p l e rX6_put s m args below meth c H locs 0 0 (MQ below (va_Qv (fun (u : (Nat → Int32) × (Nat → Int32) × Int32) => post u.1 u.2.1 u.2.2) (fun (u : (Nat → Int32) × (Nat → Int32) × Int32) (t : State) => va_P (dC, dI) vwCl (pX6_put cy h t_position u.1 u.2.1 u.2.2) t.heap) A) args s 0 0 A) (F0 m 21 ls []) := by
  have C1 := C0
  obtain ⟨hx, hb, hr, hml, hown, hts, hlocks, hK, hA⟩ := C1
  intro n
  induction n with
  | zero => intro t_ends t_gains t_size x2 hv; exact hv.elim
  | succ n ih =>
    intro t_ends t_gains t_size x2 hv H locs ls hP hD hS hl
    refine lv_iload_n hx hb dX6_put_21 rfl (lv_at hl 1 rfl) ?_
    refine lv_iconst (v := 4) hx hb dX6_put_22 (by decide) ?_
    refine lv_icmp_ge (tgt := 46) hx hb dX6_put_23 (by decide) (fun c_6 => ?_) (fun c_6 => ?_)
    · have hv := hv.1 c_6
      exact wX6_put_46 l h post  t_position p1 C0 t_ends t_gains t_size hv _ _ _ hP hD hS (lv_sub hl [0] rfl)
    · have hv := hv.2 c_6
      refine lv_aload_n hx hb dX6_put_26 rfl (lv_at hl 0 rfl) ?_
      refine va_get (D := (dC, dI)) (ci := 6) (v := .ref (h 2)) (C := RX6) (T := TX6) (N := 4) hx hb hts nX6_put_X6 hown hK hP 0 rfl rfl 2 (by decide) (hts _ mX6_put_3) (fun _ h9 => h9) rfl dX6_put_27 ?_
      refine lv_iconst (v := 4) hx hb dX6_put_30 (by decide) ?_
      refine lv_aload_n hx hb dX6_put_31 rfl (lv_at hl 0 rfl) ?_
      refine va_get (D := (dC, dI)) (ci := 6) (v := .int t_size) (C := RX6) (T := TX6) (N := 4) hx hb hts nX6_put_X6 hown hK hP 0 rfl rfl 3 (by decide) (hts _ mX6_put_1) (fun _ h9 => h9) rfl dX6_put_32 ?_
      refine lv_imul hx hb dX6_put_35 ?_
      refine lv_iload_n hx hb dX6_put_36 rfl (lv_at hl 1 rfl) ?_
      refine lv_iadd hx hb dX6_put_37 ?_
      refine lv_topi (fun y_4 ey_4 => ?_)
      have hv := hv y_4 ey_4
      refine lv_iconst (v := 0) hx hb dX6_put_38 (by decide) ?_
      have h_5 := hv.1
      have hv := hv.2
      refine va_iast hx hb hK hP hD hS 2 0 rfl rfl h_5 dX6_put_39 (fun H locs hP hD hS => ?_)
      have hP : va_P (dC, dI) vwCl (pX6_put cy h t_position t_ends (upd t_gains y_4.toNatClampNeg 0) t_size) H := hP
      have hD : va_D A (pX6_put cy h t_position t_ends (upd t_gains y_4.toNatClampNeg 0) t_size) := hD
      refine lv_iinc (v := (x2 + 1)) (lv' := [(2, .int ((x2 + 1))), (0, .ref (h 0))]) hx hb dX6_put_40 hl (k := 1) rfl rfl (by decide) rfl (fun ls hl => ?_)
      refine lv_goto (tgt := 21) hx hb dX6_put_43 (by decide) ?_
      exact ih t_ends (upd t_gains y_4.toNatClampNeg 0) t_size (x2 + 1) hv _ _ _ hP hD hS (lv_sub hl [1, 0] rfl)
set_option maxHeartbeats 4000000 in
set_option maxRecDepth 100000 in
theorem wX6_put_0 {p : Program} (l : Launch) {e : Env} {s : State} {m : MethodId} {args : Array Value} {below : List Frame} {meth : Method} {c : Code} {dC : Nat → ClassId} {dI : Nat → Nat → Nat} {cy : Nat → ClassId} {A : Nat → Prop} (h : Nat → Nat) (post : (Nat → Int32) → (Nat → Int32) → Int32 → Prop)   (t_position : Int32) (p1 : Int32) (C0 : cx p s m args meth c cX6_put 3 none wsX6_put RX6 dC dI cy A)  : ∀ (t_ends : Nat → Int32) (t_gains : Nat → Int32) (t_size : Int32), VX6_put post p1 t_ends t_gains t_size → ∀ (H : Heap) (locs : List Loc) (ls : Array Slot), va_P (dC, dI) vwCl (pX6_put cy h t_position t_ends t_gains t_size) H → va_D A (pX6_put cy h t_position t_ends t_gains t_size) → va_S A s.heap H locs → lv_has ls 3 [(0, .ref (h 0)), (1, .int p1)] → W p l e rX6_put s m args below meth c H locs 0 0 (MQ below (va_Qv (fun (u : (Nat → Int32) × (Nat → Int32) × Int32) => post u.1 u.2.1 u.2.2) (fun (u : (Nat → Int32) × (Nat → Int32) × Int32) (t : State) => va_P (dC, dI) vwCl (pX6_put cy h t_position u.1 u.2.1 u.2.2) t.heap) A) args s 0 0 A) (F0 m 0 ls []) := by
  have C1 := C0
  obtain ⟨hx, hb, hr, hml, hown, hts, hlocks, hK, hA⟩ := C1
  intro t_ends t_gains t_size hv H locs ls hP hD hS hl
  refine lv_aload_n hx hb dX6_put_0 rfl (lv_at hl 0 rfl) ?_
  refine va_get (D := (dC, dI)) (ci := 6) (v := .int t_size) (C := RX6) (T := TX6) (N := 4) hx hb hts nX6_put_X6 hown hK hP 0 rfl rfl 3 (by decide) (hts _ mX6_put_1) (fun _ h9 => h9) rfl dX6_put_1 ?_
  refine lv_bipush (v := 21) hx hb dX6_put_4 (by decide) ?_
  refine lv_icmp_ge (tgt := 56) hx hb dX6_put_6 (by decide) (fun c_3 => ?_) (fun c_3 => ?_)
  · have hv := hv.1 c_3
    exact W.vret hx hb hr (fun t ht hW => ⟨⟨(t_ends, t_gains, t_size), rfl, hv, va_Ph ht hP⟩, hS.F ht⟩) hS.2.2 dX6_put_56
  · have hv := hv.2 c_3
    refine lv_aload_n hx hb dX6_put_9 rfl (lv_at hl 0 rfl) ?_
    refine va_get (D := (dC, dI)) (ci := 6) (v := .ref (h 1)) (C := RX6) (T := TX6) (N := 4) hx hb hts nX6_put_X6 hown hK hP 0 rfl rfl 1 (by decide) (hts _ mX6_put_2) (fun _ h9 => h9) rfl dX6_put_10 ?_
    refine lv_aload_n hx hb dX6_put_13 rfl (lv_at hl 0 rfl) ?_
    refine va_get (D := (dC, dI)) (ci := 6) (v := .int t_size) (C := RX6) (T := TX6) (N := 4) hx hb hts nX6_put_X6 hown hK hP 0 rfl rfl 3 (by decide) (hts _ mX6_put_1) (fun _ h9 => h9) rfl dX6_put_14 ?_
    refine lv_iload_n hx hb dX6_put_17 rfl (lv_at hl 1 rfl) ?_
    have h_1 := hv.1
    have hv := hv.2
    refine va_iast hx hb hK hP hD hS 1 0 rfl rfl h_1 dX6_put_18 (fun H locs hP hD hS => ?_)
    have hP : va_P (dC, dI) vwCl (pX6_put cy h t_position (upd t_ends t_size.toNatClampNeg p1) t_gains t_size) H := hP
    have hD : va_D A (pX6_put cy h t_position (upd t_ends t_size.toNatClampNeg p1) t_gains t_size) := hD
    refine lv_iconst (v := 0) hx hb dX6_put_19 (by decide) ?_
    refine lv_istore_n (lv' := [(2, .int 0), (0, .ref (h 0)), (1, .int p1)]) hx hb dX6_put_20 rfl hl (by decide) rfl (fun ls hl => ?_)
    obtain ⟨n_2, hv⟩ := hv
    exact wX6_put_21 l h post  t_position p1 C0 n_2 (upd t_ends t_size.toNatClampNeg p1) t_gains t_size 0 hv _ _ _ hP hD hS (lv_sub hl [1, 0] rfl)
theorem kX6_put (l : Launch) (dC : Nat → ClassId) (dI : Nat → Nat → Nat) (cy : Nat → ClassId) (h : Nat → Nat) (t_position : Int32) (t_ends : Nat → Int32) (t_gains : Nat → Int32) (t_size : Int32) (p1 : Int32) (post : (Nat → Int32) → (Nat → Int32) → Int32 → Prop) (hv : VX6_put post p1 t_ends t_gains t_size) : CtV l yX6_put wsX6_put rX6_put dC dI cy [.ref (h 0), .int p1] (pX6_put cy h t_position t_ends t_gains t_size) (fun (u : (Nat → Int32) × (Nat → Int32) × Int32) => pX6_put cy h t_position u.1 u.2.1 u.2.2) (fun (u : (Nat → Int32) × (Nat → Int32) × Int32) => post u.1 u.2.1 u.2.2) :=
  ct_ofV (by decide) rfl (Nat.le_of_ble_eq_true rfl) (fun p e s m below meth c A ls C0 hP hD hS hl => wX6_put_0 l h post t_position p1 C0 t_ends t_gains t_size hv _ _ _ hP hD hS hl)
theorem mX6_gain_1 : (Cond.fieldLink RX6 15 "AbelianPowers$Splits" "gains" "[I") ∈ wsX6_gain := List.mem_of_getElem? (i := 1) rfl
theorem mX6_gain_2 : (Cond.fieldLink RX6 22 "AbelianPowers$Splits" "size" "I") ∈ wsX6_gain := List.mem_of_getElem? (i := 2) rfl
theorem mX6_gain_3 : (Cond.fieldLink RX6 47 "AbelianPowers$Word" "letters" "[I") ∈ wsX6_gain := List.mem_of_getElem? (i := 3) rfl
theorem nX6_gain_X6 : ∀ w ∈ wsX60, w ∈ wsX6_gain := fun _ h => List.mem_cons_of_mem _ (List.mem_append_left _ (List.mem_append_right _ h))
theorem nX6_gain_X9 : ∀ w ∈ wsX90, w ∈ wsX6_gain := fun _ h => List.mem_cons_of_mem _ (List.mem_append_right _ h)
theorem zX6_gain : yX6_gain.cls = RX6 ∧ yX6_gain.cls ≠ "java/lang/invoke/MethodHandle" ∧ yX6_gain.cls ≠ "java/lang/invoke/VarHandle" ∧ (parseMethodDescriptor yX6_gain.desc).map (fun d => d.parameters.length) = some 5 := by decide +kernel
abbrev rX6_gain : Room := { frames := 0, cells := 0, slots := 0, locals := 0 }
abbrev pX6_gain (cy : Nat → ClassId) (h : Nat → Nat) (a1_n : Nat) (t_position : Int32) (t_gains : Nat → Int32) (t_size : Int32) (a1_letters : Nat → Int32) (a1_size : Int32) (a5 : Nat → Int32) : va_W := [(h 0, .inr (6, [.int t_position, .ref (h 5), .ref (h 1), .int t_size])), (h 1, .inl (cy 0, 84, .inl t_gains)), (h 2, .inr (9, [.ref (h 3), .int a1_size])), (h 3, .inl (cy 0, a1_n, .inl a1_letters)), (h 4, .inl (cy 0, 16, .inl a5))]
def VX6_gain_17 (post : (Nat → Int32) → Prop) (K3 : (Nat → Int32) → Int32 → Prop) (a1_n : Nat) (t_size : Int32) (a1_letters : Nat → Int32) (a5 : Nat → Int32) (p2 : Int32) (p3 : Int32) (p4 : Int32) : Nat → (Nat → Int32) → Int32 → Int32 → Prop
  | 0, _, _, _ => False
  | n + 1, t_gains, x6, x7 => ((4 ≤ x7) → K3 t_gains (x6 + 1)) ∧ (¬ (4 ≤ x7) → ∀ y_5 : Int32, y_5 = (((4 : Int32) * (t_size - 1)) + x7) → vp_in y_5 84 ∧ (vp_in x6 a1_n ∧ (∀ y_7 : Int32, y_7 = (a1_letters x6.toNatClampNeg) → vp_in (((4 : Int32) * x7) + y_7) 16 ∧ (∀ y_9 : Int32, y_9 = (a5 (((4 : Int32) * x7) + y_7).toNatClampNeg) → ∀ y_11 : Int32, y_11 = ((t_gains y_5.toNatClampNeg) + (p4 * y_9)) → vp_in y_5 84 ∧ (VX6_gain_17 post K3 a1_n t_size a1_letters a5 p2 p3 p4 n (upd t_gains y_5.toNatClampNeg y_11) x6 (x7 + 1))))))
def VX6_gain_3 (post : (Nat → Int32) → Prop)  (a1_n : Nat) (t_size : Int32) (a1_letters : Nat → Int32) (a5 : Nat → Int32) (p2 : Int32) (p3 : Int32) (p4 : Int32) : Nat → (Nat → Int32) → Int32 → Prop
  | 0, _, _ => False
  | n + 1, t_gains, x6 => ((p3 ≤ x6) → post t_gains) ∧ (¬ (p3 ≤ x6) → ((p4 = 0) → post t_gains) ∧ (¬ (p4 = 0) → ∃ n17 : Nat, VX6_gain_17 post (fun t_gains x6 => VX6_gain_3 post a1_n t_size a1_letters a5 p2 p3 p4 n t_gains x6) a1_n t_size a1_letters a5 p2 p3 p4 n17 t_gains x6 0))
def VX6_gain (post : (Nat → Int32) → Prop)  (a1_n : Nat) (t_size : Int32) (a1_letters : Nat → Int32) (a5 : Nat → Int32) (p2 : Int32) (p3 : Int32) (p4 : Int32) (t_gains : Nat → Int32) : Prop := ∃ n3 : Nat, VX6_gain_3 post a1_n t_size a1_letters a5 p2 p3 p4 n3 t_gains p2
set_option maxHeartbeats 4000000 in
set_option maxRecDepth 100000 in
theorem wX6_gain_17 {p : Program} (l : Launch) {e : Env} {s : State} {m : MethodId} {args : Array Value} {below : List Frame} {meth : Method} {c : Code} {dC : Nat → ClassId} {dI : Nat → Nat → Nat} {cy : Nat → ClassId} {A : Nat → Prop} (h : Nat → Nat) (a1_n : Nat) (post : (Nat → Int32) → Prop) (K3 : (Nat → Int32) → Int32 → Prop)  (t_position : Int32) (t_size : Int32) (a1_letters : Nat → Int32) (a1_size : Int32) (a5 : Nat → Int32) (p2 : Int32) (p3 : Int32) (p4 : Int32) (C0 : cx p s m args meth c cX6_gain 8 none wsX6_gain RX6 dC dI cy A) (hK3 : ∀ (t_gains : Nat → Int32) (x6 : Int32), K3 t_gains x6 → ∀ (H : Heap) (locs : List Loc) (ls : Array Slot), va_P (dC, dI) vwCl (pX6_gain cy h a1_n t_position t_gains t_size a1_letters a1_size a5) H → va_D A (pX6_gain cy h a1_n t_position t_gains t_size a1_letters a1_size a5) → va_S A s.heap H locs → lv_has ls 8 [(0, .ref (h 0)), (1, .ref (h 2)), (3, .int p3), (4, .int p4), (5, .ref (h 4)), (6, .int x6)] → W p l e rX6_gain s m args below meth c H locs 0 0 (MQ below (va_Qv (fun (u : (Nat → Int32)) => post u) (fun (u : (Nat → Int32)) (t : State) => va_P (dC, dI) vwCl (pX6_gain cy h a1_n t_position u t_size a1_letters a1_size a5) t.heap) A) args s 0 0 A) (F0 m 3 ls [])) : ∀ (n : Nat) (t_gains : Nat → Int32) (x6 : Int32) (x7 : Int32), VX6_gain_17 post K3 a1_n t_size a1_letters a5 p2 p3 p4 n t_gains x6 x7 → ∀ (H : Heap) (locs : List Loc) (ls : Array Slot), va_P (dC, dI) vwCl (pX6_gain cy h a1_n t_position t_gains t_size a1_letters a1_size a5) H → va_D A (pX6_gain cy h a1_n t_position t_gains t_size a1_letters a1_size a5) → va_S A s.heap H locs → lv_has ls 8 [(0, .ref (h 0)), (1, .ref (h 2)), (3, .int p3), (4, .int p4), (5, .ref (h 4)), (6, .int x6), (7, .int x7)] → W p l e rX6_gain s m args below meth c H locs 0 0 (MQ below (va_Qv (fun (u : (Nat → Int32)) => post u) (fun (u : (Nat → Int32)) (t : State) => va_P (dC, dI) vwCl (pX6_gain cy h a1_n t_position u t_size a1_letters a1_size a5) t.heap) A) args s 0 0 A) (F0 m 17 ls []) := by
  have C1 := C0
  obtain ⟨hx, hb, hr, hml, hown, hts, hlocks, hK, hA⟩ := C1
  intro n
  induction n with
  | zero => intro t_gains x6 x7 hv; exact hv.elim
  | succ n ih =>
    intro t_gains x6 x7 hv H locs ls hP hD hS hl
    refine lv_iload hx hb dX6_gain_17 (lv_at hl 6 rfl) ?_
    refine lv_iconst (v := 4) hx hb dX6_gain_19 (by decide) ?_
    refine lv_icmp_ge (tgt := 66) hx hb dX6_gain_20 (by decide) (fun c_13 => ?_) (fun c_13 => ?_)
    · have hv := hv.1 c_13
      refine lv_iinc (v := (x6 + 1)) (lv' := [(6, .int ((x6 + 1))), (0, .ref (h 0)), (1, .ref (h 2)), (3, .int p3), (4, .int p4), (5, .ref (h 4)), (7, .int x7)]) hx hb dX6_gain_66 hl (k := 5) rfl rfl (by decide) rfl (fun ls hl => ?_)
      refine lv_goto (tgt := 3) hx hb dX6_gain_69 (by decide) ?_
      exact hK3 t_gains (x6 + 1) hv _ _ _ hP hD hS (lv_sub hl [1, 2, 3, 4, 5, 0] rfl)
    · have hv := hv.2 c_13
      refine lv_aload_n hx hb dX6_gain_23 rfl (lv_at hl 0 rfl) ?_
      refine va_get (D := (dC, dI)) (ci := 6) (v := .ref (h 1)) (C := RX6) (T := TX6) (N := 4) hx hb hts nX6_gain_X6 hown hK hP 0 rfl rfl 2 (by decide) (hts _ mX6_gain_1) (fun _ h9 => h9) rfl dX6_gain_24 ?_
      refine lv_iconst (v := 4) hx hb dX6_gain_27 (by decide) ?_
      refine lv_aload_n hx hb dX6_gain_28 rfl (lv_at hl 0 rfl) ?_
      refine va_get (D := (dC, dI)) (ci := 6) (v := .int t_size) (C := RX6) (T := TX6) (N := 4) hx hb hts nX6_gain_X6 hown hK hP 0 rfl rfl 3 (by decide) (hts _ mX6_gain_2) (fun _ h9 => h9) rfl dX6_gain_29 ?_
      refine lv_iconst (v := 1) hx hb dX6_gain_32 (by decide) ?_
      refine lv_isub hx hb dX6_gain_33 ?_
      refine lv_imul hx hb dX6_gain_34 ?_
      refine lv_iload hx hb dX6_gain_35 (lv_at hl 6 rfl) ?_
      refine lv_iadd hx hb dX6_gain_37 ?_
      refine lv_topi (fun y_5 ey_5 => ?_)
      have hv := hv y_5 ey_5
      refine lv_dup2_11 hx hb dX6_gain_38 rfl rfl ?_
      have h_6 := hv.1
      have hv := hv.2
      refine va_iald hx hb hK hP 1 0 rfl rfl h_6 dX6_gain_39 ?_
      refine lv_iload hx hb dX6_gain_40 (lv_at hl 3 rfl) ?_
      refine lv_aload hx hb dX6_gain_42 (lv_at hl 4 rfl) ?_
      refine lv_iconst (v := 4) hx hb dX6_gain_44 (by decide) ?_
      refine lv_iload hx hb dX6_gain_45 (lv_at hl 6 rfl) ?_
      refine lv_imul hx hb dX6_gain_47 ?_
      refine lv_aload_n hx hb dX6_gain_48 rfl (lv_at hl 1 rfl) ?_
      refine va_get (D := (dC, dI)) (ci := 9) (v := .ref (h 3)) (C := RX9) (T := TX9) (N := 2) hx hb hts nX6_gain_X9 hown hK hP 2 rfl rfl 0 (by decide) (hts _ mX6_gain_3) (fun _ h9 => h9) rfl dX6_gain_49 ?_
      refine lv_iload hx hb dX6_gain_52 (lv_at hl 5 rfl) ?_
      have h_8 := hv.1
      have hv := hv.2
      refine va_iald hx hb hK hP 3 0 rfl rfl h_8 dX6_gain_54 ?_
      refine lv_topi (fun y_7 ey_7 => ?_)
      have hv := hv y_7 ey_7
      refine lv_iadd hx hb dX6_gain_55 ?_
      have h_10 := hv.1
      have hv := hv.2
      refine va_iald hx hb hK hP 4 0 rfl rfl h_10 dX6_gain_56 ?_
      refine lv_topi (fun y_9 ey_9 => ?_)
      have hv := hv y_9 ey_9
      refine lv_imul hx hb dX6_gain_57 ?_
      refine lv_iadd hx hb dX6_gain_58 ?_
      refine lv_topi (fun y_11 ey_11 => ?_)
      have hv := hv y_11 ey_11
      have h_12 := hv.1
      have hv := hv.2
      refine va_iast hx hb hK hP hD hS 1 0 rfl rfl h_12 dX6_gain_59 (fun H locs hP hD hS => ?_)
      have hP : va_P (dC, dI) vwCl (pX6_gain cy h a1_n t_position (upd t_gains y_5.toNatClampNeg y_11) t_size a1_letters a1_size a5) H := hP
      have hD : va_D A (pX6_gain cy h a1_n t_position (upd t_gains y_5.toNatClampNeg y_11) t_size a1_letters a1_size a5) := hD
      refine lv_iinc (v := (x7 + 1)) (lv' := [(7, .int ((x7 + 1))), (0, .ref (h 0)), (1, .ref (h 2)), (3, .int p3), (4, .int p4), (5, .ref (h 4)), (6, .int x6)]) hx hb dX6_gain_60 hl (k := 6) rfl rfl (by decide) rfl (fun ls hl => ?_)
      refine lv_goto (tgt := 17) hx hb dX6_gain_63 (by decide) ?_
      exact ih (upd t_gains y_5.toNatClampNeg y_11) x6 (x7 + 1) hv _ _ _ hP hD hS (lv_sub hl [1, 2, 3, 4, 5, 6, 0] rfl)
set_option maxHeartbeats 4000000 in
set_option maxRecDepth 100000 in
theorem wX6_gain_3 {p : Program} (l : Launch) {e : Env} {s : State} {m : MethodId} {args : Array Value} {below : List Frame} {meth : Method} {c : Code} {dC : Nat → ClassId} {dI : Nat → Nat → Nat} {cy : Nat → ClassId} {A : Nat → Prop} (h : Nat → Nat) (a1_n : Nat) (post : (Nat → Int32) → Prop)   (t_position : Int32) (t_size : Int32) (a1_letters : Nat → Int32) (a1_size : Int32) (a5 : Nat → Int32) (p2 : Int32) (p3 : Int32) (p4 : Int32) (C0 : cx p s m args meth c cX6_gain 8 none wsX6_gain RX6 dC dI cy A)  : ∀ (n : Nat) (t_gains : Nat → Int32) (x6 : Int32), VX6_gain_3 post a1_n t_size a1_letters a5 p2 p3 p4 n t_gains x6 → ∀ (H : Heap) (locs : List Loc) (ls : Array Slot), va_P (dC, dI) vwCl (pX6_gain cy h a1_n t_position t_gains t_size a1_letters a1_size a5) H → va_D A (pX6_gain cy h a1_n t_position t_gains t_size a1_letters a1_size a5) → va_S A s.heap H locs → lv_has ls 8 [(0, .ref (h 0)), (1, .ref (h 2)), (3, .int p3), (4, .int p4), (5, .ref (h 4)), (6, .int x6)] → W p l e rX6_gain s m args below meth c H locs 0 0 (MQ below (va_Qv (fun (u : (Nat → Int32)) => post u) (fun (u : (Nat → Int32)) (t : State) => va_P (dC, dI) vwCl (pX6_gain cy h a1_n t_position u t_size a1_letters a1_size a5) t.heap) A) args s 0 0 A) (F0 m 3 ls []) := by
  have C1 := C0
  obtain ⟨hx, hb, hr, hml, hown, hts, hlocks, hK, hA⟩ := C1
  intro n
  induction n with
  | zero => intro t_gains x6 hv; exact hv.elim
  | succ n ih =>
    intro t_gains x6 hv H locs ls hP hD hS hl
    refine lv_iload hx hb dX6_gain_3 (lv_at hl 5 rfl) ?_
    refine lv_iload_n hx hb dX6_gain_5 rfl (lv_at hl 2 rfl) ?_
    refine lv_icmp_ge (tgt := 72) hx hb dX6_gain_6 (by decide) (fun c_4 => ?_) (fun c_4 => ?_)
    · have hv := hv.1 c_4
      exact W.vret hx hb hr (fun t ht hW => ⟨⟨(t_gains), rfl, hv, va_Ph ht hP⟩, hS.F ht⟩) hS.2.2 dX6_gain_72
    · have hv := hv.2 c_4
      refine lv_iload hx hb dX6_gain_9 (lv_at hl 3 rfl) ?_
      refine lv_if_eq (tgt := 72) hx hb dX6_gain_11 (by decide) (fun c_3 => ?_) (fun c_3 => ?_)
      · have hv := hv.1 c_3
        exact W.vret hx hb hr (fun t ht hW => ⟨⟨(t_gains), rfl, hv, va_Ph ht hP⟩, hS.F ht⟩) hS.2.2 dX6_gain_72
      · have hv := hv.2 c_3
        refine lv_iconst (v := 0) hx hb dX6_gain_14 (by decide) ?_
        refine lv_istore (lv' := [(7, .int 0), (0, .ref (h 0)), (1, .ref (h 2)), (3, .int p3), (4, .int p4), (5, .ref (h 4)), (6, .int x6)]) hx hb dX6_gain_15 hl (by decide) rfl (fun ls hl => ?_)
        obtain ⟨n_2, hv⟩ := hv
        exact wX6_gain_17 l h a1_n post (fun t_gains x6 => VX6_gain_3 post a1_n t_size a1_letters a5 p2 p3 p4 n t_gains x6)  t_position t_size a1_letters a1_size a5 p2 p3 p4 C0 ih n_2 t_gains x6 0 hv _ _ _ hP hD hS (lv_sub hl [1, 2, 3, 4, 5, 6, 0] rfl)
set_option maxHeartbeats 4000000 in
set_option maxRecDepth 100000 in
theorem wX6_gain_0 {p : Program} (l : Launch) {e : Env} {s : State} {m : MethodId} {args : Array Value} {below : List Frame} {meth : Method} {c : Code} {dC : Nat → ClassId} {dI : Nat → Nat → Nat} {cy : Nat → ClassId} {A : Nat → Prop} (h : Nat → Nat) (a1_n : Nat) (post : (Nat → Int32) → Prop)   (t_position : Int32) (t_size : Int32) (a1_letters : Nat → Int32) (a1_size : Int32) (a5 : Nat → Int32) (p2 : Int32) (p3 : Int32) (p4 : Int32) (C0 : cx p s m args meth c cX6_gain 8 none wsX6_gain RX6 dC dI cy A)  : ∀ (t_gains : Nat → Int32), VX6_gain post a1_n t_size a1_letters a5 p2 p3 p4 t_gains → ∀ (H : Heap) (locs : List Loc) (ls : Array Slot), va_P (dC, dI) vwCl (pX6_gain cy h a1_n t_position t_gains t_size a1_letters a1_size a5) H → va_D A (pX6_gain cy h a1_n t_position t_gains t_size a1_letters a1_size a5) → va_S A s.heap H locs → lv_has ls 8 [(0, .ref (h 0)), (1, .ref (h 2)), (2, .int p2), (3, .int p3), (4, .int p4), (5, .ref (h 4))] → W p l e rX6_gain s m args below meth c H locs 0 0 (MQ below (va_Qv (fun (u : (Nat → Int32)) => post u) (fun (u : (Nat → Int32)) (t : State) => va_P (dC, dI) vwCl (pX6_gain cy h a1_n t_position u t_size a1_letters a1_size a5) t.heap) A) args s 0 0 A) (F0 m 0 ls []) := by
  have C1 := C0
  obtain ⟨hx, hb, hr, hml, hown, hts, hlocks, hK, hA⟩ := C1
  intro t_gains hv H locs ls hP hD hS hl
  refine lv_iload_n hx hb dX6_gain_0 rfl (lv_at hl 2 rfl) ?_
  refine lv_istore (lv' := [(6, .int p2), (0, .ref (h 0)), (1, .ref (h 2)), (2, .int p2), (3, .int p3), (4, .int p4), (5, .ref (h 4))]) hx hb dX6_gain_1 hl (by decide) rfl (fun ls hl => ?_)
  obtain ⟨n_1, hv⟩ := hv
  exact wX6_gain_3 l h a1_n post  t_position t_size a1_letters a1_size a5 p2 p3 p4 C0 n_1 t_gains p2 hv _ _ _ hP hD hS (lv_sub hl [1, 2, 4, 5, 6, 0] rfl)
theorem kX6_gain (l : Launch) (dC : Nat → ClassId) (dI : Nat → Nat → Nat) (cy : Nat → ClassId) (h : Nat → Nat) (a1_n : Nat) (t_position : Int32) (t_gains : Nat → Int32) (t_size : Int32) (a1_letters : Nat → Int32) (a1_size : Int32) (a5 : Nat → Int32) (p2 : Int32) (p3 : Int32) (p4 : Int32) (post : (Nat → Int32) → Prop) (hv : VX6_gain post a1_n t_size a1_letters a5 p2 p3 p4 t_gains) : CtV l yX6_gain wsX6_gain rX6_gain dC dI cy [.ref (h 0), .ref (h 2), .int p2, .int p3, .int p4, .ref (h 4)] (pX6_gain cy h a1_n t_position t_gains t_size a1_letters a1_size a5) (fun (u : (Nat → Int32)) => pX6_gain cy h a1_n t_position u t_size a1_letters a1_size a5) (fun (u : (Nat → Int32)) => post u) :=
  ct_ofV (by decide) rfl (Nat.le_of_ble_eq_true rfl) (fun p e s m below meth c A ls C0 hP hD hS hl => wX6_gain_0 l h a1_n post t_position t_size a1_letters a1_size a5 p2 p3 p4 C0 t_gains hv _ _ _ hP hD hS hl)
theorem mX6_find_1 : (Cond.fieldLink RX6 22 "AbelianPowers$Splits" "size" "I") ∈ wsX6_find := List.mem_of_getElem? (i := 1) rfl
theorem mX6_find_2 : (Cond.fieldLink RX6 29 "AbelianPowers$Setting" "letters" "I") ∈ wsX6_find := List.mem_of_getElem? (i := 2) rfl
theorem mX6_find_3 : (Cond.fieldLink RX6 34 "AbelianPowers$Setting" "images" "[LAbelianPowers$Word;") ∈ wsX6_find := List.mem_of_getElem? (i := 3) rfl
theorem mX6_find_4 : (Cond.fieldLink RX6 44 "AbelianPowers$Word" "size" "I") ∈ wsX6_find := List.mem_of_getElem? (i := 4) rfl
theorem mX6_find_5 : (Cond.fieldLink RX6 47 "AbelianPowers$Word" "letters" "[I") ∈ wsX6_find := List.mem_of_getElem? (i := 5) rfl
theorem nX6_find_X6 : ∀ w ∈ wsX60, w ∈ wsX6_find := fun _ h => List.mem_cons_of_mem _ (List.mem_append_left _ (List.mem_append_left _ (List.mem_append_right _ h)))
theorem nX6_find_X5 : ∀ w ∈ wsX50, w ∈ wsX6_find := fun _ h => List.mem_cons_of_mem _ (List.mem_append_left _ (List.mem_append_right _ h))
theorem nX6_find_X9 : ∀ w ∈ wsX90, w ∈ wsX6_find := fun _ h => List.mem_cons_of_mem _ (List.mem_append_right _ h)
theorem zX6_find : yX6_find.cls = RX6 ∧ yX6_find.cls ≠ "java/lang/invoke/MethodHandle" ∧ yX6_find.cls ≠ "java/lang/invoke/VarHandle" ∧ (parseMethodDescriptor yX6_find.desc).map (fun d => d.parameters.length) = some 3 := by decide +kernel
abbrev rX6_find : Room := { frames := 1, cells := 0, slots := 0, locals := 27 }
abbrev pX6_find (cy : Nat → ClassId) (h : Nat → Nat) (a2_images_A : Nat → Nat) (a2_images_B : Nat → Nat) (t_position : Int32) (t_ends : Nat → Int32) (t_gains : Nat → Int32) (t_size : Int32) (a2_kind : Int32) (a2_exponent : Int32) (a2_letters : Int32) (a2_images_letters : Nat → Nat → Int32) (a2_images_size : Nat → Int32) (a3 : Nat → Int32) : va_W := [(h 0, .inr (6, [.int t_position, .ref (h 1), .ref (h 2), .int t_size])), (h 1, .inl (cy 0, 21, .inl t_ends)), (h 2, .inl (cy 0, 84, .inl t_gains)), (h 3, .inr (5, [.int a2_kind, .int a2_exponent, .int a2_letters, .ref (h 6), .ref (h 7), .ref (h 4)])), (h 4, .inl (cy 3, 4, .inr (.inr (.inr (.inr (fun j => some (a2_images_A j))))))), (a2_images_A 0, .inr (9, [.ref (a2_images_B 0), .int (a2_images_size 0)])), (a2_images_B 0, .inl (cy 0, 4, .inl (a2_images_letters 0))), (a2_images_A 1, .inr (9, [.ref (a2_images_B 1), .int (a2_images_size 1)])), (a2_images_B 1, .inl (cy 0, 4, .inl (a2_images_letters 1))), (a2_images_A 2, .inr (9, [.ref (a2_images_B 2), .int (a2_images_size 2)])), (a2_images_B 2, .inl (cy 0, 4, .inl (a2_images_letters 2))), (a2_images_A 3, .inr (9, [.ref (a2_images_B 3), .int (a2_images_size 3)])), (a2_images_B 3, .inl (cy 0, 4, .inl (a2_images_letters 3))), (h 5, .inl (cy 0, 16, .inl a3))]
def VX6_find_71 (post : (Nat → Int32) → (Nat → Int32) → Int32 → Prop) (K39 : (Nat → Int32) → (Nat → Int32) → Int32 → Int32 → Int32 → Prop) (t_position : Int32) (a2_letters : Int32) (a2_images_letters : Nat → Nat → Int32) (a2_images_size : Nat → Int32) (a3 : Nat → Int32) (p1 : Int32) (t_ends : Nat → Int32) (t_gains : Nat → Int32) (t_size : Int32) (x4 : Int32) (x6 : Int32) : Prop := VX6_put (fun u_19 u_20 u_21 => VX6_prefixSign (fun r_22 => VX6_gain (fun u_23 => VX7_width (fun r_24 => VX6_suffixSign (fun r_25 => VX6_gain (fun u_26 => K39 u_19 u_26 u_21 x4 (x6 + 1)) 4 u_21 (a2_images_letters x4.toNatClampNeg) a3 (x6 + r_24) (a2_images_size x4.toNatClampNeg) r_25 u_23) t_position) p1) 4 u_21 (a2_images_letters x4.toNatClampNeg) a3 0 x6 r_22 u_20) t_position) x4 t_ends t_gains t_size
def VX6_find_39 (post : (Nat → Int32) → (Nat → Int32) → Int32 → Prop) (K18 : (Nat → Int32) → (Nat → Int32) → Int32 → Int32 → Prop) (t_position : Int32) (a2_letters : Int32) (a2_images_letters : Nat → Nat → Int32) (a2_images_size : Nat → Int32) (a3 : Nat → Int32) (p1 : Int32) : Nat → (Nat → Int32) → (Nat → Int32) → Int32 → Int32 → Int32 → Prop
  | 0, _, _, _, _, _ => False
  | n + 1, t_ends, t_gains, t_size, x4, x6 => VX7_width (fun r_12 => (((a2_images_size x4.toNatClampNeg) < (x6 + r_12)) → K18 t_ends t_gains t_size (x4 + 1)) ∧ (¬ ((a2_images_size x4.toNatClampNeg) < (x6 + r_12)) → ((p1 = (-1)) → VX6_find_71 post (fun t_ends t_gains t_size x4 x6 => VX6_find_39 post K18 t_position a2_letters a2_images_letters a2_images_size a3 p1 n t_ends t_gains t_size x4 x6) t_position a2_letters a2_images_letters a2_images_size a3 p1 t_ends t_gains t_size x4 x6) ∧ (¬ (p1 = (-1)) → vp_in x6 4 ∧ (∀ y_13 : Int32, y_13 = ((a2_images_letters x4.toNatClampNeg) x6.toNatClampNeg) → (¬ (y_13 = p1) → VX6_find_39 post K18 t_position a2_letters a2_images_letters a2_images_size a3 p1 n t_ends t_gains t_size x4 (x6 + 1)) ∧ ((y_13 = p1) → VX6_find_71 post (fun t_ends t_gains t_size x4 x6 => VX6_find_39 post K18 t_position a2_letters a2_images_letters a2_images_size a3 p1 n t_ends t_gains t_size x4 x6) t_position a2_letters a2_images_letters a2_images_size a3 p1 t_ends t_gains t_size x4 x6))))) p1
def VX6_find_18 (post : (Nat → Int32) → (Nat → Int32) → Int32 → Prop)  (t_position : Int32) (a2_letters : Int32) (a2_images_letters : Nat → Nat → Int32) (a2_images_size : Nat → Int32) (a3 : Nat → Int32) (p1 : Int32) : Nat → (Nat → Int32) → (Nat → Int32) → Int32 → Int32 → Prop
  | 0, _, _, _, _ => False
  | n + 1, t_ends, t_gains, t_size, x4 => ((a2_letters ≤ x4) → post t_ends t_gains t_size) ∧ (¬ (a2_letters ≤ x4) → vp_in x4 4 ∧ (∃ n39 : Nat, VX6_find_39 post (fun t_ends t_gains t_size x4 => VX6_find_18 post t_position a2_letters a2_images_letters a2_images_size a3 p1 n t_ends t_gains t_size x4) t_position a2_letters a2_images_letters a2_images_size a3 p1 n39 t_ends t_gains t_size x4 0))
def VX6_find (post : (Nat → Int32) → (Nat → Int32) → Int32 → Prop)  (t_position : Int32) (a2_letters : Int32) (a2_images_letters : Nat → Nat → Int32) (a2_images_size : Nat → Int32) (a3 : Nat → Int32) (p1 : Int32) (t_ends : Nat → Int32) (t_gains : Nat → Int32) (t_size : Int32) : Prop := (¬ (p1 = (-1)) → ∃ n18 : Nat, VX6_find_18 post t_position a2_letters a2_images_letters a2_images_size a3 p1 n18 t_ends t_gains 0 0) ∧ ((p1 = (-1)) → VX6_put (fun u_2 u_3 u_4 => ∃ n18 : Nat, VX6_find_18 post t_position a2_letters a2_images_letters a2_images_size a3 p1 n18 u_2 u_3 u_4 0) (-1) t_ends t_gains 0)
set_option maxHeartbeats 4000000 in
set_option maxRecDepth 100000 in
theorem wX6_find_71 {p : Program} (l : Launch) {e : Env} {s : State} {m : MethodId} {args : Array Value} {below : List Frame} {meth : Method} {c : Code} {dC : Nat → ClassId} {dI : Nat → Nat → Nat} {cy : Nat → ClassId} {A : Nat → Prop} (h : Nat → Nat) (a2_images_A : Nat → Nat) (a2_images_B : Nat → Nat) (post : (Nat → Int32) → (Nat → Int32) → Int32 → Prop) (K39 : (Nat → Int32) → (Nat → Int32) → Int32 → Int32 → Int32 → Prop)  (t_position : Int32) (a2_kind : Int32) (a2_exponent : Int32) (a2_letters : Int32) (a2_images_letters : Nat → Nat → Int32) (a2_images_size : Nat → Int32) (a3 : Nat → Int32) (p1 : Int32) (C0 : cx p s m args meth c cX6_find 7 none wsX6_find RX6 dC dI cy A) (hK39 : ∀ (t_ends : Nat → Int32) (t_gains : Nat → Int32) (t_size : Int32) (x4 : Int32) (x6 : Int32) (hj0 : x4.toNatClampNeg < 4), K39 t_ends t_gains t_size x4 x6 → ∀ (H : Heap) (locs : List Loc) (ls : Array Slot), va_P (dC, dI) vwCl (pX6_find cy h a2_images_A a2_images_B t_position t_ends t_gains t_size a2_kind a2_exponent a2_letters a2_images_letters a2_images_size a3) H → va_D A (pX6_find cy h a2_images_A a2_images_B t_position t_ends t_gains t_size a2_kind a2_exponent a2_letters a2_images_letters a2_images_size a3) → va_S A s.heap H locs → lv_has ls 7 [(0, .ref (h 0)), (1, .int p1), (2, .ref (h 3)), (3, .ref (h 5)), (4, .int x4), (5, .ref (a2_images_A x4.toNatClampNeg)), (6, .int x6)] → W p l e rX6_find s m args below meth c H locs 0 0 (MQ below (va_Qv (fun (u : (Nat → Int32) × (Nat → Int32) × Int32) => post u.1 u.2.1 u.2.2) (fun (u : (Nat → Int32) × (Nat → Int32) × Int32) (t : State) => va_P (dC, dI) vwCl (pX6_find cy h a2_images_A a2_images_B t_position u.1 u.2.1 u.2.2 a2_kind a2_exponent a2_letters a2_images_letters a2_images_size a3) t.heap) A) args s 0 0 A) (F0 m 39 ls [])) : ∀ (t_ends : Nat → Int32) (t_gains : Nat → Int32) (t_size : Int32) (x4 : Int32) (x6 : Int32) (hj0 : x4.toNatClampNeg < 4), VX6_find_71 post K39 t_position a2_letters a2_images_letters a2_images_size a3 p1 t_ends t_gains t_size x4 x6 → ∀ (H : Heap) (locs : List Loc) (ls : Array Slot), va_P (dC, dI) vwCl (pX6_find cy h a2_images_A a2_images_B t_position t_ends t_gains t_size a2_kind a2_exponent a2_letters a2_images_letters a2_images_size a3) H → va_D A (pX6_find cy h a2_images_A a2_images_B t_position t_ends t_gains t_size a2_kind a2_exponent a2_letters a2_images_letters a2_images_size a3) → va_S A s.heap H locs → lv_has ls 7 [(0, .ref (h 0)), (1, .int p1), (2, .ref (h 3)), (3, .ref (h 5)), (4, .int x4), (5, .ref (a2_images_A x4.toNatClampNeg)), (6, .int x6)] → W p l e rX6_find s m args below meth c H locs 0 0 (MQ below (va_Qv (fun (u : (Nat → Int32) × (Nat → Int32) × Int32) => post u.1 u.2.1 u.2.2) (fun (u : (Nat → Int32) × (Nat → Int32) × Int32) (t : State) => va_P (dC, dI) vwCl (pX6_find cy h a2_images_A a2_images_B t_position u.1 u.2.1 u.2.2 a2_kind a2_exponent a2_letters a2_images_letters a2_images_size a3) t.heap) A) args s 0 0 A) (F0 m 71 ls []) := by
  have C1 := C0
  obtain ⟨hx, hb, hr, hml, hown, hts, hlocks, hK, hA⟩ := C1
  intro t_ends t_gains t_size x4 x6 hj0 hv H locs ls hP hD hS hl
  refine lv_aload_n hx hb dX6_find_71 rfl (lv_at hl 0 rfl) ?_
  refine lv_iload hx hb dX6_find_72 (lv_at hl 4 rfl) ?_
  refine cb_VV (As := [.int x4]) (rest := []) ⟨hx, hb, hml, hown, hts⟩ (kX6_put l dC dI cy (adl [h 0, h 1, h 2]) t_position t_ends t_gains t_size x4 _ hv) (cwV 1 hts gX6_find_X6_put rfl rfl rfl zX6_put ⟨Nat.le_of_ble_eq_true rfl, Nat.le_of_ble_eq_true rfl⟩) hK hP hD hS hA [0, 1, 2] [some 0, some 1, some 2, none, none, none, none, none, none, none, none, none, none, none] rfl rfl rfl (ci := 6) rfl rfl (fun _ => rfl) rfl hl.1 rfl (Nat.le_of_ble_eq_true rfl) dX6_find_74 (fun w_34 H locs hv hP hD hS => ?_)
  obtain ⟨u_19, u_20, u_21⟩ := w_34
  have hP : va_P (dC, dI) vwCl (pX6_find cy h a2_images_A a2_images_B t_position u_19 u_20 u_21 a2_kind a2_exponent a2_letters a2_images_letters a2_images_size a3) H := hP
  have hD : va_D A (pX6_find cy h a2_images_A a2_images_B t_position u_19 u_20 u_21 a2_kind a2_exponent a2_letters a2_images_letters a2_images_size a3) := hD
  refine lv_aload_n hx hb dX6_find_77 rfl (lv_at hl 0 rfl) ?_
  refine lv_aload hx hb dX6_find_78 (lv_at hl 5 rfl) ?_
  refine lv_iconst (v := 0) hx hb dX6_find_80 (by decide) ?_
  refine lv_iload hx hb dX6_find_81 (lv_at hl 6 rfl) ?_
  refine lv_aload_n hx hb dX6_find_83 rfl (lv_at hl 0 rfl) ?_
  refine cb_VI (As := []) (rest := [.int x6, .int 0, .ref (a2_images_A x4.toNatClampNeg), .ref (h 0)]) ⟨hx, hb, hml, hown, hts⟩ (kX6_prefixSign l dC dI cy (adl [h 0, h 1, h 2]) t_position u_21 _ hv) (cwV 0 hts gX6_find_X6_prefixSign rfl rfl rfl zX6_prefixSign ⟨Nat.le_of_ble_eq_true rfl, Nat.le_of_ble_eq_true rfl⟩) hK hP hD hS hA [0] [some 0, none, none, none, none, none, none, none, none, none, none, none, none, none] rfl rfl rfl (ci := 6) rfl rfl (fun _ => rfl) rfl hl.1 rfl (Nat.le_of_ble_eq_true rfl) dX6_find_84 (fun r_22 w_33 H locs hv hP hD hS => ?_)
  have hP : va_P (dC, dI) vwCl (pX6_find cy h a2_images_A a2_images_B t_position u_19 u_20 u_21 a2_kind a2_exponent a2_letters a2_images_letters a2_images_size a3) H := hP
  have hD : va_D A (pX6_find cy h a2_images_A a2_images_B t_position u_19 u_20 u_21 a2_kind a2_exponent a2_letters a2_images_letters a2_images_size a3) := hD
  refine lv_aload_n hx hb dX6_find_87 rfl (lv_at hl 3 rfl) ?_
  refine ca_VV (As := [.ref (a2_images_A x4.toNatClampNeg), .int 0, .int x6, .int r_22, .ref (h 5)]) (rest := []) ⟨hx, hb, hml, hown, hts⟩ (kX6_gain l dC dI cy (adl [h 0, h 2, a2_images_A x4.toNatClampNeg, a2_images_B x4.toNatClampNeg, h 5, h 1]) 4 t_position u_20 u_21 (a2_images_letters x4.toNatClampNeg) (a2_images_size x4.toNatClampNeg) a3 0 x6 r_22 _ hv) (cwV 5 hts gX6_find_X6_gain rfl rfl rfl zX6_gain ⟨Nat.le_of_ble_eq_true rfl, Nat.le_of_ble_eq_true rfl⟩) hK hP hD hS hA [0, 2, 5 + 2 * x4.toNatClampNeg, 6 + 2 * x4.toNatClampNeg, 13] (co_4 (P := fun j => [0, 2, 5 + 2 * j, 6 + 2 * j, 13].map (fun i => (pX6_find cy h a2_images_A a2_images_B t_position u_19 u_20 u_21 a2_kind a2_exponent a2_letters a2_images_letters a2_images_size a3)[i]?) = (pX6_gain cy (adl [h 0, h 2, a2_images_A j, a2_images_B j, h 5, h 1]) 4 t_position u_20 u_21 (a2_images_letters j) (a2_images_size j) a3).map some) rfl rfl rfl rfl hj0) (co_4 (P := fun j => va_nd [0, 2, 5 + 2 * j, 6 + 2 * j, 13] = true) rfl rfl rfl rfl hj0) (ci := 6) rfl rfl (fun _ => rfl) rfl hl.1 rfl (Nat.le_of_ble_eq_true rfl) dX6_find_88 (fun u_23 H locs hv hP hD hS => ?_)
  have eP_32 := (co_4 (P := fun j => setL (pX6_find cy h a2_images_A a2_images_B t_position u_19 u_20 u_21 a2_kind a2_exponent a2_letters a2_images_letters a2_images_size a3) [0, 2, 5 + 2 * j, 6 + 2 * j, 13] (pX6_gain cy (adl [h 0, h 2, a2_images_A j, a2_images_B j, h 5, h 1]) 4 t_position u_23 u_21 (a2_images_letters j) (a2_images_size j) a3) = pX6_find cy h a2_images_A a2_images_B t_position u_19 u_23 u_21 a2_kind a2_exponent a2_letters a2_images_letters a2_images_size a3) rfl rfl rfl rfl hj0)
  have hP := va_Pe hP eP_32
  have hD := va_De hD eP_32
  refine lv_aload_n hx hb dX6_find_91 rfl (lv_at hl 0 rfl) ?_
  refine lv_aload hx hb dX6_find_92 (lv_at hl 5 rfl) ?_
  refine lv_iload hx hb dX6_find_94 (lv_at hl 6 rfl) ?_
  refine lv_iload_n hx hb dX6_find_96 rfl (lv_at hl 1 rfl) ?_
  refine cb_SI (As := [.int p1]) (rest := [.int x6, .ref (a2_images_A x4.toNatClampNeg), .ref (h 0)]) ⟨hx, hb, hml, hown, hts⟩ (kX7_width l dC dI cy (adl []) p1 _ hv) (va_cwS 1 hts gX6_find_X7_width rfl rfl rfl zX7_width ⟨Nat.le_of_ble_eq_true rfl, Nat.le_of_ble_eq_true rfl⟩) hK hP hD hS hA [] [none, none, none, none, none, none, none, none, none, none, none, none, none, none] rfl rfl rfl (fun _ => rfl) rfl hl.1 rfl (Nat.le_of_ble_eq_true rfl) dX6_find_97 (fun r_24 w_30 H locs hv hP hD hS => ?_)
  have hP : va_P (dC, dI) vwCl (pX6_find cy h a2_images_A a2_images_B t_position u_19 u_23 u_21 a2_kind a2_exponent a2_letters a2_images_letters a2_images_size a3) H := hP
  have hD : va_D A (pX6_find cy h a2_images_A a2_images_B t_position u_19 u_23 u_21 a2_kind a2_exponent a2_letters a2_images_letters a2_images_size a3) := hD
  refine lv_iadd hx hb dX6_find_100 ?_
  refine lv_aload hx hb dX6_find_101 (lv_at hl 5 rfl) ?_
  refine va_get (D := (dC, dI)) (ci := 9) (v := .int ((a2_images_size x4.toNatClampNeg))) (C := RX9) (T := TX9) (N := 2) hx hb hts nX6_find_X9 hown hK hP (5 + 2 * x4.toNatClampNeg) (co_4 (P := fun j => (pX6_find cy h a2_images_A a2_images_B t_position u_19 u_23 u_21 a2_kind a2_exponent a2_letters a2_images_letters a2_images_size a3)[5 + 2 * j]? = some (a2_images_A j, .inr (9, [.ref (a2_images_B j), .int (a2_images_size j)]))) rfl rfl rfl rfl hj0) rfl 1 (by decide) (hts _ mX6_find_4) (fun _ h9 => h9) rfl dX6_find_103 ?_
  refine lv_aload_n hx hb dX6_find_106 rfl (lv_at hl 0 rfl) ?_
  refine cb_VI (As := []) (rest := [.int ((a2_images_size x4.toNatClampNeg)), .int ((x6 + r_24)), .ref (a2_images_A x4.toNatClampNeg), .ref (h 0)]) ⟨hx, hb, hml, hown, hts⟩ (kX6_suffixSign l dC dI cy (adl [h 0, h 1, h 2]) t_position u_21 _ hv) (cwV 0 hts gX6_find_X6_suffixSign rfl rfl rfl zX6_suffixSign ⟨Nat.le_of_ble_eq_true rfl, Nat.le_of_ble_eq_true rfl⟩) hK hP hD hS hA [0] [some 0, none, none, none, none, none, none, none, none, none, none, none, none, none] rfl rfl rfl (ci := 6) rfl rfl (fun _ => rfl) rfl hl.1 rfl (Nat.le_of_ble_eq_true rfl) dX6_find_107 (fun r_25 w_29 H locs hv hP hD hS => ?_)
  have hP : va_P (dC, dI) vwCl (pX6_find cy h a2_images_A a2_images_B t_position u_19 u_23 u_21 a2_kind a2_exponent a2_letters a2_images_letters a2_images_size a3) H := hP
  have hD : va_D A (pX6_find cy h a2_images_A a2_images_B t_position u_19 u_23 u_21 a2_kind a2_exponent a2_letters a2_images_letters a2_images_size a3) := hD
  refine lv_aload_n hx hb dX6_find_110 rfl (lv_at hl 3 rfl) ?_
  refine ca_VV (As := [.ref (a2_images_A x4.toNatClampNeg), .int ((x6 + r_24)), .int ((a2_images_size x4.toNatClampNeg)), .int r_25, .ref (h 5)]) (rest := []) ⟨hx, hb, hml, hown, hts⟩ (kX6_gain l dC dI cy (adl [h 0, h 2, a2_images_A x4.toNatClampNeg, a2_images_B x4.toNatClampNeg, h 5, h 1]) 4 t_position u_23 u_21 (a2_images_letters x4.toNatClampNeg) (a2_images_size x4.toNatClampNeg) a3 (x6 + r_24) (a2_images_size x4.toNatClampNeg) r_25 _ hv) (cwV 5 hts gX6_find_X6_gain rfl rfl rfl zX6_gain ⟨Nat.le_of_ble_eq_true rfl, Nat.le_of_ble_eq_true rfl⟩) hK hP hD hS hA [0, 2, 5 + 2 * x4.toNatClampNeg, 6 + 2 * x4.toNatClampNeg, 13] (co_4 (P := fun j => [0, 2, 5 + 2 * j, 6 + 2 * j, 13].map (fun i => (pX6_find cy h a2_images_A a2_images_B t_position u_19 u_23 u_21 a2_kind a2_exponent a2_letters a2_images_letters a2_images_size a3)[i]?) = (pX6_gain cy (adl [h 0, h 2, a2_images_A j, a2_images_B j, h 5, h 1]) 4 t_position u_23 u_21 (a2_images_letters j) (a2_images_size j) a3).map some) rfl rfl rfl rfl hj0) (co_4 (P := fun j => va_nd [0, 2, 5 + 2 * j, 6 + 2 * j, 13] = true) rfl rfl rfl rfl hj0) (ci := 6) rfl rfl (fun _ => rfl) rfl hl.1 rfl (Nat.le_of_ble_eq_true rfl) dX6_find_111 (fun u_26 H locs hv hP hD hS => ?_)
  have eP_28 := (co_4 (P := fun j => setL (pX6_find cy h a2_images_A a2_images_B t_position u_19 u_23 u_21 a2_kind a2_exponent a2_letters a2_images_letters a2_images_size a3) [0, 2, 5 + 2 * j, 6 + 2 * j, 13] (pX6_gain cy (adl [h 0, h 2, a2_images_A j, a2_images_B j, h 5, h 1]) 4 t_position u_26 u_21 (a2_images_letters j) (a2_images_size j) a3) = pX6_find cy h a2_images_A a2_images_B t_position u_19 u_26 u_21 a2_kind a2_exponent a2_letters a2_images_letters a2_images_size a3) rfl rfl rfl rfl hj0)
  have hP := va_Pe hP eP_28
  have hD := va_De hD eP_28
  refine lv_iinc (v := (x6 + 1)) (lv' := [(6, .int ((x6 + 1))), (0, .ref (h 0)), (1, .int p1), (2, .ref (h 3)), (3, .ref (h 5)), (4, .int x4), (5, .ref (a2_images_A x4.toNatClampNeg))]) hx hb dX6_find_114 hl (k := 6) rfl rfl (by decide) rfl (fun ls hl => ?_)
  refine lv_goto (tgt := 39) hx hb dX6_find_117 (by decide) ?_
  exact hK39 u_19 u_26 u_21 x4 (x6 + 1) hj0 hv _ _ _ hP hD hS (lv_sub hl [1, 2, 3, 4, 5, 6, 0] rfl)
set_option maxHeartbeats 4000000 in
set_option maxRecDepth 100000 in
theorem wX6_find_39 {p : Program} (l : Launch) {e : Env} {s : State} {m : MethodId} {args : Array Value} {below : List Frame} {meth : Method} {c : Code} {dC : Nat → ClassId} {dI : Nat → Nat → Nat} {cy : Nat → ClassId} {A : Nat → Prop} (h : Nat → Nat) (a2_images_A : Nat → Nat) (a2_images_B : Nat → Nat) (post : (Nat → Int32) → (Nat → Int32) → Int32 → Prop) (K18 : (Nat → Int32) → (Nat → Int32) → Int32 → Int32 → Prop)  (t_position : Int32) (a2_kind : Int32) (a2_exponent : Int32) (a2_letters : Int32) (a2_images_letters : Nat → Nat → Int32) (a2_images_size : Nat → Int32) (a3 : Nat → Int32) (p1 : Int32) (C0 : cx p s m args meth c cX6_find 7 none wsX6_find RX6 dC dI cy A) (hK18 : ∀ (t_ends : Nat → Int32) (t_gains : Nat → Int32) (t_size : Int32) (x4 : Int32), K18 t_ends t_gains t_size x4 → ∀ (H : Heap) (locs : List Loc) (ls : Array Slot), va_P (dC, dI) vwCl (pX6_find cy h a2_images_A a2_images_B t_position t_ends t_gains t_size a2_kind a2_exponent a2_letters a2_images_letters a2_images_size a3) H → va_D A (pX6_find cy h a2_images_A a2_images_B t_position t_ends t_gains t_size a2_kind a2_exponent a2_letters a2_images_letters a2_images_size a3) → va_S A s.heap H locs → lv_has ls 7 [(0, .ref (h 0)), (1, .int p1), (2, .ref (h 3)), (3, .ref (h 5)), (4, .int x4)] → W p l e rX6_find s m args below meth c H locs 0 0 (MQ below (va_Qv (fun (u : (Nat → Int32) × (Nat → Int32) × Int32) => post u.1 u.2.1 u.2.2) (fun (u : (Nat → Int32) × (Nat → Int32) × Int32) (t : State) => va_P (dC, dI) vwCl (pX6_find cy h a2_images_A a2_images_B t_position u.1 u.2.1 u.2.2 a2_kind a2_exponent a2_letters a2_images_letters a2_images_size a3) t.heap) A) args s 0 0 A) (F0 m 18 ls [])) : ∀ (n : Nat) (t_ends : Nat → Int32) (t_gains : Nat → Int32) (t_size : Int32) (x4 : Int32) (x6 : Int32) (hj0 : x4.toNatClampNeg < 4), VX6_find_39 post K18 t_position a2_letters a2_images_letters a2_images_size a3 p1 n t_ends t_gains t_size x4 x6 → ∀ (H : Heap) (locs : List Loc) (ls : Array Slot), va_P (dC, dI) vwCl (pX6_find cy h a2_images_A a2_images_B t_position t_ends t_gains t_size a2_kind a2_exponent a2_letters a2_images_letters a2_images_size a3) H → va_D A (pX6_find cy h a2_images_A a2_images_B t_position t_ends t_gains t_size a2_kind a2_exponent a2_letters a2_images_letters a2_images_size a3) → va_S A s.heap H locs → lv_has ls 7 [(0, .ref (h 0)), (1, .int p1), (2, .ref (h 3)), (3, .ref (h 5)), (4, .int x4), (5, .ref (a2_images_A x4.toNatClampNeg)), (6, .int x6)] → W p l e rX6_find s m args below meth c H locs 0 0 (MQ below (va_Qv (fun (u : (Nat → Int32) × (Nat → Int32) × Int32) => post u.1 u.2.1 u.2.2) (fun (u : (Nat → Int32) × (Nat → Int32) × Int32) (t : State) => va_P (dC, dI) vwCl (pX6_find cy h a2_images_A a2_images_B t_position u.1 u.2.1 u.2.2 a2_kind a2_exponent a2_letters a2_images_letters a2_images_size a3) t.heap) A) args s 0 0 A) (F0 m 39 ls []) := by
  have C1 := C0
  obtain ⟨hx, hb, hr, hml, hown, hts, hlocks, hK, hA⟩ := C1
  intro n
  induction n with
  | zero => intro t_ends t_gains t_size x4 x6 hj0 hv; exact hv.elim
  | succ n ih =>
    intro t_ends t_gains t_size x4 x6 hj0 hv H locs ls hP hD hS hl
    refine lv_iload hx hb dX6_find_39 (lv_at hl 6 rfl) ?_
    refine lv_iload_n hx hb dX6_find_41 rfl (lv_at hl 1 rfl) ?_
    refine cb_SI (As := [.int p1]) (rest := [.int x6]) ⟨hx, hb, hml, hown, hts⟩ (kX7_width l dC dI cy (adl []) p1 _ hv) (va_cwS 1 hts gX6_find_X7_width rfl rfl rfl zX7_width ⟨Nat.le_of_ble_eq_true rfl, Nat.le_of_ble_eq_true rfl⟩) hK hP hD hS hA [] [none, none, none, none, none, none, none, none, none, none, none, none, none, none] rfl rfl rfl (fun _ => rfl) rfl hl.1 rfl (Nat.le_of_ble_eq_true rfl) dX6_find_42 (fun r_12 w_18 H locs hv hP hD hS => ?_)
    have hP : va_P (dC, dI) vwCl (pX6_find cy h a2_images_A a2_images_B t_position t_ends t_gains t_size a2_kind a2_exponent a2_letters a2_images_letters a2_images_size a3) H := hP
    have hD : va_D A (pX6_find cy h a2_images_A a2_images_B t_position t_ends t_gains t_size a2_kind a2_exponent a2_letters a2_images_letters a2_images_size a3) := hD
    refine lv_iadd hx hb dX6_find_45 ?_
    refine lv_aload hx hb dX6_find_46 (lv_at hl 5 rfl) ?_
    refine va_get (D := (dC, dI)) (ci := 9) (v := .int ((a2_images_size x4.toNatClampNeg))) (C := RX9) (T := TX9) (N := 2) hx hb hts nX6_find_X9 hown hK hP (5 + 2 * x4.toNatClampNeg) (co_4 (P := fun j => (pX6_find cy h a2_images_A a2_images_B t_position t_ends t_gains t_size a2_kind a2_exponent a2_letters a2_images_letters a2_images_size a3)[5 + 2 * j]? = some (a2_images_A j, .inr (9, [.ref (a2_images_B j), .int (a2_images_size j)]))) rfl rfl rfl rfl hj0) rfl 1 (by decide) (hts _ mX6_find_4) (fun _ h9 => h9) rfl dX6_find_48 ?_
    refine lv_icmp_gt (tgt := 120) hx hb dX6_find_51 (by decide) (fun c_17 => ?_) (fun c_17 => ?_)
    · have hv := hv.1 c_17
      refine lv_iinc (v := (x4 + 1)) (lv' := [(4, .int ((x4 + 1))), (0, .ref (h 0)), (1, .int p1), (2, .ref (h 3)), (3, .ref (h 5)), (5, .ref (a2_images_A x4.toNatClampNeg)), (6, .int x6)]) hx hb dX6_find_120 hl (k := 4) rfl rfl (by decide) rfl (fun ls hl => ?_)
      refine lv_goto (tgt := 18) hx hb dX6_find_123 (by decide) ?_
      exact hK18 t_ends t_gains t_size (x4 + 1) hv _ _ _ hP hD hS (lv_sub hl [1, 2, 3, 4, 0] rfl)
    · have hv := hv.2 c_17
      refine lv_iload_n hx hb dX6_find_54 rfl (lv_at hl 1 rfl) ?_
      refine lv_iconst (v := (-1)) hx hb dX6_find_55 (by decide) ?_
      refine lv_icmp_eq (tgt := 71) hx hb dX6_find_56 (by decide) (fun c_16 => ?_) (fun c_16 => ?_)
      · have hv := hv.1 c_16
        exact wX6_find_71 l h a2_images_A a2_images_B post (fun t_ends t_gains t_size x4 x6 => VX6_find_39 post K18 t_position a2_letters a2_images_letters a2_images_size a3 p1 n t_ends t_gains t_size x4 x6)  t_position a2_kind a2_exponent a2_letters a2_images_letters a2_images_size a3 p1 C0 ih t_ends t_gains t_size x4 x6 hj0 hv _ _ _ hP hD hS (lv_sub hl [0, 1, 2, 3, 4, 5, 6] rfl)
      · have hv := hv.2 c_16
        refine lv_aload hx hb dX6_find_59 (lv_at hl 5 rfl) ?_
        refine va_get (D := (dC, dI)) (ci := 9) (v := .ref (a2_images_B x4.toNatClampNeg)) (C := RX9) (T := TX9) (N := 2) hx hb hts nX6_find_X9 hown hK hP (5 + 2 * x4.toNatClampNeg) (co_4 (P := fun j => (pX6_find cy h a2_images_A a2_images_B t_position t_ends t_gains t_size a2_kind a2_exponent a2_letters a2_images_letters a2_images_size a3)[5 + 2 * j]? = some (a2_images_A j, .inr (9, [.ref (a2_images_B j), .int (a2_images_size j)]))) rfl rfl rfl rfl hj0) rfl 0 (by decide) (hts _ mX6_find_5) (fun _ h9 => h9) rfl dX6_find_61 ?_
        refine lv_iload hx hb dX6_find_64 (lv_at hl 6 rfl) ?_
        have h_14 := hv.1
        have hv := hv.2
        refine va_iald hx hb hK hP (6 + 2 * x4.toNatClampNeg) 0 (co_4 (P := fun j => (pX6_find cy h a2_images_A a2_images_B t_position t_ends t_gains t_size a2_kind a2_exponent a2_letters a2_images_letters a2_images_size a3)[6 + 2 * j]? = some (a2_images_B j, .inl (cy 0, 4, .inl (a2_images_letters j)))) rfl rfl rfl rfl hj0) rfl h_14 dX6_find_66 ?_
        refine lv_topi (fun y_13 ey_13 => ?_)
        have hv := hv y_13 ey_13
        refine lv_iload_n hx hb dX6_find_67 rfl (lv_at hl 1 rfl) ?_
        refine lv_icmp_ne (tgt := 114) hx hb dX6_find_68 (by decide) (fun c_15 => ?_) (fun c_15 => ?_)
        · have hv := hv.1 c_15
          refine lv_iinc (v := (x6 + 1)) (lv' := [(6, .int ((x6 + 1))), (0, .ref (h 0)), (1, .int p1), (2, .ref (h 3)), (3, .ref (h 5)), (4, .int x4), (5, .ref (a2_images_A x4.toNatClampNeg))]) hx hb dX6_find_114 hl (k := 6) rfl rfl (by decide) rfl (fun ls hl => ?_)
          refine lv_goto (tgt := 39) hx hb dX6_find_117 (by decide) ?_
          exact ih t_ends t_gains t_size x4 (x6 + 1) hj0 hv _ _ _ hP hD hS (lv_sub hl [1, 2, 3, 4, 5, 6, 0] rfl)
        · have hv := hv.2 c_15
          exact wX6_find_71 l h a2_images_A a2_images_B post (fun t_ends t_gains t_size x4 x6 => VX6_find_39 post K18 t_position a2_letters a2_images_letters a2_images_size a3 p1 n t_ends t_gains t_size x4 x6)  t_position a2_kind a2_exponent a2_letters a2_images_letters a2_images_size a3 p1 C0 ih t_ends t_gains t_size x4 x6 hj0 hv _ _ _ hP hD hS (lv_sub hl [0, 1, 2, 3, 4, 5, 6] rfl)
set_option maxHeartbeats 4000000 in
set_option maxRecDepth 100000 in
theorem wX6_find_18 {p : Program} (l : Launch) {e : Env} {s : State} {m : MethodId} {args : Array Value} {below : List Frame} {meth : Method} {c : Code} {dC : Nat → ClassId} {dI : Nat → Nat → Nat} {cy : Nat → ClassId} {A : Nat → Prop} (h : Nat → Nat) (a2_images_A : Nat → Nat) (a2_images_B : Nat → Nat) (post : (Nat → Int32) → (Nat → Int32) → Int32 → Prop)   (t_position : Int32) (a2_kind : Int32) (a2_exponent : Int32) (a2_letters : Int32) (a2_images_letters : Nat → Nat → Int32) (a2_images_size : Nat → Int32) (a3 : Nat → Int32) (p1 : Int32) (C0 : cx p s m args meth c cX6_find 7 none wsX6_find RX6 dC dI cy A)  : ∀ (n : Nat) (t_ends : Nat → Int32) (t_gains : Nat → Int32) (t_size : Int32) (x4 : Int32), VX6_find_18 post t_position a2_letters a2_images_letters a2_images_size a3 p1 n t_ends t_gains t_size x4 → ∀ (H : Heap) (locs : List Loc) (ls : Array Slot), va_P (dC, dI) vwCl (pX6_find cy h a2_images_A a2_images_B t_position t_ends t_gains t_size a2_kind a2_exponent a2_letters a2_images_letters a2_images_size a3) H → va_D A (pX6_find cy h a2_images_A a2_images_B t_position t_ends t_gains t_size a2_kind a2_exponent a2_letters a2_images_letters a2_images_size a3) → va_S A s.heap H locs → lv_has ls 7 [(0, .ref (h 0)), (1, .int p1), (2, .ref (h 3)), (3, .ref (h 5)), (4, .int x4)] → W p l e rX6_find s m args below meth c H locs 0 0 (MQ below (va_Qv (fun (u : (Nat → Int32) × (Nat → Int32) × Int32) => post u.1 u.2.1 u.2.2) (fun (u : (Nat → Int32) × (Nat → Int32) × Int32) (t : State) => va_P (dC, dI) vwCl (pX6_find cy h a2_images_A a2_images_B t_position u.1 u.2.1 u.2.2 a2_kind a2_exponent a2_letters a2_images_letters a2_images_size a3) t.heap) A) args s 0 0 A) (F0 m 18 ls []) := by
  have C1 := C0
  obtain ⟨hx, hb, hr, hml, hown, hts, hlocks, hK, hA⟩ := C1
  intro n
  induction n with
  | zero => intro t_ends t_gains t_size x4 hv; exact hv.elim
  | succ n ih =>
    intro t_ends t_gains t_size x4 hv H locs ls hP hD hS hl
    refine lv_iload hx hb dX6_find_18 (lv_at hl 4 rfl) ?_
    refine lv_aload_n hx hb dX6_find_20 rfl (lv_at hl 2 rfl) ?_
    refine va_get (D := (dC, dI)) (ci := 5) (v := .int a2_letters) (C := RX5) (T := TX5) (N := 6) hx hb hts nX6_find_X5 hown hK hP 3 rfl rfl 2 (by decide) (hts _ mX6_find_2) (fun _ h9 => h9) rfl dX6_find_21 ?_
    refine lv_icmp_ge (tgt := 126) hx hb dX6_find_24 (by decide) (fun c_11 => ?_) (fun c_11 => ?_)
    · have hv := hv.1 c_11
      exact W.vret hx hb hr (fun t ht hW => ⟨⟨(t_ends, t_gains, t_size), rfl, hv, va_Ph ht hP⟩, hS.F ht⟩) hS.2.2 dX6_find_126
    · have hv := hv.2 c_11
      refine lv_aload_n hx hb dX6_find_27 rfl (lv_at hl 2 rfl) ?_
      refine va_get (D := (dC, dI)) (ci := 5) (v := .ref (h 4)) (C := RX5) (T := TX5) (N := 6) hx hb hts nX6_find_X5 hown hK hP 3 rfl rfl 5 (by decide) (hts _ mX6_find_3) (fun _ h9 => h9) rfl dX6_find_28 ?_
      refine lv_iload hx hb dX6_find_31 (lv_at hl 4 rfl) ?_
      have h_8 := hv.1
      have hv := hv.2
      have hj_9 : x4.toNatClampNeg < 4 := Nat.not_le.mp fun q => h_8 (Or.inr q)
      refine va_aldq hx hb hK hP 4 3 rfl rfl h_8 dX6_find_33 ?_
      refine W.eq (g2 := F0 m 34 ls ([.ref (a2_images_A x4.toNatClampNeg)])) rfl ?_
      refine lv_astore (lv' := [(5, .ref (a2_images_A x4.toNatClampNeg)), (0, .ref (h 0)), (1, .int p1), (2, .ref (h 3)), (3, .ref (h 5)), (4, .int x4)]) hx hb dX6_find_34 hl (by decide) rfl (fun ls hl => ?_)
      refine lv_iconst (v := 0) hx hb dX6_find_36 (by decide) ?_
      refine lv_istore (lv' := [(6, .int 0), (5, .ref (a2_images_A x4.toNatClampNeg)), (0, .ref (h 0)), (1, .int p1), (2, .ref (h 3)), (3, .ref (h 5)), (4, .int x4)]) hx hb dX6_find_37 hl (by decide) rfl (fun ls hl => ?_)
      obtain ⟨n_10, hv⟩ := hv
      exact wX6_find_39 l h a2_images_A a2_images_B post (fun t_ends t_gains t_size x4 => VX6_find_18 post t_position a2_letters a2_images_letters a2_images_size a3 p1 n t_ends t_gains t_size x4)  t_position a2_kind a2_exponent a2_letters a2_images_letters a2_images_size a3 p1 C0 ih n_10 t_ends t_gains t_size x4 0 hj_9 hv _ _ _ hP hD hS (lv_sub hl [2, 3, 4, 5, 6, 1, 0] rfl)
set_option maxHeartbeats 4000000 in
set_option maxRecDepth 100000 in
theorem wX6_find_0 {p : Program} (l : Launch) {e : Env} {s : State} {m : MethodId} {args : Array Value} {below : List Frame} {meth : Method} {c : Code} {dC : Nat → ClassId} {dI : Nat → Nat → Nat} {cy : Nat → ClassId} {A : Nat → Prop} (h : Nat → Nat) (a2_images_A : Nat → Nat) (a2_images_B : Nat → Nat) (post : (Nat → Int32) → (Nat → Int32) → Int32 → Prop)   (t_position : Int32) (a2_kind : Int32) (a2_exponent : Int32) (a2_letters : Int32) (a2_images_letters : Nat → Nat → Int32) (a2_images_size : Nat → Int32) (a3 : Nat → Int32) (p1 : Int32) (C0 : cx p s m args meth c cX6_find 7 none wsX6_find RX6 dC dI cy A)  : ∀ (t_ends : Nat → Int32) (t_gains : Nat → Int32) (t_size : Int32), VX6_find post t_position a2_letters a2_images_letters a2_images_size a3 p1 t_ends t_gains t_size → ∀ (H : Heap) (locs : List Loc) (ls : Array Slot), va_P (dC, dI) vwCl (pX6_find cy h a2_images_A a2_images_B t_position t_ends t_gains t_size a2_kind a2_exponent a2_letters a2_images_letters a2_images_size a3) H → va_D A (pX6_find cy h a2_images_A a2_images_B t_position t_ends t_gains t_size a2_kind a2_exponent a2_letters a2_images_letters a2_images_size a3) → va_S A s.heap H locs → lv_has ls 7 [(0, .ref (h 0)), (1, .int p1), (2, .ref (h 3)), (3, .ref (h 5))] → W p l e rX6_find s m args below meth c H locs 0 0 (MQ below (va_Qv (fun (u : (Nat → Int32) × (Nat → Int32) × Int32) => post u.1 u.2.1 u.2.2) (fun (u : (Nat → Int32) × (Nat → Int32) × Int32) (t : State) => va_P (dC, dI) vwCl (pX6_find cy h a2_images_A a2_images_B t_position u.1 u.2.1 u.2.2 a2_kind a2_exponent a2_letters a2_images_letters a2_images_size a3) t.heap) A) args s 0 0 A) (F0 m 0 ls []) := by
  have C1 := C0
  obtain ⟨hx, hb, hr, hml, hown, hts, hlocks, hK, hA⟩ := C1
  intro t_ends t_gains t_size hv H locs ls hP hD hS hl
  refine lv_aload_n hx hb dX6_find_0 rfl (lv_at hl 0 rfl) ?_
  refine lv_iconst (v := 0) hx hb dX6_find_1 (by decide) ?_
  refine va_put (D := (dC, dI)) (ci := 6) (v := .int 0) (ty := .int) (C := RX6) (T := TX6) (N := 4) hx hb hts nX6_find_X6 tyX6 tyX6_ok nmX6 hown hK hP hD hS 0 rfl rfl 3 (by decide) (hts _ mX6_find_1) (fun _ h9 => h9) rfl (by decide +kernel) rfl rfl (Nat.le_of_ble_eq_true rfl) dX6_find_2 (fun H locs hP hD hS => ?_)
  have hP : va_P (dC, dI) vwCl (pX6_find cy h a2_images_A a2_images_B t_position t_ends t_gains 0 a2_kind a2_exponent a2_letters a2_images_letters a2_images_size a3) H := hP
  have hD : va_D A (pX6_find cy h a2_images_A a2_images_B t_position t_ends t_gains 0 a2_kind a2_exponent a2_letters a2_images_letters a2_images_size a3) := hD
  refine lv_iload_n hx hb dX6_find_5 rfl (lv_at hl 1 rfl) ?_
  refine lv_iconst (v := (-1)) hx hb dX6_find_6 (by decide) ?_
  refine lv_icmp_ne (tgt := 15) hx hb dX6_find_7 (by decide) (fun c_7 => ?_) (fun c_7 => ?_)
  · have hv := hv.1 c_7
    refine lv_iconst (v := 0) hx hb dX6_find_15 (by decide) ?_
    refine lv_istore (lv' := [(4, .int 0), (0, .ref (h 0)), (1, .int p1), (2, .ref (h 3)), (3, .ref (h 5))]) hx hb dX6_find_16 hl (by decide) rfl (fun ls hl => ?_)
    obtain ⟨n_1, hv⟩ := hv
    exact wX6_find_18 l h a2_images_A a2_images_B post  t_position a2_kind a2_exponent a2_letters a2_images_letters a2_images_size a3 p1 C0 n_1 t_ends t_gains 0 0 hv _ _ _ hP hD hS (lv_sub hl [1, 2, 3, 4, 0] rfl)
  · have hv := hv.2 c_7
    refine lv_aload_n hx hb dX6_find_10 rfl (lv_at hl 0 rfl) ?_
    refine lv_iconst (v := (-1)) hx hb dX6_find_11 (by decide) ?_
    refine cb_VV (As := [.int (-1)]) (rest := []) ⟨hx, hb, hml, hown, hts⟩ (kX6_put l dC dI cy (adl [h 0, h 1, h 2]) t_position t_ends t_gains 0 (-1) _ hv) (cwV 1 hts gX6_find_X6_put rfl rfl rfl zX6_put ⟨Nat.le_of_ble_eq_true rfl, Nat.le_of_ble_eq_true rfl⟩) hK hP hD hS hA [0, 1, 2] [some 0, some 1, some 2, none, none, none, none, none, none, none, none, none, none, none] rfl rfl rfl (ci := 6) rfl rfl (fun _ => rfl) rfl hl.1 rfl (Nat.le_of_ble_eq_true rfl) dX6_find_12 (fun w_6 H locs hv hP hD hS => ?_)
    obtain ⟨u_2, u_3, u_4⟩ := w_6
    have hP : va_P (dC, dI) vwCl (pX6_find cy h a2_images_A a2_images_B t_position u_2 u_3 u_4 a2_kind a2_exponent a2_letters a2_images_letters a2_images_size a3) H := hP
    have hD : va_D A (pX6_find cy h a2_images_A a2_images_B t_position u_2 u_3 u_4 a2_kind a2_exponent a2_letters a2_images_letters a2_images_size a3) := hD
    refine lv_iconst (v := 0) hx hb dX6_find_15 (by decide) ?_
    refine lv_istore (lv' := [(4, .int 0), (0, .ref (h 0)), (1, .int p1), (2, .ref (h 3)), (3, .ref (h 5))]) hx hb dX6_find_16 hl (by decide) rfl (fun ls hl => ?_)
    obtain ⟨n_5, hv⟩ := hv
    exact wX6_find_18 l h a2_images_A a2_images_B post  t_position a2_kind a2_exponent a2_letters a2_images_letters a2_images_size a3 p1 C0 n_5 u_2 u_3 u_4 0 hv _ _ _ hP hD hS (lv_sub hl [1, 2, 3, 4, 0] rfl)
theorem kX6_find (l : Launch) (dC : Nat → ClassId) (dI : Nat → Nat → Nat) (cy : Nat → ClassId) (h : Nat → Nat) (a2_images_A : Nat → Nat) (a2_images_B : Nat → Nat) (t_position : Int32) (t_ends : Nat → Int32) (t_gains : Nat → Int32) (t_size : Int32) (a2_kind : Int32) (a2_exponent : Int32) (a2_letters : Int32) (a2_images_letters : Nat → Nat → Int32) (a2_images_size : Nat → Int32) (a3 : Nat → Int32) (p1 : Int32) (post : (Nat → Int32) → (Nat → Int32) → Int32 → Prop) (hv : VX6_find post t_position a2_letters a2_images_letters a2_images_size a3 p1 t_ends t_gains t_size) : CtV l yX6_find wsX6_find rX6_find dC dI cy [.ref (h 0), .int p1, .ref (h 3), .ref (h 5)] (pX6_find cy h a2_images_A a2_images_B t_position t_ends t_gains t_size a2_kind a2_exponent a2_letters a2_images_letters a2_images_size a3) (fun (u : (Nat → Int32) × (Nat → Int32) × Int32) => pX6_find cy h a2_images_A a2_images_B t_position u.1 u.2.1 u.2.2 a2_kind a2_exponent a2_letters a2_images_letters a2_images_size a3) (fun (u : (Nat → Int32) × (Nat → Int32) × Int32) => post u.1 u.2.1 u.2.2) :=
  ct_ofV (by decide) rfl (Nat.le_of_ble_eq_true rfl) (fun p e s m below meth c A ls C0 hP hD hS hl => wX6_find_0 l h a2_images_A a2_images_B post t_position a2_kind a2_exponent a2_letters a2_images_letters a2_images_size a3 p1 C0 t_ends t_gains t_size hv _ _ _ hP hD hS hl)
