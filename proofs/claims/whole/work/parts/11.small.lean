theorem mX3_renew_1 : (Cond.fieldLink RX3 15 "AbelianPowers$Row" "present" "Z") ∈ wsX3_renew := List.mem_of_getElem? (i := 1) rfl
theorem mX3_renew_6 : (Cond.fieldLink RX3 25 "AbelianPowers$Row" "size" "I") ∈ wsX3_renew := List.mem_of_getElem? (i := 6) rfl
theorem mX3_renew_2 : (Cond.methodLink RX3 19 Lib.Math.min.name) ∈ wsX3_renew := List.mem_of_getElem? (i := 2) rfl
theorem mX3_renew_3 : (Cond.static Lib.Math.min.name) ∈ wsX3_renew := List.mem_of_getElem? (i := 3) rfl
theorem mX3_renew_4 : (Cond.initialized "java/lang/Math") ∈ wsX3_renew := List.mem_of_getElem? (i := 4) rfl
theorem mX3_renew_5 : (Cond.code Lib.Math.min.name Lib.Math.min.code 2 (some .int)) ∈ wsX3_renew := List.mem_of_getElem? (i := 5) rfl
theorem mX3_renew_7 : (Cond.fieldLink RX3 9 "AbelianPowers$Row" "elements" "[J") ∈ wsX3_renew := List.mem_of_getElem? (i := 7) rfl
theorem nX3_renew_X3 : ∀ w ∈ wsX30, w ∈ wsX3_renew := fun _ h => List.mem_cons_of_mem _ (List.mem_append_right _ h)
theorem zX3_renew : yX3_renew.cls = RX3 ∧ yX3_renew.cls ≠ "java/lang/invoke/MethodHandle" ∧ yX3_renew.cls ≠ "java/lang/invoke/VarHandle" ∧ (parseMethodDescriptor yX3_renew.desc).map (fun d => d.parameters.length) = some 1 := by decide +kernel
abbrev rX3_renew : Room := { frames := 1, cells := 0, slots := 0, locals := 14 }
abbrev pX3_renew (cy : Nat → ClassId) (h : Nat → Nat) (t_elements : Nat → Int64) (t_present : Int32) (t_size : Int32) : va_W := [(h 0, .inr (3, [.ref (h 1), .int t_present, .int t_size])), (h 1, .inl (cy 1, 41, .inr (.inl t_elements)))]
def VX3_renew_17 (post : (Nat → Int64) → Int32 → Int32 → Prop)  (p1 : Int32) : Nat → (Nat → Int64) → Int32 → Int32 → Int32 → Prop
  | 0, _, _, _, _ => False
  | n + 1, t_elements, t_present, t_size, x2 => ((41 ≤ x2) → post t_elements t_present t_size) ∧ (¬ (41 ≤ x2) → vp_in x2 41 ∧ (VX3_renew_17 post p1 n (vp_updL t_elements x2.toNatClampNeg 0) t_present t_size (x2 + 1)))
def VX3_renew (post : (Nat → Int64) → Int32 → Int32 → Prop)  (p1 : Int32) (t_elements : Nat → Int64) (t_present : Int32) (t_size : Int32) : Prop := ∀ y_1 : Int32, y_1 = (if (41 : Int32) < p1 then 41 else p1) → ∃ n17 : Nat, VX3_renew_17 post p1 n17 t_elements 1 y_1 0
set_option maxHeartbeats 4000000 in
set_option maxRecDepth 100000 in
theorem wX3_renew_17 {p : Program} (l : Launch) {e : Env} {s : State} {m : MethodId} {args : Array Value} {below : List Frame} {meth : Method} {c : Code} {dC : Nat → ClassId} {dI : Nat → Nat → Nat} {cy : Nat → ClassId} {A : Nat → Prop} (h : Nat → Nat) (post : (Nat → Int64) → Int32 → Int32 → Prop)    (p1 : Int32) (C0 : cx p s m args meth c cX3_renew 3 none wsX3_renew RX3 dC dI cy A)  : ∀ (n : Nat) (t_elements : Nat → Int64) (t_present : Int32) (t_size : Int32) (x2 : Int32), VX3_renew_17 post p1 n t_elements t_present t_size x2 → ∀ (H : Heap) (locs : List Loc) (ls : Array Slot), va_P (dC, dI) vwCl (pX3_renew cy h t_elements t_present t_size) H → va_D A (pX3_renew cy h t_elements t_present t_size) → va_S A s.heap H locs → lv_has ls 3 [(0, .ref (h 0)), (2, .int x2)] → W p l e rX3_renew s m args below meth c H locs 0 0 (MQ below (va_Qv (fun (u : (Nat → Int64) × Int32 × Int32) => post u.1 u.2.1 u.2.2) (fun (u : (Nat → Int64) × Int32 × Int32) (t : State) => va_P (dC, dI) vwCl (pX3_renew cy h u.1 u.2.1 u.2.2) t.heap) A) args s 0 0 A) (F0 m 17 ls []) := by
  have C1 := C0
  obtain ⟨hx, hb, hr, hml, hown, hts, hlocks, hK, hA⟩ := C1
  intro n
  induction n with
  | zero => intro t_elements t_present t_size x2 hv; exact hv.elim
  | succ n ih =>
    intro t_elements t_present t_size x2 hv H locs ls hP hD hS hl
    refine lv_iload_n hx hb dX3_renew_17 rfl (lv_at hl 1 rfl) ?_
    refine lv_bipush (v := 41) hx hb dX3_renew_18 (by decide) ?_
    refine lv_icmp_ge (tgt := 36) hx hb dX3_renew_20 (by decide) (fun c_4 => ?_) (fun c_4 => ?_)
    · have hv := hv.1 c_4
      exact W.vret hx hb hr (fun t ht hW => ⟨⟨(t_elements, t_present, t_size), rfl, hv, va_Ph ht hP⟩, hS.F ht⟩) hS.2.2 dX3_renew_36
    · have hv := hv.2 c_4
      refine lv_aload_n hx hb dX3_renew_23 rfl (lv_at hl 0 rfl) ?_
      refine va_get (D := (dC, dI)) (ci := 3) (v := .ref (h 1)) (C := RX3) (T := TX3) (N := 3) hx hb hts nX3_renew_X3 hown hK hP 0 rfl rfl 0 (by decide) (hts _ mX3_renew_7) (fun _ h9 => h9) rfl dX3_renew_24 ?_
      refine lv_iload_n hx hb dX3_renew_27 rfl (lv_at hl 1 rfl) ?_
      refine lv_lconst (v := 0) hx hb dX3_renew_28 (by decide) ?_
      have h_3 := hv.1
      have hv := hv.2
      refine va_last hx hb hK hP hD hS 1 1 rfl rfl h_3 dX3_renew_29 (fun H locs hP hD hS => ?_)
      have hP : va_P (dC, dI) vwCl (pX3_renew cy h (vp_updL t_elements x2.toNatClampNeg 0) t_present t_size) H := hP
      have hD : va_D A (pX3_renew cy h (vp_updL t_elements x2.toNatClampNeg 0) t_present t_size) := hD
      refine lv_iinc (v := (x2 + 1)) (lv' := [(2, .int ((x2 + 1))), (0, .ref (h 0))]) hx hb dX3_renew_30 hl (k := 1) rfl rfl (by decide) rfl (fun ls hl => ?_)
      refine lv_goto (tgt := 17) hx hb dX3_renew_33 (by decide) ?_
      exact ih (vp_updL t_elements x2.toNatClampNeg 0) t_present t_size (x2 + 1) hv _ _ _ hP hD hS (lv_sub hl [1, 0] rfl)
set_option maxHeartbeats 4000000 in
set_option maxRecDepth 100000 in
theorem wX3_renew_0 {p : Program} (l : Launch) {e : Env} {s : State} {m : MethodId} {args : Array Value} {below : List Frame} {meth : Method} {c : Code} {dC : Nat → ClassId} {dI : Nat → Nat → Nat} {cy : Nat → ClassId} {A : Nat → Prop} (h : Nat → Nat) (post : (Nat → Int64) → Int32 → Int32 → Prop)    (p1 : Int32) (C0 : cx p s m args meth c cX3_renew 3 none wsX3_renew RX3 dC dI cy A)  : ∀ (t_elements : Nat → Int64) (t_present : Int32) (t_size : Int32), VX3_renew post p1 t_elements t_present t_size → ∀ (H : Heap) (locs : List Loc) (ls : Array Slot), va_P (dC, dI) vwCl (pX3_renew cy h t_elements t_present t_size) H → va_D A (pX3_renew cy h t_elements t_present t_size) → va_S A s.heap H locs → lv_has ls 3 [(0, .ref (h 0)), (1, .int p1)] → W p l e rX3_renew s m args below meth c H locs 0 0 (MQ below (va_Qv (fun (u : (Nat → Int64) × Int32 × Int32) => post u.1 u.2.1 u.2.2) (fun (u : (Nat → Int64) × Int32 × Int32) (t : State) => va_P (dC, dI) vwCl (pX3_renew cy h u.1 u.2.1 u.2.2) t.heap) A) args s 0 0 A) (F0 m 0 ls []) := by
  have C1 := C0
  obtain ⟨hx, hb, hr, hml, hown, hts, hlocks, hK, hA⟩ := C1
  intro t_elements t_present t_size hv H locs ls hP hD hS hl
  refine lv_aload_n hx hb dX3_renew_0 rfl (lv_at hl 0 rfl) ?_
  refine lv_iconst (v := 1) hx hb dX3_renew_1 (by decide) ?_
  refine va_put (D := (dC, dI)) (ci := 3) (v := .int 1) (ty := .boolean) (C := RX3) (T := TX3) (N := 3) hx hb hts nX3_renew_X3 tyX3 tyX3_ok nmX3 hown hK hP hD hS 0 rfl rfl 1 (by decide) (hts _ mX3_renew_1) (fun _ h9 => h9) rfl (by decide +kernel) rfl rfl (Nat.le_of_ble_eq_true rfl) dX3_renew_2 (fun H locs hP hD hS => ?_)
  have hP : va_P (dC, dI) vwCl (pX3_renew cy h t_elements 1 t_size) H := hP
  have hD : va_D A (pX3_renew cy h t_elements 1 t_size) := hD
  refine lv_aload_n hx hb dX3_renew_5 rfl (lv_at hl 0 rfl) ?_
  refine lv_iload_n hx hb dX3_renew_6 rfl (lv_at hl 1 rfl) ?_
  refine lv_bipush (v := 41) hx hb dX3_renew_7 (by decide) ?_
  refine va_mmin hx hb (hml.trans hl.1.symm) hown (hts _ mX3_renew_2) (hts _ mX3_renew_3) (hts _ mX3_renew_4) (hts _ mX3_renew_5) (Nat.le_of_ble_eq_true rfl) (Nat.le_of_ble_eq_true rfl) (Nat.zero_le _) (Nat.zero_le _) dX3_renew_9 ?_
  refine lv_topi (fun y_1 ey_1 => ?_)
  have hv := hv y_1 ey_1
  refine va_put (D := (dC, dI)) (ci := 3) (v := .int y_1) (ty := .int) (C := RX3) (T := TX3) (N := 3) hx hb hts nX3_renew_X3 tyX3 tyX3_ok nmX3 hown hK hP hD hS 0 rfl rfl 2 (by decide) (hts _ mX3_renew_6) (fun _ h9 => h9) rfl (by decide +kernel) rfl rfl (Nat.le_of_ble_eq_true rfl) dX3_renew_12 (fun H locs hP hD hS => ?_)
  have hP : va_P (dC, dI) vwCl (pX3_renew cy h t_elements 1 y_1) H := hP
  have hD : va_D A (pX3_renew cy h t_elements 1 y_1) := hD
  refine lv_iconst (v := 0) hx hb dX3_renew_15 (by decide) ?_
  refine lv_istore_n (lv' := [(2, .int 0), (0, .ref (h 0)), (1, .int p1)]) hx hb dX3_renew_16 rfl hl (by decide) rfl (fun ls hl => ?_)
  obtain ⟨n_2, hv⟩ := hv
  exact wX3_renew_17 l h post  p1 C0 n_2 t_elements 1 y_1 0 hv _ _ _ hP hD hS (lv_sub hl [1, 0] rfl)
theorem kX3_renew (l : Launch) (dC : Nat → ClassId) (dI : Nat → Nat → Nat) (cy : Nat → ClassId) (h : Nat → Nat) (t_elements : Nat → Int64) (t_present : Int32) (t_size : Int32) (p1 : Int32) (post : (Nat → Int64) → Int32 → Int32 → Prop) (hv : VX3_renew post p1 t_elements t_present t_size) : CtV l yX3_renew wsX3_renew rX3_renew dC dI cy [.ref (h 0), .int p1] (pX3_renew cy h t_elements t_present t_size) (fun (u : (Nat → Int64) × Int32 × Int32) => pX3_renew cy h u.1 u.2.1 u.2.2) (fun (u : (Nat → Int64) × Int32 × Int32) => post u.1 u.2.1 u.2.2) :=
  ct_ofV (by decide) rfl (Nat.le_of_ble_eq_true rfl) (fun p e s m below meth c A ls C0 hP hD hS hl => wX3_renew_0 l h post p1 C0 t_elements t_present t_size hv _ _ _ hP hD hS hl)
theorem mX3_has_1 : (Cond.fieldLink RX3 15 "AbelianPowers$Row" "present" "Z") ∈ wsX3_has := List.mem_of_getElem? (i := 1) rfl
theorem mX3_has_2 : (Cond.fieldLink RX3 25 "AbelianPowers$Row" "size" "I") ∈ wsX3_has := List.mem_of_getElem? (i := 2) rfl
theorem nX3_has_X3 : ∀ w ∈ wsX30, w ∈ wsX3_has := fun _ h => List.mem_cons_of_mem _ (List.mem_append_right _ h)
theorem zX3_has : yX3_has.cls = RX3 ∧ yX3_has.cls ≠ "java/lang/invoke/MethodHandle" ∧ yX3_has.cls ≠ "java/lang/invoke/VarHandle" ∧ (parseMethodDescriptor yX3_has.desc).map (fun d => d.parameters.length) = some 1 := by decide +kernel
abbrev rX3_has : Room := { frames := 0, cells := 0, slots := 0, locals := 0 }
abbrev pX3_has (cy : Nat → ClassId) (h : Nat → Nat) (t_present : Int32) (t_size : Int32) : va_W := [(h 0, .inr (3, [.ref (h 1), .int t_present, .int t_size]))]
def VX3_has (post : Int32 → Prop)  (t_present : Int32) (t_size : Int32) (p1 : Int32)  : Prop := ((t_present = 0) → post (0 : Int32)) ∧ (¬ (t_present = 0) → ((p1 < 0) → post (0 : Int32)) ∧ (¬ (p1 < 0) → ((t_size ≤ p1) → post (0 : Int32)) ∧ (¬ (t_size ≤ p1) → post (1 : Int32))))
set_option maxHeartbeats 4000000 in
set_option maxRecDepth 100000 in
theorem wX3_has_0 {p : Program} (l : Launch) {e : Env} {s : State} {m : MethodId} {args : Array Value} {below : List Frame} {meth : Method} {c : Code} {dC : Nat → ClassId} {dI : Nat → Nat → Nat} {cy : Nat → ClassId} {A : Nat → Prop} (h : Nat → Nat) (post : Int32 → Prop)   (t_present : Int32) (t_size : Int32) (p1 : Int32) (C0 : cx p s m args meth c cX3_has 2 (some .boolean) wsX3_has RX3 dC dI cy A)  : VX3_has post t_present t_size p1  → ∀ (H : Heap) (locs : List Loc) (ls : Array Slot), va_P (dC, dI) vwCl (pX3_has cy h t_present t_size) H → va_D A (pX3_has cy h t_present t_size) → va_S A s.heap H locs → lv_has ls 2 [(0, .ref (h 0)), (1, .int p1)] → W p l e rX3_has s m args below meth c H locs 0 0 (MQ below (va_Qi (fun (r : Int32) (_ : Unit) => post r) (fun (_ : Unit) (t : State) => va_P (dC, dI) vwCl (pX3_has cy h t_present t_size) t.heap) A) args s 0 0 A) (F0 m 0 ls []) := by
  have C1 := C0
  obtain ⟨hx, hb, hr, hml, hown, hts, hlocks, hK, hA⟩ := C1
  intro  hv H locs ls hP hD hS hl
  refine lv_aload_n hx hb dX3_has_0 rfl (lv_at hl 0 rfl) ?_
  refine va_get (D := (dC, dI)) (ci := 3) (v := .int t_present) (C := RX3) (T := TX3) (N := 3) hx hb hts nX3_has_X3 hown hK hP 0 rfl rfl 1 (by decide) (hts _ mX3_has_1) (fun _ h9 => h9) rfl dX3_has_1 ?_
  refine lv_if_eq (tgt := 23) hx hb dX3_has_4 (by decide) (fun c_3 => ?_) (fun c_3 => ?_)
  · have hv := hv.1 c_3
    refine lv_iconst (v := 0) hx hb dX3_has_23 (by decide) ?_
    exact W.zret (v := 0) hx hb hr rfl (fun t ht hW => ⟨⟨0, (), rfl, hv, va_Ph ht hP⟩, hS.F ht⟩) hS.2.2 dX3_has_24
  · have hv := hv.2 c_3
    refine lv_iload_n hx hb dX3_has_7 rfl (lv_at hl 1 rfl) ?_
    refine lv_if_lt (tgt := 23) hx hb dX3_has_8 (by decide) (fun c_2 => ?_) (fun c_2 => ?_)
    · have hv := hv.1 c_2
      refine lv_iconst (v := 0) hx hb dX3_has_23 (by decide) ?_
      exact W.zret (v := 0) hx hb hr rfl (fun t ht hW => ⟨⟨0, (), rfl, hv, va_Ph ht hP⟩, hS.F ht⟩) hS.2.2 dX3_has_24
    · have hv := hv.2 c_2
      refine lv_iload_n hx hb dX3_has_11 rfl (lv_at hl 1 rfl) ?_
      refine lv_aload_n hx hb dX3_has_12 rfl (lv_at hl 0 rfl) ?_
      refine va_get (D := (dC, dI)) (ci := 3) (v := .int t_size) (C := RX3) (T := TX3) (N := 3) hx hb hts nX3_has_X3 hown hK hP 0 rfl rfl 2 (by decide) (hts _ mX3_has_2) (fun _ h9 => h9) rfl dX3_has_13 ?_
      refine lv_icmp_ge (tgt := 23) hx hb dX3_has_16 (by decide) (fun c_1 => ?_) (fun c_1 => ?_)
      · have hv := hv.1 c_1
        refine lv_iconst (v := 0) hx hb dX3_has_23 (by decide) ?_
        exact W.zret (v := 0) hx hb hr rfl (fun t ht hW => ⟨⟨0, (), rfl, hv, va_Ph ht hP⟩, hS.F ht⟩) hS.2.2 dX3_has_24
      · have hv := hv.2 c_1
        refine lv_iconst (v := 1) hx hb dX3_has_19 (by decide) ?_
        refine lv_goto (tgt := 24) hx hb dX3_has_20 (by decide) ?_
        exact W.zret (v := 1) hx hb hr rfl (fun t ht hW => ⟨⟨1, (), rfl, hv, va_Ph ht hP⟩, hS.F ht⟩) hS.2.2 dX3_has_24
theorem kX3_has (l : Launch) (dC : Nat → ClassId) (dI : Nat → Nat → Nat) (cy : Nat → ClassId) (h : Nat → Nat) (t_present : Int32) (t_size : Int32) (p1 : Int32) (post : Int32 → Prop) (hv : VX3_has post t_present t_size p1 ) : CtI l yX3_has wsX3_has rX3_has dC dI cy [.ref (h 0), .int p1] (pX3_has cy h t_present t_size) (fun (_ : Unit) => pX3_has cy h t_present t_size) (fun (r : Int32) (_ : Unit) => post r) :=
  ct_ofI (by decide) rfl (Nat.le_of_ble_eq_true rfl) (fun p e s m below meth c A ls C0 hP hD hS hl => wX3_has_0 l h post t_present t_size p1 C0  hv _ _ _ hP hD hS hl)
theorem zX7_keyOfEnds : yX7_keyOfEnds.cls ≠ "java/lang/invoke/MethodHandle" ∧ yX7_keyOfEnds.cls ≠ "java/lang/invoke/VarHandle" ∧ (parseMethodDescriptor yX7_keyOfEnds.desc).map (fun d => d.parameters.length) = some 3 := by decide +kernel
abbrev rX7_keyOfEnds : Room := { frames := 0, cells := 0, slots := 0, locals := 0 }
abbrev pX7_keyOfEnds (cy : Nat → ClassId) (h : Nat → Nat)  : va_W := []
def VX7_keyOfEnds (post : Int32 → Prop)  (p0 : Int32) (p1 : Int32) (p2 : Int32)  : Prop := ∀ y_1 : Int32, y_1 = (((((p0 + 1) * 5) + p1) + 1) * 5) → post ((y_1 + p2) + 1)
set_option maxHeartbeats 4000000 in
set_option maxRecDepth 100000 in
theorem wX7_keyOfEnds_0 {p : Program} (l : Launch) {e : Env} {s : State} {m : MethodId} {args : Array Value} {below : List Frame} {meth : Method} {c : Code} {dC : Nat → ClassId} {dI : Nat → Nat → Nat} {cy : Nat → ClassId} {A : Nat → Prop} (h : Nat → Nat) (post : Int32 → Prop)    (p0 : Int32) (p1 : Int32) (p2 : Int32) (C0 : cx p s m args meth c cX7_keyOfEnds 3 (some .int) wsX7_keyOfEnds RX7 dC dI cy A)  : VX7_keyOfEnds post p0 p1 p2  → ∀ (H : Heap) (locs : List Loc) (ls : Array Slot), va_P (dC, dI) vwCl (pX7_keyOfEnds cy h ) H → va_D A (pX7_keyOfEnds cy h ) → va_S A s.heap H locs → lv_has ls 3 [(0, .int p0), (1, .int p1), (2, .int p2)] → W p l e rX7_keyOfEnds s m args below meth c H locs 0 0 (MQ below (va_Qi (fun (r : Int32) (_ : Unit) => post r) (fun (_ : Unit) (t : State) => va_P (dC, dI) vwCl (pX7_keyOfEnds cy h ) t.heap) A) args s 0 0 A) (F0 m 0 ls []) := by
  have C1 := C0
  obtain ⟨hx, hb, hr, hml, hown, hts, hlocks, hK, hA⟩ := C1
  intro  hv H locs ls hP hD hS hl
  refine lv_iload_n hx hb dX7_keyOfEnds_0 rfl (lv_at hl 0 rfl) ?_
  refine lv_iconst (v := 1) hx hb dX7_keyOfEnds_1 (by decide) ?_
  refine lv_iadd hx hb dX7_keyOfEnds_2 ?_
  refine lv_iconst (v := 5) hx hb dX7_keyOfEnds_3 (by decide) ?_
  refine lv_imul hx hb dX7_keyOfEnds_4 ?_
  refine lv_iload_n hx hb dX7_keyOfEnds_5 rfl (lv_at hl 1 rfl) ?_
  refine lv_iadd hx hb dX7_keyOfEnds_6 ?_
  refine lv_iconst (v := 1) hx hb dX7_keyOfEnds_7 (by decide) ?_
  refine lv_iadd hx hb dX7_keyOfEnds_8 ?_
  refine lv_iconst (v := 5) hx hb dX7_keyOfEnds_9 (by decide) ?_
  refine lv_imul hx hb dX7_keyOfEnds_10 ?_
  refine lv_topi (fun y_1 ey_1 => ?_)
  have hv := hv y_1 ey_1
  refine lv_iload_n hx hb dX7_keyOfEnds_11 rfl (lv_at hl 2 rfl) ?_
  refine lv_iadd hx hb dX7_keyOfEnds_12 ?_
  refine lv_iconst (v := 1) hx hb dX7_keyOfEnds_13 (by decide) ?_
  refine lv_iadd hx hb dX7_keyOfEnds_14 ?_
  exact W.iret (v := ((y_1 + p2) + 1)) hx hb hr (fun t ht hW => ⟨⟨((y_1 + p2) + 1), (), rfl, hv, va_Ph ht hP⟩, hS.F ht⟩) hS.2.2 dX7_keyOfEnds_15
theorem kX7_keyOfEnds (l : Launch) (dC : Nat → ClassId) (dI : Nat → Nat → Nat) (cy : Nat → ClassId) (h : Nat → Nat)  (p0 : Int32) (p1 : Int32) (p2 : Int32) (post : Int32 → Prop) (hv : VX7_keyOfEnds post p0 p1 p2 ) : CtI l yX7_keyOfEnds wsX7_keyOfEnds rX7_keyOfEnds dC dI cy [.int p0, .int p1, .int p2] (pX7_keyOfEnds cy h ) (fun (_ : Unit) => pX7_keyOfEnds cy h ) (fun (r : Int32) (_ : Unit) => post r) :=
  ct_ofI (by decide) rfl (Nat.le_of_ble_eq_true rfl) (fun p e s m below meth c A ls C0 hP hD hS hl => wX7_keyOfEnds_0 l h post p0 p1 p2 C0  hv _ _ _ hP hD hS hl)
theorem zX7_keyWithNumber : yX7_keyWithNumber.cls ≠ "java/lang/invoke/MethodHandle" ∧ yX7_keyWithNumber.cls ≠ "java/lang/invoke/VarHandle" ∧ (parseMethodDescriptor yX7_keyWithNumber.desc).map (fun d => d.parameters.length) = some 2 := by decide +kernel
abbrev rX7_keyWithNumber : Room := { frames := 0, cells := 0, slots := 0, locals := 0 }
abbrev pX7_keyWithNumber (cy : Nat → ClassId) (h : Nat → Nat)  : va_W := []
def VX7_keyWithNumber (post : Int32 → Prop)  (p0 : Int32) (p1 : Int32)  : Prop := post (((p0 * 19) + p1) + 9)
set_option maxHeartbeats 4000000 in
set_option maxRecDepth 100000 in
theorem wX7_keyWithNumber_0 {p : Program} (l : Launch) {e : Env} {s : State} {m : MethodId} {args : Array Value} {below : List Frame} {meth : Method} {c : Code} {dC : Nat → ClassId} {dI : Nat → Nat → Nat} {cy : Nat → ClassId} {A : Nat → Prop} (h : Nat → Nat) (post : Int32 → Prop)    (p0 : Int32) (p1 : Int32) (C0 : cx p s m args meth c cX7_keyWithNumber 2 (some .int) wsX7_keyWithNumber RX7 dC dI cy A)  : VX7_keyWithNumber post p0 p1  → ∀ (H : Heap) (locs : List Loc) (ls : Array Slot), va_P (dC, dI) vwCl (pX7_keyWithNumber cy h ) H → va_D A (pX7_keyWithNumber cy h ) → va_S A s.heap H locs → lv_has ls 2 [(0, .int p0), (1, .int p1)] → W p l e rX7_keyWithNumber s m args below meth c H locs 0 0 (MQ below (va_Qi (fun (r : Int32) (_ : Unit) => post r) (fun (_ : Unit) (t : State) => va_P (dC, dI) vwCl (pX7_keyWithNumber cy h ) t.heap) A) args s 0 0 A) (F0 m 0 ls []) := by
  have C1 := C0
  obtain ⟨hx, hb, hr, hml, hown, hts, hlocks, hK, hA⟩ := C1
  intro  hv H locs ls hP hD hS hl
  refine lv_iload_n hx hb dX7_keyWithNumber_0 rfl (lv_at hl 0 rfl) ?_
  refine lv_bipush (v := 19) hx hb dX7_keyWithNumber_1 (by decide) ?_
  refine lv_imul hx hb dX7_keyWithNumber_3 ?_
  refine lv_iload_n hx hb dX7_keyWithNumber_4 rfl (lv_at hl 1 rfl) ?_
  refine lv_iadd hx hb dX7_keyWithNumber_5 ?_
  refine lv_bipush (v := 9) hx hb dX7_keyWithNumber_6 (by decide) ?_
  refine lv_iadd hx hb dX7_keyWithNumber_8 ?_
  exact W.iret (v := (((p0 * 19) + p1) + 9)) hx hb hr (fun t ht hW => ⟨⟨(((p0 * 19) + p1) + 9), (), rfl, hv, va_Ph ht hP⟩, hS.F ht⟩) hS.2.2 dX7_keyWithNumber_9
theorem kX7_keyWithNumber (l : Launch) (dC : Nat → ClassId) (dI : Nat → Nat → Nat) (cy : Nat → ClassId) (h : Nat → Nat)  (p0 : Int32) (p1 : Int32) (post : Int32 → Prop) (hv : VX7_keyWithNumber post p0 p1 ) : CtI l yX7_keyWithNumber wsX7_keyWithNumber rX7_keyWithNumber dC dI cy [.int p0, .int p1] (pX7_keyWithNumber cy h ) (fun (_ : Unit) => pX7_keyWithNumber cy h ) (fun (r : Int32) (_ : Unit) => post r) :=
  ct_ofI (by decide) rfl (Nat.le_of_ble_eq_true rfl) (fun p e s m below meth c A ls C0 hP hD hS hl => wX7_keyWithNumber_0 l h post p0 p1 C0  hv _ _ _ hP hD hS hl)
theorem zX7_squareKey : yX7_squareKey.cls ≠ "java/lang/invoke/MethodHandle" ∧ yX7_squareKey.cls ≠ "java/lang/invoke/VarHandle" ∧ (parseMethodDescriptor yX7_squareKey.desc).map (fun d => d.parameters.length) = some 1 := by decide +kernel
abbrev rX7_squareKey : Room := { frames := 1, cells := 0, slots := 0, locals := 22 }
abbrev pX7_squareKey (cy : Nat → ClassId) (h : Nat → Nat)  : va_W := []
def VX7_squareKey_9 (post : Int32 → Prop)  (p0 : Int32) : Nat → Int32 → Int32 → Prop
  | 0, _, _ => False
  | n + 1, x1, x2 => ((p0 ≤ x2) → post x1) ∧ (¬ (p0 ≤ x2) → VX7_keyWithNumber (fun r_4 => VX7_squareKey_9 post p0 n r_4 (x2 + 1)) x1 0)
def VX7_squareKey (post : Int32 → Prop)  (p0 : Int32)  : Prop := VX7_keyOfEnds (fun r_1 => ∃ n9 : Nat, VX7_squareKey_9 post p0 n9 r_1 0) (-1) (-1) (-1)
set_option maxHeartbeats 4000000 in
set_option maxRecDepth 100000 in
theorem wX7_squareKey_9 {p : Program} (l : Launch) {e : Env} {s : State} {m : MethodId} {args : Array Value} {below : List Frame} {meth : Method} {c : Code} {dC : Nat → ClassId} {dI : Nat → Nat → Nat} {cy : Nat → ClassId} {A : Nat → Prop} (h : Nat → Nat) (post : Int32 → Prop)    (p0 : Int32) (C0 : cx p s m args meth c cX7_squareKey 3 (some .int) wsX7_squareKey RX7 dC dI cy A)  : ∀ (n : Nat) (x1 : Int32) (x2 : Int32), VX7_squareKey_9 post p0 n x1 x2 → ∀ (H : Heap) (locs : List Loc) (ls : Array Slot), va_P (dC, dI) vwCl (pX7_squareKey cy h ) H → va_D A (pX7_squareKey cy h ) → va_S A s.heap H locs → lv_has ls 3 [(0, .int p0), (1, .int x1), (2, .int x2)] → W p l e rX7_squareKey s m args below meth c H locs 0 0 (MQ below (va_Qi (fun (r : Int32) (_ : Unit) => post r) (fun (_ : Unit) (t : State) => va_P (dC, dI) vwCl (pX7_squareKey cy h ) t.heap) A) args s 0 0 A) (F0 m 9 ls []) := by
  have C1 := C0
  obtain ⟨hx, hb, hr, hml, hown, hts, hlocks, hK, hA⟩ := C1
  intro n
  induction n with
  | zero => intro x1 x2 hv; exact hv.elim
  | succ n ih =>
    intro x1 x2 hv H locs ls hP hD hS hl
    refine lv_iload_n hx hb dX7_squareKey_9 rfl (lv_at hl 2 rfl) ?_
    refine lv_iload_n hx hb dX7_squareKey_10 rfl (lv_at hl 0 rfl) ?_
    refine lv_icmp_ge (tgt := 26) hx hb dX7_squareKey_11 (by decide) (fun c_6 => ?_) (fun c_6 => ?_)
    · have hv := hv.1 c_6
      refine lv_iload_n hx hb dX7_squareKey_26 rfl (lv_at hl 1 rfl) ?_
      exact W.iret (v := x1) hx hb hr (fun t ht hW => ⟨⟨x1, (), rfl, hv, va_Ph ht hP⟩, hS.F ht⟩) hS.2.2 dX7_squareKey_27
    · have hv := hv.2 c_6
      refine lv_iload_n hx hb dX7_squareKey_14 rfl (lv_at hl 1 rfl) ?_
      refine lv_iconst (v := 0) hx hb dX7_squareKey_15 (by decide) ?_
      refine cb_SI (As := [.int x1, .int 0]) (rest := []) ⟨hx, hb, hml, hown, hts⟩ (kX7_keyWithNumber l dC dI cy (adl []) x1 0 _ hv) (va_cwS 2 hts gX7_squareKey_X7_keyWithNumber rfl rfl rfl zX7_keyWithNumber ⟨Nat.le_of_ble_eq_true rfl, Nat.le_of_ble_eq_true rfl⟩) hK hP hD hS hA [] [] rfl rfl rfl (fun _ => rfl) rfl hl.1 rfl (Nat.le_of_ble_eq_true rfl) dX7_squareKey_16 (fun r_4 w_5 H locs hv hP hD hS => ?_)
      have hP : va_P (dC, dI) vwCl (pX7_squareKey cy h ) H := hP
      have hD : va_D A (pX7_squareKey cy h ) := hD
      refine lv_istore_n (lv' := [(1, .int r_4), (0, .int p0), (2, .int x2)]) hx hb dX7_squareKey_19 rfl hl (by decide) rfl (fun ls hl => ?_)
      refine lv_iinc (v := (x2 + 1)) (lv' := [(2, .int ((x2 + 1))), (1, .int r_4), (0, .int p0)]) hx hb dX7_squareKey_20 hl (k := 2) rfl rfl (by decide) rfl (fun ls hl => ?_)
      refine lv_goto (tgt := 9) hx hb dX7_squareKey_23 (by decide) ?_
      exact ih r_4 (x2 + 1) hv _ _ _ hP hD hS (lv_sub hl [2, 1, 0] rfl)
set_option maxHeartbeats 4000000 in
set_option maxRecDepth 100000 in
theorem wX7_squareKey_0 {p : Program} (l : Launch) {e : Env} {s : State} {m : MethodId} {args : Array Value} {below : List Frame} {meth : Method} {c : Code} {dC : Nat → ClassId} {dI : Nat → Nat → Nat} {cy : Nat → ClassId} {A : Nat → Prop} (h : Nat → Nat) (post : Int32 → Prop)    (p0 : Int32) (C0 : cx p s m args meth c cX7_squareKey 3 (some .int) wsX7_squareKey RX7 dC dI cy A)  : VX7_squareKey post p0  → ∀ (H : Heap) (locs : List Loc) (ls : Array Slot), va_P (dC, dI) vwCl (pX7_squareKey cy h ) H → va_D A (pX7_squareKey cy h ) → va_S A s.heap H locs → lv_has ls 3 [(0, .int p0)] → W p l e rX7_squareKey s m args below meth c H locs 0 0 (MQ below (va_Qi (fun (r : Int32) (_ : Unit) => post r) (fun (_ : Unit) (t : State) => va_P (dC, dI) vwCl (pX7_squareKey cy h ) t.heap) A) args s 0 0 A) (F0 m 0 ls []) := by
  have C1 := C0
  obtain ⟨hx, hb, hr, hml, hown, hts, hlocks, hK, hA⟩ := C1
  intro  hv H locs ls hP hD hS hl
  refine lv_iconst (v := (-1)) hx hb dX7_squareKey_0 (by decide) ?_
  refine lv_iconst (v := (-1)) hx hb dX7_squareKey_1 (by decide) ?_
  refine lv_iconst (v := (-1)) hx hb dX7_squareKey_2 (by decide) ?_
  refine cb_SI (As := [.int (-1), .int (-1), .int (-1)]) (rest := []) ⟨hx, hb, hml, hown, hts⟩ (kX7_keyOfEnds l dC dI cy (adl []) (-1) (-1) (-1) _ hv) (va_cwS 3 hts gX7_squareKey_X7_keyOfEnds rfl rfl rfl zX7_keyOfEnds ⟨Nat.le_of_ble_eq_true rfl, Nat.le_of_ble_eq_true rfl⟩) hK hP hD hS hA [] [] rfl rfl rfl (fun _ => rfl) rfl hl.1 rfl (Nat.le_of_ble_eq_true rfl) dX7_squareKey_3 (fun r_1 w_3 H locs hv hP hD hS => ?_)
  have hP : va_P (dC, dI) vwCl (pX7_squareKey cy h ) H := hP
  have hD : va_D A (pX7_squareKey cy h ) := hD
  refine lv_istore_n (lv' := [(1, .int r_1), (0, .int p0)]) hx hb dX7_squareKey_6 rfl hl (by decide) rfl (fun ls hl => ?_)
  refine lv_iconst (v := 0) hx hb dX7_squareKey_7 (by decide) ?_
  refine lv_istore_n (lv' := [(2, .int 0), (1, .int r_1), (0, .int p0)]) hx hb dX7_squareKey_8 rfl hl (by decide) rfl (fun ls hl => ?_)
  obtain ⟨n_2, hv⟩ := hv
  exact wX7_squareKey_9 l h post  p0 C0 n_2 r_1 0 hv _ _ _ hP hD hS (lv_sub hl [2, 1, 0] rfl)
theorem kX7_squareKey (l : Launch) (dC : Nat → ClassId) (dI : Nat → Nat → Nat) (cy : Nat → ClassId) (h : Nat → Nat)  (p0 : Int32) (post : Int32 → Prop) (hv : VX7_squareKey post p0 ) : CtI l yX7_squareKey wsX7_squareKey rX7_squareKey dC dI cy [.int p0] (pX7_squareKey cy h ) (fun (_ : Unit) => pX7_squareKey cy h ) (fun (r : Int32) (_ : Unit) => post r) :=
  ct_ofI (by decide) rfl (Nat.le_of_ble_eq_true rfl) (fun p e s m below meth c A ls C0 hP hD hS hl => wX7_squareKey_0 l h post p0 C0  hv _ _ _ hP hD hS hl)
theorem mX7_readKey_1 : (Cond.fieldLink RX7 15 "AbelianPowers$Template" "numbers" "[I") ∈ wsX7_readKey := List.mem_of_getElem? (i := 1) rfl
theorem mX7_readKey_2 : (Cond.fieldLink RX7 9 "AbelianPowers$Template" "ends" "[I") ∈ wsX7_readKey := List.mem_of_getElem? (i := 2) rfl
theorem nX7_readKey_X7 : ∀ w ∈ wsX70, w ∈ wsX7_readKey := fun _ h => List.mem_cons_of_mem _ (List.mem_append_right _ h)
theorem zX7_readKey : yX7_readKey.cls = RX7 ∧ yX7_readKey.cls ≠ "java/lang/invoke/MethodHandle" ∧ yX7_readKey.cls ≠ "java/lang/invoke/VarHandle" ∧ (parseMethodDescriptor yX7_readKey.desc).map (fun d => d.parameters.length) = some 2 := by decide +kernel
abbrev rX7_readKey : Room := { frames := 0, cells := 0, slots := 0, locals := 0 }
abbrev pX7_readKey (cy : Nat → ClassId) (h : Nat → Nat) (t_ends : Nat → Int32) (t_numbers : Nat → Int32) : va_W := [(h 0, .inr (7, [.ref (h 1), .ref (h 2)])), (h 1, .inl (cy 0, 3, .inl t_ends)), (h 2, .inl (cy 0, 4, .inl t_numbers))]
def VX7_readKey_52 (post : (Nat → Int32) → (Nat → Int32) → Prop)  (p1 : Int32) (p2 : Int32) : Nat → (Nat → Int32) → (Nat → Int32) → Int32 → Int32 → Prop
  | 0, _, _, _, _ => False
  | n + 1, t_ends, t_numbers, x3, x4 => ((x4 < 0) → post t_ends t_numbers) ∧ (¬ (x4 < 0) → vp_in x4 3 ∧ (VX7_readKey_52 post p1 p2 n (upd t_ends x4.toNatClampNeg ((x3 - x3 / 5 * 5) - 1)) t_numbers (x3 / 5) (x4 + (-1))))
def VX7_readKey_5 (post : (Nat → Int32) → (Nat → Int32) → Prop)  (p1 : Int32) (p2 : Int32) : Nat → (Nat → Int32) → (Nat → Int32) → Int32 → Int32 → Prop
  | 0, _, _, _, _ => False
  | n + 1, t_ends, t_numbers, x3, x4 => ((x4 < 0) → ∃ n52 : Nat, VX7_readKey_52 post p1 p2 n52 t_ends t_numbers x3 2) ∧ (¬ (x4 < 0) → vp_in x4 4 ∧ (((p2 ≤ x4) → VX7_readKey_5 post p1 p2 n t_ends (upd t_numbers x4.toNatClampNeg 0) x3 (x4 + (-1))) ∧ (¬ (p2 ≤ x4) → vp_in x4 4 ∧ (VX7_readKey_5 post p1 p2 n t_ends (upd (upd t_numbers x4.toNatClampNeg 0) x4.toNatClampNeg ((x3 - x3 / 19 * 19) - 9)) (x3 / 19) (x4 + (-1))))))
def VX7_readKey (post : (Nat → Int32) → (Nat → Int32) → Prop)  (p1 : Int32) (p2 : Int32) (t_ends : Nat → Int32) (t_numbers : Nat → Int32) : Prop := ∃ n5 : Nat, VX7_readKey_5 post p1 p2 n5 t_ends t_numbers p1 3
set_option maxHeartbeats 4000000 in
set_option maxRecDepth 100000 in
theorem wX7_readKey_52 {p : Program} (l : Launch) {e : Env} {s : State} {m : MethodId} {args : Array Value} {below : List Frame} {meth : Method} {c : Code} {dC : Nat → ClassId} {dI : Nat → Nat → Nat} {cy : Nat → ClassId} {A : Nat → Prop} (h : Nat → Nat) (post : (Nat → Int32) → (Nat → Int32) → Prop)    (p1 : Int32) (p2 : Int32) (C0 : cx p s m args meth c cX7_readKey 5 none wsX7_readKey RX7 dC dI cy A)  : ∀ (n : Nat) (t_ends : Nat → Int32) (t_numbers : Nat → Int32) (x3 : Int32) (x4 : Int32), VX7_readKey_52 post p1 p2 n t_ends t_numbers x3 x4 → ∀ (H : Heap) (locs : List Loc) (ls : Array Slot), va_P (dC, dI) vwCl (pX7_readKey cy h t_ends t_numbers) H → va_D A (pX7_readKey cy h t_ends t_numbers) → va_S A s.heap H locs → lv_has ls 5 [(0, .ref (h 0)), (3, .int x3), (4, .int x4)] → W p l e rX7_readKey s m args below meth c H locs 0 0 (MQ below (va_Qv (fun (u : (Nat → Int32) × (Nat → Int32)) => post u.1 u.2) (fun (u : (Nat → Int32) × (Nat → Int32)) (t : State) => va_P (dC, dI) vwCl (pX7_readKey cy h u.1 u.2) t.heap) A) args s 0 0 A) (F0 m 52 ls []) := by
  have C1 := C0
  obtain ⟨hx, hb, hr, hml, hown, hts, hlocks, hK, hA⟩ := C1
  intro n
  induction n with
  | zero => intro t_ends t_numbers x3 x4 hv; exact hv.elim
  | succ n ih =>
    intro t_ends t_numbers x3 x4 hv H locs ls hP hD hS hl
    refine lv_iload hx hb dX7_readKey_52 (lv_at hl 2 rfl) ?_
    refine lv_if_lt (tgt := 79) hx hb dX7_readKey_54 (by decide) (fun c_12 => ?_) (fun c_12 => ?_)
    · have hv := hv.1 c_12
      exact W.vret hx hb hr (fun t ht hW => ⟨⟨(t_ends, t_numbers), rfl, hv, va_Ph ht hP⟩, hS.F ht⟩) hS.2.2 dX7_readKey_79
    · have hv := hv.2 c_12
      refine lv_aload_n hx hb dX7_readKey_57 rfl (lv_at hl 0 rfl) ?_
      refine va_get (D := (dC, dI)) (ci := 7) (v := .ref (h 1)) (C := RX7) (T := TX7) (N := 2) hx hb hts nX7_readKey_X7 hown hK hP 0 rfl rfl 0 (by decide) (hts _ mX7_readKey_2) (fun _ h9 => h9) rfl dX7_readKey_58 ?_
      refine lv_iload hx hb dX7_readKey_61 (lv_at hl 2 rfl) ?_
      refine lv_iload_n hx hb dX7_readKey_63 rfl (lv_at hl 1 rfl) ?_
      refine lv_iconst (v := 5) hx hb dX7_readKey_64 (by decide) ?_
      refine lv_irem hx hb dX7_readKey_65 (by decide) ?_
      refine lv_iconst (v := 1) hx hb dX7_readKey_66 (by decide) ?_
      refine lv_isub hx hb dX7_readKey_67 ?_
      have h_10 := hv.1
      have hv := hv.2
      refine va_iast hx hb hK hP hD hS 1 0 rfl rfl h_10 dX7_readKey_68 (fun H locs hP hD hS => ?_)
      have hP : va_P (dC, dI) vwCl (pX7_readKey cy h (upd t_ends x4.toNatClampNeg ((x3 - x3 / 5 * 5) - 1)) t_numbers) H := hP
      have hD : va_D A (pX7_readKey cy h (upd t_ends x4.toNatClampNeg ((x3 - x3 / 5 * 5) - 1)) t_numbers) := hD
      refine lv_iload_n hx hb dX7_readKey_69 rfl (lv_at hl 1 rfl) ?_
      refine lv_iconst (v := 5) hx hb dX7_readKey_70 (by decide) ?_
      refine lv_idiv hx hb dX7_readKey_71 (by decide) ?_
      refine lv_istore_n (lv' := [(3, .int ((x3 / 5))), (0, .ref (h 0)), (4, .int x4)]) hx hb dX7_readKey_72 rfl hl (by decide) rfl (fun ls hl => ?_)
      refine lv_iinc (v := (x4 + (-1))) (lv' := [(4, .int ((x4 + (-1)))), (3, .int ((x3 / 5))), (0, .ref (h 0))]) hx hb dX7_readKey_73 hl (k := 2) rfl rfl (by decide) rfl (fun ls hl => ?_)
      refine lv_goto (tgt := 52) hx hb dX7_readKey_76 (by decide) ?_
      exact ih (upd t_ends x4.toNatClampNeg ((x3 - x3 / 5 * 5) - 1)) t_numbers (x3 / 5) (x4 + (-1)) hv _ _ _ hP hD hS (lv_sub hl [2, 1, 0] rfl)
set_option maxHeartbeats 4000000 in
set_option maxRecDepth 100000 in
theorem wX7_readKey_5 {p : Program} (l : Launch) {e : Env} {s : State} {m : MethodId} {args : Array Value} {below : List Frame} {meth : Method} {c : Code} {dC : Nat → ClassId} {dI : Nat → Nat → Nat} {cy : Nat → ClassId} {A : Nat → Prop} (h : Nat → Nat) (post : (Nat → Int32) → (Nat → Int32) → Prop)    (p1 : Int32) (p2 : Int32) (C0 : cx p s m args meth c cX7_readKey 5 none wsX7_readKey RX7 dC dI cy A)  : ∀ (n : Nat) (t_ends : Nat → Int32) (t_numbers : Nat → Int32) (x3 : Int32) (x4 : Int32), VX7_readKey_5 post p1 p2 n t_ends t_numbers x3 x4 → ∀ (H : Heap) (locs : List Loc) (ls : Array Slot), va_P (dC, dI) vwCl (pX7_readKey cy h t_ends t_numbers) H → va_D A (pX7_readKey cy h t_ends t_numbers) → va_S A s.heap H locs → lv_has ls 5 [(0, .ref (h 0)), (2, .int p2), (3, .int x3), (4, .int x4)] → W p l e rX7_readKey s m args below meth c H locs 0 0 (MQ below (va_Qv (fun (u : (Nat → Int32) × (Nat → Int32)) => post u.1 u.2) (fun (u : (Nat → Int32) × (Nat → Int32)) (t : State) => va_P (dC, dI) vwCl (pX7_readKey cy h u.1 u.2) t.heap) A) args s 0 0 A) (F0 m 5 ls []) := by
  have C1 := C0
  obtain ⟨hx, hb, hr, hml, hown, hts, hlocks, hK, hA⟩ := C1
  intro n
  induction n with
  | zero => intro t_ends t_numbers x3 x4 hv; exact hv.elim
  | succ n ih =>
    intro t_ends t_numbers x3 x4 hv H locs ls hP hD hS hl
    refine lv_iload hx hb dX7_readKey_5 (lv_at hl 3 rfl) ?_
    refine lv_if_lt (tgt := 49) hx hb dX7_readKey_7 (by decide) (fun c_8 => ?_) (fun c_8 => ?_)
    · have hv := hv.1 c_8
      refine lv_iconst (v := 2) hx hb dX7_readKey_49 (by decide) ?_
      refine lv_istore (lv' := [(4, .int 2), (0, .ref (h 0)), (2, .int p2), (3, .int x3)]) hx hb dX7_readKey_50 hl (by decide) rfl (fun ls hl => ?_)
      obtain ⟨n_2, hv⟩ := hv
      exact wX7_readKey_52 l h post  p1 p2 C0 n_2 t_ends t_numbers x3 2 hv _ _ _ hP hD hS (lv_sub hl [1, 3, 0] rfl)
    · have hv := hv.2 c_8
      refine lv_aload_n hx hb dX7_readKey_10 rfl (lv_at hl 0 rfl) ?_
      refine va_get (D := (dC, dI)) (ci := 7) (v := .ref (h 2)) (C := RX7) (T := TX7) (N := 2) hx hb hts nX7_readKey_X7 hown hK hP 0 rfl rfl 1 (by decide) (hts _ mX7_readKey_1) (fun _ h9 => h9) rfl dX7_readKey_11 ?_
      refine lv_iload hx hb dX7_readKey_14 (lv_at hl 3 rfl) ?_
      refine lv_iconst (v := 0) hx hb dX7_readKey_16 (by decide) ?_
      have h_3 := hv.1
      have hv := hv.2
      refine va_iast hx hb hK hP hD hS 2 0 rfl rfl h_3 dX7_readKey_17 (fun H locs hP hD hS => ?_)
      have hP : va_P (dC, dI) vwCl (pX7_readKey cy h t_ends (upd t_numbers x4.toNatClampNeg 0)) H := hP
      have hD : va_D A (pX7_readKey cy h t_ends (upd t_numbers x4.toNatClampNeg 0)) := hD
      refine lv_iload hx hb dX7_readKey_18 (lv_at hl 3 rfl) ?_
      refine lv_iload_n hx hb dX7_readKey_20 rfl (lv_at hl 1 rfl) ?_
      refine lv_icmp_ge (tgt := 43) hx hb dX7_readKey_21 (by decide) (fun c_7 => ?_) (fun c_7 => ?_)
      · have hv := hv.1 c_7
        refine lv_iinc (v := (x4 + (-1))) (lv' := [(4, .int ((x4 + (-1)))), (0, .ref (h 0)), (2, .int p2), (3, .int x3)]) hx hb dX7_readKey_43 hl (k := 3) rfl rfl (by decide) rfl (fun ls hl => ?_)
        refine lv_goto (tgt := 5) hx hb dX7_readKey_46 (by decide) ?_
        exact ih t_ends (upd t_numbers x4.toNatClampNeg 0) x3 (x4 + (-1)) hv _ _ _ hP hD hS (lv_sub hl [1, 2, 3, 0] rfl)
      · have hv := hv.2 c_7
        refine lv_aload_n hx hb dX7_readKey_24 rfl (lv_at hl 0 rfl) ?_
        refine va_get (D := (dC, dI)) (ci := 7) (v := .ref (h 2)) (C := RX7) (T := TX7) (N := 2) hx hb hts nX7_readKey_X7 hown hK hP 0 rfl rfl 1 (by decide) (hts _ mX7_readKey_1) (fun _ h9 => h9) rfl dX7_readKey_25 ?_
        refine lv_iload hx hb dX7_readKey_28 (lv_at hl 3 rfl) ?_
        refine lv_iload_n hx hb dX7_readKey_30 rfl (lv_at hl 2 rfl) ?_
        refine lv_bipush (v := 19) hx hb dX7_readKey_31 (by decide) ?_
        refine lv_irem hx hb dX7_readKey_33 (by decide) ?_
        refine lv_bipush (v := 9) hx hb dX7_readKey_34 (by decide) ?_
        refine lv_isub hx hb dX7_readKey_36 ?_
        have h_5 := hv.1
        have hv := hv.2
        refine va_iast hx hb hK hP hD hS 2 0 rfl rfl h_5 dX7_readKey_37 (fun H locs hP hD hS => ?_)
        have hP : va_P (dC, dI) vwCl (pX7_readKey cy h t_ends (upd (upd t_numbers x4.toNatClampNeg 0) x4.toNatClampNeg ((x3 - x3 / 19 * 19) - 9))) H := hP
        have hD : va_D A (pX7_readKey cy h t_ends (upd (upd t_numbers x4.toNatClampNeg 0) x4.toNatClampNeg ((x3 - x3 / 19 * 19) - 9))) := hD
        refine lv_iload_n hx hb dX7_readKey_38 rfl (lv_at hl 2 rfl) ?_
        refine lv_bipush (v := 19) hx hb dX7_readKey_39 (by decide) ?_
        refine lv_idiv hx hb dX7_readKey_41 (by decide) ?_
        refine lv_istore_n (lv' := [(3, .int ((x3 / 19))), (0, .ref (h 0)), (2, .int p2), (4, .int x4)]) hx hb dX7_readKey_42 rfl hl (by decide) rfl (fun ls hl => ?_)
        refine lv_iinc (v := (x4 + (-1))) (lv' := [(4, .int ((x4 + (-1)))), (3, .int ((x3 / 19))), (0, .ref (h 0)), (2, .int p2)]) hx hb dX7_readKey_43 hl (k := 3) rfl rfl (by decide) rfl (fun ls hl => ?_)
        refine lv_goto (tgt := 5) hx hb dX7_readKey_46 (by decide) ?_
        exact ih t_ends (upd (upd t_numbers x4.toNatClampNeg 0) x4.toNatClampNeg ((x3 - x3 / 19 * 19) - 9)) (x3 / 19) (x4 + (-1)) hv _ _ _ hP hD hS (lv_sub hl [2, 3, 1, 0] rfl)
set_option maxHeartbeats 4000000 in
set_option maxRecDepth 100000 in
theorem wX7_readKey_0 {p : Program} (l : Launch) {e : Env} {s : State} {m : MethodId} {args : Array Value} {below : List Frame} {meth : Method} {c : Code} {dC : Nat → ClassId} {dI : Nat → Nat → Nat} {cy : Nat → ClassId} {A : Nat → Prop} (h : Nat → Nat) (post : (Nat → Int32) → (Nat → Int32) → Prop)    (p1 : Int32) (p2 : Int32) (C0 : cx p s m args meth c cX7_readKey 5 none wsX7_readKey RX7 dC dI cy A)  : ∀ (t_ends : Nat → Int32) (t_numbers : Nat → Int32), VX7_readKey post p1 p2 t_ends t_numbers → ∀ (H : Heap) (locs : List Loc) (ls : Array Slot), va_P (dC, dI) vwCl (pX7_readKey cy h t_ends t_numbers) H → va_D A (pX7_readKey cy h t_ends t_numbers) → va_S A s.heap H locs → lv_has ls 5 [(0, .ref (h 0)), (1, .int p1), (2, .int p2)] → W p l e rX7_readKey s m args below meth c H locs 0 0 (MQ below (va_Qv (fun (u : (Nat → Int32) × (Nat → Int32)) => post u.1 u.2) (fun (u : (Nat → Int32) × (Nat → Int32)) (t : State) => va_P (dC, dI) vwCl (pX7_readKey cy h u.1 u.2) t.heap) A) args s 0 0 A) (F0 m 0 ls []) := by
  have C1 := C0
  obtain ⟨hx, hb, hr, hml, hown, hts, hlocks, hK, hA⟩ := C1
  intro t_ends t_numbers hv H locs ls hP hD hS hl
  refine lv_iload_n hx hb dX7_readKey_0 rfl (lv_at hl 1 rfl) ?_
  refine lv_istore_n (lv' := [(3, .int p1), (0, .ref (h 0)), (1, .int p1), (2, .int p2)]) hx hb dX7_readKey_1 rfl hl (by decide) rfl (fun ls hl => ?_)
  refine lv_iconst (v := 3) hx hb dX7_readKey_2 (by decide) ?_
  refine lv_istore (lv' := [(4, .int 3), (3, .int p1), (0, .ref (h 0)), (1, .int p1), (2, .int p2)]) hx hb dX7_readKey_3 hl (by decide) rfl (fun ls hl => ?_)
  obtain ⟨n_1, hv⟩ := hv
  exact wX7_readKey_5 l h post  p1 p2 C0 n_1 t_ends t_numbers p1 3 hv _ _ _ hP hD hS (lv_sub hl [2, 4, 1, 0] rfl)
theorem kX7_readKey (l : Launch) (dC : Nat → ClassId) (dI : Nat → Nat → Nat) (cy : Nat → ClassId) (h : Nat → Nat) (t_ends : Nat → Int32) (t_numbers : Nat → Int32) (p1 : Int32) (p2 : Int32) (post : (Nat → Int32) → (Nat → Int32) → Prop) (hv : VX7_readKey post p1 p2 t_ends t_numbers) : CtV l yX7_readKey wsX7_readKey rX7_readKey dC dI cy [.ref (h 0), .int p1, .int p2] (pX7_readKey cy h t_ends t_numbers) (fun (u : (Nat → Int32) × (Nat → Int32)) => pX7_readKey cy h u.1 u.2) (fun (u : (Nat → Int32) × (Nat → Int32)) => post u.1 u.2) :=
  ct_ofV (by decide) rfl (Nat.le_of_ble_eq_true rfl) (fun p e s m below meth c A ls C0 hP hD hS hl => wX7_readKey_0 l h post p1 p2 C0 t_ends t_numbers hv _ _ _ hP hD hS hl)
theorem zX7_width : yX7_width.cls ≠ "java/lang/invoke/MethodHandle" ∧ yX7_width.cls ≠ "java/lang/invoke/VarHandle" ∧ (parseMethodDescriptor yX7_width.desc).map (fun d => d.parameters.length) = some 1 := by decide +kernel
abbrev rX7_width : Room := { frames := 0, cells := 0, slots := 0, locals := 0 }
abbrev pX7_width (cy : Nat → ClassId) (h : Nat → Nat)  : va_W := []
def VX7_width (post : Int32 → Prop)  (p0 : Int32)  : Prop := (¬ (p0 = (-1)) → post (1 : Int32)) ∧ ((p0 = (-1)) → post (0 : Int32))
set_option maxHeartbeats 4000000 in
set_option maxRecDepth 100000 in
theorem wX7_width_0 {p : Program} (l : Launch) {e : Env} {s : State} {m : MethodId} {args : Array Value} {below : List Frame} {meth : Method} {c : Code} {dC : Nat → ClassId} {dI : Nat → Nat → Nat} {cy : Nat → ClassId} {A : Nat → Prop} (h : Nat → Nat) (post : Int32 → Prop)    (p0 : Int32) (C0 : cx p s m args meth c cX7_width 1 (some .int) wsX7_width RX7 dC dI cy A)  : VX7_width post p0  → ∀ (H : Heap) (locs : List Loc) (ls : Array Slot), va_P (dC, dI) vwCl (pX7_width cy h ) H → va_D A (pX7_width cy h ) → va_S A s.heap H locs → lv_has ls 1 [(0, .int p0)] → W p l e rX7_width s m args below meth c H locs 0 0 (MQ below (va_Qi (fun (r : Int32) (_ : Unit) => post r) (fun (_ : Unit) (t : State) => va_P (dC, dI) vwCl (pX7_width cy h ) t.heap) A) args s 0 0 A) (F0 m 0 ls []) := by
  have C1 := C0
  obtain ⟨hx, hb, hr, hml, hown, hts, hlocks, hK, hA⟩ := C1
  intro  hv H locs ls hP hD hS hl
  refine lv_iload_n hx hb dX7_width_0 rfl (lv_at hl 0 rfl) ?_
  refine lv_iconst (v := (-1)) hx hb dX7_width_1 (by decide) ?_
  refine lv_icmp_ne (tgt := 9) hx hb dX7_width_2 (by decide) (fun c_1 => ?_) (fun c_1 => ?_)
  · have hv := hv.1 c_1
    refine lv_iconst (v := 1) hx hb dX7_width_9 (by decide) ?_
    exact W.iret (v := 1) hx hb hr (fun t ht hW => ⟨⟨1, (), rfl, hv, va_Ph ht hP⟩, hS.F ht⟩) hS.2.2 dX7_width_10
  · have hv := hv.2 c_1
    refine lv_iconst (v := 0) hx hb dX7_width_5 (by decide) ?_
    refine lv_goto (tgt := 10) hx hb dX7_width_6 (by decide) ?_
    exact W.iret (v := 0) hx hb hr (fun t ht hW => ⟨⟨0, (), rfl, hv, va_Ph ht hP⟩, hS.F ht⟩) hS.2.2 dX7_width_10
theorem kX7_width (l : Launch) (dC : Nat → ClassId) (dI : Nat → Nat → Nat) (cy : Nat → ClassId) (h : Nat → Nat)  (p0 : Int32) (post : Int32 → Prop) (hv : VX7_width post p0 ) : CtI l yX7_width wsX7_width rX7_width dC dI cy [.int p0] (pX7_width cy h ) (fun (_ : Unit) => pX7_width cy h ) (fun (r : Int32) (_ : Unit) => post r) :=
  ct_ofI (by decide) rfl (Nat.le_of_ble_eq_true rfl) (fun p e s m below meth c A ls C0 hP hD hS hl => wX7_width_0 l h post p0 C0  hv _ _ _ hP hD hS hl)
theorem mX7_lengthDifference_1 : (Cond.fieldLink RX7 15 "AbelianPowers$Template" "numbers" "[I") ∈ wsX7_lengthDifference := List.mem_of_getElem? (i := 1) rfl
theorem nX7_lengthDifference_X7 : ∀ w ∈ wsX70, w ∈ wsX7_lengthDifference := fun _ h => List.mem_cons_of_mem _ (List.mem_append_right _ h)
theorem zX7_lengthDifference : yX7_lengthDifference.cls = RX7 ∧ yX7_lengthDifference.cls ≠ "java/lang/invoke/MethodHandle" ∧ yX7_lengthDifference.cls ≠ "java/lang/invoke/VarHandle" ∧ (parseMethodDescriptor yX7_lengthDifference.desc).map (fun d => d.parameters.length) = some 0 := by decide +kernel
abbrev rX7_lengthDifference : Room := { frames := 0, cells := 0, slots := 0, locals := 0 }
abbrev pX7_lengthDifference (cy : Nat → ClassId) (h : Nat → Nat) (t_numbers : Nat → Int32) : va_W := [(h 0, .inr (7, [.ref (h 2), .ref (h 1)])), (h 1, .inl (cy 0, 4, .inl t_numbers))]
def VX7_lengthDifference_4 (post : Int32 → Prop)  (t_numbers : Nat → Int32) : Nat → Int32 → Int32 → Prop
  | 0, _, _ => False
  | n + 1, x1, x2 => ((4 ≤ x2) → post x1) ∧ (¬ (4 ≤ x2) → vp_in x2 4 ∧ (∀ y_3 : Int32, y_3 = (x1 + (t_numbers x2.toNatClampNeg)) → VX7_lengthDifference_4 post t_numbers n y_3 (x2 + 1)))
def VX7_lengthDifference (post : Int32 → Prop)  (t_numbers : Nat → Int32)  : Prop := ∃ n4 : Nat, VX7_lengthDifference_4 post t_numbers n4 0 0
set_option maxHeartbeats 4000000 in
set_option maxRecDepth 100000 in
theorem wX7_lengthDifference_4 {p : Program} (l : Launch) {e : Env} {s : State} {m : MethodId} {args : Array Value} {below : List Frame} {meth : Method} {c : Code} {dC : Nat → ClassId} {dI : Nat → Nat → Nat} {cy : Nat → ClassId} {A : Nat → Prop} (h : Nat → Nat) (post : Int32 → Prop)   (t_numbers : Nat → Int32)  (C0 : cx p s m args meth c cX7_lengthDifference 3 (some .int) wsX7_lengthDifference RX7 dC dI cy A)  : ∀ (n : Nat) (x1 : Int32) (x2 : Int32), VX7_lengthDifference_4 post t_numbers n x1 x2 → ∀ (H : Heap) (locs : List Loc) (ls : Array Slot), va_P (dC, dI) vwCl (pX7_lengthDifference cy h t_numbers) H → va_D A (pX7_lengthDifference cy h t_numbers) → va_S A s.heap H locs → lv_has ls 3 [(0, .ref (h 0)), (1, .int x1), (2, .int x2)] → W p l e rX7_lengthDifference s m args below meth c H locs 0 0 (MQ below (va_Qi (fun (r : Int32) (_ : Unit) => post r) (fun (_ : Unit) (t : State) => va_P (dC, dI) vwCl (pX7_lengthDifference cy h t_numbers) t.heap) A) args s 0 0 A) (F0 m 4 ls []) := by
  have C1 := C0
  obtain ⟨hx, hb, hr, hml, hown, hts, hlocks, hK, hA⟩ := C1
  intro n
  induction n with
  | zero => intro x1 x2 hv; exact hv.elim
  | succ n ih =>
    intro x1 x2 hv H locs ls hP hD hS hl
    refine lv_iload_n hx hb dX7_lengthDifference_4 rfl (lv_at hl 2 rfl) ?_
    refine lv_iconst (v := 4) hx hb dX7_lengthDifference_5 (by decide) ?_
    refine lv_icmp_ge (tgt := 24) hx hb dX7_lengthDifference_6 (by decide) (fun c_4 => ?_) (fun c_4 => ?_)
    · have hv := hv.1 c_4
      refine lv_iload_n hx hb dX7_lengthDifference_24 rfl (lv_at hl 1 rfl) ?_
      exact W.iret (v := x1) hx hb hr (fun t ht hW => ⟨⟨x1, (), rfl, hv, va_Ph ht hP⟩, hS.F ht⟩) hS.2.2 dX7_lengthDifference_25
    · have hv := hv.2 c_4
      refine lv_iload_n hx hb dX7_lengthDifference_9 rfl (lv_at hl 1 rfl) ?_
      refine lv_aload_n hx hb dX7_lengthDifference_10 rfl (lv_at hl 0 rfl) ?_
      refine va_get (D := (dC, dI)) (ci := 7) (v := .ref (h 1)) (C := RX7) (T := TX7) (N := 2) hx hb hts nX7_lengthDifference_X7 hown hK hP 0 rfl rfl 1 (by decide) (hts _ mX7_lengthDifference_1) (fun _ h9 => h9) rfl dX7_lengthDifference_11 ?_
      refine lv_iload_n hx hb dX7_lengthDifference_14 rfl (lv_at hl 2 rfl) ?_
      have h_2 := hv.1
      have hv := hv.2
      refine va_iald hx hb hK hP 1 0 rfl rfl h_2 dX7_lengthDifference_15 ?_
      refine lv_iadd hx hb dX7_lengthDifference_16 ?_
      refine lv_topi (fun y_3 ey_3 => ?_)
      have hv := hv y_3 ey_3
      refine lv_istore_n (lv' := [(1, .int y_3), (0, .ref (h 0)), (2, .int x2)]) hx hb dX7_lengthDifference_17 rfl hl (by decide) rfl (fun ls hl => ?_)
      refine lv_iinc (v := (x2 + 1)) (lv' := [(2, .int ((x2 + 1))), (1, .int y_3), (0, .ref (h 0))]) hx hb dX7_lengthDifference_18 hl (k := 2) rfl rfl (by decide) rfl (fun ls hl => ?_)
      refine lv_goto (tgt := 4) hx hb dX7_lengthDifference_21 (by decide) ?_
      exact ih y_3 (x2 + 1) hv _ _ _ hP hD hS (lv_sub hl [2, 1, 0] rfl)
set_option maxHeartbeats 4000000 in
set_option maxRecDepth 100000 in
theorem wX7_lengthDifference_0 {p : Program} (l : Launch) {e : Env} {s : State} {m : MethodId} {args : Array Value} {below : List Frame} {meth : Method} {c : Code} {dC : Nat → ClassId} {dI : Nat → Nat → Nat} {cy : Nat → ClassId} {A : Nat → Prop} (h : Nat → Nat) (post : Int32 → Prop)   (t_numbers : Nat → Int32)  (C0 : cx p s m args meth c cX7_lengthDifference 3 (some .int) wsX7_lengthDifference RX7 dC dI cy A)  : VX7_lengthDifference post t_numbers  → ∀ (H : Heap) (locs : List Loc) (ls : Array Slot), va_P (dC, dI) vwCl (pX7_lengthDifference cy h t_numbers) H → va_D A (pX7_lengthDifference cy h t_numbers) → va_S A s.heap H locs → lv_has ls 3 [(0, .ref (h 0))] → W p l e rX7_lengthDifference s m args below meth c H locs 0 0 (MQ below (va_Qi (fun (r : Int32) (_ : Unit) => post r) (fun (_ : Unit) (t : State) => va_P (dC, dI) vwCl (pX7_lengthDifference cy h t_numbers) t.heap) A) args s 0 0 A) (F0 m 0 ls []) := by
  have C1 := C0
  obtain ⟨hx, hb, hr, hml, hown, hts, hlocks, hK, hA⟩ := C1
  intro  hv H locs ls hP hD hS hl
  refine lv_iconst (v := 0) hx hb dX7_lengthDifference_0 (by decide) ?_
  refine lv_istore_n (lv' := [(1, .int 0), (0, .ref (h 0))]) hx hb dX7_lengthDifference_1 rfl hl (by decide) rfl (fun ls hl => ?_)
  refine lv_iconst (v := 0) hx hb dX7_lengthDifference_2 (by decide) ?_
  refine lv_istore_n (lv' := [(2, .int 0), (1, .int 0), (0, .ref (h 0))]) hx hb dX7_lengthDifference_3 rfl hl (by decide) rfl (fun ls hl => ?_)
  obtain ⟨n_1, hv⟩ := hv
  exact wX7_lengthDifference_4 l h post  t_numbers C0 n_1 0 0 hv _ _ _ hP hD hS (lv_sub hl [2, 1, 0] rfl)
theorem kX7_lengthDifference (l : Launch) (dC : Nat → ClassId) (dI : Nat → Nat → Nat) (cy : Nat → ClassId) (h : Nat → Nat) (t_numbers : Nat → Int32)  (post : Int32 → Prop) (hv : VX7_lengthDifference post t_numbers ) : CtI l yX7_lengthDifference wsX7_lengthDifference rX7_lengthDifference dC dI cy [.ref (h 0)] (pX7_lengthDifference cy h t_numbers) (fun (_ : Unit) => pX7_lengthDifference cy h t_numbers) (fun (r : Int32) (_ : Unit) => post r) :=
  ct_ofI (by decide) rfl (Nat.le_of_ble_eq_true rfl) (fun p e s m below meth c A ls C0 hP hD hS hl => wX7_lengthDifference_0 l h post t_numbers C0  hv _ _ _ hP hD hS hl)
theorem mX1_put_1 : (Cond.fieldLink RX1 15 "AbelianPowers$Input" "size" "I") ∈ wsX1_put := List.mem_of_getElem? (i := 1) rfl
theorem mX1_put_2 : (Cond.fieldLink RX1 9 "AbelianPowers$Input" "bytes" "[I") ∈ wsX1_put := List.mem_of_getElem? (i := 2) rfl
theorem nX1_put_X1 : ∀ w ∈ wsX10, w ∈ wsX1_put := fun _ h => List.mem_cons_of_mem _ (List.mem_append_right _ h)
theorem zX1_put : yX1_put.cls = RX1 ∧ yX1_put.cls ≠ "java/lang/invoke/MethodHandle" ∧ yX1_put.cls ≠ "java/lang/invoke/VarHandle" ∧ (parseMethodDescriptor yX1_put.desc).map (fun d => d.parameters.length) = some 1 := by decide +kernel
abbrev rX1_put : Room := { frames := 0, cells := 0, slots := 0, locals := 0 }
abbrev pX1_put (cy : Nat → ClassId) (h : Nat → Nat) (t_bytes : Nat → Int32) (t_size : Int32) : va_W := [(h 0, .inr (1, [.ref (h 1), .int t_size])), (h 1, .inl (cy 0, 16, .inl t_bytes))]
def VX1_put (post : (Nat → Int32) → Int32 → Prop)  (p1 : Int32) (t_bytes : Nat → Int32) (t_size : Int32) : Prop := ((16 ≤ t_size) → post t_bytes t_size) ∧ (¬ (16 ≤ t_size) → vp_in t_size 16 ∧ (post (upd t_bytes t_size.toNatClampNeg p1) (t_size + 1)))
set_option maxHeartbeats 4000000 in
set_option maxRecDepth 100000 in
theorem wX1_put_0 {p : Program} (l : Launch) {e : Env} {s : State} {m : MethodId} {args : Array Value} {below : List Frame} {meth : Method} {c : Code} {dC : Nat → ClassId} {dI : Nat → Nat → Nat} {cy : Nat → ClassId} {A : Nat → Prop} (h : Nat → Nat) (post : (Nat → Int32) → Int32 → Prop)    (p1 : Int32) (C0 : cx p s m args meth c cX1_put 2 none wsX1_put RX1 dC dI cy A)  : ∀ (t_bytes : Nat → Int32) (t_size : Int32), VX1_put post p1 t_bytes t_size → ∀ (H : Heap) (locs : List Loc) (ls : Array Slot), va_P (dC, dI) vwCl (pX1_put cy h t_bytes t_size) H → va_D A (pX1_put cy h t_bytes t_size) → va_S A s.heap H locs → lv_has ls 2 [(0, .ref (h 0)), (1, .int p1)] → W p l e rX1_put s m args below meth c H locs 0 0 (MQ below (va_Qv (fun (u : (Nat → Int32) × Int32) => post u.1 u.2) (fun (u : (Nat → Int32) × Int32) (t : State) => va_P (dC, dI) vwCl (pX1_put cy h u.1 u.2) t.heap) A) args s 0 0 A) (F0 m 0 ls []) := by
  have C1 := C0
  obtain ⟨hx, hb, hr, hml, hown, hts, hlocks, hK, hA⟩ := C1
  intro t_bytes t_size hv H locs ls hP hD hS hl
  refine lv_aload_n hx hb dX1_put_0 rfl (lv_at hl 0 rfl) ?_
  refine va_get (D := (dC, dI)) (ci := 1) (v := .int t_size) (C := RX1) (T := TX1) (N := 2) hx hb hts nX1_put_X1 hown hK hP 0 rfl rfl 1 (by decide) (hts _ mX1_put_1) (fun _ h9 => h9) rfl dX1_put_1 ?_
  refine lv_bipush (v := 16) hx hb dX1_put_4 (by decide) ?_
  refine lv_icmp_ge (tgt := 29) hx hb dX1_put_6 (by decide) (fun c_2 => ?_) (fun c_2 => ?_)
  · have hv := hv.1 c_2
    exact W.vret hx hb hr (fun t ht hW => ⟨⟨(t_bytes, t_size), rfl, hv, va_Ph ht hP⟩, hS.F ht⟩) hS.2.2 dX1_put_29
  · have hv := hv.2 c_2
    refine lv_aload_n hx hb dX1_put_9 rfl (lv_at hl 0 rfl) ?_
    refine va_get (D := (dC, dI)) (ci := 1) (v := .ref (h 1)) (C := RX1) (T := TX1) (N := 2) hx hb hts nX1_put_X1 hown hK hP 0 rfl rfl 0 (by decide) (hts _ mX1_put_2) (fun _ h9 => h9) rfl dX1_put_10 ?_
    refine lv_aload_n hx hb dX1_put_13 rfl (lv_at hl 0 rfl) ?_
    refine va_get (D := (dC, dI)) (ci := 1) (v := .int t_size) (C := RX1) (T := TX1) (N := 2) hx hb hts nX1_put_X1 hown hK hP 0 rfl rfl 1 (by decide) (hts _ mX1_put_1) (fun _ h9 => h9) rfl dX1_put_14 ?_
    refine lv_iload_n hx hb dX1_put_17 rfl (lv_at hl 1 rfl) ?_
    have h_1 := hv.1
    have hv := hv.2
    refine va_iast hx hb hK hP hD hS 1 0 rfl rfl h_1 dX1_put_18 (fun H locs hP hD hS => ?_)
    have hP : va_P (dC, dI) vwCl (pX1_put cy h (upd t_bytes t_size.toNatClampNeg p1) t_size) H := hP
    have hD : va_D A (pX1_put cy h (upd t_bytes t_size.toNatClampNeg p1) t_size) := hD
    refine lv_aload_n hx hb dX1_put_19 rfl (lv_at hl 0 rfl) ?_
    refine lv_dup hx hb dX1_put_20 rfl ?_
    refine va_get (D := (dC, dI)) (ci := 1) (v := .int t_size) (C := RX1) (T := TX1) (N := 2) hx hb hts nX1_put_X1 hown hK hP 0 rfl rfl 1 (by decide) (hts _ mX1_put_1) (fun _ h9 => h9) rfl dX1_put_21 ?_
    refine lv_iconst (v := 1) hx hb dX1_put_24 (by decide) ?_
    refine lv_iadd hx hb dX1_put_25 ?_
    refine va_put (D := (dC, dI)) (ci := 1) (v := .int (t_size + 1)) (ty := .int) (C := RX1) (T := TX1) (N := 2) hx hb hts nX1_put_X1 tyX1 tyX1_ok nmX1 hown hK hP hD hS 0 rfl rfl 1 (by decide) (hts _ mX1_put_1) (fun _ h9 => h9) rfl (by decide +kernel) rfl rfl (Nat.le_of_ble_eq_true rfl) dX1_put_26 (fun H locs hP hD hS => ?_)
    have hP : va_P (dC, dI) vwCl (pX1_put cy h (upd t_bytes t_size.toNatClampNeg p1) (t_size + 1)) H := hP
    have hD : va_D A (pX1_put cy h (upd t_bytes t_size.toNatClampNeg p1) (t_size + 1)) := hD
    exact W.vret hx hb hr (fun t ht hW => ⟨⟨((upd t_bytes t_size.toNatClampNeg p1), (t_size + 1)), rfl, hv, va_Ph ht hP⟩, hS.F ht⟩) hS.2.2 dX1_put_29
theorem kX1_put (l : Launch) (dC : Nat → ClassId) (dI : Nat → Nat → Nat) (cy : Nat → ClassId) (h : Nat → Nat) (t_bytes : Nat → Int32) (t_size : Int32) (p1 : Int32) (post : (Nat → Int32) → Int32 → Prop) (hv : VX1_put post p1 t_bytes t_size) : CtV l yX1_put wsX1_put rX1_put dC dI cy [.ref (h 0), .int p1] (pX1_put cy h t_bytes t_size) (fun (u : (Nat → Int32) × Int32) => pX1_put cy h u.1 u.2) (fun (u : (Nat → Int32) × Int32) => post u.1 u.2) :=
  ct_ofV (by decide) rfl (Nat.le_of_ble_eq_true rfl) (fun p e s m below meth c A ls C0 hP hD hS hl => wX1_put_0 l h post p1 C0 t_bytes t_size hv _ _ _ hP hD hS hl)
theorem mX1_byteAt_1 : (Cond.fieldLink RX1 15 "AbelianPowers$Input" "size" "I") ∈ wsX1_byteAt := List.mem_of_getElem? (i := 1) rfl
theorem mX1_byteAt_2 : (Cond.fieldLink RX1 9 "AbelianPowers$Input" "bytes" "[I") ∈ wsX1_byteAt := List.mem_of_getElem? (i := 2) rfl
theorem nX1_byteAt_X1 : ∀ w ∈ wsX10, w ∈ wsX1_byteAt := fun _ h => List.mem_cons_of_mem _ (List.mem_append_right _ h)
theorem zX1_byteAt : yX1_byteAt.cls = RX1 ∧ yX1_byteAt.cls ≠ "java/lang/invoke/MethodHandle" ∧ yX1_byteAt.cls ≠ "java/lang/invoke/VarHandle" ∧ (parseMethodDescriptor yX1_byteAt.desc).map (fun d => d.parameters.length) = some 1 := by decide +kernel
abbrev rX1_byteAt : Room := { frames := 0, cells := 0, slots := 0, locals := 0 }
abbrev pX1_byteAt (cy : Nat → ClassId) (h : Nat → Nat) (t_bytes : Nat → Int32) (t_size : Int32) : va_W := [(h 0, .inr (1, [.ref (h 1), .int t_size])), (h 1, .inl (cy 0, 16, .inl t_bytes))]
def VX1_byteAt (post : Int32 → Prop)  (t_bytes : Nat → Int32) (t_size : Int32) (p1 : Int32)  : Prop := ((p1 < 0) → post (0 : Int32)) ∧ (¬ (p1 < 0) → ((t_size ≤ p1) → post (0 : Int32)) ∧ (¬ (t_size ≤ p1) → vp_in p1 16 ∧ (post (t_bytes p1.toNatClampNeg))))
set_option maxHeartbeats 4000000 in
set_option maxRecDepth 100000 in
theorem wX1_byteAt_0 {p : Program} (l : Launch) {e : Env} {s : State} {m : MethodId} {args : Array Value} {below : List Frame} {meth : Method} {c : Code} {dC : Nat → ClassId} {dI : Nat → Nat → Nat} {cy : Nat → ClassId} {A : Nat → Prop} (h : Nat → Nat) (post : Int32 → Prop)   (t_bytes : Nat → Int32) (t_size : Int32) (p1 : Int32) (C0 : cx p s m args meth c cX1_byteAt 2 (some .int) wsX1_byteAt RX1 dC dI cy A)  : VX1_byteAt post t_bytes t_size p1  → ∀ (H : Heap) (locs : List Loc) (ls : Array Slot), va_P (dC, dI) vwCl (pX1_byteAt cy h t_bytes t_size) H → va_D A (pX1_byteAt cy h t_bytes t_size) → va_S A s.heap H locs → lv_has ls 2 [(0, .ref (h 0)), (1, .int p1)] → W p l e rX1_byteAt s m args below meth c H locs 0 0 (MQ below (va_Qi (fun (r : Int32) (_ : Unit) => post r) (fun (_ : Unit) (t : State) => va_P (dC, dI) vwCl (pX1_byteAt cy h t_bytes t_size) t.heap) A) args s 0 0 A) (F0 m 0 ls []) := by
  have C1 := C0
  obtain ⟨hx, hb, hr, hml, hown, hts, hlocks, hK, hA⟩ := C1
  intro  hv H locs ls hP hD hS hl
  refine lv_iload_n hx hb dX1_byteAt_0 rfl (lv_at hl 1 rfl) ?_
  refine lv_if_lt (tgt := 21) hx hb dX1_byteAt_1 (by decide) (fun c_3 => ?_) (fun c_3 => ?_)
  · have hv := hv.1 c_3
    refine lv_iconst (v := 0) hx hb dX1_byteAt_21 (by decide) ?_
    exact W.iret (v := 0) hx hb hr (fun t ht hW => ⟨⟨0, (), rfl, hv, va_Ph ht hP⟩, hS.F ht⟩) hS.2.2 dX1_byteAt_22
  · have hv := hv.2 c_3
    refine lv_iload_n hx hb dX1_byteAt_4 rfl (lv_at hl 1 rfl) ?_
    refine lv_aload_n hx hb dX1_byteAt_5 rfl (lv_at hl 0 rfl) ?_
    refine va_get (D := (dC, dI)) (ci := 1) (v := .int t_size) (C := RX1) (T := TX1) (N := 2) hx hb hts nX1_byteAt_X1 hown hK hP 0 rfl rfl 1 (by decide) (hts _ mX1_byteAt_1) (fun _ h9 => h9) rfl dX1_byteAt_6 ?_
    refine lv_icmp_ge (tgt := 21) hx hb dX1_byteAt_9 (by decide) (fun c_2 => ?_) (fun c_2 => ?_)
    · have hv := hv.1 c_2
      refine lv_iconst (v := 0) hx hb dX1_byteAt_21 (by decide) ?_
      exact W.iret (v := 0) hx hb hr (fun t ht hW => ⟨⟨0, (), rfl, hv, va_Ph ht hP⟩, hS.F ht⟩) hS.2.2 dX1_byteAt_22
    · have hv := hv.2 c_2
      refine lv_aload_n hx hb dX1_byteAt_12 rfl (lv_at hl 0 rfl) ?_
      refine va_get (D := (dC, dI)) (ci := 1) (v := .ref (h 1)) (C := RX1) (T := TX1) (N := 2) hx hb hts nX1_byteAt_X1 hown hK hP 0 rfl rfl 0 (by decide) (hts _ mX1_byteAt_2) (fun _ h9 => h9) rfl dX1_byteAt_13 ?_
      refine lv_iload_n hx hb dX1_byteAt_16 rfl (lv_at hl 1 rfl) ?_
      have h_1 := hv.1
      have hv := hv.2
      refine va_iald hx hb hK hP 1 0 rfl rfl h_1 dX1_byteAt_17 ?_
      refine lv_goto (tgt := 22) hx hb dX1_byteAt_18 (by decide) ?_
      exact W.iret (v := (t_bytes p1.toNatClampNeg)) hx hb hr (fun t ht hW => ⟨⟨(t_bytes p1.toNatClampNeg), (), rfl, hv, va_Ph ht hP⟩, hS.F ht⟩) hS.2.2 dX1_byteAt_22
theorem kX1_byteAt (l : Launch) (dC : Nat → ClassId) (dI : Nat → Nat → Nat) (cy : Nat → ClassId) (h : Nat → Nat) (t_bytes : Nat → Int32) (t_size : Int32) (p1 : Int32) (post : Int32 → Prop) (hv : VX1_byteAt post t_bytes t_size p1 ) : CtI l yX1_byteAt wsX1_byteAt rX1_byteAt dC dI cy [.ref (h 0), .int p1] (pX1_byteAt cy h t_bytes t_size) (fun (_ : Unit) => pX1_byteAt cy h t_bytes t_size) (fun (r : Int32) (_ : Unit) => post r) :=
  ct_ofI (by decide) rfl (Nat.le_of_ble_eq_true rfl) (fun p e s m below meth c A ls C0 hP hD hS hl => wX1_byteAt_0 l h post t_bytes t_size p1 C0  hv _ _ _ hP hD hS hl)
theorem zX1_digitAt : yX1_digitAt.cls = RX1 ∧ yX1_digitAt.cls ≠ "java/lang/invoke/MethodHandle" ∧ yX1_digitAt.cls ≠ "java/lang/invoke/VarHandle" ∧ (parseMethodDescriptor yX1_digitAt.desc).map (fun d => d.parameters.length) = some 1 := by decide +kernel
abbrev rX1_digitAt : Room := { frames := 1, cells := 0, slots := 0, locals := 21 }
abbrev pX1_digitAt (cy : Nat → ClassId) (h : Nat → Nat) (t_bytes : Nat → Int32) (t_size : Int32) : va_W := [(h 0, .inr (1, [.ref (h 1), .int t_size])), (h 1, .inl (cy 0, 16, .inl t_bytes))]
def VX1_digitAt (post : Int32 → Prop)  (t_bytes : Nat → Int32) (t_size : Int32) (p1 : Int32)  : Prop := VX1_byteAt (fun r_1 => ((r_1 < 50) → post (0 : Int32)) ∧ (¬ (r_1 < 50) → ((52 < r_1) → post (0 : Int32)) ∧ (¬ (52 < r_1) → post (r_1 - 48)))) t_bytes t_size p1
set_option maxHeartbeats 4000000 in
set_option maxRecDepth 100000 in
theorem wX1_digitAt_0 {p : Program} (l : Launch) {e : Env} {s : State} {m : MethodId} {args : Array Value} {below : List Frame} {meth : Method} {c : Code} {dC : Nat → ClassId} {dI : Nat → Nat → Nat} {cy : Nat → ClassId} {A : Nat → Prop} (h : Nat → Nat) (post : Int32 → Prop)   (t_bytes : Nat → Int32) (t_size : Int32) (p1 : Int32) (C0 : cx p s m args meth c cX1_digitAt 3 (some .int) wsX1_digitAt RX1 dC dI cy A)  : VX1_digitAt post t_bytes t_size p1  → ∀ (H : Heap) (locs : List Loc) (ls : Array Slot), va_P (dC, dI) vwCl (pX1_digitAt cy h t_bytes t_size) H → va_D A (pX1_digitAt cy h t_bytes t_size) → va_S A s.heap H locs → lv_has ls 3 [(0, .ref (h 0)), (1, .int p1)] → W p l e rX1_digitAt s m args below meth c H locs 0 0 (MQ below (va_Qi (fun (r : Int32) (_ : Unit) => post r) (fun (_ : Unit) (t : State) => va_P (dC, dI) vwCl (pX1_digitAt cy h t_bytes t_size) t.heap) A) args s 0 0 A) (F0 m 0 ls []) := by
  have C1 := C0
  obtain ⟨hx, hb, hr, hml, hown, hts, hlocks, hK, hA⟩ := C1
  intro  hv H locs ls hP hD hS hl
  refine lv_aload_n hx hb dX1_digitAt_0 rfl (lv_at hl 0 rfl) ?_
  refine lv_iload_n hx hb dX1_digitAt_1 rfl (lv_at hl 1 rfl) ?_
  refine cb_VI (As := [.int p1]) (rest := []) ⟨hx, hb, hml, hown, hts⟩ (kX1_byteAt l dC dI cy (adl [h 0, h 1]) t_bytes t_size p1 _ hv) (cwV 1 hts gX1_digitAt_X1_byteAt rfl rfl rfl zX1_byteAt ⟨Nat.le_of_ble_eq_true rfl, Nat.le_of_ble_eq_true rfl⟩) hK hP hD hS hA [0, 1] [some 0, some 1] rfl rfl rfl (ci := 1) rfl rfl (fun _ => rfl) rfl hl.1 rfl (Nat.le_of_ble_eq_true rfl) dX1_digitAt_2 (fun r_1 w_4 H locs hv hP hD hS => ?_)
  have hP : va_P (dC, dI) vwCl (pX1_digitAt cy h t_bytes t_size) H := hP
  have hD : va_D A (pX1_digitAt cy h t_bytes t_size) := hD
  refine lv_istore_n (lv' := [(2, .int r_1), (0, .ref (h 0)), (1, .int p1)]) hx hb dX1_digitAt_5 rfl hl (by decide) rfl (fun ls hl => ?_)
  refine lv_iload_n hx hb dX1_digitAt_6 rfl (lv_at hl 0 rfl) ?_
  refine lv_bipush (v := 50) hx hb dX1_digitAt_7 (by decide) ?_
  refine lv_icmp_lt (tgt := 25) hx hb dX1_digitAt_9 (by decide) (fun c_3 => ?_) (fun c_3 => ?_)
  · have hv := hv.1 c_3
    refine lv_iconst (v := 0) hx hb dX1_digitAt_25 (by decide) ?_
    exact W.iret (v := 0) hx hb hr (fun t ht hW => ⟨⟨0, (), rfl, hv, va_Ph ht hP⟩, hS.F ht⟩) hS.2.2 dX1_digitAt_26
  · have hv := hv.2 c_3
    refine lv_iload_n hx hb dX1_digitAt_12 rfl (lv_at hl 0 rfl) ?_
    refine lv_bipush (v := 52) hx hb dX1_digitAt_13 (by decide) ?_
    refine lv_icmp_gt (tgt := 25) hx hb dX1_digitAt_15 (by decide) (fun c_2 => ?_) (fun c_2 => ?_)
    · have hv := hv.1 c_2
      refine lv_iconst (v := 0) hx hb dX1_digitAt_25 (by decide) ?_
      exact W.iret (v := 0) hx hb hr (fun t ht hW => ⟨⟨0, (), rfl, hv, va_Ph ht hP⟩, hS.F ht⟩) hS.2.2 dX1_digitAt_26
    · have hv := hv.2 c_2
      refine lv_iload_n hx hb dX1_digitAt_18 rfl (lv_at hl 0 rfl) ?_
      refine lv_bipush (v := 48) hx hb dX1_digitAt_19 (by decide) ?_
      refine lv_isub hx hb dX1_digitAt_21 ?_
      refine lv_goto (tgt := 26) hx hb dX1_digitAt_22 (by decide) ?_
      exact W.iret (v := (r_1 - 48)) hx hb hr (fun t ht hW => ⟨⟨(r_1 - 48), (), rfl, hv, va_Ph ht hP⟩, hS.F ht⟩) hS.2.2 dX1_digitAt_26
theorem kX1_digitAt (l : Launch) (dC : Nat → ClassId) (dI : Nat → Nat → Nat) (cy : Nat → ClassId) (h : Nat → Nat) (t_bytes : Nat → Int32) (t_size : Int32) (p1 : Int32) (post : Int32 → Prop) (hv : VX1_digitAt post t_bytes t_size p1 ) : CtI l yX1_digitAt wsX1_digitAt rX1_digitAt dC dI cy [.ref (h 0), .int p1] (pX1_digitAt cy h t_bytes t_size) (fun (_ : Unit) => pX1_digitAt cy h t_bytes t_size) (fun (r : Int32) (_ : Unit) => post r) :=
  ct_ofI (by decide) rfl (Nat.le_of_ble_eq_true rfl) (fun p e s m below meth c A ls C0 hP hD hS hl => wX1_digitAt_0 l h post t_bytes t_size p1 C0  hv _ _ _ hP hD hS hl)
theorem zX1_letterAt : yX1_letterAt.cls = RX1 ∧ yX1_letterAt.cls ≠ "java/lang/invoke/MethodHandle" ∧ yX1_letterAt.cls ≠ "java/lang/invoke/VarHandle" ∧ (parseMethodDescriptor yX1_letterAt.desc).map (fun d => d.parameters.length) = some 2 := by decide +kernel
abbrev rX1_letterAt : Room := { frames := 1, cells := 0, slots := 0, locals := 21 }
abbrev pX1_letterAt (cy : Nat → ClassId) (h : Nat → Nat) (t_bytes : Nat → Int32) (t_size : Int32) : va_W := [(h 0, .inr (1, [.ref (h 1), .int t_size])), (h 1, .inl (cy 0, 16, .inl t_bytes))]
def VX1_letterAt (post : Int32 → Prop)  (t_bytes : Nat → Int32) (t_size : Int32) (p1 : Int32) (p2 : Int32)  : Prop := VX1_byteAt (fun r_1 => (((r_1 - 97) < 0) → post (-1 : Int32)) ∧ (¬ ((r_1 - 97) < 0) → ((p2 ≤ (r_1 - 97)) → post (-1 : Int32)) ∧ (¬ (p2 ≤ (r_1 - 97)) → post (r_1 - 97)))) t_bytes t_size p1
set_option maxHeartbeats 4000000 in
set_option maxRecDepth 100000 in
theorem wX1_letterAt_0 {p : Program} (l : Launch) {e : Env} {s : State} {m : MethodId} {args : Array Value} {below : List Frame} {meth : Method} {c : Code} {dC : Nat → ClassId} {dI : Nat → Nat → Nat} {cy : Nat → ClassId} {A : Nat → Prop} (h : Nat → Nat) (post : Int32 → Prop)   (t_bytes : Nat → Int32) (t_size : Int32) (p1 : Int32) (p2 : Int32) (C0 : cx p s m args meth c cX1_letterAt 4 (some .int) wsX1_letterAt RX1 dC dI cy A)  : VX1_letterAt post t_bytes t_size p1 p2  → ∀ (H : Heap) (locs : List Loc) (ls : Array Slot), va_P (dC, dI) vwCl (pX1_letterAt cy h t_bytes t_size) H → va_D A (pX1_letterAt cy h t_bytes t_size) → va_S A s.heap H locs → lv_has ls 4 [(0, .ref (h 0)), (1, .int p1), (2, .int p2)] → W p l e rX1_letterAt s m args below meth c H locs 0 0 (MQ below (va_Qi (fun (r : Int32) (_ : Unit) => post r) (fun (_ : Unit) (t : State) => va_P (dC, dI) vwCl (pX1_letterAt cy h t_bytes t_size) t.heap) A) args s 0 0 A) (F0 m 0 ls []) := by
  have C1 := C0
  obtain ⟨hx, hb, hr, hml, hown, hts, hlocks, hK, hA⟩ := C1
  intro  hv H locs ls hP hD hS hl
  refine lv_aload_n hx hb dX1_letterAt_0 rfl (lv_at hl 0 rfl) ?_
  refine lv_iload_n hx hb dX1_letterAt_1 rfl (lv_at hl 1 rfl) ?_
  refine cb_VI (As := [.int p1]) (rest := []) ⟨hx, hb, hml, hown, hts⟩ (kX1_byteAt l dC dI cy (adl [h 0, h 1]) t_bytes t_size p1 _ hv) (cwV 1 hts gX1_letterAt_X1_byteAt rfl rfl rfl zX1_byteAt ⟨Nat.le_of_ble_eq_true rfl, Nat.le_of_ble_eq_true rfl⟩) hK hP hD hS hA [0, 1] [some 0, some 1] rfl rfl rfl (ci := 1) rfl rfl (fun _ => rfl) rfl hl.1 rfl (Nat.le_of_ble_eq_true rfl) dX1_letterAt_2 (fun r_1 w_4 H locs hv hP hD hS => ?_)
  have hP : va_P (dC, dI) vwCl (pX1_letterAt cy h t_bytes t_size) H := hP
  have hD : va_D A (pX1_letterAt cy h t_bytes t_size) := hD
  refine lv_bipush (v := 97) hx hb dX1_letterAt_5 (by decide) ?_
  refine lv_isub hx hb dX1_letterAt_7 ?_
  refine lv_istore_n (lv' := [(3, .int ((r_1 - 97))), (0, .ref (h 0)), (1, .int p1), (2, .int p2)]) hx hb dX1_letterAt_8 rfl hl (by decide) rfl (fun ls hl => ?_)
  refine lv_iload_n hx hb dX1_letterAt_9 rfl (lv_at hl 0 rfl) ?_
  refine lv_if_lt (tgt := 22) hx hb dX1_letterAt_10 (by decide) (fun c_3 => ?_) (fun c_3 => ?_)
  · have hv := hv.1 c_3
    refine lv_iconst (v := (-1)) hx hb dX1_letterAt_22 (by decide) ?_
    exact W.iret (v := (-1)) hx hb hr (fun t ht hW => ⟨⟨(-1), (), rfl, hv, va_Ph ht hP⟩, hS.F ht⟩) hS.2.2 dX1_letterAt_23
  · have hv := hv.2 c_3
    refine lv_iload_n hx hb dX1_letterAt_13 rfl (lv_at hl 0 rfl) ?_
    refine lv_iload_n hx hb dX1_letterAt_14 rfl (lv_at hl 3 rfl) ?_
    refine lv_icmp_ge (tgt := 22) hx hb dX1_letterAt_15 (by decide) (fun c_2 => ?_) (fun c_2 => ?_)
    · have hv := hv.1 c_2
      refine lv_iconst (v := (-1)) hx hb dX1_letterAt_22 (by decide) ?_
      exact W.iret (v := (-1)) hx hb hr (fun t ht hW => ⟨⟨(-1), (), rfl, hv, va_Ph ht hP⟩, hS.F ht⟩) hS.2.2 dX1_letterAt_23
    · have hv := hv.2 c_2
      refine lv_iload_n hx hb dX1_letterAt_18 rfl (lv_at hl 0 rfl) ?_
      refine lv_goto (tgt := 23) hx hb dX1_letterAt_19 (by decide) ?_
      exact W.iret (v := (r_1 - 97)) hx hb hr (fun t ht hW => ⟨⟨(r_1 - 97), (), rfl, hv, va_Ph ht hP⟩, hS.F ht⟩) hS.2.2 dX1_letterAt_23
theorem kX1_letterAt (l : Launch) (dC : Nat → ClassId) (dI : Nat → Nat → Nat) (cy : Nat → ClassId) (h : Nat → Nat) (t_bytes : Nat → Int32) (t_size : Int32) (p1 : Int32) (p2 : Int32) (post : Int32 → Prop) (hv : VX1_letterAt post t_bytes t_size p1 p2 ) : CtI l yX1_letterAt wsX1_letterAt rX1_letterAt dC dI cy [.ref (h 0), .int p1, .int p2] (pX1_letterAt cy h t_bytes t_size) (fun (_ : Unit) => pX1_letterAt cy h t_bytes t_size) (fun (r : Int32) (_ : Unit) => post r) :=
  ct_ofI (by decide) rfl (Nat.le_of_ble_eq_true rfl) (fun p e s m below meth c A ls C0 hP hD hS hl => wX1_letterAt_0 l h post t_bytes t_size p1 p2 C0  hv _ _ _ hP hD hS hl)
theorem mX1_imageFault_1 : (Cond.fieldLink RX1 15 "AbelianPowers$Input" "size" "I") ∈ wsX1_imageFault := List.mem_of_getElem? (i := 1) rfl
theorem nX1_imageFault_X1 : ∀ w ∈ wsX10, w ∈ wsX1_imageFault := fun _ h => List.mem_cons_of_mem _ (List.mem_append_right _ h)
theorem zX1_imageFault : yX1_imageFault.cls = RX1 ∧ yX1_imageFault.cls ≠ "java/lang/invoke/MethodHandle" ∧ yX1_imageFault.cls ≠ "java/lang/invoke/VarHandle" ∧ (parseMethodDescriptor yX1_imageFault.desc).map (fun d => d.parameters.length) = some 1 := by decide +kernel
abbrev rX1_imageFault : Room := { frames := 2, cells := 0, slots := 0, locals := 44 }
abbrev pX1_imageFault (cy : Nat → ClassId) (h : Nat → Nat) (t_bytes : Nat → Int32) (t_size : Int32) : va_W := [(h 0, .inr (1, [.ref (h 1), .int t_size])), (h 1, .inl (cy 0, 16, .inl t_bytes))]
def VX1_imageFault_48 (post : Int32 → Prop)  (t_bytes : Nat → Int32) (t_size : Int32) (p1 : Int32) (x2 : Int32) : Prop := ((x2 = 2) → post x2) ∧ (¬ (x2 = 2) → ((t_size ≤ x2) → post (-1 : Int32)) ∧ (¬ (t_size ≤ x2) → post x2))
def VX1_imageFault_26 (post : Int32 → Prop)  (t_bytes : Nat → Int32) (t_size : Int32) (p1 : Int32) : Nat → Int32 → Prop
  | 0, _ => False
  | n + 1, x2 => ((6 ≤ x2) → VX1_imageFault_48 post t_bytes t_size p1 x2) ∧ (¬ (6 ≤ x2) → VX1_letterAt (fun r_8 => ((r_8 = (-1)) → VX1_imageFault_48 post t_bytes t_size p1 x2) ∧ (¬ (r_8 = (-1)) → VX1_imageFault_26 post t_bytes t_size p1 n (x2 + 1))) t_bytes t_size x2 p1)
def VX1_imageFault (post : Int32 → Prop)  (t_bytes : Nat → Int32) (t_size : Int32) (p1 : Int32)  : Prop := VX1_letterAt (fun r_1 => (¬ (r_1 = (-1)) → VX1_byteAt (fun r_2 => ((r_2 = 58) → ∃ n26 : Nat, VX1_imageFault_26 post t_bytes t_size p1 n26 2) ∧ (¬ (r_2 = 58) → post (1 : Int32))) t_bytes t_size 1) ∧ ((r_1 = (-1)) → post (0 : Int32))) t_bytes t_size 0 p1
set_option maxHeartbeats 4000000 in
set_option maxRecDepth 100000 in
theorem wX1_imageFault_48 {p : Program} (l : Launch) {e : Env} {s : State} {m : MethodId} {args : Array Value} {below : List Frame} {meth : Method} {c : Code} {dC : Nat → ClassId} {dI : Nat → Nat → Nat} {cy : Nat → ClassId} {A : Nat → Prop} (h : Nat → Nat) (post : Int32 → Prop)   (t_bytes : Nat → Int32) (t_size : Int32) (p1 : Int32) (C0 : cx p s m args meth c cX1_imageFault 3 (some .int) wsX1_imageFault RX1 dC dI cy A)  : ∀ (x2 : Int32), VX1_imageFault_48 post t_bytes t_size p1 x2 → ∀ (H : Heap) (locs : List Loc) (ls : Array Slot), va_P (dC, dI) vwCl (pX1_imageFault cy h t_bytes t_size) H → va_D A (pX1_imageFault cy h t_bytes t_size) → va_S A s.heap H locs → lv_has ls 3 [(0, .ref (h 0)), (2, .int x2)] → W p l e rX1_imageFault s m args below meth c H locs 0 0 (MQ below (va_Qi (fun (r : Int32) (_ : Unit) => post r) (fun (_ : Unit) (t : State) => va_P (dC, dI) vwCl (pX1_imageFault cy h t_bytes t_size) t.heap) A) args s 0 0 A) (F0 m 48 ls []) := by
  have C1 := C0
  obtain ⟨hx, hb, hr, hml, hown, hts, hlocks, hK, hA⟩ := C1
  intro x2 hv H locs ls hP hD hS hl
  refine lv_iload_n hx hb dX1_imageFault_48 rfl (lv_at hl 1 rfl) ?_
  refine lv_iconst (v := 2) hx hb dX1_imageFault_49 (by decide) ?_
  refine lv_icmp_eq (tgt := 61) hx hb dX1_imageFault_50 (by decide) (fun c_13 => ?_) (fun c_13 => ?_)
  · have hv := hv.1 c_13
    refine lv_iload_n hx hb dX1_imageFault_61 rfl (lv_at hl 1 rfl) ?_
    refine lv_goto (tgt := 66) hx hb dX1_imageFault_62 (by decide) ?_
    exact W.iret (v := x2) hx hb hr (fun t ht hW => ⟨⟨x2, (), rfl, hv, va_Ph ht hP⟩, hS.F ht⟩) hS.2.2 dX1_imageFault_66
  · have hv := hv.2 c_13
    refine lv_iload_n hx hb dX1_imageFault_53 rfl (lv_at hl 1 rfl) ?_
    refine lv_aload_n hx hb dX1_imageFault_54 rfl (lv_at hl 0 rfl) ?_
    refine va_get (D := (dC, dI)) (ci := 1) (v := .int t_size) (C := RX1) (T := TX1) (N := 2) hx hb hts nX1_imageFault_X1 hown hK hP 0 rfl rfl 1 (by decide) (hts _ mX1_imageFault_1) (fun _ h9 => h9) rfl dX1_imageFault_55 ?_
    refine lv_icmp_ge (tgt := 65) hx hb dX1_imageFault_58 (by decide) (fun c_12 => ?_) (fun c_12 => ?_)
    · have hv := hv.1 c_12
      refine lv_iconst (v := (-1)) hx hb dX1_imageFault_65 (by decide) ?_
      exact W.iret (v := (-1)) hx hb hr (fun t ht hW => ⟨⟨(-1), (), rfl, hv, va_Ph ht hP⟩, hS.F ht⟩) hS.2.2 dX1_imageFault_66
    · have hv := hv.2 c_12
      refine lv_iload_n hx hb dX1_imageFault_61 rfl (lv_at hl 1 rfl) ?_
      refine lv_goto (tgt := 66) hx hb dX1_imageFault_62 (by decide) ?_
      exact W.iret (v := x2) hx hb hr (fun t ht hW => ⟨⟨x2, (), rfl, hv, va_Ph ht hP⟩, hS.F ht⟩) hS.2.2 dX1_imageFault_66
set_option maxHeartbeats 4000000 in
set_option maxRecDepth 100000 in
theorem wX1_imageFault_26 {p : Program} (l : Launch) {e : Env} {s : State} {m : MethodId} {args : Array Value} {below : List Frame} {meth : Method} {c : Code} {dC : Nat → ClassId} {dI : Nat → Nat → Nat} {cy : Nat → ClassId} {A : Nat → Prop} (h : Nat → Nat) (post : Int32 → Prop)   (t_bytes : Nat → Int32) (t_size : Int32) (p1 : Int32) (C0 : cx p s m args meth c cX1_imageFault 3 (some .int) wsX1_imageFault RX1 dC dI cy A)  : ∀ (n : Nat) (x2 : Int32), VX1_imageFault_26 post t_bytes t_size p1 n x2 → ∀ (H : Heap) (locs : List Loc) (ls : Array Slot), va_P (dC, dI) vwCl (pX1_imageFault cy h t_bytes t_size) H → va_D A (pX1_imageFault cy h t_bytes t_size) → va_S A s.heap H locs → lv_has ls 3 [(0, .ref (h 0)), (1, .int p1), (2, .int x2)] → W p l e rX1_imageFault s m args below meth c H locs 0 0 (MQ below (va_Qi (fun (r : Int32) (_ : Unit) => post r) (fun (_ : Unit) (t : State) => va_P (dC, dI) vwCl (pX1_imageFault cy h t_bytes t_size) t.heap) A) args s 0 0 A) (F0 m 26 ls []) := by
  have C1 := C0
  obtain ⟨hx, hb, hr, hml, hown, hts, hlocks, hK, hA⟩ := C1
  intro n
  induction n with
  | zero => intro x2 hv; exact hv.elim
  | succ n ih =>
    intro x2 hv H locs ls hP hD hS hl
    refine lv_iload_n hx hb dX1_imageFault_26 rfl (lv_at hl 2 rfl) ?_
    refine lv_bipush (v := 6) hx hb dX1_imageFault_27 (by decide) ?_
    refine lv_icmp_ge (tgt := 48) hx hb dX1_imageFault_29 (by decide) (fun c_11 => ?_) (fun c_11 => ?_)
    · have hv := hv.1 c_11
      exact wX1_imageFault_48 l h post  t_bytes t_size p1 C0 x2 hv _ _ _ hP hD hS (lv_sub hl [0, 2] rfl)
    · have hv := hv.2 c_11
      refine lv_aload_n hx hb dX1_imageFault_32 rfl (lv_at hl 0 rfl) ?_
      refine lv_iload_n hx hb dX1_imageFault_33 rfl (lv_at hl 2 rfl) ?_
      refine lv_iload_n hx hb dX1_imageFault_34 rfl (lv_at hl 1 rfl) ?_
      refine cb_VI (As := [.int x2, .int p1]) (rest := []) ⟨hx, hb, hml, hown, hts⟩ (kX1_letterAt l dC dI cy (adl [h 0, h 1]) t_bytes t_size x2 p1 _ hv) (cwV 2 hts gX1_imageFault_X1_letterAt rfl rfl rfl zX1_letterAt ⟨Nat.le_of_ble_eq_true rfl, Nat.le_of_ble_eq_true rfl⟩) hK hP hD hS hA [0, 1] [some 0, some 1] rfl rfl rfl (ci := 1) rfl rfl (fun _ => rfl) rfl hl.1 rfl (Nat.le_of_ble_eq_true rfl) dX1_imageFault_35 (fun r_8 w_10 H locs hv hP hD hS => ?_)
      have hP : va_P (dC, dI) vwCl (pX1_imageFault cy h t_bytes t_size) H := hP
      have hD : va_D A (pX1_imageFault cy h t_bytes t_size) := hD
      refine lv_iconst (v := (-1)) hx hb dX1_imageFault_38 (by decide) ?_
      refine lv_icmp_eq (tgt := 48) hx hb dX1_imageFault_39 (by decide) (fun c_9 => ?_) (fun c_9 => ?_)
      · have hv := hv.1 c_9
        exact wX1_imageFault_48 l h post  t_bytes t_size p1 C0 x2 hv _ _ _ hP hD hS (lv_sub hl [0, 2] rfl)
      · have hv := hv.2 c_9
        refine lv_iinc (v := (x2 + 1)) (lv' := [(2, .int ((x2 + 1))), (0, .ref (h 0)), (1, .int p1)]) hx hb dX1_imageFault_42 hl (k := 2) rfl rfl (by decide) rfl (fun ls hl => ?_)
        refine lv_goto (tgt := 26) hx hb dX1_imageFault_45 (by decide) ?_
        exact ih (x2 + 1) hv _ _ _ hP hD hS (lv_sub hl [1, 2, 0] rfl)
set_option maxHeartbeats 4000000 in
set_option maxRecDepth 100000 in
theorem wX1_imageFault_0 {p : Program} (l : Launch) {e : Env} {s : State} {m : MethodId} {args : Array Value} {below : List Frame} {meth : Method} {c : Code} {dC : Nat → ClassId} {dI : Nat → Nat → Nat} {cy : Nat → ClassId} {A : Nat → Prop} (h : Nat → Nat) (post : Int32 → Prop)   (t_bytes : Nat → Int32) (t_size : Int32) (p1 : Int32) (C0 : cx p s m args meth c cX1_imageFault 3 (some .int) wsX1_imageFault RX1 dC dI cy A)  : VX1_imageFault post t_bytes t_size p1  → ∀ (H : Heap) (locs : List Loc) (ls : Array Slot), va_P (dC, dI) vwCl (pX1_imageFault cy h t_bytes t_size) H → va_D A (pX1_imageFault cy h t_bytes t_size) → va_S A s.heap H locs → lv_has ls 3 [(0, .ref (h 0)), (1, .int p1)] → W p l e rX1_imageFault s m args below meth c H locs 0 0 (MQ below (va_Qi (fun (r : Int32) (_ : Unit) => post r) (fun (_ : Unit) (t : State) => va_P (dC, dI) vwCl (pX1_imageFault cy h t_bytes t_size) t.heap) A) args s 0 0 A) (F0 m 0 ls []) := by
  have C1 := C0
  obtain ⟨hx, hb, hr, hml, hown, hts, hlocks, hK, hA⟩ := C1
  intro  hv H locs ls hP hD hS hl
  refine lv_aload_n hx hb dX1_imageFault_0 rfl (lv_at hl 0 rfl) ?_
  refine lv_iconst (v := 0) hx hb dX1_imageFault_1 (by decide) ?_
  refine lv_iload_n hx hb dX1_imageFault_2 rfl (lv_at hl 1 rfl) ?_
  refine cb_VI (As := [.int 0, .int p1]) (rest := []) ⟨hx, hb, hml, hown, hts⟩ (kX1_letterAt l dC dI cy (adl [h 0, h 1]) t_bytes t_size 0 p1 _ hv) (cwV 2 hts gX1_imageFault_X1_letterAt rfl rfl rfl zX1_letterAt ⟨Nat.le_of_ble_eq_true rfl, Nat.le_of_ble_eq_true rfl⟩) hK hP hD hS hA [0, 1] [some 0, some 1] rfl rfl rfl (ci := 1) rfl rfl (fun _ => rfl) rfl hl.1 rfl (Nat.le_of_ble_eq_true rfl) dX1_imageFault_3 (fun r_1 w_7 H locs hv hP hD hS => ?_)
  have hP : va_P (dC, dI) vwCl (pX1_imageFault cy h t_bytes t_size) H := hP
  have hD : va_D A (pX1_imageFault cy h t_bytes t_size) := hD
  refine lv_iconst (v := (-1)) hx hb dX1_imageFault_6 (by decide) ?_
  refine lv_icmp_ne (tgt := 12) hx hb dX1_imageFault_7 (by decide) (fun c_6 => ?_) (fun c_6 => ?_)
  · have hv := hv.1 c_6
    refine lv_aload_n hx hb dX1_imageFault_12 rfl (lv_at hl 0 rfl) ?_
    refine lv_iconst (v := 1) hx hb dX1_imageFault_13 (by decide) ?_
    refine cb_VI (As := [.int 1]) (rest := []) ⟨hx, hb, hml, hown, hts⟩ (kX1_byteAt l dC dI cy (adl [h 0, h 1]) t_bytes t_size 1 _ hv) (cwV 1 hts gX1_imageFault_X1_byteAt rfl rfl rfl zX1_byteAt ⟨Nat.le_of_ble_eq_true rfl, Nat.le_of_ble_eq_true rfl⟩) hK hP hD hS hA [0, 1] [some 0, some 1] rfl rfl rfl (ci := 1) rfl rfl (fun _ => rfl) rfl hl.1 rfl (Nat.le_of_ble_eq_true rfl) dX1_imageFault_14 (fun r_2 w_5 H locs hv hP hD hS => ?_)
    have hP : va_P (dC, dI) vwCl (pX1_imageFault cy h t_bytes t_size) H := hP
    have hD : va_D A (pX1_imageFault cy h t_bytes t_size) := hD
    refine lv_bipush (v := 58) hx hb dX1_imageFault_17 (by decide) ?_
    refine lv_icmp_eq (tgt := 24) hx hb dX1_imageFault_19 (by decide) (fun c_4 => ?_) (fun c_4 => ?_)
    · have hv := hv.1 c_4
      refine lv_iconst (v := 2) hx hb dX1_imageFault_24 (by decide) ?_
      refine lv_istore_n (lv' := [(2, .int 2), (0, .ref (h 0)), (1, .int p1)]) hx hb dX1_imageFault_25 rfl hl (by decide) rfl (fun ls hl => ?_)
      obtain ⟨n_3, hv⟩ := hv
      exact wX1_imageFault_26 l h post  t_bytes t_size p1 C0 n_3 2 hv _ _ _ hP hD hS (lv_sub hl [1, 2, 0] rfl)
    · have hv := hv.2 c_4
      refine lv_iconst (v := 1) hx hb dX1_imageFault_22 (by decide) ?_
      exact W.iret (v := 1) hx hb hr (fun t ht hW => ⟨⟨1, (), rfl, hv, va_Ph ht hP⟩, hS.F ht⟩) hS.2.2 dX1_imageFault_23
  · have hv := hv.2 c_6
    refine lv_iconst (v := 0) hx hb dX1_imageFault_10 (by decide) ?_
    exact W.iret (v := 0) hx hb hr (fun t ht hW => ⟨⟨0, (), rfl, hv, va_Ph ht hP⟩, hS.F ht⟩) hS.2.2 dX1_imageFault_11
theorem kX1_imageFault (l : Launch) (dC : Nat → ClassId) (dI : Nat → Nat → Nat) (cy : Nat → ClassId) (h : Nat → Nat) (t_bytes : Nat → Int32) (t_size : Int32) (p1 : Int32) (post : Int32 → Prop) (hv : VX1_imageFault post t_bytes t_size p1 ) : CtI l yX1_imageFault wsX1_imageFault rX1_imageFault dC dI cy [.ref (h 0), .int p1] (pX1_imageFault cy h t_bytes t_size) (fun (_ : Unit) => pX1_imageFault cy h t_bytes t_size) (fun (r : Int32) (_ : Unit) => post r) :=
  ct_ofI (by decide) rfl (Nat.le_of_ble_eq_true rfl) (fun p e s m below meth c A ls C0 hP hD hS hl => wX1_imageFault_0 l h post t_bytes t_size p1 C0  hv _ _ _ hP hD hS hl)
theorem mX1_copyImageTo_1 : (Cond.fieldLink RX1 56 "AbelianPowers$Word" "size" "I") ∈ wsX1_copyImageTo := List.mem_of_getElem? (i := 1) rfl
theorem mX1_copyImageTo_2 : (Cond.fieldLink RX1 15 "AbelianPowers$Input" "size" "I") ∈ wsX1_copyImageTo := List.mem_of_getElem? (i := 2) rfl
theorem mX1_copyImageTo_3 : (Cond.fieldLink RX1 9 "AbelianPowers$Input" "bytes" "[I") ∈ wsX1_copyImageTo := List.mem_of_getElem? (i := 3) rfl
theorem nX1_copyImageTo_X9 : ∀ w ∈ wsX90, w ∈ wsX1_copyImageTo := fun _ h => List.mem_cons_of_mem _ (List.mem_append_left _ (List.mem_append_right _ h))
theorem nX1_copyImageTo_X1 : ∀ w ∈ wsX10, w ∈ wsX1_copyImageTo := fun _ h => List.mem_cons_of_mem _ (List.mem_append_right _ h)
theorem zX1_copyImageTo : yX1_copyImageTo.cls = RX1 ∧ yX1_copyImageTo.cls ≠ "java/lang/invoke/MethodHandle" ∧ yX1_copyImageTo.cls ≠ "java/lang/invoke/VarHandle" ∧ (parseMethodDescriptor yX1_copyImageTo.desc).map (fun d => d.parameters.length) = some 1 := by decide +kernel
abbrev rX1_copyImageTo : Room := { frames := 1, cells := 0, slots := 0, locals := 21 }
abbrev pX1_copyImageTo (cy : Nat → ClassId) (h : Nat → Nat) (a1_n : Nat) (t_bytes : Nat → Int32) (t_size : Int32) (a1_letters : Nat → Int32) (a1_size : Int32) : va_W := [(h 0, .inr (1, [.ref (h 1), .int t_size])), (h 1, .inl (cy 0, 16, .inl t_bytes)), (h 2, .inr (9, [.ref (h 3), .int a1_size])), (h 3, .inl (cy 0, a1_n, .inl a1_letters))]
def VX1_copyImageTo_7 (post : (Nat → Int32) → Int32 → Prop)  (a1_n : Nat) (t_bytes : Nat → Int32) (t_size : Int32) : Nat → (Nat → Int32) → Int32 → Int32 → Prop
  | 0, _, _, _ => False
  | n + 1, a1_letters, a1_size, x2 => ((t_size ≤ x2) → post a1_letters a1_size) ∧ (¬ (t_size ≤ x2) → vp_in x2 16 ∧ (∀ y_3 : Int32, y_3 = ((t_bytes x2.toNatClampNeg) - 97) → VX9_put (fun u_4 u_5 => VX1_copyImageTo_7 post a1_n t_bytes t_size n u_4 u_5 (x2 + 1)) a1_n y_3 a1_letters a1_size))
def VX1_copyImageTo (post : (Nat → Int32) → Int32 → Prop)  (a1_n : Nat) (t_bytes : Nat → Int32) (t_size : Int32) (a1_letters : Nat → Int32) (a1_size : Int32) : Prop := ∃ n7 : Nat, VX1_copyImageTo_7 post a1_n t_bytes t_size n7 a1_letters 0 2
set_option maxHeartbeats 4000000 in
set_option maxRecDepth 100000 in
theorem wX1_copyImageTo_7 {p : Program} (l : Launch) {e : Env} {s : State} {m : MethodId} {args : Array Value} {below : List Frame} {meth : Method} {c : Code} {dC : Nat → ClassId} {dI : Nat → Nat → Nat} {cy : Nat → ClassId} {A : Nat → Prop} (h : Nat → Nat) (a1_n : Nat) (post : (Nat → Int32) → Int32 → Prop)   (t_bytes : Nat → Int32) (t_size : Int32)  (C0 : cx p s m args meth c cX1_copyImageTo 3 none wsX1_copyImageTo RX1 dC dI cy A)  : ∀ (n : Nat) (a1_letters : Nat → Int32) (a1_size : Int32) (x2 : Int32), VX1_copyImageTo_7 post a1_n t_bytes t_size n a1_letters a1_size x2 → ∀ (H : Heap) (locs : List Loc) (ls : Array Slot), va_P (dC, dI) vwCl (pX1_copyImageTo cy h a1_n t_bytes t_size a1_letters a1_size) H → va_D A (pX1_copyImageTo cy h a1_n t_bytes t_size a1_letters a1_size) → va_S A s.heap H locs → lv_has ls 3 [(0, .ref (h 0)), (1, .ref (h 2)), (2, .int x2)] → W p l e rX1_copyImageTo s m args below meth c H locs 0 0 (MQ below (va_Qv (fun (u : (Nat → Int32) × Int32) => post u.1 u.2) (fun (u : (Nat → Int32) × Int32) (t : State) => va_P (dC, dI) vwCl (pX1_copyImageTo cy h a1_n t_bytes t_size u.1 u.2) t.heap) A) args s 0 0 A) (F0 m 7 ls []) := by
  have C1 := C0
  obtain ⟨hx, hb, hr, hml, hown, hts, hlocks, hK, hA⟩ := C1
  intro n
  induction n with
  | zero => intro a1_letters a1_size x2 hv; exact hv.elim
  | succ n ih =>
    intro a1_letters a1_size x2 hv H locs ls hP hD hS hl
    refine lv_iload_n hx hb dX1_copyImageTo_7 rfl (lv_at hl 2 rfl) ?_
    refine lv_aload_n hx hb dX1_copyImageTo_8 rfl (lv_at hl 0 rfl) ?_
    refine va_get (D := (dC, dI)) (ci := 1) (v := .int t_size) (C := RX1) (T := TX1) (N := 2) hx hb hts nX1_copyImageTo_X1 hown hK hP 0 rfl rfl 1 (by decide) (hts _ mX1_copyImageTo_2) (fun _ h9 => h9) rfl dX1_copyImageTo_9 ?_
    refine lv_icmp_ge (tgt := 34) hx hb dX1_copyImageTo_12 (by decide) (fun c_7 => ?_) (fun c_7 => ?_)
    · have hv := hv.1 c_7
      exact W.vret hx hb hr (fun t ht hW => ⟨⟨(a1_letters, a1_size), rfl, hv, va_Ph ht hP⟩, hS.F ht⟩) hS.2.2 dX1_copyImageTo_34
    · have hv := hv.2 c_7
      refine lv_aload_n hx hb dX1_copyImageTo_15 rfl (lv_at hl 1 rfl) ?_
      refine lv_aload_n hx hb dX1_copyImageTo_16 rfl (lv_at hl 0 rfl) ?_
      refine va_get (D := (dC, dI)) (ci := 1) (v := .ref (h 1)) (C := RX1) (T := TX1) (N := 2) hx hb hts nX1_copyImageTo_X1 hown hK hP 0 rfl rfl 0 (by decide) (hts _ mX1_copyImageTo_3) (fun _ h9 => h9) rfl dX1_copyImageTo_17 ?_
      refine lv_iload_n hx hb dX1_copyImageTo_20 rfl (lv_at hl 2 rfl) ?_
      have h_2 := hv.1
      have hv := hv.2
      refine va_iald hx hb hK hP 1 0 rfl rfl h_2 dX1_copyImageTo_21 ?_
      refine lv_bipush (v := 97) hx hb dX1_copyImageTo_22 (by decide) ?_
      refine lv_isub hx hb dX1_copyImageTo_24 ?_
      refine lv_topi (fun y_3 ey_3 => ?_)
      have hv := hv y_3 ey_3
      refine cb_VV (As := [.int y_3]) (rest := []) ⟨hx, hb, hml, hown, hts⟩ (kX9_put l dC dI cy (adl [h 2, h 3]) a1_n a1_letters a1_size y_3 _ hv) (cwV 1 hts gX1_copyImageTo_X9_put rfl rfl rfl zX9_put ⟨Nat.le_of_ble_eq_true rfl, Nat.le_of_ble_eq_true rfl⟩) hK hP hD hS hA [2, 3] [none, none, some 0, some 1] rfl rfl rfl (ci := 9) rfl rfl (fun _ => rfl) rfl hl.1 rfl (Nat.le_of_ble_eq_true rfl) dX1_copyImageTo_25 (fun w_6 H locs hv hP hD hS => ?_)
      obtain ⟨u_4, u_5⟩ := w_6
      have hP : va_P (dC, dI) vwCl (pX1_copyImageTo cy h a1_n t_bytes t_size u_4 u_5) H := hP
      have hD : va_D A (pX1_copyImageTo cy h a1_n t_bytes t_size u_4 u_5) := hD
      refine lv_iinc (v := (x2 + 1)) (lv' := [(2, .int ((x2 + 1))), (0, .ref (h 0)), (1, .ref (h 2))]) hx hb dX1_copyImageTo_28 hl (k := 2) rfl rfl (by decide) rfl (fun ls hl => ?_)
      refine lv_goto (tgt := 7) hx hb dX1_copyImageTo_31 (by decide) ?_
      exact ih u_4 u_5 (x2 + 1) hv _ _ _ hP hD hS (lv_sub hl [1, 2, 0] rfl)
set_option maxHeartbeats 4000000 in
set_option maxRecDepth 100000 in
theorem wX1_copyImageTo_0 {p : Program} (l : Launch) {e : Env} {s : State} {m : MethodId} {args : Array Value} {below : List Frame} {meth : Method} {c : Code} {dC : Nat → ClassId} {dI : Nat → Nat → Nat} {cy : Nat → ClassId} {A : Nat → Prop} (h : Nat → Nat) (a1_n : Nat) (post : (Nat → Int32) → Int32 → Prop)   (t_bytes : Nat → Int32) (t_size : Int32)  (C0 : cx p s m args meth c cX1_copyImageTo 3 none wsX1_copyImageTo RX1 dC dI cy A)  : ∀ (a1_letters : Nat → Int32) (a1_size : Int32), VX1_copyImageTo post a1_n t_bytes t_size a1_letters a1_size → ∀ (H : Heap) (locs : List Loc) (ls : Array Slot), va_P (dC, dI) vwCl (pX1_copyImageTo cy h a1_n t_bytes t_size a1_letters a1_size) H → va_D A (pX1_copyImageTo cy h a1_n t_bytes t_size a1_letters a1_size) → va_S A s.heap H locs → lv_has ls 3 [(0, .ref (h 0)), (1, .ref (h 2))] → W p l e rX1_copyImageTo s m args below meth c H locs 0 0 (MQ below (va_Qv (fun (u : (Nat → Int32) × Int32) => post u.1 u.2) (fun (u : (Nat → Int32) × Int32) (t : State) => va_P (dC, dI) vwCl (pX1_copyImageTo cy h a1_n t_bytes t_size u.1 u.2) t.heap) A) args s 0 0 A) (F0 m 0 ls []) := by
  have C1 := C0
  obtain ⟨hx, hb, hr, hml, hown, hts, hlocks, hK, hA⟩ := C1
  intro a1_letters a1_size hv H locs ls hP hD hS hl
  refine lv_aload_n hx hb dX1_copyImageTo_0 rfl (lv_at hl 1 rfl) ?_
  refine lv_iconst (v := 0) hx hb dX1_copyImageTo_1 (by decide) ?_
  refine va_put (D := (dC, dI)) (ci := 9) (v := .int 0) (ty := .int) (C := RX9) (T := TX9) (N := 2) hx hb hts nX1_copyImageTo_X9 tyX9 tyX9_ok nmX9 hown hK hP hD hS 2 rfl rfl 1 (by decide) (hts _ mX1_copyImageTo_1) (fun _ h9 => h9) rfl (by decide +kernel) rfl rfl (Nat.le_of_ble_eq_true rfl) dX1_copyImageTo_2 (fun H locs hP hD hS => ?_)
  have hP : va_P (dC, dI) vwCl (pX1_copyImageTo cy h a1_n t_bytes t_size a1_letters 0) H := hP
  have hD : va_D A (pX1_copyImageTo cy h a1_n t_bytes t_size a1_letters 0) := hD
  refine lv_iconst (v := 2) hx hb dX1_copyImageTo_5 (by decide) ?_
  refine lv_istore_n (lv' := [(2, .int 2), (0, .ref (h 0)), (1, .ref (h 2))]) hx hb dX1_copyImageTo_6 rfl hl (by decide) rfl (fun ls hl => ?_)
  obtain ⟨n_1, hv⟩ := hv
  exact wX1_copyImageTo_7 l h a1_n post  t_bytes t_size C0 n_1 a1_letters 0 2 hv _ _ _ hP hD hS (lv_sub hl [1, 2, 0] rfl)
theorem kX1_copyImageTo (l : Launch) (dC : Nat → ClassId) (dI : Nat → Nat → Nat) (cy : Nat → ClassId) (h : Nat → Nat) (a1_n : Nat) (t_bytes : Nat → Int32) (t_size : Int32) (a1_letters : Nat → Int32) (a1_size : Int32)  (post : (Nat → Int32) → Int32 → Prop) (hv : VX1_copyImageTo post a1_n t_bytes t_size a1_letters a1_size) : CtV l yX1_copyImageTo wsX1_copyImageTo rX1_copyImageTo dC dI cy [.ref (h 0), .ref (h 2)] (pX1_copyImageTo cy h a1_n t_bytes t_size a1_letters a1_size) (fun (u : (Nat → Int32) × Int32) => pX1_copyImageTo cy h a1_n t_bytes t_size u.1 u.2) (fun (u : (Nat → Int32) × Int32) => post u.1 u.2) :=
  ct_ofV (by decide) rfl (Nat.le_of_ble_eq_true rfl) (fun p e s m below meth c A ls C0 hP hD hS hl => wX1_copyImageTo_0 l h a1_n post t_bytes t_size C0 a1_letters a1_size hv _ _ _ hP hD hS hl)
