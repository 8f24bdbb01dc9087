theorem mX9_put_1 : (Cond.fieldLink RX9 19 "AbelianPowers$Word" "size" "I") ∈ wsX9_put := List.mem_of_getElem? (i := 1) rfl
theorem mX9_put_2 : (Cond.fieldLink RX9 13 "AbelianPowers$Word" "letters" "[I") ∈ wsX9_put := List.mem_of_getElem? (i := 2) rfl
theorem nX9_put_X9 : ∀ w ∈ wsX90, w ∈ wsX9_put := fun _ h => List.mem_cons_of_mem _ (List.mem_append_right _ h)
theorem zX9_put : yX9_put.cls = RX9 ∧ yX9_put.cls ≠ "java/lang/invoke/MethodHandle" ∧ yX9_put.cls ≠ "java/lang/invoke/VarHandle" ∧ (parseMethodDescriptor yX9_put.desc).map (fun d => d.parameters.length) = some 1 := by decide +kernel
abbrev rX9_put : Room := { frames := 0, cells := 0, slots := 0, locals := 0 }
abbrev pX9_put (cy : Nat → ClassId) (h : Nat → Nat) (t_n : Nat) (t_letters : Nat → Int32) (t_size : Int32) : va_W := [(h 0, .inr (9, [.ref (h 1), .int t_size])), (h 1, .inl (cy 0, t_n, .inl t_letters))]
def VX9_put (post : (Nat → Int32) → Int32 → Prop)  (t_n : Nat) (p1 : Int32) (t_letters : Nat → Int32) (t_size : Int32) : Prop := (((nI t_n) ≤ t_size) → post t_letters t_size) ∧ (¬ ((nI t_n) ≤ t_size) → vp_in t_size t_n ∧ (post (upd t_letters t_size.toNatClampNeg p1) (t_size + 1)))
set_option maxHeartbeats 4000000 in
set_option maxRecDepth 100000 in
theorem wX9_put_0 {p : Program} (l : Launch) {e : Env} {s : State} {m : MethodId} {args : Array Value} {below : List Frame} {meth : Method} {c : Code} {dC : Nat → ClassId} {dI : Nat → Nat → Nat} {cy : Nat → ClassId} {A : Nat → Prop} (h : Nat → Nat) (t_n : Nat) (post : (Nat → Int32) → Int32 → Prop)    (p1 : Int32) (C0 : cx p s m args meth c cX9_put 2 none wsX9_put RX9 dC dI cy A)  : ∀ (t_letters : Nat → Int32) (t_size : Int32), VX9_put post t_n p1 t_letters t_size → ∀ (H : Heap) (locs : List Loc) (ls : Array Slot), va_P (dC, dI) vwCl (pX9_put cy h t_n t_letters t_size) H → va_D A (pX9_put cy h t_n t_letters t_size) → va_S A s.heap H locs → lv_has ls 2 [(0, .ref (h 0)), (1, .int p1)] → W p l e rX9_put s m args below meth c H locs 0 0 (MQ below (va_Qv (fun (u : (Nat → Int32) × Int32) => post u.1 u.2) (fun (u : (Nat → Int32) × Int32) (t : State) => va_P (dC, dI) vwCl (pX9_put cy h t_n u.1 u.2) t.heap) A) args s 0 0 A) (F0 m 0 ls []) := by
  have C1 := C0
  obtain ⟨hx, hb, hr, hml, hown, hts, hlocks, hK, hA⟩ := C1
  intro t_letters t_size hv H locs ls hP hD hS hl
  refine lv_aload_n hx hb dX9_put_0 rfl (lv_at hl 0 rfl) ?_
  refine va_get (D := (dC, dI)) (ci := 9) (v := .int t_size) (C := RX9) (T := TX9) (N := 2) hx hb hts nX9_put_X9 hown hK hP 0 rfl rfl 1 (by decide) (hts _ mX9_put_1) (fun _ h9 => h9) rfl dX9_put_1 ?_
  refine lv_aload_n hx hb dX9_put_4 rfl (lv_at hl 0 rfl) ?_
  refine va_get (D := (dC, dI)) (ci := 9) (v := .ref (h 1)) (C := RX9) (T := TX9) (N := 2) hx hb hts nX9_put_X9 hown hK hP 0 rfl rfl 0 (by decide) (hts _ mX9_put_2) (fun _ h9 => h9) rfl dX9_put_5 ?_
  refine va_alen (v := (nI t_n)) hx hb hK hP 1 0 rfl rfl rfl dX9_put_8 ?_
  refine lv_icmp_ge (tgt := 32) hx hb dX9_put_9 (by decide) (fun c_2 => ?_) (fun c_2 => ?_)
  · have hv := hv.1 c_2
    exact W.vret hx hb hr (fun t ht hW => ⟨⟨(t_letters, t_size), rfl, hv, va_Ph ht hP⟩, hS.F ht⟩) hS.2.2 dX9_put_32
  · have hv := hv.2 c_2
    refine lv_aload_n hx hb dX9_put_12 rfl (lv_at hl 0 rfl) ?_
    refine va_get (D := (dC, dI)) (ci := 9) (v := .ref (h 1)) (C := RX9) (T := TX9) (N := 2) hx hb hts nX9_put_X9 hown hK hP 0 rfl rfl 0 (by decide) (hts _ mX9_put_2) (fun _ h9 => h9) rfl dX9_put_13 ?_
    refine lv_aload_n hx hb dX9_put_16 rfl (lv_at hl 0 rfl) ?_
    refine va_get (D := (dC, dI)) (ci := 9) (v := .int t_size) (C := RX9) (T := TX9) (N := 2) hx hb hts nX9_put_X9 hown hK hP 0 rfl rfl 1 (by decide) (hts _ mX9_put_1) (fun _ h9 => h9) rfl dX9_put_17 ?_
    refine lv_iload_n hx hb dX9_put_20 rfl (lv_at hl 1 rfl) ?_
    have h_1 := hv.1
    have hv := hv.2
    refine va_iast hx hb hK hP hD hS 1 0 rfl rfl h_1 dX9_put_21 (fun H locs hP hD hS => ?_)
    have hP : va_P (dC, dI) vwCl (pX9_put cy h t_n (upd t_letters t_size.toNatClampNeg p1) t_size) H := hP
    have hD : va_D A (pX9_put cy h t_n (upd t_letters t_size.toNatClampNeg p1) t_size) := hD
    refine lv_aload_n hx hb dX9_put_22 rfl (lv_at hl 0 rfl) ?_
    refine lv_dup hx hb dX9_put_23 rfl ?_
    refine va_get (D := (dC, dI)) (ci := 9) (v := .int t_size) (C := RX9) (T := TX9) (N := 2) hx hb hts nX9_put_X9 hown hK hP 0 rfl rfl 1 (by decide) (hts _ mX9_put_1) (fun _ h9 => h9) rfl dX9_put_24 ?_
    refine lv_iconst (v := 1) hx hb dX9_put_27 (by decide) ?_
    refine lv_iadd hx hb dX9_put_28 ?_
    refine va_put (D := (dC, dI)) (ci := 9) (v := .int (t_size + 1)) (ty := .int) (C := RX9) (T := TX9) (N := 2) hx hb hts nX9_put_X9 tyX9 tyX9_ok nmX9 hown hK hP hD hS 0 rfl rfl 1 (by decide) (hts _ mX9_put_1) (fun _ h9 => h9) rfl (by decide +kernel) rfl rfl (Nat.le_of_ble_eq_true rfl) dX9_put_29 (fun H locs hP hD hS => ?_)
    have hP : va_P (dC, dI) vwCl (pX9_put cy h t_n (upd t_letters t_size.toNatClampNeg p1) (t_size + 1)) H := hP
    have hD : va_D A (pX9_put cy h t_n (upd t_letters t_size.toNatClampNeg p1) (t_size + 1)) := hD
    exact W.vret hx hb hr (fun t ht hW => ⟨⟨((upd t_letters t_size.toNatClampNeg p1), (t_size + 1)), rfl, hv, va_Ph ht hP⟩, hS.F ht⟩) hS.2.2 dX9_put_32
theorem kX9_put (l : Launch) (dC : Nat → ClassId) (dI : Nat → Nat → Nat) (cy : Nat → ClassId) (h : Nat → Nat) (t_n : Nat) (t_letters : Nat → Int32) (t_size : Int32) (p1 : Int32) (post : (Nat → Int32) → Int32 → Prop) (hv : VX9_put post t_n p1 t_letters t_size) : CtV l yX9_put wsX9_put rX9_put dC dI cy [.ref (h 0), .int p1] (pX9_put cy h t_n t_letters t_size) (fun (u : (Nat → Int32) × Int32) => pX9_put cy h t_n u.1 u.2) (fun (u : (Nat → Int32) × Int32) => post u.1 u.2) :=
  ct_ofV (by decide) rfl (Nat.le_of_ble_eq_true rfl) (fun p e s m below meth c A ls C0 hP hD hS hl => wX9_put_0 l h t_n post p1 C0 t_letters t_size hv _ _ _ hP hD hS hl)
theorem mX9_putAll_1 : (Cond.fieldLink RX9 19 "AbelianPowers$Word" "size" "I") ∈ wsX9_putAll := List.mem_of_getElem? (i := 1) rfl
theorem mX9_putAll_2 : (Cond.fieldLink RX9 13 "AbelianPowers$Word" "letters" "[I") ∈ wsX9_putAll := List.mem_of_getElem? (i := 2) rfl
theorem nX9_putAll_X9 : ∀ w ∈ wsX90, w ∈ wsX9_putAll := fun _ h => List.mem_cons_of_mem _ (List.mem_append_right _ h)
theorem zX9_putAll : yX9_putAll.cls = RX9 ∧ yX9_putAll.cls ≠ "java/lang/invoke/MethodHandle" ∧ yX9_putAll.cls ≠ "java/lang/invoke/VarHandle" ∧ (parseMethodDescriptor yX9_putAll.desc).map (fun d => d.parameters.length) = some 1 := by decide +kernel
abbrev rX9_putAll : Room := { frames := 1, cells := 0, slots := 0, locals := 21 }
abbrev pX9_putAll (cy : Nat → ClassId) (h : Nat → Nat) (t_n : Nat) (a1_n : Nat) (t_letters : Nat → Int32) (t_size : Int32) (a1_letters : Nat → Int32) (a1_size : Int32) : va_W := [(h 0, .inr (9, [.ref (h 1), .int t_size])), (h 1, .inl (cy 0, t_n, .inl t_letters)), (h 2, .inr (9, [.ref (h 3), .int a1_size])), (h 3, .inl (cy 0, a1_n, .inl a1_letters))]
def VX9_putAll_2 (post : (Nat → Int32) → Int32 → Prop)  (t_n : Nat) (a1_n : Nat) (a1_letters : Nat → Int32) (a1_size : Int32) : Nat → (Nat → Int32) → Int32 → Int32 → Prop
  | 0, _, _, _ => False
  | n + 1, t_letters, t_size, x2 => ((a1_size ≤ x2) → post t_letters t_size) ∧ (¬ (a1_size ≤ x2) → vp_in x2 a1_n ∧ (∀ y_2 : Int32, y_2 = (a1_letters x2.toNatClampNeg) → VX9_put (fun u_4 u_5 => VX9_putAll_2 post t_n a1_n a1_letters a1_size n u_4 u_5 (x2 + 1)) t_n y_2 t_letters t_size))
def VX9_putAll (post : (Nat → Int32) → Int32 → Prop)  (t_n : Nat) (a1_n : Nat) (a1_letters : Nat → Int32) (a1_size : Int32) (t_letters : Nat → Int32) (t_size : Int32) : Prop := ∃ n2 : Nat, VX9_putAll_2 post t_n a1_n a1_letters a1_size n2 t_letters t_size 0
set_option maxHeartbeats 4000000 in
set_option maxRecDepth 100000 in
theorem wX9_putAll_2 {p : Program} (l : Launch) {e : Env} {s : State} {m : MethodId} {args : Array Value} {below : List Frame} {meth : Method} {c : Code} {dC : Nat → ClassId} {dI : Nat → Nat → Nat} {cy : Nat → ClassId} {A : Nat → Prop} (h : Nat → Nat) (t_n : Nat) (a1_n : Nat) (post : (Nat → Int32) → Int32 → Prop)   (a1_letters : Nat → Int32) (a1_size : Int32)  (C0 : cx p s m args meth c cX9_putAll 3 none wsX9_putAll RX9 dC dI cy A)  : ∀ (n : Nat) (t_letters : Nat → Int32) (t_size : Int32) (x2 : Int32), VX9_putAll_2 post t_n a1_n a1_letters a1_size n t_letters t_size x2 → ∀ (H : Heap) (locs : List Loc) (ls : Array Slot), va_P (dC, dI) vwCl (pX9_putAll cy h t_n a1_n t_letters t_size a1_letters a1_size) H → va_D A (pX9_putAll cy h t_n a1_n t_letters t_size a1_letters a1_size) → va_S A s.heap H locs → lv_has ls 3 [(0, .ref (h 0)), (1, .ref (h 2)), (2, .int x2)] → W p l e rX9_putAll s m args below meth c H locs 0 0 (MQ below (va_Qv (fun (u : (Nat → Int32) × Int32) => post u.1 u.2) (fun (u : (Nat → Int32) × Int32) (t : State) => va_P (dC, dI) vwCl (pX9_putAll cy h t_n a1_n u.1 u.2 a1_letters a1_size) t.heap) A) args s 0 0 A) (F0 m 2 ls []) := by
  have C1 := C0
  obtain ⟨hx, hb, hr, hml, hown, hts, hlocks, hK, hA⟩ := C1
  intro n
  induction n with
  | zero => intro t_letters t_size x2 hv; exact hv.elim
  | succ n ih =>
    intro t_letters t_size x2 hv H locs ls hP hD hS hl
    refine lv_iload_n hx hb dX9_putAll_2 rfl (lv_at hl 2 rfl) ?_
    refine lv_aload_n hx hb dX9_putAll_3 rfl (lv_at hl 1 rfl) ?_
    refine va_get (D := (dC, dI)) (ci := 9) (v := .int a1_size) (C := RX9) (T := TX9) (N := 2) hx hb hts nX9_putAll_X9 hown hK hP 2 rfl rfl 1 (by decide) (hts _ mX9_putAll_1) (fun _ h9 => h9) rfl dX9_putAll_4 ?_
    refine lv_icmp_ge (tgt := 26) hx hb dX9_putAll_7 (by decide) (fun c_7 => ?_) (fun c_7 => ?_)
    · have hv := hv.1 c_7
      exact W.vret hx hb hr (fun t ht hW => ⟨⟨(t_letters, t_size), rfl, hv, va_Ph ht hP⟩, hS.F ht⟩) hS.2.2 dX9_putAll_26
    · have hv := hv.2 c_7
      refine lv_aload_n hx hb dX9_putAll_10 rfl (lv_at hl 0 rfl) ?_
      refine lv_aload_n hx hb dX9_putAll_11 rfl (lv_at hl 1 rfl) ?_
      refine va_get (D := (dC, dI)) (ci := 9) (v := .ref (h 3)) (C := RX9) (T := TX9) (N := 2) hx hb hts nX9_putAll_X9 hown hK hP 2 rfl rfl 0 (by decide) (hts _ mX9_putAll_2) (fun _ h9 => h9) rfl dX9_putAll_12 ?_
      refine lv_iload_n hx hb dX9_putAll_15 rfl (lv_at hl 2 rfl) ?_
      have h_3 := hv.1
      have hv := hv.2
      refine va_iald hx hb hK hP 3 0 rfl rfl h_3 dX9_putAll_16 ?_
      refine lv_topi (fun y_2 ey_2 => ?_)
      have hv := hv y_2 ey_2
      refine cb_VV (As := [.int y_2]) (rest := []) ⟨hx, hb, hml, hown, hts⟩ (kX9_put l dC dI cy (adl [h 0, h 1]) t_n t_letters t_size y_2 _ hv) (cwV 1 hts gX9_putAll_X9_put rfl rfl rfl zX9_put ⟨Nat.le_of_ble_eq_true rfl, Nat.le_of_ble_eq_true rfl⟩) hK hP hD hS hA [0, 1] [some 0, some 1, none, none] rfl rfl rfl (ci := 9) rfl rfl (fun _ => rfl) rfl hl.1 rfl (Nat.le_of_ble_eq_true rfl) dX9_putAll_17 (fun w_6 H locs hv hP hD hS => ?_)
      obtain ⟨u_4, u_5⟩ := w_6
      have hP : va_P (dC, dI) vwCl (pX9_putAll cy h t_n a1_n u_4 u_5 a1_letters a1_size) H := hP
      have hD : va_D A (pX9_putAll cy h t_n a1_n u_4 u_5 a1_letters a1_size) := hD
      refine lv_iinc (v := (x2 + 1)) (lv' := [(2, .int ((x2 + 1))), (0, .ref (h 0)), (1, .ref (h 2))]) hx hb dX9_putAll_20 hl (k := 2) rfl rfl (by decide) rfl (fun ls hl => ?_)
      refine lv_goto (tgt := 2) hx hb dX9_putAll_23 (by decide) ?_
      exact ih u_4 u_5 (x2 + 1) hv _ _ _ hP hD hS (lv_sub hl [1, 2, 0] rfl)
set_option maxHeartbeats 4000000 in
set_option maxRecDepth 100000 in
theorem wX9_putAll_0 {p : Program} (l : Launch) {e : Env} {s : State} {m : MethodId} {args : Array Value} {below : List Frame} {meth : Method} {c : Code} {dC : Nat → ClassId} {dI : Nat → Nat → Nat} {cy : Nat → ClassId} {A : Nat → Prop} (h : Nat → Nat) (t_n : Nat) (a1_n : Nat) (post : (Nat → Int32) → Int32 → Prop)   (a1_letters : Nat → Int32) (a1_size : Int32)  (C0 : cx p s m args meth c cX9_putAll 3 none wsX9_putAll RX9 dC dI cy A)  : ∀ (t_letters : Nat → Int32) (t_size : Int32), VX9_putAll post t_n a1_n a1_letters a1_size t_letters t_size → ∀ (H : Heap) (locs : List Loc) (ls : Array Slot), va_P (dC, dI) vwCl (pX9_putAll cy h t_n a1_n t_letters t_size a1_letters a1_size) H → va_D A (pX9_putAll cy h t_n a1_n t_letters t_size a1_letters a1_size) → va_S A s.heap H locs → lv_has ls 3 [(0, .ref (h 0)), (1, .ref (h 2))] → W p l e rX9_putAll s m args below meth c H locs 0 0 (MQ below (va_Qv (fun (u : (Nat → Int32) × Int32) => post u.1 u.2) (fun (u : (Nat → Int32) × Int32) (t : State) => va_P (dC, dI) vwCl (pX9_putAll cy h t_n a1_n u.1 u.2 a1_letters a1_size) t.heap) A) args s 0 0 A) (F0 m 0 ls []) := by
  have C1 := C0
  obtain ⟨hx, hb, hr, hml, hown, hts, hlocks, hK, hA⟩ := C1
  intro t_letters t_size hv H locs ls hP hD hS hl
  refine lv_iconst (v := 0) hx hb dX9_putAll_0 (by decide) ?_
  refine lv_istore_n (lv' := [(2, .int 0), (0, .ref (h 0)), (1, .ref (h 2))]) hx hb dX9_putAll_1 rfl hl (by decide) rfl (fun ls hl => ?_)
  obtain ⟨n_1, hv⟩ := hv
  exact wX9_putAll_2 l h t_n a1_n post  a1_letters a1_size C0 n_1 t_letters t_size 0 hv _ _ _ hP hD hS (lv_sub hl [1, 2, 0] rfl)
theorem kX9_putAll (l : Launch) (dC : Nat → ClassId) (dI : Nat → Nat → Nat) (cy : Nat → ClassId) (h : Nat → Nat) (t_n : Nat) (a1_n : Nat) (t_letters : Nat → Int32) (t_size : Int32) (a1_letters : Nat → Int32) (a1_size : Int32)  (post : (Nat → Int32) → Int32 → Prop) (hv : VX9_putAll post t_n a1_n a1_letters a1_size t_letters t_size) : CtV l yX9_putAll wsX9_putAll rX9_putAll dC dI cy [.ref (h 0), .ref (h 2)] (pX9_putAll cy h t_n a1_n t_letters t_size a1_letters a1_size) (fun (u : (Nat → Int32) × Int32) => pX9_putAll cy h t_n a1_n u.1 u.2 a1_letters a1_size) (fun (u : (Nat → Int32) × Int32) => post u.1 u.2) :=
  ct_ofV (by decide) rfl (Nat.le_of_ble_eq_true rfl) (fun p e s m below meth c A ls C0 hP hD hS hl => wX9_putAll_0 l h t_n a1_n post a1_letters a1_size C0 t_letters t_size hv _ _ _ hP hD hS hl)
theorem mX9_copyFrom_1 : (Cond.fieldLink RX9 19 "AbelianPowers$Word" "size" "I") ∈ wsX9_copyFrom := List.mem_of_getElem? (i := 1) rfl
theorem nX9_copyFrom_X9 : ∀ w ∈ wsX90, w ∈ wsX9_copyFrom := fun _ h => List.mem_cons_of_mem _ (List.mem_append_right _ h)
theorem zX9_copyFrom : yX9_copyFrom.cls = RX9 ∧ yX9_copyFrom.cls ≠ "java/lang/invoke/MethodHandle" ∧ yX9_copyFrom.cls ≠ "java/lang/invoke/VarHandle" ∧ (parseMethodDescriptor yX9_copyFrom.desc).map (fun d => d.parameters.length) = some 1 := by decide +kernel
abbrev rX9_copyFrom : Room := { frames := 2, cells := 0, slots := 0, locals := 43 }
abbrev pX9_copyFrom (cy : Nat → ClassId) (h : Nat → Nat) (t_n : Nat) (a1_n : Nat) (t_letters : Nat → Int32) (t_size : Int32) (a1_letters : Nat → Int32) (a1_size : Int32) : va_W := [(h 0, .inr (9, [.ref (h 1), .int t_size])), (h 1, .inl (cy 0, t_n, .inl t_letters)), (h 2, .inr (9, [.ref (h 3), .int a1_size])), (h 3, .inl (cy 0, a1_n, .inl a1_letters))]
def VX9_copyFrom (post : (Nat → Int32) → Int32 → Prop)  (t_n : Nat) (a1_n : Nat) (a1_letters : Nat → Int32) (a1_size : Int32) (t_letters : Nat → Int32) (t_size : Int32) : Prop := VX9_putAll (fun u_1 u_2 => post u_1 u_2) t_n a1_n a1_letters a1_size t_letters 0
set_option maxHeartbeats 4000000 in
set_option maxRecDepth 100000 in
theorem wX9_copyFrom_0 {p : Program} (l : Launch) {e : Env} {s : State} {m : MethodId} {args : Array Value} {below : List Frame} {meth : Method} {c : Code} {dC : Nat → ClassId} {dI : Nat → Nat → Nat} {cy : Nat → ClassId} {A : Nat → Prop} (h : Nat → Nat) (t_n : Nat) (a1_n : Nat) (post : (Nat → Int32) → Int32 → Prop)   (a1_letters : Nat → Int32) (a1_size : Int32)  (C0 : cx p s m args meth c cX9_copyFrom 2 none wsX9_copyFrom RX9 dC dI cy A)  : ∀ (t_letters : Nat → Int32) (t_size : Int32), VX9_copyFrom post t_n a1_n a1_letters a1_size t_letters t_size → ∀ (H : Heap) (locs : List Loc) (ls : Array Slot), va_P (dC, dI) vwCl (pX9_copyFrom cy h t_n a1_n t_letters t_size a1_letters a1_size) H → va_D A (pX9_copyFrom cy h t_n a1_n t_letters t_size a1_letters a1_size) → va_S A s.heap H locs → lv_has ls 2 [(0, .ref (h 0)), (1, .ref (h 2))] → W p l e rX9_copyFrom s m args below meth c H locs 0 0 (MQ below (va_Qv (fun (u : (Nat → Int32) × Int32) => post u.1 u.2) (fun (u : (Nat → Int32) × Int32) (t : State) => va_P (dC, dI) vwCl (pX9_copyFrom cy h t_n a1_n u.1 u.2 a1_letters a1_size) t.heap) A) args s 0 0 A) (F0 m 0 ls []) := by
  have C1 := C0
  obtain ⟨hx, hb, hr, hml, hown, hts, hlocks, hK, hA⟩ := C1
  intro t_letters t_size hv H locs ls hP hD hS hl
  refine lv_aload_n hx hb dX9_copyFrom_0 rfl (lv_at hl 0 rfl) ?_
  refine lv_iconst (v := 0) hx hb dX9_copyFrom_1 (by decide) ?_
  refine va_put (D := (dC, dI)) (ci := 9) (v := .int 0) (ty := .int) (C := RX9) (T := TX9) (N := 2) hx hb hts nX9_copyFrom_X9 tyX9 tyX9_ok nmX9 hown hK hP hD hS 0 rfl rfl 1 (by decide) (hts _ mX9_copyFrom_1) (fun _ h9 => h9) rfl (by decide +kernel) rfl rfl (Nat.le_of_ble_eq_true rfl) dX9_copyFrom_2 (fun H locs hP hD hS => ?_)
  have hP : va_P (dC, dI) vwCl (pX9_copyFrom cy h t_n a1_n t_letters 0 a1_letters a1_size) H := hP
  have hD : va_D A (pX9_copyFrom cy h t_n a1_n t_letters 0 a1_letters a1_size) := hD
  refine lv_aload_n hx hb dX9_copyFrom_5 rfl (lv_at hl 0 rfl) ?_
  refine lv_aload_n hx hb dX9_copyFrom_6 rfl (lv_at hl 1 rfl) ?_
  refine cb_VV (As := [.ref (h 2)]) (rest := []) ⟨hx, hb, hml, hown, hts⟩ (kX9_putAll l dC dI cy (adl [h 0, h 1, h 2, h 3]) t_n a1_n t_letters 0 a1_letters a1_size _ hv) (cwV 1 hts gX9_copyFrom_X9_putAll rfl rfl rfl zX9_putAll ⟨Nat.le_of_ble_eq_true rfl, Nat.le_of_ble_eq_true rfl⟩) hK hP hD hS hA [0, 1, 2, 3] [some 0, some 1, some 2, some 3] rfl rfl rfl (ci := 9) rfl rfl (fun _ => rfl) rfl hl.1 rfl (Nat.le_of_ble_eq_true rfl) dX9_copyFrom_7 (fun w_3 H locs hv hP hD hS => ?_)
  obtain ⟨u_1, u_2⟩ := w_3
  have hP : va_P (dC, dI) vwCl (pX9_copyFrom cy h t_n a1_n u_1 u_2 a1_letters a1_size) H := hP
  have hD : va_D A (pX9_copyFrom cy h t_n a1_n u_1 u_2 a1_letters a1_size) := hD
  exact W.vret hx hb hr (fun t ht hW => ⟨⟨(u_1, u_2), rfl, hv, va_Ph ht hP⟩, hS.F ht⟩) hS.2.2 dX9_copyFrom_10
theorem kX9_copyFrom (l : Launch) (dC : Nat → ClassId) (dI : Nat → Nat → Nat) (cy : Nat → ClassId) (h : Nat → Nat) (t_n : Nat) (a1_n : Nat) (t_letters : Nat → Int32) (t_size : Int32) (a1_letters : Nat → Int32) (a1_size : Int32)  (post : (Nat → Int32) → Int32 → Prop) (hv : VX9_copyFrom post t_n a1_n a1_letters a1_size t_letters t_size) : CtV l yX9_copyFrom wsX9_copyFrom rX9_copyFrom dC dI cy [.ref (h 0), .ref (h 2)] (pX9_copyFrom cy h t_n a1_n t_letters t_size a1_letters a1_size) (fun (u : (Nat → Int32) × Int32) => pX9_copyFrom cy h t_n a1_n u.1 u.2 a1_letters a1_size) (fun (u : (Nat → Int32) × Int32) => post u.1 u.2) :=
  ct_ofV (by decide) rfl (Nat.le_of_ble_eq_true rfl) (fun p e s m below meth c A ls C0 hP hD hS hl => wX9_copyFrom_0 l h t_n a1_n post a1_letters a1_size C0 t_letters t_size hv _ _ _ hP hD hS hl)
theorem mX9_hasBlock_1 : (Cond.fieldLink RX9 19 "AbelianPowers$Word" "size" "I") ∈ wsX9_hasBlock := List.mem_of_getElem? (i := 1) rfl
theorem nX9_hasBlock_X9 : ∀ w ∈ wsX90, w ∈ wsX9_hasBlock := fun _ h => List.mem_cons_of_mem _ (List.mem_append_right _ h)
theorem zX9_hasBlock : yX9_hasBlock.cls = RX9 ∧ yX9_hasBlock.cls ≠ "java/lang/invoke/MethodHandle" ∧ yX9_hasBlock.cls ≠ "java/lang/invoke/VarHandle" ∧ (parseMethodDescriptor yX9_hasBlock.desc).map (fun d => d.parameters.length) = some 2 := by decide +kernel
abbrev rX9_hasBlock : Room := { frames := 0, cells := 0, slots := 0, locals := 0 }
abbrev pX9_hasBlock (cy : Nat → ClassId) (h : Nat → Nat) (t_size : Int32) : va_W := [(h 0, .inr (9, [.ref (h 1), .int t_size]))]
def VX9_hasBlock (post : Int32 → Prop)  (t_size : Int32) (p1 : Int32) (p2 : Int32)  : Prop := ((p1 < 0) → post (0 : Int32)) ∧ (¬ (p1 < 0) → ((t_size < p1) → post (0 : Int32)) ∧ (¬ (t_size < p1) → ((p2 < 0) → post (0 : Int32)) ∧ (¬ (p2 < 0) → (((t_size - p1) < p2) → post (0 : Int32)) ∧ (¬ ((t_size - p1) < p2) → post (1 : Int32)))))
set_option maxHeartbeats 4000000 in
set_option maxRecDepth 100000 in
theorem wX9_hasBlock_0 {p : Program} (l : Launch) {e : Env} {s : State} {m : MethodId} {args : Array Value} {below : List Frame} {meth : Method} {c : Code} {dC : Nat → ClassId} {dI : Nat → Nat → Nat} {cy : Nat → ClassId} {A : Nat → Prop} (h : Nat → Nat) (post : Int32 → Prop)   (t_size : Int32) (p1 : Int32) (p2 : Int32) (C0 : cx p s m args meth c cX9_hasBlock 3 (some .boolean) wsX9_hasBlock RX9 dC dI cy A)  : VX9_hasBlock post t_size p1 p2  → ∀ (H : Heap) (locs : List Loc) (ls : Array Slot), va_P (dC, dI) vwCl (pX9_hasBlock cy h t_size) H → va_D A (pX9_hasBlock cy h t_size) → va_S A s.heap H locs → lv_has ls 3 [(0, .ref (h 0)), (1, .int p1), (2, .int p2)] → W p l e rX9_hasBlock s m args below meth c H locs 0 0 (MQ below (va_Qi (fun (r : Int32) (_ : Unit) => post r) (fun (_ : Unit) (t : State) => va_P (dC, dI) vwCl (pX9_hasBlock cy h t_size) t.heap) A) args s 0 0 A) (F0 m 0 ls []) := by
  have C1 := C0
  obtain ⟨hx, hb, hr, hml, hown, hts, hlocks, hK, hA⟩ := C1
  intro  hv H locs ls hP hD hS hl
  refine lv_iload_n hx hb dX9_hasBlock_0 rfl (lv_at hl 1 rfl) ?_
  refine lv_if_lt (tgt := 30) hx hb dX9_hasBlock_1 (by decide) (fun c_4 => ?_) (fun c_4 => ?_)
  · have hv := hv.1 c_4
    refine lv_iconst (v := 0) hx hb dX9_hasBlock_30 (by decide) ?_
    exact W.zret (v := 0) hx hb hr rfl (fun t ht hW => ⟨⟨0, (), rfl, hv, va_Ph ht hP⟩, hS.F ht⟩) hS.2.2 dX9_hasBlock_31
  · have hv := hv.2 c_4
    refine lv_iload_n hx hb dX9_hasBlock_4 rfl (lv_at hl 1 rfl) ?_
    refine lv_aload_n hx hb dX9_hasBlock_5 rfl (lv_at hl 0 rfl) ?_
    refine va_get (D := (dC, dI)) (ci := 9) (v := .int t_size) (C := RX9) (T := TX9) (N := 2) hx hb hts nX9_hasBlock_X9 hown hK hP 0 rfl rfl 1 (by decide) (hts _ mX9_hasBlock_1) (fun _ h9 => h9) rfl dX9_hasBlock_6 ?_
    refine lv_icmp_gt (tgt := 30) hx hb dX9_hasBlock_9 (by decide) (fun c_3 => ?_) (fun c_3 => ?_)
    · have hv := hv.1 c_3
      refine lv_iconst (v := 0) hx hb dX9_hasBlock_30 (by decide) ?_
      exact W.zret (v := 0) hx hb hr rfl (fun t ht hW => ⟨⟨0, (), rfl, hv, va_Ph ht hP⟩, hS.F ht⟩) hS.2.2 dX9_hasBlock_31
    · have hv := hv.2 c_3
      refine lv_iload_n hx hb dX9_hasBlock_12 rfl (lv_at hl 2 rfl) ?_
      refine lv_if_lt (tgt := 30) hx hb dX9_hasBlock_13 (by decide) (fun c_2 => ?_) (fun c_2 => ?_)
      · have hv := hv.1 c_2
        refine lv_iconst (v := 0) hx hb dX9_hasBlock_30 (by decide) ?_
        exact W.zret (v := 0) hx hb hr rfl (fun t ht hW => ⟨⟨0, (), rfl, hv, va_Ph ht hP⟩, hS.F ht⟩) hS.2.2 dX9_hasBlock_31
      · have hv := hv.2 c_2
        refine lv_iload_n hx hb dX9_hasBlock_16 rfl (lv_at hl 2 rfl) ?_
        refine lv_aload_n hx hb dX9_hasBlock_17 rfl (lv_at hl 0 rfl) ?_
        refine va_get (D := (dC, dI)) (ci := 9) (v := .int t_size) (C := RX9) (T := TX9) (N := 2) hx hb hts nX9_hasBlock_X9 hown hK hP 0 rfl rfl 1 (by decide) (hts _ mX9_hasBlock_1) (fun _ h9 => h9) rfl dX9_hasBlock_18 ?_
        refine lv_iload_n hx hb dX9_hasBlock_21 rfl (lv_at hl 1 rfl) ?_
        refine lv_isub hx hb dX9_hasBlock_22 ?_
        refine lv_icmp_gt (tgt := 30) hx hb dX9_hasBlock_23 (by decide) (fun c_1 => ?_) (fun c_1 => ?_)
        · have hv := hv.1 c_1
          refine lv_iconst (v := 0) hx hb dX9_hasBlock_30 (by decide) ?_
          exact W.zret (v := 0) hx hb hr rfl (fun t ht hW => ⟨⟨0, (), rfl, hv, va_Ph ht hP⟩, hS.F ht⟩) hS.2.2 dX9_hasBlock_31
        · have hv := hv.2 c_1
          refine lv_iconst (v := 1) hx hb dX9_hasBlock_26 (by decide) ?_
          refine lv_goto (tgt := 31) hx hb dX9_hasBlock_27 (by decide) ?_
          exact W.zret (v := 1) hx hb hr rfl (fun t ht hW => ⟨⟨1, (), rfl, hv, va_Ph ht hP⟩, hS.F ht⟩) hS.2.2 dX9_hasBlock_31
theorem kX9_hasBlock (l : Launch) (dC : Nat → ClassId) (dI : Nat → Nat → Nat) (cy : Nat → ClassId) (h : Nat → Nat) (t_size : Int32) (p1 : Int32) (p2 : Int32) (post : Int32 → Prop) (hv : VX9_hasBlock post t_size p1 p2 ) : CtI l yX9_hasBlock wsX9_hasBlock rX9_hasBlock dC dI cy [.ref (h 0), .int p1, .int p2] (pX9_hasBlock cy h t_size) (fun (_ : Unit) => pX9_hasBlock cy h t_size) (fun (r : Int32) (_ : Unit) => post r) :=
  ct_ofI (by decide) rfl (Nat.le_of_ble_eq_true rfl) (fun p e s m below meth c A ls C0 hP hD hS hl => wX9_hasBlock_0 l h post t_size p1 p2 C0  hv _ _ _ hP hD hS hl)
theorem mX9_count_1 : (Cond.methodLink RX9 7 Lib.Math.max.name) ∈ wsX9_count := List.mem_of_getElem? (i := 1) rfl
theorem mX9_count_2 : (Cond.static Lib.Math.max.name) ∈ wsX9_count := List.mem_of_getElem? (i := 2) rfl
theorem mX9_count_3 : (Cond.initialized "java/lang/Math") ∈ wsX9_count := List.mem_of_getElem? (i := 3) rfl
theorem mX9_count_4 : (Cond.code Lib.Math.max.name Lib.Math.max.code 2 (some .int)) ∈ wsX9_count := List.mem_of_getElem? (i := 4) rfl
theorem mX9_count_5 : (Cond.fieldLink RX9 19 "AbelianPowers$Word" "size" "I") ∈ wsX9_count := List.mem_of_getElem? (i := 5) rfl
theorem mX9_count_6 : (Cond.fieldLink RX9 13 "AbelianPowers$Word" "letters" "[I") ∈ wsX9_count := List.mem_of_getElem? (i := 6) rfl
theorem nX9_count_X9 : ∀ w ∈ wsX90, w ∈ wsX9_count := fun _ h => List.mem_cons_of_mem _ (List.mem_append_right _ h)
theorem zX9_count : yX9_count.cls = RX9 ∧ yX9_count.cls ≠ "java/lang/invoke/MethodHandle" ∧ yX9_count.cls ≠ "java/lang/invoke/VarHandle" ∧ (parseMethodDescriptor yX9_count.desc).map (fun d => d.parameters.length) = some 3 := by decide +kernel
abbrev rX9_count : Room := { frames := 1, cells := 0, slots := 0, locals := 13 }
abbrev pX9_count (cy : Nat → ClassId) (h : Nat → Nat) (t_n : Nat) (t_letters : Nat → Int32) (t_size : Int32) : va_W := [(h 0, .inr (9, [.ref (h 1), .int t_size])), (h 1, .inl (cy 0, t_n, .inl t_letters))]
def VX9_count_10 (post : Int32 → Prop)  (t_n : Nat) (t_letters : Nat → Int32) (t_size : Int32) (p1 : Int32) (p2 : Int32) (p3 : Int32) : Nat → Int32 → Int32 → Prop
  | 0, _, _ => False
  | n + 1, x4, x5 => ((p3 ≤ x5) → post x4) ∧ (¬ (p3 ≤ x5) → ((t_size ≤ x5) → post x4) ∧ (¬ (t_size ≤ x5) → vp_in x5 t_n ∧ ((¬ ((t_letters x5.toNatClampNeg) = p1) → VX9_count_10 post t_n t_letters t_size p1 p2 p3 n x4 (x5 + 1)) ∧ (((t_letters x5.toNatClampNeg) = p1) → VX9_count_10 post t_n t_letters t_size p1 p2 p3 n (x4 + 1) (x5 + 1)))))
def VX9_count (post : Int32 → Prop)  (t_n : Nat) (t_letters : Nat → Int32) (t_size : Int32) (p1 : Int32) (p2 : Int32) (p3 : Int32)  : Prop := ∃ n10 : Nat, VX9_count_10 post t_n t_letters t_size p1 p2 p3 n10 0 (if p2 < 0 then 0 else p2)
set_option maxHeartbeats 4000000 in
set_option maxRecDepth 100000 in
theorem wX9_count_10 {p : Program} (l : Launch) {e : Env} {s : State} {m : MethodId} {args : Array Value} {below : List Frame} {meth : Method} {c : Code} {dC : Nat → ClassId} {dI : Nat → Nat → Nat} {cy : Nat → ClassId} {A : Nat → Prop} (h : Nat → Nat) (t_n : Nat) (post : Int32 → Prop)   (t_letters : Nat → Int32) (t_size : Int32) (p1 : Int32) (p2 : Int32) (p3 : Int32) (C0 : cx p s m args meth c cX9_count 6 (some .int) wsX9_count RX9 dC dI cy A)  : ∀ (n : Nat) (x4 : Int32) (x5 : Int32), VX9_count_10 post t_n t_letters t_size p1 p2 p3 n x4 x5 → ∀ (H : Heap) (locs : List Loc) (ls : Array Slot), va_P (dC, dI) vwCl (pX9_count cy h t_n t_letters t_size) H → va_D A (pX9_count cy h t_n t_letters t_size) → va_S A s.heap H locs → lv_has ls 6 [(0, .ref (h 0)), (1, .int p1), (3, .int p3), (4, .int x4), (5, .int x5)] → W p l e rX9_count s m args below meth c H locs 0 0 (MQ below (va_Qi (fun (r : Int32) (_ : Unit) => post r) (fun (_ : Unit) (t : State) => va_P (dC, dI) vwCl (pX9_count cy h t_n t_letters t_size) t.heap) A) args s 0 0 A) (F0 m 10 ls []) := by
  have C1 := C0
  obtain ⟨hx, hb, hr, hml, hown, hts, hlocks, hK, hA⟩ := C1
  intro n
  induction n with
  | zero => intro x4 x5 hv; exact hv.elim
  | succ n ih =>
    intro x4 x5 hv H locs ls hP hD hS hl
    refine lv_iload hx hb dX9_count_10 (lv_at hl 4 rfl) ?_
    refine lv_iload_n hx hb dX9_count_12 rfl (lv_at hl 2 rfl) ?_
    refine lv_icmp_ge (tgt := 45) hx hb dX9_count_13 (by decide) (fun c_5 => ?_) (fun c_5 => ?_)
    · have hv := hv.1 c_5
      refine lv_iload hx hb dX9_count_45 (lv_at hl 3 rfl) ?_
      exact W.iret (v := x4) hx hb hr (fun t ht hW => ⟨⟨x4, (), rfl, hv, va_Ph ht hP⟩, hS.F ht⟩) hS.2.2 dX9_count_47
    · have hv := hv.2 c_5
      refine lv_iload hx hb dX9_count_16 (lv_at hl 4 rfl) ?_
      refine lv_aload_n hx hb dX9_count_18 rfl (lv_at hl 0 rfl) ?_
      refine va_get (D := (dC, dI)) (ci := 9) (v := .int t_size) (C := RX9) (T := TX9) (N := 2) hx hb hts nX9_count_X9 hown hK hP 0 rfl rfl 1 (by decide) (hts _ mX9_count_5) (fun _ h9 => h9) rfl dX9_count_19 ?_
      refine lv_icmp_ge (tgt := 45) hx hb dX9_count_22 (by decide) (fun c_4 => ?_) (fun c_4 => ?_)
      · have hv := hv.1 c_4
        refine lv_iload hx hb dX9_count_45 (lv_at hl 3 rfl) ?_
        exact W.iret (v := x4) hx hb hr (fun t ht hW => ⟨⟨x4, (), rfl, hv, va_Ph ht hP⟩, hS.F ht⟩) hS.2.2 dX9_count_47
      · have hv := hv.2 c_4
        refine lv_aload_n hx hb dX9_count_25 rfl (lv_at hl 0 rfl) ?_
        refine va_get (D := (dC, dI)) (ci := 9) (v := .ref (h 1)) (C := RX9) (T := TX9) (N := 2) hx hb hts nX9_count_X9 hown hK hP 0 rfl rfl 0 (by decide) (hts _ mX9_count_6) (fun _ h9 => h9) rfl dX9_count_26 ?_
        refine lv_iload hx hb dX9_count_29 (lv_at hl 4 rfl) ?_
        have h_2 := hv.1
        have hv := hv.2
        refine va_iald hx hb hK hP 1 0 rfl rfl h_2 dX9_count_31 ?_
        refine lv_iload_n hx hb dX9_count_32 rfl (lv_at hl 1 rfl) ?_
        refine lv_icmp_ne (tgt := 39) hx hb dX9_count_33 (by decide) (fun c_3 => ?_) (fun c_3 => ?_)
        · have hv := hv.1 c_3
          refine lv_iinc (v := (x5 + 1)) (lv' := [(5, .int ((x5 + 1))), (0, .ref (h 0)), (1, .int p1), (3, .int p3), (4, .int x4)]) hx hb dX9_count_39 hl (k := 4) rfl rfl (by decide) rfl (fun ls hl => ?_)
          refine lv_goto (tgt := 10) hx hb dX9_count_42 (by decide) ?_
          exact ih x4 (x5 + 1) hv _ _ _ hP hD hS (lv_sub hl [1, 2, 3, 4, 0] rfl)
        · have hv := hv.2 c_3
          refine lv_iinc (v := (x4 + 1)) (lv' := [(4, .int ((x4 + 1))), (0, .ref (h 0)), (1, .int p1), (3, .int p3), (5, .int x5)]) hx hb dX9_count_36 hl (k := 3) rfl rfl (by decide) rfl (fun ls hl => ?_)
          refine lv_iinc (v := (x5 + 1)) (lv' := [(5, .int ((x5 + 1))), (4, .int ((x4 + 1))), (0, .ref (h 0)), (1, .int p1), (3, .int p3)]) hx hb dX9_count_39 hl (k := 4) rfl rfl (by decide) rfl (fun ls hl => ?_)
          refine lv_goto (tgt := 10) hx hb dX9_count_42 (by decide) ?_
          exact ih (x4 + 1) (x5 + 1) hv _ _ _ hP hD hS (lv_sub hl [2, 3, 4, 1, 0] rfl)
set_option maxHeartbeats 4000000 in
set_option maxRecDepth 100000 in
theorem wX9_count_0 {p : Program} (l : Launch) {e : Env} {s : State} {m : MethodId} {args : Array Value} {below : List Frame} {meth : Method} {c : Code} {dC : Nat → ClassId} {dI : Nat → Nat → Nat} {cy : Nat → ClassId} {A : Nat → Prop} (h : Nat → Nat) (t_n : Nat) (post : Int32 → Prop)   (t_letters : Nat → Int32) (t_size : Int32) (p1 : Int32) (p2 : Int32) (p3 : Int32) (C0 : cx p s m args meth c cX9_count 6 (some .int) wsX9_count RX9 dC dI cy A)  : VX9_count post t_n t_letters t_size p1 p2 p3  → ∀ (H : Heap) (locs : List Loc) (ls : Array Slot), va_P (dC, dI) vwCl (pX9_count cy h t_n t_letters t_size) H → va_D A (pX9_count cy h t_n t_letters t_size) → va_S A s.heap H locs → lv_has ls 6 [(0, .ref (h 0)), (1, .int p1), (2, .int p2), (3, .int p3)] → W p l e rX9_count s m args below meth c H locs 0 0 (MQ below (va_Qi (fun (r : Int32) (_ : Unit) => post r) (fun (_ : Unit) (t : State) => va_P (dC, dI) vwCl (pX9_count cy h t_n t_letters t_size) t.heap) A) args s 0 0 A) (F0 m 0 ls []) := by
  have C1 := C0
  obtain ⟨hx, hb, hr, hml, hown, hts, hlocks, hK, hA⟩ := C1
  intro  hv H locs ls hP hD hS hl
  refine lv_iconst (v := 0) hx hb dX9_count_0 (by decide) ?_
  refine lv_istore (lv' := [(4, .int 0), (0, .ref (h 0)), (1, .int p1), (2, .int p2), (3, .int p3)]) hx hb dX9_count_1 hl (by decide) rfl (fun ls hl => ?_)
  refine lv_iload_n hx hb dX9_count_3 rfl (lv_at hl 3 rfl) ?_
  refine lv_iconst (v := 0) hx hb dX9_count_4 (by decide) ?_
  refine va_mmax hx hb (hml.trans hl.1.symm) hown (hts _ mX9_count_1) (hts _ mX9_count_2) (hts _ mX9_count_3) (hts _ mX9_count_4) (Nat.le_of_ble_eq_true rfl) (Nat.le_of_ble_eq_true rfl) (Nat.zero_le _) (Nat.zero_le _) dX9_count_5 ?_
  refine lv_istore (lv' := [(5, .int ((if p2 < 0 then 0 else p2))), (4, .int 0), (0, .ref (h 0)), (1, .int p1), (2, .int p2), (3, .int p3)]) hx hb dX9_count_8 hl (by decide) rfl (fun ls hl => ?_)
  obtain ⟨n_1, hv⟩ := hv
  exact wX9_count_10 l h t_n post  t_letters t_size p1 p2 p3 C0 n_1 0 (if p2 < 0 then 0 else p2) hv _ _ _ hP hD hS (lv_sub hl [2, 3, 5, 1, 0] rfl)
theorem kX9_count (l : Launch) (dC : Nat → ClassId) (dI : Nat → Nat → Nat) (cy : Nat → ClassId) (h : Nat → Nat) (t_n : Nat) (t_letters : Nat → Int32) (t_size : Int32) (p1 : Int32) (p2 : Int32) (p3 : Int32) (post : Int32 → Prop) (hv : VX9_count post t_n t_letters t_size p1 p2 p3 ) : CtI l yX9_count wsX9_count rX9_count dC dI cy [.ref (h 0), .int p1, .int p2, .int p3] (pX9_count cy h t_n t_letters t_size) (fun (_ : Unit) => pX9_count cy h t_n t_letters t_size) (fun (r : Int32) (_ : Unit) => post r) :=
  ct_ofI (by decide) rfl (Nat.le_of_ble_eq_true rfl) (fun p e s m below meth c A ls C0 hP hD hS hl => wX9_count_0 l h t_n post t_letters t_size p1 p2 p3 C0  hv _ _ _ hP hD hS hl)
