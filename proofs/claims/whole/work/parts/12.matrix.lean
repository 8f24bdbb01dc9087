theorem mX2_load_1 : (Cond.fieldLink RX2 15 "AbelianPowers$Setting" "letters" "I") ∈ wsX2_load := List.mem_of_getElem? (i := 1) rfl
theorem mX2_load_2 : (Cond.fieldLink RX2 21 "AbelianPowers$Matrix" "size" "I") ∈ wsX2_load := List.mem_of_getElem? (i := 2) rfl
theorem mX2_load_3 : (Cond.fieldLink RX2 24 "AbelianPowers$Setting" "images" "[LAbelianPowers$Word;") ∈ wsX2_load := List.mem_of_getElem? (i := 3) rfl
theorem mX2_load_4 : (Cond.fieldLink RX2 9 "AbelianPowers$Matrix" "entries" "[I") ∈ wsX2_load := List.mem_of_getElem? (i := 4) rfl
theorem mX2_load_5 : (Cond.fieldLink RX2 28 "AbelianPowers$Word" "size" "I") ∈ wsX2_load := List.mem_of_getElem? (i := 5) rfl
theorem nX2_load_X5 : ∀ w ∈ wsX50, w ∈ wsX2_load := fun _ h => List.mem_cons_of_mem _ (List.mem_append_left _ (List.mem_append_left _ (List.mem_append_right _ h)))
theorem nX2_load_X2 : ∀ w ∈ wsX20, w ∈ wsX2_load := fun _ h => List.mem_cons_of_mem _ (List.mem_append_left _ (List.mem_append_right _ h))
theorem nX2_load_X9 : ∀ w ∈ wsX90, w ∈ wsX2_load := fun _ h => List.mem_cons_of_mem _ (List.mem_append_right _ h)
theorem zX2_load : yX2_load.cls = RX2 ∧ yX2_load.cls ≠ "java/lang/invoke/MethodHandle" ∧ yX2_load.cls ≠ "java/lang/invoke/VarHandle" ∧ (parseMethodDescriptor yX2_load.desc).map (fun d => d.parameters.length) = some 1 := by decide +kernel
abbrev rX2_load : Room := { frames := 2, cells := 0, slots := 0, locals := 38 }
abbrev pX2_load (cy : Nat → ClassId) (h : Nat → Nat) (a1_images_A : Nat → Nat) (a1_images_B : Nat → Nat) (t_entries : Nat → Int32) (t_size : Int32) (a1_kind : Int32) (a1_exponent : Int32) (a1_letters : Int32) (a1_images_letters : Nat → Nat → Int32) (a1_images_size : Nat → Int32) : va_W := [(h 0, .inr (2, [.ref (h 1), .int t_size])), (h 1, .inl (cy 0, 16, .inl t_entries)), (h 2, .inr (5, [.int a1_kind, .int a1_exponent, .int a1_letters, .ref (h 4), .ref (h 5), .ref (h 3)])), (h 3, .inl (cy 3, 4, .inr (.inr (.inr (.inr (fun j => some (a1_images_A j))))))), (a1_images_A 0, .inr (9, [.ref (a1_images_B 0), .int (a1_images_size 0)])), (a1_images_B 0, .inl (cy 0, 4, .inl (a1_images_letters 0))), (a1_images_A 1, .inr (9, [.ref (a1_images_B 1), .int (a1_images_size 1)])), (a1_images_B 1, .inl (cy 0, 4, .inl (a1_images_letters 1))), (a1_images_A 2, .inr (9, [.ref (a1_images_B 2), .int (a1_images_size 2)])), (a1_images_B 2, .inl (cy 0, 4, .inl (a1_images_letters 2))), (a1_images_A 3, .inr (9, [.ref (a1_images_B 3), .int (a1_images_size 3)])), (a1_images_B 3, .inl (cy 0, 4, .inl (a1_images_letters 3)))]
def VX2_load_20 (post : (Nat → Int32) → Int32 → Prop) (K10 : (Nat → Int32) → Int32 → Int32 → Prop) (a1_letters : Int32) (a1_images_letters : Nat → Nat → Int32) (a1_images_size : Nat → Int32) : Nat → (Nat → Int32) → Int32 → Int32 → Int32 → Prop
  | 0, _, _, _, _ => False
  | n + 1, t_entries, t_size, x2, x3 => ((t_size ≤ x3) → K10 t_entries t_size (x2 + 1)) ∧ (¬ (t_size ≤ x3) → vp_in x3 4 ∧ (VX9_count (fun r_6 => vp_in (((4 : Int32) * x2) + x3) 16 ∧ (VX2_load_20 post K10 a1_letters a1_images_letters a1_images_size n (upd t_entries (((4 : Int32) * x2) + x3).toNatClampNeg r_6) t_size x2 (x3 + 1))) 4 (a1_images_letters x3.toNatClampNeg) (a1_images_size x3.toNatClampNeg) x2 0 (a1_images_size x3.toNatClampNeg)))
def VX2_load_10 (post : (Nat → Int32) → Int32 → Prop)  (a1_letters : Int32) (a1_images_letters : Nat → Nat → Int32) (a1_images_size : Nat → Int32) : Nat → (Nat → Int32) → Int32 → Int32 → Prop
  | 0, _, _, _ => False
  | n + 1, t_entries, t_size, x2 => ((t_size ≤ x2) → post t_entries t_size) ∧ (¬ (t_size ≤ x2) → ∃ n20 : Nat, VX2_load_20 post (fun t_entries t_size x2 => VX2_load_10 post a1_letters a1_images_letters a1_images_size n t_entries t_size x2) a1_letters a1_images_letters a1_images_size n20 t_entries t_size x2 0)
def VX2_load (post : (Nat → Int32) → Int32 → Prop)  (a1_letters : Int32) (a1_images_letters : Nat → Nat → Int32) (a1_images_size : Nat → Int32) (t_entries : Nat → Int32) (t_size : Int32) : Prop := ∃ n10 : Nat, VX2_load_10 post a1_letters a1_images_letters a1_images_size n10 t_entries a1_letters 0
set_option maxHeartbeats 4000000 in
set_option maxRecDepth 100000 in
theorem wX2_load_20 {p : Program} (l : Launch) {e : Env} {s : State} {m : MethodId} {args : Array Value} {below : List Frame} {meth : Method} {c : Code} {dC : Nat → ClassId} {dI : Nat → Nat → Nat} {cy : Nat → ClassId} {A : Nat → Prop} (h : Nat → Nat) (a1_images_A : Nat → Nat) (a1_images_B : Nat → Nat) (post : (Nat → Int32) → Int32 → Prop) (K10 : (Nat → Int32) → Int32 → Int32 → Prop)  (a1_kind : Int32) (a1_exponent : Int32) (a1_letters : Int32) (a1_images_letters : Nat → Nat → Int32) (a1_images_size : Nat → Int32)  (C0 : cx p s m args meth c cX2_load 5 none wsX2_load RX2 dC dI cy A) (hK10 : ∀ (t_entries : Nat → Int32) (t_size : Int32) (x2 : Int32), K10 t_entries t_size x2 → ∀ (H : Heap) (locs : List Loc) (ls : Array Slot), va_P (dC, dI) vwCl (pX2_load cy h a1_images_A a1_images_B t_entries t_size a1_kind a1_exponent a1_letters a1_images_letters a1_images_size) H → va_D A (pX2_load cy h a1_images_A a1_images_B t_entries t_size a1_kind a1_exponent a1_letters a1_images_letters a1_images_size) → va_S A s.heap H locs → lv_has ls 5 [(0, .ref (h 0)), (1, .ref (h 2)), (2, .int x2)] → W p l e rX2_load s m args below meth c H locs 0 0 (MQ below (va_Qv (fun (u : (Nat → Int32) × Int32) => post u.1 u.2) (fun (u : (Nat → Int32) × Int32) (t : State) => va_P (dC, dI) vwCl (pX2_load cy h a1_images_A a1_images_B u.1 u.2 a1_kind a1_exponent a1_letters a1_images_letters a1_images_size) t.heap) A) args s 0 0 A) (F0 m 10 ls [])) : ∀ (n : Nat) (t_entries : Nat → Int32) (t_size : Int32) (x2 : Int32) (x3 : Int32), VX2_load_20 post K10 a1_letters a1_images_letters a1_images_size n t_entries t_size x2 x3 → ∀ (H : Heap) (locs : List Loc) (ls : Array Slot), va_P (dC, dI) vwCl (pX2_load cy h a1_images_A a1_images_B t_entries t_size a1_kind a1_exponent a1_letters a1_images_letters a1_images_size) H → va_D A (pX2_load cy h a1_images_A a1_images_B t_entries t_size a1_kind a1_exponent a1_letters a1_images_letters a1_images_size) → va_S A s.heap H locs → lv_has ls 5 [(0, .ref (h 0)), (1, .ref (h 2)), (2, .int x2), (3, .int x3)] → W p l e rX2_load s m args below meth c H locs 0 0 (MQ below (va_Qv (fun (u : (Nat → Int32) × Int32) => post u.1 u.2) (fun (u : (Nat → Int32) × Int32) (t : State) => va_P (dC, dI) vwCl (pX2_load cy h a1_images_A a1_images_B u.1 u.2 a1_kind a1_exponent a1_letters a1_images_letters a1_images_size) t.heap) A) args s 0 0 A) (F0 m 20 ls []) := by
  have C1 := C0
  obtain ⟨hx, hb, hr, hml, hown, hts, hlocks, hK, hA⟩ := C1
  intro n
  induction n with
  | zero => intro t_entries t_size x2 x3 hv; exact hv.elim
  | succ n ih =>
    intro t_entries t_size x2 x3 hv H locs ls hP hD hS hl
    refine lv_iload_n hx hb dX2_load_20 rfl (lv_at hl 3 rfl) ?_
    refine lv_aload_n hx hb dX2_load_21 rfl (lv_at hl 0 rfl) ?_
    refine va_get (D := (dC, dI)) (ci := 2) (v := .int t_size) (C := RX2) (T := TX2) (N := 2) hx hb hts nX2_load_X2 hown hK hP 0 rfl rfl 1 (by decide) (hts _ mX2_load_2) (fun _ h9 => h9) rfl dX2_load_22 ?_
    refine lv_icmp_ge (tgt := 64) hx hb dX2_load_25 (by decide) (fun c_10 => ?_) (fun c_10 => ?_)
    · have hv := hv.1 c_10
      refine lv_iinc (v := (x2 + 1)) (lv' := [(2, .int ((x2 + 1))), (0, .ref (h 0)), (1, .ref (h 2)), (3, .int x3)]) hx hb dX2_load_64 hl (k := 2) rfl rfl (by decide) rfl (fun ls hl => ?_)
      refine lv_goto (tgt := 10) hx hb dX2_load_67 (by decide) ?_
      exact hK10 t_entries t_size (x2 + 1) hv _ _ _ hP hD hS (lv_sub hl [1, 2, 0] rfl)
    · have hv := hv.2 c_10
      refine lv_aload_n hx hb dX2_load_28 rfl (lv_at hl 1 rfl) ?_
      refine va_get (D := (dC, dI)) (ci := 5) (v := .ref (h 3)) (C := RX5) (T := TX5) (N := 6) hx hb hts nX2_load_X5 hown hK hP 2 rfl rfl 5 (by decide) (hts _ mX2_load_3) (fun _ h9 => h9) rfl dX2_load_29 ?_
      refine lv_iload_n hx hb dX2_load_32 rfl (lv_at hl 3 rfl) ?_
      have h_4 := hv.1
      have hv := hv.2
      have hj_5 : x3.toNatClampNeg < 4 := Nat.not_le.mp fun q => h_4 (Or.inr q)
      refine va_aldq hx hb hK hP 3 3 rfl rfl h_4 dX2_load_33 ?_
      refine W.eq (g2 := F0 m 34 ls ([.ref (a1_images_A x3.toNatClampNeg)])) rfl ?_
      refine lv_astore (lv' := [(4, .ref (a1_images_A x3.toNatClampNeg)), (0, .ref (h 0)), (1, .ref (h 2)), (2, .int x2), (3, .int x3)]) hx hb dX2_load_34 hl (by decide) rfl (fun ls hl => ?_)
      refine lv_aload_n hx hb dX2_load_36 rfl (lv_at hl 1 rfl) ?_
      refine va_get (D := (dC, dI)) (ci := 2) (v := .ref (h 1)) (C := RX2) (T := TX2) (N := 2) hx hb hts nX2_load_X2 hown hK hP 0 rfl rfl 0 (by decide) (hts _ mX2_load_4) (fun _ h9 => h9) rfl dX2_load_37 ?_
      refine lv_iconst (v := 4) hx hb dX2_load_40 (by decide) ?_
      refine lv_iload_n hx hb dX2_load_41 rfl (lv_at hl 3 rfl) ?_
      refine lv_imul hx hb dX2_load_42 ?_
      refine lv_iload_n hx hb dX2_load_43 rfl (lv_at hl 4 rfl) ?_
      refine lv_iadd hx hb dX2_load_44 ?_
      refine lv_aload hx hb dX2_load_45 (lv_at hl 0 rfl) ?_
      refine lv_iload_n hx hb dX2_load_47 rfl (lv_at hl 3 rfl) ?_
      refine lv_iconst (v := 0) hx hb dX2_load_48 (by decide) ?_
      refine lv_aload hx hb dX2_load_49 (lv_at hl 0 rfl) ?_
      refine va_get (D := (dC, dI)) (ci := 9) (v := .int ((a1_images_size x3.toNatClampNeg))) (C := RX9) (T := TX9) (N := 2) hx hb hts nX2_load_X9 hown hK hP (4 + 2 * x3.toNatClampNeg) (co_4 (P := fun j => (pX2_load cy h a1_images_A a1_images_B t_entries t_size a1_kind a1_exponent a1_letters a1_images_letters a1_images_size)[4 + 2 * j]? = some (a1_images_A j, .inr (9, [.ref (a1_images_B j), .int (a1_images_size j)]))) rfl rfl rfl rfl hj_5) rfl 1 (by decide) (hts _ mX2_load_5) (fun _ h9 => h9) rfl dX2_load_51 ?_
      refine ca_VI (As := [.int x2, .int 0, .int ((a1_images_size x3.toNatClampNeg))]) (rest := [.int ((((4 : Int32) * x2) + x3)), .ref (h 1)]) ⟨hx, hb, hml, hown, hts⟩ (kX9_count l dC dI cy (adl [a1_images_A x3.toNatClampNeg, a1_images_B x3.toNatClampNeg]) 4 (a1_images_letters x3.toNatClampNeg) (a1_images_size x3.toNatClampNeg) x2 0 (a1_images_size x3.toNatClampNeg) _ hv) (cwV 3 hts gX2_load_X9_count rfl rfl rfl zX9_count ⟨Nat.le_of_ble_eq_true rfl, Nat.le_of_ble_eq_true rfl⟩) hK hP hD hS hA [4 + 2 * x3.toNatClampNeg, 5 + 2 * x3.toNatClampNeg] (co_4 (P := fun j => [4 + 2 * j, 5 + 2 * j].map (fun i => (pX2_load cy h a1_images_A a1_images_B t_entries t_size a1_kind a1_exponent a1_letters a1_images_letters a1_images_size)[i]?) = (pX9_count cy (adl [a1_images_A j, a1_images_B j]) 4 (a1_images_letters j) (a1_images_size j)).map some) rfl rfl rfl rfl hj_5) (co_4 (P := fun j => va_nd [4 + 2 * j, 5 + 2 * j] = true) rfl rfl rfl rfl hj_5) (ci := 9) rfl rfl (fun _ => rfl) rfl hl.1 rfl (Nat.le_of_ble_eq_true rfl) dX2_load_54 (fun r_6 w_8 H locs hv hP hD hS => ?_)
      have eP_9 := (co_4 (P := fun j => setL (pX2_load cy h a1_images_A a1_images_B t_entries t_size a1_kind a1_exponent a1_letters a1_images_letters a1_images_size) [4 + 2 * j, 5 + 2 * j] (pX9_count cy (adl [a1_images_A j, a1_images_B j]) 4 (a1_images_letters j) (a1_images_size j)) = pX2_load cy h a1_images_A a1_images_B t_entries t_size a1_kind a1_exponent a1_letters a1_images_letters a1_images_size) rfl rfl rfl rfl hj_5)
      have hP := va_Pe hP eP_9
      have hD := va_De hD eP_9
      have h_7 := hv.1
      have hv := hv.2
      refine va_iast hx hb hK hP hD hS 1 0 rfl rfl h_7 dX2_load_57 (fun H locs hP hD hS => ?_)
      have hP : va_P (dC, dI) vwCl (pX2_load cy h a1_images_A a1_images_B (upd t_entries (((4 : Int32) * x2) + x3).toNatClampNeg r_6) t_size a1_kind a1_exponent a1_letters a1_images_letters a1_images_size) H := hP
      have hD : va_D A (pX2_load cy h a1_images_A a1_images_B (upd t_entries (((4 : Int32) * x2) + x3).toNatClampNeg r_6) t_size a1_kind a1_exponent a1_letters a1_images_letters a1_images_size) := hD
      refine lv_iinc (v := (x3 + 1)) (lv' := [(3, .int ((x3 + 1))), (4, .ref (a1_images_A x3.toNatClampNeg)), (0, .ref (h 0)), (1, .ref (h 2)), (2, .int x2)]) hx hb dX2_load_58 hl (k := 4) rfl rfl (by decide) rfl (fun ls hl => ?_)
      refine lv_goto (tgt := 20) hx hb dX2_load_61 (by decide) ?_
      exact ih (upd t_entries (((4 : Int32) * x2) + x3).toNatClampNeg r_6) t_size x2 (x3 + 1) hv _ _ _ hP hD hS (lv_sub hl [2, 3, 4, 0] rfl)
set_option maxHeartbeats 4000000 in
set_option maxRecDepth 100000 in
theorem wX2_load_10 {p : Program} (l : Launch) {e : Env} {s : State} {m : MethodId} {args : Array Value} {below : List Frame} {meth : Method} {c : Code} {dC : Nat → ClassId} {dI : Nat → Nat → Nat} {cy : Nat → ClassId} {A : Nat → Prop} (h : Nat → Nat) (a1_images_A : Nat → Nat) (a1_images_B : Nat → Nat) (post : (Nat → Int32) → Int32 → Prop)   (a1_kind : Int32) (a1_exponent : Int32) (a1_letters : Int32) (a1_images_letters : Nat → Nat → Int32) (a1_images_size : Nat → Int32)  (C0 : cx p s m args meth c cX2_load 5 none wsX2_load RX2 dC dI cy A)  : ∀ (n : Nat) (t_entries : Nat → Int32) (t_size : Int32) (x2 : Int32), VX2_load_10 post a1_letters a1_images_letters a1_images_size n t_entries t_size x2 → ∀ (H : Heap) (locs : List Loc) (ls : Array Slot), va_P (dC, dI) vwCl (pX2_load cy h a1_images_A a1_images_B t_entries t_size a1_kind a1_exponent a1_letters a1_images_letters a1_images_size) H → va_D A (pX2_load cy h a1_images_A a1_images_B t_entries t_size a1_kind a1_exponent a1_letters a1_images_letters a1_images_size) → va_S A s.heap H locs → lv_has ls 5 [(0, .ref (h 0)), (1, .ref (h 2)), (2, .int x2)] → W p l e rX2_load s m args below meth c H locs 0 0 (MQ below (va_Qv (fun (u : (Nat → Int32) × Int32) => post u.1 u.2) (fun (u : (Nat → Int32) × Int32) (t : State) => va_P (dC, dI) vwCl (pX2_load cy h a1_images_A a1_images_B u.1 u.2 a1_kind a1_exponent a1_letters a1_images_letters a1_images_size) t.heap) A) args s 0 0 A) (F0 m 10 ls []) := by
  have C1 := C0
  obtain ⟨hx, hb, hr, hml, hown, hts, hlocks, hK, hA⟩ := C1
  intro n
  induction n with
  | zero => intro t_entries t_size x2 hv; exact hv.elim
  | succ n ih =>
    intro t_entries t_size x2 hv H locs ls hP hD hS hl
    refine lv_iload_n hx hb dX2_load_10 rfl (lv_at hl 2 rfl) ?_
    refine lv_aload_n hx hb dX2_load_11 rfl (lv_at hl 0 rfl) ?_
    refine va_get (D := (dC, dI)) (ci := 2) (v := .int t_size) (C := RX2) (T := TX2) (N := 2) hx hb hts nX2_load_X2 hown hK hP 0 rfl rfl 1 (by decide) (hts _ mX2_load_2) (fun _ h9 => h9) rfl dX2_load_12 ?_
    refine lv_icmp_ge (tgt := 70) hx hb dX2_load_15 (by decide) (fun c_3 => ?_) (fun c_3 => ?_)
    · have hv := hv.1 c_3
      exact W.vret hx hb hr (fun t ht hW => ⟨⟨(t_entries, t_size), rfl, hv, va_Ph ht hP⟩, hS.F ht⟩) hS.2.2 dX2_load_70
    · have hv := hv.2 c_3
      refine lv_iconst (v := 0) hx hb dX2_load_18 (by decide) ?_
      refine lv_istore_n (lv' := [(3, .int 0), (0, .ref (h 0)), (1, .ref (h 2)), (2, .int x2)]) hx hb dX2_load_19 rfl hl (by decide) rfl (fun ls hl => ?_)
      obtain ⟨n_2, hv⟩ := hv
      exact wX2_load_20 l h a1_images_A a1_images_B post (fun t_entries t_size x2 => VX2_load_10 post a1_letters a1_images_letters a1_images_size n t_entries t_size x2)  a1_kind a1_exponent a1_letters a1_images_letters a1_images_size C0 ih n_2 t_entries t_size x2 0 hv _ _ _ hP hD hS (lv_sub hl [1, 2, 3, 0] rfl)
set_option maxHeartbeats 4000000 in
set_option maxRecDepth 100000 in
theorem wX2_load_0 {p : Program} (l : Launch) {e : Env} {s : State} {m : MethodId} {args : Array Value} {below : List Frame} {meth : Method} {c : Code} {dC : Nat → ClassId} {dI : Nat → Nat → Nat} {cy : Nat → ClassId} {A : Nat → Prop} (h : Nat → Nat) (a1_images_A : Nat → Nat) (a1_images_B : Nat → Nat) (post : (Nat → Int32) → Int32 → Prop)   (a1_kind : Int32) (a1_exponent : Int32) (a1_letters : Int32) (a1_images_letters : Nat → Nat → Int32) (a1_images_size : Nat → Int32)  (C0 : cx p s m args meth c cX2_load 5 none wsX2_load RX2 dC dI cy A)  : ∀ (t_entries : Nat → Int32) (t_size : Int32), VX2_load post a1_letters a1_images_letters a1_images_size t_entries t_size → ∀ (H : Heap) (locs : List Loc) (ls : Array Slot), va_P (dC, dI) vwCl (pX2_load cy h a1_images_A a1_images_B t_entries t_size a1_kind a1_exponent a1_letters a1_images_letters a1_images_size) H → va_D A (pX2_load cy h a1_images_A a1_images_B t_entries t_size a1_kind a1_exponent a1_letters a1_images_letters a1_images_size) → va_S A s.heap H locs → lv_has ls 5 [(0, .ref (h 0)), (1, .ref (h 2))] → W p l e rX2_load s m args below meth c H locs 0 0 (MQ below (va_Qv (fun (u : (Nat → Int32) × Int32) => post u.1 u.2) (fun (u : (Nat → Int32) × Int32) (t : State) => va_P (dC, dI) vwCl (pX2_load cy h a1_images_A a1_images_B u.1 u.2 a1_kind a1_exponent a1_letters a1_images_letters a1_images_size) t.heap) A) args s 0 0 A) (F0 m 0 ls []) := by
  have C1 := C0
  obtain ⟨hx, hb, hr, hml, hown, hts, hlocks, hK, hA⟩ := C1
  intro t_entries t_size hv H locs ls hP hD hS hl
  refine lv_aload_n hx hb dX2_load_0 rfl (lv_at hl 0 rfl) ?_
  refine lv_aload_n hx hb dX2_load_1 rfl (lv_at hl 1 rfl) ?_
  refine va_get (D := (dC, dI)) (ci := 5) (v := .int a1_letters) (C := RX5) (T := TX5) (N := 6) hx hb hts nX2_load_X5 hown hK hP 2 rfl rfl 2 (by decide) (hts _ mX2_load_1) (fun _ h9 => h9) rfl dX2_load_2 ?_
  refine va_put (D := (dC, dI)) (ci := 2) (v := .int a1_letters) (ty := .int) (C := RX2) (T := TX2) (N := 2) hx hb hts nX2_load_X2 tyX2 tyX2_ok nmX2 hown hK hP hD hS 0 rfl rfl 1 (by decide) (hts _ mX2_load_2) (fun _ h9 => h9) rfl (by decide +kernel) rfl rfl (Nat.le_of_ble_eq_true rfl) dX2_load_5 (fun H locs hP hD hS => ?_)
  have hP : va_P (dC, dI) vwCl (pX2_load cy h a1_images_A a1_images_B t_entries a1_letters a1_kind a1_exponent a1_letters a1_images_letters a1_images_size) H := hP
  have hD : va_D A (pX2_load cy h a1_images_A a1_images_B t_entries a1_letters a1_kind a1_exponent a1_letters a1_images_letters a1_images_size) := hD
  refine lv_iconst (v := 0) hx hb dX2_load_8 (by decide) ?_
  refine lv_istore_n (lv' := [(2, .int 0), (0, .ref (h 0)), (1, .ref (h 2))]) hx hb dX2_load_9 rfl hl (by decide) rfl (fun ls hl => ?_)
  obtain ⟨n_1, hv⟩ := hv
  exact wX2_load_10 l h a1_images_A a1_images_B post  a1_kind a1_exponent a1_letters a1_images_letters a1_images_size C0 n_1 t_entries a1_letters 0 hv _ _ _ hP hD hS (lv_sub hl [1, 2, 0] rfl)
theorem kX2_load (l : Launch) (dC : Nat → ClassId) (dI : Nat → Nat → Nat) (cy : Nat → ClassId) (h : Nat → Nat) (a1_images_A : Nat → Nat) (a1_images_B : Nat → Nat) (t_entries : Nat → Int32) (t_size : Int32) (a1_kind : Int32) (a1_exponent : Int32) (a1_letters : Int32) (a1_images_letters : Nat → Nat → Int32) (a1_images_size : Nat → Int32)  (post : (Nat → Int32) → Int32 → Prop) (hv : VX2_load post a1_letters a1_images_letters a1_images_size t_entries t_size) : CtV l yX2_load wsX2_load rX2_load dC dI cy [.ref (h 0), .ref (h 2)] (pX2_load cy h a1_images_A a1_images_B t_entries t_size a1_kind a1_exponent a1_letters a1_images_letters a1_images_size) (fun (u : (Nat → Int32) × Int32) => pX2_load cy h a1_images_A a1_images_B u.1 u.2 a1_kind a1_exponent a1_letters a1_images_letters a1_images_size) (fun (u : (Nat → Int32) × Int32) => post u.1 u.2) :=
  ct_ofV (by decide) rfl (Nat.le_of_ble_eq_true rfl) (fun p e s m below meth c A ls C0 hP hD hS hl => wX2_load_0 l h a1_images_A a1_images_B post a1_kind a1_exponent a1_letters a1_images_letters a1_images_size C0 t_entries t_size hv _ _ _ hP hD hS hl)
theorem mX2_allColumns_1 : (Cond.fieldLink RX2 21 "AbelianPowers$Matrix" "size" "I") ∈ wsX2_allColumns := List.mem_of_getElem? (i := 1) rfl
theorem nX2_allColumns_X2 : ∀ w ∈ wsX20, w ∈ wsX2_allColumns := fun _ h => List.mem_cons_of_mem _ (List.mem_append_right _ h)
theorem zX2_allColumns : yX2_allColumns.cls = RX2 ∧ yX2_allColumns.cls ≠ "java/lang/invoke/MethodHandle" ∧ yX2_allColumns.cls ≠ "java/lang/invoke/VarHandle" ∧ (parseMethodDescriptor yX2_allColumns.desc).map (fun d => d.parameters.length) = some 0 := by decide +kernel
abbrev rX2_allColumns : Room := { frames := 0, cells := 0, slots := 0, locals := 0 }
abbrev pX2_allColumns (cy : Nat → ClassId) (h : Nat → Nat) (t_size : Int32) : va_W := [(h 0, .inr (2, [.ref (h 1), .int t_size]))]
def VX2_allColumns (post : Int32 → Prop)  (t_size : Int32)  : Prop := ∀ y_1 : Int32, y_1 = ((1 : Int32) <<< (t_size &&& 31)) → post (y_1 - 1)
set_option maxHeartbeats 4000000 in
set_option maxRecDepth 100000 in
theorem wX2_allColumns_0 {p : Program} (l : Launch) {e : Env} {s : State} {m : MethodId} {args : Array Value} {below : List Frame} {meth : Method} {c : Code} {dC : Nat → ClassId} {dI : Nat → Nat → Nat} {cy : Nat → ClassId} {A : Nat → Prop} (h : Nat → Nat) (post : Int32 → Prop)   (t_size : Int32)  (C0 : cx p s m args meth c cX2_allColumns 1 (some .int) wsX2_allColumns RX2 dC dI cy A)  : VX2_allColumns post t_size  → ∀ (H : Heap) (locs : List Loc) (ls : Array Slot), va_P (dC, dI) vwCl (pX2_allColumns cy h t_size) H → va_D A (pX2_allColumns cy h t_size) → va_S A s.heap H locs → lv_has ls 1 [(0, .ref (h 0))] → W p l e rX2_allColumns s m args below meth c H locs 0 0 (MQ below (va_Qi (fun (r : Int32) (_ : Unit) => post r) (fun (_ : Unit) (t : State) => va_P (dC, dI) vwCl (pX2_allColumns cy h t_size) t.heap) A) args s 0 0 A) (F0 m 0 ls []) := by
  have C1 := C0
  obtain ⟨hx, hb, hr, hml, hown, hts, hlocks, hK, hA⟩ := C1
  intro  hv H locs ls hP hD hS hl
  refine lv_iconst (v := 1) hx hb dX2_allColumns_0 (by decide) ?_
  refine lv_aload_n hx hb dX2_allColumns_1 rfl (lv_at hl 0 rfl) ?_
  refine va_get (D := (dC, dI)) (ci := 2) (v := .int t_size) (C := RX2) (T := TX2) (N := 2) hx hb hts nX2_allColumns_X2 hown hK hP 0 rfl rfl 1 (by decide) (hts _ mX2_allColumns_1) (fun _ h9 => h9) rfl dX2_allColumns_2 ?_
  refine lv_ishl hx hb dX2_allColumns_5 ?_
  refine lv_topi (fun y_1 ey_1 => ?_)
  have hv := hv y_1 ey_1
  refine lv_iconst (v := 1) hx hb dX2_allColumns_6 (by decide) ?_
  refine lv_isub hx hb dX2_allColumns_7 ?_
  exact W.iret (v := (y_1 - 1)) hx hb hr (fun t ht hW => ⟨⟨(y_1 - 1), (), rfl, hv, va_Ph ht hP⟩, hS.F ht⟩) hS.2.2 dX2_allColumns_8
theorem kX2_allColumns (l : Launch) (dC : Nat → ClassId) (dI : Nat → Nat → Nat) (cy : Nat → ClassId) (h : Nat → Nat) (t_size : Int32)  (post : Int32 → Prop) (hv : VX2_allColumns post t_size ) : CtI l yX2_allColumns wsX2_allColumns rX2_allColumns dC dI cy [.ref (h 0)] (pX2_allColumns cy h t_size) (fun (_ : Unit) => pX2_allColumns cy h t_size) (fun (r : Int32) (_ : Unit) => post r) :=
  ct_ofI (by decide) rfl (Nat.le_of_ble_eq_true rfl) (fun p e s m below meth c A ls C0 hP hD hS hl => wX2_allColumns_0 l h post t_size C0  hv _ _ _ hP hD hS hl)
theorem zX2_minor : yX2_minor.cls ≠ "java/lang/invoke/MethodHandle" ∧ yX2_minor.cls ≠ "java/lang/invoke/VarHandle" ∧ (parseMethodDescriptor yX2_minor.desc).map (fun d => d.parameters.length) = some 5 := by decide +kernel
abbrev rX2_minor (d : Nat) : Room := { frames := 0 + d, cells := 0, slots := 0, locals := 0 + d * 28 }
abbrev pX2_minor (cy : Nat → ClassId) (h : Nat → Nat) (a0 : Nat → Int32) : va_W := [(h 0, .inl (cy 0, 16, .inl a0))]
def VX2_minor_38 (post : Int32 → Prop)  (rec : (Int32 → Prop) → Int32 → Int32 → Int32 → Int32 → Prop) (a0 : Nat → Int32) (p1 : Int32) (p2 : Int32) (p3 : Int32) (p4 : Int32) : Nat → Int32 → Int32 → Int32 → Prop
  | 0, _, _, _ => False
  | n + 1, x5, x6, x7 => ((p1 ≤ x7) → post x5) ∧ (¬ (p1 ≤ x7) → ((((p4 >>> (x7 &&& 31)) &&& 1) = 0) → VX2_minor_38 post rec a0 p1 p2 p3 p4 n x5 x6 (x7 + 1)) ∧ (¬ (((p4 >>> (x7 &&& 31)) &&& 1) = 0) → vp_in (((4 : Int32) * p2) + x7) 16 ∧ (∀ y_7 : Int32, y_7 = (a0 (((4 : Int32) * p2) + x7).toNatClampNeg) → ((y_7 = 0) → VX2_minor_38 post rec a0 p1 p2 p3 p4 n x5 (-x6) (x7 + 1)) ∧ (¬ (y_7 = 0) → ∀ y_9 : Int32, y_9 = ((1 : Int32) <<< (x7 &&& 31)) → rec (fun r_10 => VX2_minor_38 post rec a0 p1 p2 p3 p4 n (x5 + ((x6 * y_7) * r_10)) (-x6) (x7 + 1)) p1 (p2 + 1) p3 (p4 &&& (y_9 ^^^ (-1)))))))
def VX2_minors (post : Int32 → Prop)  (rec : (Int32 → Prop) → Int32 → Int32 → Int32 → Int32 → Prop) (a0 : Nat → Int32) (p1 : Int32) (p2 : Int32) (p3 : Int32) (p4 : Int32)  : Prop := ((p1 ≤ p2) → post (1 : Int32)) ∧ (¬ (p1 ≤ p2) → ((p2 < 4) → (¬ (p2 = p3) → ∃ n38 : Nat, VX2_minor_38 post rec a0 p1 p2 p3 p4 n38 0 1 0) ∧ ((p2 = p3) → rec (fun r_2 => post r_2) p1 (p2 + 1) p3 p4)) ∧ (¬ (p2 < 4) → post (1 : Int32)))
set_option maxHeartbeats 4000000 in
set_option maxRecDepth 100000 in
theorem wX2_minor_38 {p : Program} (l : Launch) {e : Env} {s : State} {m : MethodId} {args : Array Value} {below : List Frame} {meth : Method} {c : Code} {dC : Nat → ClassId} {dI : Nat → Nat → Nat} {cy : Nat → ClassId} {A : Nat → Prop} (h : Nat → Nat) (post : Int32 → Prop)  (rec : (Int32 → Prop) → Int32 → Int32 → Int32 → Int32 → Prop) (d : Nat)  (a0 : Nat → Int32) (p1 : Int32) (p2 : Int32) (p3 : Int32) (p4 : Int32) (C0 : cx p s m args meth c cX2_minor 9 (some .int) wsX2_minor RX2 dC dI cy A) (hrec : ∀ (p1 : Int32) (p2 : Int32) (p3 : Int32) (p4 : Int32) (post : Int32 → Prop), rec post p1 p2 p3 p4 → CtI l yX2_minor wsX2_minor (rX2_minor d) dC dI cy [.ref (h 0), .int p1, .int p2, .int p3, .int p4] (pX2_minor cy h a0) (fun (_ : Unit) => pX2_minor cy h a0) (fun (r : Int32) (_ : Unit) => post r))  : ∀ (n : Nat) (x5 : Int32) (x6 : Int32) (x7 : Int32), VX2_minor_38 post rec a0 p1 p2 p3 p4 n x5 x6 x7 → ∀ (H : Heap) (locs : List Loc) (ls : Array Slot), va_P (dC, dI) vwCl (pX2_minor cy h a0) H → va_D A (pX2_minor cy h a0) → va_S A s.heap H locs → lv_has ls 9 [(0, .ref (h 0)), (1, .int p1), (2, .int p2), (3, .int p3), (4, .int p4), (5, .int x5), (6, .int x6), (7, .int x7)] → W p l e (rX2_minor (d + 1)) s m args below meth c H locs 0 0 (MQ below (va_Qi (fun (r : Int32) (_ : Unit) => post r) (fun (_ : Unit) (t : State) => va_P (dC, dI) vwCl (pX2_minor cy h a0) t.heap) A) args s 0 0 A) (F0 m 38 ls []) := by
  have C1 := C0
  obtain ⟨hx, hb, hr, hml, hown, hts, hlocks, hK, hA⟩ := C1
  intro n
  induction n with
  | zero => intro x5 x6 x7 hv; exact hv.elim
  | succ n ih =>
    intro x5 x6 x7 hv H locs ls hP hD hS hl
    refine lv_iload hx hb dX2_minor_38 (lv_at hl 7 rfl) ?_
    refine lv_iload_n hx hb dX2_minor_40 rfl (lv_at hl 1 rfl) ?_
    refine lv_icmp_ge (tgt := 109) hx hb dX2_minor_41 (by decide) (fun c_14 => ?_) (fun c_14 => ?_)
    · have hv := hv.1 c_14
      refine lv_iload hx hb dX2_minor_109 (lv_at hl 5 rfl) ?_
      exact W.iret (v := x5) hx hb hr (fun t ht hW => ⟨⟨x5, (), rfl, hv, va_Ph ht hP⟩, hS.F ht⟩) hS.2.2 dX2_minor_111
    · have hv := hv.2 c_14
      refine lv_iload hx hb dX2_minor_44 (lv_at hl 4 rfl) ?_
      refine lv_iload hx hb dX2_minor_46 (lv_at hl 7 rfl) ?_
      refine lv_ishr hx hb dX2_minor_48 ?_
      refine lv_iconst (v := 1) hx hb dX2_minor_49 (by decide) ?_
      refine lv_iand hx hb dX2_minor_50 ?_
      refine lv_if_eq (tgt := 103) hx hb dX2_minor_51 (by decide) (fun c_13 => ?_) (fun c_13 => ?_)
      · have hv := hv.1 c_13
        refine lv_iinc (v := (x7 + 1)) (lv' := [(7, .int ((x7 + 1))), (0, .ref (h 0)), (1, .int p1), (2, .int p2), (3, .int p3), (4, .int p4), (5, .int x5), (6, .int x6)]) hx hb dX2_minor_103 hl (k := 7) rfl rfl (by decide) rfl (fun ls hl => ?_)
        refine lv_goto (tgt := 38) hx hb dX2_minor_106 (by decide) ?_
        exact ih x5 x6 (x7 + 1) hv _ _ _ hP hD hS (lv_sub hl [1, 2, 3, 4, 5, 6, 7, 0] rfl)
      · have hv := hv.2 c_13
        refine lv_aload_n hx hb dX2_minor_54 rfl (lv_at hl 0 rfl) ?_
        refine lv_iconst (v := 4) hx hb dX2_minor_55 (by decide) ?_
        refine lv_iload_n hx hb dX2_minor_56 rfl (lv_at hl 2 rfl) ?_
        refine lv_imul hx hb dX2_minor_57 ?_
        refine lv_iload hx hb dX2_minor_58 (lv_at hl 7 rfl) ?_
        refine lv_iadd hx hb dX2_minor_60 ?_
        have h_8 := hv.1
        have hv := hv.2
        refine va_iald hx hb hK hP 0 0 rfl rfl h_8 dX2_minor_61 ?_
        refine lv_topi (fun y_7 ey_7 => ?_)
        have hv := hv y_7 ey_7
        refine lv_istore (lv' := [(8, .int y_7), (0, .ref (h 0)), (1, .int p1), (2, .int p2), (3, .int p3), (4, .int p4), (5, .int x5), (6, .int x6), (7, .int x7)]) hx hb dX2_minor_62 hl (by decide) rfl (fun ls hl => ?_)
        refine lv_iload hx hb dX2_minor_64 (lv_at hl 0 rfl) ?_
        refine lv_if_eq (tgt := 98) hx hb dX2_minor_66 (by decide) (fun c_12 => ?_) (fun c_12 => ?_)
        · have hv := hv.1 c_12
          refine lv_iload hx hb dX2_minor_98 (lv_at hl 7 rfl) ?_
          refine lv_ineg hx hb dX2_minor_100 ?_
          refine lv_istore (lv' := [(6, .int ((-x6))), (8, .int y_7), (0, .ref (h 0)), (1, .int p1), (2, .int p2), (3, .int p3), (4, .int p4), (5, .int x5), (7, .int x7)]) hx hb dX2_minor_101 hl (by decide) rfl (fun ls hl => ?_)
          refine lv_iinc (v := (x7 + 1)) (lv' := [(7, .int ((x7 + 1))), (6, .int ((-x6))), (8, .int y_7), (0, .ref (h 0)), (1, .int p1), (2, .int p2), (3, .int p3), (4, .int p4), (5, .int x5)]) hx hb dX2_minor_103 hl (k := 8) rfl rfl (by decide) rfl (fun ls hl => ?_)
          refine lv_goto (tgt := 38) hx hb dX2_minor_106 (by decide) ?_
          exact ih x5 (-x6) (x7 + 1) hv _ _ _ hP hD hS (lv_sub hl [3, 4, 5, 6, 7, 8, 1, 0] rfl)
        · have hv := hv.2 c_12
          refine lv_iload hx hb dX2_minor_69 (lv_at hl 6 rfl) ?_
          refine lv_iload hx hb dX2_minor_71 (lv_at hl 7 rfl) ?_
          refine lv_iload hx hb dX2_minor_73 (lv_at hl 0 rfl) ?_
          refine lv_imul hx hb dX2_minor_75 ?_
          refine lv_aload_n hx hb dX2_minor_76 rfl (lv_at hl 1 rfl) ?_
          refine lv_iload_n hx hb dX2_minor_77 rfl (lv_at hl 2 rfl) ?_
          refine lv_iload_n hx hb dX2_minor_78 rfl (lv_at hl 3 rfl) ?_
          refine lv_iconst (v := 1) hx hb dX2_minor_79 (by decide) ?_
          refine lv_iadd hx hb dX2_minor_80 ?_
          refine lv_iload_n hx hb dX2_minor_81 rfl (lv_at hl 4 rfl) ?_
          refine lv_iload hx hb dX2_minor_82 (lv_at hl 5 rfl) ?_
          refine lv_iconst (v := 1) hx hb dX2_minor_84 (by decide) ?_
          refine lv_iload hx hb dX2_minor_85 (lv_at hl 8 rfl) ?_
          refine lv_ishl hx hb dX2_minor_87 ?_
          refine lv_topi (fun y_9 ey_9 => ?_)
          have hv := hv y_9 ey_9
          refine lv_iconst (v := (-1)) hx hb dX2_minor_88 (by decide) ?_
          refine lv_ixor hx hb dX2_minor_89 ?_
          refine lv_iand hx hb dX2_minor_90 ?_
          refine cb_SI (As := [.ref (h 0), .int p1, .int ((p2 + 1)), .int p3, .int ((p4 &&& (y_9 ^^^ (-1))))]) (rest := [.int ((x6 * y_7)), .int x5]) ⟨hx, hb, hml, hown, hts⟩ (hrec p1 (p2 + 1) p3 (p4 &&& (y_9 ^^^ (-1))) _ hv) (va_cwS 5 hts gX2_minor_X2_minor rfl rfl rfl zX2_minor ⟨by simp only [rX2_minor]; omega, by simp only [rX2_minor]; omega⟩) hK hP hD hS hA [0] [some 0] rfl rfl rfl (fun _ => rfl) rfl hl.1 rfl (Nat.le_of_ble_eq_true rfl) dX2_minor_91 (fun r_10 w_11 H locs hv hP hD hS => ?_)
          have hP : va_P (dC, dI) vwCl (pX2_minor cy h a0) H := hP
          have hD : va_D A (pX2_minor cy h a0) := hD
          refine lv_imul hx hb dX2_minor_94 ?_
          refine lv_iadd hx hb dX2_minor_95 ?_
          refine lv_istore (lv' := [(5, .int ((x5 + ((x6 * y_7) * r_10)))), (8, .int y_7), (0, .ref (h 0)), (1, .int p1), (2, .int p2), (3, .int p3), (4, .int p4), (6, .int x6), (7, .int x7)]) hx hb dX2_minor_96 hl (by decide) rfl (fun ls hl => ?_)
          refine lv_iload hx hb dX2_minor_98 (lv_at hl 7 rfl) ?_
          refine lv_ineg hx hb dX2_minor_100 ?_
          refine lv_istore (lv' := [(6, .int ((-x6))), (5, .int ((x5 + ((x6 * y_7) * r_10)))), (8, .int y_7), (0, .ref (h 0)), (1, .int p1), (2, .int p2), (3, .int p3), (4, .int p4), (7, .int x7)]) hx hb dX2_minor_101 hl (by decide) rfl (fun ls hl => ?_)
          refine lv_iinc (v := (x7 + 1)) (lv' := [(7, .int ((x7 + 1))), (6, .int ((-x6))), (5, .int ((x5 + ((x6 * y_7) * r_10)))), (8, .int y_7), (0, .ref (h 0)), (1, .int p1), (2, .int p2), (3, .int p3), (4, .int p4)]) hx hb dX2_minor_103 hl (k := 8) rfl rfl (by decide) rfl (fun ls hl => ?_)
          refine lv_goto (tgt := 38) hx hb dX2_minor_106 (by decide) ?_
          exact ih (x5 + ((x6 * y_7) * r_10)) (-x6) (x7 + 1) hv _ _ _ hP hD hS (lv_sub hl [4, 5, 6, 7, 8, 2, 1, 0] rfl)
set_option maxHeartbeats 4000000 in
set_option maxRecDepth 100000 in
theorem wX2_minor_0 {p : Program} (l : Launch) {e : Env} {s : State} {m : MethodId} {args : Array Value} {below : List Frame} {meth : Method} {c : Code} {dC : Nat → ClassId} {dI : Nat → Nat → Nat} {cy : Nat → ClassId} {A : Nat → Prop} (h : Nat → Nat) (post : Int32 → Prop)  (rec : (Int32 → Prop) → Int32 → Int32 → Int32 → Int32 → Prop) (d : Nat)  (a0 : Nat → Int32) (p1 : Int32) (p2 : Int32) (p3 : Int32) (p4 : Int32) (C0 : cx p s m args meth c cX2_minor 9 (some .int) wsX2_minor RX2 dC dI cy A) (hrec : ∀ (p1 : Int32) (p2 : Int32) (p3 : Int32) (p4 : Int32) (post : Int32 → Prop), rec post p1 p2 p3 p4 → CtI l yX2_minor wsX2_minor (rX2_minor d) dC dI cy [.ref (h 0), .int p1, .int p2, .int p3, .int p4] (pX2_minor cy h a0) (fun (_ : Unit) => pX2_minor cy h a0) (fun (r : Int32) (_ : Unit) => post r))  : VX2_minors post rec a0 p1 p2 p3 p4  → ∀ (H : Heap) (locs : List Loc) (ls : Array Slot), va_P (dC, dI) vwCl (pX2_minor cy h a0) H → va_D A (pX2_minor cy h a0) → va_S A s.heap H locs → lv_has ls 9 [(0, .ref (h 0)), (1, .int p1), (2, .int p2), (3, .int p3), (4, .int p4)] → W p l e (rX2_minor (d + 1)) s m args below meth c H locs 0 0 (MQ below (va_Qi (fun (r : Int32) (_ : Unit) => post r) (fun (_ : Unit) (t : State) => va_P (dC, dI) vwCl (pX2_minor cy h a0) t.heap) A) args s 0 0 A) (F0 m 0 ls []) := by
  have C1 := C0
  obtain ⟨hx, hb, hr, hml, hown, hts, hlocks, hK, hA⟩ := C1
  intro  hv H locs ls hP hD hS hl
  refine lv_iload_n hx hb dX2_minor_0 rfl (lv_at hl 2 rfl) ?_
  refine lv_iload_n hx hb dX2_minor_1 rfl (lv_at hl 1 rfl) ?_
  refine lv_icmp_ge (tgt := 10) hx hb dX2_minor_2 (by decide) (fun c_6 => ?_) (fun c_6 => ?_)
  · have hv := hv.1 c_6
    refine lv_iconst (v := 1) hx hb dX2_minor_10 (by decide) ?_
    exact W.iret (v := 1) hx hb hr (fun t ht hW => ⟨⟨1, (), rfl, hv, va_Ph ht hP⟩, hS.F ht⟩) hS.2.2 dX2_minor_11
  · have hv := hv.2 c_6
    refine lv_iload_n hx hb dX2_minor_5 rfl (lv_at hl 2 rfl) ?_
    refine lv_iconst (v := 4) hx hb dX2_minor_6 (by decide) ?_
    refine lv_icmp_lt (tgt := 12) hx hb dX2_minor_7 (by decide) (fun c_5 => ?_) (fun c_5 => ?_)
    · have hv := hv.1 c_5
      refine lv_iload_n hx hb dX2_minor_12 rfl (lv_at hl 2 rfl) ?_
      refine lv_iload_n hx hb dX2_minor_13 rfl (lv_at hl 3 rfl) ?_
      refine lv_icmp_ne (tgt := 29) hx hb dX2_minor_14 (by decide) (fun c_4 => ?_) (fun c_4 => ?_)
      · have hv := hv.1 c_4
        refine lv_iconst (v := 0) hx hb dX2_minor_29 (by decide) ?_
        refine lv_istore (lv' := [(5, .int 0), (0, .ref (h 0)), (1, .int p1), (2, .int p2), (3, .int p3), (4, .int p4)]) hx hb dX2_minor_30 hl (by decide) rfl (fun ls hl => ?_)
        refine lv_iconst (v := 1) hx hb dX2_minor_32 (by decide) ?_
        refine lv_istore (lv' := [(6, .int 1), (5, .int 0), (0, .ref (h 0)), (1, .int p1), (2, .int p2), (3, .int p3), (4, .int p4)]) hx hb dX2_minor_33 hl (by decide) rfl (fun ls hl => ?_)
        refine lv_iconst (v := 0) hx hb dX2_minor_35 (by decide) ?_
        refine lv_istore (lv' := [(7, .int 0), (6, .int 1), (5, .int 0), (0, .ref (h 0)), (1, .int p1), (2, .int p2), (3, .int p3), (4, .int p4)]) hx hb dX2_minor_36 hl (by decide) rfl (fun ls hl => ?_)
        obtain ⟨n_1, hv⟩ := hv
        exact wX2_minor_38 l h post  rec d a0 p1 p2 p3 p4 C0 hrec n_1 0 1 0 hv _ _ _ hP hD hS (lv_sub hl [3, 4, 5, 6, 7, 2, 1, 0] rfl)
      · have hv := hv.2 c_4
        refine lv_aload_n hx hb dX2_minor_17 rfl (lv_at hl 0 rfl) ?_
        refine lv_iload_n hx hb dX2_minor_18 rfl (lv_at hl 1 rfl) ?_
        refine lv_iload_n hx hb dX2_minor_19 rfl (lv_at hl 2 rfl) ?_
        refine lv_iconst (v := 1) hx hb dX2_minor_20 (by decide) ?_
        refine lv_iadd hx hb dX2_minor_21 ?_
        refine lv_iload_n hx hb dX2_minor_22 rfl (lv_at hl 3 rfl) ?_
        refine lv_iload hx hb dX2_minor_23 (lv_at hl 4 rfl) ?_
        refine cb_SI (As := [.ref (h 0), .int p1, .int ((p2 + 1)), .int p3, .int p4]) (rest := []) ⟨hx, hb, hml, hown, hts⟩ (hrec p1 (p2 + 1) p3 p4 _ hv) (va_cwS 5 hts gX2_minor_X2_minor rfl rfl rfl zX2_minor ⟨by simp only [rX2_minor]; omega, by simp only [rX2_minor]; omega⟩) hK hP hD hS hA [0] [some 0] rfl rfl rfl (fun _ => rfl) rfl hl.1 rfl (Nat.le_of_ble_eq_true rfl) dX2_minor_25 (fun r_2 w_3 H locs hv hP hD hS => ?_)
        have hP : va_P (dC, dI) vwCl (pX2_minor cy h a0) H := hP
        have hD : va_D A (pX2_minor cy h a0) := hD
        exact W.iret (v := r_2) hx hb hr (fun t ht hW => ⟨⟨r_2, (), rfl, hv, va_Ph ht hP⟩, hS.F ht⟩) hS.2.2 dX2_minor_28
    · have hv := hv.2 c_5
      refine lv_iconst (v := 1) hx hb dX2_minor_10 (by decide) ?_
      exact W.iret (v := 1) hx hb hr (fun t ht hW => ⟨⟨1, (), rfl, hv, va_Ph ht hP⟩, hS.F ht⟩) hS.2.2 dX2_minor_11
def VX2_minor (a0 : Nat → Int32) : Nat → (Int32 → Prop) → Int32 → Int32 → Int32 → Int32 → Prop
  | 0, _, _, _, _, _ => False
  | d + 1, post, p1, p2, p3, p4 => VX2_minors post (VX2_minor a0 d) a0 p1 p2 p3 p4
theorem kX2_minor (l : Launch) (dC : Nat → ClassId) (dI : Nat → Nat → Nat) (cy : Nat → ClassId) (h : Nat → Nat) (a0 : Nat → Int32) : ∀ (d : Nat) (p1 : Int32) (p2 : Int32) (p3 : Int32) (p4 : Int32) (post : Int32 → Prop), VX2_minor a0 d post p1 p2 p3 p4 → CtI l yX2_minor wsX2_minor (rX2_minor d) dC dI cy [.ref (h 0), .int p1, .int p2, .int p3, .int p4] (pX2_minor cy h a0) (fun (_ : Unit) => pX2_minor cy h a0) (fun (r : Int32) (_ : Unit) => post r) := by
  intro d
  induction d with
  | zero => intro p1 p2 p3 p4 post hv; exact hv.elim
  | succ d ih =>
    intro p1 p2 p3 p4 post hv
    exact ct_ofI (by decide) rfl (Nat.le_of_ble_eq_true rfl) (fun p e s m below meth c A ls C0 hP hD hS hl => wX2_minor_0 l h post (VX2_minor a0 d) d a0 p1 p2 p3 p4 C0 ih  hv _ _ _ hP hD hS hl)
theorem mX2_wholeMinor_1 : (Cond.fieldLink RX2 9 "AbelianPowers$Matrix" "entries" "[I") ∈ wsX2_wholeMinor := List.mem_of_getElem? (i := 1) rfl
theorem mX2_wholeMinor_2 : (Cond.fieldLink RX2 21 "AbelianPowers$Matrix" "size" "I") ∈ wsX2_wholeMinor := List.mem_of_getElem? (i := 2) rfl
theorem nX2_wholeMinor_X2 : ∀ w ∈ wsX20, w ∈ wsX2_wholeMinor := fun _ h => List.mem_cons_of_mem _ (List.mem_append_right _ h)
theorem zX2_wholeMinor : yX2_wholeMinor.cls = RX2 ∧ yX2_wholeMinor.cls ≠ "java/lang/invoke/MethodHandle" ∧ yX2_wholeMinor.cls ≠ "java/lang/invoke/VarHandle" ∧ (parseMethodDescriptor yX2_wholeMinor.desc).map (fun d => d.parameters.length) = some 0 := by decide +kernel
abbrev rX2_wholeMinor : Room := { frames := 9, cells := 0, slots := 0, locals := 252 }
abbrev pX2_wholeMinor (cy : Nat → ClassId) (h : Nat → Nat) (t_entries : Nat → Int32) (t_size : Int32) : va_W := [(h 0, .inr (2, [.ref (h 1), .int t_size])), (h 1, .inl (cy 0, 16, .inl t_entries))]
def VX2_wholeMinor (post : Int32 → Prop)  (t_entries : Nat → Int32) (t_size : Int32)  : Prop := VX2_allColumns (fun r_1 => VX2_minor t_entries 8 (fun r_2 => post r_2) t_size 0 t_size r_1) t_size
set_option maxHeartbeats 4000000 in
set_option maxRecDepth 100000 in
theorem wX2_wholeMinor_0 {p : Program} (l : Launch) {e : Env} {s : State} {m : MethodId} {args : Array Value} {below : List Frame} {meth : Method} {c : Code} {dC : Nat → ClassId} {dI : Nat → Nat → Nat} {cy : Nat → ClassId} {A : Nat → Prop} (h : Nat → Nat) (post : Int32 → Prop)   (t_entries : Nat → Int32) (t_size : Int32)  (C0 : cx p s m args meth c cX2_wholeMinor 1 (some .int) wsX2_wholeMinor RX2 dC dI cy A)  : VX2_wholeMinor post t_entries t_size  → ∀ (H : Heap) (locs : List Loc) (ls : Array Slot), va_P (dC, dI) vwCl (pX2_wholeMinor cy h t_entries t_size) H → va_D A (pX2_wholeMinor cy h t_entries t_size) → va_S A s.heap H locs → lv_has ls 1 [(0, .ref (h 0))] → W p l e rX2_wholeMinor s m args below meth c H locs 0 0 (MQ below (va_Qi (fun (r : Int32) (_ : Unit) => post r) (fun (_ : Unit) (t : State) => va_P (dC, dI) vwCl (pX2_wholeMinor cy h t_entries t_size) t.heap) A) args s 0 0 A) (F0 m 0 ls []) := by
  have C1 := C0
  obtain ⟨hx, hb, hr, hml, hown, hts, hlocks, hK, hA⟩ := C1
  intro  hv H locs ls hP hD hS hl
  refine lv_aload_n hx hb dX2_wholeMinor_0 rfl (lv_at hl 0 rfl) ?_
  refine va_get (D := (dC, dI)) (ci := 2) (v := .ref (h 1)) (C := RX2) (T := TX2) (N := 2) hx hb hts nX2_wholeMinor_X2 hown hK hP 0 rfl rfl 0 (by decide) (hts _ mX2_wholeMinor_1) (fun _ h9 => h9) rfl dX2_wholeMinor_1 ?_
  refine lv_aload_n hx hb dX2_wholeMinor_4 rfl (lv_at hl 0 rfl) ?_
  refine va_get (D := (dC, dI)) (ci := 2) (v := .int t_size) (C := RX2) (T := TX2) (N := 2) hx hb hts nX2_wholeMinor_X2 hown hK hP 0 rfl rfl 1 (by decide) (hts _ mX2_wholeMinor_2) (fun _ h9 => h9) rfl dX2_wholeMinor_5 ?_
  refine lv_iconst (v := 0) hx hb dX2_wholeMinor_8 (by decide) ?_
  refine lv_aload_n hx hb dX2_wholeMinor_9 rfl (lv_at hl 0 rfl) ?_
  refine va_get (D := (dC, dI)) (ci := 2) (v := .int t_size) (C := RX2) (T := TX2) (N := 2) hx hb hts nX2_wholeMinor_X2 hown hK hP 0 rfl rfl 1 (by decide) (hts _ mX2_wholeMinor_2) (fun _ h9 => h9) rfl dX2_wholeMinor_10 ?_
  refine lv_aload_n hx hb dX2_wholeMinor_13 rfl (lv_at hl 0 rfl) ?_
  refine cb_VI (As := []) (rest := [.int t_size, .int 0, .int t_size, .ref (h 1)]) ⟨hx, hb, hml, hown, hts⟩ (kX2_allColumns l dC dI cy (adl [h 0, h 1]) t_size _ hv) (cwV 0 hts gX2_wholeMinor_X2_allColumns rfl rfl rfl zX2_allColumns ⟨Nat.le_of_ble_eq_true rfl, Nat.le_of_ble_eq_true rfl⟩) hK hP hD hS hA [0] [some 0, none] rfl rfl rfl (ci := 2) rfl rfl (fun _ => rfl) rfl hl.1 rfl (Nat.le_of_ble_eq_true rfl) dX2_wholeMinor_14 (fun r_1 w_4 H locs hv hP hD hS => ?_)
  have hP : va_P (dC, dI) vwCl (pX2_wholeMinor cy h t_entries t_size) H := hP
  have hD : va_D A (pX2_wholeMinor cy h t_entries t_size) := hD
  refine cb_SI (As := [.ref (h 1), .int t_size, .int 0, .int t_size, .int r_1]) (rest := []) ⟨hx, hb, hml, hown, hts⟩ (kX2_minor l dC dI cy (adl [h 1]) t_entries 8 t_size 0 t_size r_1 _ hv) (va_cwS 5 hts gX2_wholeMinor_X2_minor rfl rfl rfl zX2_minor ⟨Nat.le_of_ble_eq_true rfl, Nat.le_of_ble_eq_true rfl⟩) hK hP hD hS hA [1] [none, some 0] rfl rfl rfl (fun _ => rfl) rfl hl.1 rfl (Nat.le_of_ble_eq_true rfl) dX2_wholeMinor_17 (fun r_2 w_3 H locs hv hP hD hS => ?_)
  have hP : va_P (dC, dI) vwCl (pX2_wholeMinor cy h t_entries t_size) H := hP
  have hD : va_D A (pX2_wholeMinor cy h t_entries t_size) := hD
  exact W.iret (v := r_2) hx hb hr (fun t ht hW => ⟨⟨r_2, (), rfl, hv, va_Ph ht hP⟩, hS.F ht⟩) hS.2.2 dX2_wholeMinor_20
theorem kX2_wholeMinor (l : Launch) (dC : Nat → ClassId) (dI : Nat → Nat → Nat) (cy : Nat → ClassId) (h : Nat → Nat) (t_entries : Nat → Int32) (t_size : Int32)  (post : Int32 → Prop) (hv : VX2_wholeMinor post t_entries t_size ) : CtI l yX2_wholeMinor wsX2_wholeMinor rX2_wholeMinor dC dI cy [.ref (h 0)] (pX2_wholeMinor cy h t_entries t_size) (fun (_ : Unit) => pX2_wholeMinor cy h t_entries t_size) (fun (r : Int32) (_ : Unit) => post r) :=
  ct_ofI (by decide) rfl (Nat.le_of_ble_eq_true rfl) (fun p e s m below meth c A ls C0 hP hD hS hl => wX2_wholeMinor_0 l h post t_entries t_size C0  hv _ _ _ hP hD hS hl)
theorem mX2_adjugate_1 : (Cond.fieldLink RX2 9 "AbelianPowers$Matrix" "entries" "[I") ∈ wsX2_adjugate := List.mem_of_getElem? (i := 1) rfl
theorem mX2_adjugate_2 : (Cond.fieldLink RX2 21 "AbelianPowers$Matrix" "size" "I") ∈ wsX2_adjugate := List.mem_of_getElem? (i := 2) rfl
theorem nX2_adjugate_X2 : ∀ w ∈ wsX20, w ∈ wsX2_adjugate := fun _ h => List.mem_cons_of_mem _ (List.mem_append_right _ h)
theorem zX2_adjugate : yX2_adjugate.cls = RX2 ∧ yX2_adjugate.cls ≠ "java/lang/invoke/MethodHandle" ∧ yX2_adjugate.cls ≠ "java/lang/invoke/VarHandle" ∧ (parseMethodDescriptor yX2_adjugate.desc).map (fun d => d.parameters.length) = some 2 := by decide +kernel
abbrev rX2_adjugate : Room := { frames := 9, cells := 0, slots := 0, locals := 252 }
abbrev pX2_adjugate (cy : Nat → ClassId) (h : Nat → Nat) (t_entries : Nat → Int32) (t_size : Int32) : va_W := [(h 0, .inr (2, [.ref (h 1), .int t_size])), (h 1, .inl (cy 0, 16, .inl t_entries))]
def VX2_adjugate (post : Int32 → Prop)  (t_entries : Nat → Int32) (t_size : Int32) (p1 : Int32) (p2 : Int32)  : Prop := VX2_allColumns (fun r_1 => ∀ y_2 : Int32, y_2 = ((1 : Int32) <<< (p1 &&& 31)) → VX2_minor t_entries 8 (fun r_3 => ∀ y_5 : Int32, y_5 = ((p1 + p2) - (p1 + p2) / 2 * 2) → (¬ (y_5 = 0) → post (-r_3)) ∧ ((y_5 = 0) → post r_3)) t_size 0 p2 (r_1 &&& (y_2 ^^^ (-1)))) t_size
set_option maxHeartbeats 4000000 in
set_option maxRecDepth 100000 in
theorem wX2_adjugate_0 {p : Program} (l : Launch) {e : Env} {s : State} {m : MethodId} {args : Array Value} {below : List Frame} {meth : Method} {c : Code} {dC : Nat → ClassId} {dI : Nat → Nat → Nat} {cy : Nat → ClassId} {A : Nat → Prop} (h : Nat → Nat) (post : Int32 → Prop)   (t_entries : Nat → Int32) (t_size : Int32) (p1 : Int32) (p2 : Int32) (C0 : cx p s m args meth c cX2_adjugate 4 (some .int) wsX2_adjugate RX2 dC dI cy A)  : VX2_adjugate post t_entries t_size p1 p2  → ∀ (H : Heap) (locs : List Loc) (ls : Array Slot), va_P (dC, dI) vwCl (pX2_adjugate cy h t_entries t_size) H → va_D A (pX2_adjugate cy h t_entries t_size) → va_S A s.heap H locs → lv_has ls 4 [(0, .ref (h 0)), (1, .int p1), (2, .int p2)] → W p l e rX2_adjugate s m args below meth c H locs 0 0 (MQ below (va_Qi (fun (r : Int32) (_ : Unit) => post r) (fun (_ : Unit) (t : State) => va_P (dC, dI) vwCl (pX2_adjugate cy h t_entries t_size) t.heap) A) args s 0 0 A) (F0 m 0 ls []) := by
  have C1 := C0
  obtain ⟨hx, hb, hr, hml, hown, hts, hlocks, hK, hA⟩ := C1
  intro  hv H locs ls hP hD hS hl
  refine lv_aload_n hx hb dX2_adjugate_0 rfl (lv_at hl 0 rfl) ?_
  refine va_get (D := (dC, dI)) (ci := 2) (v := .ref (h 1)) (C := RX2) (T := TX2) (N := 2) hx hb hts nX2_adjugate_X2 hown hK hP 0 rfl rfl 0 (by decide) (hts _ mX2_adjugate_1) (fun _ h9 => h9) rfl dX2_adjugate_1 ?_
  refine lv_aload_n hx hb dX2_adjugate_4 rfl (lv_at hl 0 rfl) ?_
  refine va_get (D := (dC, dI)) (ci := 2) (v := .int t_size) (C := RX2) (T := TX2) (N := 2) hx hb hts nX2_adjugate_X2 hown hK hP 0 rfl rfl 1 (by decide) (hts _ mX2_adjugate_2) (fun _ h9 => h9) rfl dX2_adjugate_5 ?_
  refine lv_iconst (v := 0) hx hb dX2_adjugate_8 (by decide) ?_
  refine lv_iload_n hx hb dX2_adjugate_9 rfl (lv_at hl 2 rfl) ?_
  refine lv_aload_n hx hb dX2_adjugate_10 rfl (lv_at hl 0 rfl) ?_
  refine cb_VI (As := []) (rest := [.int p2, .int 0, .int t_size, .ref (h 1)]) ⟨hx, hb, hml, hown, hts⟩ (kX2_allColumns l dC dI cy (adl [h 0, h 1]) t_size _ hv) (cwV 0 hts gX2_adjugate_X2_allColumns rfl rfl rfl zX2_allColumns ⟨Nat.le_of_ble_eq_true rfl, Nat.le_of_ble_eq_true rfl⟩) hK hP hD hS hA [0] [some 0, none] rfl rfl rfl (ci := 2) rfl rfl (fun _ => rfl) rfl hl.1 rfl (Nat.le_of_ble_eq_true rfl) dX2_adjugate_11 (fun r_1 w_8 H locs hv hP hD hS => ?_)
  have hP : va_P (dC, dI) vwCl (pX2_adjugate cy h t_entries t_size) H := hP
  have hD : va_D A (pX2_adjugate cy h t_entries t_size) := hD
  refine lv_iconst (v := 1) hx hb dX2_adjugate_14 (by decide) ?_
  refine lv_iload_n hx hb dX2_adjugate_15 rfl (lv_at hl 1 rfl) ?_
  refine lv_ishl hx hb dX2_adjugate_16 ?_
  refine lv_topi (fun y_2 ey_2 => ?_)
  have hv := hv y_2 ey_2
  refine lv_iconst (v := (-1)) hx hb dX2_adjugate_17 (by decide) ?_
  refine lv_ixor hx hb dX2_adjugate_18 ?_
  refine lv_iand hx hb dX2_adjugate_19 ?_
  refine cb_SI (As := [.ref (h 1), .int t_size, .int 0, .int p2, .int ((r_1 &&& (y_2 ^^^ (-1))))]) (rest := []) ⟨hx, hb, hml, hown, hts⟩ (kX2_minor l dC dI cy (adl [h 1]) t_entries 8 t_size 0 p2 (r_1 &&& (y_2 ^^^ (-1))) _ hv) (va_cwS 5 hts gX2_adjugate_X2_minor rfl rfl rfl zX2_minor ⟨Nat.le_of_ble_eq_true rfl, Nat.le_of_ble_eq_true rfl⟩) hK hP hD hS hA [1] [none, some 0] rfl rfl rfl (fun _ => rfl) rfl hl.1 rfl (Nat.le_of_ble_eq_true rfl) dX2_adjugate_20 (fun r_3 w_7 H locs hv hP hD hS => ?_)
  have hP : va_P (dC, dI) vwCl (pX2_adjugate cy h t_entries t_size) H := hP
  have hD : va_D A (pX2_adjugate cy h t_entries t_size) := hD
  refine lv_istore_n (lv' := [(3, .int r_3), (0, .ref (h 0)), (1, .int p1), (2, .int p2)]) hx hb dX2_adjugate_23 rfl hl (by decide) rfl (fun ls hl => ?_)
  refine lv_iload_n hx hb dX2_adjugate_24 rfl (lv_at hl 2 rfl) ?_
  refine lv_iload_n hx hb dX2_adjugate_25 rfl (lv_at hl 3 rfl) ?_
  refine lv_iadd hx hb dX2_adjugate_26 ?_
  refine lv_iconst (v := 2) hx hb dX2_adjugate_27 (by decide) ?_
  refine lv_irem hx hb dX2_adjugate_28 (by decide) ?_
  refine lv_topi (fun y_5 ey_5 => ?_)
  have hv := hv y_5 ey_5
  refine lv_if_ne (tgt := 36) hx hb dX2_adjugate_29 (by decide) (fun c_6 => ?_) (fun c_6 => ?_)
  · have hv := hv.1 c_6
    refine lv_iload_n hx hb dX2_adjugate_36 rfl (lv_at hl 0 rfl) ?_
    refine lv_ineg hx hb dX2_adjugate_37 ?_
    exact W.iret (v := (-r_3)) hx hb hr (fun t ht hW => ⟨⟨(-r_3), (), rfl, hv, va_Ph ht hP⟩, hS.F ht⟩) hS.2.2 dX2_adjugate_38
  · have hv := hv.2 c_6
    refine lv_iload_n hx hb dX2_adjugate_32 rfl (lv_at hl 0 rfl) ?_
    refine lv_goto (tgt := 38) hx hb dX2_adjugate_33 (by decide) ?_
    exact W.iret (v := r_3) hx hb hr (fun t ht hW => ⟨⟨r_3, (), rfl, hv, va_Ph ht hP⟩, hS.F ht⟩) hS.2.2 dX2_adjugate_38
theorem kX2_adjugate (l : Launch) (dC : Nat → ClassId) (dI : Nat → Nat → Nat) (cy : Nat → ClassId) (h : Nat → Nat) (t_entries : Nat → Int32) (t_size : Int32) (p1 : Int32) (p2 : Int32) (post : Int32 → Prop) (hv : VX2_adjugate post t_entries t_size p1 p2 ) : CtI l yX2_adjugate wsX2_adjugate rX2_adjugate dC dI cy [.ref (h 0), .int p1, .int p2] (pX2_adjugate cy h t_entries t_size) (fun (_ : Unit) => pX2_adjugate cy h t_entries t_size) (fun (r : Int32) (_ : Unit) => post r) :=
  ct_ofI (by decide) rfl (Nat.le_of_ble_eq_true rfl) (fun p e s m below meth c A ls C0 hP hD hS hl => wX2_adjugate_0 l h post t_entries t_size p1 p2 C0  hv _ _ _ hP hD hS hl)
theorem mX5_startOver_1 : (Cond.fieldLink RX5 37 "AbelianPowers$Setting" "letters" "I") ∈ wsX5_startOver := List.mem_of_getElem? (i := 1) rfl
theorem mX5_startOver_2 : (Cond.fieldLink RX5 24 "AbelianPowers$Setting" "words" "[LAbelianPowers$Word;") ∈ wsX5_startOver := List.mem_of_getElem? (i := 2) rfl
theorem mX5_startOver_3 : (Cond.fieldLink RX5 40 "AbelianPowers$Word" "size" "I") ∈ wsX5_startOver := List.mem_of_getElem? (i := 3) rfl
theorem mX5_startOver_4 : (Cond.fieldLink RX5 28 "AbelianPowers$Setting" "images" "[LAbelianPowers$Word;") ∈ wsX5_startOver := List.mem_of_getElem? (i := 4) rfl
theorem mX5_startOver_5 : (Cond.fieldLink RX5 18 "AbelianPowers$Setting" "values" "[I") ∈ wsX5_startOver := List.mem_of_getElem? (i := 5) rfl
theorem nX5_startOver_X5 : ∀ w ∈ wsX50, w ∈ wsX5_startOver := fun _ h => List.mem_cons_of_mem _ (List.mem_append_left _ (List.mem_append_right _ h))
theorem nX5_startOver_X9 : ∀ w ∈ wsX90, w ∈ wsX5_startOver := fun _ h => List.mem_cons_of_mem _ (List.mem_append_right _ h)
theorem zX5_startOver : yX5_startOver.cls = RX5 ∧ yX5_startOver.cls ≠ "java/lang/invoke/MethodHandle" ∧ yX5_startOver.cls ≠ "java/lang/invoke/VarHandle" ∧ (parseMethodDescriptor yX5_startOver.desc).map (fun d => d.parameters.length) = some 1 := by decide +kernel
abbrev rX5_startOver : Room := { frames := 0, cells := 0, slots := 0, locals := 0 }
abbrev pX5_startOver (cy : Nat → ClassId) (h : Nat → Nat) (t_words_A : Nat → Nat) (t_words_B : Nat → Nat) (t_images_A : Nat → Nat) (t_images_B : Nat → Nat) (t_kind : Int32) (t_exponent : Int32) (t_letters : Int32) (t_values : Nat → Int32) (t_words_size : Nat → Int32) (t_images_size : Nat → Int32) : va_W := [(h 0, .inr (5, [.int t_kind, .int t_exponent, .int t_letters, .ref (h 1), .ref (h 2), .ref (h 3)])), (h 1, .inl (cy 0, 4, .inl t_values)), (h 2, .inl (cy 3, 3, .inr (.inr (.inr (.inr (fun j => some (t_words_A j))))))), (t_words_A 0, .inr (9, [.ref (t_words_B 0), .int (t_words_size 0)])), (t_words_A 1, .inr (9, [.ref (t_words_B 1), .int (t_words_size 1)])), (t_words_A 2, .inr (9, [.ref (t_words_B 2), .int (t_words_size 2)])), (h 3, .inl (cy 3, 4, .inr (.inr (.inr (.inr (fun j => some (t_images_A j))))))), (t_images_A 0, .inr (9, [.ref (t_images_B 0), .int (t_images_size 0)])), (t_images_A 1, .inr (9, [.ref (t_images_B 1), .int (t_images_size 1)])), (t_images_A 2, .inr (9, [.ref (t_images_B 2), .int (t_images_size 2)])), (t_images_A 3, .inr (9, [.ref (t_images_B 3), .int (t_images_size 3)]))]
def VX5_startOver_30 (post : Int32 → (Nat → Int32) → (Nat → Int32) → (Nat → Int32) → Prop)  (p1 : Int32) : Nat → Int32 → (Nat → Int32) → (Nat → Int32) → (Nat → Int32) → Int32 → Prop
  | 0, _, _, _, _, _ => False
  | n + 1, t_letters, t_values, t_words_size, t_images_size, x2 => ((4 ≤ x2) → post t_letters t_values t_words_size t_images_size) ∧ (¬ (4 ≤ x2) → vp_in x2 4 ∧ (vp_in x2 4 ∧ (VX5_startOver_30 post p1 n t_letters (upd t_values x2.toNatClampNeg x2) t_words_size (va_up t_images_size x2.toNatClampNeg 0) (x2 + 1))))
def VX5_startOver_7 (post : Int32 → (Nat → Int32) → (Nat → Int32) → (Nat → Int32) → Prop)  (p1 : Int32) : Nat → Int32 → (Nat → Int32) → (Nat → Int32) → (Nat → Int32) → Int32 → Prop
  | 0, _, _, _, _, _ => False
  | n + 1, t_letters, t_values, t_words_size, t_images_size, x2 => ((3 ≤ x2) → ∃ n30 : Nat, VX5_startOver_30 post p1 n30 t_letters t_values t_words_size t_images_size 0) ∧ (¬ (3 ≤ x2) → vp_in x2 3 ∧ (VX5_startOver_7 post p1 n t_letters t_values (va_up t_words_size x2.toNatClampNeg 0) t_images_size (x2 + 1)))
def VX5_startOver (post : Int32 → (Nat → Int32) → (Nat → Int32) → (Nat → Int32) → Prop)  (p1 : Int32) (t_letters : Int32) (t_values : Nat → Int32) (t_words_size : Nat → Int32) (t_images_size : Nat → Int32) : Prop := ∃ n7 : Nat, VX5_startOver_7 post p1 n7 p1 t_values t_words_size t_images_size 0
set_option maxHeartbeats 4000000 in
set_option maxRecDepth 100000 in
theorem wX5_startOver_30 {p : Program} (l : Launch) {e : Env} {s : State} {m : MethodId} {args : Array Value} {below : List Frame} {meth : Method} {c : Code} {dC : Nat → ClassId} {dI : Nat → Nat → Nat} {cy : Nat → ClassId} {A : Nat → Prop} (h : Nat → Nat) (t_words_A : Nat → Nat) (t_words_B : Nat → Nat) (t_images_A : Nat → Nat) (t_images_B : Nat → Nat) (post : Int32 → (Nat → Int32) → (Nat → Int32) → (Nat → Int32) → Prop)   (t_kind : Int32) (t_exponent : Int32) (p1 : Int32) (C0 : cx p s m args meth c cX5_startOver 3 none wsX5_startOver RX5 dC dI cy A)  : ∀ (n : Nat) (t_letters : Int32) (t_values : Nat → Int32) (t_words_size : Nat → Int32) (t_images_size : Nat → Int32) (x2 : Int32), VX5_startOver_30 post p1 n t_letters t_values t_words_size t_images_size x2 → ∀ (H : Heap) (locs : List Loc) (ls : Array Slot), va_P (dC, dI) vwCl (pX5_startOver cy h t_words_A t_words_B t_images_A t_images_B t_kind t_exponent t_letters t_values t_words_size t_images_size) H → va_D A (pX5_startOver cy h t_words_A t_words_B t_images_A t_images_B t_kind t_exponent t_letters t_values t_words_size t_images_size) → va_S A s.heap H locs → lv_has ls 3 [(0, .ref (h 0)), (2, .int x2)] → W p l e rX5_startOver s m args below meth c H locs 0 0 (MQ below (va_Qv (fun (u : Int32 × (Nat → Int32) × (Nat → Int32) × (Nat → Int32)) => post u.1 u.2.1 u.2.2.1 u.2.2.2) (fun (u : Int32 × (Nat → Int32) × (Nat → Int32) × (Nat → Int32)) (t : State) => va_P (dC, dI) vwCl (pX5_startOver cy h t_words_A t_words_B t_images_A t_images_B t_kind t_exponent u.1 u.2.1 u.2.2.1 u.2.2.2) t.heap) A) args s 0 0 A) (F0 m 30 ls []) := by
  have C1 := C0
  obtain ⟨hx, hb, hr, hml, hown, hts, hlocks, hK, hA⟩ := C1
  intro n
  induction n with
  | zero => intro t_letters t_values t_words_size t_images_size x2 hv; exact hv.elim
  | succ n ih =>
    intro t_letters t_values t_words_size t_images_size x2 hv H locs ls hP hD hS hl
    refine lv_iload_n hx hb dX5_startOver_30 rfl (lv_at hl 1 rfl) ?_
    refine lv_iconst (v := 4) hx hb dX5_startOver_31 (by decide) ?_
    refine lv_icmp_ge (tgt := 58) hx hb dX5_startOver_32 (by decide) (fun c_11 => ?_) (fun c_11 => ?_)
    · have hv := hv.1 c_11
      exact W.vret hx hb hr (fun t ht hW => ⟨⟨(t_letters, t_values, t_words_size, t_images_size), rfl, hv, va_Ph ht hP⟩, hS.F ht⟩) hS.2.2 dX5_startOver_58
    · have hv := hv.2 c_11
      refine lv_aload_n hx hb dX5_startOver_35 rfl (lv_at hl 0 rfl) ?_
      refine va_get (D := (dC, dI)) (ci := 5) (v := .ref (h 3)) (C := RX5) (T := TX5) (N := 6) hx hb hts nX5_startOver_X5 hown hK hP 0 rfl rfl 5 (by decide) (hts _ mX5_startOver_4) (fun _ h9 => h9) rfl dX5_startOver_36 ?_
      refine lv_iload_n hx hb dX5_startOver_39 rfl (lv_at hl 1 rfl) ?_
      have h_7 := hv.1
      have hv := hv.2
      have hj_8 : x2.toNatClampNeg < 4 := Nat.not_le.mp fun q => h_7 (Or.inr q)
      refine va_aldq hx hb hK hP 6 3 rfl rfl h_7 dX5_startOver_40 ?_
      refine W.eq (g2 := F0 m 41 ls ([.ref (t_images_A x2.toNatClampNeg)])) rfl ?_
      refine lv_iconst (v := 0) hx hb dX5_startOver_41 (by decide) ?_
      refine va_put (D := (dC, dI)) (ci := 9) (v := .int 0) (ty := .int) (C := RX9) (T := TX9) (N := 2) hx hb hts nX5_startOver_X9 tyX9 tyX9_ok nmX9 hown hK hP hD hS (7 + 1 * x2.toNatClampNeg) (co_4 (P := fun j => (pX5_startOver cy h t_words_A t_words_B t_images_A t_images_B t_kind t_exponent t_letters t_values t_words_size t_images_size)[7 + 1 * j]? = some (t_images_A j, .inr (9, [.ref (t_images_B j), .int (t_images_size j)]))) rfl rfl rfl rfl hj_8) rfl 1 (by decide) (hts _ mX5_startOver_3) (fun _ h9 => h9) rfl (by decide +kernel) rfl rfl (Nat.le_of_ble_eq_true rfl) dX5_startOver_42 (fun H locs hP hD hS => ?_)
      have eP_9 := (co_4 (P := fun j => (pX5_startOver cy h t_words_A t_words_B t_images_A t_images_B t_kind t_exponent t_letters t_values t_words_size t_images_size).set (7 + 1 * j) (t_images_A j, .inr (9, [.ref (t_images_B j), .int (t_images_size j)].set 1 (.int 0))) = pX5_startOver cy h t_words_A t_words_B t_images_A t_images_B t_kind t_exponent t_letters t_values t_words_size (va_up t_images_size j 0)) rfl rfl rfl rfl hj_8)
      have hP := va_Pe hP eP_9
      have hD := va_De hD eP_9
      refine lv_aload_n hx hb dX5_startOver_45 rfl (lv_at hl 0 rfl) ?_
      refine va_get (D := (dC, dI)) (ci := 5) (v := .ref (h 1)) (C := RX5) (T := TX5) (N := 6) hx hb hts nX5_startOver_X5 hown hK hP 0 rfl rfl 3 (by decide) (hts _ mX5_startOver_5) (fun _ h9 => h9) rfl dX5_startOver_46 ?_
      refine lv_iload_n hx hb dX5_startOver_49 rfl (lv_at hl 1 rfl) ?_
      refine lv_iload_n hx hb dX5_startOver_50 rfl (lv_at hl 1 rfl) ?_
      have h_10 := hv.1
      have hv := hv.2
      refine va_iast hx hb hK hP hD hS 1 0 rfl rfl h_10 dX5_startOver_51 (fun H locs hP hD hS => ?_)
      have hP : va_P (dC, dI) vwCl (pX5_startOver cy h t_words_A t_words_B t_images_A t_images_B t_kind t_exponent t_letters (upd t_values x2.toNatClampNeg x2) t_words_size (va_up t_images_size x2.toNatClampNeg 0)) H := hP
      have hD : va_D A (pX5_startOver cy h t_words_A t_words_B t_images_A t_images_B t_kind t_exponent t_letters (upd t_values x2.toNatClampNeg x2) t_words_size (va_up t_images_size x2.toNatClampNeg 0)) := hD
      refine lv_iinc (v := (x2 + 1)) (lv' := [(2, .int ((x2 + 1))), (0, .ref (h 0))]) hx hb dX5_startOver_52 hl (k := 1) rfl rfl (by decide) rfl (fun ls hl => ?_)
      refine lv_goto (tgt := 30) hx hb dX5_startOver_55 (by decide) ?_
      exact ih t_letters (upd t_values x2.toNatClampNeg x2) t_words_size (va_up t_images_size x2.toNatClampNeg 0) (x2 + 1) hv _ _ _ hP hD hS (lv_sub hl [1, 0] rfl)
set_option maxHeartbeats 4000000 in
set_option maxRecDepth 100000 in
theorem wX5_startOver_7 {p : Program} (l : Launch) {e : Env} {s : State} {m : MethodId} {args : Array Value} {below : List Frame} {meth : Method} {c : Code} {dC : Nat → ClassId} {dI : Nat → Nat → Nat} {cy : Nat → ClassId} {A : Nat → Prop} (h : Nat → Nat) (t_words_A : Nat → Nat) (t_words_B : Nat → Nat) (t_images_A : Nat → Nat) (t_images_B : Nat → Nat) (post : Int32 → (Nat → Int32) → (Nat → Int32) → (Nat → Int32) → Prop)   (t_kind : Int32) (t_exponent : Int32) (p1 : Int32) (C0 : cx p s m args meth c cX5_startOver 3 none wsX5_startOver RX5 dC dI cy A)  : ∀ (n : Nat) (t_letters : Int32) (t_values : Nat → Int32) (t_words_size : Nat → Int32) (t_images_size : Nat → Int32) (x2 : Int32), VX5_startOver_7 post p1 n t_letters t_values t_words_size t_images_size x2 → ∀ (H : Heap) (locs : List Loc) (ls : Array Slot), va_P (dC, dI) vwCl (pX5_startOver cy h t_words_A t_words_B t_images_A t_images_B t_kind t_exponent t_letters t_values t_words_size t_images_size) H → va_D A (pX5_startOver cy h t_words_A t_words_B t_images_A t_images_B t_kind t_exponent t_letters t_values t_words_size t_images_size) → va_S A s.heap H locs → lv_has ls 3 [(0, .ref (h 0)), (2, .int x2)] → W p l e rX5_startOver s m args below meth c H locs 0 0 (MQ below (va_Qv (fun (u : Int32 × (Nat → Int32) × (Nat → Int32) × (Nat → Int32)) => post u.1 u.2.1 u.2.2.1 u.2.2.2) (fun (u : Int32 × (Nat → Int32) × (Nat → Int32) × (Nat → Int32)) (t : State) => va_P (dC, dI) vwCl (pX5_startOver cy h t_words_A t_words_B t_images_A t_images_B t_kind t_exponent u.1 u.2.1 u.2.2.1 u.2.2.2) t.heap) A) args s 0 0 A) (F0 m 7 ls []) := by
  have C1 := C0
  obtain ⟨hx, hb, hr, hml, hown, hts, hlocks, hK, hA⟩ := C1
  intro n
  induction n with
  | zero => intro t_letters t_values t_words_size t_images_size x2 hv; exact hv.elim
  | succ n ih =>
    intro t_letters t_values t_words_size t_images_size x2 hv H locs ls hP hD hS hl
    refine lv_iload_n hx hb dX5_startOver_7 rfl (lv_at hl 1 rfl) ?_
    refine lv_iconst (v := 3) hx hb dX5_startOver_8 (by decide) ?_
    refine lv_icmp_ge (tgt := 28) hx hb dX5_startOver_9 (by decide) (fun c_6 => ?_) (fun c_6 => ?_)
    · have hv := hv.1 c_6
      refine lv_iconst (v := 0) hx hb dX5_startOver_28 (by decide) ?_
      refine lv_istore_n (lv' := [(2, .int 0), (0, .ref (h 0))]) hx hb dX5_startOver_29 rfl hl (by decide) rfl (fun ls hl => ?_)
      obtain ⟨n_2, hv⟩ := hv
      exact wX5_startOver_30 l h t_words_A t_words_B t_images_A t_images_B post  t_kind t_exponent p1 C0 n_2 t_letters t_values t_words_size t_images_size 0 hv _ _ _ hP hD hS (lv_sub hl [1, 0] rfl)
    · have hv := hv.2 c_6
      refine lv_aload_n hx hb dX5_startOver_12 rfl (lv_at hl 0 rfl) ?_
      refine va_get (D := (dC, dI)) (ci := 5) (v := .ref (h 2)) (C := RX5) (T := TX5) (N := 6) hx hb hts nX5_startOver_X5 hown hK hP 0 rfl rfl 4 (by decide) (hts _ mX5_startOver_2) (fun _ h9 => h9) rfl dX5_startOver_13 ?_
      refine lv_iload_n hx hb dX5_startOver_16 rfl (lv_at hl 1 rfl) ?_
      have h_3 := hv.1
      have hv := hv.2
      have hj_4 : x2.toNatClampNeg < 3 := Nat.not_le.mp fun q => h_3 (Or.inr q)
      refine va_aldq hx hb hK hP 2 3 rfl rfl h_3 dX5_startOver_17 ?_
      refine W.eq (g2 := F0 m 18 ls ([.ref (t_words_A x2.toNatClampNeg)])) rfl ?_
      refine lv_iconst (v := 0) hx hb dX5_startOver_18 (by decide) ?_
      refine va_put (D := (dC, dI)) (ci := 9) (v := .int 0) (ty := .int) (C := RX9) (T := TX9) (N := 2) hx hb hts nX5_startOver_X9 tyX9 tyX9_ok nmX9 hown hK hP hD hS (3 + 1 * x2.toNatClampNeg) (co_3 (P := fun j => (pX5_startOver cy h t_words_A t_words_B t_images_A t_images_B t_kind t_exponent t_letters t_values t_words_size t_images_size)[3 + 1 * j]? = some (t_words_A j, .inr (9, [.ref (t_words_B j), .int (t_words_size j)]))) rfl rfl rfl hj_4) rfl 1 (by decide) (hts _ mX5_startOver_3) (fun _ h9 => h9) rfl (by decide +kernel) rfl rfl (Nat.le_of_ble_eq_true rfl) dX5_startOver_19 (fun H locs hP hD hS => ?_)
      have eP_5 := (co_3 (P := fun j => (pX5_startOver cy h t_words_A t_words_B t_images_A t_images_B t_kind t_exponent t_letters t_values t_words_size t_images_size).set (3 + 1 * j) (t_words_A j, .inr (9, [.ref (t_words_B j), .int (t_words_size j)].set 1 (.int 0))) = pX5_startOver cy h t_words_A t_words_B t_images_A t_images_B t_kind t_exponent t_letters t_values (va_up t_words_size j 0) t_images_size) rfl rfl rfl hj_4)
      have hP := va_Pe hP eP_5
      have hD := va_De hD eP_5
      refine lv_iinc (v := (x2 + 1)) (lv' := [(2, .int ((x2 + 1))), (0, .ref (h 0))]) hx hb dX5_startOver_22 hl (k := 1) rfl rfl (by decide) rfl (fun ls hl => ?_)
      refine lv_goto (tgt := 7) hx hb dX5_startOver_25 (by decide) ?_
      exact ih t_letters t_values (va_up t_words_size x2.toNatClampNeg 0) t_images_size (x2 + 1) hv _ _ _ hP hD hS (lv_sub hl [1, 0] rfl)
set_option maxHeartbeats 4000000 in
set_option maxRecDepth 100000 in
theorem wX5_startOver_0 {p : Program} (l : Launch) {e : Env} {s : State} {m : MethodId} {args : Array Value} {below : List Frame} {meth : Method} {c : Code} {dC : Nat → ClassId} {dI : Nat → Nat → Nat} {cy : Nat → ClassId} {A : Nat → Prop} (h : Nat → Nat) (t_words_A : Nat → Nat) (t_words_B : Nat → Nat) (t_images_A : Nat → Nat) (t_images_B : Nat → Nat) (post : Int32 → (Nat → Int32) → (Nat → Int32) → (Nat → Int32) → Prop)   (t_kind : Int32) (t_exponent : Int32) (p1 : Int32) (C0 : cx p s m args meth c cX5_startOver 3 none wsX5_startOver RX5 dC dI cy A)  : ∀ (t_letters : Int32) (t_values : Nat → Int32) (t_words_size : Nat → Int32) (t_images_size : Nat → Int32), VX5_startOver post p1 t_letters t_values t_words_size t_images_size → ∀ (H : Heap) (locs : List Loc) (ls : Array Slot), va_P (dC, dI) vwCl (pX5_startOver cy h t_words_A t_words_B t_images_A t_images_B t_kind t_exponent t_letters t_values t_words_size t_images_size) H → va_D A (pX5_startOver cy h t_words_A t_words_B t_images_A t_images_B t_kind t_exponent t_letters t_values t_words_size t_images_size) → va_S A s.heap H locs → lv_has ls 3 [(0, .ref (h 0)), (1, .int p1)] → W p l e rX5_startOver s m args below meth c H locs 0 0 (MQ below (va_Qv (fun (u : Int32 × (Nat → Int32) × (Nat → Int32) × (Nat → Int32)) => post u.1 u.2.1 u.2.2.1 u.2.2.2) (fun (u : Int32 × (Nat → Int32) × (Nat → Int32) × (Nat → Int32)) (t : State) => va_P (dC, dI) vwCl (pX5_startOver cy h t_words_A t_words_B t_images_A t_images_B t_kind t_exponent u.1 u.2.1 u.2.2.1 u.2.2.2) t.heap) A) args s 0 0 A) (F0 m 0 ls []) := by
  have C1 := C0
  obtain ⟨hx, hb, hr, hml, hown, hts, hlocks, hK, hA⟩ := C1
  intro t_letters t_values t_words_size t_images_size hv H locs ls hP hD hS hl
  refine lv_aload_n hx hb dX5_startOver_0 rfl (lv_at hl 0 rfl) ?_
  refine lv_iload_n hx hb dX5_startOver_1 rfl (lv_at hl 1 rfl) ?_
  refine va_put (D := (dC, dI)) (ci := 5) (v := .int p1) (ty := .int) (C := RX5) (T := TX5) (N := 6) hx hb hts nX5_startOver_X5 tyX5 tyX5_ok nmX5 hown hK hP hD hS 0 rfl rfl 2 (by decide) (hts _ mX5_startOver_1) (fun _ h9 => h9) rfl (by decide +kernel) rfl rfl (Nat.le_of_ble_eq_true rfl) dX5_startOver_2 (fun H locs hP hD hS => ?_)
  have hP : va_P (dC, dI) vwCl (pX5_startOver cy h t_words_A t_words_B t_images_A t_images_B t_kind t_exponent p1 t_values t_words_size t_images_size) H := hP
  have hD : va_D A (pX5_startOver cy h t_words_A t_words_B t_images_A t_images_B t_kind t_exponent p1 t_values t_words_size t_images_size) := hD
  refine lv_iconst (v := 0) hx hb dX5_startOver_5 (by decide) ?_
  refine lv_istore_n (lv' := [(2, .int 0), (0, .ref (h 0)), (1, .int p1)]) hx hb dX5_startOver_6 rfl hl (by decide) rfl (fun ls hl => ?_)
  obtain ⟨n_1, hv⟩ := hv
  exact wX5_startOver_7 l h t_words_A t_words_B t_images_A t_images_B post  t_kind t_exponent p1 C0 n_1 p1 t_values t_words_size t_images_size 0 hv _ _ _ hP hD hS (lv_sub hl [1, 0] rfl)
theorem kX5_startOver (l : Launch) (dC : Nat → ClassId) (dI : Nat → Nat → Nat) (cy : Nat → ClassId) (h : Nat → Nat) (t_words_A : Nat → Nat) (t_words_B : Nat → Nat) (t_images_A : Nat → Nat) (t_images_B : Nat → Nat) (t_kind : Int32) (t_exponent : Int32) (t_letters : Int32) (t_values : Nat → Int32) (t_words_size : Nat → Int32) (t_images_size : Nat → Int32) (p1 : Int32) (post : Int32 → (Nat → Int32) → (Nat → Int32) → (Nat → Int32) → Prop) (hv : VX5_startOver post p1 t_letters t_values t_words_size t_images_size) : CtV l yX5_startOver wsX5_startOver rX5_startOver dC dI cy [.ref (h 0), .int p1] (pX5_startOver cy h t_words_A t_words_B t_images_A t_images_B t_kind t_exponent t_letters t_values t_words_size t_images_size) (fun (u : Int32 × (Nat → Int32) × (Nat → Int32) × (Nat → Int32)) => pX5_startOver cy h t_words_A t_words_B t_images_A t_images_B t_kind t_exponent u.1 u.2.1 u.2.2.1 u.2.2.2) (fun (u : Int32 × (Nat → Int32) × (Nat → Int32) × (Nat → Int32)) => post u.1 u.2.1 u.2.2.1 u.2.2.2) :=
  ct_ofV (by decide) rfl (Nat.le_of_ble_eq_true rfl) (fun p e s m below meth c A ls C0 hP hD hS hl => wX5_startOver_0 l h t_words_A t_words_B t_images_A t_images_B post t_kind t_exponent p1 C0 t_letters t_values t_words_size t_images_size hv _ _ _ hP hD hS hl)
theorem mX5_copyFrom_1 : (Cond.fieldLink RX5 9 "AbelianPowers$Setting" "kind" "I") ∈ wsX5_copyFrom := List.mem_of_getElem? (i := 1) rfl
theorem mX5_copyFrom_2 : (Cond.fieldLink RX5 15 "AbelianPowers$Setting" "exponent" "I") ∈ wsX5_copyFrom := List.mem_of_getElem? (i := 2) rfl
theorem mX5_copyFrom_3 : (Cond.fieldLink RX5 37 "AbelianPowers$Setting" "letters" "I") ∈ wsX5_copyFrom := List.mem_of_getElem? (i := 3) rfl
theorem mX5_copyFrom_4 : (Cond.fieldLink RX5 24 "AbelianPowers$Setting" "words" "[LAbelianPowers$Word;") ∈ wsX5_copyFrom := List.mem_of_getElem? (i := 4) rfl
theorem mX5_copyFrom_5 : (Cond.fieldLink RX5 28 "AbelianPowers$Setting" "images" "[LAbelianPowers$Word;") ∈ wsX5_copyFrom := List.mem_of_getElem? (i := 5) rfl
theorem mX5_copyFrom_6 : (Cond.fieldLink RX5 18 "AbelianPowers$Setting" "values" "[I") ∈ wsX5_copyFrom := List.mem_of_getElem? (i := 6) rfl
theorem nX5_copyFrom_X5 : ∀ w ∈ wsX50, w ∈ wsX5_copyFrom := fun _ h => List.mem_cons_of_mem _ (List.mem_append_left _ (List.mem_append_right _ h))
theorem zX5_copyFrom : yX5_copyFrom.cls = RX5 ∧ yX5_copyFrom.cls ≠ "java/lang/invoke/MethodHandle" ∧ yX5_copyFrom.cls ≠ "java/lang/invoke/VarHandle" ∧ (parseMethodDescriptor yX5_copyFrom.desc).map (fun d => d.parameters.length) = some 1 := by decide +kernel
abbrev rX5_copyFrom : Room := { frames := 3, cells := 0, slots := 0, locals := 64 }
abbrev pX5_copyFrom (cy : Nat → ClassId) (h : Nat → Nat) (t_words_A : Nat → Nat) (t_words_B : Nat → Nat) (t_images_A : Nat → Nat) (t_images_B : Nat → Nat) (a1_words_A : Nat → Nat) (a1_words_B : Nat → Nat) (a1_images_A : Nat → Nat) (a1_images_B : Nat → Nat) (t_kind : Int32) (t_exponent : Int32) (t_letters : Int32) (t_values : Nat → Int32) (t_words_letters : Nat → Nat → Int32) (t_words_size : Nat → Int32) (t_images_letters : Nat → Nat → Int32) (t_images_size : Nat → Int32) (a1_kind : Int32) (a1_exponent : Int32) (a1_letters : Int32) (a1_values : Nat → Int32) (a1_words_letters : Nat → Nat → Int32) (a1_words_size : Nat → Int32) (a1_images_letters : Nat → Nat → Int32) (a1_images_size : Nat → Int32) : va_W := [(h 0, .inr (5, [.int t_kind, .int t_exponent, .int t_letters, .ref (h 1), .ref (h 2), .ref (h 3)])), (h 1, .inl (cy 0, 4, .inl t_values)), (h 2, .inl (cy 3, 3, .inr (.inr (.inr (.inr (fun j => some (t_words_A j))))))), (t_words_A 0, .inr (9, [.ref (t_words_B 0), .int (t_words_size 0)])), (t_words_B 0, .inl (cy 0, 40, .inl (t_words_letters 0))), (t_words_A 1, .inr (9, [.ref (t_words_B 1), .int (t_words_size 1)])), (t_words_B 1, .inl (cy 0, 40, .inl (t_words_letters 1))), (t_words_A 2, .inr (9, [.ref (t_words_B 2), .int (t_words_size 2)])), (t_words_B 2, .inl (cy 0, 40, .inl (t_words_letters 2))), (h 3, .inl (cy 3, 4, .inr (.inr (.inr (.inr (fun j => some (t_images_A j))))))), (t_images_A 0, .inr (9, [.ref (t_images_B 0), .int (t_images_size 0)])), (t_images_B 0, .inl (cy 0, 4, .inl (t_images_letters 0))), (t_images_A 1, .inr (9, [.ref (t_images_B 1), .int (t_images_size 1)])), (t_images_B 1, .inl (cy 0, 4, .inl (t_images_letters 1))), (t_images_A 2, .inr (9, [.ref (t_images_B 2), .int (t_images_size 2)])), (t_images_B 2, .inl (cy 0, 4, .inl (t_images_letters 2))), (t_images_A 3, .inr (9, [.ref (t_images_B 3), .int (t_images_size 3)])), (t_images_B 3, .inl (cy 0, 4, .inl (t_images_letters 3))), (h 4, .inr (5, [.int a1_kind, .int a1_exponent, .int a1_letters, .ref (h 5), .ref (h 6), .ref (h 7)])), (h 5, .inl (cy 0, 4, .inl a1_values)), (h 6, .inl (cy 3, 3, .inr (.inr (.inr (.inr (fun j => some (a1_words_A j))))))), (a1_words_A 0, .inr (9, [.ref (a1_words_B 0), .int (a1_words_size 0)])), (a1_words_B 0, .inl (cy 0, 40, .inl (a1_words_letters 0))), (a1_words_A 1, .inr (9, [.ref (a1_words_B 1), .int (a1_words_size 1)])), (a1_words_B 1, .inl (cy 0, 40, .inl (a1_words_letters 1))), (a1_words_A 2, .inr (9, [.ref (a1_words_B 2), .int (a1_words_size 2)])), (a1_words_B 2, .inl (cy 0, 40, .inl (a1_words_letters 2))), (h 7, .inl (cy 3, 4, .inr (.inr (.inr (.inr (fun j => some (a1_images_A j))))))), (a1_images_A 0, .inr (9, [.ref (a1_images_B 0), .int (a1_images_size 0)])), (a1_images_B 0, .inl (cy 0, 4, .inl (a1_images_letters 0))), (a1_images_A 1, .inr (9, [.ref (a1_images_B 1), .int (a1_images_size 1)])), (a1_images_B 1, .inl (cy 0, 4, .inl (a1_images_letters 1))), (a1_images_A 2, .inr (9, [.ref (a1_images_B 2), .int (a1_images_size 2)])), (a1_images_B 2, .inl (cy 0, 4, .inl (a1_images_letters 2))), (a1_images_A 3, .inr (9, [.ref (a1_images_B 3), .int (a1_images_size 3)])), (a1_images_B 3, .inl (cy 0, 4, .inl (a1_images_letters 3)))]
def VX5_copyFrom_54 (post : Int32 → Int32 → Int32 → (Nat → Int32) → (Nat → Nat → Int32) → (Nat → Int32) → (Nat → Nat → Int32) → (Nat → Int32) → Prop)  (a1_kind : Int32) (a1_exponent : Int32) (a1_letters : Int32) (a1_values : Nat → Int32) (a1_words_letters : Nat → Nat → Int32) (a1_words_size : Nat → Int32) (a1_images_letters : Nat → Nat → Int32) (a1_images_size : Nat → Int32) : Nat → Int32 → Int32 → Int32 → (Nat → Int32) → (Nat → Nat → Int32) → (Nat → Int32) → (Nat → Nat → Int32) → (Nat → Int32) → Int32 → Prop
  | 0, _, _, _, _, _, _, _, _, _ => False
  | n + 1, t_kind, t_exponent, t_letters, t_values, t_words_letters, t_words_size, t_images_letters, t_images_size, x2 => ((4 ≤ x2) → post t_kind t_exponent t_letters t_values t_words_letters t_words_size t_images_letters t_images_size) ∧ (¬ (4 ≤ x2) → vp_in x2 4 ∧ (vp_in x2 4 ∧ (VX9_copyFrom (fun u_16 u_17 => vp_in x2 4 ∧ (vp_in x2 4 ∧ (VX5_copyFrom_54 post a1_kind a1_exponent a1_letters a1_values a1_words_letters a1_words_size a1_images_letters a1_images_size n t_kind t_exponent t_letters (upd t_values x2.toNatClampNeg (a1_values x2.toNatClampNeg)) t_words_letters t_words_size (va_up t_images_letters x2.toNatClampNeg u_16) (va_up t_images_size x2.toNatClampNeg u_17) (x2 + 1)))) 4 4 (a1_images_letters x2.toNatClampNeg) (a1_images_size x2.toNatClampNeg) (t_images_letters x2.toNatClampNeg) (t_images_size x2.toNatClampNeg))))
def VX5_copyFrom_26 (post : Int32 → Int32 → Int32 → (Nat → Int32) → (Nat → Nat → Int32) → (Nat → Int32) → (Nat → Nat → Int32) → (Nat → Int32) → Prop)  (a1_kind : Int32) (a1_exponent : Int32) (a1_letters : Int32) (a1_values : Nat → Int32) (a1_words_letters : Nat → Nat → Int32) (a1_words_size : Nat → Int32) (a1_images_letters : Nat → Nat → Int32) (a1_images_size : Nat → Int32) : Nat → Int32 → Int32 → Int32 → (Nat → Int32) → (Nat → Nat → Int32) → (Nat → Int32) → (Nat → Nat → Int32) → (Nat → Int32) → Int32 → Prop
  | 0, _, _, _, _, _, _, _, _, _ => False
  | n + 1, t_kind, t_exponent, t_letters, t_values, t_words_letters, t_words_size, t_images_letters, t_images_size, x2 => ((3 ≤ x2) → ∃ n54 : Nat, VX5_copyFrom_54 post a1_kind a1_exponent a1_letters a1_values a1_words_letters a1_words_size a1_images_letters a1_images_size n54 t_kind t_exponent t_letters t_values t_words_letters t_words_size t_images_letters t_images_size 0) ∧ (¬ (3 ≤ x2) → vp_in x2 3 ∧ (vp_in x2 3 ∧ (VX9_copyFrom (fun u_7 u_8 => VX5_copyFrom_26 post a1_kind a1_exponent a1_letters a1_values a1_words_letters a1_words_size a1_images_letters a1_images_size n t_kind t_exponent t_letters t_values (va_up t_words_letters x2.toNatClampNeg u_7) (va_up t_words_size x2.toNatClampNeg u_8) t_images_letters t_images_size (x2 + 1)) 40 40 (a1_words_letters x2.toNatClampNeg) (a1_words_size x2.toNatClampNeg) (t_words_letters x2.toNatClampNeg) (t_words_size x2.toNatClampNeg))))
def VX5_copyFrom (post : Int32 → Int32 → Int32 → (Nat → Int32) → (Nat → Nat → Int32) → (Nat → Int32) → (Nat → Nat → Int32) → (Nat → Int32) → Prop)  (a1_kind : Int32) (a1_exponent : Int32) (a1_letters : Int32) (a1_values : Nat → Int32) (a1_words_letters : Nat → Nat → Int32) (a1_words_size : Nat → Int32) (a1_images_letters : Nat → Nat → Int32) (a1_images_size : Nat → Int32) (t_kind : Int32) (t_exponent : Int32) (t_letters : Int32) (t_values : Nat → Int32) (t_words_letters : Nat → Nat → Int32) (t_words_size : Nat → Int32) (t_images_letters : Nat → Nat → Int32) (t_images_size : Nat → Int32) : Prop := ∃ n26 : Nat, VX5_copyFrom_26 post a1_kind a1_exponent a1_letters a1_values a1_words_letters a1_words_size a1_images_letters a1_images_size n26 a1_kind a1_exponent a1_letters t_values t_words_letters t_words_size t_images_letters t_images_size 0
set_option maxHeartbeats 4000000 in
set_option maxRecDepth 100000 in
theorem wX5_copyFrom_54 {p : Program} (l : Launch) {e : Env} {s : State} {m : MethodId} {args : Array Value} {below : List Frame} {meth : Method} {c : Code} {dC : Nat → ClassId} {dI : Nat → Nat → Nat} {cy : Nat → ClassId} {A : Nat → Prop} (h : Nat → Nat) (t_words_A : Nat → Nat) (t_words_B : Nat → Nat) (t_images_A : Nat → Nat) (t_images_B : Nat → Nat) (a1_words_A : Nat → Nat) (a1_words_B : Nat → Nat) (a1_images_A : Nat → Nat) (a1_images_B : Nat → Nat) (post : Int32 → Int32 → Int32 → (Nat → Int32) → (Nat → Nat → Int32) → (Nat → Int32) → (Nat → Nat → Int32) → (Nat → Int32) → Prop)   (a1_kind : Int32) (a1_exponent : Int32) (a1_letters : Int32) (a1_values : Nat → Int32) (a1_words_letters : Nat → Nat → Int32) (a1_words_size : Nat → Int32) (a1_images_letters : Nat → Nat → Int32) (a1_images_size : Nat → Int32)  (C0 : cx p s m args meth c cX5_copyFrom 3 none wsX5_copyFrom RX5 dC dI cy A)  : ∀ (n : Nat) (t_kind : Int32) (t_exponent : Int32) (t_letters : Int32) (t_values : Nat → Int32) (t_words_letters : Nat → Nat → Int32) (t_words_size : Nat → Int32) (t_images_letters : Nat → Nat → Int32) (t_images_size : Nat → Int32) (x2 : Int32), VX5_copyFrom_54 post a1_kind a1_exponent a1_letters a1_values a1_words_letters a1_words_size a1_images_letters a1_images_size n t_kind t_exponent t_letters t_values t_words_letters t_words_size t_images_letters t_images_size x2 → ∀ (H : Heap) (locs : List Loc) (ls : Array Slot), va_P (dC, dI) vwCl (pX5_copyFrom cy h t_words_A t_words_B t_images_A t_images_B a1_words_A a1_words_B a1_images_A a1_images_B t_kind t_exponent t_letters t_values t_words_letters t_words_size t_images_letters t_images_size a1_kind a1_exponent a1_letters a1_values a1_words_letters a1_words_size a1_images_letters a1_images_size) H → va_D A (pX5_copyFrom cy h t_words_A t_words_B t_images_A t_images_B a1_words_A a1_words_B a1_images_A a1_images_B t_kind t_exponent t_letters t_values t_words_letters t_words_size t_images_letters t_images_size a1_kind a1_exponent a1_letters a1_values a1_words_letters a1_words_size a1_images_letters a1_images_size) → va_S A s.heap H locs → lv_has ls 3 [(0, .ref (h 0)), (1, .ref (h 4)), (2, .int x2)] → W p l e rX5_copyFrom s m args below meth c H locs 0 0 (MQ below (va_Qv (fun (u : Int32 × Int32 × Int32 × (Nat → Int32) × (Nat → Nat → Int32) × (Nat → Int32) × (Nat → Nat → Int32) × (Nat → Int32)) => post u.1 u.2.1 u.2.2.1 u.2.2.2.1 u.2.2.2.2.1 u.2.2.2.2.2.1 u.2.2.2.2.2.2.1 u.2.2.2.2.2.2.2) (fun (u : Int32 × Int32 × Int32 × (Nat → Int32) × (Nat → Nat → Int32) × (Nat → Int32) × (Nat → Nat → Int32) × (Nat → Int32)) (t : State) => va_P (dC, dI) vwCl (pX5_copyFrom cy h t_words_A t_words_B t_images_A t_images_B a1_words_A a1_words_B a1_images_A a1_images_B u.1 u.2.1 u.2.2.1 u.2.2.2.1 u.2.2.2.2.1 u.2.2.2.2.2.1 u.2.2.2.2.2.2.1 u.2.2.2.2.2.2.2 a1_kind a1_exponent a1_letters a1_values a1_words_letters a1_words_size a1_images_letters a1_images_size) t.heap) A) args s 0 0 A) (F0 m 54 ls []) := by
  have C1 := C0
  obtain ⟨hx, hb, hr, hml, hown, hts, hlocks, hK, hA⟩ := C1
  intro n
  induction n with
  | zero => intro t_kind t_exponent t_letters t_values t_words_letters t_words_size t_images_letters t_images_size x2 hv; exact hv.elim
  | succ n ih =>
    intro t_kind t_exponent t_letters t_values t_words_letters t_words_size t_images_letters t_images_size x2 hv H locs ls hP hD hS hl
    refine lv_iload_n hx hb dX5_copyFrom_54 rfl (lv_at hl 2 rfl) ?_
    refine lv_iconst (v := 4) hx hb dX5_copyFrom_55 (by decide) ?_
    refine lv_icmp_ge (tgt := 92) hx hb dX5_copyFrom_56 (by decide) (fun c_22 => ?_) (fun c_22 => ?_)
    · have hv := hv.1 c_22
      exact W.vret hx hb hr (fun t ht hW => ⟨⟨(t_kind, t_exponent, t_letters, t_values, t_words_letters, t_words_size, t_images_letters, t_images_size), rfl, hv, va_Ph ht hP⟩, hS.F ht⟩) hS.2.2 dX5_copyFrom_92
    · have hv := hv.2 c_22
      refine lv_aload_n hx hb dX5_copyFrom_59 rfl (lv_at hl 0 rfl) ?_
      refine va_get (D := (dC, dI)) (ci := 5) (v := .ref (h 3)) (C := RX5) (T := TX5) (N := 6) hx hb hts nX5_copyFrom_X5 hown hK hP 0 rfl rfl 5 (by decide) (hts _ mX5_copyFrom_5) (fun _ h9 => h9) rfl dX5_copyFrom_60 ?_
      refine lv_iload_n hx hb dX5_copyFrom_63 rfl (lv_at hl 2 rfl) ?_
      have h_12 := hv.1
      have hv := hv.2
      have hj_13 : x2.toNatClampNeg < 4 := Nat.not_le.mp fun q => h_12 (Or.inr q)
      refine va_aldq hx hb hK hP 9 3 rfl rfl h_12 dX5_copyFrom_64 ?_
      refine W.eq (g2 := F0 m 65 ls ([.ref (t_images_A x2.toNatClampNeg)])) rfl ?_
      refine lv_aload_n hx hb dX5_copyFrom_65 rfl (lv_at hl 1 rfl) ?_
      refine va_get (D := (dC, dI)) (ci := 5) (v := .ref (h 7)) (C := RX5) (T := TX5) (N := 6) hx hb hts nX5_copyFrom_X5 hown hK hP 18 rfl rfl 5 (by decide) (hts _ mX5_copyFrom_5) (fun _ h9 => h9) rfl dX5_copyFrom_66 ?_
      refine lv_iload_n hx hb dX5_copyFrom_69 rfl (lv_at hl 2 rfl) ?_
      have h_14 := hv.1
      have hv := hv.2
      have hj_15 : x2.toNatClampNeg < 4 := Nat.not_le.mp fun q => h_14 (Or.inr q)
      refine va_aldq hx hb hK hP 27 3 rfl rfl h_14 dX5_copyFrom_70 ?_
      refine W.eq (g2 := F0 m 71 ls ([.ref (a1_images_A x2.toNatClampNeg), .ref (t_images_A x2.toNatClampNeg)])) rfl ?_
      refine ca_VV (As := [.ref (a1_images_A x2.toNatClampNeg)]) (rest := []) ⟨hx, hb, hml, hown, hts⟩ (kX9_copyFrom l dC dI cy (adl [t_images_A x2.toNatClampNeg, t_images_B x2.toNatClampNeg, a1_images_A x2.toNatClampNeg, a1_images_B x2.toNatClampNeg]) 4 4 (t_images_letters x2.toNatClampNeg) (t_images_size x2.toNatClampNeg) (a1_images_letters x2.toNatClampNeg) (a1_images_size x2.toNatClampNeg) _ hv) (cwV 1 hts gX5_copyFrom_X9_copyFrom rfl rfl rfl zX9_copyFrom ⟨Nat.le_of_ble_eq_true rfl, Nat.le_of_ble_eq_true rfl⟩) hK hP hD hS hA [10 + 2 * x2.toNatClampNeg, 11 + 2 * x2.toNatClampNeg, 28 + 2 * x2.toNatClampNeg, 29 + 2 * x2.toNatClampNeg] (co_4 (P := fun j => [10 + 2 * j, 11 + 2 * j, 28 + 2 * j, 29 + 2 * j].map (fun i => (pX5_copyFrom cy h t_words_A t_words_B t_images_A t_images_B a1_words_A a1_words_B a1_images_A a1_images_B t_kind t_exponent t_letters t_values t_words_letters t_words_size t_images_letters t_images_size a1_kind a1_exponent a1_letters a1_values a1_words_letters a1_words_size a1_images_letters a1_images_size)[i]?) = (pX9_copyFrom cy (adl [t_images_A j, t_images_B j, a1_images_A j, a1_images_B j]) 4 4 (t_images_letters j) (t_images_size j) (a1_images_letters j) (a1_images_size j)).map some) rfl rfl rfl rfl hj_15) (co_4 (P := fun j => va_nd [10 + 2 * j, 11 + 2 * j, 28 + 2 * j, 29 + 2 * j] = true) rfl rfl rfl rfl hj_15) (ci := 9) rfl rfl (fun _ => rfl) rfl hl.1 rfl (Nat.le_of_ble_eq_true rfl) dX5_copyFrom_71 (fun w_20 H locs hv hP hD hS => ?_)
      obtain ⟨u_16, u_17⟩ := w_20
      have eP_21 := (co_4 (P := fun j => setL (pX5_copyFrom cy h t_words_A t_words_B t_images_A t_images_B a1_words_A a1_words_B a1_images_A a1_images_B t_kind t_exponent t_letters t_values t_words_letters t_words_size t_images_letters t_images_size a1_kind a1_exponent a1_letters a1_values a1_words_letters a1_words_size a1_images_letters a1_images_size) [10 + 2 * j, 11 + 2 * j, 28 + 2 * j, 29 + 2 * j] (pX9_copyFrom cy (adl [t_images_A j, t_images_B j, a1_images_A j, a1_images_B j]) 4 4 u_16 u_17 (a1_images_letters j) (a1_images_size j)) = pX5_copyFrom cy h t_words_A t_words_B t_images_A t_images_B a1_words_A a1_words_B a1_images_A a1_images_B t_kind t_exponent t_letters t_values t_words_letters t_words_size (va_up t_images_letters j u_16) (va_up t_images_size j u_17) a1_kind a1_exponent a1_letters a1_values a1_words_letters a1_words_size a1_images_letters a1_images_size) rfl rfl rfl rfl hj_15)
      have hP := va_Pe hP eP_21
      have hD := va_De hD eP_21
      refine lv_aload_n hx hb dX5_copyFrom_74 rfl (lv_at hl 0 rfl) ?_
      refine va_get (D := (dC, dI)) (ci := 5) (v := .ref (h 1)) (C := RX5) (T := TX5) (N := 6) hx hb hts nX5_copyFrom_X5 hown hK hP 0 rfl rfl 3 (by decide) (hts _ mX5_copyFrom_6) (fun _ h9 => h9) rfl dX5_copyFrom_75 ?_
      refine lv_iload_n hx hb dX5_copyFrom_78 rfl (lv_at hl 2 rfl) ?_
      refine lv_aload_n hx hb dX5_copyFrom_79 rfl (lv_at hl 1 rfl) ?_
      refine va_get (D := (dC, dI)) (ci := 5) (v := .ref (h 5)) (C := RX5) (T := TX5) (N := 6) hx hb hts nX5_copyFrom_X5 hown hK hP 18 rfl rfl 3 (by decide) (hts _ mX5_copyFrom_6) (fun _ h9 => h9) rfl dX5_copyFrom_80 ?_
      refine lv_iload_n hx hb dX5_copyFrom_83 rfl (lv_at hl 2 rfl) ?_
      have h_18 := hv.1
      have hv := hv.2
      refine va_iald hx hb hK hP 19 0 rfl rfl h_18 dX5_copyFrom_84 ?_
      have h_19 := hv.1
      have hv := hv.2
      refine va_iast hx hb hK hP hD hS 1 0 rfl rfl h_19 dX5_copyFrom_85 (fun H locs hP hD hS => ?_)
      have hP : va_P (dC, dI) vwCl (pX5_copyFrom cy h t_words_A t_words_B t_images_A t_images_B a1_words_A a1_words_B a1_images_A a1_images_B t_kind t_exponent t_letters (upd t_values x2.toNatClampNeg (a1_values x2.toNatClampNeg)) t_words_letters t_words_size (va_up t_images_letters x2.toNatClampNeg u_16) (va_up t_images_size x2.toNatClampNeg u_17) a1_kind a1_exponent a1_letters a1_values a1_words_letters a1_words_size a1_images_letters a1_images_size) H := hP
      have hD : va_D A (pX5_copyFrom cy h t_words_A t_words_B t_images_A t_images_B a1_words_A a1_words_B a1_images_A a1_images_B t_kind t_exponent t_letters (upd t_values x2.toNatClampNeg (a1_values x2.toNatClampNeg)) t_words_letters t_words_size (va_up t_images_letters x2.toNatClampNeg u_16) (va_up t_images_size x2.toNatClampNeg u_17) a1_kind a1_exponent a1_letters a1_values a1_words_letters a1_words_size a1_images_letters a1_images_size) := hD
      refine lv_iinc (v := (x2 + 1)) (lv' := [(2, .int ((x2 + 1))), (0, .ref (h 0)), (1, .ref (h 4))]) hx hb dX5_copyFrom_86 hl (k := 2) rfl rfl (by decide) rfl (fun ls hl => ?_)
      refine lv_goto (tgt := 54) hx hb dX5_copyFrom_89 (by decide) ?_
      exact ih t_kind t_exponent t_letters (upd t_values x2.toNatClampNeg (a1_values x2.toNatClampNeg)) t_words_letters t_words_size (va_up t_images_letters x2.toNatClampNeg u_16) (va_up t_images_size x2.toNatClampNeg u_17) (x2 + 1) hv _ _ _ hP hD hS (lv_sub hl [1, 2, 0] rfl)
set_option maxHeartbeats 4000000 in
set_option maxRecDepth 100000 in
theorem wX5_copyFrom_26 {p : Program} (l : Launch) {e : Env} {s : State} {m : MethodId} {args : Array Value} {below : List Frame} {meth : Method} {c : Code} {dC : Nat → ClassId} {dI : Nat → Nat → Nat} {cy : Nat → ClassId} {A : Nat → Prop} (h : Nat → Nat) (t_words_A : Nat → Nat) (t_words_B : Nat → Nat) (t_images_A : Nat → Nat) (t_images_B : Nat → Nat) (a1_words_A : Nat → Nat) (a1_words_B : Nat → Nat) (a1_images_A : Nat → Nat) (a1_images_B : Nat → Nat) (post : Int32 → Int32 → Int32 → (Nat → Int32) → (Nat → Nat → Int32) → (Nat → Int32) → (Nat → Nat → Int32) → (Nat → Int32) → Prop)   (a1_kind : Int32) (a1_exponent : Int32) (a1_letters : Int32) (a1_values : Nat → Int32) (a1_words_letters : Nat → Nat → Int32) (a1_words_size : Nat → Int32) (a1_images_letters : Nat → Nat → Int32) (a1_images_size : Nat → Int32)  (C0 : cx p s m args meth c cX5_copyFrom 3 none wsX5_copyFrom RX5 dC dI cy A)  : ∀ (n : Nat) (t_kind : Int32) (t_exponent : Int32) (t_letters : Int32) (t_values : Nat → Int32) (t_words_letters : Nat → Nat → Int32) (t_words_size : Nat → Int32) (t_images_letters : Nat → Nat → Int32) (t_images_size : Nat → Int32) (x2 : Int32), VX5_copyFrom_26 post a1_kind a1_exponent a1_letters a1_values a1_words_letters a1_words_size a1_images_letters a1_images_size n t_kind t_exponent t_letters t_values t_words_letters t_words_size t_images_letters t_images_size x2 → ∀ (H : Heap) (locs : List Loc) (ls : Array Slot), va_P (dC, dI) vwCl (pX5_copyFrom cy h t_words_A t_words_B t_images_A t_images_B a1_words_A a1_words_B a1_images_A a1_images_B t_kind t_exponent t_letters t_values t_words_letters t_words_size t_images_letters t_images_size a1_kind a1_exponent a1_letters a1_values a1_words_letters a1_words_size a1_images_letters a1_images_size) H → va_D A (pX5_copyFrom cy h t_words_A t_words_B t_images_A t_images_B a1_words_A a1_words_B a1_images_A a1_images_B t_kind t_exponent t_letters t_values t_words_letters t_words_size t_images_letters t_images_size a1_kind a1_exponent a1_letters a1_values a1_words_letters a1_words_size a1_images_letters a1_images_size) → va_S A s.heap H locs → lv_has ls 3 [(0, .ref (h 0)), (1, .ref (h 4)), (2, .int x2)] → W p l e rX5_copyFrom s m args below meth c H locs 0 0 (MQ below (va_Qv (fun (u : Int32 × Int32 × Int32 × (Nat → Int32) × (Nat → Nat → Int32) × (Nat → Int32) × (Nat → Nat → Int32) × (Nat → Int32)) => post u.1 u.2.1 u.2.2.1 u.2.2.2.1 u.2.2.2.2.1 u.2.2.2.2.2.1 u.2.2.2.2.2.2.1 u.2.2.2.2.2.2.2) (fun (u : Int32 × Int32 × Int32 × (Nat → Int32) × (Nat → Nat → Int32) × (Nat → Int32) × (Nat → Nat → Int32) × (Nat → Int32)) (t : State) => va_P (dC, dI) vwCl (pX5_copyFrom cy h t_words_A t_words_B t_images_A t_images_B a1_words_A a1_words_B a1_images_A a1_images_B u.1 u.2.1 u.2.2.1 u.2.2.2.1 u.2.2.2.2.1 u.2.2.2.2.2.1 u.2.2.2.2.2.2.1 u.2.2.2.2.2.2.2 a1_kind a1_exponent a1_letters a1_values a1_words_letters a1_words_size a1_images_letters a1_images_size) t.heap) A) args s 0 0 A) (F0 m 26 ls []) := by
  have C1 := C0
  obtain ⟨hx, hb, hr, hml, hown, hts, hlocks, hK, hA⟩ := C1
  intro n
  induction n with
  | zero => intro t_kind t_exponent t_letters t_values t_words_letters t_words_size t_images_letters t_images_size x2 hv; exact hv.elim
  | succ n ih =>
    intro t_kind t_exponent t_letters t_values t_words_letters t_words_size t_images_letters t_images_size x2 hv H locs ls hP hD hS hl
    refine lv_iload_n hx hb dX5_copyFrom_26 rfl (lv_at hl 2 rfl) ?_
    refine lv_iconst (v := 3) hx hb dX5_copyFrom_27 (by decide) ?_
    refine lv_icmp_ge (tgt := 52) hx hb dX5_copyFrom_28 (by decide) (fun c_11 => ?_) (fun c_11 => ?_)
    · have hv := hv.1 c_11
      refine lv_iconst (v := 0) hx hb dX5_copyFrom_52 (by decide) ?_
      refine lv_istore_n (lv' := [(2, .int 0), (0, .ref (h 0)), (1, .ref (h 4))]) hx hb dX5_copyFrom_53 rfl hl (by decide) rfl (fun ls hl => ?_)
      obtain ⟨n_2, hv⟩ := hv
      exact wX5_copyFrom_54 l h t_words_A t_words_B t_images_A t_images_B a1_words_A a1_words_B a1_images_A a1_images_B post  a1_kind a1_exponent a1_letters a1_values a1_words_letters a1_words_size a1_images_letters a1_images_size C0 n_2 t_kind t_exponent t_letters t_values t_words_letters t_words_size t_images_letters t_images_size 0 hv _ _ _ hP hD hS (lv_sub hl [1, 2, 0] rfl)
    · have hv := hv.2 c_11
      refine lv_aload_n hx hb dX5_copyFrom_31 rfl (lv_at hl 0 rfl) ?_
      refine va_get (D := (dC, dI)) (ci := 5) (v := .ref (h 2)) (C := RX5) (T := TX5) (N := 6) hx hb hts nX5_copyFrom_X5 hown hK hP 0 rfl rfl 4 (by decide) (hts _ mX5_copyFrom_4) (fun _ h9 => h9) rfl dX5_copyFrom_32 ?_
      refine lv_iload_n hx hb dX5_copyFrom_35 rfl (lv_at hl 2 rfl) ?_
      have h_3 := hv.1
      have hv := hv.2
      have hj_4 : x2.toNatClampNeg < 3 := Nat.not_le.mp fun q => h_3 (Or.inr q)
      refine va_aldq hx hb hK hP 2 3 rfl rfl h_3 dX5_copyFrom_36 ?_
      refine W.eq (g2 := F0 m 37 ls ([.ref (t_words_A x2.toNatClampNeg)])) rfl ?_
      refine lv_aload_n hx hb dX5_copyFrom_37 rfl (lv_at hl 1 rfl) ?_
      refine va_get (D := (dC, dI)) (ci := 5) (v := .ref (h 6)) (C := RX5) (T := TX5) (N := 6) hx hb hts nX5_copyFrom_X5 hown hK hP 18 rfl rfl 4 (by decide) (hts _ mX5_copyFrom_4) (fun _ h9 => h9) rfl dX5_copyFrom_38 ?_
      refine lv_iload_n hx hb dX5_copyFrom_41 rfl (lv_at hl 2 rfl) ?_
      have h_5 := hv.1
      have hv := hv.2
      have hj_6 : x2.toNatClampNeg < 3 := Nat.not_le.mp fun q => h_5 (Or.inr q)
      refine va_aldq hx hb hK hP 20 3 rfl rfl h_5 dX5_copyFrom_42 ?_
      refine W.eq (g2 := F0 m 43 ls ([.ref (a1_words_A x2.toNatClampNeg), .ref (t_words_A x2.toNatClampNeg)])) rfl ?_
      refine ca_VV (As := [.ref (a1_words_A x2.toNatClampNeg)]) (rest := []) ⟨hx, hb, hml, hown, hts⟩ (kX9_copyFrom l dC dI cy (adl [t_words_A x2.toNatClampNeg, t_words_B x2.toNatClampNeg, a1_words_A x2.toNatClampNeg, a1_words_B x2.toNatClampNeg]) 40 40 (t_words_letters x2.toNatClampNeg) (t_words_size x2.toNatClampNeg) (a1_words_letters x2.toNatClampNeg) (a1_words_size x2.toNatClampNeg) _ hv) (cwV 1 hts gX5_copyFrom_X9_copyFrom rfl rfl rfl zX9_copyFrom ⟨Nat.le_of_ble_eq_true rfl, Nat.le_of_ble_eq_true rfl⟩) hK hP hD hS hA [3 + 2 * x2.toNatClampNeg, 4 + 2 * x2.toNatClampNeg, 21 + 2 * x2.toNatClampNeg, 22 + 2 * x2.toNatClampNeg] (co_3 (P := fun j => [3 + 2 * j, 4 + 2 * j, 21 + 2 * j, 22 + 2 * j].map (fun i => (pX5_copyFrom cy h t_words_A t_words_B t_images_A t_images_B a1_words_A a1_words_B a1_images_A a1_images_B t_kind t_exponent t_letters t_values t_words_letters t_words_size t_images_letters t_images_size a1_kind a1_exponent a1_letters a1_values a1_words_letters a1_words_size a1_images_letters a1_images_size)[i]?) = (pX9_copyFrom cy (adl [t_words_A j, t_words_B j, a1_words_A j, a1_words_B j]) 40 40 (t_words_letters j) (t_words_size j) (a1_words_letters j) (a1_words_size j)).map some) rfl rfl rfl hj_6) (co_3 (P := fun j => va_nd [3 + 2 * j, 4 + 2 * j, 21 + 2 * j, 22 + 2 * j] = true) rfl rfl rfl hj_6) (ci := 9) rfl rfl (fun _ => rfl) rfl hl.1 rfl (Nat.le_of_ble_eq_true rfl) dX5_copyFrom_43 (fun w_9 H locs hv hP hD hS => ?_)
      obtain ⟨u_7, u_8⟩ := w_9
      have eP_10 := (co_3 (P := fun j => setL (pX5_copyFrom cy h t_words_A t_words_B t_images_A t_images_B a1_words_A a1_words_B a1_images_A a1_images_B t_kind t_exponent t_letters t_values t_words_letters t_words_size t_images_letters t_images_size a1_kind a1_exponent a1_letters a1_values a1_words_letters a1_words_size a1_images_letters a1_images_size) [3 + 2 * j, 4 + 2 * j, 21 + 2 * j, 22 + 2 * j] (pX9_copyFrom cy (adl [t_words_A j, t_words_B j, a1_words_A j, a1_words_B j]) 40 40 u_7 u_8 (a1_words_letters j) (a1_words_size j)) = pX5_copyFrom cy h t_words_A t_words_B t_images_A t_images_B a1_words_A a1_words_B a1_images_A a1_images_B t_kind t_exponent t_letters t_values (va_up t_words_letters j u_7) (va_up t_words_size j u_8) t_images_letters t_images_size a1_kind a1_exponent a1_letters a1_values a1_words_letters a1_words_size a1_images_letters a1_images_size) rfl rfl rfl hj_6)
      have hP := va_Pe hP eP_10
      have hD := va_De hD eP_10
      refine lv_iinc (v := (x2 + 1)) (lv' := [(2, .int ((x2 + 1))), (0, .ref (h 0)), (1, .ref (h 4))]) hx hb dX5_copyFrom_46 hl (k := 2) rfl rfl (by decide) rfl (fun ls hl => ?_)
      refine lv_goto (tgt := 26) hx hb dX5_copyFrom_49 (by decide) ?_
      exact ih t_kind t_exponent t_letters t_values (va_up t_words_letters x2.toNatClampNeg u_7) (va_up t_words_size x2.toNatClampNeg u_8) t_images_letters t_images_size (x2 + 1) hv _ _ _ hP hD hS (lv_sub hl [1, 2, 0] rfl)
set_option maxHeartbeats 4000000 in
set_option maxRecDepth 100000 in
theorem wX5_copyFrom_0 {p : Program} (l : Launch) {e : Env} {s : State} {m : MethodId} {args : Array Value} {below : List Frame} {meth : Method} {c : Code} {dC : Nat → ClassId} {dI : Nat → Nat → Nat} {cy : Nat → ClassId} {A : Nat → Prop} (h : Nat → Nat) (t_words_A : Nat → Nat) (t_words_B : Nat → Nat) (t_images_A : Nat → Nat) (t_images_B : Nat → Nat) (a1_words_A : Nat → Nat) (a1_words_B : Nat → Nat) (a1_images_A : Nat → Nat) (a1_images_B : Nat → Nat) (post : Int32 → Int32 → Int32 → (Nat → Int32) → (Nat → Nat → Int32) → (Nat → Int32) → (Nat → Nat → Int32) → (Nat → Int32) → Prop)   (a1_kind : Int32) (a1_exponent : Int32) (a1_letters : Int32) (a1_values : Nat → Int32) (a1_words_letters : Nat → Nat → Int32) (a1_words_size : Nat → Int32) (a1_images_letters : Nat → Nat → Int32) (a1_images_size : Nat → Int32)  (C0 : cx p s m args meth c cX5_copyFrom 3 none wsX5_copyFrom RX5 dC dI cy A)  : ∀ (t_kind : Int32) (t_exponent : Int32) (t_letters : Int32) (t_values : Nat → Int32) (t_words_letters : Nat → Nat → Int32) (t_words_size : Nat → Int32) (t_images_letters : Nat → Nat → Int32) (t_images_size : Nat → Int32), VX5_copyFrom post a1_kind a1_exponent a1_letters a1_values a1_words_letters a1_words_size a1_images_letters a1_images_size t_kind t_exponent t_letters t_values t_words_letters t_words_size t_images_letters t_images_size → ∀ (H : Heap) (locs : List Loc) (ls : Array Slot), va_P (dC, dI) vwCl (pX5_copyFrom cy h t_words_A t_words_B t_images_A t_images_B a1_words_A a1_words_B a1_images_A a1_images_B t_kind t_exponent t_letters t_values t_words_letters t_words_size t_images_letters t_images_size a1_kind a1_exponent a1_letters a1_values a1_words_letters a1_words_size a1_images_letters a1_images_size) H → va_D A (pX5_copyFrom cy h t_words_A t_words_B t_images_A t_images_B a1_words_A a1_words_B a1_images_A a1_images_B t_kind t_exponent t_letters t_values t_words_letters t_words_size t_images_letters t_images_size a1_kind a1_exponent a1_letters a1_values a1_words_letters a1_words_size a1_images_letters a1_images_size) → va_S A s.heap H locs → lv_has ls 3 [(0, .ref (h 0)), (1, .ref (h 4))] → W p l e rX5_copyFrom s m args below meth c H locs 0 0 (MQ below (va_Qv (fun (u : Int32 × Int32 × Int32 × (Nat → Int32) × (Nat → Nat → Int32) × (Nat → Int32) × (Nat → Nat → Int32) × (Nat → Int32)) => post u.1 u.2.1 u.2.2.1 u.2.2.2.1 u.2.2.2.2.1 u.2.2.2.2.2.1 u.2.2.2.2.2.2.1 u.2.2.2.2.2.2.2) (fun (u : Int32 × Int32 × Int32 × (Nat → Int32) × (Nat → Nat → Int32) × (Nat → Int32) × (Nat → Nat → Int32) × (Nat → Int32)) (t : State) => va_P (dC, dI) vwCl (pX5_copyFrom cy h t_words_A t_words_B t_images_A t_images_B a1_words_A a1_words_B a1_images_A a1_images_B u.1 u.2.1 u.2.2.1 u.2.2.2.1 u.2.2.2.2.1 u.2.2.2.2.2.1 u.2.2.2.2.2.2.1 u.2.2.2.2.2.2.2 a1_kind a1_exponent a1_letters a1_values a1_words_letters a1_words_size a1_images_letters a1_images_size) t.heap) A) args s 0 0 A) (F0 m 0 ls []) := by
  have C1 := C0
  obtain ⟨hx, hb, hr, hml, hown, hts, hlocks, hK, hA⟩ := C1
  intro t_kind t_exponent t_letters t_values t_words_letters t_words_size t_images_letters t_images_size hv H locs ls hP hD hS hl
  refine lv_aload_n hx hb dX5_copyFrom_0 rfl (lv_at hl 0 rfl) ?_
  refine lv_aload_n hx hb dX5_copyFrom_1 rfl (lv_at hl 1 rfl) ?_
  refine va_get (D := (dC, dI)) (ci := 5) (v := .int a1_kind) (C := RX5) (T := TX5) (N := 6) hx hb hts nX5_copyFrom_X5 hown hK hP 18 rfl rfl 0 (by decide) (hts _ mX5_copyFrom_1) (fun _ h9 => h9) rfl dX5_copyFrom_2 ?_
  refine va_put (D := (dC, dI)) (ci := 5) (v := .int a1_kind) (ty := .int) (C := RX5) (T := TX5) (N := 6) hx hb hts nX5_copyFrom_X5 tyX5 tyX5_ok nmX5 hown hK hP hD hS 0 rfl rfl 0 (by decide) (hts _ mX5_copyFrom_1) (fun _ h9 => h9) rfl (by decide +kernel) rfl rfl (Nat.le_of_ble_eq_true rfl) dX5_copyFrom_5 (fun H locs hP hD hS => ?_)
  have hP : va_P (dC, dI) vwCl (pX5_copyFrom cy h t_words_A t_words_B t_images_A t_images_B a1_words_A a1_words_B a1_images_A a1_images_B a1_kind t_exponent t_letters t_values t_words_letters t_words_size t_images_letters t_images_size a1_kind a1_exponent a1_letters a1_values a1_words_letters a1_words_size a1_images_letters a1_images_size) H := hP
  have hD : va_D A (pX5_copyFrom cy h t_words_A t_words_B t_images_A t_images_B a1_words_A a1_words_B a1_images_A a1_images_B a1_kind t_exponent t_letters t_values t_words_letters t_words_size t_images_letters t_images_size a1_kind a1_exponent a1_letters a1_values a1_words_letters a1_words_size a1_images_letters a1_images_size) := hD
  refine lv_aload_n hx hb dX5_copyFrom_8 rfl (lv_at hl 0 rfl) ?_
  refine lv_aload_n hx hb dX5_copyFrom_9 rfl (lv_at hl 1 rfl) ?_
  refine va_get (D := (dC, dI)) (ci := 5) (v := .int a1_exponent) (C := RX5) (T := TX5) (N := 6) hx hb hts nX5_copyFrom_X5 hown hK hP 18 rfl rfl 1 (by decide) (hts _ mX5_copyFrom_2) (fun _ h9 => h9) rfl dX5_copyFrom_10 ?_
  refine va_put (D := (dC, dI)) (ci := 5) (v := .int a1_exponent) (ty := .int) (C := RX5) (T := TX5) (N := 6) hx hb hts nX5_copyFrom_X5 tyX5 tyX5_ok nmX5 hown hK hP hD hS 0 rfl rfl 1 (by decide) (hts _ mX5_copyFrom_2) (fun _ h9 => h9) rfl (by decide +kernel) rfl rfl (Nat.le_of_ble_eq_true rfl) dX5_copyFrom_13 (fun H locs hP hD hS => ?_)
  have hP : va_P (dC, dI) vwCl (pX5_copyFrom cy h t_words_A t_words_B t_images_A t_images_B a1_words_A a1_words_B a1_images_A a1_images_B a1_kind a1_exponent t_letters t_values t_words_letters t_words_size t_images_letters t_images_size a1_kind a1_exponent a1_letters a1_values a1_words_letters a1_words_size a1_images_letters a1_images_size) H := hP
  have hD : va_D A (pX5_copyFrom cy h t_words_A t_words_B t_images_A t_images_B a1_words_A a1_words_B a1_images_A a1_images_B a1_kind a1_exponent t_letters t_values t_words_letters t_words_size t_images_letters t_images_size a1_kind a1_exponent a1_letters a1_values a1_words_letters a1_words_size a1_images_letters a1_images_size) := hD
  refine lv_aload_n hx hb dX5_copyFrom_16 rfl (lv_at hl 0 rfl) ?_
  refine lv_aload_n hx hb dX5_copyFrom_17 rfl (lv_at hl 1 rfl) ?_
  refine va_get (D := (dC, dI)) (ci := 5) (v := .int a1_letters) (C := RX5) (T := TX5) (N := 6) hx hb hts nX5_copyFrom_X5 hown hK hP 18 rfl rfl 2 (by decide) (hts _ mX5_copyFrom_3) (fun _ h9 => h9) rfl dX5_copyFrom_18 ?_
  refine va_put (D := (dC, dI)) (ci := 5) (v := .int a1_letters) (ty := .int) (C := RX5) (T := TX5) (N := 6) hx hb hts nX5_copyFrom_X5 tyX5 tyX5_ok nmX5 hown hK hP hD hS 0 rfl rfl 2 (by decide) (hts _ mX5_copyFrom_3) (fun _ h9 => h9) rfl (by decide +kernel) rfl rfl (Nat.le_of_ble_eq_true rfl) dX5_copyFrom_21 (fun H locs hP hD hS => ?_)
  have hP : va_P (dC, dI) vwCl (pX5_copyFrom cy h t_words_A t_words_B t_images_A t_images_B a1_words_A a1_words_B a1_images_A a1_images_B a1_kind a1_exponent a1_letters t_values t_words_letters t_words_size t_images_letters t_images_size a1_kind a1_exponent a1_letters a1_values a1_words_letters a1_words_size a1_images_letters a1_images_size) H := hP
  have hD : va_D A (pX5_copyFrom cy h t_words_A t_words_B t_images_A t_images_B a1_words_A a1_words_B a1_images_A a1_images_B a1_kind a1_exponent a1_letters t_values t_words_letters t_words_size t_images_letters t_images_size a1_kind a1_exponent a1_letters a1_values a1_words_letters a1_words_size a1_images_letters a1_images_size) := hD
  refine lv_iconst (v := 0) hx hb dX5_copyFrom_24 (by decide) ?_
  refine lv_istore_n (lv' := [(2, .int 0), (0, .ref (h 0)), (1, .ref (h 4))]) hx hb dX5_copyFrom_25 rfl hl (by decide) rfl (fun ls hl => ?_)
  obtain ⟨n_1, hv⟩ := hv
  exact wX5_copyFrom_26 l h t_words_A t_words_B t_images_A t_images_B a1_words_A a1_words_B a1_images_A a1_images_B post  a1_kind a1_exponent a1_letters a1_values a1_words_letters a1_words_size a1_images_letters a1_images_size C0 n_1 a1_kind a1_exponent a1_letters t_values t_words_letters t_words_size t_images_letters t_images_size 0 hv _ _ _ hP hD hS (lv_sub hl [1, 2, 0] rfl)
theorem kX5_copyFrom (l : Launch) (dC : Nat → ClassId) (dI : Nat → Nat → Nat) (cy : Nat → ClassId) (h : Nat → Nat) (t_words_A : Nat → Nat) (t_words_B : Nat → Nat) (t_images_A : Nat → Nat) (t_images_B : Nat → Nat) (a1_words_A : Nat → Nat) (a1_words_B : Nat → Nat) (a1_images_A : Nat → Nat) (a1_images_B : Nat → Nat) (t_kind : Int32) (t_exponent : Int32) (t_letters : Int32) (t_values : Nat → Int32) (t_words_letters : Nat → Nat → Int32) (t_words_size : Nat → Int32) (t_images_letters : Nat → Nat → Int32) (t_images_size : Nat → Int32) (a1_kind : Int32) (a1_exponent : Int32) (a1_letters : Int32) (a1_values : Nat → Int32) (a1_words_letters : Nat → Nat → Int32) (a1_words_size : Nat → Int32) (a1_images_letters : Nat → Nat → Int32) (a1_images_size : Nat → Int32)  (post : Int32 → Int32 → Int32 → (Nat → Int32) → (Nat → Nat → Int32) → (Nat → Int32) → (Nat → Nat → Int32) → (Nat → Int32) → Prop) (hv : VX5_copyFrom post a1_kind a1_exponent a1_letters a1_values a1_words_letters a1_words_size a1_images_letters a1_images_size t_kind t_exponent t_letters t_values t_words_letters t_words_size t_images_letters t_images_size) : CtV l yX5_copyFrom wsX5_copyFrom rX5_copyFrom dC dI cy [.ref (h 0), .ref (h 4)] (pX5_copyFrom cy h t_words_A t_words_B t_images_A t_images_B a1_words_A a1_words_B a1_images_A a1_images_B t_kind t_exponent t_letters t_values t_words_letters t_words_size t_images_letters t_images_size a1_kind a1_exponent a1_letters a1_values a1_words_letters a1_words_size a1_images_letters a1_images_size) (fun (u : Int32 × Int32 × Int32 × (Nat → Int32) × (Nat → Nat → Int32) × (Nat → Int32) × (Nat → Nat → Int32) × (Nat → Int32)) => pX5_copyFrom cy h t_words_A t_words_B t_images_A t_images_B a1_words_A a1_words_B a1_images_A a1_images_B u.1 u.2.1 u.2.2.1 u.2.2.2.1 u.2.2.2.2.1 u.2.2.2.2.2.1 u.2.2.2.2.2.2.1 u.2.2.2.2.2.2.2 a1_kind a1_exponent a1_letters a1_values a1_words_letters a1_words_size a1_images_letters a1_images_size) (fun (u : Int32 × Int32 × Int32 × (Nat → Int32) × (Nat → Nat → Int32) × (Nat → Int32) × (Nat → Nat → Int32) × (Nat → Int32)) => post u.1 u.2.1 u.2.2.1 u.2.2.2.1 u.2.2.2.2.1 u.2.2.2.2.2.1 u.2.2.2.2.2.2.1 u.2.2.2.2.2.2.2) :=
  ct_ofV (by decide) rfl (Nat.le_of_ble_eq_true rfl) (fun p e s m below meth c A ls C0 hP hD hS hl => wX5_copyFrom_0 l h t_words_A t_words_B t_images_A t_images_B a1_words_A a1_words_B a1_images_A a1_images_B post a1_kind a1_exponent a1_letters a1_values a1_words_letters a1_words_size a1_images_letters a1_images_size C0 t_kind t_exponent t_letters t_values t_words_letters t_words_size t_images_letters t_images_size hv _ _ _ hP hD hS hl)
theorem mX5_hasLetter_1 : (Cond.fieldLink RX5 37 "AbelianPowers$Setting" "letters" "I") ∈ wsX5_hasLetter := List.mem_of_getElem? (i := 1) rfl
theorem nX5_hasLetter_X5 : ∀ w ∈ wsX50, w ∈ wsX5_hasLetter := fun _ h => List.mem_cons_of_mem _ (List.mem_append_right _ h)
theorem zX5_hasLetter : yX5_hasLetter.cls = RX5 ∧ yX5_hasLetter.cls ≠ "java/lang/invoke/MethodHandle" ∧ yX5_hasLetter.cls ≠ "java/lang/invoke/VarHandle" ∧ (parseMethodDescriptor yX5_hasLetter.desc).map (fun d => d.parameters.length) = some 1 := by decide +kernel
abbrev rX5_hasLetter : Room := { frames := 0, cells := 0, slots := 0, locals := 0 }
abbrev pX5_hasLetter (cy : Nat → ClassId) (h : Nat → Nat) (t_kind : Int32) (t_exponent : Int32) (t_letters : Int32) : va_W := [(h 0, .inr (5, [.int t_kind, .int t_exponent, .int t_letters, .ref (h 1), .ref (h 2), .ref (h 3)]))]
def VX5_hasLetter (post : Int32 → Prop)  (t_letters : Int32) (p1 : Int32)  : Prop := ((p1 < 0) → post (0 : Int32)) ∧ (¬ (p1 < 0) → ((t_letters ≤ p1) → post (0 : Int32)) ∧ (¬ (t_letters ≤ p1) → post (1 : Int32)))
set_option maxHeartbeats 4000000 in
set_option maxRecDepth 100000 in
theorem wX5_hasLetter_0 {p : Program} (l : Launch) {e : Env} {s : State} {m : MethodId} {args : Array Value} {below : List Frame} {meth : Method} {c : Code} {dC : Nat → ClassId} {dI : Nat → Nat → Nat} {cy : Nat → ClassId} {A : Nat → Prop} (h : Nat → Nat) (post : Int32 → Prop)   (t_kind : Int32) (t_exponent : Int32) (t_letters : Int32) (p1 : Int32) (C0 : cx p s m args meth c cX5_hasLetter 2 (some .boolean) wsX5_hasLetter RX5 dC dI cy A)  : VX5_hasLetter post t_letters p1  → ∀ (H : Heap) (locs : List Loc) (ls : Array Slot), va_P (dC, dI) vwCl (pX5_hasLetter cy h t_kind t_exponent t_letters) H → va_D A (pX5_hasLetter cy h t_kind t_exponent t_letters) → va_S A s.heap H locs → lv_has ls 2 [(0, .ref (h 0)), (1, .int p1)] → W p l e rX5_hasLetter s m args below meth c H locs 0 0 (MQ below (va_Qi (fun (r : Int32) (_ : Unit) => post r) (fun (_ : Unit) (t : State) => va_P (dC, dI) vwCl (pX5_hasLetter cy h t_kind t_exponent t_letters) t.heap) A) args s 0 0 A) (F0 m 0 ls []) := by
  have C1 := C0
  obtain ⟨hx, hb, hr, hml, hown, hts, hlocks, hK, hA⟩ := C1
  intro  hv H locs ls hP hD hS hl
  refine lv_iload_n hx hb dX5_hasLetter_0 rfl (lv_at hl 1 rfl) ?_
  refine lv_if_lt (tgt := 16) hx hb dX5_hasLetter_1 (by decide) (fun c_2 => ?_) (fun c_2 => ?_)
  · have hv := hv.1 c_2
    refine lv_iconst (v := 0) hx hb dX5_hasLetter_16 (by decide) ?_
    exact W.zret (v := 0) hx hb hr rfl (fun t ht hW => ⟨⟨0, (), rfl, hv, va_Ph ht hP⟩, hS.F ht⟩) hS.2.2 dX5_hasLetter_17
  · have hv := hv.2 c_2
    refine lv_iload_n hx hb dX5_hasLetter_4 rfl (lv_at hl 1 rfl) ?_
    refine lv_aload_n hx hb dX5_hasLetter_5 rfl (lv_at hl 0 rfl) ?_
    refine va_get (D := (dC, dI)) (ci := 5) (v := .int t_letters) (C := RX5) (T := TX5) (N := 6) hx hb hts nX5_hasLetter_X5 hown hK hP 0 rfl rfl 2 (by decide) (hts _ mX5_hasLetter_1) (fun _ h9 => h9) rfl dX5_hasLetter_6 ?_
    refine lv_icmp_ge (tgt := 16) hx hb dX5_hasLetter_9 (by decide) (fun c_1 => ?_) (fun c_1 => ?_)
    · have hv := hv.1 c_1
      refine lv_iconst (v := 0) hx hb dX5_hasLetter_16 (by decide) ?_
      exact W.zret (v := 0) hx hb hr rfl (fun t ht hW => ⟨⟨0, (), rfl, hv, va_Ph ht hP⟩, hS.F ht⟩) hS.2.2 dX5_hasLetter_17
    · have hv := hv.2 c_1
      refine lv_iconst (v := 1) hx hb dX5_hasLetter_12 (by decide) ?_
      refine lv_goto (tgt := 17) hx hb dX5_hasLetter_13 (by decide) ?_
      exact W.zret (v := 1) hx hb hr rfl (fun t ht hW => ⟨⟨1, (), rfl, hv, va_Ph ht hP⟩, hS.F ht⟩) hS.2.2 dX5_hasLetter_17
theorem kX5_hasLetter (l : Launch) (dC : Nat → ClassId) (dI : Nat → Nat → Nat) (cy : Nat → ClassId) (h : Nat → Nat) (t_kind : Int32) (t_exponent : Int32) (t_letters : Int32) (p1 : Int32) (post : Int32 → Prop) (hv : VX5_hasLetter post t_letters p1 ) : CtI l yX5_hasLetter wsX5_hasLetter rX5_hasLetter dC dI cy [.ref (h 0), .int p1] (pX5_hasLetter cy h t_kind t_exponent t_letters) (fun (_ : Unit) => pX5_hasLetter cy h t_kind t_exponent t_letters) (fun (r : Int32) (_ : Unit) => post r) :=
  ct_ofI (by decide) rfl (Nat.le_of_ble_eq_true rfl) (fun p e s m below meth c A ls C0 hP hD hS hl => wX5_hasLetter_0 l h post t_kind t_exponent t_letters p1 C0  hv _ _ _ hP hD hS hl)
theorem mX5_lacksImage_1 : (Cond.fieldLink RX5 37 "AbelianPowers$Setting" "letters" "I") ∈ wsX5_lacksImage := List.mem_of_getElem? (i := 1) rfl
theorem mX5_lacksImage_2 : (Cond.fieldLink RX5 28 "AbelianPowers$Setting" "images" "[LAbelianPowers$Word;") ∈ wsX5_lacksImage := List.mem_of_getElem? (i := 2) rfl
theorem mX5_lacksImage_3 : (Cond.fieldLink RX5 40 "AbelianPowers$Word" "size" "I") ∈ wsX5_lacksImage := List.mem_of_getElem? (i := 3) rfl
theorem nX5_lacksImage_X5 : ∀ w ∈ wsX50, w ∈ wsX5_lacksImage := fun _ h => List.mem_cons_of_mem _ (List.mem_append_left _ (List.mem_append_right _ h))
theorem nX5_lacksImage_X9 : ∀ w ∈ wsX90, w ∈ wsX5_lacksImage := fun _ h => List.mem_cons_of_mem _ (List.mem_append_right _ h)
theorem zX5_lacksImage : yX5_lacksImage.cls = RX5 ∧ yX5_lacksImage.cls ≠ "java/lang/invoke/MethodHandle" ∧ yX5_lacksImage.cls ≠ "java/lang/invoke/VarHandle" ∧ (parseMethodDescriptor yX5_lacksImage.desc).map (fun d => d.parameters.length) = some 0 := by decide +kernel
abbrev rX5_lacksImage : Room := { frames := 0, cells := 0, slots := 0, locals := 0 }
abbrev pX5_lacksImage (cy : Nat → ClassId) (h : Nat → Nat) (t_images_A : Nat → Nat) (t_images_B : Nat → Nat) (t_kind : Int32) (t_exponent : Int32) (t_letters : Int32) (t_images_size : Nat → Int32) : va_W := [(h 0, .inr (5, [.int t_kind, .int t_exponent, .int t_letters, .ref (h 2), .ref (h 3), .ref (h 1)])), (h 1, .inl (cy 3, 4, .inr (.inr (.inr (.inr (fun j => some (t_images_A j))))))), (t_images_A 0, .inr (9, [.ref (t_images_B 0), .int (t_images_size 0)])), (t_images_A 1, .inr (9, [.ref (t_images_B 1), .int (t_images_size 1)])), (t_images_A 2, .inr (9, [.ref (t_images_B 2), .int (t_images_size 2)])), (t_images_A 3, .inr (9, [.ref (t_images_B 3), .int (t_images_size 3)]))]
def VX5_lacksImage_2 (post : Int32 → Prop)  (t_letters : Int32) (t_images_size : Nat → Int32) : Nat → Int32 → Prop
  | 0, _ => False
  | n + 1, x1 => ((t_letters ≤ x1) → post (0 : Int32)) ∧ (¬ (t_letters ≤ x1) → vp_in x1 4 ∧ ((¬ ((t_images_size x1.toNatClampNeg) = 0) → VX5_lacksImage_2 post t_letters t_images_size n (x1 + 1)) ∧ (((t_images_size x1.toNatClampNeg) = 0) → post (1 : Int32))))
def VX5_lacksImage (post : Int32 → Prop)  (t_letters : Int32) (t_images_size : Nat → Int32)  : Prop := ∃ n2 : Nat, VX5_lacksImage_2 post t_letters t_images_size n2 0
set_option maxHeartbeats 4000000 in
set_option maxRecDepth 100000 in
theorem wX5_lacksImage_2 {p : Program} (l : Launch) {e : Env} {s : State} {m : MethodId} {args : Array Value} {below : List Frame} {meth : Method} {c : Code} {dC : Nat → ClassId} {dI : Nat → Nat → Nat} {cy : Nat → ClassId} {A : Nat → Prop} (h : Nat → Nat) (t_images_A : Nat → Nat) (t_images_B : Nat → Nat) (post : Int32 → Prop)   (t_kind : Int32) (t_exponent : Int32) (t_letters : Int32) (t_images_size : Nat → Int32)  (C0 : cx p s m args meth c cX5_lacksImage 2 (some .boolean) wsX5_lacksImage RX5 dC dI cy A)  : ∀ (n : Nat) (x1 : Int32), VX5_lacksImage_2 post t_letters t_images_size n x1 → ∀ (H : Heap) (locs : List Loc) (ls : Array Slot), va_P (dC, dI) vwCl (pX5_lacksImage cy h t_images_A t_images_B t_kind t_exponent t_letters t_images_size) H → va_D A (pX5_lacksImage cy h t_images_A t_images_B t_kind t_exponent t_letters t_images_size) → va_S A s.heap H locs → lv_has ls 2 [(0, .ref (h 0)), (1, .int x1)] → W p l e rX5_lacksImage s m args below meth c H locs 0 0 (MQ below (va_Qi (fun (r : Int32) (_ : Unit) => post r) (fun (_ : Unit) (t : State) => va_P (dC, dI) vwCl (pX5_lacksImage cy h t_images_A t_images_B t_kind t_exponent t_letters t_images_size) t.heap) A) args s 0 0 A) (F0 m 2 ls []) := by
  have C1 := C0
  obtain ⟨hx, hb, hr, hml, hown, hts, hlocks, hK, hA⟩ := C1
  intro n
  induction n with
  | zero => intro x1 hv; exact hv.elim
  | succ n ih =>
    intro x1 hv H locs ls hP hD hS hl
    refine lv_iload_n hx hb dX5_lacksImage_2 rfl (lv_at hl 1 rfl) ?_
    refine lv_aload_n hx hb dX5_lacksImage_3 rfl (lv_at hl 0 rfl) ?_
    refine va_get (D := (dC, dI)) (ci := 5) (v := .int t_letters) (C := RX5) (T := TX5) (N := 6) hx hb hts nX5_lacksImage_X5 hown hK hP 0 rfl rfl 2 (by decide) (hts _ mX5_lacksImage_1) (fun _ h9 => h9) rfl dX5_lacksImage_4 ?_
    refine lv_icmp_ge (tgt := 30) hx hb dX5_lacksImage_7 (by decide) (fun c_5 => ?_) (fun c_5 => ?_)
    · have hv := hv.1 c_5
      refine lv_iconst (v := 0) hx hb dX5_lacksImage_30 (by decide) ?_
      exact W.zret (v := 0) hx hb hr rfl (fun t ht hW => ⟨⟨0, (), rfl, hv, va_Ph ht hP⟩, hS.F ht⟩) hS.2.2 dX5_lacksImage_31
    · have hv := hv.2 c_5
      refine lv_aload_n hx hb dX5_lacksImage_10 rfl (lv_at hl 0 rfl) ?_
      refine va_get (D := (dC, dI)) (ci := 5) (v := .ref (h 1)) (C := RX5) (T := TX5) (N := 6) hx hb hts nX5_lacksImage_X5 hown hK hP 0 rfl rfl 5 (by decide) (hts _ mX5_lacksImage_2) (fun _ h9 => h9) rfl dX5_lacksImage_11 ?_
      refine lv_iload_n hx hb dX5_lacksImage_14 rfl (lv_at hl 1 rfl) ?_
      have h_2 := hv.1
      have hv := hv.2
      have hj_3 : x1.toNatClampNeg < 4 := Nat.not_le.mp fun q => h_2 (Or.inr q)
      refine va_aldq hx hb hK hP 1 3 rfl rfl h_2 dX5_lacksImage_15 ?_
      refine W.eq (g2 := F0 m 16 ls ([.ref (t_images_A x1.toNatClampNeg)])) rfl ?_
      refine va_get (D := (dC, dI)) (ci := 9) (v := .int ((t_images_size x1.toNatClampNeg))) (C := RX9) (T := TX9) (N := 2) hx hb hts nX5_lacksImage_X9 hown hK hP (2 + 1 * x1.toNatClampNeg) (co_4 (P := fun j => (pX5_lacksImage cy h t_images_A t_images_B t_kind t_exponent t_letters t_images_size)[2 + 1 * j]? = some (t_images_A j, .inr (9, [.ref (t_images_B j), .int (t_images_size j)]))) rfl rfl rfl rfl hj_3) rfl 1 (by decide) (hts _ mX5_lacksImage_3) (fun _ h9 => h9) rfl dX5_lacksImage_16 ?_
      refine lv_if_ne (tgt := 24) hx hb dX5_lacksImage_19 (by decide) (fun c_4 => ?_) (fun c_4 => ?_)
      · have hv := hv.1 c_4
        refine lv_iinc (v := (x1 + 1)) (lv' := [(1, .int ((x1 + 1))), (0, .ref (h 0))]) hx hb dX5_lacksImage_24 hl (k := 1) rfl rfl (by decide) rfl (fun ls hl => ?_)
        refine lv_goto (tgt := 2) hx hb dX5_lacksImage_27 (by decide) ?_
        exact ih (x1 + 1) hv _ _ _ hP hD hS (lv_sub hl [1, 0] rfl)
      · have hv := hv.2 c_4
        refine lv_iconst (v := 1) hx hb dX5_lacksImage_22 (by decide) ?_
        exact W.zret (v := 1) hx hb hr rfl (fun t ht hW => ⟨⟨1, (), rfl, hv, va_Ph ht hP⟩, hS.F ht⟩) hS.2.2 dX5_lacksImage_23
set_option maxHeartbeats 4000000 in
set_option maxRecDepth 100000 in
theorem wX5_lacksImage_0 {p : Program} (l : Launch) {e : Env} {s : State} {m : MethodId} {args : Array Value} {below : List Frame} {meth : Method} {c : Code} {dC : Nat → ClassId} {dI : Nat → Nat → Nat} {cy : Nat → ClassId} {A : Nat → Prop} (h : Nat → Nat) (t_images_A : Nat → Nat) (t_images_B : Nat → Nat) (post : Int32 → Prop)   (t_kind : Int32) (t_exponent : Int32) (t_letters : Int32) (t_images_size : Nat → Int32)  (C0 : cx p s m args meth c cX5_lacksImage 2 (some .boolean) wsX5_lacksImage RX5 dC dI cy A)  : VX5_lacksImage post t_letters t_images_size  → ∀ (H : Heap) (locs : List Loc) (ls : Array Slot), va_P (dC, dI) vwCl (pX5_lacksImage cy h t_images_A t_images_B t_kind t_exponent t_letters t_images_size) H → va_D A (pX5_lacksImage cy h t_images_A t_images_B t_kind t_exponent t_letters t_images_size) → va_S A s.heap H locs → lv_has ls 2 [(0, .ref (h 0))] → W p l e rX5_lacksImage s m args below meth c H locs 0 0 (MQ below (va_Qi (fun (r : Int32) (_ : Unit) => post r) (fun (_ : Unit) (t : State) => va_P (dC, dI) vwCl (pX5_lacksImage cy h t_images_A t_images_B t_kind t_exponent t_letters t_images_size) t.heap) A) args s 0 0 A) (F0 m 0 ls []) := by
  have C1 := C0
  obtain ⟨hx, hb, hr, hml, hown, hts, hlocks, hK, hA⟩ := C1
  intro  hv H locs ls hP hD hS hl
  refine lv_iconst (v := 0) hx hb dX5_lacksImage_0 (by decide) ?_
  refine lv_istore_n (lv' := [(1, .int 0), (0, .ref (h 0))]) hx hb dX5_lacksImage_1 rfl hl (by decide) rfl (fun ls hl => ?_)
  obtain ⟨n_1, hv⟩ := hv
  exact wX5_lacksImage_2 l h t_images_A t_images_B post  t_kind t_exponent t_letters t_images_size C0 n_1 0 hv _ _ _ hP hD hS (lv_sub hl [1, 0] rfl)
theorem kX5_lacksImage (l : Launch) (dC : Nat → ClassId) (dI : Nat → Nat → Nat) (cy : Nat → ClassId) (h : Nat → Nat) (t_images_A : Nat → Nat) (t_images_B : Nat → Nat) (t_kind : Int32) (t_exponent : Int32) (t_letters : Int32) (t_images_size : Nat → Int32)  (post : Int32 → Prop) (hv : VX5_lacksImage post t_letters t_images_size ) : CtI l yX5_lacksImage wsX5_lacksImage rX5_lacksImage dC dI cy [.ref (h 0)] (pX5_lacksImage cy h t_images_A t_images_B t_kind t_exponent t_letters t_images_size) (fun (_ : Unit) => pX5_lacksImage cy h t_images_A t_images_B t_kind t_exponent t_letters t_images_size) (fun (r : Int32) (_ : Unit) => post r) :=
  ct_ofI (by decide) rfl (Nat.le_of_ble_eq_true rfl) (fun p e s m below meth c A ls C0 hP hD hS hl => wX5_lacksImage_0 l h t_images_A t_images_B post t_kind t_exponent t_letters t_images_size C0  hv _ _ _ hP hD hS hl)
theorem mX5_lettersOfWords_1 : (Cond.fieldLink RX5 24 "AbelianPowers$Setting" "words" "[LAbelianPowers$Word;") ∈ wsX5_lettersOfWords := List.mem_of_getElem? (i := 1) rfl
theorem mX5_lettersOfWords_2 : (Cond.fieldLink RX5 40 "AbelianPowers$Word" "size" "I") ∈ wsX5_lettersOfWords := List.mem_of_getElem? (i := 2) rfl
theorem nX5_lettersOfWords_X5 : ∀ w ∈ wsX50, w ∈ wsX5_lettersOfWords := fun _ h => List.mem_cons_of_mem _ (List.mem_append_left _ (List.mem_append_right _ h))
theorem nX5_lettersOfWords_X9 : ∀ w ∈ wsX90, w ∈ wsX5_lettersOfWords := fun _ h => List.mem_cons_of_mem _ (List.mem_append_right _ h)
theorem zX5_lettersOfWords : yX5_lettersOfWords.cls = RX5 ∧ yX5_lettersOfWords.cls ≠ "java/lang/invoke/MethodHandle" ∧ yX5_lettersOfWords.cls ≠ "java/lang/invoke/VarHandle" ∧ (parseMethodDescriptor yX5_lettersOfWords.desc).map (fun d => d.parameters.length) = some 0 := by decide +kernel
abbrev rX5_lettersOfWords : Room := { frames := 0, cells := 0, slots := 0, locals := 0 }
abbrev pX5_lettersOfWords (cy : Nat → ClassId) (h : Nat → Nat) (t_words_A : Nat → Nat) (t_words_B : Nat → Nat) (t_kind : Int32) (t_exponent : Int32) (t_letters : Int32) (t_words_size : Nat → Int32) : va_W := [(h 0, .inr (5, [.int t_kind, .int t_exponent, .int t_letters, .ref (h 2), .ref (h 1), .ref (h 3)])), (h 1, .inl (cy 3, 3, .inr (.inr (.inr (.inr (fun j => some (t_words_A j))))))), (t_words_A 0, .inr (9, [.ref (t_words_B 0), .int (t_words_size 0)])), (t_words_A 1, .inr (9, [.ref (t_words_B 1), .int (t_words_size 1)])), (t_words_A 2, .inr (9, [.ref (t_words_B 2), .int (t_words_size 2)]))]
def VX5_lettersOfWords_4 (post : Int32 → Prop)  (t_words_size : Nat → Int32) : Nat → Int32 → Int32 → Prop
  | 0, _, _ => False
  | n + 1, x1, x2 => ((3 ≤ x2) → post x1) ∧ (¬ (3 ≤ x2) → vp_in x2 3 ∧ (∀ y_4 : Int32, y_4 = (x1 + (t_words_size x2.toNatClampNeg)) → VX5_lettersOfWords_4 post t_words_size n y_4 (x2 + 1)))
def VX5_lettersOfWords (post : Int32 → Prop)  (t_words_size : Nat → Int32)  : Prop := ∃ n4 : Nat, VX5_lettersOfWords_4 post t_words_size n4 0 0
set_option maxHeartbeats 4000000 in
set_option maxRecDepth 100000 in
theorem wX5_lettersOfWords_4 {p : Program} (l : Launch) {e : Env} {s : State} {m : MethodId} {args : Array Value} {below : List Frame} {meth : Method} {c : Code} {dC : Nat → ClassId} {dI : Nat → Nat → Nat} {cy : Nat → ClassId} {A : Nat → Prop} (h : Nat → Nat) (t_words_A : Nat → Nat) (t_words_B : Nat → Nat) (post : Int32 → Prop)   (t_kind : Int32) (t_exponent : Int32) (t_letters : Int32) (t_words_size : Nat → Int32)  (C0 : cx p s m args meth c cX5_lettersOfWords 3 (some .int) wsX5_lettersOfWords RX5 dC dI cy A)  : ∀ (n : Nat) (x1 : Int32) (x2 : Int32), VX5_lettersOfWords_4 post t_words_size n x1 x2 → ∀ (H : Heap) (locs : List Loc) (ls : Array Slot), va_P (dC, dI) vwCl (pX5_lettersOfWords cy h t_words_A t_words_B t_kind t_exponent t_letters t_words_size) H → va_D A (pX5_lettersOfWords cy h t_words_A t_words_B t_kind t_exponent t_letters t_words_size) → va_S A s.heap H locs → lv_has ls 3 [(0, .ref (h 0)), (1, .int x1), (2, .int x2)] → W p l e rX5_lettersOfWords s m args below meth c H locs 0 0 (MQ below (va_Qi (fun (r : Int32) (_ : Unit) => post r) (fun (_ : Unit) (t : State) => va_P (dC, dI) vwCl (pX5_lettersOfWords cy h t_words_A t_words_B t_kind t_exponent t_letters t_words_size) t.heap) A) args s 0 0 A) (F0 m 4 ls []) := by
  have C1 := C0
  obtain ⟨hx, hb, hr, hml, hown, hts, hlocks, hK, hA⟩ := C1
  intro n
  induction n with
  | zero => intro x1 x2 hv; exact hv.elim
  | succ n ih =>
    intro x1 x2 hv H locs ls hP hD hS hl
    refine lv_iload_n hx hb dX5_lettersOfWords_4 rfl (lv_at hl 2 rfl) ?_
    refine lv_iconst (v := 3) hx hb dX5_lettersOfWords_5 (by decide) ?_
    refine lv_icmp_ge (tgt := 27) hx hb dX5_lettersOfWords_6 (by decide) (fun c_5 => ?_) (fun c_5 => ?_)
    · have hv := hv.1 c_5
      refine lv_iload_n hx hb dX5_lettersOfWords_27 rfl (lv_at hl 1 rfl) ?_
      exact W.iret (v := x1) hx hb hr (fun t ht hW => ⟨⟨x1, (), rfl, hv, va_Ph ht hP⟩, hS.F ht⟩) hS.2.2 dX5_lettersOfWords_28
    · have hv := hv.2 c_5
      refine lv_iload_n hx hb dX5_lettersOfWords_9 rfl (lv_at hl 1 rfl) ?_
      refine lv_aload_n hx hb dX5_lettersOfWords_10 rfl (lv_at hl 0 rfl) ?_
      refine va_get (D := (dC, dI)) (ci := 5) (v := .ref (h 1)) (C := RX5) (T := TX5) (N := 6) hx hb hts nX5_lettersOfWords_X5 hown hK hP 0 rfl rfl 4 (by decide) (hts _ mX5_lettersOfWords_1) (fun _ h9 => h9) rfl dX5_lettersOfWords_11 ?_
      refine lv_iload_n hx hb dX5_lettersOfWords_14 rfl (lv_at hl 2 rfl) ?_
      have h_2 := hv.1
      have hv := hv.2
      have hj_3 : x2.toNatClampNeg < 3 := Nat.not_le.mp fun q => h_2 (Or.inr q)
      refine va_aldq hx hb hK hP 1 3 rfl rfl h_2 dX5_lettersOfWords_15 ?_
      refine W.eq (g2 := F0 m 16 ls ([.ref (t_words_A x2.toNatClampNeg), .int x1])) rfl ?_
      refine va_get (D := (dC, dI)) (ci := 9) (v := .int ((t_words_size x2.toNatClampNeg))) (C := RX9) (T := TX9) (N := 2) hx hb hts nX5_lettersOfWords_X9 hown hK hP (2 + 1 * x2.toNatClampNeg) (co_3 (P := fun j => (pX5_lettersOfWords cy h t_words_A t_words_B t_kind t_exponent t_letters t_words_size)[2 + 1 * j]? = some (t_words_A j, .inr (9, [.ref (t_words_B j), .int (t_words_size j)]))) rfl rfl rfl hj_3) rfl 1 (by decide) (hts _ mX5_lettersOfWords_2) (fun _ h9 => h9) rfl dX5_lettersOfWords_16 ?_
      refine lv_iadd hx hb dX5_lettersOfWords_19 ?_
      refine lv_topi (fun y_4 ey_4 => ?_)
      have hv := hv y_4 ey_4
      refine lv_istore_n (lv' := [(1, .int y_4), (0, .ref (h 0)), (2, .int x2)]) hx hb dX5_lettersOfWords_20 rfl hl (by decide) rfl (fun ls hl => ?_)
      refine lv_iinc (v := (x2 + 1)) (lv' := [(2, .int ((x2 + 1))), (1, .int y_4), (0, .ref (h 0))]) hx hb dX5_lettersOfWords_21 hl (k := 2) rfl rfl (by decide) rfl (fun ls hl => ?_)
      refine lv_goto (tgt := 4) hx hb dX5_lettersOfWords_24 (by decide) ?_
      exact ih y_4 (x2 + 1) hv _ _ _ hP hD hS (lv_sub hl [2, 1, 0] rfl)
set_option maxHeartbeats 4000000 in
set_option maxRecDepth 100000 in
theorem wX5_lettersOfWords_0 {p : Program} (l : Launch) {e : Env} {s : State} {m : MethodId} {args : Array Value} {below : List Frame} {meth : Method} {c : Code} {dC : Nat → ClassId} {dI : Nat → Nat → Nat} {cy : Nat → ClassId} {A : Nat → Prop} (h : Nat → Nat) (t_words_A : Nat → Nat) (t_words_B : Nat → Nat) (post : Int32 → Prop)   (t_kind : Int32) (t_exponent : Int32) (t_letters : Int32) (t_words_size : Nat → Int32)  (C0 : cx p s m args meth c cX5_lettersOfWords 3 (some .int) wsX5_lettersOfWords RX5 dC dI cy A)  : VX5_lettersOfWords post t_words_size  → ∀ (H : Heap) (locs : List Loc) (ls : Array Slot), va_P (dC, dI) vwCl (pX5_lettersOfWords cy h t_words_A t_words_B t_kind t_exponent t_letters t_words_size) H → va_D A (pX5_lettersOfWords cy h t_words_A t_words_B t_kind t_exponent t_letters t_words_size) → va_S A s.heap H locs → lv_has ls 3 [(0, .ref (h 0))] → W p l e rX5_lettersOfWords s m args below meth c H locs 0 0 (MQ below (va_Qi (fun (r : Int32) (_ : Unit) => post r) (fun (_ : Unit) (t : State) => va_P (dC, dI) vwCl (pX5_lettersOfWords cy h t_words_A t_words_B t_kind t_exponent t_letters t_words_size) t.heap) A) args s 0 0 A) (F0 m 0 ls []) := by
  have C1 := C0
  obtain ⟨hx, hb, hr, hml, hown, hts, hlocks, hK, hA⟩ := C1
  intro  hv H locs ls hP hD hS hl
  refine lv_iconst (v := 0) hx hb dX5_lettersOfWords_0 (by decide) ?_
  refine lv_istore_n (lv' := [(1, .int 0), (0, .ref (h 0))]) hx hb dX5_lettersOfWords_1 rfl hl (by decide) rfl (fun ls hl => ?_)
  refine lv_iconst (v := 0) hx hb dX5_lettersOfWords_2 (by decide) ?_
  refine lv_istore_n (lv' := [(2, .int 0), (1, .int 0), (0, .ref (h 0))]) hx hb dX5_lettersOfWords_3 rfl hl (by decide) rfl (fun ls hl => ?_)
  obtain ⟨n_1, hv⟩ := hv
  exact wX5_lettersOfWords_4 l h t_words_A t_words_B post  t_kind t_exponent t_letters t_words_size C0 n_1 0 0 hv _ _ _ hP hD hS (lv_sub hl [2, 1, 0] rfl)
theorem kX5_lettersOfWords (l : Launch) (dC : Nat → ClassId) (dI : Nat → Nat → Nat) (cy : Nat → ClassId) (h : Nat → Nat) (t_words_A : Nat → Nat) (t_words_B : Nat → Nat) (t_kind : Int32) (t_exponent : Int32) (t_letters : Int32) (t_words_size : Nat → Int32)  (post : Int32 → Prop) (hv : VX5_lettersOfWords post t_words_size ) : CtI l yX5_lettersOfWords wsX5_lettersOfWords rX5_lettersOfWords dC dI cy [.ref (h 0)] (pX5_lettersOfWords cy h t_words_A t_words_B t_kind t_exponent t_letters t_words_size) (fun (_ : Unit) => pX5_lettersOfWords cy h t_words_A t_words_B t_kind t_exponent t_letters t_words_size) (fun (r : Int32) (_ : Unit) => post r) :=
  ct_ofI (by decide) rfl (Nat.le_of_ble_eq_true rfl) (fun p e s m below meth c A ls C0 hP hD hS hl => wX5_lettersOfWords_0 l h t_words_A t_words_B post t_kind t_exponent t_letters t_words_size C0  hv _ _ _ hP hD hS hl)
