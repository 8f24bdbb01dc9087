theorem zX1_matched : yX1_matched.cls = RX1 ∧ yX1_matched.cls ≠ "java/lang/invoke/MethodHandle" ∧ yX1_matched.cls ≠ "java/lang/invoke/VarHandle" ∧ (parseMethodDescriptor yX1_matched.desc).map (fun d => d.parameters.length) = some 1 := by decide +kernel
abbrev rX1_matched : Room := { frames := 4, cells := 0, slots := 0, locals := 85 }
abbrev pX1_matched (cy : Nat → ClassId) (h : Nat → Nat) (t_bytes : Nat → Int32) (t_size : Int32) : va_W := [(h 0, .inr (1, [.ref (h 1), .int t_size])), (h 1, .inl (cy 0, 16, .inl t_bytes))]
def VX1_matched_2 (post : Int32 → Prop)  (t_bytes : Nat → Int32) (t_size : Int32) (s1 : Nat) : Nat → Int32 → Prop
  | 0, _ => False
  | n + 1, x2 => (((nI (lenJ.getD s1 0)) ≤ x2) → post x2) ∧ (¬ ((nI (lenJ.getD s1 0)) ≤ x2) → VX1_byteAt (fun r_4 => vp_in x2 (lenJ.getD s1 0) ∧ ((¬ (r_4 = (chJ s1 x2.toNatClampNeg)) → post x2) ∧ ((r_4 = (chJ s1 x2.toNatClampNeg)) → VX1_matched_2 post t_bytes t_size s1 n (x2 + 1)))) t_bytes t_size x2)
def VX1_matched (post : Int32 → Prop)  (t_bytes : Nat → Int32) (t_size : Int32) (s1 : Nat)  : Prop := ∃ n2 : Nat, VX1_matched_2 post t_bytes t_size s1 n2 0
set_option maxHeartbeats 4000000 in
set_option maxRecDepth 100000 in
theorem wX1_matched_2 {p : Program} (l : Launch) {e : Env} {s : State} {m : MethodId} {args : Array Value} {below : List Frame} {meth : Method} {c : Code} {dC : Nat → ClassId} {dI : Nat → Nat → Nat} {cy : Nat → ClassId} {A : Nat → Prop} (adK adV : Nat → Nat) (h : Nat → Nat) (post : Int32 → Prop)   (t_bytes : Nat → Int32) (t_size : Int32) (s1 : Nat) (C0 : cx p s m args meth c cX1_matched 3 (some .int) wsX1_matched RX1 dC dI cy A) (hJ : JS adK adV A s s.heap) (hs1 : s1 < 4) : ∀ (n : Nat) (x2 : Int32), VX1_matched_2 post t_bytes t_size s1 n x2 → ∀ (H : Heap) (locs : List Loc) (ls : Array Slot), va_P (dC, dI) vwCl (pX1_matched cy h t_bytes t_size) H → va_D A (pX1_matched cy h t_bytes t_size) → va_S A s.heap H locs → lv_has ls 3 [(0, .ref (h 0)), (1, .ref (adK s1)), (2, .int x2)] → W p l e rX1_matched s m args below meth c H locs 0 0 (MQ below (va_Qi (fun (r : Int32) (_ : Unit) => post r) (fun (_ : Unit) (t : State) => va_P (dC, dI) vwCl (pX1_matched cy h t_bytes t_size) t.heap) A) args s 0 0 A) (F0 m 2 ls []) := by
  have C1 := C0
  obtain ⟨hx, hb, hr, hml, hown, hts, hlocks, hK, hA⟩ := C1
  intro n
  induction n with
  | zero => intro x2 hv; exact hv.elim
  | succ n ih =>
    intro x2 hv H locs ls hP hD hS hl
    refine lv_iload_n hx hb dX1_matched_2 rfl (lv_at hl 2 rfl) ?_
    refine lv_aload_n hx hb dX1_matched_3 rfl (lv_at hl 1 rfl) ?_
    refine cj_VI (As := []) (rest := [.int x2]) ⟨hx, hb, hml, hown, hts⟩ (kJ_length l dC dI cy adK adV hs1 (fun r => r = nI (lenJ.getD s1 0)) rfl) (cwV 0 hts gX1_matched_J0_length_8abf5 rfl rfl rfl zJ_length ⟨Nat.le_of_ble_eq_true rfl, Nat.le_of_ble_eq_true rfl⟩) hJ hK hP hD hS hA [] [none, none] rfl rfl rfl (vk_recv hJ.1 hs1 hS) (fun _ => rfl) rfl hl.1 rfl (Nat.le_of_ble_eq_true rfl) (Nat.zero_le _) (Nat.zero_le _) dX1_matched_4 (fun r_2 _ H locs er_2 hP hD hS => ?_)
    subst er_2
    have hP : va_P (dC, dI) vwCl (pX1_matched cy h t_bytes t_size) H := hP
    have hD : va_D A (pX1_matched cy h t_bytes t_size) := hD
    refine lv_icmp_ge (tgt := 29) hx hb dX1_matched_7 (by decide) (fun c_9 => ?_) (fun c_9 => ?_)
    · have hv := hv.1 c_9
      refine lv_iload_n hx hb dX1_matched_29 rfl (lv_at hl 2 rfl) ?_
      exact W.iret (v := x2) hx hb hr (fun t ht hW => ⟨⟨x2, (), rfl, hv, va_Ph ht hP⟩, hS.F ht⟩) hS.2.2 dX1_matched_30
    · have hv := hv.2 c_9
      refine lv_aload_n hx hb dX1_matched_10 rfl (lv_at hl 0 rfl) ?_
      refine lv_iload_n hx hb dX1_matched_11 rfl (lv_at hl 2 rfl) ?_
      refine cb_VI (As := [.int x2]) (rest := []) ⟨hx, hb, hml, hown, hts⟩ (kX1_byteAt l dC dI cy (adl [h 0, h 1]) t_bytes t_size x2 _ hv) (cwV 1 hts gX1_matched_X1_byteAt rfl rfl rfl zX1_byteAt ⟨Nat.le_of_ble_eq_true rfl, Nat.le_of_ble_eq_true rfl⟩) hK hP hD hS hA [0, 1] [some 0, some 1] rfl rfl rfl (ci := 1) rfl rfl (fun _ => rfl) rfl hl.1 rfl (Nat.le_of_ble_eq_true rfl) dX1_matched_12 (fun r_4 w_8 H locs hv hP hD hS => ?_)
      have hP : va_P (dC, dI) vwCl (pX1_matched cy h t_bytes t_size) H := hP
      have hD : va_D A (pX1_matched cy h t_bytes t_size) := hD
      refine lv_aload_n hx hb dX1_matched_15 rfl (lv_at hl 1 rfl) ?_
      refine lv_iload_n hx hb dX1_matched_16 rfl (lv_at hl 2 rfl) ?_
      have h_6 := hv.1
      have hv := hv.2
      refine cj_VI (As := [.int x2]) (rest := [.int r_4]) ⟨hx, hb, hml, hown, hts⟩ (kJ_charAtX l dC dI cy adK adV hs1 h_6 (fun r => r = chJ s1 x2.toNatClampNeg) rfl) (cwV 1 hts gX1_matched_J0_charAt_5068e rfl rfl rfl zJ_charAt ⟨Nat.le_of_ble_eq_true rfl, Nat.le_of_ble_eq_true rfl⟩) hJ hK hP hD hS hA [] [none, none] rfl rfl rfl (vk_recv hJ.1 hs1 hS) (fun _ => rfl) rfl hl.1 rfl (Nat.le_of_ble_eq_true rfl) (Nat.zero_le _) (Nat.zero_le _) dX1_matched_17 (fun r_5 _ H locs er_5 hP hD hS => ?_)
      subst er_5
      have hP : va_P (dC, dI) vwCl (pX1_matched cy h t_bytes t_size) H := hP
      have hD : va_D A (pX1_matched cy h t_bytes t_size) := hD
      refine lv_icmp_ne (tgt := 29) hx hb dX1_matched_20 (by decide) (fun c_7 => ?_) (fun c_7 => ?_)
      · have hv := hv.1 c_7
        refine lv_iload_n hx hb dX1_matched_29 rfl (lv_at hl 2 rfl) ?_
        exact W.iret (v := x2) hx hb hr (fun t ht hW => ⟨⟨x2, (), rfl, hv, va_Ph ht hP⟩, hS.F ht⟩) hS.2.2 dX1_matched_30
      · have hv := hv.2 c_7
        refine lv_iinc (v := (x2 + 1)) (lv' := [(2, .int ((x2 + 1))), (0, .ref (h 0)), (1, .ref (adK s1))]) hx hb dX1_matched_23 hl (k := 2) rfl rfl (by decide) rfl (fun ls hl => ?_)
        refine lv_goto (tgt := 2) hx hb dX1_matched_26 (by decide) ?_
        exact ih (x2 + 1) hv _ _ _ hP hD hS (lv_sub hl [1, 2, 0] rfl)
set_option maxHeartbeats 4000000 in
set_option maxRecDepth 100000 in
theorem wX1_matched_0 {p : Program} (l : Launch) {e : Env} {s : State} {m : MethodId} {args : Array Value} {below : List Frame} {meth : Method} {c : Code} {dC : Nat → ClassId} {dI : Nat → Nat → Nat} {cy : Nat → ClassId} {A : Nat → Prop} (adK adV : Nat → Nat) (h : Nat → Nat) (post : Int32 → Prop)   (t_bytes : Nat → Int32) (t_size : Int32) (s1 : Nat) (C0 : cx p s m args meth c cX1_matched 3 (some .int) wsX1_matched RX1 dC dI cy A) (hJ : JS adK adV A s s.heap) (hs1 : s1 < 4) : VX1_matched post t_bytes t_size s1  → ∀ (H : Heap) (locs : List Loc) (ls : Array Slot), va_P (dC, dI) vwCl (pX1_matched cy h t_bytes t_size) H → va_D A (pX1_matched cy h t_bytes t_size) → va_S A s.heap H locs → lv_has ls 3 [(0, .ref (h 0)), (1, .ref (adK s1))] → W p l e rX1_matched s m args below meth c H locs 0 0 (MQ below (va_Qi (fun (r : Int32) (_ : Unit) => post r) (fun (_ : Unit) (t : State) => va_P (dC, dI) vwCl (pX1_matched cy h t_bytes t_size) t.heap) A) args s 0 0 A) (F0 m 0 ls []) := by
  have C1 := C0
  obtain ⟨hx, hb, hr, hml, hown, hts, hlocks, hK, hA⟩ := C1
  intro  hv H locs ls hP hD hS hl
  refine lv_iconst (v := 0) hx hb dX1_matched_0 (by decide) ?_
  refine lv_istore_n (lv' := [(2, .int 0), (0, .ref (h 0)), (1, .ref (adK s1))]) hx hb dX1_matched_1 rfl hl (by decide) rfl (fun ls hl => ?_)
  obtain ⟨n_1, hv⟩ := hv
  exact wX1_matched_2 l adK adV h post  t_bytes t_size s1 C0 hJ hs1 n_1 0 hv _ _ _ hP hD hS (lv_sub hl [1, 2, 0] rfl)
theorem kX1_matched (l : Launch) (dC : Nat → ClassId) (dI : Nat → Nat → Nat) (cy : Nat → ClassId) (adK adV : Nat → Nat) (h : Nat → Nat) (t_bytes : Nat → Int32) (t_size : Int32) (s1 : Nat) (hs1 : s1 < 4) (post : Int32 → Prop) (hv : VX1_matched post t_bytes t_size s1 ) : CtJI l yX1_matched wsX1_matched rX1_matched dC dI cy adK adV [.ref (h 0), .ref (adK s1)] (pX1_matched cy h t_bytes t_size) (fun (_ : Unit) => pX1_matched cy h t_bytes t_size) (fun (r : Int32) (_ : Unit) => post r) :=
  ct_ofJ (Q1 := fun A => va_Qi (fun (r : Int32) (_ : Unit) => post r) (fun (_ : Unit) (t : State) => va_P (dC, dI) vwCl (pX1_matched cy h t_bytes t_size) t.heap) A) (fun _ => rfl) (by decide) rfl (Nat.le_of_ble_eq_true rfl) (fun p e s m below meth c A ls C0 hJ hP hD hS hl => wX1_matched_0 l adK adV h post t_bytes t_size s1 C0 hJ hs1  hv _ _ _ hP hD hS hl)
theorem zX1_likeliestKind : yX1_likeliestKind.cls = RX1 ∧ yX1_likeliestKind.cls ≠ "java/lang/invoke/MethodHandle" ∧ yX1_likeliestKind.cls ≠ "java/lang/invoke/VarHandle" ∧ (parseMethodDescriptor yX1_likeliestKind.desc).map (fun d => d.parameters.length) = some 0 := by decide +kernel
abbrev rX1_likeliestKind : Room := { frames := 5, cells := 0, slots := 0, locals := 107 }
abbrev pX1_likeliestKind (cy : Nat → ClassId) (h : Nat → Nat) (t_bytes : Nat → Int32) (t_size : Int32) : va_W := [(h 0, .inr (1, [.ref (h 1), .int t_size])), (h 1, .inl (cy 0, 16, .inl t_bytes))]
def VX1_likeliestKind_4 (post : Int32 → Prop)  (t_bytes : Nat → Int32) (t_size : Int32) : Nat → Int32 → Int32 → Prop
  | 0, _, _ => False
  | n + 1, x1, x2 => ((4 ≤ x2) → post x1) ∧ (¬ (4 ≤ x2) → VX1_kindText (fun i_2 => VX1_matched (fun r_3 => VX1_kindText (fun i_4 => VX1_matched (fun r_5 => ((r_3 ≤ r_5) → VX1_likeliestKind_4 post t_bytes t_size n x1 (x2 + 1)) ∧ (¬ (r_3 ≤ r_5) → VX1_likeliestKind_4 post t_bytes t_size n x2 (x2 + 1))) t_bytes t_size i_4) x1) t_bytes t_size i_2) x2)
def VX1_likeliestKind (post : Int32 → Prop)  (t_bytes : Nat → Int32) (t_size : Int32)  : Prop := ∃ n4 : Nat, VX1_likeliestKind_4 post t_bytes t_size n4 0 1
set_option maxHeartbeats 4000000 in
set_option maxRecDepth 100000 in
theorem wX1_likeliestKind_4 {p : Program} (l : Launch) {e : Env} {s : State} {m : MethodId} {args : Array Value} {below : List Frame} {meth : Method} {c : Code} {dC : Nat → ClassId} {dI : Nat → Nat → Nat} {cy : Nat → ClassId} {A : Nat → Prop} (adK adV : Nat → Nat) (h : Nat → Nat) (post : Int32 → Prop)   (t_bytes : Nat → Int32) (t_size : Int32)  (C0 : cx p s m args meth c cX1_likeliestKind 3 (some .int) wsX1_likeliestKind RX1 dC dI cy A) (hJ : JS adK adV A s s.heap)  : ∀ (n : Nat) (x1 : Int32) (x2 : Int32), VX1_likeliestKind_4 post t_bytes t_size n x1 x2 → ∀ (H : Heap) (locs : List Loc) (ls : Array Slot), va_P (dC, dI) vwCl (pX1_likeliestKind cy h t_bytes t_size) H → va_D A (pX1_likeliestKind cy h t_bytes t_size) → va_S A s.heap H locs → lv_has ls 3 [(0, .ref (h 0)), (1, .int x1), (2, .int x2)] → W p l e rX1_likeliestKind s m args below meth c H locs 0 0 (MQ below (va_Qi (fun (r : Int32) (_ : Unit) => post r) (fun (_ : Unit) (t : State) => va_P (dC, dI) vwCl (pX1_likeliestKind cy h t_bytes t_size) t.heap) A) args s 0 0 A) (F0 m 4 ls []) := by
  have C1 := C0
  obtain ⟨hx, hb, hr, hml, hown, hts, hlocks, hK, hA⟩ := C1
  intro n
  induction n with
  | zero => intro x1 x2 hv; exact hv.elim
  | succ n ih =>
    intro x1 x2 hv H locs ls hP hD hS hl
    refine lv_iload_n hx hb dX1_likeliestKind_4 rfl (lv_at hl 2 rfl) ?_
    refine lv_iconst (v := 4) hx hb dX1_likeliestKind_5 (by decide) ?_
    refine lv_icmp_ge (tgt := 36) hx hb dX1_likeliestKind_6 (by decide) (fun c_9 => ?_) (fun c_9 => ?_)
    · have hv := hv.1 c_9
      refine lv_iload_n hx hb dX1_likeliestKind_36 rfl (lv_at hl 1 rfl) ?_
      exact W.iret (v := x1) hx hb hr (fun t ht hW => ⟨⟨x1, (), rfl, hv, va_Ph ht hP⟩, hS.F ht⟩) hS.2.2 dX1_likeliestKind_37
    · have hv := hv.2 c_9
      refine lv_aload_n hx hb dX1_likeliestKind_9 rfl (lv_at hl 0 rfl) ?_
      refine lv_iload_n hx hb dX1_likeliestKind_10 rfl (lv_at hl 2 rfl) ?_
      refine cj_SR (As := [.int x2]) (rest := [.ref (h 0)]) ⟨hx, hb, hml, hown, hts⟩ (kX1_kindText l dC dI cy adK adV x2 _ hv) (va_cwS 1 hts gX1_likeliestKind_X1_kindText rfl rfl rfl zX1_kindText ⟨Nat.le_of_ble_eq_true rfl, Nat.le_of_ble_eq_true rfl⟩) hJ hK hP hD hS hA rfl hl.1 rfl (Nat.le_of_ble_eq_true rfl) (Nat.zero_le _) (Nat.zero_le _) dX1_likeliestKind_11 (fun i_2 H locs hv hP hS => ?_)
      have hi_2 := hv.1
      have hv := hv.2
      refine cj_VI (As := [.ref (adK i_2)]) (rest := []) ⟨hx, hb, hml, hown, hts⟩ (kX1_matched l dC dI cy adK adV (adl [h 0, h 1]) t_bytes t_size i_2 hi_2 _ hv) (cwV 1 hts gX1_likeliestKind_X1_matched rfl rfl rfl zX1_matched ⟨Nat.le_of_ble_eq_true rfl, Nat.le_of_ble_eq_true rfl⟩) hJ hK hP hD hS hA [0, 1] [some 0, some 1] rfl rfl rfl (va_recv hK hP (ci := 1) (q0 := 0) rfl rfl) (fun _ => rfl) rfl hl.1 rfl (Nat.le_of_ble_eq_true rfl) (Nat.zero_le _) (Nat.zero_le _) dX1_likeliestKind_14 (fun r_3 w_8 H locs hv hP hD hS => ?_)
      have hP : va_P (dC, dI) vwCl (pX1_likeliestKind cy h t_bytes t_size) H := hP
      have hD : va_D A (pX1_likeliestKind cy h t_bytes t_size) := hD
      refine lv_aload_n hx hb dX1_likeliestKind_17 rfl (lv_at hl 0 rfl) ?_
      refine lv_iload_n hx hb dX1_likeliestKind_18 rfl (lv_at hl 1 rfl) ?_
      refine cj_SR (As := [.int x1]) (rest := [.ref (h 0), .int r_3]) ⟨hx, hb, hml, hown, hts⟩ (kX1_kindText l dC dI cy adK adV x1 _ hv) (va_cwS 1 hts gX1_likeliestKind_X1_kindText rfl rfl rfl zX1_kindText ⟨Nat.le_of_ble_eq_true rfl, Nat.le_of_ble_eq_true rfl⟩) hJ hK hP hD hS hA rfl hl.1 rfl (Nat.le_of_ble_eq_true rfl) (Nat.zero_le _) (Nat.zero_le _) dX1_likeliestKind_19 (fun i_4 H locs hv hP hS => ?_)
      have hi_4 := hv.1
      have hv := hv.2
      refine cj_VI (As := [.ref (adK i_4)]) (rest := [.int r_3]) ⟨hx, hb, hml, hown, hts⟩ (kX1_matched l dC dI cy adK adV (adl [h 0, h 1]) t_bytes t_size i_4 hi_4 _ hv) (cwV 1 hts gX1_likeliestKind_X1_matched rfl rfl rfl zX1_matched ⟨Nat.le_of_ble_eq_true rfl, Nat.le_of_ble_eq_true rfl⟩) hJ hK hP hD hS hA [0, 1] [some 0, some 1] rfl rfl rfl (va_recv hK hP (ci := 1) (q0 := 0) rfl rfl) (fun _ => rfl) rfl hl.1 rfl (Nat.le_of_ble_eq_true rfl) (Nat.zero_le _) (Nat.zero_le _) dX1_likeliestKind_22 (fun r_5 w_7 H locs hv hP hD hS => ?_)
      have hP : va_P (dC, dI) vwCl (pX1_likeliestKind cy h t_bytes t_size) H := hP
      have hD : va_D A (pX1_likeliestKind cy h t_bytes t_size) := hD
      refine lv_icmp_le (tgt := 30) hx hb dX1_likeliestKind_25 (by decide) (fun c_6 => ?_) (fun c_6 => ?_)
      · have hv := hv.1 c_6
        refine lv_iinc (v := (x2 + 1)) (lv' := [(2, .int ((x2 + 1))), (0, .ref (h 0)), (1, .int x1)]) hx hb dX1_likeliestKind_30 hl (k := 2) rfl rfl (by decide) rfl (fun ls hl => ?_)
        refine lv_goto (tgt := 4) hx hb dX1_likeliestKind_33 (by decide) ?_
        exact ih x1 (x2 + 1) hv _ _ _ hP hD hS (lv_sub hl [1, 2, 0] rfl)
      · have hv := hv.2 c_6
        refine lv_iload_n hx hb dX1_likeliestKind_28 rfl (lv_at hl 2 rfl) ?_
        refine lv_istore_n (lv' := [(1, .int x2), (0, .ref (h 0)), (2, .int x2)]) hx hb dX1_likeliestKind_29 rfl hl (by decide) rfl (fun ls hl => ?_)
        refine lv_iinc (v := (x2 + 1)) (lv' := [(2, .int ((x2 + 1))), (1, .int x2), (0, .ref (h 0))]) hx hb dX1_likeliestKind_30 hl (k := 2) rfl rfl (by decide) rfl (fun ls hl => ?_)
        refine lv_goto (tgt := 4) hx hb dX1_likeliestKind_33 (by decide) ?_
        exact ih x2 (x2 + 1) hv _ _ _ hP hD hS (lv_sub hl [2, 1, 0] rfl)
set_option maxHeartbeats 4000000 in
set_option maxRecDepth 100000 in
theorem wX1_likeliestKind_0 {p : Program} (l : Launch) {e : Env} {s : State} {m : MethodId} {args : Array Value} {below : List Frame} {meth : Method} {c : Code} {dC : Nat → ClassId} {dI : Nat → Nat → Nat} {cy : Nat → ClassId} {A : Nat → Prop} (adK adV : Nat → Nat) (h : Nat → Nat) (post : Int32 → Prop)   (t_bytes : Nat → Int32) (t_size : Int32)  (C0 : cx p s m args meth c cX1_likeliestKind 3 (some .int) wsX1_likeliestKind RX1 dC dI cy A) (hJ : JS adK adV A s s.heap)  : VX1_likeliestKind post t_bytes t_size  → ∀ (H : Heap) (locs : List Loc) (ls : Array Slot), va_P (dC, dI) vwCl (pX1_likeliestKind cy h t_bytes t_size) H → va_D A (pX1_likeliestKind cy h t_bytes t_size) → va_S A s.heap H locs → lv_has ls 3 [(0, .ref (h 0))] → W p l e rX1_likeliestKind s m args below meth c H locs 0 0 (MQ below (va_Qi (fun (r : Int32) (_ : Unit) => post r) (fun (_ : Unit) (t : State) => va_P (dC, dI) vwCl (pX1_likeliestKind cy h t_bytes t_size) t.heap) A) args s 0 0 A) (F0 m 0 ls []) := by
  have C1 := C0
  obtain ⟨hx, hb, hr, hml, hown, hts, hlocks, hK, hA⟩ := C1
  intro  hv H locs ls hP hD hS hl
  refine lv_iconst (v := 0) hx hb dX1_likeliestKind_0 (by decide) ?_
  refine lv_istore_n (lv' := [(1, .int 0), (0, .ref (h 0))]) hx hb dX1_likeliestKind_1 rfl hl (by decide) rfl (fun ls hl => ?_)
  refine lv_iconst (v := 1) hx hb dX1_likeliestKind_2 (by decide) ?_
  refine lv_istore_n (lv' := [(2, .int 1), (1, .int 0), (0, .ref (h 0))]) hx hb dX1_likeliestKind_3 rfl hl (by decide) rfl (fun ls hl => ?_)
  obtain ⟨n_1, hv⟩ := hv
  exact wX1_likeliestKind_4 l adK adV h post  t_bytes t_size C0 hJ n_1 0 1 hv _ _ _ hP hD hS (lv_sub hl [2, 1, 0] rfl)
theorem kX1_likeliestKind (l : Launch) (dC : Nat → ClassId) (dI : Nat → Nat → Nat) (cy : Nat → ClassId) (adK adV : Nat → Nat) (h : Nat → Nat) (t_bytes : Nat → Int32) (t_size : Int32)   (post : Int32 → Prop) (hv : VX1_likeliestKind post t_bytes t_size ) : CtJI l yX1_likeliestKind wsX1_likeliestKind rX1_likeliestKind dC dI cy adK adV [.ref (h 0)] (pX1_likeliestKind cy h t_bytes t_size) (fun (_ : Unit) => pX1_likeliestKind cy h t_bytes t_size) (fun (r : Int32) (_ : Unit) => post r) :=
  ct_ofJ (Q1 := fun A => va_Qi (fun (r : Int32) (_ : Unit) => post r) (fun (_ : Unit) (t : State) => va_P (dC, dI) vwCl (pX1_likeliestKind cy h t_bytes t_size) t.heap) A) (fun _ => rfl) (by decide) rfl (Nat.le_of_ble_eq_true rfl) (fun p e s m below meth c A ls C0 hJ hP hD hS hl => wX1_likeliestKind_0 l adK adV h post t_bytes t_size C0 hJ   hv _ _ _ hP hD hS hl)
theorem mX1_problemFault_1 : (Cond.fieldLink RX1 15 "AbelianPowers$Input" "size" "I") ∈ wsX1_problemFault := List.mem_of_getElem? (i := 1) rfl
theorem nX1_problemFault_X1 : ∀ w ∈ wsX10, w ∈ wsX1_problemFault := fun _ h => List.mem_cons_of_mem _ (List.mem_append_right _ h)
theorem zX1_problemFault : yX1_problemFault.cls = RX1 ∧ yX1_problemFault.cls ≠ "java/lang/invoke/MethodHandle" ∧ yX1_problemFault.cls ≠ "java/lang/invoke/VarHandle" ∧ (parseMethodDescriptor yX1_problemFault.desc).map (fun d => d.parameters.length) = some 1 := by decide +kernel
abbrev rX1_problemFault : Room := { frames := 5, cells := 0, slots := 0, locals := 107 }
abbrev pX1_problemFault (cy : Nat → ClassId) (h : Nat → Nat) (t_bytes : Nat → Int32) (t_size : Int32) : va_W := [(h 0, .inr (1, [.ref (h 1), .int t_size])), (h 1, .inl (cy 0, 16, .inl t_bytes))]
def VX1_problemFault (post : Int32 → Prop)  (t_bytes : Nat → Int32) (t_size : Int32) (p1 : Int32)  : Prop := VX1_kindText (fun i_1 => VX1_matched (fun r_2 => ((r_2 < (nI (lenJ.getD i_1 0))) → post r_2) ∧ (¬ (r_2 < (nI (lenJ.getD i_1 0))) → VX1_digitAt (fun r_5 => (¬ (r_5 = 0) → VX1_byteAt (fun r_6 => ((r_6 = 32) → VX1_digitAt (fun r_7 => (¬ (r_7 = 0) → ((t_size ≤ (r_2 + 3)) → post (-1 : Int32)) ∧ (¬ (t_size ≤ (r_2 + 3)) → post (r_2 + 3))) ∧ ((r_7 = 0) → post (r_2 + 2))) t_bytes t_size (r_2 + 2)) ∧ (¬ (r_6 = 32) → post (r_2 + 1))) t_bytes t_size (r_2 + 1)) ∧ ((r_5 = 0) → post r_2)) t_bytes t_size r_2)) t_bytes t_size i_1) p1
set_option maxHeartbeats 4000000 in
set_option maxRecDepth 100000 in
theorem wX1_problemFault_0 {p : Program} (l : Launch) {e : Env} {s : State} {m : MethodId} {args : Array Value} {below : List Frame} {meth : Method} {c : Code} {dC : Nat → ClassId} {dI : Nat → Nat → Nat} {cy : Nat → ClassId} {A : Nat → Prop} (adK adV : Nat → Nat) (h : Nat → Nat) (post : Int32 → Prop)   (t_bytes : Nat → Int32) (t_size : Int32) (p1 : Int32) (C0 : cx p s m args meth c cX1_problemFault 4 (some .int) wsX1_problemFault RX1 dC dI cy A) (hJ : JS adK adV A s s.heap)  : VX1_problemFault post t_bytes t_size p1  → ∀ (H : Heap) (locs : List Loc) (ls : Array Slot), va_P (dC, dI) vwCl (pX1_problemFault cy h t_bytes t_size) H → va_D A (pX1_problemFault cy h t_bytes t_size) → va_S A s.heap H locs → lv_has ls 4 [(0, .ref (h 0)), (1, .int p1)] → W p l e rX1_problemFault s m args below meth c H locs 0 0 (MQ below (va_Qi (fun (r : Int32) (_ : Unit) => post r) (fun (_ : Unit) (t : State) => va_P (dC, dI) vwCl (pX1_problemFault cy h t_bytes t_size) t.heap) A) args s 0 0 A) (F0 m 0 ls []) := by
  have C1 := C0
  obtain ⟨hx, hb, hr, hml, hown, hts, hlocks, hK, hA⟩ := C1
  intro  hv H locs ls hP hD hS hl
  refine lv_iload_n hx hb dX1_problemFault_0 rfl (lv_at hl 1 rfl) ?_
  refine cj_SR (As := [.int p1]) (rest := []) ⟨hx, hb, hml, hown, hts⟩ (kX1_kindText l dC dI cy adK adV p1 _ hv) (va_cwS 1 hts gX1_problemFault_X1_kindText rfl rfl rfl zX1_kindText ⟨Nat.le_of_ble_eq_true rfl, Nat.le_of_ble_eq_true rfl⟩) hJ hK hP hD hS hA rfl hl.1 rfl (Nat.le_of_ble_eq_true rfl) (Nat.zero_le _) (Nat.zero_le _) dX1_problemFault_1 (fun i_1 H locs hv hP hS => ?_)
  have hi_1 := hv.1
  have hv := hv.2
  refine lv_astore_n (lv' := [(2, .ref (adK i_1)), (0, .ref (h 0)), (1, .int p1)]) hx hb dX1_problemFault_4 rfl hl (by decide) rfl (fun ls hl => ?_)
  refine lv_aload_n hx hb dX1_problemFault_5 rfl (lv_at hl 1 rfl) ?_
  refine lv_aload_n hx hb dX1_problemFault_6 rfl (lv_at hl 0 rfl) ?_
  refine cj_VI (As := [.ref (adK i_1)]) (rest := []) ⟨hx, hb, hml, hown, hts⟩ (kX1_matched l dC dI cy adK adV (adl [h 0, h 1]) t_bytes t_size i_1 hi_1 _ hv) (cwV 1 hts gX1_problemFault_X1_matched rfl rfl rfl zX1_matched ⟨Nat.le_of_ble_eq_true rfl, Nat.le_of_ble_eq_true rfl⟩) hJ hK hP hD hS hA [0, 1] [some 0, some 1] rfl rfl rfl (va_recv hK hP (ci := 1) (q0 := 0) rfl rfl) (fun _ => rfl) rfl hl.1 rfl (Nat.le_of_ble_eq_true rfl) (Nat.zero_le _) (Nat.zero_le _) dX1_problemFault_7 (fun r_2 w_16 H locs hv hP hD hS => ?_)
  have hP : va_P (dC, dI) vwCl (pX1_problemFault cy h t_bytes t_size) H := hP
  have hD : va_D A (pX1_problemFault cy h t_bytes t_size) := hD
  refine lv_istore_n (lv' := [(3, .int r_2), (2, .ref (adK i_1)), (0, .ref (h 0)), (1, .int p1)]) hx hb dX1_problemFault_10 rfl hl (by decide) rfl (fun ls hl => ?_)
  refine lv_iload_n hx hb dX1_problemFault_11 rfl (lv_at hl 0 rfl) ?_
  refine lv_aload_n hx hb dX1_problemFault_12 rfl (lv_at hl 1 rfl) ?_
  refine cj_VI (As := []) (rest := [.int r_2]) ⟨hx, hb, hml, hown, hts⟩ (kJ_length l dC dI cy adK adV hi_1 (fun r => r = nI (lenJ.getD i_1 0)) rfl) (cwV 0 hts gX1_problemFault_J0_length_8abf5 rfl rfl rfl zJ_length ⟨Nat.le_of_ble_eq_true rfl, Nat.le_of_ble_eq_true rfl⟩) hJ hK hP hD hS hA [] [none, none] rfl rfl rfl (vk_recv hJ.1 hi_1 hS) (fun _ => rfl) rfl hl.1 rfl (Nat.le_of_ble_eq_true rfl) (Nat.zero_le _) (Nat.zero_le _) dX1_problemFault_13 (fun r_3 _ H locs er_3 hP hD hS => ?_)
  subst er_3
  have hP : va_P (dC, dI) vwCl (pX1_problemFault cy h t_bytes t_size) H := hP
  have hD : va_D A (pX1_problemFault cy h t_bytes t_size) := hD
  refine lv_icmp_lt (tgt := 27) hx hb dX1_problemFault_16 (by decide) (fun c_15 => ?_) (fun c_15 => ?_)
  · have hv := hv.1 c_15
    refine lv_iload_n hx hb dX1_problemFault_27 rfl (lv_at hl 0 rfl) ?_
    exact W.iret (v := r_2) hx hb hr (fun t ht hW => ⟨⟨r_2, (), rfl, hv, va_Ph ht hP⟩, hS.F ht⟩) hS.2.2 dX1_problemFault_28
  · have hv := hv.2 c_15
    refine lv_aload_n hx hb dX1_problemFault_19 rfl (lv_at hl 2 rfl) ?_
    refine lv_iload_n hx hb dX1_problemFault_20 rfl (lv_at hl 0 rfl) ?_
    refine cb_VI (As := [.int r_2]) (rest := []) ⟨hx, hb, hml, hown, hts⟩ (kX1_digitAt l dC dI cy (adl [h 0, h 1]) t_bytes t_size r_2 _ hv) (cwV 1 hts gX1_problemFault_X1_digitAt rfl rfl rfl zX1_digitAt ⟨Nat.le_of_ble_eq_true rfl, Nat.le_of_ble_eq_true rfl⟩) hK hP hD hS hA [0, 1] [some 0, some 1] rfl rfl rfl (ci := 1) rfl rfl (fun _ => rfl) rfl hl.1 rfl (Nat.le_of_ble_eq_true rfl) dX1_problemFault_21 (fun r_5 w_14 H locs hv hP hD hS => ?_)
    have hP : va_P (dC, dI) vwCl (pX1_problemFault cy h t_bytes t_size) H := hP
    have hD : va_D A (pX1_problemFault cy h t_bytes t_size) := hD
    refine lv_if_ne (tgt := 29) hx hb dX1_problemFault_24 (by decide) (fun c_13 => ?_) (fun c_13 => ?_)
    · have hv := hv.1 c_13
      refine lv_aload_n hx hb dX1_problemFault_29 rfl (lv_at hl 2 rfl) ?_
      refine lv_iload_n hx hb dX1_problemFault_30 rfl (lv_at hl 0 rfl) ?_
      refine lv_iconst (v := 1) hx hb dX1_problemFault_31 (by decide) ?_
      refine lv_iadd hx hb dX1_problemFault_32 ?_
      refine cb_VI (As := [.int ((r_2 + 1))]) (rest := []) ⟨hx, hb, hml, hown, hts⟩ (kX1_byteAt l dC dI cy (adl [h 0, h 1]) t_bytes t_size (r_2 + 1) _ hv) (cwV 1 hts gX1_problemFault_X1_byteAt rfl rfl rfl zX1_byteAt ⟨Nat.le_of_ble_eq_true rfl, Nat.le_of_ble_eq_true rfl⟩) hK hP hD hS hA [0, 1] [some 0, some 1] rfl rfl rfl (ci := 1) rfl rfl (fun _ => rfl) rfl hl.1 rfl (Nat.le_of_ble_eq_true rfl) dX1_problemFault_33 (fun r_6 w_12 H locs hv hP hD hS => ?_)
      have hP : va_P (dC, dI) vwCl (pX1_problemFault cy h t_bytes t_size) H := hP
      have hD : va_D A (pX1_problemFault cy h t_bytes t_size) := hD
      refine lv_bipush (v := 32) hx hb dX1_problemFault_36 (by decide) ?_
      refine lv_icmp_eq (tgt := 45) hx hb dX1_problemFault_38 (by decide) (fun c_11 => ?_) (fun c_11 => ?_)
      · have hv := hv.1 c_11
        refine lv_aload_n hx hb dX1_problemFault_45 rfl (lv_at hl 2 rfl) ?_
        refine lv_iload_n hx hb dX1_problemFault_46 rfl (lv_at hl 0 rfl) ?_
        refine lv_iconst (v := 2) hx hb dX1_problemFault_47 (by decide) ?_
        refine lv_iadd hx hb dX1_problemFault_48 ?_
        refine cb_VI (As := [.int ((r_2 + 2))]) (rest := []) ⟨hx, hb, hml, hown, hts⟩ (kX1_digitAt l dC dI cy (adl [h 0, h 1]) t_bytes t_size (r_2 + 2) _ hv) (cwV 1 hts gX1_problemFault_X1_digitAt rfl rfl rfl zX1_digitAt ⟨Nat.le_of_ble_eq_true rfl, Nat.le_of_ble_eq_true rfl⟩) hK hP hD hS hA [0, 1] [some 0, some 1] rfl rfl rfl (ci := 1) rfl rfl (fun _ => rfl) rfl hl.1 rfl (Nat.le_of_ble_eq_true rfl) dX1_problemFault_49 (fun r_7 w_10 H locs hv hP hD hS => ?_)
        have hP : va_P (dC, dI) vwCl (pX1_problemFault cy h t_bytes t_size) H := hP
        have hD : va_D A (pX1_problemFault cy h t_bytes t_size) := hD
        refine lv_if_ne (tgt := 59) hx hb dX1_problemFault_52 (by decide) (fun c_9 => ?_) (fun c_9 => ?_)
        · have hv := hv.1 c_9
          refine lv_aload_n hx hb dX1_problemFault_59 rfl (lv_at hl 2 rfl) ?_
          refine va_get (D := (dC, dI)) (ci := 1) (v := .int t_size) (C := RX1) (T := TX1) (N := 2) hx hb hts nX1_problemFault_X1 hown hK hP 0 rfl rfl 1 (by decide) (hts _ mX1_problemFault_1) (fun _ h9 => h9) rfl dX1_problemFault_60 ?_
          refine lv_iload_n hx hb dX1_problemFault_63 rfl (lv_at hl 0 rfl) ?_
          refine lv_iconst (v := 3) hx hb dX1_problemFault_64 (by decide) ?_
          refine lv_iadd hx hb dX1_problemFault_65 ?_
          refine lv_icmp_le (tgt := 75) hx hb dX1_problemFault_66 (by decide) (fun c_8 => ?_) (fun c_8 => ?_)
          · have hv := hv.1 c_8
            refine lv_iconst (v := (-1)) hx hb dX1_problemFault_75 (by decide) ?_
            exact W.iret (v := (-1)) hx hb hr (fun t ht hW => ⟨⟨(-1), (), rfl, hv, va_Ph ht hP⟩, hS.F ht⟩) hS.2.2 dX1_problemFault_76
          · have hv := hv.2 c_8
            refine lv_iload_n hx hb dX1_problemFault_69 rfl (lv_at hl 0 rfl) ?_
            refine lv_iconst (v := 3) hx hb dX1_problemFault_70 (by decide) ?_
            refine lv_iadd hx hb dX1_problemFault_71 ?_
            refine lv_goto (tgt := 76) hx hb dX1_problemFault_72 (by decide) ?_
            exact W.iret (v := (r_2 + 3)) hx hb hr (fun t ht hW => ⟨⟨(r_2 + 3), (), rfl, hv, va_Ph ht hP⟩, hS.F ht⟩) hS.2.2 dX1_problemFault_76
        · have hv := hv.2 c_9
          refine lv_iload_n hx hb dX1_problemFault_55 rfl (lv_at hl 0 rfl) ?_
          refine lv_iconst (v := 2) hx hb dX1_problemFault_56 (by decide) ?_
          refine lv_iadd hx hb dX1_problemFault_57 ?_
          exact W.iret (v := (r_2 + 2)) hx hb hr (fun t ht hW => ⟨⟨(r_2 + 2), (), rfl, hv, va_Ph ht hP⟩, hS.F ht⟩) hS.2.2 dX1_problemFault_58
      · have hv := hv.2 c_11
        refine lv_iload_n hx hb dX1_problemFault_41 rfl (lv_at hl 0 rfl) ?_
        refine lv_iconst (v := 1) hx hb dX1_problemFault_42 (by decide) ?_
        refine lv_iadd hx hb dX1_problemFault_43 ?_
        exact W.iret (v := (r_2 + 1)) hx hb hr (fun t ht hW => ⟨⟨(r_2 + 1), (), rfl, hv, va_Ph ht hP⟩, hS.F ht⟩) hS.2.2 dX1_problemFault_44
    · have hv := hv.2 c_13
      refine lv_iload_n hx hb dX1_problemFault_27 rfl (lv_at hl 0 rfl) ?_
      exact W.iret (v := r_2) hx hb hr (fun t ht hW => ⟨⟨r_2, (), rfl, hv, va_Ph ht hP⟩, hS.F ht⟩) hS.2.2 dX1_problemFault_28
theorem kX1_problemFault (l : Launch) (dC : Nat → ClassId) (dI : Nat → Nat → Nat) (cy : Nat → ClassId) (adK adV : Nat → Nat) (h : Nat → Nat) (t_bytes : Nat → Int32) (t_size : Int32) (p1 : Int32)  (post : Int32 → Prop) (hv : VX1_problemFault post t_bytes t_size p1 ) : CtJI l yX1_problemFault wsX1_problemFault rX1_problemFault dC dI cy adK adV [.ref (h 0), .int p1] (pX1_problemFault cy h t_bytes t_size) (fun (_ : Unit) => pX1_problemFault cy h t_bytes t_size) (fun (r : Int32) (_ : Unit) => post r) :=
  ct_ofJ (Q1 := fun A => va_Qi (fun (r : Int32) (_ : Unit) => post r) (fun (_ : Unit) (t : State) => va_P (dC, dI) vwCl (pX1_problemFault cy h t_bytes t_size) t.heap) A) (fun _ => rfl) (by decide) rfl (Nat.le_of_ble_eq_true rfl) (fun p e s m below meth c A ls C0 hJ hP hD hS hl => wX1_problemFault_0 l adK adV h post t_bytes t_size p1 C0 hJ   hv _ _ _ hP hD hS hl)
theorem mX10_parseProblem_1 : (Cond.fieldLink RX10 10 "AbelianPowers" "input" "LAbelianPowers$Input;") ∈ wsX10_parseProblem := List.mem_of_getElem? (i := 1) rfl
theorem mX10_parseProblem_2 : (Cond.fieldLink RX10 70 "AbelianPowers$Input" "size" "I") ∈ wsX10_parseProblem := List.mem_of_getElem? (i := 2) rfl
theorem mX10_parseProblem_3 : (Cond.fieldLink RX10 19 "AbelianPowers" "setting" "LAbelianPowers$Setting;") ∈ wsX10_parseProblem := List.mem_of_getElem? (i := 3) rfl
theorem mX10_parseProblem_4 : (Cond.fieldLink RX10 97 "AbelianPowers$Setting" "kind" "I") ∈ wsX10_parseProblem := List.mem_of_getElem? (i := 4) rfl
theorem mX10_parseProblem_5 : (Cond.fieldLink RX10 100 "AbelianPowers$Setting" "exponent" "I") ∈ wsX10_parseProblem := List.mem_of_getElem? (i := 5) rfl
theorem mX10_parseProblem_6 : (Cond.fieldLink RX10 103 "AbelianPowers$Setting" "letters" "I") ∈ wsX10_parseProblem := List.mem_of_getElem? (i := 6) rfl
theorem nX10_parseProblem_X10 : ∀ w ∈ wsX100, w ∈ wsX10_parseProblem := fun _ h => List.mem_cons_of_mem _ (List.mem_append_left _ (List.mem_append_left _ (List.mem_append_left _ (List.mem_append_right _ h))))
theorem nX10_parseProblem_X1 : ∀ w ∈ wsX10, w ∈ wsX10_parseProblem := fun _ h => List.mem_cons_of_mem _ (List.mem_append_left _ (List.mem_append_left _ (List.mem_append_right _ h)))
theorem nX10_parseProblem_X5 : ∀ w ∈ wsX50, w ∈ wsX10_parseProblem := fun _ h => List.mem_cons_of_mem _ (List.mem_append_left _ (List.mem_append_right _ h))
theorem zX10_parseProblem : yX10_parseProblem.cls = RX10 ∧ yX10_parseProblem.cls ≠ "java/lang/invoke/MethodHandle" ∧ yX10_parseProblem.cls ≠ "java/lang/invoke/VarHandle" ∧ (parseMethodDescriptor yX10_parseProblem.desc).map (fun d => d.parameters.length) = some 0 := by decide +kernel
abbrev rX10_parseProblem : Room := { frames := 6, cells := 0, slots := 0, locals := 130 }
abbrev pX10_parseProblem (cy : Nat → ClassId) (h : Nat → Nat) (t_setting_words_A : Nat → Nat) (t_setting_words_B : Nat → Nat) (t_setting_images_A : Nat → Nat) (t_setting_images_B : Nat → Nat) (t_input_bytes : Nat → Int32) (t_input_size : Int32) (t_setting_kind : Int32) (t_setting_exponent : Int32) (t_setting_letters : Int32) (t_setting_values : Nat → Int32) (t_setting_words_size : Nat → Int32) (t_setting_images_size : Nat → Int32) (t_snapshotSaved : Int32) : va_W := [(h 0, .inr (10, [.ref (h 1), .ref (h 3), .ref (h 7), .int t_snapshotSaved, .ref (h 8), .ref (h 9), .ref (h 10), .ref (h 11), .ref (h 12), .ref (h 13)])), (h 1, .inr (1, [.ref (h 2), .int t_input_size])), (h 2, .inl (cy 0, 16, .inl t_input_bytes)), (h 3, .inr (5, [.int t_setting_kind, .int t_setting_exponent, .int t_setting_letters, .ref (h 4), .ref (h 5), .ref (h 6)])), (h 4, .inl (cy 0, 4, .inl t_setting_values)), (h 5, .inl (cy 3, 3, .inr (.inr (.inr (.inr (fun j => some (t_setting_words_A j))))))), (t_setting_words_A 0, .inr (9, [.ref (t_setting_words_B 0), .int (t_setting_words_size 0)])), (t_setting_words_A 1, .inr (9, [.ref (t_setting_words_B 1), .int (t_setting_words_size 1)])), (t_setting_words_A 2, .inr (9, [.ref (t_setting_words_B 2), .int (t_setting_words_size 2)])), (h 6, .inl (cy 3, 4, .inr (.inr (.inr (.inr (fun j => some (t_setting_images_A j))))))), (t_setting_images_A 0, .inr (9, [.ref (t_setting_images_B 0), .int (t_setting_images_size 0)])), (t_setting_images_A 1, .inr (9, [.ref (t_setting_images_B 1), .int (t_setting_images_size 1)])), (t_setting_images_A 2, .inr (9, [.ref (t_setting_images_B 2), .int (t_setting_images_size 2)])), (t_setting_images_A 3, .inr (9, [.ref (t_setting_images_B 3), .int (t_setting_images_size 3)]))]
def VX10_parseProblem (post : Int32 → Int32 → Int32 → Int32 → Int32 → (Nat → Int32) → (Nat → Int32) → (Nat → Int32) → Prop)  (t_input_bytes : Nat → Int32) (t_input_size : Int32) (t_setting_kind : Int32) (t_setting_exponent : Int32) (t_setting_letters : Int32) (t_setting_values : Nat → Int32) (t_setting_words_size : Nat → Int32) (t_setting_images_size : Nat → Int32) : Prop := VX1_likeliestKind (fun r_1 => VX1_kindText (fun i_2 => VX1_problemFault (fun r_5 => VX1_digitAt (fun r_6 => VX1_digitAt (fun r_7 => ((r_5 = (-1)) → ((r_7 = t_setting_letters) → post r_6 0 r_1 r_6 t_setting_letters t_setting_values t_setting_words_size t_setting_images_size) ∧ (¬ (r_7 = t_setting_letters) → VX5_startOver (fun u_8 u_9 u_10 u_11 => post r_6 0 r_1 r_6 u_8 u_9 u_10 u_11) r_7 t_setting_letters t_setting_values t_setting_words_size t_setting_images_size)) ∧ (¬ (r_5 = (-1)) → post ((-100 : Int32) - r_5) 0 t_setting_kind t_setting_exponent t_setting_letters t_setting_values t_setting_words_size t_setting_images_size)) t_input_bytes t_input_size ((nI (lenJ.getD i_2 0)) + 2)) t_input_bytes t_input_size (nI (lenJ.getD i_2 0))) t_input_bytes t_input_size r_1) r_1) t_input_bytes t_input_size
set_option maxHeartbeats 4000000 in
set_option maxRecDepth 100000 in
theorem wX10_parseProblem_0 {p : Program} (l : Launch) {e : Env} {s : State} {m : MethodId} {args : Array Value} {below : List Frame} {meth : Method} {c : Code} {dC : Nat → ClassId} {dI : Nat → Nat → Nat} {cy : Nat → ClassId} {A : Nat → Prop} (adK adV : Nat → Nat) (h : Nat → Nat) (t_setting_words_A : Nat → Nat) (t_setting_words_B : Nat → Nat) (t_setting_images_A : Nat → Nat) (t_setting_images_B : Nat → Nat) (post : Int32 → Int32 → Int32 → Int32 → Int32 → (Nat → Int32) → (Nat → Int32) → (Nat → Int32) → Prop)   (t_input_bytes : Nat → Int32) (t_snapshotSaved : Int32)  (C0 : cx p s m args meth c cX10_parseProblem 6 (some .int) wsX10_parseProblem RX10 dC dI cy A) (hJ : JS adK adV A s s.heap)  : ∀ (t_input_size : Int32) (t_setting_kind : Int32) (t_setting_exponent : Int32) (t_setting_letters : Int32) (t_setting_values : Nat → Int32) (t_setting_words_size : Nat → Int32) (t_setting_images_size : Nat → Int32), VX10_parseProblem post t_input_bytes t_input_size t_setting_kind t_setting_exponent t_setting_letters t_setting_values t_setting_words_size t_setting_images_size → ∀ (H : Heap) (locs : List Loc) (ls : Array Slot), va_P (dC, dI) vwCl (pX10_parseProblem cy h t_setting_words_A t_setting_words_B t_setting_images_A t_setting_images_B t_input_bytes t_input_size t_setting_kind t_setting_exponent t_setting_letters t_setting_values t_setting_words_size t_setting_images_size t_snapshotSaved) H → va_D A (pX10_parseProblem cy h t_setting_words_A t_setting_words_B t_setting_images_A t_setting_images_B t_input_bytes t_input_size t_setting_kind t_setting_exponent t_setting_letters t_setting_values t_setting_words_size t_setting_images_size t_snapshotSaved) → va_S A s.heap H locs → lv_has ls 6 [(0, .ref (h 0))] → W p l e rX10_parseProblem s m args below meth c H locs 0 0 (MQ below (va_Qi (fun (r : Int32) (u : Int32 × Int32 × Int32 × Int32 × (Nat → Int32) × (Nat → Int32) × (Nat → Int32)) => post r u.1 u.2.1 u.2.2.1 u.2.2.2.1 u.2.2.2.2.1 u.2.2.2.2.2.1 u.2.2.2.2.2.2) (fun (u : Int32 × Int32 × Int32 × Int32 × (Nat → Int32) × (Nat → Int32) × (Nat → Int32)) (t : State) => va_P (dC, dI) vwCl (pX10_parseProblem cy h t_setting_words_A t_setting_words_B t_setting_images_A t_setting_images_B t_input_bytes u.1 u.2.1 u.2.2.1 u.2.2.2.1 u.2.2.2.2.1 u.2.2.2.2.2.1 u.2.2.2.2.2.2 t_snapshotSaved) t.heap) A) args s 0 0 A) (F0 m 0 ls []) := by
  have C1 := C0
  obtain ⟨hx, hb, hr, hml, hown, hts, hlocks, hK, hA⟩ := C1
  intro t_input_size t_setting_kind t_setting_exponent t_setting_letters t_setting_values t_setting_words_size t_setting_images_size hv H locs ls hP hD hS hl
  refine lv_aload_n hx hb dX10_parseProblem_0 rfl (lv_at hl 0 rfl) ?_
  refine va_get (D := (dC, dI)) (ci := 10) (v := .ref (h 1)) (C := RX10) (T := TX10) (N := 10) hx hb hts nX10_parseProblem_X10 hown hK hP 0 rfl rfl 0 (by decide) (hts _ mX10_parseProblem_1) (fun _ h9 => h9) rfl dX10_parseProblem_1 ?_
  refine cj_VI (As := []) (rest := []) ⟨hx, hb, hml, hown, hts⟩ (kX1_likeliestKind l dC dI cy adK adV (adl [h 1, h 2]) t_input_bytes t_input_size _ hv) (cwV 0 hts gX10_parseProblem_X1_likeliestKind rfl rfl rfl zX1_likeliestKind ⟨Nat.le_of_ble_eq_true rfl, Nat.le_of_ble_eq_true rfl⟩) hJ hK hP hD hS hA [1, 2] [none, some 0, some 1, none, none, none, none, none, none, none, none, none, none, none] rfl rfl rfl (va_recv hK hP (ci := 1) (q0 := 1) rfl rfl) (fun _ => rfl) rfl hl.1 rfl (Nat.le_of_ble_eq_true rfl) (Nat.zero_le _) (Nat.zero_le _) dX10_parseProblem_4 (fun r_1 w_18 H locs hv hP hD hS => ?_)
  have hP : va_P (dC, dI) vwCl (pX10_parseProblem cy h t_setting_words_A t_setting_words_B t_setting_images_A t_setting_images_B t_input_bytes t_input_size t_setting_kind t_setting_exponent t_setting_letters t_setting_values t_setting_words_size t_setting_images_size t_snapshotSaved) H := hP
  have hD : va_D A (pX10_parseProblem cy h t_setting_words_A t_setting_words_B t_setting_images_A t_setting_images_B t_input_bytes t_input_size t_setting_kind t_setting_exponent t_setting_letters t_setting_values t_setting_words_size t_setting_images_size t_snapshotSaved) := hD
  refine lv_istore_n (lv' := [(1, .int r_1), (0, .ref (h 0))]) hx hb dX10_parseProblem_7 rfl hl (by decide) rfl (fun ls hl => ?_)
  refine lv_iload_n hx hb dX10_parseProblem_8 rfl (lv_at hl 0 rfl) ?_
  refine cj_SR (As := [.int r_1]) (rest := []) ⟨hx, hb, hml, hown, hts⟩ (kX1_kindText l dC dI cy adK adV r_1 _ hv) (va_cwS 1 hts gX10_parseProblem_X1_kindText rfl rfl rfl zX1_kindText ⟨Nat.le_of_ble_eq_true rfl, Nat.le_of_ble_eq_true rfl⟩) hJ hK hP hD hS hA rfl hl.1 rfl (Nat.le_of_ble_eq_true rfl) (Nat.zero_le _) (Nat.zero_le _) dX10_parseProblem_9 (fun i_2 H locs hv hP hS => ?_)
  have hi_2 := hv.1
  have hv := hv.2
  refine cj_VI (As := []) (rest := []) ⟨hx, hb, hml, hown, hts⟩ (kJ_length l dC dI cy adK adV hi_2 (fun r => r = nI (lenJ.getD i_2 0)) rfl) (cwV 0 hts gX10_parseProblem_J0_length_8abf5 rfl rfl rfl zJ_length ⟨Nat.le_of_ble_eq_true rfl, Nat.le_of_ble_eq_true rfl⟩) hJ hK hP hD hS hA [] [none, none, none, none, none, none, none, none, none, none, none, none, none, none] rfl rfl rfl (vk_recv hJ.1 hi_2 hS) (fun _ => rfl) rfl hl.1 rfl (Nat.le_of_ble_eq_true rfl) (Nat.zero_le _) (Nat.zero_le _) dX10_parseProblem_12 (fun r_3 _ H locs er_3 hP hD hS => ?_)
  subst er_3
  have hP : va_P (dC, dI) vwCl (pX10_parseProblem cy h t_setting_words_A t_setting_words_B t_setting_images_A t_setting_images_B t_input_bytes t_input_size t_setting_kind t_setting_exponent t_setting_letters t_setting_values t_setting_words_size t_setting_images_size t_snapshotSaved) H := hP
  have hD : va_D A (pX10_parseProblem cy h t_setting_words_A t_setting_words_B t_setting_images_A t_setting_images_B t_input_bytes t_input_size t_setting_kind t_setting_exponent t_setting_letters t_setting_values t_setting_words_size t_setting_images_size t_snapshotSaved) := hD
  refine lv_istore_n (lv' := [(2, .int ((nI (lenJ.getD i_2 0)))), (1, .int r_1), (0, .ref (h 0))]) hx hb dX10_parseProblem_15 rfl hl (by decide) rfl (fun ls hl => ?_)
  refine lv_aload_n hx hb dX10_parseProblem_16 rfl (lv_at hl 2 rfl) ?_
  refine va_get (D := (dC, dI)) (ci := 10) (v := .ref (h 1)) (C := RX10) (T := TX10) (N := 10) hx hb hts nX10_parseProblem_X10 hown hK hP 0 rfl rfl 0 (by decide) (hts _ mX10_parseProblem_1) (fun _ h9 => h9) rfl dX10_parseProblem_17 ?_
  refine lv_iload_n hx hb dX10_parseProblem_20 rfl (lv_at hl 1 rfl) ?_
  refine cj_VI (As := [.int r_1]) (rest := []) ⟨hx, hb, hml, hown, hts⟩ (kX1_problemFault l dC dI cy adK adV (adl [h 1, h 2]) t_input_bytes t_input_size r_1 _ hv) (cwV 1 hts gX10_parseProblem_X1_problemFault rfl rfl rfl zX1_problemFault ⟨Nat.le_of_ble_eq_true rfl, Nat.le_of_ble_eq_true rfl⟩) hJ hK hP hD hS hA [1, 2] [none, some 0, some 1, none, none, none, none, none, none, none, none, none, none, none] rfl rfl rfl (va_recv hK hP (ci := 1) (q0 := 1) rfl rfl) (fun _ => rfl) rfl hl.1 rfl (Nat.le_of_ble_eq_true rfl) (Nat.zero_le _) (Nat.zero_le _) dX10_parseProblem_21 (fun r_5 w_17 H locs hv hP hD hS => ?_)
  have hP : va_P (dC, dI) vwCl (pX10_parseProblem cy h t_setting_words_A t_setting_words_B t_setting_images_A t_setting_images_B t_input_bytes t_input_size t_setting_kind t_setting_exponent t_setting_letters t_setting_values t_setting_words_size t_setting_images_size t_snapshotSaved) H := hP
  have hD : va_D A (pX10_parseProblem cy h t_setting_words_A t_setting_words_B t_setting_images_A t_setting_images_B t_input_bytes t_input_size t_setting_kind t_setting_exponent t_setting_letters t_setting_values t_setting_words_size t_setting_images_size t_snapshotSaved) := hD
  refine lv_istore_n (lv' := [(3, .int r_5), (2, .int ((nI (lenJ.getD i_2 0)))), (1, .int r_1), (0, .ref (h 0))]) hx hb dX10_parseProblem_24 rfl hl (by decide) rfl (fun ls hl => ?_)
  refine lv_aload_n hx hb dX10_parseProblem_25 rfl (lv_at hl 3 rfl) ?_
  refine va_get (D := (dC, dI)) (ci := 10) (v := .ref (h 1)) (C := RX10) (T := TX10) (N := 10) hx hb hts nX10_parseProblem_X10 hown hK hP 0 rfl rfl 0 (by decide) (hts _ mX10_parseProblem_1) (fun _ h9 => h9) rfl dX10_parseProblem_26 ?_
  refine lv_iload_n hx hb dX10_parseProblem_29 rfl (lv_at hl 1 rfl) ?_
  refine cb_VI (As := [.int ((nI (lenJ.getD i_2 0)))]) (rest := []) ⟨hx, hb, hml, hown, hts⟩ (kX1_digitAt l dC dI cy (adl [h 1, h 2]) t_input_bytes t_input_size (nI (lenJ.getD i_2 0)) _ hv) (cwV 1 hts gX10_parseProblem_X1_digitAt rfl rfl rfl zX1_digitAt ⟨Nat.le_of_ble_eq_true rfl, Nat.le_of_ble_eq_true rfl⟩) hK hP hD hS hA [1, 2] [none, some 0, some 1, none, none, none, none, none, none, none, none, none, none, none] rfl rfl rfl (ci := 1) rfl rfl (fun _ => rfl) rfl hl.1 rfl (Nat.le_of_ble_eq_true rfl) dX10_parseProblem_30 (fun r_6 w_16 H locs hv hP hD hS => ?_)
  have hP : va_P (dC, dI) vwCl (pX10_parseProblem cy h t_setting_words_A t_setting_words_B t_setting_images_A t_setting_images_B t_input_bytes t_input_size t_setting_kind t_setting_exponent t_setting_letters t_setting_values t_setting_words_size t_setting_images_size t_snapshotSaved) H := hP
  have hD : va_D A (pX10_parseProblem cy h t_setting_words_A t_setting_words_B t_setting_images_A t_setting_images_B t_input_bytes t_input_size t_setting_kind t_setting_exponent t_setting_letters t_setting_values t_setting_words_size t_setting_images_size t_snapshotSaved) := hD
  refine lv_istore (lv' := [(4, .int r_6), (3, .int r_5), (2, .int ((nI (lenJ.getD i_2 0)))), (1, .int r_1), (0, .ref (h 0))]) hx hb dX10_parseProblem_33 hl (by decide) rfl (fun ls hl => ?_)
  refine lv_aload_n hx hb dX10_parseProblem_35 rfl (lv_at hl 4 rfl) ?_
  refine va_get (D := (dC, dI)) (ci := 10) (v := .ref (h 1)) (C := RX10) (T := TX10) (N := 10) hx hb hts nX10_parseProblem_X10 hown hK hP 0 rfl rfl 0 (by decide) (hts _ mX10_parseProblem_1) (fun _ h9 => h9) rfl dX10_parseProblem_36 ?_
  refine lv_iload_n hx hb dX10_parseProblem_39 rfl (lv_at hl 2 rfl) ?_
  refine lv_iconst (v := 2) hx hb dX10_parseProblem_40 (by decide) ?_
  refine lv_iadd hx hb dX10_parseProblem_41 ?_
  refine cb_VI (As := [.int (((nI (lenJ.getD i_2 0)) + 2))]) (rest := []) ⟨hx, hb, hml, hown, hts⟩ (kX1_digitAt l dC dI cy (adl [h 1, h 2]) t_input_bytes t_input_size ((nI (lenJ.getD i_2 0)) + 2) _ hv) (cwV 1 hts gX10_parseProblem_X1_digitAt rfl rfl rfl zX1_digitAt ⟨Nat.le_of_ble_eq_true rfl, Nat.le_of_ble_eq_true rfl⟩) hK hP hD hS hA [1, 2] [none, some 0, some 1, none, none, none, none, none, none, none, none, none, none, none] rfl rfl rfl (ci := 1) rfl rfl (fun _ => rfl) rfl hl.1 rfl (Nat.le_of_ble_eq_true rfl) dX10_parseProblem_42 (fun r_7 w_15 H locs hv hP hD hS => ?_)
  have hP : va_P (dC, dI) vwCl (pX10_parseProblem cy h t_setting_words_A t_setting_words_B t_setting_images_A t_setting_images_B t_input_bytes t_input_size t_setting_kind t_setting_exponent t_setting_letters t_setting_values t_setting_words_size t_setting_images_size t_snapshotSaved) H := hP
  have hD : va_D A (pX10_parseProblem cy h t_setting_words_A t_setting_words_B t_setting_images_A t_setting_images_B t_input_bytes t_input_size t_setting_kind t_setting_exponent t_setting_letters t_setting_values t_setting_words_size t_setting_images_size t_snapshotSaved) := hD
  refine lv_istore (lv' := [(5, .int r_7), (4, .int r_6), (3, .int r_5), (2, .int ((nI (lenJ.getD i_2 0)))), (1, .int r_1), (0, .ref (h 0))]) hx hb dX10_parseProblem_45 hl (by decide) rfl (fun ls hl => ?_)
  refine lv_aload_n hx hb dX10_parseProblem_47 rfl (lv_at hl 5 rfl) ?_
  refine va_get (D := (dC, dI)) (ci := 10) (v := .ref (h 1)) (C := RX10) (T := TX10) (N := 10) hx hb hts nX10_parseProblem_X10 hown hK hP 0 rfl rfl 0 (by decide) (hts _ mX10_parseProblem_1) (fun _ h9 => h9) rfl dX10_parseProblem_48 ?_
  refine lv_iconst (v := 0) hx hb dX10_parseProblem_51 (by decide) ?_
  refine va_put (D := (dC, dI)) (ci := 1) (v := .int 0) (ty := .int) (C := RX1) (T := TX1) (N := 2) hx hb hts nX10_parseProblem_X1 tyX1 tyX1_ok nmX1 hown hK hP hD hS 1 rfl rfl 1 (by decide) (hts _ mX10_parseProblem_2) (fun _ h9 => h9) rfl (by decide +kernel) rfl rfl (Nat.le_of_ble_eq_true rfl) dX10_parseProblem_52 (fun H locs hP hD hS => ?_)
  have hP : va_P (dC, dI) vwCl (pX10_parseProblem cy h t_setting_words_A t_setting_words_B t_setting_images_A t_setting_images_B t_input_bytes 0 t_setting_kind t_setting_exponent t_setting_letters t_setting_values t_setting_words_size t_setting_images_size t_snapshotSaved) H := hP
  have hD : va_D A (pX10_parseProblem cy h t_setting_words_A t_setting_words_B t_setting_images_A t_setting_images_B t_input_bytes 0 t_setting_kind t_setting_exponent t_setting_letters t_setting_values t_setting_words_size t_setting_images_size t_snapshotSaved) := hD
  refine lv_iload_n hx hb dX10_parseProblem_55 rfl (lv_at hl 2 rfl) ?_
  refine lv_iconst (v := (-1)) hx hb dX10_parseProblem_56 (by decide) ?_
  refine lv_icmp_eq (tgt := 65) hx hb dX10_parseProblem_57 (by decide) (fun c_14 => ?_) (fun c_14 => ?_)
  · have hv := hv.1 c_14
    refine lv_aload_n hx hb dX10_parseProblem_65 rfl (lv_at hl 5 rfl) ?_
    refine va_get (D := (dC, dI)) (ci := 10) (v := .ref (h 3)) (C := RX10) (T := TX10) (N := 10) hx hb hts nX10_parseProblem_X10 hown hK hP 0 rfl rfl 1 (by decide) (hts _ mX10_parseProblem_3) (fun _ h9 => h9) rfl dX10_parseProblem_66 ?_
    refine lv_iload_n hx hb dX10_parseProblem_69 rfl (lv_at hl 4 rfl) ?_
    refine va_put (D := (dC, dI)) (ci := 5) (v := .int r_1) (ty := .int) (C := RX5) (T := TX5) (N := 6) hx hb hts nX10_parseProblem_X5 tyX5 tyX5_ok nmX5 hown hK hP hD hS 3 rfl rfl 0 (by decide) (hts _ mX10_parseProblem_4) (fun _ h9 => h9) rfl (by decide +kernel) rfl rfl (Nat.le_of_ble_eq_true rfl) dX10_parseProblem_70 (fun H locs hP hD hS => ?_)
    have hP : va_P (dC, dI) vwCl (pX10_parseProblem cy h t_setting_words_A t_setting_words_B t_setting_images_A t_setting_images_B t_input_bytes 0 r_1 t_setting_exponent t_setting_letters t_setting_values t_setting_words_size t_setting_images_size t_snapshotSaved) H := hP
    have hD : va_D A (pX10_parseProblem cy h t_setting_words_A t_setting_words_B t_setting_images_A t_setting_images_B t_input_bytes 0 r_1 t_setting_exponent t_setting_letters t_setting_values t_setting_words_size t_setting_images_size t_snapshotSaved) := hD
    refine lv_aload_n hx hb dX10_parseProblem_73 rfl (lv_at hl 5 rfl) ?_
    refine va_get (D := (dC, dI)) (ci := 10) (v := .ref (h 3)) (C := RX10) (T := TX10) (N := 10) hx hb hts nX10_parseProblem_X10 hown hK hP 0 rfl rfl 1 (by decide) (hts _ mX10_parseProblem_3) (fun _ h9 => h9) rfl dX10_parseProblem_74 ?_
    refine lv_iload hx hb dX10_parseProblem_77 (lv_at hl 1 rfl) ?_
    refine va_put (D := (dC, dI)) (ci := 5) (v := .int r_6) (ty := .int) (C := RX5) (T := TX5) (N := 6) hx hb hts nX10_parseProblem_X5 tyX5 tyX5_ok nmX5 hown hK hP hD hS 3 rfl rfl 1 (by decide) (hts _ mX10_parseProblem_5) (fun _ h9 => h9) rfl (by decide +kernel) rfl rfl (Nat.le_of_ble_eq_true rfl) dX10_parseProblem_79 (fun H locs hP hD hS => ?_)
    have hP : va_P (dC, dI) vwCl (pX10_parseProblem cy h t_setting_words_A t_setting_words_B t_setting_images_A t_setting_images_B t_input_bytes 0 r_1 r_6 t_setting_letters t_setting_values t_setting_words_size t_setting_images_size t_snapshotSaved) H := hP
    have hD : va_D A (pX10_parseProblem cy h t_setting_words_A t_setting_words_B t_setting_images_A t_setting_images_B t_input_bytes 0 r_1 r_6 t_setting_letters t_setting_values t_setting_words_size t_setting_images_size t_snapshotSaved) := hD
    refine lv_iload hx hb dX10_parseProblem_82 (lv_at hl 0 rfl) ?_
    refine lv_aload_n hx hb dX10_parseProblem_84 rfl (lv_at hl 5 rfl) ?_
    refine va_get (D := (dC, dI)) (ci := 10) (v := .ref (h 3)) (C := RX10) (T := TX10) (N := 10) hx hb hts nX10_parseProblem_X10 hown hK hP 0 rfl rfl 1 (by decide) (hts _ mX10_parseProblem_3) (fun _ h9 => h9) rfl dX10_parseProblem_85 ?_
    refine va_get (D := (dC, dI)) (ci := 5) (v := .int t_setting_letters) (C := RX5) (T := TX5) (N := 6) hx hb hts nX10_parseProblem_X5 hown hK hP 3 rfl rfl 2 (by decide) (hts _ mX10_parseProblem_6) (fun _ h9 => h9) rfl dX10_parseProblem_88 ?_
    refine lv_icmp_eq (tgt := 103) hx hb dX10_parseProblem_91 (by decide) (fun c_13 => ?_) (fun c_13 => ?_)
    · have hv := hv.1 c_13
      refine lv_iload hx hb dX10_parseProblem_103 (lv_at hl 1 rfl) ?_
      exact W.iret (v := r_6) hx hb hr (fun t ht hW => ⟨⟨r_6, (0, r_1, r_6, t_setting_letters, t_setting_values, t_setting_words_size, t_setting_images_size), rfl, hv, va_Ph ht hP⟩, hS.F ht⟩) hS.2.2 dX10_parseProblem_105
    · have hv := hv.2 c_13
      refine lv_aload_n hx hb dX10_parseProblem_94 rfl (lv_at hl 5 rfl) ?_
      refine va_get (D := (dC, dI)) (ci := 10) (v := .ref (h 3)) (C := RX10) (T := TX10) (N := 10) hx hb hts nX10_parseProblem_X10 hown hK hP 0 rfl rfl 1 (by decide) (hts _ mX10_parseProblem_3) (fun _ h9 => h9) rfl dX10_parseProblem_95 ?_
      refine lv_iload hx hb dX10_parseProblem_98 (lv_at hl 0 rfl) ?_
      refine cb_VV (As := [.int r_7]) (rest := []) ⟨hx, hb, hml, hown, hts⟩ (kX5_startOver l dC dI cy (adl [h 3, h 4, h 5, h 6]) t_setting_words_A t_setting_words_B t_setting_images_A t_setting_images_B r_1 r_6 t_setting_letters t_setting_values t_setting_words_size t_setting_images_size r_7 _ hv) (cwV 1 hts gX10_parseProblem_X5_startOver rfl rfl rfl zX5_startOver ⟨Nat.le_of_ble_eq_true rfl, Nat.le_of_ble_eq_true rfl⟩) hK hP hD hS hA [3, 4, 5, 6, 7, 8, 9, 10, 11, 12, 13] [none, none, none, some 0, some 1, some 2, some 3, some 4, some 5, some 6, some 7, some 8, some 9, some 10] rfl rfl rfl (ci := 5) rfl rfl (fun _ => rfl) rfl hl.1 rfl (Nat.le_of_ble_eq_true rfl) dX10_parseProblem_100 (fun w_12 H locs hv hP hD hS => ?_)
      obtain ⟨u_8, u_9, u_10, u_11⟩ := w_12
      have hP : va_P (dC, dI) vwCl (pX10_parseProblem cy h t_setting_words_A t_setting_words_B t_setting_images_A t_setting_images_B t_input_bytes 0 r_1 r_6 u_8 u_9 u_10 u_11 t_snapshotSaved) H := hP
      have hD : va_D A (pX10_parseProblem cy h t_setting_words_A t_setting_words_B t_setting_images_A t_setting_images_B t_input_bytes 0 r_1 r_6 u_8 u_9 u_10 u_11 t_snapshotSaved) := hD
      refine lv_iload hx hb dX10_parseProblem_103 (lv_at hl 1 rfl) ?_
      exact W.iret (v := r_6) hx hb hr (fun t ht hW => ⟨⟨r_6, (0, r_1, r_6, u_8, u_9, u_10, u_11), rfl, hv, va_Ph ht hP⟩, hS.F ht⟩) hS.2.2 dX10_parseProblem_105
  · have hv := hv.2 c_14
    refine lv_bipush (v := (-100)) hx hb dX10_parseProblem_60 (by decide) ?_
    refine lv_iload_n hx hb dX10_parseProblem_62 rfl (lv_at hl 2 rfl) ?_
    refine lv_isub hx hb dX10_parseProblem_63 ?_
    exact W.iret (v := ((-100 : Int32) - r_5)) hx hb hr (fun t ht hW => ⟨⟨((-100 : Int32) - r_5), (0, t_setting_kind, t_setting_exponent, t_setting_letters, t_setting_values, t_setting_words_size, t_setting_images_size), rfl, hv, va_Ph ht hP⟩, hS.F ht⟩) hS.2.2 dX10_parseProblem_64
theorem kX10_parseProblem (l : Launch) (dC : Nat → ClassId) (dI : Nat → Nat → Nat) (cy : Nat → ClassId) (adK adV : Nat → Nat) (h : Nat → Nat) (t_setting_words_A : Nat → Nat) (t_setting_words_B : Nat → Nat) (t_setting_images_A : Nat → Nat) (t_setting_images_B : Nat → Nat) (t_input_bytes : Nat → Int32) (t_input_size : Int32) (t_setting_kind : Int32) (t_setting_exponent : Int32) (t_setting_letters : Int32) (t_setting_values : Nat → Int32) (t_setting_words_size : Nat → Int32) (t_setting_images_size : Nat → Int32) (t_snapshotSaved : Int32)   (post : Int32 → Int32 → Int32 → Int32 → Int32 → (Nat → Int32) → (Nat → Int32) → (Nat → Int32) → Prop) (hv : VX10_parseProblem post t_input_bytes t_input_size t_setting_kind t_setting_exponent t_setting_letters t_setting_values t_setting_words_size t_setting_images_size) : CtJI l yX10_parseProblem wsX10_parseProblem rX10_parseProblem dC dI cy adK adV [.ref (h 0)] (pX10_parseProblem cy h t_setting_words_A t_setting_words_B t_setting_images_A t_setting_images_B t_input_bytes t_input_size t_setting_kind t_setting_exponent t_setting_letters t_setting_values t_setting_words_size t_setting_images_size t_snapshotSaved) (fun (u : Int32 × Int32 × Int32 × Int32 × (Nat → Int32) × (Nat → Int32) × (Nat → Int32)) => pX10_parseProblem cy h t_setting_words_A t_setting_words_B t_setting_images_A t_setting_images_B t_input_bytes u.1 u.2.1 u.2.2.1 u.2.2.2.1 u.2.2.2.2.1 u.2.2.2.2.2.1 u.2.2.2.2.2.2 t_snapshotSaved) (fun (r : Int32) (u : Int32 × Int32 × Int32 × Int32 × (Nat → Int32) × (Nat → Int32) × (Nat → Int32)) => post r u.1 u.2.1 u.2.2.1 u.2.2.2.1 u.2.2.2.2.1 u.2.2.2.2.2.1 u.2.2.2.2.2.2) :=
  ct_ofJ (Q1 := fun A => va_Qi (fun (r : Int32) (u : Int32 × Int32 × Int32 × Int32 × (Nat → Int32) × (Nat → Int32) × (Nat → Int32)) => post r u.1 u.2.1 u.2.2.1 u.2.2.2.1 u.2.2.2.2.1 u.2.2.2.2.2.1 u.2.2.2.2.2.2) (fun (u : Int32 × Int32 × Int32 × Int32 × (Nat → Int32) × (Nat → Int32) × (Nat → Int32)) (t : State) => va_P (dC, dI) vwCl (pX10_parseProblem cy h t_setting_words_A t_setting_words_B t_setting_images_A t_setting_images_B t_input_bytes u.1 u.2.1 u.2.2.1 u.2.2.2.1 u.2.2.2.2.1 u.2.2.2.2.2.1 u.2.2.2.2.2.2 t_snapshotSaved) t.heap) A) (fun _ => rfl) (by decide) rfl (Nat.le_of_ble_eq_true rfl) (fun p e s m below meth c A ls C0 hJ hP hD hS hl => wX10_parseProblem_0 l adK adV h t_setting_words_A t_setting_words_B t_setting_images_A t_setting_images_B post t_input_bytes t_snapshotSaved C0 hJ  t_input_size t_setting_kind t_setting_exponent t_setting_letters t_setting_values t_setting_words_size t_setting_images_size hv _ _ _ hP hD hS hl)
