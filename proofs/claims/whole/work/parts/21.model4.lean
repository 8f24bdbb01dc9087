theorem mX11_computeClosure_1 : (Cond.fieldLink RX11 198 "AbelianPowersModel" "foundMany" "I") ∈ wsX11_computeClosure := List.mem_of_getElem? (i := 1) rfl
theorem mX11_computeClosure_2 : (Cond.fieldLink RX11 220 "AbelianPowersModel" "isFull" "Z") ∈ wsX11_computeClosure := List.mem_of_getElem? (i := 2) rfl
theorem mX11_computeClosure_3 : (Cond.fieldLink RX11 47 "AbelianPowersModel" "made" "[I") ∈ wsX11_computeClosure := List.mem_of_getElem? (i := 3) rfl
theorem mX11_computeClosure_4 : (Cond.fieldLink RX11 56 "AbelianPowersModel" "isDone" "[Z") ∈ wsX11_computeClosure := List.mem_of_getElem? (i := 4) rfl
theorem mX11_computeClosure_5 : (Cond.fieldLink RX11 60 "AbelianPowersModel" "child" "[I") ∈ wsX11_computeClosure := List.mem_of_getElem? (i := 5) rfl
theorem mX11_computeClosure_6 : (Cond.fieldLink RX11 41 "AbelianPowersModel" "found" "[I") ∈ wsX11_computeClosure := List.mem_of_getElem? (i := 6) rfl
theorem mX11_computeClosure_7 : (Cond.fieldLink RX11 254 "AbelianPowersModel" "keptMany" "I") ∈ wsX11_computeClosure := List.mem_of_getElem? (i := 7) rfl
theorem mX11_computeClosure_8 : (Cond.fieldLink RX11 16 "AbelianPowersModel" "letters" "I") ∈ wsX11_computeClosure := List.mem_of_getElem? (i := 8) rfl
theorem mX11_computeClosure_9 : (Cond.fieldLink RX11 257 "AbelianPowersModel" "keptLetters" "I") ∈ wsX11_computeClosure := List.mem_of_getElem? (i := 9) rfl
theorem mX11_computeClosure_10 : (Cond.fieldLink RX11 44 "AbelianPowersModel" "kept" "[I") ∈ wsX11_computeClosure := List.mem_of_getElem? (i := 10) rfl
theorem nX11_computeClosure_X11 : ∀ w ∈ wsX110, w ∈ wsX11_computeClosure := fun _ h => List.mem_cons_of_mem _ (List.mem_append_right _ h)
theorem zX11_computeClosure : yX11_computeClosure.cls = RX11 ∧ yX11_computeClosure.cls ≠ "java/lang/invoke/MethodHandle" ∧ yX11_computeClosure.cls ≠ "java/lang/invoke/VarHandle" ∧ (parseMethodDescriptor yX11_computeClosure.desc).map (fun d => d.parameters.length) = some 0 := by decide +kernel
abbrev rX11_computeClosure : Room := { frames := 13, cells := 0, slots := 0, locals := 349 }
abbrev pX11_computeClosure (cy : Nat → ClassId) (h : Nat → Nat) (t_kind : Int32) (t_exponent : Int32) (t_letters : Int32) (t_images : Nat → Int32) (t_imageSizes : Nat → Int32) (t_fed : Int32) (t_at : Int32) (t_rowSize : Int32) (t_steps : Int32) (t_found : Nat → Int32) (t_foundMany : Int32) (t_kept : Nat → Int32) (t_keptMany : Int32) (t_keptLetters : Int32) (t_made : Nat → Int32) (t_cutAt : Nat → Int32) (t_wanted : Nat → Int32) (t_isDone : Nat → Int32) (t_child : Nat → Int32) (t_isFull : Int32) (t_isSaved : Int32) (t_savedKind : Int32) (t_savedExponent : Int32) (t_savedLetters : Int32) : va_W := [(h 0, .inr (11, [.int t_kind, .int t_exponent, .int t_letters, .ref (h 10), .ref (h 11), .ref (h 12), .ref (h 1), .ref (h 2), .ref (h 13), .int t_fed, .int t_at, .ref (h 14), .int t_rowSize, .int t_steps, .ref (h 3), .int t_foundMany, .ref (h 4), .int t_keptMany, .int t_keptLetters, .ref (h 5), .ref (h 6), .ref (h 7), .ref (h 8), .ref (h 9), .int t_isFull, .ref (h 15), .ref (h 16), .int t_isSaved, .int t_savedKind, .int t_savedExponent, .int t_savedLetters, .ref (h 17), .ref (h 18), .ref (h 19), .ref (h 20), .ref (h 21)])), (h 1, .inl (cy 0, 16, .inl t_images)), (h 2, .inl (cy 0, 4, .inl t_imageSizes)), (h 3, .inl (cy 0, 1407, .inl t_found)), (h 4, .inl (cy 0, 1400, .inl t_kept)), (h 5, .inl (cy 0, 7, .inl t_made)), (h 6, .inl (cy 0, 3, .inl t_cutAt)), (h 7, .inl (cy 0, 4, .inl t_wanted)), (h 8, .inl (cy 2, 201, .inl t_isDone)), (h 9, .inl (cy 0, 7, .inl t_child))]
def VX11_computeClosure_126 (post : Int32 → (Nat → Int32) → Int32 → (Nat → Int32) → Int32 → Int32 → (Nat → Int32) → (Nat → Int32) → (Nat → Int32) → (Nat → Int32) → (Nat → Int32) → Int32 → Prop) (K78 : (Nat → Int32) → Int32 → (Nat → Int32) → Int32 → Int32 → (Nat → Int32) → (Nat → Int32) → (Nat → Int32) → (Nat → Int32) → (Nat → Int32) → Int32 → Int64 → Int32 → Prop) (t_letters : Int32) (t_images : Nat → Int32) (t_imageSizes : Nat → Int32) (t_found : Nat → Int32) (t_foundMany : Int32) (t_kept : Nat → Int32) (t_keptMany : Int32) (t_keptLetters : Int32) (t_made : Nat → Int32) (t_cutAt : Nat → Int32) (t_wanted : Nat → Int32) (t_isDone : Nat → Int32) (t_child : Nat → Int32) (t_isFull : Int32) (x1 : Int64) : Prop := VX11_findParents (fun u_25 u_26 u_27 u_28 u_29 u_30 u_31 => ((u_31 = 0) → VX11_firstOpen (fun r_32 => K78 u_25 u_26 t_kept t_keptMany t_keptLetters u_27 u_28 u_29 u_30 t_child u_31 x1 r_32) u_26 u_30) ∧ (¬ (u_31 = 0) → post (-4 : Int32) u_25 u_26 t_kept t_keptMany t_keptLetters u_27 u_28 u_29 u_30 t_child u_31)) t_letters t_images t_imageSizes t_child x1 t_found t_foundMany t_made t_cutAt t_wanted t_isDone t_isFull
def VX11_computeClosure_94 (post : Int32 → (Nat → Int32) → Int32 → (Nat → Int32) → Int32 → Int32 → (Nat → Int32) → (Nat → Int32) → (Nat → Int32) → (Nat → Int32) → (Nat → Int32) → Int32 → Prop) (K78 : (Nat → Int32) → Int32 → (Nat → Int32) → Int32 → Int32 → (Nat → Int32) → (Nat → Int32) → (Nat → Int32) → (Nat → Int32) → (Nat → Int32) → Int32 → Int64 → Int32 → Prop) (t_letters : Int32) (t_images : Nat → Int32) (t_imageSizes : Nat → Int32) : Nat → (Nat → Int32) → Int32 → (Nat → Int32) → Int32 → Int32 → (Nat → Int32) → (Nat → Int32) → (Nat → Int32) → (Nat → Int32) → (Nat → Int32) → Int32 → Int64 → Int32 → Int32 → Prop
  | 0, _, _, _, _, _, _, _, _, _, _, _, _, _, _ => False
  | n + 1, t_found, t_foundMany, t_kept, t_keptMany, t_keptLetters, t_made, t_cutAt, t_wanted, t_isDone, t_child, t_isFull, x1, x3, x4 => ((7 ≤ x4) → VX11_computeClosure_126 post K78 t_letters t_images t_imageSizes t_found t_foundMany t_kept t_keptMany t_keptLetters t_made t_cutAt t_wanted t_isDone t_child t_isFull x1) ∧ (¬ (7 ≤ x4) → vp_in (((7 : Int32) * x3) + x4) 1407 ∧ (∀ y_21 : Int32, y_21 = (t_found (((7 : Int32) * x3) + x4).toNatClampNeg) → vp_in x4 7 ∧ (VX11_computeClosure_94 post K78 t_letters t_images t_imageSizes n t_found t_foundMany t_kept t_keptMany t_keptLetters t_made t_cutAt t_wanted t_isDone (upd t_child x4.toNatClampNeg y_21) t_isFull x1 x3 (x4 + 1))))
def VX11_computeClosure_168 (post : Int32 → (Nat → Int32) → Int32 → (Nat → Int32) → Int32 → Int32 → (Nat → Int32) → (Nat → Int32) → (Nat → Int32) → (Nat → Int32) → (Nat → Int32) → Int32 → Prop)  (t_letters : Int32) (t_images : Nat → Int32) (t_imageSizes : Nat → Int32) : Nat → (Nat → Int32) → Int32 → (Nat → Int32) → Int32 → Int32 → (Nat → Int32) → (Nat → Int32) → (Nat → Int32) → (Nat → Int32) → (Nat → Int32) → Int32 → Int32 → Prop
  | 0, _, _, _, _, _, _, _, _, _, _, _, _ => False
  | n + 1, t_found, t_foundMany, t_kept, t_keptMany, t_keptLetters, t_made, t_cutAt, t_wanted, t_isDone, t_child, t_isFull, x4 => ((((7 : Int32) * t_foundMany) ≤ x4) → post t_keptMany t_found t_foundMany t_kept t_keptMany t_keptLetters t_made t_cutAt t_wanted t_isDone t_child t_isFull) ∧ (¬ (((7 : Int32) * t_foundMany) ≤ x4) → vp_in x4 1407 ∧ (vp_in x4 1400 ∧ (VX11_computeClosure_168 post t_letters t_images t_imageSizes n t_found t_foundMany (upd t_kept x4.toNatClampNeg (t_found x4.toNatClampNeg)) t_keptMany t_keptLetters t_made t_cutAt t_wanted t_isDone t_child t_isFull (x4 + 1))))
def VX11_computeClosure_149 (post : Int32 → (Nat → Int32) → Int32 → (Nat → Int32) → Int32 → Int32 → (Nat → Int32) → (Nat → Int32) → (Nat → Int32) → (Nat → Int32) → (Nat → Int32) → Int32 → Prop)  (t_letters : Int32) (t_images : Nat → Int32) (t_imageSizes : Nat → Int32) (t_found : Nat → Int32) (t_foundMany : Int32) (t_kept : Nat → Int32) (t_keptMany : Int32) (t_keptLetters : Int32) (t_made : Nat → Int32) (t_cutAt : Nat → Int32) (t_wanted : Nat → Int32) (t_isDone : Nat → Int32) (t_child : Nat → Int32) (t_isFull : Int32) : Prop := ∃ n168 : Nat, VX11_computeClosure_168 post t_letters t_images t_imageSizes n168 t_found t_foundMany t_kept t_foundMany t_letters t_made t_cutAt t_wanted t_isDone t_child t_isFull 0
def VX11_computeClosure_78 (post : Int32 → (Nat → Int32) → Int32 → (Nat → Int32) → Int32 → Int32 → (Nat → Int32) → (Nat → Int32) → (Nat → Int32) → (Nat → Int32) → (Nat → Int32) → Int32 → Prop)  (t_letters : Int32) (t_images : Nat → Int32) (t_imageSizes : Nat → Int32) : Nat → (Nat → Int32) → Int32 → (Nat → Int32) → Int32 → Int32 → (Nat → Int32) → (Nat → Int32) → (Nat → Int32) → (Nat → Int32) → (Nat → Int32) → Int32 → Int64 → Int32 → Prop
  | 0, _, _, _, _, _, _, _, _, _, _, _, _, _ => False
  | n + 1, t_found, t_foundMany, t_kept, t_keptMany, t_keptLetters, t_made, t_cutAt, t_wanted, t_isDone, t_child, t_isFull, x1, x3 => ((x3 = (-2)) → VX11_computeClosure_149 post t_letters t_images t_imageSizes t_found t_foundMany t_kept t_keptMany t_keptLetters t_made t_cutAt t_wanted t_isDone t_child t_isFull) ∧ (¬ (x3 = (-2)) → vp_in x3 201 ∧ (∃ n94 : Nat, VX11_computeClosure_94 post (fun t_found t_foundMany t_kept t_keptMany t_keptLetters t_made t_cutAt t_wanted t_isDone t_child t_isFull x1 x3 => VX11_computeClosure_78 post t_letters t_images t_imageSizes n t_found t_foundMany t_kept t_keptMany t_keptLetters t_made t_cutAt t_wanted t_isDone t_child t_isFull x1 x3) t_letters t_images t_imageSizes n94 t_found t_foundMany t_kept t_keptMany t_keptLetters t_made t_cutAt t_wanted (upd t_isDone x3.toNatClampNeg (vp_nar .boolean (1 : Int32))) t_child t_isFull x1 x3 0))
def VX11_computeClosure_66 (post : Int32 → (Nat → Int32) → Int32 → (Nat → Int32) → Int32 → Int32 → (Nat → Int32) → (Nat → Int32) → (Nat → Int32) → (Nat → Int32) → (Nat → Int32) → Int32 → Prop)  (t_letters : Int32) (t_images : Nat → Int32) (t_imageSizes : Nat → Int32) (t_found : Nat → Int32) (t_foundMany : Int32) (t_kept : Nat → Int32) (t_keptMany : Int32) (t_keptLetters : Int32) (t_made : Nat → Int32) (t_cutAt : Nat → Int32) (t_wanted : Nat → Int32) (t_isDone : Nat → Int32) (t_child : Nat → Int32) (t_isFull : Int32) (x1 : Int64) : Prop := VX11_enter (fun r_12 u_13 u_14 => vp_in r_12 201 ∧ (∃ n78 : Nat, VX11_computeClosure_78 post t_letters t_images t_imageSizes n78 u_13 u_14 t_kept t_keptMany t_keptLetters t_made t_cutAt t_wanted (upd t_isDone r_12.toNatClampNeg (vp_nar .boolean (0 : Int32))) t_child t_isFull x1 0)) t_made t_found t_foundMany
def VX11_computeClosure_38 (post : Int32 → (Nat → Int32) → Int32 → (Nat → Int32) → Int32 → Int32 → (Nat → Int32) → (Nat → Int32) → (Nat → Int32) → (Nat → Int32) → (Nat → Int32) → Int32 → Prop)  (t_letters : Int32) (t_images : Nat → Int32) (t_imageSizes : Nat → Int32) : Nat → (Nat → Int32) → Int32 → (Nat → Int32) → Int32 → Int32 → (Nat → Int32) → (Nat → Int32) → (Nat → Int32) → (Nat → Int32) → (Nat → Int32) → Int32 → Int64 → Int32 → Prop
  | 0, _, _, _, _, _, _, _, _, _, _, _, _, _ => False
  | n + 1, t_found, t_foundMany, t_kept, t_keptMany, t_keptLetters, t_made, t_cutAt, t_wanted, t_isDone, t_child, t_isFull, x1, x3 => ((7 ≤ x3) → VX11_computeClosure_66 post t_letters t_images t_imageSizes t_found t_foundMany t_kept t_keptMany t_keptLetters t_made t_cutAt t_wanted t_isDone t_child t_isFull x1) ∧ (¬ (7 ≤ x3) → ((3 ≤ x3) → vp_in x3 7 ∧ (VX11_computeClosure_38 post t_letters t_images t_imageSizes n t_found t_foundMany t_kept t_keptMany t_keptLetters (upd t_made x3.toNatClampNeg 0) t_cutAt t_wanted t_isDone t_child t_isFull x1 (x3 + 1))) ∧ (¬ (3 ≤ x3) → vp_in x3 7 ∧ (VX11_computeClosure_38 post t_letters t_images t_imageSizes n t_found t_foundMany t_kept t_keptMany t_keptLetters (upd t_made x3.toNatClampNeg (-1)) t_cutAt t_wanted t_isDone t_child t_isFull x1 (x3 + 1))))
def VX11_computeClosure (post : Int32 → (Nat → Int32) → Int32 → (Nat → Int32) → Int32 → Int32 → (Nat → Int32) → (Nat → Int32) → (Nat → Int32) → (Nat → Int32) → (Nat → Int32) → Int32 → Prop)  (t_letters : Int32) (t_images : Nat → Int32) (t_imageSizes : Nat → Int32) (t_found : Nat → Int32) (t_foundMany : Int32) (t_kept : Nat → Int32) (t_keptMany : Int32) (t_keptLetters : Int32) (t_made : Nat → Int32) (t_cutAt : Nat → Int32) (t_wanted : Nat → Int32) (t_isDone : Nat → Int32) (t_child : Nat → Int32) (t_isFull : Int32) : Prop := VX11_isMissing (fun r_1 => ((r_1 = 0) → VX11_minor t_letters t_images t_imageSizes 8 (fun r_2 => (¬ ((lg_cmp r_2 (0 : Int64)) = 0) → ∃ n38 : Nat, VX11_computeClosure_38 post t_letters t_images t_imageSizes n38 t_found 0 t_kept t_keptMany t_keptLetters t_made t_cutAt t_wanted t_isDone t_child 0 r_2 0) ∧ (((lg_cmp r_2 (0 : Int64)) = 0) → post (-8 : Int32) t_found t_foundMany t_kept t_keptMany t_keptLetters t_made t_cutAt t_wanted t_isDone t_child t_isFull)) 0 0) ∧ (¬ (r_1 = 0) → post (-6 : Int32) t_found t_foundMany t_kept t_keptMany t_keptLetters t_made t_cutAt t_wanted t_isDone t_child t_isFull)) t_letters t_imageSizes
set_option maxHeartbeats 4000000 in
set_option maxRecDepth 100000 in
theorem wX11_computeClosure_126 {p : Program} (l : Launch) {e : Env} {s : State} {m : MethodId} {args : Array Value} {below : List Frame} {meth : Method} {c : Code} {dC : Nat → ClassId} {dI : Nat → Nat → Nat} {cy : Nat → ClassId} {A : Nat → Prop} (h : Nat → Nat) (post : Int32 → (Nat → Int32) → Int32 → (Nat → Int32) → Int32 → Int32 → (Nat → Int32) → (Nat → Int32) → (Nat → Int32) → (Nat → Int32) → (Nat → Int32) → Int32 → Prop) (K78 : (Nat → Int32) → Int32 → (Nat → Int32) → Int32 → Int32 → (Nat → Int32) → (Nat → Int32) → (Nat → Int32) → (Nat → Int32) → (Nat → Int32) → Int32 → Int64 → Int32 → Prop)  (t_kind : Int32) (t_exponent : Int32) (t_letters : Int32) (t_images : Nat → Int32) (t_imageSizes : Nat → Int32) (t_fed : Int32) (t_at : Int32) (t_rowSize : Int32) (t_steps : Int32) (t_isSaved : Int32) (t_savedKind : Int32) (t_savedExponent : Int32) (t_savedLetters : Int32)  (C0 : cx p s m args meth c cX11_computeClosure 5 (some .int) wsX11_computeClosure RX11 dC dI cy A) (hK78 : ∀ (t_found : Nat → Int32) (t_foundMany : Int32) (t_kept : Nat → Int32) (t_keptMany : Int32) (t_keptLetters : Int32) (t_made : Nat → Int32) (t_cutAt : Nat → Int32) (t_wanted : Nat → Int32) (t_isDone : Nat → Int32) (t_child : Nat → Int32) (t_isFull : Int32) (x1 : Int64) (x3 : Int32), K78 t_found t_foundMany t_kept t_keptMany t_keptLetters t_made t_cutAt t_wanted t_isDone t_child t_isFull x1 x3 → ∀ (H : Heap) (locs : List Loc) (ls : Array Slot), va_P (dC, dI) vwCl (pX11_computeClosure cy h t_kind t_exponent t_letters t_images t_imageSizes t_fed t_at t_rowSize t_steps t_found t_foundMany t_kept t_keptMany t_keptLetters t_made t_cutAt t_wanted t_isDone t_child t_isFull t_isSaved t_savedKind t_savedExponent t_savedLetters) H → va_D A (pX11_computeClosure cy h t_kind t_exponent t_letters t_images t_imageSizes t_fed t_at t_rowSize t_steps t_found t_foundMany t_kept t_keptMany t_keptLetters t_made t_cutAt t_wanted t_isDone t_child t_isFull t_isSaved t_savedKind t_savedExponent t_savedLetters) → va_S A s.heap H locs → lv_has ls 5 [(0, .ref (h 0)), (1, .long x1), (3, .int x3)] → W p l e rX11_computeClosure s m args below meth c H locs 0 0 (MQ below (va_Qi (fun (r : Int32) (u : (Nat → Int32) × Int32 × (Nat → Int32) × Int32 × Int32 × (Nat → Int32) × (Nat → Int32) × (Nat → Int32) × (Nat → Int32) × (Nat → Int32) × Int32) => post r u.1 u.2.1 u.2.2.1 u.2.2.2.1 u.2.2.2.2.1 u.2.2.2.2.2.1 u.2.2.2.2.2.2.1 u.2.2.2.2.2.2.2.1 u.2.2.2.2.2.2.2.2.1 u.2.2.2.2.2.2.2.2.2.1 u.2.2.2.2.2.2.2.2.2.2) (fun (u : (Nat → Int32) × Int32 × (Nat → Int32) × Int32 × Int32 × (Nat → Int32) × (Nat → Int32) × (Nat → Int32) × (Nat → Int32) × (Nat → Int32) × Int32) (t : State) => va_P (dC, dI) vwCl (pX11_computeClosure cy h t_kind t_exponent t_letters t_images t_imageSizes t_fed t_at t_rowSize t_steps u.1 u.2.1 u.2.2.1 u.2.2.2.1 u.2.2.2.2.1 u.2.2.2.2.2.1 u.2.2.2.2.2.2.1 u.2.2.2.2.2.2.2.1 u.2.2.2.2.2.2.2.2.1 u.2.2.2.2.2.2.2.2.2.1 u.2.2.2.2.2.2.2.2.2.2 t_isSaved t_savedKind t_savedExponent t_savedLetters) t.heap) A) args s 0 0 A) (F0 m 78 ls [])) : ∀ (t_found : Nat → Int32) (t_foundMany : Int32) (t_kept : Nat → Int32) (t_keptMany : Int32) (t_keptLetters : Int32) (t_made : Nat → Int32) (t_cutAt : Nat → Int32) (t_wanted : Nat → Int32) (t_isDone : Nat → Int32) (t_child : Nat → Int32) (t_isFull : Int32) (x1 : Int64), VX11_computeClosure_126 post K78 t_letters t_images t_imageSizes t_found t_foundMany t_kept t_keptMany t_keptLetters t_made t_cutAt t_wanted t_isDone t_child t_isFull x1 → ∀ (H : Heap) (locs : List Loc) (ls : Array Slot), va_P (dC, dI) vwCl (pX11_computeClosure cy h t_kind t_exponent t_letters t_images t_imageSizes t_fed t_at t_rowSize t_steps t_found t_foundMany t_kept t_keptMany t_keptLetters t_made t_cutAt t_wanted t_isDone t_child t_isFull t_isSaved t_savedKind t_savedExponent t_savedLetters) H → va_D A (pX11_computeClosure cy h t_kind t_exponent t_letters t_images t_imageSizes t_fed t_at t_rowSize t_steps t_found t_foundMany t_kept t_keptMany t_keptLetters t_made t_cutAt t_wanted t_isDone t_child t_isFull t_isSaved t_savedKind t_savedExponent t_savedLetters) → va_S A s.heap H locs → lv_has ls 5 [(0, .ref (h 0)), (1, .long x1)] → W p l e rX11_computeClosure s m args below meth c H locs 0 0 (MQ below (va_Qi (fun (r : Int32) (u : (Nat → Int32) × Int32 × (Nat → Int32) × Int32 × Int32 × (Nat → Int32) × (Nat → Int32) × (Nat → Int32) × (Nat → Int32) × (Nat → Int32) × Int32) => post r u.1 u.2.1 u.2.2.1 u.2.2.2.1 u.2.2.2.2.1 u.2.2.2.2.2.1 u.2.2.2.2.2.2.1 u.2.2.2.2.2.2.2.1 u.2.2.2.2.2.2.2.2.1 u.2.2.2.2.2.2.2.2.2.1 u.2.2.2.2.2.2.2.2.2.2) (fun (u : (Nat → Int32) × Int32 × (Nat → Int32) × Int32 × Int32 × (Nat → Int32) × (Nat → Int32) × (Nat → Int32) × (Nat → Int32) × (Nat → Int32) × Int32) (t : State) => va_P (dC, dI) vwCl (pX11_computeClosure cy h t_kind t_exponent t_letters t_images t_imageSizes t_fed t_at t_rowSize t_steps u.1 u.2.1 u.2.2.1 u.2.2.2.1 u.2.2.2.2.1 u.2.2.2.2.2.1 u.2.2.2.2.2.2.1 u.2.2.2.2.2.2.2.1 u.2.2.2.2.2.2.2.2.1 u.2.2.2.2.2.2.2.2.2.1 u.2.2.2.2.2.2.2.2.2.2 t_isSaved t_savedKind t_savedExponent t_savedLetters) t.heap) A) args s 0 0 A) (F0 m 126 ls []) := by
  have C1 := C0
  obtain ⟨hx, hb, hr, hml, hown, hts, hlocks, hK, hA⟩ := C1
  intro t_found t_foundMany t_kept t_keptMany t_keptLetters t_made t_cutAt t_wanted t_isDone t_child t_isFull x1 hv H locs ls hP hD hS hl
  refine lv_aload_n hx hb dX11_computeClosure_126 rfl (lv_at hl 0 rfl) ?_
  refine lv_lload_n hx hb dX11_computeClosure_127 rfl (lv_at hl 1 rfl) ?_
  refine cb_VV (As := [.long x1]) (rest := []) ⟨hx, hb, hml, hown, hts⟩ (kX11_findParents l dC dI cy (adl [h 0, h 1, h 2, h 3, h 5, h 6, h 7, h 8, h 9, h 10, h 11, h 12, h 13, h 14, h 4, h 15, h 16, h 17, h 18, h 19, h 20, h 21]) t_kind t_exponent t_letters t_images t_imageSizes t_fed t_at t_rowSize t_steps t_found t_foundMany t_keptMany t_keptLetters t_made t_cutAt t_wanted t_isDone t_child t_isFull t_isSaved t_savedKind t_savedExponent t_savedLetters x1 _ hv) (cwV 1 hts gX11_computeClosure_X11_findParents rfl rfl rfl zX11_findParents ⟨Nat.le_of_ble_eq_true rfl, Nat.le_of_ble_eq_true rfl⟩) hK hP hD hS hA [0, 1, 2, 3, 5, 6, 7, 8, 9] [some 0, some 1, some 2, some 3, none, some 4, some 5, some 6, some 7, some 8] rfl rfl rfl (ci := 11) rfl rfl (fun _ => rfl) rfl hl.1 rfl (Nat.le_of_ble_eq_true rfl) dX11_computeClosure_128 (fun w_35 H locs hv hP hD hS => ?_)
  obtain ⟨u_25, u_26, u_27, u_28, u_29, u_30, u_31⟩ := w_35
  have hP : va_P (dC, dI) vwCl (pX11_computeClosure cy h t_kind t_exponent t_letters t_images t_imageSizes t_fed t_at t_rowSize t_steps u_25 u_26 t_kept t_keptMany t_keptLetters u_27 u_28 u_29 u_30 t_child u_31 t_isSaved t_savedKind t_savedExponent t_savedLetters) H := hP
  have hD : va_D A (pX11_computeClosure cy h t_kind t_exponent t_letters t_images t_imageSizes t_fed t_at t_rowSize t_steps u_25 u_26 t_kept t_keptMany t_keptLetters u_27 u_28 u_29 u_30 t_child u_31 t_isSaved t_savedKind t_savedExponent t_savedLetters) := hD
  refine lv_aload_n hx hb dX11_computeClosure_131 rfl (lv_at hl 0 rfl) ?_
  refine va_get (D := (dC, dI)) (ci := 11) (v := .int u_31) (C := RX11) (T := TX11) (N := 36) hx hb hts nX11_computeClosure_X11 hown hK hP 0 rfl rfl 24 (by decide) (hts _ mX11_computeClosure_2) (fun _ h9 => h9) rfl dX11_computeClosure_132 ?_
  refine lv_if_eq (tgt := 141) hx hb dX11_computeClosure_135 (by decide) (fun c_34 => ?_) (fun c_34 => ?_)
  · have hv := hv.1 c_34
    refine lv_aload_n hx hb dX11_computeClosure_141 rfl (lv_at hl 0 rfl) ?_
    refine cb_VI (As := []) (rest := []) ⟨hx, hb, hml, hown, hts⟩ (kX11_firstOpen l dC dI cy (adl [h 0, h 8, h 10, h 11, h 12, h 1, h 2, h 13, h 14, h 3, h 4, h 5, h 6, h 7, h 9, h 15, h 16, h 17, h 18, h 19, h 20, h 21]) t_kind t_exponent t_letters t_fed t_at t_rowSize t_steps u_26 t_keptMany t_keptLetters u_30 u_31 t_isSaved t_savedKind t_savedExponent t_savedLetters _ hv) (cwV 0 hts gX11_computeClosure_X11_firstOpen rfl rfl rfl zX11_firstOpen ⟨Nat.le_of_ble_eq_true rfl, Nat.le_of_ble_eq_true rfl⟩) hK hP hD hS hA [0, 8] [some 0, none, none, none, none, none, none, none, some 1, none] rfl rfl rfl (ci := 11) rfl rfl (fun _ => rfl) rfl hl.1 rfl (Nat.le_of_ble_eq_true rfl) dX11_computeClosure_142 (fun r_32 w_33 H locs hv hP hD hS => ?_)
    have hP : va_P (dC, dI) vwCl (pX11_computeClosure cy h t_kind t_exponent t_letters t_images t_imageSizes t_fed t_at t_rowSize t_steps u_25 u_26 t_kept t_keptMany t_keptLetters u_27 u_28 u_29 u_30 t_child u_31 t_isSaved t_savedKind t_savedExponent t_savedLetters) H := hP
    have hD : va_D A (pX11_computeClosure cy h t_kind t_exponent t_letters t_images t_imageSizes t_fed t_at t_rowSize t_steps u_25 u_26 t_kept t_keptMany t_keptLetters u_27 u_28 u_29 u_30 t_child u_31 t_isSaved t_savedKind t_savedExponent t_savedLetters) := hD
    refine lv_istore_n (lv' := [(3, .int r_32), (0, .ref (h 0)), (1, .long x1)]) hx hb dX11_computeClosure_145 rfl hl (by decide) rfl (fun ls hl => ?_)
    refine lv_goto (tgt := 78) hx hb dX11_computeClosure_146 (by decide) ?_
    exact hK78 u_25 u_26 t_kept t_keptMany t_keptLetters u_27 u_28 u_29 u_30 t_child u_31 x1 r_32 hv _ _ _ hP hD hS (lv_sub hl [1, 2, 0] rfl)
  · have hv := hv.2 c_34
    refine lv_bipush (v := (-4)) hx hb dX11_computeClosure_138 (by decide) ?_
    exact W.iret (v := (-4)) hx hb hr (fun t ht hW => ⟨⟨(-4), (u_25, u_26, t_kept, t_keptMany, t_keptLetters, u_27, u_28, u_29, u_30, t_child, u_31), rfl, hv, va_Ph ht hP⟩, hS.F ht⟩) hS.2.2 dX11_computeClosure_140
set_option maxHeartbeats 4000000 in
set_option maxRecDepth 100000 in
theorem wX11_computeClosure_94 {p : Program} (l : Launch) {e : Env} {s : State} {m : MethodId} {args : Array Value} {below : List Frame} {meth : Method} {c : Code} {dC : Nat → ClassId} {dI : Nat → Nat → Nat} {cy : Nat → ClassId} {A : Nat → Prop} (h : Nat → Nat) (post : Int32 → (Nat → Int32) → Int32 → (Nat → Int32) → Int32 → Int32 → (Nat → Int32) → (Nat → Int32) → (Nat → Int32) → (Nat → Int32) → (Nat → Int32) → Int32 → Prop) (K78 : (Nat → Int32) → Int32 → (Nat → Int32) → Int32 → Int32 → (Nat → Int32) → (Nat → Int32) → (Nat → Int32) → (Nat → Int32) → (Nat → Int32) → Int32 → Int64 → Int32 → Prop)  (t_kind : Int32) (t_exponent : Int32) (t_letters : Int32) (t_images : Nat → Int32) (t_imageSizes : Nat → Int32) (t_fed : Int32) (t_at : Int32) (t_rowSize : Int32) (t_steps : Int32) (t_isSaved : Int32) (t_savedKind : Int32) (t_savedExponent : Int32) (t_savedLetters : Int32)  (C0 : cx p s m args meth c cX11_computeClosure 5 (some .int) wsX11_computeClosure RX11 dC dI cy A) (hK78 : ∀ (t_found : Nat → Int32) (t_foundMany : Int32) (t_kept : Nat → Int32) (t_keptMany : Int32) (t_keptLetters : Int32) (t_made : Nat → Int32) (t_cutAt : Nat → Int32) (t_wanted : Nat → Int32) (t_isDone : Nat → Int32) (t_child : Nat → Int32) (t_isFull : Int32) (x1 : Int64) (x3 : Int32), K78 t_found t_foundMany t_kept t_keptMany t_keptLetters t_made t_cutAt t_wanted t_isDone t_child t_isFull x1 x3 → ∀ (H : Heap) (locs : List Loc) (ls : Array Slot), va_P (dC, dI) vwCl (pX11_computeClosure cy h t_kind t_exponent t_letters t_images t_imageSizes t_fed t_at t_rowSize t_steps t_found t_foundMany t_kept t_keptMany t_keptLetters t_made t_cutAt t_wanted t_isDone t_child t_isFull t_isSaved t_savedKind t_savedExponent t_savedLetters) H → va_D A (pX11_computeClosure cy h t_kind t_exponent t_letters t_images t_imageSizes t_fed t_at t_rowSize t_steps t_found t_foundMany t_kept t_keptMany t_keptLetters t_made t_cutAt t_wanted t_isDone t_child t_isFull t_isSaved t_savedKind t_savedExponent t_savedLetters) → va_S A s.heap H locs → lv_has ls 5 [(0, .ref (h 0)), (1, .long x1), (3, .int x3)] → W p l e rX11_computeClosure s m args below meth c H locs 0 0 (MQ below (va_Qi (fun (r : Int32) (u : (Nat → Int32) × Int32 × (Nat → Int32) × Int32 × Int32 × (Nat → Int32) × (Nat → Int32) × (Nat → Int32) × (Nat → Int32) × (Nat → Int32) × Int32) => post r u.1 u.2.1 u.2.2.1 u.2.2.2.1 u.2.2.2.2.1 u.2.2.2.2.2.1 u.2.2.2.2.2.2.1 u.2.2.2.2.2.2.2.1 u.2.2.2.2.2.2.2.2.1 u.2.2.2.2.2.2.2.2.2.1 u.2.2.2.2.2.2.2.2.2.2) (fun (u : (Nat → Int32) × Int32 × (Nat → Int32) × Int32 × Int32 × (Nat → Int32) × (Nat → Int32) × (Nat → Int32) × (Nat → Int32) × (Nat → Int32) × Int32) (t : State) => va_P (dC, dI) vwCl (pX11_computeClosure cy h t_kind t_exponent t_letters t_images t_imageSizes t_fed t_at t_rowSize t_steps u.1 u.2.1 u.2.2.1 u.2.2.2.1 u.2.2.2.2.1 u.2.2.2.2.2.1 u.2.2.2.2.2.2.1 u.2.2.2.2.2.2.2.1 u.2.2.2.2.2.2.2.2.1 u.2.2.2.2.2.2.2.2.2.1 u.2.2.2.2.2.2.2.2.2.2 t_isSaved t_savedKind t_savedExponent t_savedLetters) t.heap) A) args s 0 0 A) (F0 m 78 ls [])) : ∀ (n : Nat) (t_found : Nat → Int32) (t_foundMany : Int32) (t_kept : Nat → Int32) (t_keptMany : Int32) (t_keptLetters : Int32) (t_made : Nat → Int32) (t_cutAt : Nat → Int32) (t_wanted : Nat → Int32) (t_isDone : Nat → Int32) (t_child : Nat → Int32) (t_isFull : Int32) (x1 : Int64) (x3 : Int32) (x4 : Int32), VX11_computeClosure_94 post K78 t_letters t_images t_imageSizes n t_found t_foundMany t_kept t_keptMany t_keptLetters t_made t_cutAt t_wanted t_isDone t_child t_isFull x1 x3 x4 → ∀ (H : Heap) (locs : List Loc) (ls : Array Slot), va_P (dC, dI) vwCl (pX11_computeClosure cy h t_kind t_exponent t_letters t_images t_imageSizes t_fed t_at t_rowSize t_steps t_found t_foundMany t_kept t_keptMany t_keptLetters t_made t_cutAt t_wanted t_isDone t_child t_isFull t_isSaved t_savedKind t_savedExponent t_savedLetters) H → va_D A (pX11_computeClosure cy h t_kind t_exponent t_letters t_images t_imageSizes t_fed t_at t_rowSize t_steps t_found t_foundMany t_kept t_keptMany t_keptLetters t_made t_cutAt t_wanted t_isDone t_child t_isFull t_isSaved t_savedKind t_savedExponent t_savedLetters) → va_S A s.heap H locs → lv_has ls 5 [(0, .ref (h 0)), (1, .long x1), (3, .int x3), (4, .int x4)] → W p l e rX11_computeClosure s m args below meth c H locs 0 0 (MQ below (va_Qi (fun (r : Int32) (u : (Nat → Int32) × Int32 × (Nat → Int32) × Int32 × Int32 × (Nat → Int32) × (Nat → Int32) × (Nat → Int32) × (Nat → Int32) × (Nat → Int32) × Int32) => post r u.1 u.2.1 u.2.2.1 u.2.2.2.1 u.2.2.2.2.1 u.2.2.2.2.2.1 u.2.2.2.2.2.2.1 u.2.2.2.2.2.2.2.1 u.2.2.2.2.2.2.2.2.1 u.2.2.2.2.2.2.2.2.2.1 u.2.2.2.2.2.2.2.2.2.2) (fun (u : (Nat → Int32) × Int32 × (Nat → Int32) × Int32 × Int32 × (Nat → Int32) × (Nat → Int32) × (Nat → Int32) × (Nat → Int32) × (Nat → Int32) × Int32) (t : State) => va_P (dC, dI) vwCl (pX11_computeClosure cy h t_kind t_exponent t_letters t_images t_imageSizes t_fed t_at t_rowSize t_steps u.1 u.2.1 u.2.2.1 u.2.2.2.1 u.2.2.2.2.1 u.2.2.2.2.2.1 u.2.2.2.2.2.2.1 u.2.2.2.2.2.2.2.1 u.2.2.2.2.2.2.2.2.1 u.2.2.2.2.2.2.2.2.2.1 u.2.2.2.2.2.2.2.2.2.2 t_isSaved t_savedKind t_savedExponent t_savedLetters) t.heap) A) args s 0 0 A) (F0 m 94 ls []) := by
  have C1 := C0
  obtain ⟨hx, hb, hr, hml, hown, hts, hlocks, hK, hA⟩ := C1
  intro n
  induction n with
  | zero => intro t_found t_foundMany t_kept t_keptMany t_keptLetters t_made t_cutAt t_wanted t_isDone t_child t_isFull x1 x3 x4 hv; exact hv.elim
  | succ n ih =>
    intro t_found t_foundMany t_kept t_keptMany t_keptLetters t_made t_cutAt t_wanted t_isDone t_child t_isFull x1 x3 x4 hv H locs ls hP hD hS hl
    refine lv_iload hx hb dX11_computeClosure_94 (lv_at hl 3 rfl) ?_
    refine lv_bipush (v := 7) hx hb dX11_computeClosure_96 (by decide) ?_
    refine lv_icmp_ge (tgt := 126) hx hb dX11_computeClosure_98 (by decide) (fun c_24 => ?_) (fun c_24 => ?_)
    · have hv := hv.1 c_24
      exact wX11_computeClosure_126 l h post K78  t_kind t_exponent t_letters t_images t_imageSizes t_fed t_at t_rowSize t_steps t_isSaved t_savedKind t_savedExponent t_savedLetters C0 hK78 t_found t_foundMany t_kept t_keptMany t_keptLetters t_made t_cutAt t_wanted t_isDone t_child t_isFull x1 hv _ _ _ hP hD hS (lv_sub hl [0, 1] rfl)
    · have hv := hv.2 c_24
      refine lv_aload_n hx hb dX11_computeClosure_101 rfl (lv_at hl 0 rfl) ?_
      refine va_get (D := (dC, dI)) (ci := 11) (v := .ref (h 9)) (C := RX11) (T := TX11) (N := 36) hx hb hts nX11_computeClosure_X11 hown hK hP 0 rfl rfl 23 (by decide) (hts _ mX11_computeClosure_5) (fun _ h9 => h9) rfl dX11_computeClosure_102 ?_
      refine lv_iload hx hb dX11_computeClosure_105 (lv_at hl 3 rfl) ?_
      refine lv_aload_n hx hb dX11_computeClosure_107 rfl (lv_at hl 0 rfl) ?_
      refine va_get (D := (dC, dI)) (ci := 11) (v := .ref (h 3)) (C := RX11) (T := TX11) (N := 36) hx hb hts nX11_computeClosure_X11 hown hK hP 0 rfl rfl 14 (by decide) (hts _ mX11_computeClosure_6) (fun _ h9 => h9) rfl dX11_computeClosure_108 ?_
      refine lv_bipush (v := 7) hx hb dX11_computeClosure_111 (by decide) ?_
      refine lv_iload_n hx hb dX11_computeClosure_113 rfl (lv_at hl 2 rfl) ?_
      refine lv_imul hx hb dX11_computeClosure_114 ?_
      refine lv_iload hx hb dX11_computeClosure_115 (lv_at hl 3 rfl) ?_
      refine lv_iadd hx hb dX11_computeClosure_117 ?_
      have h_22 := hv.1
      have hv := hv.2
      refine va_iald hx hb hK hP 3 0 rfl rfl h_22 dX11_computeClosure_118 ?_
      refine lv_topi (fun y_21 ey_21 => ?_)
      have hv := hv y_21 ey_21
      have h_23 := hv.1
      have hv := hv.2
      refine va_iast hx hb hK hP hD hS 9 0 rfl rfl h_23 dX11_computeClosure_119 (fun H locs hP hD hS => ?_)
      have hP : va_P (dC, dI) vwCl (pX11_computeClosure cy h t_kind t_exponent t_letters t_images t_imageSizes t_fed t_at t_rowSize t_steps t_found t_foundMany t_kept t_keptMany t_keptLetters t_made t_cutAt t_wanted t_isDone (upd t_child x4.toNatClampNeg y_21) t_isFull t_isSaved t_savedKind t_savedExponent t_savedLetters) H := hP
      have hD : va_D A (pX11_computeClosure cy h t_kind t_exponent t_letters t_images t_imageSizes t_fed t_at t_rowSize t_steps t_found t_foundMany t_kept t_keptMany t_keptLetters t_made t_cutAt t_wanted t_isDone (upd t_child x4.toNatClampNeg y_21) t_isFull t_isSaved t_savedKind t_savedExponent t_savedLetters) := hD
      refine lv_iinc (v := (x4 + 1)) (lv' := [(4, .int ((x4 + 1))), (0, .ref (h 0)), (1, .long x1), (3, .int x3)]) hx hb dX11_computeClosure_120 hl (k := 3) rfl rfl (by decide) rfl (fun ls hl => ?_)
      refine lv_goto (tgt := 94) hx hb dX11_computeClosure_123 (by decide) ?_
      exact ih t_found t_foundMany t_kept t_keptMany t_keptLetters t_made t_cutAt t_wanted t_isDone (upd t_child x4.toNatClampNeg y_21) t_isFull x1 x3 (x4 + 1) hv _ _ _ hP hD hS (lv_sub hl [1, 2, 3, 0] rfl)
set_option maxHeartbeats 4000000 in
set_option maxRecDepth 100000 in
theorem wX11_computeClosure_168 {p : Program} (l : Launch) {e : Env} {s : State} {m : MethodId} {args : Array Value} {below : List Frame} {meth : Method} {c : Code} {dC : Nat → ClassId} {dI : Nat → Nat → Nat} {cy : Nat → ClassId} {A : Nat → Prop} (h : Nat → Nat) (post : Int32 → (Nat → Int32) → Int32 → (Nat → Int32) → Int32 → Int32 → (Nat → Int32) → (Nat → Int32) → (Nat → Int32) → (Nat → Int32) → (Nat → Int32) → Int32 → Prop)   (t_kind : Int32) (t_exponent : Int32) (t_letters : Int32) (t_images : Nat → Int32) (t_imageSizes : Nat → Int32) (t_fed : Int32) (t_at : Int32) (t_rowSize : Int32) (t_steps : Int32) (t_isSaved : Int32) (t_savedKind : Int32) (t_savedExponent : Int32) (t_savedLetters : Int32)  (C0 : cx p s m args meth c cX11_computeClosure 5 (some .int) wsX11_computeClosure RX11 dC dI cy A)  : ∀ (n : Nat) (t_found : Nat → Int32) (t_foundMany : Int32) (t_kept : Nat → Int32) (t_keptMany : Int32) (t_keptLetters : Int32) (t_made : Nat → Int32) (t_cutAt : Nat → Int32) (t_wanted : Nat → Int32) (t_isDone : Nat → Int32) (t_child : Nat → Int32) (t_isFull : Int32) (x4 : Int32), VX11_computeClosure_168 post t_letters t_images t_imageSizes n t_found t_foundMany t_kept t_keptMany t_keptLetters t_made t_cutAt t_wanted t_isDone t_child t_isFull x4 → ∀ (H : Heap) (locs : List Loc) (ls : Array Slot), va_P (dC, dI) vwCl (pX11_computeClosure cy h t_kind t_exponent t_letters t_images t_imageSizes t_fed t_at t_rowSize t_steps t_found t_foundMany t_kept t_keptMany t_keptLetters t_made t_cutAt t_wanted t_isDone t_child t_isFull t_isSaved t_savedKind t_savedExponent t_savedLetters) H → va_D A (pX11_computeClosure cy h t_kind t_exponent t_letters t_images t_imageSizes t_fed t_at t_rowSize t_steps t_found t_foundMany t_kept t_keptMany t_keptLetters t_made t_cutAt t_wanted t_isDone t_child t_isFull t_isSaved t_savedKind t_savedExponent t_savedLetters) → va_S A s.heap H locs → lv_has ls 5 [(0, .ref (h 0)), (4, .int x4)] → W p l e rX11_computeClosure s m args below meth c H locs 0 0 (MQ below (va_Qi (fun (r : Int32) (u : (Nat → Int32) × Int32 × (Nat → Int32) × Int32 × Int32 × (Nat → Int32) × (Nat → Int32) × (Nat → Int32) × (Nat → Int32) × (Nat → Int32) × Int32) => post r u.1 u.2.1 u.2.2.1 u.2.2.2.1 u.2.2.2.2.1 u.2.2.2.2.2.1 u.2.2.2.2.2.2.1 u.2.2.2.2.2.2.2.1 u.2.2.2.2.2.2.2.2.1 u.2.2.2.2.2.2.2.2.2.1 u.2.2.2.2.2.2.2.2.2.2) (fun (u : (Nat → Int32) × Int32 × (Nat → Int32) × Int32 × Int32 × (Nat → Int32) × (Nat → Int32) × (Nat → Int32) × (Nat → Int32) × (Nat → Int32) × Int32) (t : State) => va_P (dC, dI) vwCl (pX11_computeClosure cy h t_kind t_exponent t_letters t_images t_imageSizes t_fed t_at t_rowSize t_steps u.1 u.2.1 u.2.2.1 u.2.2.2.1 u.2.2.2.2.1 u.2.2.2.2.2.1 u.2.2.2.2.2.2.1 u.2.2.2.2.2.2.2.1 u.2.2.2.2.2.2.2.2.1 u.2.2.2.2.2.2.2.2.2.1 u.2.2.2.2.2.2.2.2.2.2 t_isSaved t_savedKind t_savedExponent t_savedLetters) t.heap) A) args s 0 0 A) (F0 m 168 ls []) := by
  have C1 := C0
  obtain ⟨hx, hb, hr, hml, hown, hts, hlocks, hK, hA⟩ := C1
  intro n
  induction n with
  | zero => intro t_found t_foundMany t_kept t_keptMany t_keptLetters t_made t_cutAt t_wanted t_isDone t_child t_isFull x4 hv; exact hv.elim
  | succ n ih =>
    intro t_found t_foundMany t_kept t_keptMany t_keptLetters t_made t_cutAt t_wanted t_isDone t_child t_isFull x4 hv H locs ls hP hD hS hl
    refine lv_iload hx hb dX11_computeClosure_168 (lv_at hl 1 rfl) ?_
    refine lv_bipush (v := 7) hx hb dX11_computeClosure_170 (by decide) ?_
    refine lv_aload_n hx hb dX11_computeClosure_172 rfl (lv_at hl 0 rfl) ?_
    refine va_get (D := (dC, dI)) (ci := 11) (v := .int t_foundMany) (C := RX11) (T := TX11) (N := 36) hx hb hts nX11_computeClosure_X11 hown hK hP 0 rfl rfl 15 (by decide) (hts _ mX11_computeClosure_1) (fun _ h9 => h9) rfl dX11_computeClosure_173 ?_
    refine lv_imul hx hb dX11_computeClosure_176 ?_
    refine lv_icmp_ge (tgt := 200) hx hb dX11_computeClosure_177 (by decide) (fun c_39 => ?_) (fun c_39 => ?_)
    · have hv := hv.1 c_39
      refine lv_aload_n hx hb dX11_computeClosure_200 rfl (lv_at hl 0 rfl) ?_
      refine va_get (D := (dC, dI)) (ci := 11) (v := .int t_keptMany) (C := RX11) (T := TX11) (N := 36) hx hb hts nX11_computeClosure_X11 hown hK hP 0 rfl rfl 17 (by decide) (hts _ mX11_computeClosure_7) (fun _ h9 => h9) rfl dX11_computeClosure_201 ?_
      exact W.iret (v := t_keptMany) hx hb hr (fun t ht hW => ⟨⟨t_keptMany, (t_found, t_foundMany, t_kept, t_keptMany, t_keptLetters, t_made, t_cutAt, t_wanted, t_isDone, t_child, t_isFull), rfl, hv, va_Ph ht hP⟩, hS.F ht⟩) hS.2.2 dX11_computeClosure_204
    · have hv := hv.2 c_39
      refine lv_aload_n hx hb dX11_computeClosure_180 rfl (lv_at hl 0 rfl) ?_
      refine va_get (D := (dC, dI)) (ci := 11) (v := .ref (h 4)) (C := RX11) (T := TX11) (N := 36) hx hb hts nX11_computeClosure_X11 hown hK hP 0 rfl rfl 16 (by decide) (hts _ mX11_computeClosure_10) (fun _ h9 => h9) rfl dX11_computeClosure_181 ?_
      refine lv_iload hx hb dX11_computeClosure_184 (lv_at hl 1 rfl) ?_
      refine lv_aload_n hx hb dX11_computeClosure_186 rfl (lv_at hl 0 rfl) ?_
      refine va_get (D := (dC, dI)) (ci := 11) (v := .ref (h 3)) (C := RX11) (T := TX11) (N := 36) hx hb hts nX11_computeClosure_X11 hown hK hP 0 rfl rfl 14 (by decide) (hts _ mX11_computeClosure_6) (fun _ h9 => h9) rfl dX11_computeClosure_187 ?_
      refine lv_iload hx hb dX11_computeClosure_190 (lv_at hl 1 rfl) ?_
      have h_37 := hv.1
      have hv := hv.2
      refine va_iald hx hb hK hP 3 0 rfl rfl h_37 dX11_computeClosure_192 ?_
      have h_38 := hv.1
      have hv := hv.2
      refine va_iast hx hb hK hP hD hS 4 0 rfl rfl h_38 dX11_computeClosure_193 (fun H locs hP hD hS => ?_)
      have hP : va_P (dC, dI) vwCl (pX11_computeClosure cy h t_kind t_exponent t_letters t_images t_imageSizes t_fed t_at t_rowSize t_steps t_found t_foundMany (upd t_kept x4.toNatClampNeg (t_found x4.toNatClampNeg)) t_keptMany t_keptLetters t_made t_cutAt t_wanted t_isDone t_child t_isFull t_isSaved t_savedKind t_savedExponent t_savedLetters) H := hP
      have hD : va_D A (pX11_computeClosure cy h t_kind t_exponent t_letters t_images t_imageSizes t_fed t_at t_rowSize t_steps t_found t_foundMany (upd t_kept x4.toNatClampNeg (t_found x4.toNatClampNeg)) t_keptMany t_keptLetters t_made t_cutAt t_wanted t_isDone t_child t_isFull t_isSaved t_savedKind t_savedExponent t_savedLetters) := hD
      refine lv_iinc (v := (x4 + 1)) (lv' := [(4, .int ((x4 + 1))), (0, .ref (h 0))]) hx hb dX11_computeClosure_194 hl (k := 1) rfl rfl (by decide) rfl (fun ls hl => ?_)
      refine lv_goto (tgt := 168) hx hb dX11_computeClosure_197 (by decide) ?_
      exact ih t_found t_foundMany (upd t_kept x4.toNatClampNeg (t_found x4.toNatClampNeg)) t_keptMany t_keptLetters t_made t_cutAt t_wanted t_isDone t_child t_isFull (x4 + 1) hv _ _ _ hP hD hS (lv_sub hl [1, 0] rfl)
set_option maxHeartbeats 4000000 in
set_option maxRecDepth 100000 in
theorem wX11_computeClosure_149 {p : Program} (l : Launch) {e : Env} {s : State} {m : MethodId} {args : Array Value} {below : List Frame} {meth : Method} {c : Code} {dC : Nat → ClassId} {dI : Nat → Nat → Nat} {cy : Nat → ClassId} {A : Nat → Prop} (h : Nat → Nat) (post : Int32 → (Nat → Int32) → Int32 → (Nat → Int32) → Int32 → Int32 → (Nat → Int32) → (Nat → Int32) → (Nat → Int32) → (Nat → Int32) → (Nat → Int32) → Int32 → Prop)   (t_kind : Int32) (t_exponent : Int32) (t_letters : Int32) (t_images : Nat → Int32) (t_imageSizes : Nat → Int32) (t_fed : Int32) (t_at : Int32) (t_rowSize : Int32) (t_steps : Int32) (t_isSaved : Int32) (t_savedKind : Int32) (t_savedExponent : Int32) (t_savedLetters : Int32)  (C0 : cx p s m args meth c cX11_computeClosure 5 (some .int) wsX11_computeClosure RX11 dC dI cy A)  : ∀ (t_found : Nat → Int32) (t_foundMany : Int32) (t_kept : Nat → Int32) (t_keptMany : Int32) (t_keptLetters : Int32) (t_made : Nat → Int32) (t_cutAt : Nat → Int32) (t_wanted : Nat → Int32) (t_isDone : Nat → Int32) (t_child : Nat → Int32) (t_isFull : Int32), VX11_computeClosure_149 post t_letters t_images t_imageSizes t_found t_foundMany t_kept t_keptMany t_keptLetters t_made t_cutAt t_wanted t_isDone t_child t_isFull → ∀ (H : Heap) (locs : List Loc) (ls : Array Slot), va_P (dC, dI) vwCl (pX11_computeClosure cy h t_kind t_exponent t_letters t_images t_imageSizes t_fed t_at t_rowSize t_steps t_found t_foundMany t_kept t_keptMany t_keptLetters t_made t_cutAt t_wanted t_isDone t_child t_isFull t_isSaved t_savedKind t_savedExponent t_savedLetters) H → va_D A (pX11_computeClosure cy h t_kind t_exponent t_letters t_images t_imageSizes t_fed t_at t_rowSize t_steps t_found t_foundMany t_kept t_keptMany t_keptLetters t_made t_cutAt t_wanted t_isDone t_child t_isFull t_isSaved t_savedKind t_savedExponent t_savedLetters) → va_S A s.heap H locs → lv_has ls 5 [(0, .ref (h 0))] → W p l e rX11_computeClosure s m args below meth c H locs 0 0 (MQ below (va_Qi (fun (r : Int32) (u : (Nat → Int32) × Int32 × (Nat → Int32) × Int32 × Int32 × (Nat → Int32) × (Nat → Int32) × (Nat → Int32) × (Nat → Int32) × (Nat → Int32) × Int32) => post r u.1 u.2.1 u.2.2.1 u.2.2.2.1 u.2.2.2.2.1 u.2.2.2.2.2.1 u.2.2.2.2.2.2.1 u.2.2.2.2.2.2.2.1 u.2.2.2.2.2.2.2.2.1 u.2.2.2.2.2.2.2.2.2.1 u.2.2.2.2.2.2.2.2.2.2) (fun (u : (Nat → Int32) × Int32 × (Nat → Int32) × Int32 × Int32 × (Nat → Int32) × (Nat → Int32) × (Nat → Int32) × (Nat → Int32) × (Nat → Int32) × Int32) (t : State) => va_P (dC, dI) vwCl (pX11_computeClosure cy h t_kind t_exponent t_letters t_images t_imageSizes t_fed t_at t_rowSize t_steps u.1 u.2.1 u.2.2.1 u.2.2.2.1 u.2.2.2.2.1 u.2.2.2.2.2.1 u.2.2.2.2.2.2.1 u.2.2.2.2.2.2.2.1 u.2.2.2.2.2.2.2.2.1 u.2.2.2.2.2.2.2.2.2.1 u.2.2.2.2.2.2.2.2.2.2 t_isSaved t_savedKind t_savedExponent t_savedLetters) t.heap) A) args s 0 0 A) (F0 m 149 ls []) := by
  have C1 := C0
  obtain ⟨hx, hb, hr, hml, hown, hts, hlocks, hK, hA⟩ := C1
  intro t_found t_foundMany t_kept t_keptMany t_keptLetters t_made t_cutAt t_wanted t_isDone t_child t_isFull hv H locs ls hP hD hS hl
  refine lv_aload_n hx hb dX11_computeClosure_149 rfl (lv_at hl 0 rfl) ?_
  refine lv_aload_n hx hb dX11_computeClosure_150 rfl (lv_at hl 0 rfl) ?_
  refine va_get (D := (dC, dI)) (ci := 11) (v := .int t_foundMany) (C := RX11) (T := TX11) (N := 36) hx hb hts nX11_computeClosure_X11 hown hK hP 0 rfl rfl 15 (by decide) (hts _ mX11_computeClosure_1) (fun _ h9 => h9) rfl dX11_computeClosure_151 ?_
  refine va_put (D := (dC, dI)) (ci := 11) (v := .int t_foundMany) (ty := .int) (C := RX11) (T := TX11) (N := 36) hx hb hts nX11_computeClosure_X11 tyX11 tyX11_ok nmX11 hown hK hP hD hS 0 rfl rfl 17 (by decide) (hts _ mX11_computeClosure_7) (fun _ h9 => h9) rfl (by decide +kernel) rfl rfl (Nat.le_of_ble_eq_true rfl) dX11_computeClosure_154 (fun H locs hP hD hS => ?_)
  have hP : va_P (dC, dI) vwCl (pX11_computeClosure cy h t_kind t_exponent t_letters t_images t_imageSizes t_fed t_at t_rowSize t_steps t_found t_foundMany t_kept t_foundMany t_keptLetters t_made t_cutAt t_wanted t_isDone t_child t_isFull t_isSaved t_savedKind t_savedExponent t_savedLetters) H := hP
  have hD : va_D A (pX11_computeClosure cy h t_kind t_exponent t_letters t_images t_imageSizes t_fed t_at t_rowSize t_steps t_found t_foundMany t_kept t_foundMany t_keptLetters t_made t_cutAt t_wanted t_isDone t_child t_isFull t_isSaved t_savedKind t_savedExponent t_savedLetters) := hD
  refine lv_aload_n hx hb dX11_computeClosure_157 rfl (lv_at hl 0 rfl) ?_
  refine lv_aload_n hx hb dX11_computeClosure_158 rfl (lv_at hl 0 rfl) ?_
  refine va_get (D := (dC, dI)) (ci := 11) (v := .int t_letters) (C := RX11) (T := TX11) (N := 36) hx hb hts nX11_computeClosure_X11 hown hK hP 0 rfl rfl 2 (by decide) (hts _ mX11_computeClosure_8) (fun _ h9 => h9) rfl dX11_computeClosure_159 ?_
  refine va_put (D := (dC, dI)) (ci := 11) (v := .int t_letters) (ty := .int) (C := RX11) (T := TX11) (N := 36) hx hb hts nX11_computeClosure_X11 tyX11 tyX11_ok nmX11 hown hK hP hD hS 0 rfl rfl 18 (by decide) (hts _ mX11_computeClosure_9) (fun _ h9 => h9) rfl (by decide +kernel) rfl rfl (Nat.le_of_ble_eq_true rfl) dX11_computeClosure_162 (fun H locs hP hD hS => ?_)
  have hP : va_P (dC, dI) vwCl (pX11_computeClosure cy h t_kind t_exponent t_letters t_images t_imageSizes t_fed t_at t_rowSize t_steps t_found t_foundMany t_kept t_foundMany t_letters t_made t_cutAt t_wanted t_isDone t_child t_isFull t_isSaved t_savedKind t_savedExponent t_savedLetters) H := hP
  have hD : va_D A (pX11_computeClosure cy h t_kind t_exponent t_letters t_images t_imageSizes t_fed t_at t_rowSize t_steps t_found t_foundMany t_kept t_foundMany t_letters t_made t_cutAt t_wanted t_isDone t_child t_isFull t_isSaved t_savedKind t_savedExponent t_savedLetters) := hD
  refine lv_iconst (v := 0) hx hb dX11_computeClosure_165 (by decide) ?_
  refine lv_istore (lv' := [(4, .int 0), (0, .ref (h 0))]) hx hb dX11_computeClosure_166 hl (by decide) rfl (fun ls hl => ?_)
  obtain ⟨n_36, hv⟩ := hv
  exact wX11_computeClosure_168 l h post  t_kind t_exponent t_letters t_images t_imageSizes t_fed t_at t_rowSize t_steps t_isSaved t_savedKind t_savedExponent t_savedLetters C0 n_36 t_found t_foundMany t_kept t_foundMany t_letters t_made t_cutAt t_wanted t_isDone t_child t_isFull 0 hv _ _ _ hP hD hS (lv_sub hl [1, 0] rfl)
set_option maxHeartbeats 4000000 in
set_option maxRecDepth 100000 in
theorem wX11_computeClosure_78 {p : Program} (l : Launch) {e : Env} {s : State} {m : MethodId} {args : Array Value} {below : List Frame} {meth : Method} {c : Code} {dC : Nat → ClassId} {dI : Nat → Nat → Nat} {cy : Nat → ClassId} {A : Nat → Prop} (h : Nat → Nat) (post : Int32 → (Nat → Int32) → Int32 → (Nat → Int32) → Int32 → Int32 → (Nat → Int32) → (Nat → Int32) → (Nat → Int32) → (Nat → Int32) → (Nat → Int32) → Int32 → Prop)   (t_kind : Int32) (t_exponent : Int32) (t_letters : Int32) (t_images : Nat → Int32) (t_imageSizes : Nat → Int32) (t_fed : Int32) (t_at : Int32) (t_rowSize : Int32) (t_steps : Int32) (t_isSaved : Int32) (t_savedKind : Int32) (t_savedExponent : Int32) (t_savedLetters : Int32)  (C0 : cx p s m args meth c cX11_computeClosure 5 (some .int) wsX11_computeClosure RX11 dC dI cy A)  : ∀ (n : Nat) (t_found : Nat → Int32) (t_foundMany : Int32) (t_kept : Nat → Int32) (t_keptMany : Int32) (t_keptLetters : Int32) (t_made : Nat → Int32) (t_cutAt : Nat → Int32) (t_wanted : Nat → Int32) (t_isDone : Nat → Int32) (t_child : Nat → Int32) (t_isFull : Int32) (x1 : Int64) (x3 : Int32), VX11_computeClosure_78 post t_letters t_images t_imageSizes n t_found t_foundMany t_kept t_keptMany t_keptLetters t_made t_cutAt t_wanted t_isDone t_child t_isFull x1 x3 → ∀ (H : Heap) (locs : List Loc) (ls : Array Slot), va_P (dC, dI) vwCl (pX11_computeClosure cy h t_kind t_exponent t_letters t_images t_imageSizes t_fed t_at t_rowSize t_steps t_found t_foundMany t_kept t_keptMany t_keptLetters t_made t_cutAt t_wanted t_isDone t_child t_isFull t_isSaved t_savedKind t_savedExponent t_savedLetters) H → va_D A (pX11_computeClosure cy h t_kind t_exponent t_letters t_images t_imageSizes t_fed t_at t_rowSize t_steps t_found t_foundMany t_kept t_keptMany t_keptLetters t_made t_cutAt t_wanted t_isDone t_child t_isFull t_isSaved t_savedKind t_savedExponent t_savedLetters) → va_S A s.heap H locs → lv_has ls 5 [(0, .ref (h 0)), (1, .long x1), (3, .int x3)] → W p l e rX11_computeClosure s m args below meth c H locs 0 0 (MQ below (va_Qi (fun (r : Int32) (u : (Nat → Int32) × Int32 × (Nat → Int32) × Int32 × Int32 × (Nat → Int32) × (Nat → Int32) × (Nat → Int32) × (Nat → Int32) × (Nat → Int32) × Int32) => post r u.1 u.2.1 u.2.2.1 u.2.2.2.1 u.2.2.2.2.1 u.2.2.2.2.2.1 u.2.2.2.2.2.2.1 u.2.2.2.2.2.2.2.1 u.2.2.2.2.2.2.2.2.1 u.2.2.2.2.2.2.2.2.2.1 u.2.2.2.2.2.2.2.2.2.2) (fun (u : (Nat → Int32) × Int32 × (Nat → Int32) × Int32 × Int32 × (Nat → Int32) × (Nat → Int32) × (Nat → Int32) × (Nat → Int32) × (Nat → Int32) × Int32) (t : State) => va_P (dC, dI) vwCl (pX11_computeClosure cy h t_kind t_exponent t_letters t_images t_imageSizes t_fed t_at t_rowSize t_steps u.1 u.2.1 u.2.2.1 u.2.2.2.1 u.2.2.2.2.1 u.2.2.2.2.2.1 u.2.2.2.2.2.2.1 u.2.2.2.2.2.2.2.1 u.2.2.2.2.2.2.2.2.1 u.2.2.2.2.2.2.2.2.2.1 u.2.2.2.2.2.2.2.2.2.2 t_isSaved t_savedKind t_savedExponent t_savedLetters) t.heap) A) args s 0 0 A) (F0 m 78 ls []) := by
  have C1 := C0
  obtain ⟨hx, hb, hr, hml, hown, hts, hlocks, hK, hA⟩ := C1
  intro n
  induction n with
  | zero => intro t_found t_foundMany t_kept t_keptMany t_keptLetters t_made t_cutAt t_wanted t_isDone t_child t_isFull x1 x3 hv; exact hv.elim
  | succ n ih =>
    intro t_found t_foundMany t_kept t_keptMany t_keptLetters t_made t_cutAt t_wanted t_isDone t_child t_isFull x1 x3 hv H locs ls hP hD hS hl
    refine lv_iload_n hx hb dX11_computeClosure_78 rfl (lv_at hl 2 rfl) ?_
    refine lv_bipush (v := (-2)) hx hb dX11_computeClosure_79 (by decide) ?_
    refine lv_icmp_eq (tgt := 149) hx hb dX11_computeClosure_81 (by decide) (fun c_20 => ?_) (fun c_20 => ?_)
    · have hv := hv.1 c_20
      exact wX11_computeClosure_149 l h post  t_kind t_exponent t_letters t_images t_imageSizes t_fed t_at t_rowSize t_steps t_isSaved t_savedKind t_savedExponent t_savedLetters C0 t_found t_foundMany t_kept t_keptMany t_keptLetters t_made t_cutAt t_wanted t_isDone t_child t_isFull hv _ _ _ hP hD hS (lv_sub hl [0] rfl)
    · have hv := hv.2 c_20
      refine lv_aload_n hx hb dX11_computeClosure_84 rfl (lv_at hl 0 rfl) ?_
      refine va_get (D := (dC, dI)) (ci := 11) (v := .ref (h 8)) (C := RX11) (T := TX11) (N := 36) hx hb hts nX11_computeClosure_X11 hown hK hP 0 rfl rfl 22 (by decide) (hts _ mX11_computeClosure_4) (fun _ h9 => h9) rfl dX11_computeClosure_85 ?_
      refine lv_iload_n hx hb dX11_computeClosure_88 rfl (lv_at hl 2 rfl) ?_
      refine lv_iconst (v := 1) hx hb dX11_computeClosure_89 (by decide) ?_
      have h_18 := hv.1
      have hv := hv.2
      refine va_zast hx hb hK hP hD hS 8 2 rfl rfl h_18 dX11_computeClosure_90 (fun H locs hP hD hS => ?_)
      have hP : va_P (dC, dI) vwCl (pX11_computeClosure cy h t_kind t_exponent t_letters t_images t_imageSizes t_fed t_at t_rowSize t_steps t_found t_foundMany t_kept t_keptMany t_keptLetters t_made t_cutAt t_wanted (upd t_isDone x3.toNatClampNeg (vp_nar .boolean (1 : Int32))) t_child t_isFull t_isSaved t_savedKind t_savedExponent t_savedLetters) H := hP
      have hD : va_D A (pX11_computeClosure cy h t_kind t_exponent t_letters t_images t_imageSizes t_fed t_at t_rowSize t_steps t_found t_foundMany t_kept t_keptMany t_keptLetters t_made t_cutAt t_wanted (upd t_isDone x3.toNatClampNeg (vp_nar .boolean (1 : Int32))) t_child t_isFull t_isSaved t_savedKind t_savedExponent t_savedLetters) := hD
      refine lv_iconst (v := 0) hx hb dX11_computeClosure_91 (by decide) ?_
      refine lv_istore (lv' := [(4, .int 0), (0, .ref (h 0)), (1, .long x1), (3, .int x3)]) hx hb dX11_computeClosure_92 hl (by decide) rfl (fun ls hl => ?_)
      obtain ⟨n_19, hv⟩ := hv
      exact wX11_computeClosure_94 l h post (fun t_found t_foundMany t_kept t_keptMany t_keptLetters t_made t_cutAt t_wanted t_isDone t_child t_isFull x1 x3 => VX11_computeClosure_78 post t_letters t_images t_imageSizes n t_found t_foundMany t_kept t_keptMany t_keptLetters t_made t_cutAt t_wanted t_isDone t_child t_isFull x1 x3)  t_kind t_exponent t_letters t_images t_imageSizes t_fed t_at t_rowSize t_steps t_isSaved t_savedKind t_savedExponent t_savedLetters C0 ih n_19 t_found t_foundMany t_kept t_keptMany t_keptLetters t_made t_cutAt t_wanted (upd t_isDone x3.toNatClampNeg (vp_nar .boolean (1 : Int32))) t_child t_isFull x1 x3 0 hv _ _ _ hP hD hS (lv_sub hl [1, 2, 3, 0] rfl)
set_option maxHeartbeats 4000000 in
set_option maxRecDepth 100000 in
theorem wX11_computeClosure_66 {p : Program} (l : Launch) {e : Env} {s : State} {m : MethodId} {args : Array Value} {below : List Frame} {meth : Method} {c : Code} {dC : Nat → ClassId} {dI : Nat → Nat → Nat} {cy : Nat → ClassId} {A : Nat → Prop} (h : Nat → Nat) (post : Int32 → (Nat → Int32) → Int32 → (Nat → Int32) → Int32 → Int32 → (Nat → Int32) → (Nat → Int32) → (Nat → Int32) → (Nat → Int32) → (Nat → Int32) → Int32 → Prop)   (t_kind : Int32) (t_exponent : Int32) (t_letters : Int32) (t_images : Nat → Int32) (t_imageSizes : Nat → Int32) (t_fed : Int32) (t_at : Int32) (t_rowSize : Int32) (t_steps : Int32) (t_isSaved : Int32) (t_savedKind : Int32) (t_savedExponent : Int32) (t_savedLetters : Int32)  (C0 : cx p s m args meth c cX11_computeClosure 5 (some .int) wsX11_computeClosure RX11 dC dI cy A)  : ∀ (t_found : Nat → Int32) (t_foundMany : Int32) (t_kept : Nat → Int32) (t_keptMany : Int32) (t_keptLetters : Int32) (t_made : Nat → Int32) (t_cutAt : Nat → Int32) (t_wanted : Nat → Int32) (t_isDone : Nat → Int32) (t_child : Nat → Int32) (t_isFull : Int32) (x1 : Int64), VX11_computeClosure_66 post t_letters t_images t_imageSizes t_found t_foundMany t_kept t_keptMany t_keptLetters t_made t_cutAt t_wanted t_isDone t_child t_isFull x1 → ∀ (H : Heap) (locs : List Loc) (ls : Array Slot), va_P (dC, dI) vwCl (pX11_computeClosure cy h t_kind t_exponent t_letters t_images t_imageSizes t_fed t_at t_rowSize t_steps t_found t_foundMany t_kept t_keptMany t_keptLetters t_made t_cutAt t_wanted t_isDone t_child t_isFull t_isSaved t_savedKind t_savedExponent t_savedLetters) H → va_D A (pX11_computeClosure cy h t_kind t_exponent t_letters t_images t_imageSizes t_fed t_at t_rowSize t_steps t_found t_foundMany t_kept t_keptMany t_keptLetters t_made t_cutAt t_wanted t_isDone t_child t_isFull t_isSaved t_savedKind t_savedExponent t_savedLetters) → va_S A s.heap H locs → lv_has ls 5 [(0, .ref (h 0)), (1, .long x1)] → W p l e rX11_computeClosure s m args below meth c H locs 0 0 (MQ below (va_Qi (fun (r : Int32) (u : (Nat → Int32) × Int32 × (Nat → Int32) × Int32 × Int32 × (Nat → Int32) × (Nat → Int32) × (Nat → Int32) × (Nat → Int32) × (Nat → Int32) × Int32) => post r u.1 u.2.1 u.2.2.1 u.2.2.2.1 u.2.2.2.2.1 u.2.2.2.2.2.1 u.2.2.2.2.2.2.1 u.2.2.2.2.2.2.2.1 u.2.2.2.2.2.2.2.2.1 u.2.2.2.2.2.2.2.2.2.1 u.2.2.2.2.2.2.2.2.2.2) (fun (u : (Nat → Int32) × Int32 × (Nat → Int32) × Int32 × Int32 × (Nat → Int32) × (Nat → Int32) × (Nat → Int32) × (Nat → Int32) × (Nat → Int32) × Int32) (t : State) => va_P (dC, dI) vwCl (pX11_computeClosure cy h t_kind t_exponent t_letters t_images t_imageSizes t_fed t_at t_rowSize t_steps u.1 u.2.1 u.2.2.1 u.2.2.2.1 u.2.2.2.2.1 u.2.2.2.2.2.1 u.2.2.2.2.2.2.1 u.2.2.2.2.2.2.2.1 u.2.2.2.2.2.2.2.2.1 u.2.2.2.2.2.2.2.2.2.1 u.2.2.2.2.2.2.2.2.2.2 t_isSaved t_savedKind t_savedExponent t_savedLetters) t.heap) A) args s 0 0 A) (F0 m 66 ls []) := by
  have C1 := C0
  obtain ⟨hx, hb, hr, hml, hown, hts, hlocks, hK, hA⟩ := C1
  intro t_found t_foundMany t_kept t_keptMany t_keptLetters t_made t_cutAt t_wanted t_isDone t_child t_isFull x1 hv H locs ls hP hD hS hl
  refine lv_aload_n hx hb dX11_computeClosure_66 rfl (lv_at hl 0 rfl) ?_
  refine va_get (D := (dC, dI)) (ci := 11) (v := .ref (h 8)) (C := RX11) (T := TX11) (N := 36) hx hb hts nX11_computeClosure_X11 hown hK hP 0 rfl rfl 22 (by decide) (hts _ mX11_computeClosure_4) (fun _ h9 => h9) rfl dX11_computeClosure_67 ?_
  refine lv_aload_n hx hb dX11_computeClosure_70 rfl (lv_at hl 0 rfl) ?_
  refine cb_VI (As := []) (rest := [.ref (h 8)]) ⟨hx, hb, hml, hown, hts⟩ (kX11_enter l dC dI cy (adl [h 0, h 3, h 5, h 10, h 11, h 12, h 1, h 2, h 13, h 14, h 4, h 6, h 7, h 8, h 9, h 15, h 16, h 17, h 18, h 19, h 20, h 21]) t_kind t_exponent t_letters t_fed t_at t_rowSize t_steps t_found t_foundMany t_keptMany t_keptLetters t_made t_isFull t_isSaved t_savedKind t_savedExponent t_savedLetters _ hv) (cwV 0 hts gX11_computeClosure_X11_enter rfl rfl rfl zX11_enter ⟨Nat.le_of_ble_eq_true rfl, Nat.le_of_ble_eq_true rfl⟩) hK hP hD hS hA [0, 3, 5] [some 0, none, none, some 1, none, some 2, none, none, none, none] rfl rfl rfl (ci := 11) rfl rfl (fun _ => rfl) rfl hl.1 rfl (Nat.le_of_ble_eq_true rfl) dX11_computeClosure_71 (fun r_12 w_17 H locs hv hP hD hS => ?_)
  obtain ⟨u_13, u_14⟩ := w_17
  have hP : va_P (dC, dI) vwCl (pX11_computeClosure cy h t_kind t_exponent t_letters t_images t_imageSizes t_fed t_at t_rowSize t_steps u_13 u_14 t_kept t_keptMany t_keptLetters t_made t_cutAt t_wanted t_isDone t_child t_isFull t_isSaved t_savedKind t_savedExponent t_savedLetters) H := hP
  have hD : va_D A (pX11_computeClosure cy h t_kind t_exponent t_letters t_images t_imageSizes t_fed t_at t_rowSize t_steps u_13 u_14 t_kept t_keptMany t_keptLetters t_made t_cutAt t_wanted t_isDone t_child t_isFull t_isSaved t_savedKind t_savedExponent t_savedLetters) := hD
  refine lv_iconst (v := 0) hx hb dX11_computeClosure_74 (by decide) ?_
  have h_15 := hv.1
  have hv := hv.2
  refine va_zast hx hb hK hP hD hS 8 2 rfl rfl h_15 dX11_computeClosure_75 (fun H locs hP hD hS => ?_)
  have hP : va_P (dC, dI) vwCl (pX11_computeClosure cy h t_kind t_exponent t_letters t_images t_imageSizes t_fed t_at t_rowSize t_steps u_13 u_14 t_kept t_keptMany t_keptLetters t_made t_cutAt t_wanted (upd t_isDone r_12.toNatClampNeg (vp_nar .boolean (0 : Int32))) t_child t_isFull t_isSaved t_savedKind t_savedExponent t_savedLetters) H := hP
  have hD : va_D A (pX11_computeClosure cy h t_kind t_exponent t_letters t_images t_imageSizes t_fed t_at t_rowSize t_steps u_13 u_14 t_kept t_keptMany t_keptLetters t_made t_cutAt t_wanted (upd t_isDone r_12.toNatClampNeg (vp_nar .boolean (0 : Int32))) t_child t_isFull t_isSaved t_savedKind t_savedExponent t_savedLetters) := hD
  refine lv_iconst (v := 0) hx hb dX11_computeClosure_76 (by decide) ?_
  refine lv_istore_n (lv' := [(3, .int 0), (0, .ref (h 0)), (1, .long x1)]) hx hb dX11_computeClosure_77 rfl hl (by decide) rfl (fun ls hl => ?_)
  obtain ⟨n_16, hv⟩ := hv
  exact wX11_computeClosure_78 l h post  t_kind t_exponent t_letters t_images t_imageSizes t_fed t_at t_rowSize t_steps t_isSaved t_savedKind t_savedExponent t_savedLetters C0 n_16 u_13 u_14 t_kept t_keptMany t_keptLetters t_made t_cutAt t_wanted (upd t_isDone r_12.toNatClampNeg (vp_nar .boolean (0 : Int32))) t_child t_isFull x1 0 hv _ _ _ hP hD hS (lv_sub hl [1, 2, 0] rfl)
set_option maxHeartbeats 4000000 in
set_option maxRecDepth 100000 in
theorem wX11_computeClosure_38 {p : Program} (l : Launch) {e : Env} {s : State} {m : MethodId} {args : Array Value} {below : List Frame} {meth : Method} {c : Code} {dC : Nat → ClassId} {dI : Nat → Nat → Nat} {cy : Nat → ClassId} {A : Nat → Prop} (h : Nat → Nat) (post : Int32 → (Nat → Int32) → Int32 → (Nat → Int32) → Int32 → Int32 → (Nat → Int32) → (Nat → Int32) → (Nat → Int32) → (Nat → Int32) → (Nat → Int32) → Int32 → Prop)   (t_kind : Int32) (t_exponent : Int32) (t_letters : Int32) (t_images : Nat → Int32) (t_imageSizes : Nat → Int32) (t_fed : Int32) (t_at : Int32) (t_rowSize : Int32) (t_steps : Int32) (t_isSaved : Int32) (t_savedKind : Int32) (t_savedExponent : Int32) (t_savedLetters : Int32)  (C0 : cx p s m args meth c cX11_computeClosure 5 (some .int) wsX11_computeClosure RX11 dC dI cy A)  : ∀ (n : Nat) (t_found : Nat → Int32) (t_foundMany : Int32) (t_kept : Nat → Int32) (t_keptMany : Int32) (t_keptLetters : Int32) (t_made : Nat → Int32) (t_cutAt : Nat → Int32) (t_wanted : Nat → Int32) (t_isDone : Nat → Int32) (t_child : Nat → Int32) (t_isFull : Int32) (x1 : Int64) (x3 : Int32), VX11_computeClosure_38 post t_letters t_images t_imageSizes n t_found t_foundMany t_kept t_keptMany t_keptLetters t_made t_cutAt t_wanted t_isDone t_child t_isFull x1 x3 → ∀ (H : Heap) (locs : List Loc) (ls : Array Slot), va_P (dC, dI) vwCl (pX11_computeClosure cy h t_kind t_exponent t_letters t_images t_imageSizes t_fed t_at t_rowSize t_steps t_found t_foundMany t_kept t_keptMany t_keptLetters t_made t_cutAt t_wanted t_isDone t_child t_isFull t_isSaved t_savedKind t_savedExponent t_savedLetters) H → va_D A (pX11_computeClosure cy h t_kind t_exponent t_letters t_images t_imageSizes t_fed t_at t_rowSize t_steps t_found t_foundMany t_kept t_keptMany t_keptLetters t_made t_cutAt t_wanted t_isDone t_child t_isFull t_isSaved t_savedKind t_savedExponent t_savedLetters) → va_S A s.heap H locs → lv_has ls 5 [(0, .ref (h 0)), (1, .long x1), (3, .int x3)] → W p l e rX11_computeClosure s m args below meth c H locs 0 0 (MQ below (va_Qi (fun (r : Int32) (u : (Nat → Int32) × Int32 × (Nat → Int32) × Int32 × Int32 × (Nat → Int32) × (Nat → Int32) × (Nat → Int32) × (Nat → Int32) × (Nat → Int32) × Int32) => post r u.1 u.2.1 u.2.2.1 u.2.2.2.1 u.2.2.2.2.1 u.2.2.2.2.2.1 u.2.2.2.2.2.2.1 u.2.2.2.2.2.2.2.1 u.2.2.2.2.2.2.2.2.1 u.2.2.2.2.2.2.2.2.2.1 u.2.2.2.2.2.2.2.2.2.2) (fun (u : (Nat → Int32) × Int32 × (Nat → Int32) × Int32 × Int32 × (Nat → Int32) × (Nat → Int32) × (Nat → Int32) × (Nat → Int32) × (Nat → Int32) × Int32) (t : State) => va_P (dC, dI) vwCl (pX11_computeClosure cy h t_kind t_exponent t_letters t_images t_imageSizes t_fed t_at t_rowSize t_steps u.1 u.2.1 u.2.2.1 u.2.2.2.1 u.2.2.2.2.1 u.2.2.2.2.2.1 u.2.2.2.2.2.2.1 u.2.2.2.2.2.2.2.1 u.2.2.2.2.2.2.2.2.1 u.2.2.2.2.2.2.2.2.2.1 u.2.2.2.2.2.2.2.2.2.2 t_isSaved t_savedKind t_savedExponent t_savedLetters) t.heap) A) args s 0 0 A) (F0 m 38 ls []) := by
  have C1 := C0
  obtain ⟨hx, hb, hr, hml, hown, hts, hlocks, hK, hA⟩ := C1
  intro n
  induction n with
  | zero => intro t_found t_foundMany t_kept t_keptMany t_keptLetters t_made t_cutAt t_wanted t_isDone t_child t_isFull x1 x3 hv; exact hv.elim
  | succ n ih =>
    intro t_found t_foundMany t_kept t_keptMany t_keptLetters t_made t_cutAt t_wanted t_isDone t_child t_isFull x1 x3 hv H locs ls hP hD hS hl
    refine lv_iload_n hx hb dX11_computeClosure_38 rfl (lv_at hl 2 rfl) ?_
    refine lv_bipush (v := 7) hx hb dX11_computeClosure_39 (by decide) ?_
    refine lv_icmp_ge (tgt := 66) hx hb dX11_computeClosure_41 (by decide) (fun c_11 => ?_) (fun c_11 => ?_)
    · have hv := hv.1 c_11
      exact wX11_computeClosure_66 l h post  t_kind t_exponent t_letters t_images t_imageSizes t_fed t_at t_rowSize t_steps t_isSaved t_savedKind t_savedExponent t_savedLetters C0 t_found t_foundMany t_kept t_keptMany t_keptLetters t_made t_cutAt t_wanted t_isDone t_child t_isFull x1 hv _ _ _ hP hD hS (lv_sub hl [0, 1] rfl)
    · have hv := hv.2 c_11
      refine lv_aload_n hx hb dX11_computeClosure_44 rfl (lv_at hl 0 rfl) ?_
      refine va_get (D := (dC, dI)) (ci := 11) (v := .ref (h 5)) (C := RX11) (T := TX11) (N := 36) hx hb hts nX11_computeClosure_X11 hown hK hP 0 rfl rfl 19 (by decide) (hts _ mX11_computeClosure_3) (fun _ h9 => h9) rfl dX11_computeClosure_45 ?_
      refine lv_iload_n hx hb dX11_computeClosure_48 rfl (lv_at hl 2 rfl) ?_
      refine lv_iload_n hx hb dX11_computeClosure_49 rfl (lv_at hl 2 rfl) ?_
      refine lv_iconst (v := 3) hx hb dX11_computeClosure_50 (by decide) ?_
      refine lv_icmp_ge (tgt := 58) hx hb dX11_computeClosure_51 (by decide) (fun c_10 => ?_) (fun c_10 => ?_)
      · have hv := hv.1 c_10
        refine lv_iconst (v := 0) hx hb dX11_computeClosure_58 (by decide) ?_
        have h_8 := hv.1
        have hv := hv.2
        refine va_iast hx hb hK hP hD hS 5 0 rfl rfl h_8 dX11_computeClosure_59 (fun H locs hP hD hS => ?_)
        have hP : va_P (dC, dI) vwCl (pX11_computeClosure cy h t_kind t_exponent t_letters t_images t_imageSizes t_fed t_at t_rowSize t_steps t_found t_foundMany t_kept t_keptMany t_keptLetters (upd t_made x3.toNatClampNeg 0) t_cutAt t_wanted t_isDone t_child t_isFull t_isSaved t_savedKind t_savedExponent t_savedLetters) H := hP
        have hD : va_D A (pX11_computeClosure cy h t_kind t_exponent t_letters t_images t_imageSizes t_fed t_at t_rowSize t_steps t_found t_foundMany t_kept t_keptMany t_keptLetters (upd t_made x3.toNatClampNeg 0) t_cutAt t_wanted t_isDone t_child t_isFull t_isSaved t_savedKind t_savedExponent t_savedLetters) := hD
        refine lv_iinc (v := (x3 + 1)) (lv' := [(3, .int ((x3 + 1))), (0, .ref (h 0)), (1, .long x1)]) hx hb dX11_computeClosure_60 hl (k := 2) rfl rfl (by decide) rfl (fun ls hl => ?_)
        refine lv_goto (tgt := 38) hx hb dX11_computeClosure_63 (by decide) ?_
        exact ih t_found t_foundMany t_kept t_keptMany t_keptLetters (upd t_made x3.toNatClampNeg 0) t_cutAt t_wanted t_isDone t_child t_isFull x1 (x3 + 1) hv _ _ _ hP hD hS (lv_sub hl [1, 2, 0] rfl)
      · have hv := hv.2 c_10
        refine lv_iconst (v := (-1)) hx hb dX11_computeClosure_54 (by decide) ?_
        refine lv_goto (tgt := 59) hx hb dX11_computeClosure_55 (by decide) ?_
        have h_9 := hv.1
        have hv := hv.2
        refine va_iast hx hb hK hP hD hS 5 0 rfl rfl h_9 dX11_computeClosure_59 (fun H locs hP hD hS => ?_)
        have hP : va_P (dC, dI) vwCl (pX11_computeClosure cy h t_kind t_exponent t_letters t_images t_imageSizes t_fed t_at t_rowSize t_steps t_found t_foundMany t_kept t_keptMany t_keptLetters (upd t_made x3.toNatClampNeg (-1)) t_cutAt t_wanted t_isDone t_child t_isFull t_isSaved t_savedKind t_savedExponent t_savedLetters) H := hP
        have hD : va_D A (pX11_computeClosure cy h t_kind t_exponent t_letters t_images t_imageSizes t_fed t_at t_rowSize t_steps t_found t_foundMany t_kept t_keptMany t_keptLetters (upd t_made x3.toNatClampNeg (-1)) t_cutAt t_wanted t_isDone t_child t_isFull t_isSaved t_savedKind t_savedExponent t_savedLetters) := hD
        refine lv_iinc (v := (x3 + 1)) (lv' := [(3, .int ((x3 + 1))), (0, .ref (h 0)), (1, .long x1)]) hx hb dX11_computeClosure_60 hl (k := 2) rfl rfl (by decide) rfl (fun ls hl => ?_)
        refine lv_goto (tgt := 38) hx hb dX11_computeClosure_63 (by decide) ?_
        exact ih t_found t_foundMany t_kept t_keptMany t_keptLetters (upd t_made x3.toNatClampNeg (-1)) t_cutAt t_wanted t_isDone t_child t_isFull x1 (x3 + 1) hv _ _ _ hP hD hS (lv_sub hl [1, 2, 0] rfl)
set_option maxHeartbeats 4000000 in
set_option maxRecDepth 100000 in
theorem wX11_computeClosure_0 {p : Program} (l : Launch) {e : Env} {s : State} {m : MethodId} {args : Array Value} {below : List Frame} {meth : Method} {c : Code} {dC : Nat → ClassId} {dI : Nat → Nat → Nat} {cy : Nat → ClassId} {A : Nat → Prop} (h : Nat → Nat) (post : Int32 → (Nat → Int32) → Int32 → (Nat → Int32) → Int32 → Int32 → (Nat → Int32) → (Nat → Int32) → (Nat → Int32) → (Nat → Int32) → (Nat → Int32) → Int32 → Prop)   (t_kind : Int32) (t_exponent : Int32) (t_letters : Int32) (t_images : Nat → Int32) (t_imageSizes : Nat → Int32) (t_fed : Int32) (t_at : Int32) (t_rowSize : Int32) (t_steps : Int32) (t_isSaved : Int32) (t_savedKind : Int32) (t_savedExponent : Int32) (t_savedLetters : Int32)  (C0 : cx p s m args meth c cX11_computeClosure 5 (some .int) wsX11_computeClosure RX11 dC dI cy A)  : ∀ (t_found : Nat → Int32) (t_foundMany : Int32) (t_kept : Nat → Int32) (t_keptMany : Int32) (t_keptLetters : Int32) (t_made : Nat → Int32) (t_cutAt : Nat → Int32) (t_wanted : Nat → Int32) (t_isDone : Nat → Int32) (t_child : Nat → Int32) (t_isFull : Int32), VX11_computeClosure post t_letters t_images t_imageSizes t_found t_foundMany t_kept t_keptMany t_keptLetters t_made t_cutAt t_wanted t_isDone t_child t_isFull → ∀ (H : Heap) (locs : List Loc) (ls : Array Slot), va_P (dC, dI) vwCl (pX11_computeClosure cy h t_kind t_exponent t_letters t_images t_imageSizes t_fed t_at t_rowSize t_steps t_found t_foundMany t_kept t_keptMany t_keptLetters t_made t_cutAt t_wanted t_isDone t_child t_isFull t_isSaved t_savedKind t_savedExponent t_savedLetters) H → va_D A (pX11_computeClosure cy h t_kind t_exponent t_letters t_images t_imageSizes t_fed t_at t_rowSize t_steps t_found t_foundMany t_kept t_keptMany t_keptLetters t_made t_cutAt t_wanted t_isDone t_child t_isFull t_isSaved t_savedKind t_savedExponent t_savedLetters) → va_S A s.heap H locs → lv_has ls 5 [(0, .ref (h 0))] → W p l e rX11_computeClosure s m args below meth c H locs 0 0 (MQ below (va_Qi (fun (r : Int32) (u : (Nat → Int32) × Int32 × (Nat → Int32) × Int32 × Int32 × (Nat → Int32) × (Nat → Int32) × (Nat → Int32) × (Nat → Int32) × (Nat → Int32) × Int32) => post r u.1 u.2.1 u.2.2.1 u.2.2.2.1 u.2.2.2.2.1 u.2.2.2.2.2.1 u.2.2.2.2.2.2.1 u.2.2.2.2.2.2.2.1 u.2.2.2.2.2.2.2.2.1 u.2.2.2.2.2.2.2.2.2.1 u.2.2.2.2.2.2.2.2.2.2) (fun (u : (Nat → Int32) × Int32 × (Nat → Int32) × Int32 × Int32 × (Nat → Int32) × (Nat → Int32) × (Nat → Int32) × (Nat → Int32) × (Nat → Int32) × Int32) (t : State) => va_P (dC, dI) vwCl (pX11_computeClosure cy h t_kind t_exponent t_letters t_images t_imageSizes t_fed t_at t_rowSize t_steps u.1 u.2.1 u.2.2.1 u.2.2.2.1 u.2.2.2.2.1 u.2.2.2.2.2.1 u.2.2.2.2.2.2.1 u.2.2.2.2.2.2.2.1 u.2.2.2.2.2.2.2.2.1 u.2.2.2.2.2.2.2.2.2.1 u.2.2.2.2.2.2.2.2.2.2 t_isSaved t_savedKind t_savedExponent t_savedLetters) t.heap) A) args s 0 0 A) (F0 m 0 ls []) := by
  have C1 := C0
  obtain ⟨hx, hb, hr, hml, hown, hts, hlocks, hK, hA⟩ := C1
  intro t_found t_foundMany t_kept t_keptMany t_keptLetters t_made t_cutAt t_wanted t_isDone t_child t_isFull hv H locs ls hP hD hS hl
  refine lv_aload_n hx hb dX11_computeClosure_0 rfl (lv_at hl 0 rfl) ?_
  refine cb_VI (As := []) (rest := []) ⟨hx, hb, hml, hown, hts⟩ (kX11_isMissing l dC dI cy (adl [h 0, h 2, h 10, h 11, h 12, h 1, h 13, h 14, h 3, h 4, h 5, h 6, h 7, h 8, h 9, h 15, h 16, h 17, h 18, h 19, h 20, h 21]) t_kind t_exponent t_letters t_imageSizes t_fed t_at t_rowSize t_steps t_foundMany t_keptMany t_keptLetters t_isFull t_isSaved t_savedKind t_savedExponent t_savedLetters _ hv) (cwV 0 hts gX11_computeClosure_X11_isMissing rfl rfl rfl zX11_isMissing ⟨Nat.le_of_ble_eq_true rfl, Nat.le_of_ble_eq_true rfl⟩) hK hP hD hS hA [0, 2] [some 0, none, some 1, none, none, none, none, none, none, none] rfl rfl rfl (ci := 11) rfl rfl (fun _ => rfl) rfl hl.1 rfl (Nat.le_of_ble_eq_true rfl) dX11_computeClosure_1 (fun r_1 w_7 H locs hv hP hD hS => ?_)
  have hP : va_P (dC, dI) vwCl (pX11_computeClosure cy h t_kind t_exponent t_letters t_images t_imageSizes t_fed t_at t_rowSize t_steps t_found t_foundMany t_kept t_keptMany t_keptLetters t_made t_cutAt t_wanted t_isDone t_child t_isFull t_isSaved t_savedKind t_savedExponent t_savedLetters) H := hP
  have hD : va_D A (pX11_computeClosure cy h t_kind t_exponent t_letters t_images t_imageSizes t_fed t_at t_rowSize t_steps t_found t_foundMany t_kept t_keptMany t_keptLetters t_made t_cutAt t_wanted t_isDone t_child t_isFull t_isSaved t_savedKind t_savedExponent t_savedLetters) := hD
  refine lv_if_eq (tgt := 10) hx hb dX11_computeClosure_4 (by decide) (fun c_6 => ?_) (fun c_6 => ?_)
  · have hv := hv.1 c_6
    refine lv_aload_n hx hb dX11_computeClosure_10 rfl (lv_at hl 0 rfl) ?_
    refine lv_iconst (v := 0) hx hb dX11_computeClosure_11 (by decide) ?_
    refine lv_iconst (v := 0) hx hb dX11_computeClosure_12 (by decide) ?_
    refine cb_VL (As := [.int 0, .int 0]) (rest := []) ⟨hx, hb, hml, hown, hts⟩ (kX11_minor l dC dI cy (adl [h 0, h 1, h 2, h 10, h 11, h 12, h 13, h 14, h 3, h 4, h 5, h 6, h 7, h 8, h 9, h 15, h 16, h 17, h 18, h 19, h 20, h 21]) t_kind t_exponent t_letters t_images t_imageSizes t_fed t_at t_rowSize t_steps t_foundMany t_keptMany t_keptLetters t_isFull t_isSaved t_savedKind t_savedExponent t_savedLetters 8 0 0 _ hv) (cwV 2 hts gX11_computeClosure_X11_minor rfl rfl rfl zX11_minor ⟨Nat.le_of_ble_eq_true rfl, Nat.le_of_ble_eq_true rfl⟩) hK hP hD hS hA [0, 1, 2] [some 0, some 1, some 2, none, none, none, none, none, none, none] rfl rfl rfl (ci := 11) rfl rfl (fun _ => rfl) rfl hl.1 rfl (Nat.le_of_ble_eq_true rfl) dX11_computeClosure_13 (fun r_2 w_5 H locs hv hP hD hS => ?_)
    have hP : va_P (dC, dI) vwCl (pX11_computeClosure cy h t_kind t_exponent t_letters t_images t_imageSizes t_fed t_at t_rowSize t_steps t_found t_foundMany t_kept t_keptMany t_keptLetters t_made t_cutAt t_wanted t_isDone t_child t_isFull t_isSaved t_savedKind t_savedExponent t_savedLetters) H := hP
    have hD : va_D A (pX11_computeClosure cy h t_kind t_exponent t_letters t_images t_imageSizes t_fed t_at t_rowSize t_steps t_found t_foundMany t_kept t_keptMany t_keptLetters t_made t_cutAt t_wanted t_isDone t_child t_isFull t_isSaved t_savedKind t_savedExponent t_savedLetters) := hD
    refine lv_lstore_n (lv' := [(1, .long r_2), (0, .ref (h 0))]) hx hb dX11_computeClosure_16 rfl hl (by decide) rfl (fun ls hl => ?_)
    refine lv_lload_n hx hb dX11_computeClosure_17 rfl (lv_at hl 0 rfl) ?_
    refine lv_lconst (v := 0) hx hb dX11_computeClosure_18 (by decide) ?_
    refine W.lcmp hx hb dX11_computeClosure_19 ?_
    refine lv_if_ne (tgt := 26) hx hb dX11_computeClosure_20 (by decide) (fun c_4 => ?_) (fun c_4 => ?_)
    · have hv := hv.1 c_4
      refine lv_aload_n hx hb dX11_computeClosure_26 rfl (lv_at hl 1 rfl) ?_
      refine lv_iconst (v := 0) hx hb dX11_computeClosure_27 (by decide) ?_
      refine va_put (D := (dC, dI)) (ci := 11) (v := .int 0) (ty := .int) (C := RX11) (T := TX11) (N := 36) hx hb hts nX11_computeClosure_X11 tyX11 tyX11_ok nmX11 hown hK hP hD hS 0 rfl rfl 15 (by decide) (hts _ mX11_computeClosure_1) (fun _ h9 => h9) rfl (by decide +kernel) rfl rfl (Nat.le_of_ble_eq_true rfl) dX11_computeClosure_28 (fun H locs hP hD hS => ?_)
      have hP : va_P (dC, dI) vwCl (pX11_computeClosure cy h t_kind t_exponent t_letters t_images t_imageSizes t_fed t_at t_rowSize t_steps t_found 0 t_kept t_keptMany t_keptLetters t_made t_cutAt t_wanted t_isDone t_child t_isFull t_isSaved t_savedKind t_savedExponent t_savedLetters) H := hP
      have hD : va_D A (pX11_computeClosure cy h t_kind t_exponent t_letters t_images t_imageSizes t_fed t_at t_rowSize t_steps t_found 0 t_kept t_keptMany t_keptLetters t_made t_cutAt t_wanted t_isDone t_child t_isFull t_isSaved t_savedKind t_savedExponent t_savedLetters) := hD
      refine lv_aload_n hx hb dX11_computeClosure_31 rfl (lv_at hl 1 rfl) ?_
      refine lv_iconst (v := 0) hx hb dX11_computeClosure_32 (by decide) ?_
      refine va_put (D := (dC, dI)) (ci := 11) (v := .int 0) (ty := .boolean) (C := RX11) (T := TX11) (N := 36) hx hb hts nX11_computeClosure_X11 tyX11 tyX11_ok nmX11 hown hK hP hD hS 0 rfl rfl 24 (by decide) (hts _ mX11_computeClosure_2) (fun _ h9 => h9) rfl (by decide +kernel) rfl rfl (Nat.le_of_ble_eq_true rfl) dX11_computeClosure_33 (fun H locs hP hD hS => ?_)
      have hP : va_P (dC, dI) vwCl (pX11_computeClosure cy h t_kind t_exponent t_letters t_images t_imageSizes t_fed t_at t_rowSize t_steps t_found 0 t_kept t_keptMany t_keptLetters t_made t_cutAt t_wanted t_isDone t_child 0 t_isSaved t_savedKind t_savedExponent t_savedLetters) H := hP
      have hD : va_D A (pX11_computeClosure cy h t_kind t_exponent t_letters t_images t_imageSizes t_fed t_at t_rowSize t_steps t_found 0 t_kept t_keptMany t_keptLetters t_made t_cutAt t_wanted t_isDone t_child 0 t_isSaved t_savedKind t_savedExponent t_savedLetters) := hD
      refine lv_iconst (v := 0) hx hb dX11_computeClosure_36 (by decide) ?_
      refine lv_istore_n (lv' := [(3, .int 0), (1, .long r_2), (0, .ref (h 0))]) hx hb dX11_computeClosure_37 rfl hl (by decide) rfl (fun ls hl => ?_)
      obtain ⟨n_3, hv⟩ := hv
      exact wX11_computeClosure_38 l h post  t_kind t_exponent t_letters t_images t_imageSizes t_fed t_at t_rowSize t_steps t_isSaved t_savedKind t_savedExponent t_savedLetters C0 n_3 t_found 0 t_kept t_keptMany t_keptLetters t_made t_cutAt t_wanted t_isDone t_child 0 r_2 0 hv _ _ _ hP hD hS (lv_sub hl [2, 1, 0] rfl)
    · have hv := hv.2 c_4
      refine lv_bipush (v := (-8)) hx hb dX11_computeClosure_23 (by decide) ?_
      exact W.iret (v := (-8)) hx hb hr (fun t ht hW => ⟨⟨(-8), (t_found, t_foundMany, t_kept, t_keptMany, t_keptLetters, t_made, t_cutAt, t_wanted, t_isDone, t_child, t_isFull), rfl, hv, va_Ph ht hP⟩, hS.F ht⟩) hS.2.2 dX11_computeClosure_25
  · have hv := hv.2 c_6
    refine lv_bipush (v := (-6)) hx hb dX11_computeClosure_7 (by decide) ?_
    exact W.iret (v := (-6)) hx hb hr (fun t ht hW => ⟨⟨(-6), (t_found, t_foundMany, t_kept, t_keptMany, t_keptLetters, t_made, t_cutAt, t_wanted, t_isDone, t_child, t_isFull), rfl, hv, va_Ph ht hP⟩, hS.F ht⟩) hS.2.2 dX11_computeClosure_9
theorem kX11_computeClosure (l : Launch) (dC : Nat → ClassId) (dI : Nat → Nat → Nat) (cy : Nat → ClassId) (h : Nat → Nat) (t_kind : Int32) (t_exponent : Int32) (t_letters : Int32) (t_images : Nat → Int32) (t_imageSizes : Nat → Int32) (t_fed : Int32) (t_at : Int32) (t_rowSize : Int32) (t_steps : Int32) (t_found : Nat → Int32) (t_foundMany : Int32) (t_kept : Nat → Int32) (t_keptMany : Int32) (t_keptLetters : Int32) (t_made : Nat → Int32) (t_cutAt : Nat → Int32) (t_wanted : Nat → Int32) (t_isDone : Nat → Int32) (t_child : Nat → Int32) (t_isFull : Int32) (t_isSaved : Int32) (t_savedKind : Int32) (t_savedExponent : Int32) (t_savedLetters : Int32)  (post : Int32 → (Nat → Int32) → Int32 → (Nat → Int32) → Int32 → Int32 → (Nat → Int32) → (Nat → Int32) → (Nat → Int32) → (Nat → Int32) → (Nat → Int32) → Int32 → Prop) (hv : VX11_computeClosure post t_letters t_images t_imageSizes t_found t_foundMany t_kept t_keptMany t_keptLetters t_made t_cutAt t_wanted t_isDone t_child t_isFull) : CtI l yX11_computeClosure wsX11_computeClosure rX11_computeClosure dC dI cy [.ref (h 0)] (pX11_computeClosure cy h t_kind t_exponent t_letters t_images t_imageSizes t_fed t_at t_rowSize t_steps t_found t_foundMany t_kept t_keptMany t_keptLetters t_made t_cutAt t_wanted t_isDone t_child t_isFull t_isSaved t_savedKind t_savedExponent t_savedLetters) (fun (u : (Nat → Int32) × Int32 × (Nat → Int32) × Int32 × Int32 × (Nat → Int32) × (Nat → Int32) × (Nat → Int32) × (Nat → Int32) × (Nat → Int32) × Int32) => pX11_computeClosure cy h t_kind t_exponent t_letters t_images t_imageSizes t_fed t_at t_rowSize t_steps u.1 u.2.1 u.2.2.1 u.2.2.2.1 u.2.2.2.2.1 u.2.2.2.2.2.1 u.2.2.2.2.2.2.1 u.2.2.2.2.2.2.2.1 u.2.2.2.2.2.2.2.2.1 u.2.2.2.2.2.2.2.2.2.1 u.2.2.2.2.2.2.2.2.2.2 t_isSaved t_savedKind t_savedExponent t_savedLetters) (fun (r : Int32) (u : (Nat → Int32) × Int32 × (Nat → Int32) × Int32 × Int32 × (Nat → Int32) × (Nat → Int32) × (Nat → Int32) × (Nat → Int32) × (Nat → Int32) × Int32) => post r u.1 u.2.1 u.2.2.1 u.2.2.2.1 u.2.2.2.2.1 u.2.2.2.2.2.1 u.2.2.2.2.2.2.1 u.2.2.2.2.2.2.2.1 u.2.2.2.2.2.2.2.2.1 u.2.2.2.2.2.2.2.2.2.1 u.2.2.2.2.2.2.2.2.2.2) :=
  ct_ofI (by decide) rfl (Nat.le_of_ble_eq_true rfl) (fun p e s m below meth c A ls C0 hP hD hS hl => wX11_computeClosure_0 l h post t_kind t_exponent t_letters t_images t_imageSizes t_fed t_at t_rowSize t_steps t_isSaved t_savedKind t_savedExponent t_savedLetters C0 t_found t_foundMany t_kept t_keptMany t_keptLetters t_made t_cutAt t_wanted t_isDone t_child t_isFull hv _ _ _ hP hD hS hl)
theorem mX11_template_1 : (Cond.fieldLink RX11 254 "AbelianPowersModel" "keptMany" "I") ∈ wsX11_template := List.mem_of_getElem? (i := 1) rfl
theorem mX11_template_2 : (Cond.fieldLink RX11 257 "AbelianPowersModel" "keptLetters" "I") ∈ wsX11_template := List.mem_of_getElem? (i := 2) rfl
theorem mX11_template_3 : (Cond.fieldLink RX11 44 "AbelianPowersModel" "kept" "[I") ∈ wsX11_template := List.mem_of_getElem? (i := 3) rfl
theorem nX11_template_X11 : ∀ w ∈ wsX110, w ∈ wsX11_template := fun _ h => List.mem_cons_of_mem _ (List.mem_append_right _ h)
theorem zX11_template : yX11_template.cls = RX11 ∧ yX11_template.cls ≠ "java/lang/invoke/MethodHandle" ∧ yX11_template.cls ≠ "java/lang/invoke/VarHandle" ∧ (parseMethodDescriptor yX11_template.desc).map (fun d => d.parameters.length) = some 2 := by decide +kernel
abbrev rX11_template : Room := { frames := 1, cells := 0, slots := 0, locals := 22 }
abbrev pX11_template (cy : Nat → ClassId) (h : Nat → Nat) (t_kind : Int32) (t_exponent : Int32) (t_letters : Int32) (t_fed : Int32) (t_at : Int32) (t_rowSize : Int32) (t_steps : Int32) (t_foundMany : Int32) (t_kept : Nat → Int32) (t_keptMany : Int32) (t_keptLetters : Int32) (t_isFull : Int32) (t_isSaved : Int32) (t_savedKind : Int32) (t_savedExponent : Int32) (t_savedLetters : Int32) : va_W := [(h 0, .inr (11, [.int t_kind, .int t_exponent, .int t_letters, .ref (h 2), .ref (h 3), .ref (h 4), .ref (h 5), .ref (h 6), .ref (h 7), .int t_fed, .int t_at, .ref (h 8), .int t_rowSize, .int t_steps, .ref (h 9), .int t_foundMany, .ref (h 1), .int t_keptMany, .int t_keptLetters, .ref (h 10), .ref (h 11), .ref (h 12), .ref (h 13), .ref (h 14), .int t_isFull, .ref (h 15), .ref (h 16), .int t_isSaved, .int t_savedKind, .int t_savedExponent, .int t_savedLetters, .ref (h 17), .ref (h 18), .ref (h 19), .ref (h 20), .ref (h 21)])), (h 1, .inl (cy 0, 1400, .inl t_kept))]
def VX11_template (post : Int32 → Prop)  (t_kept : Nat → Int32) (t_keptMany : Int32) (t_keptLetters : Int32) (p1 : Int32) (p2 : Int32)  : Prop := VX11_isIn (fun r_1 => (¬ (r_1 = 0) → ∀ y_2 : Int32, y_2 = ((2 : Int32) + t_keptLetters) → VX11_isIn (fun r_3 => ((r_3 = 0) → post (-1 : Int32)) ∧ (¬ (r_3 = 0) → vp_in (((7 : Int32) * p1) + p2) 1400 ∧ (∀ y_4 : Int32, y_4 = (t_kept (((7 : Int32) * p1) + p2).toNatClampNeg) → post (y_4 + 10)))) p2 0 y_2) ∧ ((r_1 = 0) → post (-2 : Int32))) p1 0 (t_keptMany - 1)
set_option maxHeartbeats 4000000 in
set_option maxRecDepth 100000 in
theorem wX11_template_0 {p : Program} (l : Launch) {e : Env} {s : State} {m : MethodId} {args : Array Value} {below : List Frame} {meth : Method} {c : Code} {dC : Nat → ClassId} {dI : Nat → Nat → Nat} {cy : Nat → ClassId} {A : Nat → Prop} (h : Nat → Nat) (post : Int32 → Prop)   (t_kind : Int32) (t_exponent : Int32) (t_letters : Int32) (t_fed : Int32) (t_at : Int32) (t_rowSize : Int32) (t_steps : Int32) (t_foundMany : Int32) (t_kept : Nat → Int32) (t_keptMany : Int32) (t_keptLetters : Int32) (t_isFull : Int32) (t_isSaved : Int32) (t_savedKind : Int32) (t_savedExponent : Int32) (t_savedLetters : Int32) (p1 : Int32) (p2 : Int32) (C0 : cx p s m args meth c cX11_template 3 (some .int) wsX11_template RX11 dC dI cy A)  : VX11_template post t_kept t_keptMany t_keptLetters p1 p2  → ∀ (H : Heap) (locs : List Loc) (ls : Array Slot), va_P (dC, dI) vwCl (pX11_template cy h t_kind t_exponent t_letters t_fed t_at t_rowSize t_steps t_foundMany t_kept t_keptMany t_keptLetters t_isFull t_isSaved t_savedKind t_savedExponent t_savedLetters) H → va_D A (pX11_template cy h t_kind t_exponent t_letters t_fed t_at t_rowSize t_steps t_foundMany t_kept t_keptMany t_keptLetters t_isFull t_isSaved t_savedKind t_savedExponent t_savedLetters) → va_S A s.heap H locs → lv_has ls 3 [(0, .ref (h 0)), (1, .int p1), (2, .int p2)] → W p l e rX11_template s m args below meth c H locs 0 0 (MQ below (va_Qi (fun (r : Int32) (_ : Unit) => post r) (fun (_ : Unit) (t : State) => va_P (dC, dI) vwCl (pX11_template cy h t_kind t_exponent t_letters t_fed t_at t_rowSize t_steps t_foundMany t_kept t_keptMany t_keptLetters t_isFull t_isSaved t_savedKind t_savedExponent t_savedLetters) t.heap) A) args s 0 0 A) (F0 m 0 ls []) := by
  have C1 := C0
  obtain ⟨hx, hb, hr, hml, hown, hts, hlocks, hK, hA⟩ := C1
  intro  hv H locs ls hP hD hS hl
  refine lv_iload_n hx hb dX11_template_0 rfl (lv_at hl 1 rfl) ?_
  refine lv_iconst (v := 0) hx hb dX11_template_1 (by decide) ?_
  refine lv_aload_n hx hb dX11_template_2 rfl (lv_at hl 0 rfl) ?_
  refine va_get (D := (dC, dI)) (ci := 11) (v := .int t_keptMany) (C := RX11) (T := TX11) (N := 36) hx hb hts nX11_template_X11 hown hK hP 0 rfl rfl 17 (by decide) (hts _ mX11_template_1) (fun _ h9 => h9) rfl dX11_template_3 ?_
  refine lv_iconst (v := 1) hx hb dX11_template_6 (by decide) ?_
  refine lv_isub hx hb dX11_template_7 ?_
  refine cb_SI (As := [.int p1, .int 0, .int ((t_keptMany - 1))]) (rest := []) ⟨hx, hb, hml, hown, hts⟩ (kX11_isIn l dC dI cy (adl []) p1 0 (t_keptMany - 1) _ hv) (va_cwS 3 hts gX11_template_X11_isIn rfl rfl rfl zX11_isIn ⟨Nat.le_of_ble_eq_true rfl, Nat.le_of_ble_eq_true rfl⟩) hK hP hD hS hA [] [none, none] rfl rfl rfl (fun _ => rfl) rfl hl.1 rfl (Nat.le_of_ble_eq_true rfl) dX11_template_8 (fun r_1 w_9 H locs hv hP hD hS => ?_)
  have hP : va_P (dC, dI) vwCl (pX11_template cy h t_kind t_exponent t_letters t_fed t_at t_rowSize t_steps t_foundMany t_kept t_keptMany t_keptLetters t_isFull t_isSaved t_savedKind t_savedExponent t_savedLetters) H := hP
  have hD : va_D A (pX11_template cy h t_kind t_exponent t_letters t_fed t_at t_rowSize t_steps t_foundMany t_kept t_keptMany t_keptLetters t_isFull t_isSaved t_savedKind t_savedExponent t_savedLetters) := hD
  refine lv_if_ne (tgt := 17) hx hb dX11_template_11 (by decide) (fun c_8 => ?_) (fun c_8 => ?_)
  · have hv := hv.1 c_8
    refine lv_iload_n hx hb dX11_template_17 rfl (lv_at hl 2 rfl) ?_
    refine lv_iconst (v := 0) hx hb dX11_template_18 (by decide) ?_
    refine lv_iconst (v := 2) hx hb dX11_template_19 (by decide) ?_
    refine lv_aload_n hx hb dX11_template_20 rfl (lv_at hl 0 rfl) ?_
    refine va_get (D := (dC, dI)) (ci := 11) (v := .int t_keptLetters) (C := RX11) (T := TX11) (N := 36) hx hb hts nX11_template_X11 hown hK hP 0 rfl rfl 18 (by decide) (hts _ mX11_template_2) (fun _ h9 => h9) rfl dX11_template_21 ?_
    refine lv_iadd hx hb dX11_template_24 ?_
    refine lv_topi (fun y_2 ey_2 => ?_)
    have hv := hv y_2 ey_2
    refine cb_SI (As := [.int p2, .int 0, .int y_2]) (rest := []) ⟨hx, hb, hml, hown, hts⟩ (kX11_isIn l dC dI cy (adl []) p2 0 y_2 _ hv) (va_cwS 3 hts gX11_template_X11_isIn rfl rfl rfl zX11_isIn ⟨Nat.le_of_ble_eq_true rfl, Nat.le_of_ble_eq_true rfl⟩) hK hP hD hS hA [] [none, none] rfl rfl rfl (fun _ => rfl) rfl hl.1 rfl (Nat.le_of_ble_eq_true rfl) dX11_template_25 (fun r_3 w_7 H locs hv hP hD hS => ?_)
    have hP : va_P (dC, dI) vwCl (pX11_template cy h t_kind t_exponent t_letters t_fed t_at t_rowSize t_steps t_foundMany t_kept t_keptMany t_keptLetters t_isFull t_isSaved t_savedKind t_savedExponent t_savedLetters) H := hP
    have hD : va_D A (pX11_template cy h t_kind t_exponent t_letters t_fed t_at t_rowSize t_steps t_foundMany t_kept t_keptMany t_keptLetters t_isFull t_isSaved t_savedKind t_savedExponent t_savedLetters) := hD
    refine lv_if_eq (tgt := 48) hx hb dX11_template_28 (by decide) (fun c_6 => ?_) (fun c_6 => ?_)
    · have hv := hv.1 c_6
      refine lv_iconst (v := (-1)) hx hb dX11_template_48 (by decide) ?_
      exact W.iret (v := (-1)) hx hb hr (fun t ht hW => ⟨⟨(-1), (), rfl, hv, va_Ph ht hP⟩, hS.F ht⟩) hS.2.2 dX11_template_49
    · have hv := hv.2 c_6
      refine lv_aload_n hx hb dX11_template_31 rfl (lv_at hl 0 rfl) ?_
      refine va_get (D := (dC, dI)) (ci := 11) (v := .ref (h 1)) (C := RX11) (T := TX11) (N := 36) hx hb hts nX11_template_X11 hown hK hP 0 rfl rfl 16 (by decide) (hts _ mX11_template_3) (fun _ h9 => h9) rfl dX11_template_32 ?_
      refine lv_bipush (v := 7) hx hb dX11_template_35 (by decide) ?_
      refine lv_iload_n hx hb dX11_template_37 rfl (lv_at hl 1 rfl) ?_
      refine lv_imul hx hb dX11_template_38 ?_
      refine lv_iload_n hx hb dX11_template_39 rfl (lv_at hl 2 rfl) ?_
      refine lv_iadd hx hb dX11_template_40 ?_
      have h_5 := hv.1
      have hv := hv.2
      refine va_iald hx hb hK hP 1 0 rfl rfl h_5 dX11_template_41 ?_
      refine lv_topi (fun y_4 ey_4 => ?_)
      have hv := hv y_4 ey_4
      refine lv_bipush (v := 10) hx hb dX11_template_42 (by decide) ?_
      refine lv_iadd hx hb dX11_template_44 ?_
      refine lv_goto (tgt := 49) hx hb dX11_template_45 (by decide) ?_
      exact W.iret (v := (y_4 + 10)) hx hb hr (fun t ht hW => ⟨⟨(y_4 + 10), (), rfl, hv, va_Ph ht hP⟩, hS.F ht⟩) hS.2.2 dX11_template_49
  · have hv := hv.2 c_8
    refine lv_bipush (v := (-2)) hx hb dX11_template_14 (by decide) ?_
    exact W.iret (v := (-2)) hx hb hr (fun t ht hW => ⟨⟨(-2), (), rfl, hv, va_Ph ht hP⟩, hS.F ht⟩) hS.2.2 dX11_template_16
theorem kX11_template (l : Launch) (dC : Nat → ClassId) (dI : Nat → Nat → Nat) (cy : Nat → ClassId) (h : Nat → Nat) (t_kind : Int32) (t_exponent : Int32) (t_letters : Int32) (t_fed : Int32) (t_at : Int32) (t_rowSize : Int32) (t_steps : Int32) (t_foundMany : Int32) (t_kept : Nat → Int32) (t_keptMany : Int32) (t_keptLetters : Int32) (t_isFull : Int32) (t_isSaved : Int32) (t_savedKind : Int32) (t_savedExponent : Int32) (t_savedLetters : Int32) (p1 : Int32) (p2 : Int32) (post : Int32 → Prop) (hv : VX11_template post t_kept t_keptMany t_keptLetters p1 p2 ) : CtI l yX11_template wsX11_template rX11_template dC dI cy [.ref (h 0), .int p1, .int p2] (pX11_template cy h t_kind t_exponent t_letters t_fed t_at t_rowSize t_steps t_foundMany t_kept t_keptMany t_keptLetters t_isFull t_isSaved t_savedKind t_savedExponent t_savedLetters) (fun (_ : Unit) => pX11_template cy h t_kind t_exponent t_letters t_fed t_at t_rowSize t_steps t_foundMany t_kept t_keptMany t_keptLetters t_isFull t_isSaved t_savedKind t_savedExponent t_savedLetters) (fun (r : Int32) (_ : Unit) => post r) :=
  ct_ofI (by decide) rfl (Nat.le_of_ble_eq_true rfl) (fun p e s m below meth c A ls C0 hP hD hS hl => wX11_template_0 l h post t_kind t_exponent t_letters t_fed t_at t_rowSize t_steps t_foundMany t_kept t_keptMany t_keptLetters t_isFull t_isSaved t_savedKind t_savedExponent t_savedLetters p1 p2 C0  hv _ _ _ hP hD hS hl)
theorem mX11_occurs_1 : (Cond.fieldLink RX11 44 "AbelianPowersModel" "kept" "[I") ∈ wsX11_occurs := List.mem_of_getElem? (i := 1) rfl
theorem mX11_occurs_2 : (Cond.fieldLink RX11 118 "AbelianPowersModel" "rowSize" "I") ∈ wsX11_occurs := List.mem_of_getElem? (i := 2) rfl
theorem mX11_occurs_3 : (Cond.fieldLink RX11 38 "AbelianPowersModel" "row" "[I") ∈ wsX11_occurs := List.mem_of_getElem? (i := 3) rfl
theorem mX11_occurs_4 : (Cond.fieldLink RX11 16 "AbelianPowersModel" "letters" "I") ∈ wsX11_occurs := List.mem_of_getElem? (i := 4) rfl
theorem nX11_occurs_X11 : ∀ w ∈ wsX110, w ∈ wsX11_occurs := fun _ h => List.mem_cons_of_mem _ (List.mem_append_right _ h)
theorem zX11_occurs : yX11_occurs.cls = RX11 ∧ yX11_occurs.cls ≠ "java/lang/invoke/MethodHandle" ∧ yX11_occurs.cls ≠ "java/lang/invoke/VarHandle" ∧ (parseMethodDescriptor yX11_occurs.desc).map (fun d => d.parameters.length) = some 4 := by decide +kernel
abbrev rX11_occurs : Room := { frames := 1, cells := 0, slots := 0, locals := 25 }
abbrev pX11_occurs (cy : Nat → ClassId) (h : Nat → Nat) (t_kind : Int32) (t_exponent : Int32) (t_letters : Int32) (t_fed : Int32) (t_at : Int32) (t_row : Nat → Int32) (t_rowSize : Int32) (t_steps : Int32) (t_foundMany : Int32) (t_kept : Nat → Int32) (t_keptMany : Int32) (t_keptLetters : Int32) (t_isFull : Int32) (t_isSaved : Int32) (t_savedKind : Int32) (t_savedExponent : Int32) (t_savedLetters : Int32) : va_W := [(h 0, .inr (11, [.int t_kind, .int t_exponent, .int t_letters, .ref (h 3), .ref (h 4), .ref (h 5), .ref (h 6), .ref (h 7), .ref (h 8), .int t_fed, .int t_at, .ref (h 1), .int t_rowSize, .int t_steps, .ref (h 9), .int t_foundMany, .ref (h 2), .int t_keptMany, .int t_keptLetters, .ref (h 10), .ref (h 11), .ref (h 12), .ref (h 13), .ref (h 14), .int t_isFull, .ref (h 15), .ref (h 16), .int t_isSaved, .int t_savedKind, .int t_savedExponent, .int t_savedLetters, .ref (h 17), .ref (h 18), .ref (h 19), .ref (h 20), .ref (h 21)])), (h 1, .inl (cy 0, 45, .inl t_row)), (h 2, .inl (cy 0, 1400, .inl t_kept))]
def VX11_occurs_151 (post : Int32 → Prop) (K191 : Int32 → Int32 → Int32 → Int32 → Int32 → Prop) (t_letters : Int32) (t_row : Nat → Int32) (t_rowSize : Int32) (t_kept : Nat → Int32) (p1 : Int32) (p2 : Int32) (p3 : Int32) (p4 : Int32) (x5 : Int32) (x6 : Int32) (x7 : Int32) (x8 : Int32) (x9 : Int32) : Prop := ((x7 = 0) → K191 x5 x6 x9 1 0) ∧ (¬ (x7 = 0) → vp_in ((p2 + x8) - 1) 45 ∧ (∀ y_24 : Int32, y_24 = (t_row ((p2 + x8) - 1).toNatClampNeg) → vp_in (((7 : Int32) * p1) + 2) 1400 ∧ (∀ y_26 : Int32, y_26 = (t_kept (((7 : Int32) * p1) + 2).toNatClampNeg) → (¬ (y_24 = y_26) → K191 x5 x6 x9 0 0) ∧ ((y_24 = y_26) → K191 x5 x6 x9 1 0))))
def VX11_occurs_125 (post : Int32 → Prop) (K191 : Int32 → Int32 → Int32 → Int32 → Int32 → Prop) (t_letters : Int32) (t_row : Nat → Int32) (t_rowSize : Int32) (t_kept : Nat → Int32) (p1 : Int32) (p2 : Int32) (p3 : Int32) (p4 : Int32) (x5 : Int32) (x6 : Int32) (x7 : Int32) (x8 : Int32) (x9 : Int32) : Prop := ((x6 = 0) → VX11_occurs_151 post K191 t_letters t_row t_rowSize t_kept p1 p2 p3 p4 x5 x6 x7 x8 x9) ∧ (¬ (x6 = 0) → vp_in x9 45 ∧ (vp_in (((7 : Int32) * p1) + 1) 1400 ∧ (∀ y_20 : Int32, y_20 = (t_kept (((7 : Int32) * p1) + 1).toNatClampNeg) → (¬ ((t_row x9.toNatClampNeg) = y_20) → K191 x5 x6 x9 0 0) ∧ (((t_row x9.toNatClampNeg) = y_20) → VX11_occurs_151 post K191 t_letters t_row t_rowSize t_kept p1 p2 p3 p4 x5 x6 x7 x8 x9))))
def VX11_occurs_191 (post : Int32 → Prop)  (t_letters : Int32) (t_row : Nat → Int32) (t_rowSize : Int32) (t_kept : Nat → Int32) (p1 : Int32) (p2 : Int32) (p3 : Int32) (p4 : Int32) : Nat → Int32 → Int32 → Int32 → Int32 → Int32 → Prop
  | 0, _, _, _, _, _ => False
  | n + 1, x5, x6, x9, x10, x11 => ((t_letters ≤ x11) → vbo x10 ∧ post x10) ∧ (¬ (t_letters ≤ x11) → ((x10 = 0) → vbo x10 ∧ post x10) ∧ (¬ (x10 = 0) → VX11_count (fun r_30 => VX11_count (fun r_31 => ∀ y_32 : Int32, y_32 = ((((7 : Int32) * p1) + 3) + x11) → vp_in y_32 1400 ∧ ((¬ ((r_30 - r_31) = (t_kept y_32.toNatClampNeg)) → VX11_occurs_191 post t_letters t_row t_rowSize t_kept p1 p2 p3 p4 n x5 x6 x9 0 (x11 + 1)) ∧ (((r_30 - r_31) = (t_kept y_32.toNatClampNeg)) → VX11_occurs_191 post t_letters t_row t_rowSize t_kept p1 p2 p3 p4 n x5 x6 x9 1 (x11 + 1)))) t_row (p2 + x5) p3 x11) t_row (x9 + x6) p4 x11))
def VX11_occurs_59 (post : Int32 → Prop)  (t_letters : Int32) (t_row : Nat → Int32) (t_rowSize : Int32) (t_kept : Nat → Int32) (p1 : Int32) (p2 : Int32) (p3 : Int32) (p4 : Int32) (x5 : Int32) (x6 : Int32) (s0 : Int32) : Prop := ∀ y_10 : Int32, y_10 = ((((x5 + p3) + x6) + p4) + s0) → ((y_10 = 0) → post (0 : Int32)) ∧ (¬ (y_10 = 0) → (((p2 + y_10) ≤ t_rowSize) → ((x5 = 0) → VX11_occurs_125 post (fun x5 x6 x9 x10 x11 => ∃ n191 : Nat, VX11_occurs_191 post t_letters t_row t_rowSize t_kept p1 p2 p3 p4 n191 x5 x6 x9 x10 x11) t_letters t_row t_rowSize t_kept p1 p2 p3 p4 x5 x6 s0 y_10 ((p2 + x5) + p3)) ∧ (¬ (x5 = 0) → vp_in p2 45 ∧ (vp_in ((7 : Int32) * p1) 1400 ∧ (∀ y_12 : Int32, y_12 = (t_kept ((7 : Int32) * p1).toNatClampNeg) → (¬ ((t_row p2.toNatClampNeg) = y_12) → ∃ n191 : Nat, VX11_occurs_191 post t_letters t_row t_rowSize t_kept p1 p2 p3 p4 n191 x5 x6 ((p2 + x5) + p3) 0 0) ∧ (((t_row p2.toNatClampNeg) = y_12) → VX11_occurs_125 post (fun x5 x6 x9 x10 x11 => ∃ n191 : Nat, VX11_occurs_191 post t_letters t_row t_rowSize t_kept p1 p2 p3 p4 n191 x5 x6 x9 x10 x11) t_letters t_row t_rowSize t_kept p1 p2 p3 p4 x5 x6 s0 y_10 ((p2 + x5) + p3)))))) ∧ (¬ ((p2 + y_10) ≤ t_rowSize) → post (0 : Int32)))
def VX11_occurs_38 (post : Int32 → Prop)  (t_letters : Int32) (t_row : Nat → Int32) (t_rowSize : Int32) (t_kept : Nat → Int32) (p1 : Int32) (p2 : Int32) (p3 : Int32) (p4 : Int32) (x5 : Int32) (s0 : Int32) : Prop := vp_in (((7 : Int32) * p1) + 2) 1400 ∧ (∀ y_7 : Int32, y_7 = (t_kept (((7 : Int32) * p1) + 2).toNatClampNeg) → ((0 ≤ y_7) → VX11_occurs_59 post t_letters t_row t_rowSize t_kept p1 p2 p3 p4 x5 s0 1) ∧ (¬ (0 ≤ y_7) → VX11_occurs_59 post t_letters t_row t_rowSize t_kept p1 p2 p3 p4 x5 s0 0))
def VX11_occurs_17 (post : Int32 → Prop)  (t_letters : Int32) (t_row : Nat → Int32) (t_rowSize : Int32) (t_kept : Nat → Int32) (p1 : Int32) (p2 : Int32) (p3 : Int32) (p4 : Int32) (s0 : Int32) : Prop := vp_in (((7 : Int32) * p1) + 1) 1400 ∧ (∀ y_4 : Int32, y_4 = (t_kept (((7 : Int32) * p1) + 1).toNatClampNeg) → ((0 ≤ y_4) → VX11_occurs_38 post t_letters t_row t_rowSize t_kept p1 p2 p3 p4 s0 1) ∧ (¬ (0 ≤ y_4) → VX11_occurs_38 post t_letters t_row t_rowSize t_kept p1 p2 p3 p4 s0 0))
def VX11_occurs (post : Int32 → Prop)  (t_letters : Int32) (t_row : Nat → Int32) (t_rowSize : Int32) (t_kept : Nat → Int32) (p1 : Int32) (p2 : Int32) (p3 : Int32) (p4 : Int32)  : Prop := vp_in ((7 : Int32) * p1) 1400 ∧ (∀ y_1 : Int32, y_1 = (t_kept ((7 : Int32) * p1).toNatClampNeg) → ((0 ≤ y_1) → VX11_occurs_17 post t_letters t_row t_rowSize t_kept p1 p2 p3 p4 1) ∧ (¬ (0 ≤ y_1) → VX11_occurs_17 post t_letters t_row t_rowSize t_kept p1 p2 p3 p4 0))
set_option maxHeartbeats 4000000 in
set_option maxRecDepth 100000 in
theorem wX11_occurs_151 {p : Program} (l : Launch) {e : Env} {s : State} {m : MethodId} {args : Array Value} {below : List Frame} {meth : Method} {c : Code} {dC : Nat → ClassId} {dI : Nat → Nat → Nat} {cy : Nat → ClassId} {A : Nat → Prop} (h : Nat → Nat) (post : Int32 → Prop) (K191 : Int32 → Int32 → Int32 → Int32 → Int32 → Prop)  (t_kind : Int32) (t_exponent : Int32) (t_letters : Int32) (t_fed : Int32) (t_at : Int32) (t_row : Nat → Int32) (t_rowSize : Int32) (t_steps : Int32) (t_foundMany : Int32) (t_kept : Nat → Int32) (t_keptMany : Int32) (t_keptLetters : Int32) (t_isFull : Int32) (t_isSaved : Int32) (t_savedKind : Int32) (t_savedExponent : Int32) (t_savedLetters : Int32) (p1 : Int32) (p2 : Int32) (p3 : Int32) (p4 : Int32) (C0 : cx p s m args meth c cX11_occurs 12 (some .boolean) wsX11_occurs RX11 dC dI cy A) (hK191 : ∀ (x5 : Int32) (x6 : Int32) (x9 : Int32) (x10 : Int32) (x11 : Int32), K191 x5 x6 x9 x10 x11 → ∀ (H : Heap) (locs : List Loc) (ls : Array Slot), va_P (dC, dI) vwCl (pX11_occurs cy h t_kind t_exponent t_letters t_fed t_at t_row t_rowSize t_steps t_foundMany t_kept t_keptMany t_keptLetters t_isFull t_isSaved t_savedKind t_savedExponent t_savedLetters) H → va_D A (pX11_occurs cy h t_kind t_exponent t_letters t_fed t_at t_row t_rowSize t_steps t_foundMany t_kept t_keptMany t_keptLetters t_isFull t_isSaved t_savedKind t_savedExponent t_savedLetters) → va_S A s.heap H locs → lv_has ls 12 [(0, .ref (h 0)), (1, .int p1), (2, .int p2), (3, .int p3), (4, .int p4), (5, .int x5), (6, .int x6), (9, .int x9), (10, .int x10), (11, .int x11)] → W p l e rX11_occurs s m args below meth c H locs 0 0 (MQ below (va_Qi (fun (r : Int32) (_ : Unit) => post r) (fun (_ : Unit) (t : State) => va_P (dC, dI) vwCl (pX11_occurs cy h t_kind t_exponent t_letters t_fed t_at t_row t_rowSize t_steps t_foundMany t_kept t_keptMany t_keptLetters t_isFull t_isSaved t_savedKind t_savedExponent t_savedLetters) t.heap) A) args s 0 0 A) (F0 m 191 ls [])) : ∀ (x5 : Int32) (x6 : Int32) (x7 : Int32) (x8 : Int32) (x9 : Int32), VX11_occurs_151 post K191 t_letters t_row t_rowSize t_kept p1 p2 p3 p4 x5 x6 x7 x8 x9 → ∀ (H : Heap) (locs : List Loc) (ls : Array Slot), va_P (dC, dI) vwCl (pX11_occurs cy h t_kind t_exponent t_letters t_fed t_at t_row t_rowSize t_steps t_foundMany t_kept t_keptMany t_keptLetters t_isFull t_isSaved t_savedKind t_savedExponent t_savedLetters) H → va_D A (pX11_occurs cy h t_kind t_exponent t_letters t_fed t_at t_row t_rowSize t_steps t_foundMany t_kept t_keptMany t_keptLetters t_isFull t_isSaved t_savedKind t_savedExponent t_savedLetters) → va_S A s.heap H locs → lv_has ls 12 [(0, .ref (h 0)), (1, .int p1), (2, .int p2), (3, .int p3), (4, .int p4), (5, .int x5), (6, .int x6), (7, .int x7), (8, .int x8), (9, .int x9)] → W p l e rX11_occurs s m args below meth c H locs 0 0 (MQ below (va_Qi (fun (r : Int32) (_ : Unit) => post r) (fun (_ : Unit) (t : State) => va_P (dC, dI) vwCl (pX11_occurs cy h t_kind t_exponent t_letters t_fed t_at t_row t_rowSize t_steps t_foundMany t_kept t_keptMany t_keptLetters t_isFull t_isSaved t_savedKind t_savedExponent t_savedLetters) t.heap) A) args s 0 0 A) (F0 m 151 ls []) := by
  have C1 := C0
  obtain ⟨hx, hb, hr, hml, hown, hts, hlocks, hK, hA⟩ := C1
  intro x5 x6 x7 x8 x9 hv H locs ls hP hD hS hl
  refine lv_iload hx hb dX11_occurs_151 (lv_at hl 7 rfl) ?_
  refine lv_if_eq (tgt := 181) hx hb dX11_occurs_153 (by decide) (fun c_29 => ?_) (fun c_29 => ?_)
  · have hv := hv.1 c_29
    refine lv_iconst (v := 1) hx hb dX11_occurs_181 (by decide) ?_
    refine lv_goto (tgt := 186) hx hb dX11_occurs_182 (by decide) ?_
    refine lv_istore (lv' := [(10, .int 1), (0, .ref (h 0)), (1, .int p1), (2, .int p2), (3, .int p3), (4, .int p4), (5, .int x5), (6, .int x6), (7, .int x7), (8, .int x8), (9, .int x9)]) hx hb dX11_occurs_186 hl (by decide) rfl (fun ls hl => ?_)
    refine lv_iconst (v := 0) hx hb dX11_occurs_188 (by decide) ?_
    refine lv_istore (lv' := [(11, .int 0), (10, .int 1), (0, .ref (h 0)), (1, .int p1), (2, .int p2), (3, .int p3), (4, .int p4), (5, .int x5), (6, .int x6), (7, .int x7), (8, .int x8), (9, .int x9)]) hx hb dX11_occurs_189 hl (by decide) rfl (fun ls hl => ?_)
    exact hK191 x5 x6 x9 1 0 hv _ _ _ hP hD hS (lv_sub hl [2, 3, 4, 5, 6, 7, 8, 11, 1, 0] rfl)
  · have hv := hv.2 c_29
    refine lv_aload_n hx hb dX11_occurs_156 rfl (lv_at hl 0 rfl) ?_
    refine va_get (D := (dC, dI)) (ci := 11) (v := .ref (h 1)) (C := RX11) (T := TX11) (N := 36) hx hb hts nX11_occurs_X11 hown hK hP 0 rfl rfl 11 (by decide) (hts _ mX11_occurs_3) (fun _ h9 => h9) rfl dX11_occurs_157 ?_
    refine lv_iload_n hx hb dX11_occurs_160 rfl (lv_at hl 2 rfl) ?_
    refine lv_iload hx hb dX11_occurs_161 (lv_at hl 8 rfl) ?_
    refine lv_iadd hx hb dX11_occurs_163 ?_
    refine lv_iconst (v := 1) hx hb dX11_occurs_164 (by decide) ?_
    refine lv_isub hx hb dX11_occurs_165 ?_
    have h_25 := hv.1
    have hv := hv.2
    refine va_iald hx hb hK hP 1 0 rfl rfl h_25 dX11_occurs_166 ?_
    refine lv_topi (fun y_24 ey_24 => ?_)
    have hv := hv y_24 ey_24
    refine lv_aload_n hx hb dX11_occurs_167 rfl (lv_at hl 0 rfl) ?_
    refine va_get (D := (dC, dI)) (ci := 11) (v := .ref (h 2)) (C := RX11) (T := TX11) (N := 36) hx hb hts nX11_occurs_X11 hown hK hP 0 rfl rfl 16 (by decide) (hts _ mX11_occurs_1) (fun _ h9 => h9) rfl dX11_occurs_168 ?_
    refine lv_bipush (v := 7) hx hb dX11_occurs_171 (by decide) ?_
    refine lv_iload_n hx hb dX11_occurs_173 rfl (lv_at hl 1 rfl) ?_
    refine lv_imul hx hb dX11_occurs_174 ?_
    refine lv_iconst (v := 2) hx hb dX11_occurs_175 (by decide) ?_
    refine lv_iadd hx hb dX11_occurs_176 ?_
    have h_27 := hv.1
    have hv := hv.2
    refine va_iald hx hb hK hP 2 0 rfl rfl h_27 dX11_occurs_177 ?_
    refine lv_topi (fun y_26 ey_26 => ?_)
    have hv := hv y_26 ey_26
    refine lv_icmp_ne (tgt := 185) hx hb dX11_occurs_178 (by decide) (fun c_28 => ?_) (fun c_28 => ?_)
    · have hv := hv.1 c_28
      refine lv_iconst (v := 0) hx hb dX11_occurs_185 (by decide) ?_
      refine lv_istore (lv' := [(10, .int 0), (0, .ref (h 0)), (1, .int p1), (2, .int p2), (3, .int p3), (4, .int p4), (5, .int x5), (6, .int x6), (7, .int x7), (8, .int x8), (9, .int x9)]) hx hb dX11_occurs_186 hl (by decide) rfl (fun ls hl => ?_)
      refine lv_iconst (v := 0) hx hb dX11_occurs_188 (by decide) ?_
      refine lv_istore (lv' := [(11, .int 0), (10, .int 0), (0, .ref (h 0)), (1, .int p1), (2, .int p2), (3, .int p3), (4, .int p4), (5, .int x5), (6, .int x6), (7, .int x7), (8, .int x8), (9, .int x9)]) hx hb dX11_occurs_189 hl (by decide) rfl (fun ls hl => ?_)
      exact hK191 x5 x6 x9 0 0 hv _ _ _ hP hD hS (lv_sub hl [2, 3, 4, 5, 6, 7, 8, 11, 1, 0] rfl)
    · have hv := hv.2 c_28
      refine lv_iconst (v := 1) hx hb dX11_occurs_181 (by decide) ?_
      refine lv_goto (tgt := 186) hx hb dX11_occurs_182 (by decide) ?_
      refine lv_istore (lv' := [(10, .int 1), (0, .ref (h 0)), (1, .int p1), (2, .int p2), (3, .int p3), (4, .int p4), (5, .int x5), (6, .int x6), (7, .int x7), (8, .int x8), (9, .int x9)]) hx hb dX11_occurs_186 hl (by decide) rfl (fun ls hl => ?_)
      refine lv_iconst (v := 0) hx hb dX11_occurs_188 (by decide) ?_
      refine lv_istore (lv' := [(11, .int 0), (10, .int 1), (0, .ref (h 0)), (1, .int p1), (2, .int p2), (3, .int p3), (4, .int p4), (5, .int x5), (6, .int x6), (7, .int x7), (8, .int x8), (9, .int x9)]) hx hb dX11_occurs_189 hl (by decide) rfl (fun ls hl => ?_)
      exact hK191 x5 x6 x9 1 0 hv _ _ _ hP hD hS (lv_sub hl [2, 3, 4, 5, 6, 7, 8, 11, 1, 0] rfl)
set_option maxHeartbeats 4000000 in
set_option maxRecDepth 100000 in
theorem wX11_occurs_125 {p : Program} (l : Launch) {e : Env} {s : State} {m : MethodId} {args : Array Value} {below : List Frame} {meth : Method} {c : Code} {dC : Nat → ClassId} {dI : Nat → Nat → Nat} {cy : Nat → ClassId} {A : Nat → Prop} (h : Nat → Nat) (post : Int32 → Prop) (K191 : Int32 → Int32 → Int32 → Int32 → Int32 → Prop)  (t_kind : Int32) (t_exponent : Int32) (t_letters : Int32) (t_fed : Int32) (t_at : Int32) (t_row : Nat → Int32) (t_rowSize : Int32) (t_steps : Int32) (t_foundMany : Int32) (t_kept : Nat → Int32) (t_keptMany : Int32) (t_keptLetters : Int32) (t_isFull : Int32) (t_isSaved : Int32) (t_savedKind : Int32) (t_savedExponent : Int32) (t_savedLetters : Int32) (p1 : Int32) (p2 : Int32) (p3 : Int32) (p4 : Int32) (C0 : cx p s m args meth c cX11_occurs 12 (some .boolean) wsX11_occurs RX11 dC dI cy A) (hK191 : ∀ (x5 : Int32) (x6 : Int32) (x9 : Int32) (x10 : Int32) (x11 : Int32), K191 x5 x6 x9 x10 x11 → ∀ (H : Heap) (locs : List Loc) (ls : Array Slot), va_P (dC, dI) vwCl (pX11_occurs cy h t_kind t_exponent t_letters t_fed t_at t_row t_rowSize t_steps t_foundMany t_kept t_keptMany t_keptLetters t_isFull t_isSaved t_savedKind t_savedExponent t_savedLetters) H → va_D A (pX11_occurs cy h t_kind t_exponent t_letters t_fed t_at t_row t_rowSize t_steps t_foundMany t_kept t_keptMany t_keptLetters t_isFull t_isSaved t_savedKind t_savedExponent t_savedLetters) → va_S A s.heap H locs → lv_has ls 12 [(0, .ref (h 0)), (1, .int p1), (2, .int p2), (3, .int p3), (4, .int p4), (5, .int x5), (6, .int x6), (9, .int x9), (10, .int x10), (11, .int x11)] → W p l e rX11_occurs s m args below meth c H locs 0 0 (MQ below (va_Qi (fun (r : Int32) (_ : Unit) => post r) (fun (_ : Unit) (t : State) => va_P (dC, dI) vwCl (pX11_occurs cy h t_kind t_exponent t_letters t_fed t_at t_row t_rowSize t_steps t_foundMany t_kept t_keptMany t_keptLetters t_isFull t_isSaved t_savedKind t_savedExponent t_savedLetters) t.heap) A) args s 0 0 A) (F0 m 191 ls [])) : ∀ (x5 : Int32) (x6 : Int32) (x7 : Int32) (x8 : Int32) (x9 : Int32), VX11_occurs_125 post K191 t_letters t_row t_rowSize t_kept p1 p2 p3 p4 x5 x6 x7 x8 x9 → ∀ (H : Heap) (locs : List Loc) (ls : Array Slot), va_P (dC, dI) vwCl (pX11_occurs cy h t_kind t_exponent t_letters t_fed t_at t_row t_rowSize t_steps t_foundMany t_kept t_keptMany t_keptLetters t_isFull t_isSaved t_savedKind t_savedExponent t_savedLetters) H → va_D A (pX11_occurs cy h t_kind t_exponent t_letters t_fed t_at t_row t_rowSize t_steps t_foundMany t_kept t_keptMany t_keptLetters t_isFull t_isSaved t_savedKind t_savedExponent t_savedLetters) → va_S A s.heap H locs → lv_has ls 12 [(0, .ref (h 0)), (1, .int p1), (2, .int p2), (3, .int p3), (4, .int p4), (5, .int x5), (6, .int x6), (7, .int x7), (8, .int x8), (9, .int x9)] → W p l e rX11_occurs s m args below meth c H locs 0 0 (MQ below (va_Qi (fun (r : Int32) (_ : Unit) => post r) (fun (_ : Unit) (t : State) => va_P (dC, dI) vwCl (pX11_occurs cy h t_kind t_exponent t_letters t_fed t_at t_row t_rowSize t_steps t_foundMany t_kept t_keptMany t_keptLetters t_isFull t_isSaved t_savedKind t_savedExponent t_savedLetters) t.heap) A) args s 0 0 A) (F0 m 125 ls []) := by
  have C1 := C0
  obtain ⟨hx, hb, hr, hml, hown, hts, hlocks, hK, hA⟩ := C1
  intro x5 x6 x7 x8 x9 hv H locs ls hP hD hS hl
  refine lv_iload hx hb dX11_occurs_125 (lv_at hl 6 rfl) ?_
  refine lv_if_eq (tgt := 151) hx hb dX11_occurs_127 (by decide) (fun c_23 => ?_) (fun c_23 => ?_)
  · have hv := hv.1 c_23
    exact wX11_occurs_151 l h post K191  t_kind t_exponent t_letters t_fed t_at t_row t_rowSize t_steps t_foundMany t_kept t_keptMany t_keptLetters t_isFull t_isSaved t_savedKind t_savedExponent t_savedLetters p1 p2 p3 p4 C0 hK191 x5 x6 x7 x8 x9 hv _ _ _ hP hD hS (lv_sub hl [0, 1, 2, 3, 4, 5, 6, 7, 8, 9] rfl)
  · have hv := hv.2 c_23
    refine lv_aload_n hx hb dX11_occurs_130 rfl (lv_at hl 0 rfl) ?_
    refine va_get (D := (dC, dI)) (ci := 11) (v := .ref (h 1)) (C := RX11) (T := TX11) (N := 36) hx hb hts nX11_occurs_X11 hown hK hP 0 rfl rfl 11 (by decide) (hts _ mX11_occurs_3) (fun _ h9 => h9) rfl dX11_occurs_131 ?_
    refine lv_iload hx hb dX11_occurs_134 (lv_at hl 9 rfl) ?_
    have h_19 := hv.1
    have hv := hv.2
    refine va_iald hx hb hK hP 1 0 rfl rfl h_19 dX11_occurs_136 ?_
    refine lv_aload_n hx hb dX11_occurs_137 rfl (lv_at hl 0 rfl) ?_
    refine va_get (D := (dC, dI)) (ci := 11) (v := .ref (h 2)) (C := RX11) (T := TX11) (N := 36) hx hb hts nX11_occurs_X11 hown hK hP 0 rfl rfl 16 (by decide) (hts _ mX11_occurs_1) (fun _ h9 => h9) rfl dX11_occurs_138 ?_
    refine lv_bipush (v := 7) hx hb dX11_occurs_141 (by decide) ?_
    refine lv_iload_n hx hb dX11_occurs_143 rfl (lv_at hl 1 rfl) ?_
    refine lv_imul hx hb dX11_occurs_144 ?_
    refine lv_iconst (v := 1) hx hb dX11_occurs_145 (by decide) ?_
    refine lv_iadd hx hb dX11_occurs_146 ?_
    have h_21 := hv.1
    have hv := hv.2
    refine va_iald hx hb hK hP 2 0 rfl rfl h_21 dX11_occurs_147 ?_
    refine lv_topi (fun y_20 ey_20 => ?_)
    have hv := hv y_20 ey_20
    refine lv_icmp_ne (tgt := 185) hx hb dX11_occurs_148 (by decide) (fun c_22 => ?_) (fun c_22 => ?_)
    · have hv := hv.1 c_22
      refine lv_iconst (v := 0) hx hb dX11_occurs_185 (by decide) ?_
      refine lv_istore (lv' := [(10, .int 0), (0, .ref (h 0)), (1, .int p1), (2, .int p2), (3, .int p3), (4, .int p4), (5, .int x5), (6, .int x6), (7, .int x7), (8, .int x8), (9, .int x9)]) hx hb dX11_occurs_186 hl (by decide) rfl (fun ls hl => ?_)
      refine lv_iconst (v := 0) hx hb dX11_occurs_188 (by decide) ?_
      refine lv_istore (lv' := [(11, .int 0), (10, .int 0), (0, .ref (h 0)), (1, .int p1), (2, .int p2), (3, .int p3), (4, .int p4), (5, .int x5), (6, .int x6), (7, .int x7), (8, .int x8), (9, .int x9)]) hx hb dX11_occurs_189 hl (by decide) rfl (fun ls hl => ?_)
      exact hK191 x5 x6 x9 0 0 hv _ _ _ hP hD hS (lv_sub hl [2, 3, 4, 5, 6, 7, 8, 11, 1, 0] rfl)
    · have hv := hv.2 c_22
      exact wX11_occurs_151 l h post K191  t_kind t_exponent t_letters t_fed t_at t_row t_rowSize t_steps t_foundMany t_kept t_keptMany t_keptLetters t_isFull t_isSaved t_savedKind t_savedExponent t_savedLetters p1 p2 p3 p4 C0 hK191 x5 x6 x7 x8 x9 hv _ _ _ hP hD hS (lv_sub hl [0, 1, 2, 3, 4, 5, 6, 7, 8, 9] rfl)
set_option maxHeartbeats 4000000 in
set_option maxRecDepth 100000 in
theorem wX11_occurs_191 {p : Program} (l : Launch) {e : Env} {s : State} {m : MethodId} {args : Array Value} {below : List Frame} {meth : Method} {c : Code} {dC : Nat → ClassId} {dI : Nat → Nat → Nat} {cy : Nat → ClassId} {A : Nat → Prop} (h : Nat → Nat) (post : Int32 → Prop)   (t_kind : Int32) (t_exponent : Int32) (t_letters : Int32) (t_fed : Int32) (t_at : Int32) (t_row : Nat → Int32) (t_rowSize : Int32) (t_steps : Int32) (t_foundMany : Int32) (t_kept : Nat → Int32) (t_keptMany : Int32) (t_keptLetters : Int32) (t_isFull : Int32) (t_isSaved : Int32) (t_savedKind : Int32) (t_savedExponent : Int32) (t_savedLetters : Int32) (p1 : Int32) (p2 : Int32) (p3 : Int32) (p4 : Int32) (C0 : cx p s m args meth c cX11_occurs 12 (some .boolean) wsX11_occurs RX11 dC dI cy A)  : ∀ (n : Nat) (x5 : Int32) (x6 : Int32) (x9 : Int32) (x10 : Int32) (x11 : Int32), VX11_occurs_191 post t_letters t_row t_rowSize t_kept p1 p2 p3 p4 n x5 x6 x9 x10 x11 → ∀ (H : Heap) (locs : List Loc) (ls : Array Slot), va_P (dC, dI) vwCl (pX11_occurs cy h t_kind t_exponent t_letters t_fed t_at t_row t_rowSize t_steps t_foundMany t_kept t_keptMany t_keptLetters t_isFull t_isSaved t_savedKind t_savedExponent t_savedLetters) H → va_D A (pX11_occurs cy h t_kind t_exponent t_letters t_fed t_at t_row t_rowSize t_steps t_foundMany t_kept t_keptMany t_keptLetters t_isFull t_isSaved t_savedKind t_savedExponent t_savedLetters) → va_S A s.heap H locs → lv_has ls 12 [(0, .ref (h 0)), (1, .int p1), (2, .int p2), (3, .int p3), (4, .int p4), (5, .int x5), (6, .int x6), (9, .int x9), (10, .int x10), (11, .int x11)] → W p l e rX11_occurs s m args below meth c H locs 0 0 (MQ below (va_Qi (fun (r : Int32) (_ : Unit) => post r) (fun (_ : Unit) (t : State) => va_P (dC, dI) vwCl (pX11_occurs cy h t_kind t_exponent t_letters t_fed t_at t_row t_rowSize t_steps t_foundMany t_kept t_keptMany t_keptLetters t_isFull t_isSaved t_savedKind t_savedExponent t_savedLetters) t.heap) A) args s 0 0 A) (F0 m 191 ls []) := by
  have C1 := C0
  obtain ⟨hx, hb, hr, hml, hown, hts, hlocks, hK, hA⟩ := C1
  intro n
  induction n with
  | zero => intro x5 x6 x9 x10 x11 hv; exact hv.elim
  | succ n ih =>
    intro x5 x6 x9 x10 x11 hv H locs ls hP hD hS hl
    refine lv_iload hx hb dX11_occurs_191 (lv_at hl 9 rfl) ?_
    refine lv_aload_n hx hb dX11_occurs_193 rfl (lv_at hl 0 rfl) ?_
    refine va_get (D := (dC, dI)) (ci := 11) (v := .int t_letters) (C := RX11) (T := TX11) (N := 36) hx hb hts nX11_occurs_X11 hown hK hP 0 rfl rfl 2 (by decide) (hts _ mX11_occurs_4) (fun _ h9 => h9) rfl dX11_occurs_194 ?_
    refine lv_icmp_ge (tgt := 260) hx hb dX11_occurs_197 (by decide) (fun c_38 => ?_) (fun c_38 => ?_)
    · have hv := hv.1 c_38
      refine lv_iload hx hb dX11_occurs_260 (lv_at hl 8 rfl) ?_
      exact W.zret (v := x10) hx hb hr hv.1 (fun t ht hW => ⟨⟨x10, (), rfl, hv.2, va_Ph ht hP⟩, hS.F ht⟩) hS.2.2 dX11_occurs_262
    · have hv := hv.2 c_38
      refine lv_iload hx hb dX11_occurs_200 (lv_at hl 8 rfl) ?_
      refine lv_if_eq (tgt := 260) hx hb dX11_occurs_202 (by decide) (fun c_37 => ?_) (fun c_37 => ?_)
      · have hv := hv.1 c_37
        refine lv_iload hx hb dX11_occurs_260 (lv_at hl 8 rfl) ?_
        exact W.zret (v := x10) hx hb hr hv.1 (fun t ht hW => ⟨⟨x10, (), rfl, hv.2, va_Ph ht hP⟩, hS.F ht⟩) hS.2.2 dX11_occurs_262
      · have hv := hv.2 c_37
        refine lv_aload_n hx hb dX11_occurs_205 rfl (lv_at hl 0 rfl) ?_
        refine lv_iload hx hb dX11_occurs_206 (lv_at hl 7 rfl) ?_
        refine lv_iload hx hb dX11_occurs_208 (lv_at hl 6 rfl) ?_
        refine lv_iadd hx hb dX11_occurs_210 ?_
        refine lv_iload hx hb dX11_occurs_211 (lv_at hl 4 rfl) ?_
        refine lv_iload hx hb dX11_occurs_213 (lv_at hl 9 rfl) ?_
        refine cb_VI (As := [.int ((x9 + x6)), .int p4, .int x11]) (rest := []) ⟨hx, hb, hml, hown, hts⟩ (kX11_count l dC dI cy (adl [h 0, h 1, h 3, h 4, h 5, h 6, h 7, h 8, h 9, h 2, h 10, h 11, h 12, h 13, h 14, h 15, h 16, h 17, h 18, h 19, h 20, h 21]) t_kind t_exponent t_letters t_fed t_at t_row t_rowSize t_steps t_foundMany t_keptMany t_keptLetters t_isFull t_isSaved t_savedKind t_savedExponent t_savedLetters (x9 + x6) p4 x11 _ hv) (cwV 3 hts gX11_occurs_X11_count rfl rfl rfl zX11_count ⟨Nat.le_of_ble_eq_true rfl, Nat.le_of_ble_eq_true rfl⟩) hK hP hD hS hA [0, 1] [some 0, some 1, none] rfl rfl rfl (ci := 11) rfl rfl (fun _ => rfl) rfl hl.1 rfl (Nat.le_of_ble_eq_true rfl) dX11_occurs_215 (fun r_30 w_36 H locs hv hP hD hS => ?_)
        have hP : va_P (dC, dI) vwCl (pX11_occurs cy h t_kind t_exponent t_letters t_fed t_at t_row t_rowSize t_steps t_foundMany t_kept t_keptMany t_keptLetters t_isFull t_isSaved t_savedKind t_savedExponent t_savedLetters) H := hP
        have hD : va_D A (pX11_occurs cy h t_kind t_exponent t_letters t_fed t_at t_row t_rowSize t_steps t_foundMany t_kept t_keptMany t_keptLetters t_isFull t_isSaved t_savedKind t_savedExponent t_savedLetters) := hD
        refine lv_aload_n hx hb dX11_occurs_218 rfl (lv_at hl 0 rfl) ?_
        refine lv_iload_n hx hb dX11_occurs_219 rfl (lv_at hl 2 rfl) ?_
        refine lv_iload hx hb dX11_occurs_220 (lv_at hl 5 rfl) ?_
        refine lv_iadd hx hb dX11_occurs_222 ?_
        refine lv_iload_n hx hb dX11_occurs_223 rfl (lv_at hl 3 rfl) ?_
        refine lv_iload hx hb dX11_occurs_224 (lv_at hl 9 rfl) ?_
        refine cb_VI (As := [.int ((p2 + x5)), .int p3, .int x11]) (rest := [.int r_30]) ⟨hx, hb, hml, hown, hts⟩ (kX11_count l dC dI cy (adl [h 0, h 1, h 3, h 4, h 5, h 6, h 7, h 8, h 9, h 2, h 10, h 11, h 12, h 13, h 14, h 15, h 16, h 17, h 18, h 19, h 20, h 21]) t_kind t_exponent t_letters t_fed t_at t_row t_rowSize t_steps t_foundMany t_keptMany t_keptLetters t_isFull t_isSaved t_savedKind t_savedExponent t_savedLetters (p2 + x5) p3 x11 _ hv) (cwV 3 hts gX11_occurs_X11_count rfl rfl rfl zX11_count ⟨Nat.le_of_ble_eq_true rfl, Nat.le_of_ble_eq_true rfl⟩) hK hP hD hS hA [0, 1] [some 0, some 1, none] rfl rfl rfl (ci := 11) rfl rfl (fun _ => rfl) rfl hl.1 rfl (Nat.le_of_ble_eq_true rfl) dX11_occurs_226 (fun r_31 w_35 H locs hv hP hD hS => ?_)
        have hP : va_P (dC, dI) vwCl (pX11_occurs cy h t_kind t_exponent t_letters t_fed t_at t_row t_rowSize t_steps t_foundMany t_kept t_keptMany t_keptLetters t_isFull t_isSaved t_savedKind t_savedExponent t_savedLetters) H := hP
        have hD : va_D A (pX11_occurs cy h t_kind t_exponent t_letters t_fed t_at t_row t_rowSize t_steps t_foundMany t_kept t_keptMany t_keptLetters t_isFull t_isSaved t_savedKind t_savedExponent t_savedLetters) := hD
        refine lv_isub hx hb dX11_occurs_229 ?_
        refine lv_aload_n hx hb dX11_occurs_230 rfl (lv_at hl 0 rfl) ?_
        refine va_get (D := (dC, dI)) (ci := 11) (v := .ref (h 2)) (C := RX11) (T := TX11) (N := 36) hx hb hts nX11_occurs_X11 hown hK hP 0 rfl rfl 16 (by decide) (hts _ mX11_occurs_1) (fun _ h9 => h9) rfl dX11_occurs_231 ?_
        refine lv_bipush (v := 7) hx hb dX11_occurs_234 (by decide) ?_
        refine lv_iload_n hx hb dX11_occurs_236 rfl (lv_at hl 1 rfl) ?_
        refine lv_imul hx hb dX11_occurs_237 ?_
        refine lv_iconst (v := 3) hx hb dX11_occurs_238 (by decide) ?_
        refine lv_iadd hx hb dX11_occurs_239 ?_
        refine lv_iload hx hb dX11_occurs_240 (lv_at hl 9 rfl) ?_
        refine lv_iadd hx hb dX11_occurs_242 ?_
        refine lv_topi (fun y_32 ey_32 => ?_)
        have hv := hv y_32 ey_32
        have h_33 := hv.1
        have hv := hv.2
        refine va_iald hx hb hK hP 2 0 rfl rfl h_33 dX11_occurs_243 ?_
        refine lv_icmp_ne (tgt := 251) hx hb dX11_occurs_244 (by decide) (fun c_34 => ?_) (fun c_34 => ?_)
        · have hv := hv.1 c_34
          refine lv_iconst (v := 0) hx hb dX11_occurs_251 (by decide) ?_
          refine lv_istore (lv' := [(10, .int 0), (0, .ref (h 0)), (1, .int p1), (2, .int p2), (3, .int p3), (4, .int p4), (5, .int x5), (6, .int x6), (9, .int x9), (11, .int x11)]) hx hb dX11_occurs_252 hl (by decide) rfl (fun ls hl => ?_)
          refine lv_iinc (v := (x11 + 1)) (lv' := [(11, .int ((x11 + 1))), (10, .int 0), (0, .ref (h 0)), (1, .int p1), (2, .int p2), (3, .int p3), (4, .int p4), (5, .int x5), (6, .int x6), (9, .int x9)]) hx hb dX11_occurs_254 hl (k := 9) rfl rfl (by decide) rfl (fun ls hl => ?_)
          refine lv_goto (tgt := 191) hx hb dX11_occurs_257 (by decide) ?_
          exact ih x5 x6 x9 0 (x11 + 1) hv _ _ _ hP hD hS (lv_sub hl [2, 3, 4, 5, 6, 7, 8, 9, 1, 0] rfl)
        · have hv := hv.2 c_34
          refine lv_iconst (v := 1) hx hb dX11_occurs_247 (by decide) ?_
          refine lv_goto (tgt := 252) hx hb dX11_occurs_248 (by decide) ?_
          refine lv_istore (lv' := [(10, .int 1), (0, .ref (h 0)), (1, .int p1), (2, .int p2), (3, .int p3), (4, .int p4), (5, .int x5), (6, .int x6), (9, .int x9), (11, .int x11)]) hx hb dX11_occurs_252 hl (by decide) rfl (fun ls hl => ?_)
          refine lv_iinc (v := (x11 + 1)) (lv' := [(11, .int ((x11 + 1))), (10, .int 1), (0, .ref (h 0)), (1, .int p1), (2, .int p2), (3, .int p3), (4, .int p4), (5, .int x5), (6, .int x6), (9, .int x9)]) hx hb dX11_occurs_254 hl (k := 9) rfl rfl (by decide) rfl (fun ls hl => ?_)
          refine lv_goto (tgt := 191) hx hb dX11_occurs_257 (by decide) ?_
          exact ih x5 x6 x9 1 (x11 + 1) hv _ _ _ hP hD hS (lv_sub hl [2, 3, 4, 5, 6, 7, 8, 9, 1, 0] rfl)
set_option maxHeartbeats 4000000 in
set_option maxRecDepth 100000 in
theorem wX11_occurs_59 {p : Program} (l : Launch) {e : Env} {s : State} {m : MethodId} {args : Array Value} {below : List Frame} {meth : Method} {c : Code} {dC : Nat → ClassId} {dI : Nat → Nat → Nat} {cy : Nat → ClassId} {A : Nat → Prop} (h : Nat → Nat) (post : Int32 → Prop)   (t_kind : Int32) (t_exponent : Int32) (t_letters : Int32) (t_fed : Int32) (t_at : Int32) (t_row : Nat → Int32) (t_rowSize : Int32) (t_steps : Int32) (t_foundMany : Int32) (t_kept : Nat → Int32) (t_keptMany : Int32) (t_keptLetters : Int32) (t_isFull : Int32) (t_isSaved : Int32) (t_savedKind : Int32) (t_savedExponent : Int32) (t_savedLetters : Int32) (p1 : Int32) (p2 : Int32) (p3 : Int32) (p4 : Int32) (C0 : cx p s m args meth c cX11_occurs 12 (some .boolean) wsX11_occurs RX11 dC dI cy A)  : ∀ (x5 : Int32) (x6 : Int32) (s0 : Int32), VX11_occurs_59 post t_letters t_row t_rowSize t_kept p1 p2 p3 p4 x5 x6 s0 → ∀ (H : Heap) (locs : List Loc) (ls : Array Slot), va_P (dC, dI) vwCl (pX11_occurs cy h t_kind t_exponent t_letters t_fed t_at t_row t_rowSize t_steps t_foundMany t_kept t_keptMany t_keptLetters t_isFull t_isSaved t_savedKind t_savedExponent t_savedLetters) H → va_D A (pX11_occurs cy h t_kind t_exponent t_letters t_fed t_at t_row t_rowSize t_steps t_foundMany t_kept t_keptMany t_keptLetters t_isFull t_isSaved t_savedKind t_savedExponent t_savedLetters) → va_S A s.heap H locs → lv_has ls 12 [(0, .ref (h 0)), (1, .int p1), (2, .int p2), (3, .int p3), (4, .int p4), (5, .int x5), (6, .int x6)] → W p l e rX11_occurs s m args below meth c H locs 0 0 (MQ below (va_Qi (fun (r : Int32) (_ : Unit) => post r) (fun (_ : Unit) (t : State) => va_P (dC, dI) vwCl (pX11_occurs cy h t_kind t_exponent t_letters t_fed t_at t_row t_rowSize t_steps t_foundMany t_kept t_keptMany t_keptLetters t_isFull t_isSaved t_savedKind t_savedExponent t_savedLetters) t.heap) A) args s 0 0 A) (F0 m 59 ls [.int s0]) := by
  have C1 := C0
  obtain ⟨hx, hb, hr, hml, hown, hts, hlocks, hK, hA⟩ := C1
  intro x5 x6 s0 hv H locs ls hP hD hS hl
  refine lv_istore (lv' := [(7, .int s0), (0, .ref (h 0)), (1, .int p1), (2, .int p2), (3, .int p3), (4, .int p4), (5, .int x5), (6, .int x6)]) hx hb dX11_occurs_59 hl (by decide) rfl (fun ls hl => ?_)
  refine lv_iload hx hb dX11_occurs_61 (lv_at hl 6 rfl) ?_
  refine lv_iload_n hx hb dX11_occurs_63 rfl (lv_at hl 4 rfl) ?_
  refine lv_iadd hx hb dX11_occurs_64 ?_
  refine lv_iload hx hb dX11_occurs_65 (lv_at hl 7 rfl) ?_
  refine lv_iadd hx hb dX11_occurs_67 ?_
  refine lv_iload hx hb dX11_occurs_68 (lv_at hl 5 rfl) ?_
  refine lv_iadd hx hb dX11_occurs_70 ?_
  refine lv_iload hx hb dX11_occurs_71 (lv_at hl 0 rfl) ?_
  refine lv_iadd hx hb dX11_occurs_73 ?_
  refine lv_topi (fun y_10 ey_10 => ?_)
  have hv := hv y_10 ey_10
  refine lv_istore (lv' := [(8, .int y_10), (7, .int s0), (0, .ref (h 0)), (1, .int p1), (2, .int p2), (3, .int p3), (4, .int p4), (5, .int x5), (6, .int x6)]) hx hb dX11_occurs_74 hl (by decide) rfl (fun ls hl => ?_)
  refine lv_iload hx hb dX11_occurs_76 (lv_at hl 0 rfl) ?_
  refine lv_if_eq (tgt := 92) hx hb dX11_occurs_78 (by decide) (fun c_18 => ?_) (fun c_18 => ?_)
  · have hv := hv.1 c_18
    refine lv_iconst (v := 0) hx hb dX11_occurs_92 (by decide) ?_
    exact W.zret (v := 0) hx hb hr rfl (fun t ht hW => ⟨⟨0, (), rfl, hv, va_Ph ht hP⟩, hS.F ht⟩) hS.2.2 dX11_occurs_93
  · have hv := hv.2 c_18
    refine lv_iload_n hx hb dX11_occurs_81 rfl (lv_at hl 4 rfl) ?_
    refine lv_iload hx hb dX11_occurs_82 (lv_at hl 0 rfl) ?_
    refine lv_iadd hx hb dX11_occurs_84 ?_
    refine lv_aload_n hx hb dX11_occurs_85 rfl (lv_at hl 2 rfl) ?_
    refine va_get (D := (dC, dI)) (ci := 11) (v := .int t_rowSize) (C := RX11) (T := TX11) (N := 36) hx hb hts nX11_occurs_X11 hown hK hP 0 rfl rfl 12 (by decide) (hts _ mX11_occurs_2) (fun _ h9 => h9) rfl dX11_occurs_86 ?_
    refine lv_icmp_le (tgt := 94) hx hb dX11_occurs_89 (by decide) (fun c_17 => ?_) (fun c_17 => ?_)
    · have hv := hv.1 c_17
      refine lv_iload_n hx hb dX11_occurs_94 rfl (lv_at hl 4 rfl) ?_
      refine lv_iload hx hb dX11_occurs_95 (lv_at hl 7 rfl) ?_
      refine lv_iadd hx hb dX11_occurs_97 ?_
      refine lv_iload_n hx hb dX11_occurs_98 rfl (lv_at hl 5 rfl) ?_
      refine lv_iadd hx hb dX11_occurs_99 ?_
      refine lv_istore (lv' := [(9, .int (((p2 + x5) + p3))), (8, .int y_10), (7, .int s0), (0, .ref (h 0)), (1, .int p1), (2, .int p2), (3, .int p3), (4, .int p4), (5, .int x5), (6, .int x6)]) hx hb dX11_occurs_100 hl (by decide) rfl (fun ls hl => ?_)
      refine lv_iload hx hb dX11_occurs_102 (lv_at hl 8 rfl) ?_
      refine lv_if_eq (tgt := 125) hx hb dX11_occurs_104 (by decide) (fun c_16 => ?_) (fun c_16 => ?_)
      · have hv := hv.1 c_16
        exact wX11_occurs_125 l h post (fun x5 x6 x9 x10 x11 => ∃ n191 : Nat, VX11_occurs_191 post t_letters t_row t_rowSize t_kept p1 p2 p3 p4 n191 x5 x6 x9 x10 x11)  t_kind t_exponent t_letters t_fed t_at t_row t_rowSize t_steps t_foundMany t_kept t_keptMany t_keptLetters t_isFull t_isSaved t_savedKind t_savedExponent t_savedLetters p1 p2 p3 p4 C0 (fun x5 x6 x9 x10 x11 hv => hv.elim (fun nq hv => wX11_occurs_191 l h post  t_kind t_exponent t_letters t_fed t_at t_row t_rowSize t_steps t_foundMany t_kept t_keptMany t_keptLetters t_isFull t_isSaved t_savedKind t_savedExponent t_savedLetters p1 p2 p3 p4 C0 nq x5 x6 x9 x10 x11 hv)) x5 x6 s0 y_10 ((p2 + x5) + p3) hv _ _ _ hP hD hS (lv_sub hl [3, 4, 5, 6, 7, 8, 9, 2, 1, 0] rfl)
      · have hv := hv.2 c_16
        refine lv_aload_n hx hb dX11_occurs_107 rfl (lv_at hl 3 rfl) ?_
        refine va_get (D := (dC, dI)) (ci := 11) (v := .ref (h 1)) (C := RX11) (T := TX11) (N := 36) hx hb hts nX11_occurs_X11 hown hK hP 0 rfl rfl 11 (by decide) (hts _ mX11_occurs_3) (fun _ h9 => h9) rfl dX11_occurs_108 ?_
        refine lv_iload_n hx hb dX11_occurs_111 rfl (lv_at hl 5 rfl) ?_
        have h_11 := hv.1
        have hv := hv.2
        refine va_iald hx hb hK hP 1 0 rfl rfl h_11 dX11_occurs_112 ?_
        refine lv_aload_n hx hb dX11_occurs_113 rfl (lv_at hl 3 rfl) ?_
        refine va_get (D := (dC, dI)) (ci := 11) (v := .ref (h 2)) (C := RX11) (T := TX11) (N := 36) hx hb hts nX11_occurs_X11 hown hK hP 0 rfl rfl 16 (by decide) (hts _ mX11_occurs_1) (fun _ h9 => h9) rfl dX11_occurs_114 ?_
        refine lv_bipush (v := 7) hx hb dX11_occurs_117 (by decide) ?_
        refine lv_iload_n hx hb dX11_occurs_119 rfl (lv_at hl 4 rfl) ?_
        refine lv_imul hx hb dX11_occurs_120 ?_
        have h_13 := hv.1
        have hv := hv.2
        refine va_iald hx hb hK hP 2 0 rfl rfl h_13 dX11_occurs_121 ?_
        refine lv_topi (fun y_12 ey_12 => ?_)
        have hv := hv y_12 ey_12
        refine lv_icmp_ne (tgt := 185) hx hb dX11_occurs_122 (by decide) (fun c_15 => ?_) (fun c_15 => ?_)
        · have hv := hv.1 c_15
          refine lv_iconst (v := 0) hx hb dX11_occurs_185 (by decide) ?_
          refine lv_istore (lv' := [(10, .int 0), (9, .int (((p2 + x5) + p3))), (8, .int y_10), (7, .int s0), (0, .ref (h 0)), (1, .int p1), (2, .int p2), (3, .int p3), (4, .int p4), (5, .int x5), (6, .int x6)]) hx hb dX11_occurs_186 hl (by decide) rfl (fun ls hl => ?_)
          refine lv_iconst (v := 0) hx hb dX11_occurs_188 (by decide) ?_
          refine lv_istore (lv' := [(11, .int 0), (10, .int 0), (9, .int (((p2 + x5) + p3))), (8, .int y_10), (7, .int s0), (0, .ref (h 0)), (1, .int p1), (2, .int p2), (3, .int p3), (4, .int p4), (5, .int x5), (6, .int x6)]) hx hb dX11_occurs_189 hl (by decide) rfl (fun ls hl => ?_)
          obtain ⟨n_14, hv⟩ := hv
          exact wX11_occurs_191 l h post  t_kind t_exponent t_letters t_fed t_at t_row t_rowSize t_steps t_foundMany t_kept t_keptMany t_keptLetters t_isFull t_isSaved t_savedKind t_savedExponent t_savedLetters p1 p2 p3 p4 C0 n_14 x5 x6 ((p2 + x5) + p3) 0 0 hv _ _ _ hP hD hS (lv_sub hl [5, 6, 7, 8, 9, 10, 11, 2, 1, 0] rfl)
        · have hv := hv.2 c_15
          exact wX11_occurs_125 l h post (fun x5 x6 x9 x10 x11 => ∃ n191 : Nat, VX11_occurs_191 post t_letters t_row t_rowSize t_kept p1 p2 p3 p4 n191 x5 x6 x9 x10 x11)  t_kind t_exponent t_letters t_fed t_at t_row t_rowSize t_steps t_foundMany t_kept t_keptMany t_keptLetters t_isFull t_isSaved t_savedKind t_savedExponent t_savedLetters p1 p2 p3 p4 C0 (fun x5 x6 x9 x10 x11 hv => hv.elim (fun nq hv => wX11_occurs_191 l h post  t_kind t_exponent t_letters t_fed t_at t_row t_rowSize t_steps t_foundMany t_kept t_keptMany t_keptLetters t_isFull t_isSaved t_savedKind t_savedExponent t_savedLetters p1 p2 p3 p4 C0 nq x5 x6 x9 x10 x11 hv)) x5 x6 s0 y_10 ((p2 + x5) + p3) hv _ _ _ hP hD hS (lv_sub hl [3, 4, 5, 6, 7, 8, 9, 2, 1, 0] rfl)
    · have hv := hv.2 c_17
      refine lv_iconst (v := 0) hx hb dX11_occurs_92 (by decide) ?_
      exact W.zret (v := 0) hx hb hr rfl (fun t ht hW => ⟨⟨0, (), rfl, hv, va_Ph ht hP⟩, hS.F ht⟩) hS.2.2 dX11_occurs_93
set_option maxHeartbeats 4000000 in
set_option maxRecDepth 100000 in
theorem wX11_occurs_38 {p : Program} (l : Launch) {e : Env} {s : State} {m : MethodId} {args : Array Value} {below : List Frame} {meth : Method} {c : Code} {dC : Nat → ClassId} {dI : Nat → Nat → Nat} {cy : Nat → ClassId} {A : Nat → Prop} (h : Nat → Nat) (post : Int32 → Prop)   (t_kind : Int32) (t_exponent : Int32) (t_letters : Int32) (t_fed : Int32) (t_at : Int32) (t_row : Nat → Int32) (t_rowSize : Int32) (t_steps : Int32) (t_foundMany : Int32) (t_kept : Nat → Int32) (t_keptMany : Int32) (t_keptLetters : Int32) (t_isFull : Int32) (t_isSaved : Int32) (t_savedKind : Int32) (t_savedExponent : Int32) (t_savedLetters : Int32) (p1 : Int32) (p2 : Int32) (p3 : Int32) (p4 : Int32) (C0 : cx p s m args meth c cX11_occurs 12 (some .boolean) wsX11_occurs RX11 dC dI cy A)  : ∀ (x5 : Int32) (s0 : Int32), VX11_occurs_38 post t_letters t_row t_rowSize t_kept p1 p2 p3 p4 x5 s0 → ∀ (H : Heap) (locs : List Loc) (ls : Array Slot), va_P (dC, dI) vwCl (pX11_occurs cy h t_kind t_exponent t_letters t_fed t_at t_row t_rowSize t_steps t_foundMany t_kept t_keptMany t_keptLetters t_isFull t_isSaved t_savedKind t_savedExponent t_savedLetters) H → va_D A (pX11_occurs cy h t_kind t_exponent t_letters t_fed t_at t_row t_rowSize t_steps t_foundMany t_kept t_keptMany t_keptLetters t_isFull t_isSaved t_savedKind t_savedExponent t_savedLetters) → va_S A s.heap H locs → lv_has ls 12 [(0, .ref (h 0)), (1, .int p1), (2, .int p2), (3, .int p3), (4, .int p4), (5, .int x5)] → W p l e rX11_occurs s m args below meth c H locs 0 0 (MQ below (va_Qi (fun (r : Int32) (_ : Unit) => post r) (fun (_ : Unit) (t : State) => va_P (dC, dI) vwCl (pX11_occurs cy h t_kind t_exponent t_letters t_fed t_at t_row t_rowSize t_steps t_foundMany t_kept t_keptMany t_keptLetters t_isFull t_isSaved t_savedKind t_savedExponent t_savedLetters) t.heap) A) args s 0 0 A) (F0 m 38 ls [.int s0]) := by
  have C1 := C0
  obtain ⟨hx, hb, hr, hml, hown, hts, hlocks, hK, hA⟩ := C1
  intro x5 s0 hv H locs ls hP hD hS hl
  refine lv_istore (lv' := [(6, .int s0), (0, .ref (h 0)), (1, .int p1), (2, .int p2), (3, .int p3), (4, .int p4), (5, .int x5)]) hx hb dX11_occurs_38 hl (by decide) rfl (fun ls hl => ?_)
  refine lv_aload_n hx hb dX11_occurs_40 rfl (lv_at hl 1 rfl) ?_
  refine va_get (D := (dC, dI)) (ci := 11) (v := .ref (h 2)) (C := RX11) (T := TX11) (N := 36) hx hb hts nX11_occurs_X11 hown hK hP 0 rfl rfl 16 (by decide) (hts _ mX11_occurs_1) (fun _ h9 => h9) rfl dX11_occurs_41 ?_
  refine lv_bipush (v := 7) hx hb dX11_occurs_44 (by decide) ?_
  refine lv_iload_n hx hb dX11_occurs_46 rfl (lv_at hl 2 rfl) ?_
  refine lv_imul hx hb dX11_occurs_47 ?_
  refine lv_iconst (v := 2) hx hb dX11_occurs_48 (by decide) ?_
  refine lv_iadd hx hb dX11_occurs_49 ?_
  have h_8 := hv.1
  have hv := hv.2
  refine va_iald hx hb hK hP 2 0 rfl rfl h_8 dX11_occurs_50 ?_
  refine lv_topi (fun y_7 ey_7 => ?_)
  have hv := hv y_7 ey_7
  refine lv_if_ge (tgt := 58) hx hb dX11_occurs_51 (by decide) (fun c_9 => ?_) (fun c_9 => ?_)
  · have hv := hv.1 c_9
    refine lv_iconst (v := 1) hx hb dX11_occurs_58 (by decide) ?_
    exact wX11_occurs_59 l h post  t_kind t_exponent t_letters t_fed t_at t_row t_rowSize t_steps t_foundMany t_kept t_keptMany t_keptLetters t_isFull t_isSaved t_savedKind t_savedExponent t_savedLetters p1 p2 p3 p4 C0 x5 s0 1 hv _ _ _ hP hD hS (lv_sub hl [1, 2, 3, 4, 5, 6, 0] rfl)
  · have hv := hv.2 c_9
    refine lv_iconst (v := 0) hx hb dX11_occurs_54 (by decide) ?_
    refine lv_goto (tgt := 59) hx hb dX11_occurs_55 (by decide) ?_
    exact wX11_occurs_59 l h post  t_kind t_exponent t_letters t_fed t_at t_row t_rowSize t_steps t_foundMany t_kept t_keptMany t_keptLetters t_isFull t_isSaved t_savedKind t_savedExponent t_savedLetters p1 p2 p3 p4 C0 x5 s0 0 hv _ _ _ hP hD hS (lv_sub hl [1, 2, 3, 4, 5, 6, 0] rfl)
set_option maxHeartbeats 4000000 in
set_option maxRecDepth 100000 in
theorem wX11_occurs_17 {p : Program} (l : Launch) {e : Env} {s : State} {m : MethodId} {args : Array Value} {below : List Frame} {meth : Method} {c : Code} {dC : Nat → ClassId} {dI : Nat → Nat → Nat} {cy : Nat → ClassId} {A : Nat → Prop} (h : Nat → Nat) (post : Int32 → Prop)   (t_kind : Int32) (t_exponent : Int32) (t_letters : Int32) (t_fed : Int32) (t_at : Int32) (t_row : Nat → Int32) (t_rowSize : Int32) (t_steps : Int32) (t_foundMany : Int32) (t_kept : Nat → Int32) (t_keptMany : Int32) (t_keptLetters : Int32) (t_isFull : Int32) (t_isSaved : Int32) (t_savedKind : Int32) (t_savedExponent : Int32) (t_savedLetters : Int32) (p1 : Int32) (p2 : Int32) (p3 : Int32) (p4 : Int32) (C0 : cx p s m args meth c cX11_occurs 12 (some .boolean) wsX11_occurs RX11 dC dI cy A)  : ∀ (s0 : Int32), VX11_occurs_17 post t_letters t_row t_rowSize t_kept p1 p2 p3 p4 s0 → ∀ (H : Heap) (locs : List Loc) (ls : Array Slot), va_P (dC, dI) vwCl (pX11_occurs cy h t_kind t_exponent t_letters t_fed t_at t_row t_rowSize t_steps t_foundMany t_kept t_keptMany t_keptLetters t_isFull t_isSaved t_savedKind t_savedExponent t_savedLetters) H → va_D A (pX11_occurs cy h t_kind t_exponent t_letters t_fed t_at t_row t_rowSize t_steps t_foundMany t_kept t_keptMany t_keptLetters t_isFull t_isSaved t_savedKind t_savedExponent t_savedLetters) → va_S A s.heap H locs → lv_has ls 12 [(0, .ref (h 0)), (1, .int p1), (2, .int p2), (3, .int p3), (4, .int p4)] → W p l e rX11_occurs s m args below meth c H locs 0 0 (MQ below (va_Qi (fun (r : Int32) (_ : Unit) => post r) (fun (_ : Unit) (t : State) => va_P (dC, dI) vwCl (pX11_occurs cy h t_kind t_exponent t_letters t_fed t_at t_row t_rowSize t_steps t_foundMany t_kept t_keptMany t_keptLetters t_isFull t_isSaved t_savedKind t_savedExponent t_savedLetters) t.heap) A) args s 0 0 A) (F0 m 17 ls [.int s0]) := by
  have C1 := C0
  obtain ⟨hx, hb, hr, hml, hown, hts, hlocks, hK, hA⟩ := C1
  intro s0 hv H locs ls hP hD hS hl
  refine lv_istore (lv' := [(5, .int s0), (0, .ref (h 0)), (1, .int p1), (2, .int p2), (3, .int p3), (4, .int p4)]) hx hb dX11_occurs_17 hl (by decide) rfl (fun ls hl => ?_)
  refine lv_aload_n hx hb dX11_occurs_19 rfl (lv_at hl 1 rfl) ?_
  refine va_get (D := (dC, dI)) (ci := 11) (v := .ref (h 2)) (C := RX11) (T := TX11) (N := 36) hx hb hts nX11_occurs_X11 hown hK hP 0 rfl rfl 16 (by decide) (hts _ mX11_occurs_1) (fun _ h9 => h9) rfl dX11_occurs_20 ?_
  refine lv_bipush (v := 7) hx hb dX11_occurs_23 (by decide) ?_
  refine lv_iload_n hx hb dX11_occurs_25 rfl (lv_at hl 2 rfl) ?_
  refine lv_imul hx hb dX11_occurs_26 ?_
  refine lv_iconst (v := 1) hx hb dX11_occurs_27 (by decide) ?_
  refine lv_iadd hx hb dX11_occurs_28 ?_
  have h_5 := hv.1
  have hv := hv.2
  refine va_iald hx hb hK hP 2 0 rfl rfl h_5 dX11_occurs_29 ?_
  refine lv_topi (fun y_4 ey_4 => ?_)
  have hv := hv y_4 ey_4
  refine lv_if_ge (tgt := 37) hx hb dX11_occurs_30 (by decide) (fun c_6 => ?_) (fun c_6 => ?_)
  · have hv := hv.1 c_6
    refine lv_iconst (v := 1) hx hb dX11_occurs_37 (by decide) ?_
    exact wX11_occurs_38 l h post  t_kind t_exponent t_letters t_fed t_at t_row t_rowSize t_steps t_foundMany t_kept t_keptMany t_keptLetters t_isFull t_isSaved t_savedKind t_savedExponent t_savedLetters p1 p2 p3 p4 C0 s0 1 hv _ _ _ hP hD hS (lv_sub hl [1, 2, 3, 4, 5, 0] rfl)
  · have hv := hv.2 c_6
    refine lv_iconst (v := 0) hx hb dX11_occurs_33 (by decide) ?_
    refine lv_goto (tgt := 38) hx hb dX11_occurs_34 (by decide) ?_
    exact wX11_occurs_38 l h post  t_kind t_exponent t_letters t_fed t_at t_row t_rowSize t_steps t_foundMany t_kept t_keptMany t_keptLetters t_isFull t_isSaved t_savedKind t_savedExponent t_savedLetters p1 p2 p3 p4 C0 s0 0 hv _ _ _ hP hD hS (lv_sub hl [1, 2, 3, 4, 5, 0] rfl)
set_option maxHeartbeats 4000000 in
set_option maxRecDepth 100000 in
theorem wX11_occurs_0 {p : Program} (l : Launch) {e : Env} {s : State} {m : MethodId} {args : Array Value} {below : List Frame} {meth : Method} {c : Code} {dC : Nat → ClassId} {dI : Nat → Nat → Nat} {cy : Nat → ClassId} {A : Nat → Prop} (h : Nat → Nat) (post : Int32 → Prop)   (t_kind : Int32) (t_exponent : Int32) (t_letters : Int32) (t_fed : Int32) (t_at : Int32) (t_row : Nat → Int32) (t_rowSize : Int32) (t_steps : Int32) (t_foundMany : Int32) (t_kept : Nat → Int32) (t_keptMany : Int32) (t_keptLetters : Int32) (t_isFull : Int32) (t_isSaved : Int32) (t_savedKind : Int32) (t_savedExponent : Int32) (t_savedLetters : Int32) (p1 : Int32) (p2 : Int32) (p3 : Int32) (p4 : Int32) (C0 : cx p s m args meth c cX11_occurs 12 (some .boolean) wsX11_occurs RX11 dC dI cy A)  : VX11_occurs post t_letters t_row t_rowSize t_kept p1 p2 p3 p4  → ∀ (H : Heap) (locs : List Loc) (ls : Array Slot), va_P (dC, dI) vwCl (pX11_occurs cy h t_kind t_exponent t_letters t_fed t_at t_row t_rowSize t_steps t_foundMany t_kept t_keptMany t_keptLetters t_isFull t_isSaved t_savedKind t_savedExponent t_savedLetters) H → va_D A (pX11_occurs cy h t_kind t_exponent t_letters t_fed t_at t_row t_rowSize t_steps t_foundMany t_kept t_keptMany t_keptLetters t_isFull t_isSaved t_savedKind t_savedExponent t_savedLetters) → va_S A s.heap H locs → lv_has ls 12 [(0, .ref (h 0)), (1, .int p1), (2, .int p2), (3, .int p3), (4, .int p4)] → W p l e rX11_occurs s m args below meth c H locs 0 0 (MQ below (va_Qi (fun (r : Int32) (_ : Unit) => post r) (fun (_ : Unit) (t : State) => va_P (dC, dI) vwCl (pX11_occurs cy h t_kind t_exponent t_letters t_fed t_at t_row t_rowSize t_steps t_foundMany t_kept t_keptMany t_keptLetters t_isFull t_isSaved t_savedKind t_savedExponent t_savedLetters) t.heap) A) args s 0 0 A) (F0 m 0 ls []) := by
  have C1 := C0
  obtain ⟨hx, hb, hr, hml, hown, hts, hlocks, hK, hA⟩ := C1
  intro  hv H locs ls hP hD hS hl
  refine lv_aload_n hx hb dX11_occurs_0 rfl (lv_at hl 0 rfl) ?_
  refine va_get (D := (dC, dI)) (ci := 11) (v := .ref (h 2)) (C := RX11) (T := TX11) (N := 36) hx hb hts nX11_occurs_X11 hown hK hP 0 rfl rfl 16 (by decide) (hts _ mX11_occurs_1) (fun _ h9 => h9) rfl dX11_occurs_1 ?_
  refine lv_bipush (v := 7) hx hb dX11_occurs_4 (by decide) ?_
  refine lv_iload_n hx hb dX11_occurs_6 rfl (lv_at hl 1 rfl) ?_
  refine lv_imul hx hb dX11_occurs_7 ?_
  have h_2 := hv.1
  have hv := hv.2
  refine va_iald hx hb hK hP 2 0 rfl rfl h_2 dX11_occurs_8 ?_
  refine lv_topi (fun y_1 ey_1 => ?_)
  have hv := hv y_1 ey_1
  refine lv_if_ge (tgt := 16) hx hb dX11_occurs_9 (by decide) (fun c_3 => ?_) (fun c_3 => ?_)
  · have hv := hv.1 c_3
    refine lv_iconst (v := 1) hx hb dX11_occurs_16 (by decide) ?_
    exact wX11_occurs_17 l h post  t_kind t_exponent t_letters t_fed t_at t_row t_rowSize t_steps t_foundMany t_kept t_keptMany t_keptLetters t_isFull t_isSaved t_savedKind t_savedExponent t_savedLetters p1 p2 p3 p4 C0 1 hv _ _ _ hP hD hS (lv_sub hl [0, 1, 2, 3, 4] rfl)
  · have hv := hv.2 c_3
    refine lv_iconst (v := 0) hx hb dX11_occurs_12 (by decide) ?_
    refine lv_goto (tgt := 17) hx hb dX11_occurs_13 (by decide) ?_
    exact wX11_occurs_17 l h post  t_kind t_exponent t_letters t_fed t_at t_row t_rowSize t_steps t_foundMany t_kept t_keptMany t_keptLetters t_isFull t_isSaved t_savedKind t_savedExponent t_savedLetters p1 p2 p3 p4 C0 0 hv _ _ _ hP hD hS (lv_sub hl [0, 1, 2, 3, 4] rfl)
theorem kX11_occurs (l : Launch) (dC : Nat → ClassId) (dI : Nat → Nat → Nat) (cy : Nat → ClassId) (h : Nat → Nat) (t_kind : Int32) (t_exponent : Int32) (t_letters : Int32) (t_fed : Int32) (t_at : Int32) (t_row : Nat → Int32) (t_rowSize : Int32) (t_steps : Int32) (t_foundMany : Int32) (t_kept : Nat → Int32) (t_keptMany : Int32) (t_keptLetters : Int32) (t_isFull : Int32) (t_isSaved : Int32) (t_savedKind : Int32) (t_savedExponent : Int32) (t_savedLetters : Int32) (p1 : Int32) (p2 : Int32) (p3 : Int32) (p4 : Int32) (post : Int32 → Prop) (hv : VX11_occurs post t_letters t_row t_rowSize t_kept p1 p2 p3 p4 ) : CtI l yX11_occurs wsX11_occurs rX11_occurs dC dI cy [.ref (h 0), .int p1, .int p2, .int p3, .int p4] (pX11_occurs cy h t_kind t_exponent t_letters t_fed t_at t_row t_rowSize t_steps t_foundMany t_kept t_keptMany t_keptLetters t_isFull t_isSaved t_savedKind t_savedExponent t_savedLetters) (fun (_ : Unit) => pX11_occurs cy h t_kind t_exponent t_letters t_fed t_at t_row t_rowSize t_steps t_foundMany t_kept t_keptMany t_keptLetters t_isFull t_isSaved t_savedKind t_savedExponent t_savedLetters) (fun (r : Int32) (_ : Unit) => post r) :=
  ct_ofI (by decide) rfl (Nat.le_of_ble_eq_true rfl) (fun p e s m below meth c A ls C0 hP hD hS hl => wX11_occurs_0 l h post t_kind t_exponent t_letters t_fed t_at t_row t_rowSize t_steps t_foundMany t_kept t_keptMany t_keptLetters t_isFull t_isSaved t_savedKind t_savedExponent t_savedLetters p1 p2 p3 p4 C0  hv _ _ _ hP hD hS hl)
theorem mX11_occurrence_1 : (Cond.fieldLink RX11 254 "AbelianPowersModel" "keptMany" "I") ∈ wsX11_occurrence := List.mem_of_getElem? (i := 1) rfl
theorem mX11_occurrence_2 : (Cond.fieldLink RX11 16 "AbelianPowersModel" "letters" "I") ∈ wsX11_occurrence := List.mem_of_getElem? (i := 2) rfl
theorem mX11_occurrence_3 : (Cond.fieldLink RX11 257 "AbelianPowersModel" "keptLetters" "I") ∈ wsX11_occurrence := List.mem_of_getElem? (i := 3) rfl
theorem mX11_occurrence_4 : (Cond.fieldLink RX11 118 "AbelianPowersModel" "rowSize" "I") ∈ wsX11_occurrence := List.mem_of_getElem? (i := 4) rfl
theorem nX11_occurrence_X11 : ∀ w ∈ wsX110, w ∈ wsX11_occurrence := fun _ h => List.mem_cons_of_mem _ (List.mem_append_right _ h)
theorem zX11_occurrence : yX11_occurrence.cls = RX11 ∧ yX11_occurrence.cls ≠ "java/lang/invoke/MethodHandle" ∧ yX11_occurrence.cls ≠ "java/lang/invoke/VarHandle" ∧ (parseMethodDescriptor yX11_occurrence.desc).map (fun d => d.parameters.length) = some 2 := by decide +kernel
abbrev rX11_occurrence : Room := { frames := 2, cells := 0, slots := 0, locals := 56 }
abbrev pX11_occurrence (cy : Nat → ClassId) (h : Nat → Nat) (t_kind : Int32) (t_exponent : Int32) (t_letters : Int32) (t_words : Nat → Int32) (t_lengths : Nat → Int32) (t_fed : Int32) (t_at : Int32) (t_row : Nat → Int32) (t_rowSize : Int32) (t_steps : Int32) (t_foundMany : Int32) (t_kept : Nat → Int32) (t_keptMany : Int32) (t_keptLetters : Int32) (t_isFull : Int32) (t_isSaved : Int32) (t_savedKind : Int32) (t_savedExponent : Int32) (t_savedLetters : Int32) : va_W := [(h 0, .inr (11, [.int t_kind, .int t_exponent, .int t_letters, .ref (h 5), .ref (h 1), .ref (h 2), .ref (h 6), .ref (h 7), .ref (h 8), .int t_fed, .int t_at, .ref (h 3), .int t_rowSize, .int t_steps, .ref (h 9), .int t_foundMany, .ref (h 4), .int t_keptMany, .int t_keptLetters, .ref (h 10), .ref (h 11), .ref (h 12), .ref (h 13), .ref (h 14), .int t_isFull, .ref (h 15), .ref (h 16), .int t_isSaved, .int t_savedKind, .int t_savedExponent, .int t_savedLetters, .ref (h 17), .ref (h 18), .ref (h 19), .ref (h 20), .ref (h 21)])), (h 1, .inl (cy 0, 120, .inl t_words)), (h 2, .inl (cy 0, 3, .inl t_lengths)), (h 3, .inl (cy 0, 45, .inl t_row)), (h 4, .inl (cy 0, 1400, .inl t_kept))]
def VX11_occurrence_96 (post : Int32 → (Nat → Int32) → Int32 → Prop)  (t_letters : Int32) (t_words : Nat → Int32) (t_lengths : Nat → Int32) (t_kept : Nat → Int32) (t_keptMany : Int32) (t_keptLetters : Int32) (p1 : Int32) (p2 : Int32) (t_row : Nat → Int32) (t_rowSize : Int32) (x3 : Int32) (x4 : Int32) (x5 : Int32) : Prop := ∀ y_20 : Int32, y_20 = (((10000 : Int32) * x3) + ((100 : Int32) * x4)) → post (y_20 + x5) t_row t_rowSize
def VX11_occurrence_69 (post : Int32 → (Nat → Int32) → Int32 → Prop) (K55 : (Nat → Int32) → Int32 → Int32 → Int32 → Prop) (t_letters : Int32) (t_words : Nat → Int32) (t_lengths : Nat → Int32) (t_kept : Nat → Int32) (t_keptMany : Int32) (t_keptLetters : Int32) (p1 : Int32) (p2 : Int32) : Nat → (Nat → Int32) → Int32 → Int32 → Int32 → Int32 → Prop
  | 0, _, _, _, _, _ => False
  | n + 1, t_row, t_rowSize, x3, x4, x5 => ((((t_rowSize - x3) - x4) < x5) → K55 t_row t_rowSize x3 (x4 + 1)) ∧ (¬ (((t_rowSize - x3) - x4) < x5) → VX11_occurs (fun r_16 => ((r_16 = 0) → VX11_occurrence_69 post K55 t_letters t_words t_lengths t_kept t_keptMany t_keptLetters p1 p2 n t_row t_rowSize x3 x4 (x5 + 1)) ∧ (¬ (r_16 = 0) → VX11_occurrence_96 post t_letters t_words t_lengths t_kept t_keptMany t_keptLetters p1 p2 t_row t_rowSize x3 x4 x5)) t_letters t_row t_rowSize t_kept p2 x3 x4 x5)
def VX11_occurrence_55 (post : Int32 → (Nat → Int32) → Int32 → Prop) (K44 : (Nat → Int32) → Int32 → Int32 → Prop) (t_letters : Int32) (t_words : Nat → Int32) (t_lengths : Nat → Int32) (t_kept : Nat → Int32) (t_keptMany : Int32) (t_keptLetters : Int32) (p1 : Int32) (p2 : Int32) : Nat → (Nat → Int32) → Int32 → Int32 → Int32 → Prop
  | 0, _, _, _, _ => False
  | n + 1, t_row, t_rowSize, x3, x4 => (((t_rowSize - x3) < x4) → K44 t_row t_rowSize (x3 + 1)) ∧ (¬ ((t_rowSize - x3) < x4) → ∃ n69 : Nat, VX11_occurrence_69 post (fun t_row t_rowSize x3 x4 => VX11_occurrence_55 post K44 t_letters t_words t_lengths t_kept t_keptMany t_keptLetters p1 p2 n t_row t_rowSize x3 x4) t_letters t_words t_lengths t_kept t_keptMany t_keptLetters p1 p2 n69 t_row t_rowSize x3 x4 0)
def VX11_occurrence_44 (post : Int32 → (Nat → Int32) → Int32 → Prop)  (t_letters : Int32) (t_words : Nat → Int32) (t_lengths : Nat → Int32) (t_kept : Nat → Int32) (t_keptMany : Int32) (t_keptLetters : Int32) (p1 : Int32) (p2 : Int32) : Nat → (Nat → Int32) → Int32 → Int32 → Prop
  | 0, _, _, _ => False
  | n + 1, t_row, t_rowSize, x3 => ((t_rowSize ≤ x3) → post (-2 : Int32) t_row t_rowSize) ∧ (¬ (t_rowSize ≤ x3) → ∃ n55 : Nat, VX11_occurrence_55 post (fun t_row t_rowSize x3 => VX11_occurrence_44 post t_letters t_words t_lengths t_kept t_keptMany t_keptLetters p1 p2 n t_row t_rowSize x3) t_letters t_words t_lengths t_kept t_keptMany t_keptLetters p1 p2 n55 t_row t_rowSize x3 0)
def VX11_occurrence (post : Int32 → (Nat → Int32) → Int32 → Prop)  (t_letters : Int32) (t_words : Nat → Int32) (t_lengths : Nat → Int32) (t_kept : Nat → Int32) (t_keptMany : Int32) (t_keptLetters : Int32) (p1 : Int32) (p2 : Int32) (t_row : Nat → Int32) (t_rowSize : Int32) : Prop := VX11_isWord (fun r_1 => (¬ (r_1 = 0) → VX11_isIn (fun r_2 => ((r_2 = 0) → post (-2 : Int32) t_row t_rowSize) ∧ (¬ (r_2 = 0) → ((t_letters = t_keptLetters) → VX11_take (fun u_3 u_4 => ∃ n44 : Nat, VX11_occurrence_44 post t_letters t_words t_lengths t_kept t_keptMany t_keptLetters p1 p2 n44 u_3 u_4 0) t_words t_lengths p1 t_row t_rowSize) ∧ (¬ (t_letters = t_keptLetters) → post (-2 : Int32) t_row t_rowSize))) p2 0 (t_keptMany - 1)) ∧ ((r_1 = 0) → post (-1 : Int32) t_row t_rowSize)) p1
set_option maxHeartbeats 4000000 in
set_option maxRecDepth 100000 in
theorem wX11_occurrence_96 {p : Program} (l : Launch) {e : Env} {s : State} {m : MethodId} {args : Array Value} {below : List Frame} {meth : Method} {c : Code} {dC : Nat → ClassId} {dI : Nat → Nat → Nat} {cy : Nat → ClassId} {A : Nat → Prop} (h : Nat → Nat) (post : Int32 → (Nat → Int32) → Int32 → Prop)   (t_kind : Int32) (t_exponent : Int32) (t_letters : Int32) (t_words : Nat → Int32) (t_lengths : Nat → Int32) (t_fed : Int32) (t_at : Int32) (t_steps : Int32) (t_foundMany : Int32) (t_kept : Nat → Int32) (t_keptMany : Int32) (t_keptLetters : Int32) (t_isFull : Int32) (t_isSaved : Int32) (t_savedKind : Int32) (t_savedExponent : Int32) (t_savedLetters : Int32) (p1 : Int32) (p2 : Int32) (C0 : cx p s m args meth c cX11_occurrence 6 (some .int) wsX11_occurrence RX11 dC dI cy A)  : ∀ (t_row : Nat → Int32) (t_rowSize : Int32) (x3 : Int32) (x4 : Int32) (x5 : Int32), VX11_occurrence_96 post t_letters t_words t_lengths t_kept t_keptMany t_keptLetters p1 p2 t_row t_rowSize x3 x4 x5 → ∀ (H : Heap) (locs : List Loc) (ls : Array Slot), va_P (dC, dI) vwCl (pX11_occurrence cy h t_kind t_exponent t_letters t_words t_lengths t_fed t_at t_row t_rowSize t_steps t_foundMany t_kept t_keptMany t_keptLetters t_isFull t_isSaved t_savedKind t_savedExponent t_savedLetters) H → va_D A (pX11_occurrence cy h t_kind t_exponent t_letters t_words t_lengths t_fed t_at t_row t_rowSize t_steps t_foundMany t_kept t_keptMany t_keptLetters t_isFull t_isSaved t_savedKind t_savedExponent t_savedLetters) → va_S A s.heap H locs → lv_has ls 6 [(3, .int x3), (4, .int x4), (5, .int x5)] → W p l e rX11_occurrence s m args below meth c H locs 0 0 (MQ below (va_Qi (fun (r : Int32) (u : (Nat → Int32) × Int32) => post r u.1 u.2) (fun (u : (Nat → Int32) × Int32) (t : State) => va_P (dC, dI) vwCl (pX11_occurrence cy h t_kind t_exponent t_letters t_words t_lengths t_fed t_at u.1 u.2 t_steps t_foundMany t_kept t_keptMany t_keptLetters t_isFull t_isSaved t_savedKind t_savedExponent t_savedLetters) t.heap) A) args s 0 0 A) (F0 m 96 ls []) := by
  have C1 := C0
  obtain ⟨hx, hb, hr, hml, hown, hts, hlocks, hK, hA⟩ := C1
  intro t_row t_rowSize x3 x4 x5 hv H locs ls hP hD hS hl
  refine lv_sipush (v := 10000) hx hb dX11_occurrence_96 (by decide) ?_
  refine lv_iload_n hx hb dX11_occurrence_99 rfl (lv_at hl 0 rfl) ?_
  refine lv_imul hx hb dX11_occurrence_100 ?_
  refine lv_bipush (v := 100) hx hb dX11_occurrence_101 (by decide) ?_
  refine lv_iload hx hb dX11_occurrence_103 (lv_at hl 1 rfl) ?_
  refine lv_imul hx hb dX11_occurrence_105 ?_
  refine lv_iadd hx hb dX11_occurrence_106 ?_
  refine lv_topi (fun y_20 ey_20 => ?_)
  have hv := hv y_20 ey_20
  refine lv_iload hx hb dX11_occurrence_107 (lv_at hl 2 rfl) ?_
  refine lv_iadd hx hb dX11_occurrence_109 ?_
  exact W.iret (v := (y_20 + x5)) hx hb hr (fun t ht hW => ⟨⟨(y_20 + x5), (t_row, t_rowSize), rfl, hv, va_Ph ht hP⟩, hS.F ht⟩) hS.2.2 dX11_occurrence_110
set_option maxHeartbeats 4000000 in
set_option maxRecDepth 100000 in
theorem wX11_occurrence_69 {p : Program} (l : Launch) {e : Env} {s : State} {m : MethodId} {args : Array Value} {below : List Frame} {meth : Method} {c : Code} {dC : Nat → ClassId} {dI : Nat → Nat → Nat} {cy : Nat → ClassId} {A : Nat → Prop} (h : Nat → Nat) (post : Int32 → (Nat → Int32) → Int32 → Prop) (K55 : (Nat → Int32) → Int32 → Int32 → Int32 → Prop)  (t_kind : Int32) (t_exponent : Int32) (t_letters : Int32) (t_words : Nat → Int32) (t_lengths : Nat → Int32) (t_fed : Int32) (t_at : Int32) (t_steps : Int32) (t_foundMany : Int32) (t_kept : Nat → Int32) (t_keptMany : Int32) (t_keptLetters : Int32) (t_isFull : Int32) (t_isSaved : Int32) (t_savedKind : Int32) (t_savedExponent : Int32) (t_savedLetters : Int32) (p1 : Int32) (p2 : Int32) (C0 : cx p s m args meth c cX11_occurrence 6 (some .int) wsX11_occurrence RX11 dC dI cy A) (hK55 : ∀ (t_row : Nat → Int32) (t_rowSize : Int32) (x3 : Int32) (x4 : Int32), K55 t_row t_rowSize x3 x4 → ∀ (H : Heap) (locs : List Loc) (ls : Array Slot), va_P (dC, dI) vwCl (pX11_occurrence cy h t_kind t_exponent t_letters t_words t_lengths t_fed t_at t_row t_rowSize t_steps t_foundMany t_kept t_keptMany t_keptLetters t_isFull t_isSaved t_savedKind t_savedExponent t_savedLetters) H → va_D A (pX11_occurrence cy h t_kind t_exponent t_letters t_words t_lengths t_fed t_at t_row t_rowSize t_steps t_foundMany t_kept t_keptMany t_keptLetters t_isFull t_isSaved t_savedKind t_savedExponent t_savedLetters) → va_S A s.heap H locs → lv_has ls 6 [(0, .ref (h 0)), (2, .int p2), (3, .int x3), (4, .int x4)] → W p l e rX11_occurrence s m args below meth c H locs 0 0 (MQ below (va_Qi (fun (r : Int32) (u : (Nat → Int32) × Int32) => post r u.1 u.2) (fun (u : (Nat → Int32) × Int32) (t : State) => va_P (dC, dI) vwCl (pX11_occurrence cy h t_kind t_exponent t_letters t_words t_lengths t_fed t_at u.1 u.2 t_steps t_foundMany t_kept t_keptMany t_keptLetters t_isFull t_isSaved t_savedKind t_savedExponent t_savedLetters) t.heap) A) args s 0 0 A) (F0 m 55 ls [])) : ∀ (n : Nat) (t_row : Nat → Int32) (t_rowSize : Int32) (x3 : Int32) (x4 : Int32) (x5 : Int32), VX11_occurrence_69 post K55 t_letters t_words t_lengths t_kept t_keptMany t_keptLetters p1 p2 n t_row t_rowSize x3 x4 x5 → ∀ (H : Heap) (locs : List Loc) (ls : Array Slot), va_P (dC, dI) vwCl (pX11_occurrence cy h t_kind t_exponent t_letters t_words t_lengths t_fed t_at t_row t_rowSize t_steps t_foundMany t_kept t_keptMany t_keptLetters t_isFull t_isSaved t_savedKind t_savedExponent t_savedLetters) H → va_D A (pX11_occurrence cy h t_kind t_exponent t_letters t_words t_lengths t_fed t_at t_row t_rowSize t_steps t_foundMany t_kept t_keptMany t_keptLetters t_isFull t_isSaved t_savedKind t_savedExponent t_savedLetters) → va_S A s.heap H locs → lv_has ls 6 [(0, .ref (h 0)), (2, .int p2), (3, .int x3), (4, .int x4), (5, .int x5)] → W p l e rX11_occurrence s m args below meth c H locs 0 0 (MQ below (va_Qi (fun (r : Int32) (u : (Nat → Int32) × Int32) => post r u.1 u.2) (fun (u : (Nat → Int32) × Int32) (t : State) => va_P (dC, dI) vwCl (pX11_occurrence cy h t_kind t_exponent t_letters t_words t_lengths t_fed t_at u.1 u.2 t_steps t_foundMany t_kept t_keptMany t_keptLetters t_isFull t_isSaved t_savedKind t_savedExponent t_savedLetters) t.heap) A) args s 0 0 A) (F0 m 69 ls []) := by
  have C1 := C0
  obtain ⟨hx, hb, hr, hml, hown, hts, hlocks, hK, hA⟩ := C1
  intro n
  induction n with
  | zero => intro t_row t_rowSize x3 x4 x5 hv; exact hv.elim
  | succ n ih =>
    intro t_row t_rowSize x3 x4 x5 hv H locs ls hP hD hS hl
    refine lv_iload hx hb dX11_occurrence_69 (lv_at hl 4 rfl) ?_
    refine lv_aload_n hx hb dX11_occurrence_71 rfl (lv_at hl 0 rfl) ?_
    refine va_get (D := (dC, dI)) (ci := 11) (v := .int t_rowSize) (C := RX11) (T := TX11) (N := 36) hx hb hts nX11_occurrence_X11 hown hK hP 0 rfl rfl 12 (by decide) (hts _ mX11_occurrence_4) (fun _ h9 => h9) rfl dX11_occurrence_72 ?_
    refine lv_iload_n hx hb dX11_occurrence_75 rfl (lv_at hl 2 rfl) ?_
    refine lv_isub hx hb dX11_occurrence_76 ?_
    refine lv_iload hx hb dX11_occurrence_77 (lv_at hl 3 rfl) ?_
    refine lv_isub hx hb dX11_occurrence_79 ?_
    refine lv_icmp_gt (tgt := 117) hx hb dX11_occurrence_80 (by decide) (fun c_19 => ?_) (fun c_19 => ?_)
    · have hv := hv.1 c_19
      refine lv_iinc (v := (x4 + 1)) (lv' := [(4, .int ((x4 + 1))), (0, .ref (h 0)), (2, .int p2), (3, .int x3), (5, .int x5)]) hx hb dX11_occurrence_117 hl (k := 3) rfl rfl (by decide) rfl (fun ls hl => ?_)
      refine lv_goto (tgt := 55) hx hb dX11_occurrence_120 (by decide) ?_
      exact hK55 t_row t_rowSize x3 (x4 + 1) hv _ _ _ hP hD hS (lv_sub hl [1, 2, 3, 0] rfl)
    · have hv := hv.2 c_19
      refine lv_aload_n hx hb dX11_occurrence_83 rfl (lv_at hl 0 rfl) ?_
      refine lv_iload_n hx hb dX11_occurrence_84 rfl (lv_at hl 1 rfl) ?_
      refine lv_iload_n hx hb dX11_occurrence_85 rfl (lv_at hl 2 rfl) ?_
      refine lv_iload hx hb dX11_occurrence_86 (lv_at hl 3 rfl) ?_
      refine lv_iload hx hb dX11_occurrence_88 (lv_at hl 4 rfl) ?_
      refine cb_VI (As := [.int p2, .int x3, .int x4, .int x5]) (rest := []) ⟨hx, hb, hml, hown, hts⟩ (kX11_occurs l dC dI cy (adl [h 0, h 3, h 4, h 5, h 1, h 2, h 6, h 7, h 8, h 9, h 10, h 11, h 12, h 13, h 14, h 15, h 16, h 17, h 18, h 19, h 20, h 21]) t_kind t_exponent t_letters t_fed t_at t_row t_rowSize t_steps t_foundMany t_kept t_keptMany t_keptLetters t_isFull t_isSaved t_savedKind t_savedExponent t_savedLetters p2 x3 x4 x5 _ hv) (cwV 4 hts gX11_occurrence_X11_occurs rfl rfl rfl zX11_occurs ⟨Nat.le_of_ble_eq_true rfl, Nat.le_of_ble_eq_true rfl⟩) hK hP hD hS hA [0, 3, 4] [some 0, none, none, some 1, some 2] rfl rfl rfl (ci := 11) rfl rfl (fun _ => rfl) rfl hl.1 rfl (Nat.le_of_ble_eq_true rfl) dX11_occurrence_90 (fun r_16 w_18 H locs hv hP hD hS => ?_)
      have hP : va_P (dC, dI) vwCl (pX11_occurrence cy h t_kind t_exponent t_letters t_words t_lengths t_fed t_at t_row t_rowSize t_steps t_foundMany t_kept t_keptMany t_keptLetters t_isFull t_isSaved t_savedKind t_savedExponent t_savedLetters) H := hP
      have hD : va_D A (pX11_occurrence cy h t_kind t_exponent t_letters t_words t_lengths t_fed t_at t_row t_rowSize t_steps t_foundMany t_kept t_keptMany t_keptLetters t_isFull t_isSaved t_savedKind t_savedExponent t_savedLetters) := hD
      refine lv_if_eq (tgt := 111) hx hb dX11_occurrence_93 (by decide) (fun c_17 => ?_) (fun c_17 => ?_)
      · have hv := hv.1 c_17
        refine lv_iinc (v := (x5 + 1)) (lv' := [(5, .int ((x5 + 1))), (0, .ref (h 0)), (2, .int p2), (3, .int x3), (4, .int x4)]) hx hb dX11_occurrence_111 hl (k := 4) rfl rfl (by decide) rfl (fun ls hl => ?_)
        refine lv_goto (tgt := 69) hx hb dX11_occurrence_114 (by decide) ?_
        exact ih t_row t_rowSize x3 x4 (x5 + 1) hv _ _ _ hP hD hS (lv_sub hl [1, 2, 3, 4, 0] rfl)
      · have hv := hv.2 c_17
        exact wX11_occurrence_96 l h post  t_kind t_exponent t_letters t_words t_lengths t_fed t_at t_steps t_foundMany t_kept t_keptMany t_keptLetters t_isFull t_isSaved t_savedKind t_savedExponent t_savedLetters p1 p2 C0 t_row t_rowSize x3 x4 x5 hv _ _ _ hP hD hS (lv_sub hl [2, 3, 4] rfl)
set_option maxHeartbeats 4000000 in
set_option maxRecDepth 100000 in
theorem wX11_occurrence_55 {p : Program} (l : Launch) {e : Env} {s : State} {m : MethodId} {args : Array Value} {below : List Frame} {meth : Method} {c : Code} {dC : Nat → ClassId} {dI : Nat → Nat → Nat} {cy : Nat → ClassId} {A : Nat → Prop} (h : Nat → Nat) (post : Int32 → (Nat → Int32) → Int32 → Prop) (K44 : (Nat → Int32) → Int32 → Int32 → Prop)  (t_kind : Int32) (t_exponent : Int32) (t_letters : Int32) (t_words : Nat → Int32) (t_lengths : Nat → Int32) (t_fed : Int32) (t_at : Int32) (t_steps : Int32) (t_foundMany : Int32) (t_kept : Nat → Int32) (t_keptMany : Int32) (t_keptLetters : Int32) (t_isFull : Int32) (t_isSaved : Int32) (t_savedKind : Int32) (t_savedExponent : Int32) (t_savedLetters : Int32) (p1 : Int32) (p2 : Int32) (C0 : cx p s m args meth c cX11_occurrence 6 (some .int) wsX11_occurrence RX11 dC dI cy A) (hK44 : ∀ (t_row : Nat → Int32) (t_rowSize : Int32) (x3 : Int32), K44 t_row t_rowSize x3 → ∀ (H : Heap) (locs : List Loc) (ls : Array Slot), va_P (dC, dI) vwCl (pX11_occurrence cy h t_kind t_exponent t_letters t_words t_lengths t_fed t_at t_row t_rowSize t_steps t_foundMany t_kept t_keptMany t_keptLetters t_isFull t_isSaved t_savedKind t_savedExponent t_savedLetters) H → va_D A (pX11_occurrence cy h t_kind t_exponent t_letters t_words t_lengths t_fed t_at t_row t_rowSize t_steps t_foundMany t_kept t_keptMany t_keptLetters t_isFull t_isSaved t_savedKind t_savedExponent t_savedLetters) → va_S A s.heap H locs → lv_has ls 6 [(0, .ref (h 0)), (2, .int p2), (3, .int x3)] → W p l e rX11_occurrence s m args below meth c H locs 0 0 (MQ below (va_Qi (fun (r : Int32) (u : (Nat → Int32) × Int32) => post r u.1 u.2) (fun (u : (Nat → Int32) × Int32) (t : State) => va_P (dC, dI) vwCl (pX11_occurrence cy h t_kind t_exponent t_letters t_words t_lengths t_fed t_at u.1 u.2 t_steps t_foundMany t_kept t_keptMany t_keptLetters t_isFull t_isSaved t_savedKind t_savedExponent t_savedLetters) t.heap) A) args s 0 0 A) (F0 m 44 ls [])) : ∀ (n : Nat) (t_row : Nat → Int32) (t_rowSize : Int32) (x3 : Int32) (x4 : Int32), VX11_occurrence_55 post K44 t_letters t_words t_lengths t_kept t_keptMany t_keptLetters p1 p2 n t_row t_rowSize x3 x4 → ∀ (H : Heap) (locs : List Loc) (ls : Array Slot), va_P (dC, dI) vwCl (pX11_occurrence cy h t_kind t_exponent t_letters t_words t_lengths t_fed t_at t_row t_rowSize t_steps t_foundMany t_kept t_keptMany t_keptLetters t_isFull t_isSaved t_savedKind t_savedExponent t_savedLetters) H → va_D A (pX11_occurrence cy h t_kind t_exponent t_letters t_words t_lengths t_fed t_at t_row t_rowSize t_steps t_foundMany t_kept t_keptMany t_keptLetters t_isFull t_isSaved t_savedKind t_savedExponent t_savedLetters) → va_S A s.heap H locs → lv_has ls 6 [(0, .ref (h 0)), (2, .int p2), (3, .int x3), (4, .int x4)] → W p l e rX11_occurrence s m args below meth c H locs 0 0 (MQ below (va_Qi (fun (r : Int32) (u : (Nat → Int32) × Int32) => post r u.1 u.2) (fun (u : (Nat → Int32) × Int32) (t : State) => va_P (dC, dI) vwCl (pX11_occurrence cy h t_kind t_exponent t_letters t_words t_lengths t_fed t_at u.1 u.2 t_steps t_foundMany t_kept t_keptMany t_keptLetters t_isFull t_isSaved t_savedKind t_savedExponent t_savedLetters) t.heap) A) args s 0 0 A) (F0 m 55 ls []) := by
  have C1 := C0
  obtain ⟨hx, hb, hr, hml, hown, hts, hlocks, hK, hA⟩ := C1
  intro n
  induction n with
  | zero => intro t_row t_rowSize x3 x4 hv; exact hv.elim
  | succ n ih =>
    intro t_row t_rowSize x3 x4 hv H locs ls hP hD hS hl
    refine lv_iload hx hb dX11_occurrence_55 (lv_at hl 3 rfl) ?_
    refine lv_aload_n hx hb dX11_occurrence_57 rfl (lv_at hl 0 rfl) ?_
    refine va_get (D := (dC, dI)) (ci := 11) (v := .int t_rowSize) (C := RX11) (T := TX11) (N := 36) hx hb hts nX11_occurrence_X11 hown hK hP 0 rfl rfl 12 (by decide) (hts _ mX11_occurrence_4) (fun _ h9 => h9) rfl dX11_occurrence_58 ?_
    refine lv_iload_n hx hb dX11_occurrence_61 rfl (lv_at hl 2 rfl) ?_
    refine lv_isub hx hb dX11_occurrence_62 ?_
    refine lv_icmp_gt (tgt := 123) hx hb dX11_occurrence_63 (by decide) (fun c_15 => ?_) (fun c_15 => ?_)
    · have hv := hv.1 c_15
      refine lv_iinc (v := (x3 + 1)) (lv' := [(3, .int ((x3 + 1))), (0, .ref (h 0)), (2, .int p2), (4, .int x4)]) hx hb dX11_occurrence_123 hl (k := 2) rfl rfl (by decide) rfl (fun ls hl => ?_)
      refine lv_goto (tgt := 44) hx hb dX11_occurrence_126 (by decide) ?_
      exact hK44 t_row t_rowSize (x3 + 1) hv _ _ _ hP hD hS (lv_sub hl [1, 2, 0] rfl)
    · have hv := hv.2 c_15
      refine lv_iconst (v := 0) hx hb dX11_occurrence_66 (by decide) ?_
      refine lv_istore (lv' := [(5, .int 0), (0, .ref (h 0)), (2, .int p2), (3, .int x3), (4, .int x4)]) hx hb dX11_occurrence_67 hl (by decide) rfl (fun ls hl => ?_)
      obtain ⟨n_14, hv⟩ := hv
      exact wX11_occurrence_69 l h post (fun t_row t_rowSize x3 x4 => VX11_occurrence_55 post K44 t_letters t_words t_lengths t_kept t_keptMany t_keptLetters p1 p2 n t_row t_rowSize x3 x4)  t_kind t_exponent t_letters t_words t_lengths t_fed t_at t_steps t_foundMany t_kept t_keptMany t_keptLetters t_isFull t_isSaved t_savedKind t_savedExponent t_savedLetters p1 p2 C0 ih n_14 t_row t_rowSize x3 x4 0 hv _ _ _ hP hD hS (lv_sub hl [1, 2, 3, 4, 0] rfl)
set_option maxHeartbeats 4000000 in
set_option maxRecDepth 100000 in
theorem wX11_occurrence_44 {p : Program} (l : Launch) {e : Env} {s : State} {m : MethodId} {args : Array Value} {below : List Frame} {meth : Method} {c : Code} {dC : Nat → ClassId} {dI : Nat → Nat → Nat} {cy : Nat → ClassId} {A : Nat → Prop} (h : Nat → Nat) (post : Int32 → (Nat → Int32) → Int32 → Prop)   (t_kind : Int32) (t_exponent : Int32) (t_letters : Int32) (t_words : Nat → Int32) (t_lengths : Nat → Int32) (t_fed : Int32) (t_at : Int32) (t_steps : Int32) (t_foundMany : Int32) (t_kept : Nat → Int32) (t_keptMany : Int32) (t_keptLetters : Int32) (t_isFull : Int32) (t_isSaved : Int32) (t_savedKind : Int32) (t_savedExponent : Int32) (t_savedLetters : Int32) (p1 : Int32) (p2 : Int32) (C0 : cx p s m args meth c cX11_occurrence 6 (some .int) wsX11_occurrence RX11 dC dI cy A)  : ∀ (n : Nat) (t_row : Nat → Int32) (t_rowSize : Int32) (x3 : Int32), VX11_occurrence_44 post t_letters t_words t_lengths t_kept t_keptMany t_keptLetters p1 p2 n t_row t_rowSize x3 → ∀ (H : Heap) (locs : List Loc) (ls : Array Slot), va_P (dC, dI) vwCl (pX11_occurrence cy h t_kind t_exponent t_letters t_words t_lengths t_fed t_at t_row t_rowSize t_steps t_foundMany t_kept t_keptMany t_keptLetters t_isFull t_isSaved t_savedKind t_savedExponent t_savedLetters) H → va_D A (pX11_occurrence cy h t_kind t_exponent t_letters t_words t_lengths t_fed t_at t_row t_rowSize t_steps t_foundMany t_kept t_keptMany t_keptLetters t_isFull t_isSaved t_savedKind t_savedExponent t_savedLetters) → va_S A s.heap H locs → lv_has ls 6 [(0, .ref (h 0)), (2, .int p2), (3, .int x3)] → W p l e rX11_occurrence s m args below meth c H locs 0 0 (MQ below (va_Qi (fun (r : Int32) (u : (Nat → Int32) × Int32) => post r u.1 u.2) (fun (u : (Nat → Int32) × Int32) (t : State) => va_P (dC, dI) vwCl (pX11_occurrence cy h t_kind t_exponent t_letters t_words t_lengths t_fed t_at u.1 u.2 t_steps t_foundMany t_kept t_keptMany t_keptLetters t_isFull t_isSaved t_savedKind t_savedExponent t_savedLetters) t.heap) A) args s 0 0 A) (F0 m 44 ls []) := by
  have C1 := C0
  obtain ⟨hx, hb, hr, hml, hown, hts, hlocks, hK, hA⟩ := C1
  intro n
  induction n with
  | zero => intro t_row t_rowSize x3 hv; exact hv.elim
  | succ n ih =>
    intro t_row t_rowSize x3 hv H locs ls hP hD hS hl
    refine lv_iload_n hx hb dX11_occurrence_44 rfl (lv_at hl 2 rfl) ?_
    refine lv_aload_n hx hb dX11_occurrence_45 rfl (lv_at hl 0 rfl) ?_
    refine va_get (D := (dC, dI)) (ci := 11) (v := .int t_rowSize) (C := RX11) (T := TX11) (N := 36) hx hb hts nX11_occurrence_X11 hown hK hP 0 rfl rfl 12 (by decide) (hts _ mX11_occurrence_4) (fun _ h9 => h9) rfl dX11_occurrence_46 ?_
    refine lv_icmp_ge (tgt := 129) hx hb dX11_occurrence_49 (by decide) (fun c_13 => ?_) (fun c_13 => ?_)
    · have hv := hv.1 c_13
      refine lv_bipush (v := (-2)) hx hb dX11_occurrence_129 (by decide) ?_
      exact W.iret (v := (-2)) hx hb hr (fun t ht hW => ⟨⟨(-2), (t_row, t_rowSize), rfl, hv, va_Ph ht hP⟩, hS.F ht⟩) hS.2.2 dX11_occurrence_131
    · have hv := hv.2 c_13
      refine lv_iconst (v := 0) hx hb dX11_occurrence_52 (by decide) ?_
      refine lv_istore (lv' := [(4, .int 0), (0, .ref (h 0)), (2, .int p2), (3, .int x3)]) hx hb dX11_occurrence_53 hl (by decide) rfl (fun ls hl => ?_)
      obtain ⟨n_12, hv⟩ := hv
      exact wX11_occurrence_55 l h post (fun t_row t_rowSize x3 => VX11_occurrence_44 post t_letters t_words t_lengths t_kept t_keptMany t_keptLetters p1 p2 n t_row t_rowSize x3)  t_kind t_exponent t_letters t_words t_lengths t_fed t_at t_steps t_foundMany t_kept t_keptMany t_keptLetters t_isFull t_isSaved t_savedKind t_savedExponent t_savedLetters p1 p2 C0 ih n_12 t_row t_rowSize x3 0 hv _ _ _ hP hD hS (lv_sub hl [1, 2, 3, 0] rfl)
set_option maxHeartbeats 4000000 in
set_option maxRecDepth 100000 in
theorem wX11_occurrence_0 {p : Program} (l : Launch) {e : Env} {s : State} {m : MethodId} {args : Array Value} {below : List Frame} {meth : Method} {c : Code} {dC : Nat → ClassId} {dI : Nat → Nat → Nat} {cy : Nat → ClassId} {A : Nat → Prop} (h : Nat → Nat) (post : Int32 → (Nat → Int32) → Int32 → Prop)   (t_kind : Int32) (t_exponent : Int32) (t_letters : Int32) (t_words : Nat → Int32) (t_lengths : Nat → Int32) (t_fed : Int32) (t_at : Int32) (t_steps : Int32) (t_foundMany : Int32) (t_kept : Nat → Int32) (t_keptMany : Int32) (t_keptLetters : Int32) (t_isFull : Int32) (t_isSaved : Int32) (t_savedKind : Int32) (t_savedExponent : Int32) (t_savedLetters : Int32) (p1 : Int32) (p2 : Int32) (C0 : cx p s m args meth c cX11_occurrence 6 (some .int) wsX11_occurrence RX11 dC dI cy A)  : ∀ (t_row : Nat → Int32) (t_rowSize : Int32), VX11_occurrence post t_letters t_words t_lengths t_kept t_keptMany t_keptLetters p1 p2 t_row t_rowSize → ∀ (H : Heap) (locs : List Loc) (ls : Array Slot), va_P (dC, dI) vwCl (pX11_occurrence cy h t_kind t_exponent t_letters t_words t_lengths t_fed t_at t_row t_rowSize t_steps t_foundMany t_kept t_keptMany t_keptLetters t_isFull t_isSaved t_savedKind t_savedExponent t_savedLetters) H → va_D A (pX11_occurrence cy h t_kind t_exponent t_letters t_words t_lengths t_fed t_at t_row t_rowSize t_steps t_foundMany t_kept t_keptMany t_keptLetters t_isFull t_isSaved t_savedKind t_savedExponent t_savedLetters) → va_S A s.heap H locs → lv_has ls 6 [(0, .ref (h 0)), (1, .int p1), (2, .int p2)] → W p l e rX11_occurrence s m args below meth c H locs 0 0 (MQ below (va_Qi (fun (r : Int32) (u : (Nat → Int32) × Int32) => post r u.1 u.2) (fun (u : (Nat → Int32) × Int32) (t : State) => va_P (dC, dI) vwCl (pX11_occurrence cy h t_kind t_exponent t_letters t_words t_lengths t_fed t_at u.1 u.2 t_steps t_foundMany t_kept t_keptMany t_keptLetters t_isFull t_isSaved t_savedKind t_savedExponent t_savedLetters) t.heap) A) args s 0 0 A) (F0 m 0 ls []) := by
  have C1 := C0
  obtain ⟨hx, hb, hr, hml, hown, hts, hlocks, hK, hA⟩ := C1
  intro t_row t_rowSize hv H locs ls hP hD hS hl
  refine lv_iload_n hx hb dX11_occurrence_0 rfl (lv_at hl 1 rfl) ?_
  refine cb_SI (As := [.int p1]) (rest := []) ⟨hx, hb, hml, hown, hts⟩ (kX11_isWord l dC dI cy (adl []) p1 _ hv) (va_cwS 1 hts gX11_occurrence_X11_isWord rfl rfl rfl zX11_isWord ⟨Nat.le_of_ble_eq_true rfl, Nat.le_of_ble_eq_true rfl⟩) hK hP hD hS hA [] [none, none, none, none, none] rfl rfl rfl (fun _ => rfl) rfl hl.1 rfl (Nat.le_of_ble_eq_true rfl) dX11_occurrence_1 (fun r_1 w_11 H locs hv hP hD hS => ?_)
  have hP : va_P (dC, dI) vwCl (pX11_occurrence cy h t_kind t_exponent t_letters t_words t_lengths t_fed t_at t_row t_rowSize t_steps t_foundMany t_kept t_keptMany t_keptLetters t_isFull t_isSaved t_savedKind t_savedExponent t_savedLetters) H := hP
  have hD : va_D A (pX11_occurrence cy h t_kind t_exponent t_letters t_words t_lengths t_fed t_at t_row t_rowSize t_steps t_foundMany t_kept t_keptMany t_keptLetters t_isFull t_isSaved t_savedKind t_savedExponent t_savedLetters) := hD
  refine lv_if_ne (tgt := 9) hx hb dX11_occurrence_4 (by decide) (fun c_10 => ?_) (fun c_10 => ?_)
  · have hv := hv.1 c_10
    refine lv_iload_n hx hb dX11_occurrence_9 rfl (lv_at hl 2 rfl) ?_
    refine lv_iconst (v := 0) hx hb dX11_occurrence_10 (by decide) ?_
    refine lv_aload_n hx hb dX11_occurrence_11 rfl (lv_at hl 0 rfl) ?_
    refine va_get (D := (dC, dI)) (ci := 11) (v := .int t_keptMany) (C := RX11) (T := TX11) (N := 36) hx hb hts nX11_occurrence_X11 hown hK hP 0 rfl rfl 17 (by decide) (hts _ mX11_occurrence_1) (fun _ h9 => h9) rfl dX11_occurrence_12 ?_
    refine lv_iconst (v := 1) hx hb dX11_occurrence_15 (by decide) ?_
    refine lv_isub hx hb dX11_occurrence_16 ?_
    refine cb_SI (As := [.int p2, .int 0, .int ((t_keptMany - 1))]) (rest := []) ⟨hx, hb, hml, hown, hts⟩ (kX11_isIn l dC dI cy (adl []) p2 0 (t_keptMany - 1) _ hv) (va_cwS 3 hts gX11_occurrence_X11_isIn rfl rfl rfl zX11_isIn ⟨Nat.le_of_ble_eq_true rfl, Nat.le_of_ble_eq_true rfl⟩) hK hP hD hS hA [] [none, none, none, none, none] rfl rfl rfl (fun _ => rfl) rfl hl.1 rfl (Nat.le_of_ble_eq_true rfl) dX11_occurrence_17 (fun r_2 w_9 H locs hv hP hD hS => ?_)
    have hP : va_P (dC, dI) vwCl (pX11_occurrence cy h t_kind t_exponent t_letters t_words t_lengths t_fed t_at t_row t_rowSize t_steps t_foundMany t_kept t_keptMany t_keptLetters t_isFull t_isSaved t_savedKind t_savedExponent t_savedLetters) H := hP
    have hD : va_D A (pX11_occurrence cy h t_kind t_exponent t_letters t_words t_lengths t_fed t_at t_row t_rowSize t_steps t_foundMany t_kept t_keptMany t_keptLetters t_isFull t_isSaved t_savedKind t_savedExponent t_savedLetters) := hD
    refine lv_if_eq (tgt := 34) hx hb dX11_occurrence_20 (by decide) (fun c_8 => ?_) (fun c_8 => ?_)
    · have hv := hv.1 c_8
      refine lv_bipush (v := (-2)) hx hb dX11_occurrence_34 (by decide) ?_
      exact W.iret (v := (-2)) hx hb hr (fun t ht hW => ⟨⟨(-2), (t_row, t_rowSize), rfl, hv, va_Ph ht hP⟩, hS.F ht⟩) hS.2.2 dX11_occurrence_36
    · have hv := hv.2 c_8
      refine lv_aload_n hx hb dX11_occurrence_23 rfl (lv_at hl 0 rfl) ?_
      refine va_get (D := (dC, dI)) (ci := 11) (v := .int t_letters) (C := RX11) (T := TX11) (N := 36) hx hb hts nX11_occurrence_X11 hown hK hP 0 rfl rfl 2 (by decide) (hts _ mX11_occurrence_2) (fun _ h9 => h9) rfl dX11_occurrence_24 ?_
      refine lv_aload_n hx hb dX11_occurrence_27 rfl (lv_at hl 0 rfl) ?_
      refine va_get (D := (dC, dI)) (ci := 11) (v := .int t_keptLetters) (C := RX11) (T := TX11) (N := 36) hx hb hts nX11_occurrence_X11 hown hK hP 0 rfl rfl 18 (by decide) (hts _ mX11_occurrence_3) (fun _ h9 => h9) rfl dX11_occurrence_28 ?_
      refine lv_icmp_eq (tgt := 37) hx hb dX11_occurrence_31 (by decide) (fun c_7 => ?_) (fun c_7 => ?_)
      · have hv := hv.1 c_7
        refine lv_aload_n hx hb dX11_occurrence_37 rfl (lv_at hl 0 rfl) ?_
        refine lv_iload_n hx hb dX11_occurrence_38 rfl (lv_at hl 1 rfl) ?_
        refine cb_VV (As := [.int p1]) (rest := []) ⟨hx, hb, hml, hown, hts⟩ (kX11_take l dC dI cy (adl [h 0, h 1, h 2, h 3, h 5, h 6, h 7, h 8, h 9, h 4, h 10, h 11, h 12, h 13, h 14, h 15, h 16, h 17, h 18, h 19, h 20, h 21]) t_kind t_exponent t_letters t_words t_lengths t_fed t_at t_row t_rowSize t_steps t_foundMany t_keptMany t_keptLetters t_isFull t_isSaved t_savedKind t_savedExponent t_savedLetters p1 _ hv) (cwV 1 hts gX11_occurrence_X11_take rfl rfl rfl zX11_take ⟨Nat.le_of_ble_eq_true rfl, Nat.le_of_ble_eq_true rfl⟩) hK hP hD hS hA [0, 1, 2, 3] [some 0, some 1, some 2, some 3, none] rfl rfl rfl (ci := 11) rfl rfl (fun _ => rfl) rfl hl.1 rfl (Nat.le_of_ble_eq_true rfl) dX11_occurrence_39 (fun w_6 H locs hv hP hD hS => ?_)
        obtain ⟨u_3, u_4⟩ := w_6
        have hP : va_P (dC, dI) vwCl (pX11_occurrence cy h t_kind t_exponent t_letters t_words t_lengths t_fed t_at u_3 u_4 t_steps t_foundMany t_kept t_keptMany t_keptLetters t_isFull t_isSaved t_savedKind t_savedExponent t_savedLetters) H := hP
        have hD : va_D A (pX11_occurrence cy h t_kind t_exponent t_letters t_words t_lengths t_fed t_at u_3 u_4 t_steps t_foundMany t_kept t_keptMany t_keptLetters t_isFull t_isSaved t_savedKind t_savedExponent t_savedLetters) := hD
        refine lv_iconst (v := 0) hx hb dX11_occurrence_42 (by decide) ?_
        refine lv_istore_n (lv' := [(3, .int 0), (0, .ref (h 0)), (1, .int p1), (2, .int p2)]) hx hb dX11_occurrence_43 rfl hl (by decide) rfl (fun ls hl => ?_)
        obtain ⟨n_5, hv⟩ := hv
        exact wX11_occurrence_44 l h post  t_kind t_exponent t_letters t_words t_lengths t_fed t_at t_steps t_foundMany t_kept t_keptMany t_keptLetters t_isFull t_isSaved t_savedKind t_savedExponent t_savedLetters p1 p2 C0 n_5 u_3 u_4 0 hv _ _ _ hP hD hS (lv_sub hl [1, 3, 0] rfl)
      · have hv := hv.2 c_7
        refine lv_bipush (v := (-2)) hx hb dX11_occurrence_34 (by decide) ?_
        exact W.iret (v := (-2)) hx hb hr (fun t ht hW => ⟨⟨(-2), (t_row, t_rowSize), rfl, hv, va_Ph ht hP⟩, hS.F ht⟩) hS.2.2 dX11_occurrence_36
  · have hv := hv.2 c_10
    refine lv_iconst (v := (-1)) hx hb dX11_occurrence_7 (by decide) ?_
    exact W.iret (v := (-1)) hx hb hr (fun t ht hW => ⟨⟨(-1), (t_row, t_rowSize), rfl, hv, va_Ph ht hP⟩, hS.F ht⟩) hS.2.2 dX11_occurrence_8
theorem kX11_occurrence (l : Launch) (dC : Nat → ClassId) (dI : Nat → Nat → Nat) (cy : Nat → ClassId) (h : Nat → Nat) (t_kind : Int32) (t_exponent : Int32) (t_letters : Int32) (t_words : Nat → Int32) (t_lengths : Nat → Int32) (t_fed : Int32) (t_at : Int32) (t_row : Nat → Int32) (t_rowSize : Int32) (t_steps : Int32) (t_foundMany : Int32) (t_kept : Nat → Int32) (t_keptMany : Int32) (t_keptLetters : Int32) (t_isFull : Int32) (t_isSaved : Int32) (t_savedKind : Int32) (t_savedExponent : Int32) (t_savedLetters : Int32) (p1 : Int32) (p2 : Int32) (post : Int32 → (Nat → Int32) → Int32 → Prop) (hv : VX11_occurrence post t_letters t_words t_lengths t_kept t_keptMany t_keptLetters p1 p2 t_row t_rowSize) : CtI l yX11_occurrence wsX11_occurrence rX11_occurrence dC dI cy [.ref (h 0), .int p1, .int p2] (pX11_occurrence cy h t_kind t_exponent t_letters t_words t_lengths t_fed t_at t_row t_rowSize t_steps t_foundMany t_kept t_keptMany t_keptLetters t_isFull t_isSaved t_savedKind t_savedExponent t_savedLetters) (fun (u : (Nat → Int32) × Int32) => pX11_occurrence cy h t_kind t_exponent t_letters t_words t_lengths t_fed t_at u.1 u.2 t_steps t_foundMany t_kept t_keptMany t_keptLetters t_isFull t_isSaved t_savedKind t_savedExponent t_savedLetters) (fun (r : Int32) (u : (Nat → Int32) × Int32) => post r u.1 u.2) :=
  ct_ofI (by decide) rfl (Nat.le_of_ble_eq_true rfl) (fun p e s m below meth c A ls C0 hP hD hS hl => wX11_occurrence_0 l h post t_kind t_exponent t_letters t_words t_lengths t_fed t_at t_steps t_foundMany t_kept t_keptMany t_keptLetters t_isFull t_isSaved t_savedKind t_savedExponent t_savedLetters p1 p2 C0 t_row t_rowSize hv _ _ _ hP hD hS hl)
theorem mX11_newArray_1 : (Cond.fieldLink RX11 63 "AbelianPowersModel" "sizes" "[I") ∈ wsX11_newArray := List.mem_of_getElem? (i := 1) rfl
theorem mX11_newArray_2 : (Cond.fieldLink RX11 66 "AbelianPowersModel" "items" "[J") ∈ wsX11_newArray := List.mem_of_getElem? (i := 2) rfl
theorem nX11_newArray_X11 : ∀ w ∈ wsX110, w ∈ wsX11_newArray := fun _ h => List.mem_cons_of_mem _ (List.mem_append_right _ h)
theorem zX11_newArray : yX11_newArray.cls = RX11 ∧ yX11_newArray.cls ≠ "java/lang/invoke/MethodHandle" ∧ yX11_newArray.cls ≠ "java/lang/invoke/VarHandle" ∧ (parseMethodDescriptor yX11_newArray.desc).map (fun d => d.parameters.length) = some 2 := by decide +kernel
abbrev rX11_newArray : Room := { frames := 2, cells := 0, slots := 0, locals := 42 }
abbrev pX11_newArray (cy : Nat → ClassId) (h : Nat → Nat) (t_kind : Int32) (t_exponent : Int32) (t_letters : Int32) (t_fed : Int32) (t_at : Int32) (t_rowSize : Int32) (t_steps : Int32) (t_foundMany : Int32) (t_keptMany : Int32) (t_keptLetters : Int32) (t_isFull : Int32) (t_sizes : Nat → Int32) (t_items : Nat → Int64) (t_isSaved : Int32) (t_savedKind : Int32) (t_savedExponent : Int32) (t_savedLetters : Int32) : va_W := [(h 0, .inr (11, [.int t_kind, .int t_exponent, .int t_letters, .ref (h 3), .ref (h 4), .ref (h 5), .ref (h 6), .ref (h 7), .ref (h 8), .int t_fed, .int t_at, .ref (h 9), .int t_rowSize, .int t_steps, .ref (h 10), .int t_foundMany, .ref (h 11), .int t_keptMany, .int t_keptLetters, .ref (h 12), .ref (h 13), .ref (h 14), .ref (h 15), .ref (h 16), .int t_isFull, .ref (h 1), .ref (h 2), .int t_isSaved, .int t_savedKind, .int t_savedExponent, .int t_savedLetters, .ref (h 17), .ref (h 18), .ref (h 19), .ref (h 20), .ref (h 21)])), (h 1, .inl (cy 0, 3, .inl t_sizes)), (h 2, .inl (cy 1, 123, .inr (.inl t_items)))]
def VX11_newArray_31 (post : Int32 → (Nat → Int32) → (Nat → Int64) → Prop)  (p1 : Int32) (p2 : Int32) : Nat → (Nat → Int32) → (Nat → Int64) → Int32 → Prop
  | 0, _, _, _ => False
  | n + 1, t_sizes, t_items, x3 => ((41 ≤ x3) → post (1 : Int32) t_sizes t_items) ∧ (¬ (41 ≤ x3) → vp_in (((41 : Int32) * p1) + x3) 123 ∧ (VX11_newArray_31 post p1 p2 n t_sizes (vp_updL t_items (((41 : Int32) * p1) + x3).toNatClampNeg 0) (x3 + 1)))
def VX11_newArray (post : Int32 → (Nat → Int32) → (Nat → Int64) → Prop)  (p1 : Int32) (p2 : Int32) (t_sizes : Nat → Int32) (t_items : Nat → Int64) : Prop := VX11_isWord (fun r_1 => ((r_1 = 0) → post (-1 : Int32) t_sizes t_items) ∧ (¬ (r_1 = 0) → ((p2 ≤ 41) → ((0 ≤ p2) → vp_in p1 3 ∧ (∃ n31 : Nat, VX11_newArray_31 post p1 p2 n31 (upd t_sizes p1.toNatClampNeg p2) t_items 0)) ∧ (¬ (0 ≤ p2) → post (-14 : Int32) t_sizes t_items)) ∧ (¬ (p2 ≤ 41) → post (-1 : Int32) t_sizes t_items))) p1
set_option maxHeartbeats 4000000 in
set_option maxRecDepth 100000 in
theorem wX11_newArray_31 {p : Program} (l : Launch) {e : Env} {s : State} {m : MethodId} {args : Array Value} {below : List Frame} {meth : Method} {c : Code} {dC : Nat → ClassId} {dI : Nat → Nat → Nat} {cy : Nat → ClassId} {A : Nat → Prop} (h : Nat → Nat) (post : Int32 → (Nat → Int32) → (Nat → Int64) → Prop)   (t_kind : Int32) (t_exponent : Int32) (t_letters : Int32) (t_fed : Int32) (t_at : Int32) (t_rowSize : Int32) (t_steps : Int32) (t_foundMany : Int32) (t_keptMany : Int32) (t_keptLetters : Int32) (t_isFull : Int32) (t_isSaved : Int32) (t_savedKind : Int32) (t_savedExponent : Int32) (t_savedLetters : Int32) (p1 : Int32) (p2 : Int32) (C0 : cx p s m args meth c cX11_newArray 4 (some .int) wsX11_newArray RX11 dC dI cy A)  : ∀ (n : Nat) (t_sizes : Nat → Int32) (t_items : Nat → Int64) (x3 : Int32), VX11_newArray_31 post p1 p2 n t_sizes t_items x3 → ∀ (H : Heap) (locs : List Loc) (ls : Array Slot), va_P (dC, dI) vwCl (pX11_newArray cy h t_kind t_exponent t_letters t_fed t_at t_rowSize t_steps t_foundMany t_keptMany t_keptLetters t_isFull t_sizes t_items t_isSaved t_savedKind t_savedExponent t_savedLetters) H → va_D A (pX11_newArray cy h t_kind t_exponent t_letters t_fed t_at t_rowSize t_steps t_foundMany t_keptMany t_keptLetters t_isFull t_sizes t_items t_isSaved t_savedKind t_savedExponent t_savedLetters) → va_S A s.heap H locs → lv_has ls 4 [(0, .ref (h 0)), (1, .int p1), (3, .int x3)] → W p l e rX11_newArray s m args below meth c H locs 0 0 (MQ below (va_Qi (fun (r : Int32) (u : (Nat → Int32) × (Nat → Int64)) => post r u.1 u.2) (fun (u : (Nat → Int32) × (Nat → Int64)) (t : State) => va_P (dC, dI) vwCl (pX11_newArray cy h t_kind t_exponent t_letters t_fed t_at t_rowSize t_steps t_foundMany t_keptMany t_keptLetters t_isFull u.1 u.2 t_isSaved t_savedKind t_savedExponent t_savedLetters) t.heap) A) args s 0 0 A) (F0 m 31 ls []) := by
  have C1 := C0
  obtain ⟨hx, hb, hr, hml, hown, hts, hlocks, hK, hA⟩ := C1
  intro n
  induction n with
  | zero => intro t_sizes t_items x3 hv; exact hv.elim
  | succ n ih =>
    intro t_sizes t_items x3 hv H locs ls hP hD hS hl
    refine lv_iload_n hx hb dX11_newArray_31 rfl (lv_at hl 2 rfl) ?_
    refine lv_bipush (v := 41) hx hb dX11_newArray_32 (by decide) ?_
    refine lv_icmp_ge (tgt := 55) hx hb dX11_newArray_34 (by decide) (fun c_9 => ?_) (fun c_9 => ?_)
    · have hv := hv.1 c_9
      refine lv_iconst (v := 1) hx hb dX11_newArray_55 (by decide) ?_
      exact W.iret (v := 1) hx hb hr (fun t ht hW => ⟨⟨1, (t_sizes, t_items), rfl, hv, va_Ph ht hP⟩, hS.F ht⟩) hS.2.2 dX11_newArray_56
    · have hv := hv.2 c_9
      refine lv_aload_n hx hb dX11_newArray_37 rfl (lv_at hl 0 rfl) ?_
      refine va_get (D := (dC, dI)) (ci := 11) (v := .ref (h 2)) (C := RX11) (T := TX11) (N := 36) hx hb hts nX11_newArray_X11 hown hK hP 0 rfl rfl 26 (by decide) (hts _ mX11_newArray_2) (fun _ h9 => h9) rfl dX11_newArray_38 ?_
      refine lv_bipush (v := 41) hx hb dX11_newArray_41 (by decide) ?_
      refine lv_iload_n hx hb dX11_newArray_43 rfl (lv_at hl 1 rfl) ?_
      refine lv_imul hx hb dX11_newArray_44 ?_
      refine lv_iload_n hx hb dX11_newArray_45 rfl (lv_at hl 2 rfl) ?_
      refine lv_iadd hx hb dX11_newArray_46 ?_
      refine lv_lconst (v := 0) hx hb dX11_newArray_47 (by decide) ?_
      have h_8 := hv.1
      have hv := hv.2
      refine va_last hx hb hK hP hD hS 2 1 rfl rfl h_8 dX11_newArray_48 (fun H locs hP hD hS => ?_)
      have hP : va_P (dC, dI) vwCl (pX11_newArray cy h t_kind t_exponent t_letters t_fed t_at t_rowSize t_steps t_foundMany t_keptMany t_keptLetters t_isFull t_sizes (vp_updL t_items (((41 : Int32) * p1) + x3).toNatClampNeg 0) t_isSaved t_savedKind t_savedExponent t_savedLetters) H := hP
      have hD : va_D A (pX11_newArray cy h t_kind t_exponent t_letters t_fed t_at t_rowSize t_steps t_foundMany t_keptMany t_keptLetters t_isFull t_sizes (vp_updL t_items (((41 : Int32) * p1) + x3).toNatClampNeg 0) t_isSaved t_savedKind t_savedExponent t_savedLetters) := hD
      refine lv_iinc (v := (x3 + 1)) (lv' := [(3, .int ((x3 + 1))), (0, .ref (h 0)), (1, .int p1)]) hx hb dX11_newArray_49 hl (k := 2) rfl rfl (by decide) rfl (fun ls hl => ?_)
      refine lv_goto (tgt := 31) hx hb dX11_newArray_52 (by decide) ?_
      exact ih t_sizes (vp_updL t_items (((41 : Int32) * p1) + x3).toNatClampNeg 0) (x3 + 1) hv _ _ _ hP hD hS (lv_sub hl [1, 2, 0] rfl)
set_option maxHeartbeats 4000000 in
set_option maxRecDepth 100000 in
theorem wX11_newArray_0 {p : Program} (l : Launch) {e : Env} {s : State} {m : MethodId} {args : Array Value} {below : List Frame} {meth : Method} {c : Code} {dC : Nat → ClassId} {dI : Nat → Nat → Nat} {cy : Nat → ClassId} {A : Nat → Prop} (h : Nat → Nat) (post : Int32 → (Nat → Int32) → (Nat → Int64) → Prop)   (t_kind : Int32) (t_exponent : Int32) (t_letters : Int32) (t_fed : Int32) (t_at : Int32) (t_rowSize : Int32) (t_steps : Int32) (t_foundMany : Int32) (t_keptMany : Int32) (t_keptLetters : Int32) (t_isFull : Int32) (t_isSaved : Int32) (t_savedKind : Int32) (t_savedExponent : Int32) (t_savedLetters : Int32) (p1 : Int32) (p2 : Int32) (C0 : cx p s m args meth c cX11_newArray 4 (some .int) wsX11_newArray RX11 dC dI cy A)  : ∀ (t_sizes : Nat → Int32) (t_items : Nat → Int64), VX11_newArray post p1 p2 t_sizes t_items → ∀ (H : Heap) (locs : List Loc) (ls : Array Slot), va_P (dC, dI) vwCl (pX11_newArray cy h t_kind t_exponent t_letters t_fed t_at t_rowSize t_steps t_foundMany t_keptMany t_keptLetters t_isFull t_sizes t_items t_isSaved t_savedKind t_savedExponent t_savedLetters) H → va_D A (pX11_newArray cy h t_kind t_exponent t_letters t_fed t_at t_rowSize t_steps t_foundMany t_keptMany t_keptLetters t_isFull t_sizes t_items t_isSaved t_savedKind t_savedExponent t_savedLetters) → va_S A s.heap H locs → lv_has ls 4 [(0, .ref (h 0)), (1, .int p1), (2, .int p2)] → W p l e rX11_newArray s m args below meth c H locs 0 0 (MQ below (va_Qi (fun (r : Int32) (u : (Nat → Int32) × (Nat → Int64)) => post r u.1 u.2) (fun (u : (Nat → Int32) × (Nat → Int64)) (t : State) => va_P (dC, dI) vwCl (pX11_newArray cy h t_kind t_exponent t_letters t_fed t_at t_rowSize t_steps t_foundMany t_keptMany t_keptLetters t_isFull u.1 u.2 t_isSaved t_savedKind t_savedExponent t_savedLetters) t.heap) A) args s 0 0 A) (F0 m 0 ls []) := by
  have C1 := C0
  obtain ⟨hx, hb, hr, hml, hown, hts, hlocks, hK, hA⟩ := C1
  intro t_sizes t_items hv H locs ls hP hD hS hl
  refine lv_iload_n hx hb dX11_newArray_0 rfl (lv_at hl 1 rfl) ?_
  refine cb_SI (As := [.int p1]) (rest := []) ⟨hx, hb, hml, hown, hts⟩ (kX11_isWord l dC dI cy (adl []) p1 _ hv) (va_cwS 1 hts gX11_newArray_X11_isWord rfl rfl rfl zX11_isWord ⟨Nat.le_of_ble_eq_true rfl, Nat.le_of_ble_eq_true rfl⟩) hK hP hD hS hA [] [none, none, none] rfl rfl rfl (fun _ => rfl) rfl hl.1 rfl (Nat.le_of_ble_eq_true rfl) dX11_newArray_1 (fun r_1 w_7 H locs hv hP hD hS => ?_)
  have hP : va_P (dC, dI) vwCl (pX11_newArray cy h t_kind t_exponent t_letters t_fed t_at t_rowSize t_steps t_foundMany t_keptMany t_keptLetters t_isFull t_sizes t_items t_isSaved t_savedKind t_savedExponent t_savedLetters) H := hP
  have hD : va_D A (pX11_newArray cy h t_kind t_exponent t_letters t_fed t_at t_rowSize t_steps t_foundMany t_keptMany t_keptLetters t_isFull t_sizes t_items t_isSaved t_savedKind t_savedExponent t_savedLetters) := hD
  refine lv_if_eq (tgt := 13) hx hb dX11_newArray_4 (by decide) (fun c_6 => ?_) (fun c_6 => ?_)
  · have hv := hv.1 c_6
    refine lv_iconst (v := (-1)) hx hb dX11_newArray_13 (by decide) ?_
    exact W.iret (v := (-1)) hx hb hr (fun t ht hW => ⟨⟨(-1), (t_sizes, t_items), rfl, hv, va_Ph ht hP⟩, hS.F ht⟩) hS.2.2 dX11_newArray_14
  · have hv := hv.2 c_6
    refine lv_iload_n hx hb dX11_newArray_7 rfl (lv_at hl 2 rfl) ?_
    refine lv_bipush (v := 41) hx hb dX11_newArray_8 (by decide) ?_
    refine lv_icmp_le (tgt := 15) hx hb dX11_newArray_10 (by decide) (fun c_5 => ?_) (fun c_5 => ?_)
    · have hv := hv.1 c_5
      refine lv_iload_n hx hb dX11_newArray_15 rfl (lv_at hl 2 rfl) ?_
      refine lv_if_ge (tgt := 22) hx hb dX11_newArray_16 (by decide) (fun c_4 => ?_) (fun c_4 => ?_)
      · have hv := hv.1 c_4
        refine lv_aload_n hx hb dX11_newArray_22 rfl (lv_at hl 0 rfl) ?_
        refine va_get (D := (dC, dI)) (ci := 11) (v := .ref (h 1)) (C := RX11) (T := TX11) (N := 36) hx hb hts nX11_newArray_X11 hown hK hP 0 rfl rfl 25 (by decide) (hts _ mX11_newArray_1) (fun _ h9 => h9) rfl dX11_newArray_23 ?_
        refine lv_iload_n hx hb dX11_newArray_26 rfl (lv_at hl 1 rfl) ?_
        refine lv_iload_n hx hb dX11_newArray_27 rfl (lv_at hl 2 rfl) ?_
        have h_2 := hv.1
        have hv := hv.2
        refine va_iast hx hb hK hP hD hS 1 0 rfl rfl h_2 dX11_newArray_28 (fun H locs hP hD hS => ?_)
        have hP : va_P (dC, dI) vwCl (pX11_newArray cy h t_kind t_exponent t_letters t_fed t_at t_rowSize t_steps t_foundMany t_keptMany t_keptLetters t_isFull (upd t_sizes p1.toNatClampNeg p2) t_items t_isSaved t_savedKind t_savedExponent t_savedLetters) H := hP
        have hD : va_D A (pX11_newArray cy h t_kind t_exponent t_letters t_fed t_at t_rowSize t_steps t_foundMany t_keptMany t_keptLetters t_isFull (upd t_sizes p1.toNatClampNeg p2) t_items t_isSaved t_savedKind t_savedExponent t_savedLetters) := hD
        refine lv_iconst (v := 0) hx hb dX11_newArray_29 (by decide) ?_
        refine lv_istore_n (lv' := [(3, .int 0), (0, .ref (h 0)), (1, .int p1), (2, .int p2)]) hx hb dX11_newArray_30 rfl hl (by decide) rfl (fun ls hl => ?_)
        obtain ⟨n_3, hv⟩ := hv
        exact wX11_newArray_31 l h post  t_kind t_exponent t_letters t_fed t_at t_rowSize t_steps t_foundMany t_keptMany t_keptLetters t_isFull t_isSaved t_savedKind t_savedExponent t_savedLetters p1 p2 C0 n_3 (upd t_sizes p1.toNatClampNeg p2) t_items 0 hv _ _ _ hP hD hS (lv_sub hl [1, 2, 0] rfl)
      · have hv := hv.2 c_4
        refine lv_bipush (v := (-14)) hx hb dX11_newArray_19 (by decide) ?_
        exact W.iret (v := (-14)) hx hb hr (fun t ht hW => ⟨⟨(-14), (t_sizes, t_items), rfl, hv, va_Ph ht hP⟩, hS.F ht⟩) hS.2.2 dX11_newArray_21
    · have hv := hv.2 c_5
      refine lv_iconst (v := (-1)) hx hb dX11_newArray_13 (by decide) ?_
      exact W.iret (v := (-1)) hx hb hr (fun t ht hW => ⟨⟨(-1), (t_sizes, t_items), rfl, hv, va_Ph ht hP⟩, hS.F ht⟩) hS.2.2 dX11_newArray_14
theorem kX11_newArray (l : Launch) (dC : Nat → ClassId) (dI : Nat → Nat → Nat) (cy : Nat → ClassId) (h : Nat → Nat) (t_kind : Int32) (t_exponent : Int32) (t_letters : Int32) (t_fed : Int32) (t_at : Int32) (t_rowSize : Int32) (t_steps : Int32) (t_foundMany : Int32) (t_keptMany : Int32) (t_keptLetters : Int32) (t_isFull : Int32) (t_sizes : Nat → Int32) (t_items : Nat → Int64) (t_isSaved : Int32) (t_savedKind : Int32) (t_savedExponent : Int32) (t_savedLetters : Int32) (p1 : Int32) (p2 : Int32) (post : Int32 → (Nat → Int32) → (Nat → Int64) → Prop) (hv : VX11_newArray post p1 p2 t_sizes t_items) : CtI l yX11_newArray wsX11_newArray rX11_newArray dC dI cy [.ref (h 0), .int p1, .int p2] (pX11_newArray cy h t_kind t_exponent t_letters t_fed t_at t_rowSize t_steps t_foundMany t_keptMany t_keptLetters t_isFull t_sizes t_items t_isSaved t_savedKind t_savedExponent t_savedLetters) (fun (u : (Nat → Int32) × (Nat → Int64)) => pX11_newArray cy h t_kind t_exponent t_letters t_fed t_at t_rowSize t_steps t_foundMany t_keptMany t_keptLetters t_isFull u.1 u.2 t_isSaved t_savedKind t_savedExponent t_savedLetters) (fun (r : Int32) (u : (Nat → Int32) × (Nat → Int64)) => post r u.1 u.2) :=
  ct_ofI (by decide) rfl (Nat.le_of_ble_eq_true rfl) (fun p e s m below meth c A ls C0 hP hD hS hl => wX11_newArray_0 l h post t_kind t_exponent t_letters t_fed t_at t_rowSize t_steps t_foundMany t_keptMany t_keptLetters t_isFull t_isSaved t_savedKind t_savedExponent t_savedLetters p1 p2 C0 t_sizes t_items hv _ _ _ hP hD hS hl)
theorem mX11_setElement_1 : (Cond.fieldLink RX11 63 "AbelianPowersModel" "sizes" "[I") ∈ wsX11_setElement := List.mem_of_getElem? (i := 1) rfl
theorem mX11_setElement_2 : (Cond.fieldLink RX11 66 "AbelianPowersModel" "items" "[J") ∈ wsX11_setElement := List.mem_of_getElem? (i := 2) rfl
theorem nX11_setElement_X11 : ∀ w ∈ wsX110, w ∈ wsX11_setElement := fun _ h => List.mem_cons_of_mem _ (List.mem_append_right _ h)
theorem zX11_setElement : yX11_setElement.cls = RX11 ∧ yX11_setElement.cls ≠ "java/lang/invoke/MethodHandle" ∧ yX11_setElement.cls ≠ "java/lang/invoke/VarHandle" ∧ (parseMethodDescriptor yX11_setElement.desc).map (fun d => d.parameters.length) = some 3 := by decide +kernel
abbrev rX11_setElement : Room := { frames := 2, cells := 0, slots := 0, locals := 42 }
abbrev pX11_setElement (cy : Nat → ClassId) (h : Nat → Nat) (t_kind : Int32) (t_exponent : Int32) (t_letters : Int32) (t_fed : Int32) (t_at : Int32) (t_rowSize : Int32) (t_steps : Int32) (t_foundMany : Int32) (t_keptMany : Int32) (t_keptLetters : Int32) (t_isFull : Int32) (t_sizes : Nat → Int32) (t_items : Nat → Int64) (t_isSaved : Int32) (t_savedKind : Int32) (t_savedExponent : Int32) (t_savedLetters : Int32) : va_W := [(h 0, .inr (11, [.int t_kind, .int t_exponent, .int t_letters, .ref (h 3), .ref (h 4), .ref (h 5), .ref (h 6), .ref (h 7), .ref (h 8), .int t_fed, .int t_at, .ref (h 9), .int t_rowSize, .int t_steps, .ref (h 10), .int t_foundMany, .ref (h 11), .int t_keptMany, .int t_keptLetters, .ref (h 12), .ref (h 13), .ref (h 14), .ref (h 15), .ref (h 16), .int t_isFull, .ref (h 1), .ref (h 2), .int t_isSaved, .int t_savedKind, .int t_savedExponent, .int t_savedLetters, .ref (h 17), .ref (h 18), .ref (h 19), .ref (h 20), .ref (h 21)])), (h 1, .inl (cy 0, 3, .inl t_sizes)), (h 2, .inl (cy 1, 123, .inr (.inl t_items)))]
def VX11_setElement (post : Int32 → (Nat → Int64) → Prop)  (t_sizes : Nat → Int32) (p1 : Int32) (p2 : Int32) (p3 : Int64) (t_items : Nat → Int64) : Prop := VX11_isWord (fun r_1 => (¬ (r_1 = 0) → vp_in p1 3 ∧ (((0 ≤ (t_sizes p1.toNatClampNeg)) → vp_in p1 3 ∧ (∀ y_4 : Int32, y_4 = ((t_sizes p1.toNatClampNeg) - 1) → VX11_isIn (fun r_5 => (¬ (r_5 = 0) → vp_in (((41 : Int32) * p1) + p2) 123 ∧ (post (1 : Int32) (vp_updL t_items (((41 : Int32) * p1) + p2).toNatClampNeg p3))) ∧ ((r_5 = 0) → post (-13 : Int32) t_items)) p2 0 y_4)) ∧ (¬ (0 ≤ (t_sizes p1.toNatClampNeg)) → post (-11 : Int32) t_items))) ∧ ((r_1 = 0) → post (-1 : Int32) t_items)) p1
set_option maxHeartbeats 4000000 in
set_option maxRecDepth 100000 in
theorem wX11_setElement_0 {p : Program} (l : Launch) {e : Env} {s : State} {m : MethodId} {args : Array Value} {below : List Frame} {meth : Method} {c : Code} {dC : Nat → ClassId} {dI : Nat → Nat → Nat} {cy : Nat → ClassId} {A : Nat → Prop} (h : Nat → Nat) (post : Int32 → (Nat → Int64) → Prop)   (t_kind : Int32) (t_exponent : Int32) (t_letters : Int32) (t_fed : Int32) (t_at : Int32) (t_rowSize : Int32) (t_steps : Int32) (t_foundMany : Int32) (t_keptMany : Int32) (t_keptLetters : Int32) (t_isFull : Int32) (t_sizes : Nat → Int32) (t_isSaved : Int32) (t_savedKind : Int32) (t_savedExponent : Int32) (t_savedLetters : Int32) (p1 : Int32) (p2 : Int32) (p3 : Int64) (C0 : cx p s m args meth c cX11_setElement 5 (some .int) wsX11_setElement RX11 dC dI cy A)  : ∀ (t_items : Nat → Int64), VX11_setElement post t_sizes p1 p2 p3 t_items → ∀ (H : Heap) (locs : List Loc) (ls : Array Slot), va_P (dC, dI) vwCl (pX11_setElement cy h t_kind t_exponent t_letters t_fed t_at t_rowSize t_steps t_foundMany t_keptMany t_keptLetters t_isFull t_sizes t_items t_isSaved t_savedKind t_savedExponent t_savedLetters) H → va_D A (pX11_setElement cy h t_kind t_exponent t_letters t_fed t_at t_rowSize t_steps t_foundMany t_keptMany t_keptLetters t_isFull t_sizes t_items t_isSaved t_savedKind t_savedExponent t_savedLetters) → va_S A s.heap H locs → lv_has ls 5 [(0, .ref (h 0)), (1, .int p1), (2, .int p2), (3, .long p3)] → W p l e rX11_setElement s m args below meth c H locs 0 0 (MQ below (va_Qi (fun (r : Int32) (u : (Nat → Int64)) => post r u) (fun (u : (Nat → Int64)) (t : State) => va_P (dC, dI) vwCl (pX11_setElement cy h t_kind t_exponent t_letters t_fed t_at t_rowSize t_steps t_foundMany t_keptMany t_keptLetters t_isFull t_sizes u t_isSaved t_savedKind t_savedExponent t_savedLetters) t.heap) A) args s 0 0 A) (F0 m 0 ls []) := by
  have C1 := C0
  obtain ⟨hx, hb, hr, hml, hown, hts, hlocks, hK, hA⟩ := C1
  intro t_items hv H locs ls hP hD hS hl
  refine lv_iload_n hx hb dX11_setElement_0 rfl (lv_at hl 1 rfl) ?_
  refine cb_SI (As := [.int p1]) (rest := []) ⟨hx, hb, hml, hown, hts⟩ (kX11_isWord l dC dI cy (adl []) p1 _ hv) (va_cwS 1 hts gX11_setElement_X11_isWord rfl rfl rfl zX11_isWord ⟨Nat.le_of_ble_eq_true rfl, Nat.le_of_ble_eq_true rfl⟩) hK hP hD hS hA [] [none, none, none] rfl rfl rfl (fun _ => rfl) rfl hl.1 rfl (Nat.le_of_ble_eq_true rfl) dX11_setElement_1 (fun r_1 w_11 H locs hv hP hD hS => ?_)
  have hP : va_P (dC, dI) vwCl (pX11_setElement cy h t_kind t_exponent t_letters t_fed t_at t_rowSize t_steps t_foundMany t_keptMany t_keptLetters t_isFull t_sizes t_items t_isSaved t_savedKind t_savedExponent t_savedLetters) H := hP
  have hD : va_D A (pX11_setElement cy h t_kind t_exponent t_letters t_fed t_at t_rowSize t_steps t_foundMany t_keptMany t_keptLetters t_isFull t_sizes t_items t_isSaved t_savedKind t_savedExponent t_savedLetters) := hD
  refine lv_if_ne (tgt := 9) hx hb dX11_setElement_4 (by decide) (fun c_10 => ?_) (fun c_10 => ?_)
  · have hv := hv.1 c_10
    refine lv_aload_n hx hb dX11_setElement_9 rfl (lv_at hl 0 rfl) ?_
    refine va_get (D := (dC, dI)) (ci := 11) (v := .ref (h 1)) (C := RX11) (T := TX11) (N := 36) hx hb hts nX11_setElement_X11 hown hK hP 0 rfl rfl 25 (by decide) (hts _ mX11_setElement_1) (fun _ h9 => h9) rfl dX11_setElement_10 ?_
    refine lv_iload_n hx hb dX11_setElement_13 rfl (lv_at hl 1 rfl) ?_
    have h_2 := hv.1
    have hv := hv.2
    refine va_iald hx hb hK hP 1 0 rfl rfl h_2 dX11_setElement_14 ?_
    refine lv_if_ge (tgt := 21) hx hb dX11_setElement_15 (by decide) (fun c_9 => ?_) (fun c_9 => ?_)
    · have hv := hv.1 c_9
      refine lv_iload_n hx hb dX11_setElement_21 rfl (lv_at hl 2 rfl) ?_
      refine lv_iconst (v := 0) hx hb dX11_setElement_22 (by decide) ?_
      refine lv_aload_n hx hb dX11_setElement_23 rfl (lv_at hl 0 rfl) ?_
      refine va_get (D := (dC, dI)) (ci := 11) (v := .ref (h 1)) (C := RX11) (T := TX11) (N := 36) hx hb hts nX11_setElement_X11 hown hK hP 0 rfl rfl 25 (by decide) (hts _ mX11_setElement_1) (fun _ h9 => h9) rfl dX11_setElement_24 ?_
      refine lv_iload_n hx hb dX11_setElement_27 rfl (lv_at hl 1 rfl) ?_
      have h_3 := hv.1
      have hv := hv.2
      refine va_iald hx hb hK hP 1 0 rfl rfl h_3 dX11_setElement_28 ?_
      refine lv_iconst (v := 1) hx hb dX11_setElement_29 (by decide) ?_
      refine lv_isub hx hb dX11_setElement_30 ?_
      refine lv_topi (fun y_4 ey_4 => ?_)
      have hv := hv y_4 ey_4
      refine cb_SI (As := [.int p2, .int 0, .int y_4]) (rest := []) ⟨hx, hb, hml, hown, hts⟩ (kX11_isIn l dC dI cy (adl []) p2 0 y_4 _ hv) (va_cwS 3 hts gX11_setElement_X11_isIn rfl rfl rfl zX11_isIn ⟨Nat.le_of_ble_eq_true rfl, Nat.le_of_ble_eq_true rfl⟩) hK hP hD hS hA [] [none, none, none] rfl rfl rfl (fun _ => rfl) rfl hl.1 rfl (Nat.le_of_ble_eq_true rfl) dX11_setElement_31 (fun r_5 w_8 H locs hv hP hD hS => ?_)
      have hP : va_P (dC, dI) vwCl (pX11_setElement cy h t_kind t_exponent t_letters t_fed t_at t_rowSize t_steps t_foundMany t_keptMany t_keptLetters t_isFull t_sizes t_items t_isSaved t_savedKind t_savedExponent t_savedLetters) H := hP
      have hD : va_D A (pX11_setElement cy h t_kind t_exponent t_letters t_fed t_at t_rowSize t_steps t_foundMany t_keptMany t_keptLetters t_isFull t_sizes t_items t_isSaved t_savedKind t_savedExponent t_savedLetters) := hD
      refine lv_if_ne (tgt := 40) hx hb dX11_setElement_34 (by decide) (fun c_7 => ?_) (fun c_7 => ?_)
      · have hv := hv.1 c_7
        refine lv_aload_n hx hb dX11_setElement_40 rfl (lv_at hl 0 rfl) ?_
        refine va_get (D := (dC, dI)) (ci := 11) (v := .ref (h 2)) (C := RX11) (T := TX11) (N := 36) hx hb hts nX11_setElement_X11 hown hK hP 0 rfl rfl 26 (by decide) (hts _ mX11_setElement_2) (fun _ h9 => h9) rfl dX11_setElement_41 ?_
        refine lv_bipush (v := 41) hx hb dX11_setElement_44 (by decide) ?_
        refine lv_iload_n hx hb dX11_setElement_46 rfl (lv_at hl 1 rfl) ?_
        refine lv_imul hx hb dX11_setElement_47 ?_
        refine lv_iload_n hx hb dX11_setElement_48 rfl (lv_at hl 2 rfl) ?_
        refine lv_iadd hx hb dX11_setElement_49 ?_
        refine lv_lload_n hx hb dX11_setElement_50 rfl (lv_at hl 3 rfl) ?_
        have h_6 := hv.1
        have hv := hv.2
        refine va_last hx hb hK hP hD hS 2 1 rfl rfl h_6 dX11_setElement_51 (fun H locs hP hD hS => ?_)
        have hP : va_P (dC, dI) vwCl (pX11_setElement cy h t_kind t_exponent t_letters t_fed t_at t_rowSize t_steps t_foundMany t_keptMany t_keptLetters t_isFull t_sizes (vp_updL t_items (((41 : Int32) * p1) + p2).toNatClampNeg p3) t_isSaved t_savedKind t_savedExponent t_savedLetters) H := hP
        have hD : va_D A (pX11_setElement cy h t_kind t_exponent t_letters t_fed t_at t_rowSize t_steps t_foundMany t_keptMany t_keptLetters t_isFull t_sizes (vp_updL t_items (((41 : Int32) * p1) + p2).toNatClampNeg p3) t_isSaved t_savedKind t_savedExponent t_savedLetters) := hD
        refine lv_iconst (v := 1) hx hb dX11_setElement_52 (by decide) ?_
        exact W.iret (v := 1) hx hb hr (fun t ht hW => ⟨⟨1, ((vp_updL t_items (((41 : Int32) * p1) + p2).toNatClampNeg p3)), rfl, hv, va_Ph ht hP⟩, hS.F ht⟩) hS.2.2 dX11_setElement_53
      · have hv := hv.2 c_7
        refine lv_bipush (v := (-13)) hx hb dX11_setElement_37 (by decide) ?_
        exact W.iret (v := (-13)) hx hb hr (fun t ht hW => ⟨⟨(-13), (t_items), rfl, hv, va_Ph ht hP⟩, hS.F ht⟩) hS.2.2 dX11_setElement_39
    · have hv := hv.2 c_9
      refine lv_bipush (v := (-11)) hx hb dX11_setElement_18 (by decide) ?_
      exact W.iret (v := (-11)) hx hb hr (fun t ht hW => ⟨⟨(-11), (t_items), rfl, hv, va_Ph ht hP⟩, hS.F ht⟩) hS.2.2 dX11_setElement_20
  · have hv := hv.2 c_10
    refine lv_iconst (v := (-1)) hx hb dX11_setElement_7 (by decide) ?_
    exact W.iret (v := (-1)) hx hb hr (fun t ht hW => ⟨⟨(-1), (t_items), rfl, hv, va_Ph ht hP⟩, hS.F ht⟩) hS.2.2 dX11_setElement_8
theorem kX11_setElement (l : Launch) (dC : Nat → ClassId) (dI : Nat → Nat → Nat) (cy : Nat → ClassId) (h : Nat → Nat) (t_kind : Int32) (t_exponent : Int32) (t_letters : Int32) (t_fed : Int32) (t_at : Int32) (t_rowSize : Int32) (t_steps : Int32) (t_foundMany : Int32) (t_keptMany : Int32) (t_keptLetters : Int32) (t_isFull : Int32) (t_sizes : Nat → Int32) (t_items : Nat → Int64) (t_isSaved : Int32) (t_savedKind : Int32) (t_savedExponent : Int32) (t_savedLetters : Int32) (p1 : Int32) (p2 : Int32) (p3 : Int64) (post : Int32 → (Nat → Int64) → Prop) (hv : VX11_setElement post t_sizes p1 p2 p3 t_items) : CtI l yX11_setElement wsX11_setElement rX11_setElement dC dI cy [.ref (h 0), .int p1, .int p2, .long p3] (pX11_setElement cy h t_kind t_exponent t_letters t_fed t_at t_rowSize t_steps t_foundMany t_keptMany t_keptLetters t_isFull t_sizes t_items t_isSaved t_savedKind t_savedExponent t_savedLetters) (fun (u : (Nat → Int64)) => pX11_setElement cy h t_kind t_exponent t_letters t_fed t_at t_rowSize t_steps t_foundMany t_keptMany t_keptLetters t_isFull t_sizes u t_isSaved t_savedKind t_savedExponent t_savedLetters) (fun (r : Int32) (u : (Nat → Int64)) => post r u) :=
  ct_ofI (by decide) rfl (Nat.le_of_ble_eq_true rfl) (fun p e s m below meth c A ls C0 hP hD hS hl => wX11_setElement_0 l h post t_kind t_exponent t_letters t_fed t_at t_rowSize t_steps t_foundMany t_keptMany t_keptLetters t_isFull t_sizes t_isSaved t_savedKind t_savedExponent t_savedLetters p1 p2 p3 C0 t_items hv _ _ _ hP hD hS hl)
theorem mX11_element_3 : (Cond.constantLong RX11 196 (-9223372036854775808)) ∈ wsX11_element := List.mem_of_getElem? (i := 3) rfl
theorem mX11_element_1 : (Cond.fieldLink RX11 63 "AbelianPowersModel" "sizes" "[I") ∈ wsX11_element := List.mem_of_getElem? (i := 1) rfl
theorem mX11_element_2 : (Cond.fieldLink RX11 66 "AbelianPowersModel" "items" "[J") ∈ wsX11_element := List.mem_of_getElem? (i := 2) rfl
theorem nX11_element_X11 : ∀ w ∈ wsX110, w ∈ wsX11_element := fun _ h => List.mem_cons_of_mem _ (List.mem_append_right _ h)
theorem zX11_element : yX11_element.cls = RX11 ∧ yX11_element.cls ≠ "java/lang/invoke/MethodHandle" ∧ yX11_element.cls ≠ "java/lang/invoke/VarHandle" ∧ (parseMethodDescriptor yX11_element.desc).map (fun d => d.parameters.length) = some 2 := by decide +kernel
abbrev rX11_element : Room := { frames := 2, cells := 0, slots := 0, locals := 42 }
abbrev pX11_element (cy : Nat → ClassId) (h : Nat → Nat) (t_kind : Int32) (t_exponent : Int32) (t_letters : Int32) (t_fed : Int32) (t_at : Int32) (t_rowSize : Int32) (t_steps : Int32) (t_foundMany : Int32) (t_keptMany : Int32) (t_keptLetters : Int32) (t_isFull : Int32) (t_sizes : Nat → Int32) (t_items : Nat → Int64) (t_isSaved : Int32) (t_savedKind : Int32) (t_savedExponent : Int32) (t_savedLetters : Int32) : va_W := [(h 0, .inr (11, [.int t_kind, .int t_exponent, .int t_letters, .ref (h 3), .ref (h 4), .ref (h 5), .ref (h 6), .ref (h 7), .ref (h 8), .int t_fed, .int t_at, .ref (h 9), .int t_rowSize, .int t_steps, .ref (h 10), .int t_foundMany, .ref (h 11), .int t_keptMany, .int t_keptLetters, .ref (h 12), .ref (h 13), .ref (h 14), .ref (h 15), .ref (h 16), .int t_isFull, .ref (h 1), .ref (h 2), .int t_isSaved, .int t_savedKind, .int t_savedExponent, .int t_savedLetters, .ref (h 17), .ref (h 18), .ref (h 19), .ref (h 20), .ref (h 21)])), (h 1, .inl (cy 0, 3, .inl t_sizes)), (h 2, .inl (cy 1, 123, .inr (.inl t_items)))]
def VX11_element (post : Int64 → Prop)  (t_sizes : Nat → Int32) (t_items : Nat → Int64) (p1 : Int32) (p2 : Int32)  : Prop := VX11_isWord (fun r_1 => ((r_1 = 0) → post (-9223372036854775808)) ∧ (¬ (r_1 = 0) → vp_in p1 3 ∧ (∀ y_3 : Int32, y_3 = ((t_sizes p1.toNatClampNeg) - 1) → VX11_isIn (fun r_4 => ((r_4 = 0) → post (-9223372036854775808)) ∧ (¬ (r_4 = 0) → vp_in (((41 : Int32) * p1) + p2) 123 ∧ (∀ y_5 : Int64, y_5 = (t_items (((41 : Int32) * p1) + p2).toNatClampNeg) → post y_5))) p2 0 y_3))) p1
set_option maxHeartbeats 4000000 in
set_option maxRecDepth 100000 in
theorem wX11_element_0 {p : Program} (l : Launch) {e : Env} {s : State} {m : MethodId} {args : Array Value} {below : List Frame} {meth : Method} {c : Code} {dC : Nat → ClassId} {dI : Nat → Nat → Nat} {cy : Nat → ClassId} {A : Nat → Prop} (h : Nat → Nat) (post : Int64 → Prop)   (t_kind : Int32) (t_exponent : Int32) (t_letters : Int32) (t_fed : Int32) (t_at : Int32) (t_rowSize : Int32) (t_steps : Int32) (t_foundMany : Int32) (t_keptMany : Int32) (t_keptLetters : Int32) (t_isFull : Int32) (t_sizes : Nat → Int32) (t_items : Nat → Int64) (t_isSaved : Int32) (t_savedKind : Int32) (t_savedExponent : Int32) (t_savedLetters : Int32) (p1 : Int32) (p2 : Int32) (C0 : cx p s m args meth c cX11_element 3 (some .long) wsX11_element RX11 dC dI cy A)  : VX11_element post t_sizes t_items p1 p2  → ∀ (H : Heap) (locs : List Loc) (ls : Array Slot), va_P (dC, dI) vwCl (pX11_element cy h t_kind t_exponent t_letters t_fed t_at t_rowSize t_steps t_foundMany t_keptMany t_keptLetters t_isFull t_sizes t_items t_isSaved t_savedKind t_savedExponent t_savedLetters) H → va_D A (pX11_element cy h t_kind t_exponent t_letters t_fed t_at t_rowSize t_steps t_foundMany t_keptMany t_keptLetters t_isFull t_sizes t_items t_isSaved t_savedKind t_savedExponent t_savedLetters) → va_S A s.heap H locs → lv_has ls 3 [(0, .ref (h 0)), (1, .int p1), (2, .int p2)] → W p l e rX11_element s m args below meth c H locs 0 0 (MQ below (va_Ql (fun (r : Int64) (_ : Unit) => post r) (fun (_ : Unit) (t : State) => va_P (dC, dI) vwCl (pX11_element cy h t_kind t_exponent t_letters t_fed t_at t_rowSize t_steps t_foundMany t_keptMany t_keptLetters t_isFull t_sizes t_items t_isSaved t_savedKind t_savedExponent t_savedLetters) t.heap) A) args s 0 0 A) (F0 m 0 ls []) := by
  have C1 := C0
  obtain ⟨hx, hb, hr, hml, hown, hts, hlocks, hK, hA⟩ := C1
  intro  hv H locs ls hP hD hS hl
  refine lv_iload_n hx hb dX11_element_0 rfl (lv_at hl 1 rfl) ?_
  refine cb_SI (As := [.int p1]) (rest := []) ⟨hx, hb, hml, hown, hts⟩ (kX11_isWord l dC dI cy (adl []) p1 _ hv) (va_cwS 1 hts gX11_element_X11_isWord rfl rfl rfl zX11_isWord ⟨Nat.le_of_ble_eq_true rfl, Nat.le_of_ble_eq_true rfl⟩) hK hP hD hS hA [] [none, none, none] rfl rfl rfl (fun _ => rfl) rfl hl.1 rfl (Nat.le_of_ble_eq_true rfl) dX11_element_1 (fun r_1 w_10 H locs hv hP hD hS => ?_)
  have hP : va_P (dC, dI) vwCl (pX11_element cy h t_kind t_exponent t_letters t_fed t_at t_rowSize t_steps t_foundMany t_keptMany t_keptLetters t_isFull t_sizes t_items t_isSaved t_savedKind t_savedExponent t_savedLetters) H := hP
  have hD : va_D A (pX11_element cy h t_kind t_exponent t_letters t_fed t_at t_rowSize t_steps t_foundMany t_keptMany t_keptLetters t_isFull t_sizes t_items t_isSaved t_savedKind t_savedExponent t_savedLetters) := hD
  refine lv_if_eq (tgt := 37) hx hb dX11_element_4 (by decide) (fun c_9 => ?_) (fun c_9 => ?_)
  · have hv := hv.1 c_9
    refine lv_ldc2 hx hb hown (hts _ mX11_element_3) dX11_element_37 ?_
    exact W.lret (v := (-9223372036854775808)) hx hb hr (fun t ht hW => ⟨⟨(-9223372036854775808), (), rfl, hv, va_Ph ht hP⟩, hS.F ht⟩) hS.2.2 dX11_element_40
  · have hv := hv.2 c_9
    refine lv_iload_n hx hb dX11_element_7 rfl (lv_at hl 2 rfl) ?_
    refine lv_iconst (v := 0) hx hb dX11_element_8 (by decide) ?_
    refine lv_aload_n hx hb dX11_element_9 rfl (lv_at hl 0 rfl) ?_
    refine va_get (D := (dC, dI)) (ci := 11) (v := .ref (h 1)) (C := RX11) (T := TX11) (N := 36) hx hb hts nX11_element_X11 hown hK hP 0 rfl rfl 25 (by decide) (hts _ mX11_element_1) (fun _ h9 => h9) rfl dX11_element_10 ?_
    refine lv_iload_n hx hb dX11_element_13 rfl (lv_at hl 1 rfl) ?_
    have h_2 := hv.1
    have hv := hv.2
    refine va_iald hx hb hK hP 1 0 rfl rfl h_2 dX11_element_14 ?_
    refine lv_iconst (v := 1) hx hb dX11_element_15 (by decide) ?_
    refine lv_isub hx hb dX11_element_16 ?_
    refine lv_topi (fun y_3 ey_3 => ?_)
    have hv := hv y_3 ey_3
    refine cb_SI (As := [.int p2, .int 0, .int y_3]) (rest := []) ⟨hx, hb, hml, hown, hts⟩ (kX11_isIn l dC dI cy (adl []) p2 0 y_3 _ hv) (va_cwS 3 hts gX11_element_X11_isIn rfl rfl rfl zX11_isIn ⟨Nat.le_of_ble_eq_true rfl, Nat.le_of_ble_eq_true rfl⟩) hK hP hD hS hA [] [none, none, none] rfl rfl rfl (fun _ => rfl) rfl hl.1 rfl (Nat.le_of_ble_eq_true rfl) dX11_element_17 (fun r_4 w_8 H locs hv hP hD hS => ?_)
    have hP : va_P (dC, dI) vwCl (pX11_element cy h t_kind t_exponent t_letters t_fed t_at t_rowSize t_steps t_foundMany t_keptMany t_keptLetters t_isFull t_sizes t_items t_isSaved t_savedKind t_savedExponent t_savedLetters) H := hP
    have hD : va_D A (pX11_element cy h t_kind t_exponent t_letters t_fed t_at t_rowSize t_steps t_foundMany t_keptMany t_keptLetters t_isFull t_sizes t_items t_isSaved t_savedKind t_savedExponent t_savedLetters) := hD
    refine lv_if_eq (tgt := 37) hx hb dX11_element_20 (by decide) (fun c_7 => ?_) (fun c_7 => ?_)
    · have hv := hv.1 c_7
      refine lv_ldc2 hx hb hown (hts _ mX11_element_3) dX11_element_37 ?_
      exact W.lret (v := (-9223372036854775808)) hx hb hr (fun t ht hW => ⟨⟨(-9223372036854775808), (), rfl, hv, va_Ph ht hP⟩, hS.F ht⟩) hS.2.2 dX11_element_40
    · have hv := hv.2 c_7
      refine lv_aload_n hx hb dX11_element_23 rfl (lv_at hl 0 rfl) ?_
      refine va_get (D := (dC, dI)) (ci := 11) (v := .ref (h 2)) (C := RX11) (T := TX11) (N := 36) hx hb hts nX11_element_X11 hown hK hP 0 rfl rfl 26 (by decide) (hts _ mX11_element_2) (fun _ h9 => h9) rfl dX11_element_24 ?_
      refine lv_bipush (v := 41) hx hb dX11_element_27 (by decide) ?_
      refine lv_iload_n hx hb dX11_element_29 rfl (lv_at hl 1 rfl) ?_
      refine lv_imul hx hb dX11_element_30 ?_
      refine lv_iload_n hx hb dX11_element_31 rfl (lv_at hl 2 rfl) ?_
      refine lv_iadd hx hb dX11_element_32 ?_
      have h_6 := hv.1
      have hv := hv.2
      refine va_lald hx hb hK hP 2 1 rfl rfl h_6 dX11_element_33 ?_
      refine lv_topl (fun y_5 ey_5 => ?_)
      have hv := hv y_5 ey_5
      refine lv_goto (tgt := 40) hx hb dX11_element_34 (by decide) ?_
      exact W.lret (v := y_5) hx hb hr (fun t ht hW => ⟨⟨y_5, (), rfl, hv, va_Ph ht hP⟩, hS.F ht⟩) hS.2.2 dX11_element_40
theorem kX11_element (l : Launch) (dC : Nat → ClassId) (dI : Nat → Nat → Nat) (cy : Nat → ClassId) (h : Nat → Nat) (t_kind : Int32) (t_exponent : Int32) (t_letters : Int32) (t_fed : Int32) (t_at : Int32) (t_rowSize : Int32) (t_steps : Int32) (t_foundMany : Int32) (t_keptMany : Int32) (t_keptLetters : Int32) (t_isFull : Int32) (t_sizes : Nat → Int32) (t_items : Nat → Int64) (t_isSaved : Int32) (t_savedKind : Int32) (t_savedExponent : Int32) (t_savedLetters : Int32) (p1 : Int32) (p2 : Int32) (post : Int64 → Prop) (hv : VX11_element post t_sizes t_items p1 p2 ) : CtL l yX11_element wsX11_element rX11_element dC dI cy [.ref (h 0), .int p1, .int p2] (pX11_element cy h t_kind t_exponent t_letters t_fed t_at t_rowSize t_steps t_foundMany t_keptMany t_keptLetters t_isFull t_sizes t_items t_isSaved t_savedKind t_savedExponent t_savedLetters) (fun (_ : Unit) => pX11_element cy h t_kind t_exponent t_letters t_fed t_at t_rowSize t_steps t_foundMany t_keptMany t_keptLetters t_isFull t_sizes t_items t_isSaved t_savedKind t_savedExponent t_savedLetters) (fun (r : Int64) (_ : Unit) => post r) :=
  ct_ofL (by decide) rfl (Nat.le_of_ble_eq_true rfl) (fun p e s m below meth c A ls C0 hP hD hS hl => wX11_element_0 l h post t_kind t_exponent t_letters t_fed t_at t_rowSize t_steps t_foundMany t_keptMany t_keptLetters t_isFull t_sizes t_items t_isSaved t_savedKind t_savedExponent t_savedLetters p1 p2 C0  hv _ _ _ hP hD hS hl)
theorem mX11_prefixSums_1 : (Cond.fieldLink RX11 63 "AbelianPowersModel" "sizes" "[I") ∈ wsX11_prefixSums := List.mem_of_getElem? (i := 1) rfl
theorem mX11_prefixSums_2 : (Cond.fieldLink RX11 26 "AbelianPowersModel" "lengths" "[I") ∈ wsX11_prefixSums := List.mem_of_getElem? (i := 2) rfl
theorem mX11_prefixSums_3 : (Cond.fieldLink RX11 118 "AbelianPowersModel" "rowSize" "I") ∈ wsX11_prefixSums := List.mem_of_getElem? (i := 3) rfl
theorem mX11_prefixSums_4 : (Cond.fieldLink RX11 66 "AbelianPowersModel" "items" "[J") ∈ wsX11_prefixSums := List.mem_of_getElem? (i := 4) rfl
theorem nX11_prefixSums_X11 : ∀ w ∈ wsX110, w ∈ wsX11_prefixSums := fun _ h => List.mem_cons_of_mem _ (List.mem_append_right _ h)
theorem zX11_prefixSums : yX11_prefixSums.cls = RX11 ∧ yX11_prefixSums.cls ≠ "java/lang/invoke/MethodHandle" ∧ yX11_prefixSums.cls ≠ "java/lang/invoke/VarHandle" ∧ (parseMethodDescriptor yX11_prefixSums.desc).map (fun d => d.parameters.length) = some 2 := by decide +kernel
abbrev rX11_prefixSums : Room := { frames := 2, cells := 0, slots := 0, locals := 42 }
abbrev pX11_prefixSums (cy : Nat → ClassId) (h : Nat → Nat) (t_kind : Int32) (t_exponent : Int32) (t_letters : Int32) (t_values : Nat → Int32) (t_words : Nat → Int32) (t_lengths : Nat → Int32) (t_fed : Int32) (t_at : Int32) (t_row : Nat → Int32) (t_rowSize : Int32) (t_steps : Int32) (t_foundMany : Int32) (t_keptMany : Int32) (t_keptLetters : Int32) (t_isFull : Int32) (t_sizes : Nat → Int32) (t_items : Nat → Int64) (t_isSaved : Int32) (t_savedKind : Int32) (t_savedExponent : Int32) (t_savedLetters : Int32) : va_W := [(h 0, .inr (11, [.int t_kind, .int t_exponent, .int t_letters, .ref (h 1), .ref (h 2), .ref (h 3), .ref (h 7), .ref (h 8), .ref (h 9), .int t_fed, .int t_at, .ref (h 4), .int t_rowSize, .int t_steps, .ref (h 10), .int t_foundMany, .ref (h 11), .int t_keptMany, .int t_keptLetters, .ref (h 12), .ref (h 13), .ref (h 14), .ref (h 15), .ref (h 16), .int t_isFull, .ref (h 5), .ref (h 6), .int t_isSaved, .int t_savedKind, .int t_savedExponent, .int t_savedLetters, .ref (h 17), .ref (h 18), .ref (h 19), .ref (h 20), .ref (h 21)])), (h 1, .inl (cy 0, 4, .inl t_values)), (h 2, .inl (cy 0, 120, .inl t_words)), (h 3, .inl (cy 0, 3, .inl t_lengths)), (h 4, .inl (cy 0, 45, .inl t_row)), (h 5, .inl (cy 0, 3, .inl t_sizes)), (h 6, .inl (cy 1, 123, .inr (.inl t_items)))]
def VX11_prefixSums_55 (post : Int32 → (Nat → Int32) → Int32 → (Nat → Int64) → Prop)  (t_values : Nat → Int32) (t_words : Nat → Int32) (t_lengths : Nat → Int32) (t_sizes : Nat → Int32) (p1 : Int32) (p2 : Int32) : Nat → (Nat → Int32) → Int32 → (Nat → Int64) → Int32 → Prop
  | 0, _, _, _, _ => False
  | n + 1, t_row, t_rowSize, t_items, x3 => ((t_rowSize < x3) → post (t_rowSize + 1) t_row t_rowSize t_items) ∧ (¬ (t_rowSize < x3) → VX11_sum (fun r_17 => vp_in (((41 : Int32) * p1) + x3) 123 ∧ (VX11_prefixSums_55 post t_values t_words t_lengths t_sizes p1 p2 n t_row t_rowSize (vp_updL t_items (((41 : Int32) * p1) + x3).toNatClampNeg r_17.toInt64) (x3 + 1))) t_values t_row 0 x3)
def VX11_prefixSums (post : Int32 → (Nat → Int32) → Int32 → (Nat → Int64) → Prop)  (t_values : Nat → Int32) (t_words : Nat → Int32) (t_lengths : Nat → Int32) (t_sizes : Nat → Int32) (p1 : Int32) (p2 : Int32) (t_row : Nat → Int32) (t_rowSize : Int32) (t_items : Nat → Int64) : Prop := VX11_isWord (fun r_1 => ((r_1 = 0) → post (-1 : Int32) t_row t_rowSize t_items) ∧ (¬ (r_1 = 0) → VX11_isWord (fun r_2 => (¬ (r_2 = 0) → vp_in p1 3 ∧ (((0 ≤ (t_sizes p1.toNatClampNeg)) → vp_in p1 3 ∧ (vp_in p2 3 ∧ (∀ y_6 : Int32, y_6 = ((t_lengths p2.toNatClampNeg) + 1) → ((y_6 ≤ (t_sizes p1.toNatClampNeg)) → VX11_take (fun u_7 u_8 => ∃ n55 : Nat, VX11_prefixSums_55 post t_values t_words t_lengths t_sizes p1 p2 n55 u_7 u_8 t_items 0) t_words t_lengths p2 t_row t_rowSize) ∧ (¬ (y_6 ≤ (t_sizes p1.toNatClampNeg)) → post (-13 : Int32) t_row t_rowSize t_items)))) ∧ (¬ (0 ≤ (t_sizes p1.toNatClampNeg)) → post (-11 : Int32) t_row t_rowSize t_items))) ∧ ((r_2 = 0) → post (-1 : Int32) t_row t_rowSize t_items)) p2)) p1
set_option maxHeartbeats 4000000 in
set_option maxRecDepth 100000 in
theorem wX11_prefixSums_55 {p : Program} (l : Launch) {e : Env} {s : State} {m : MethodId} {args : Array Value} {below : List Frame} {meth : Method} {c : Code} {dC : Nat → ClassId} {dI : Nat → Nat → Nat} {cy : Nat → ClassId} {A : Nat → Prop} (h : Nat → Nat) (post : Int32 → (Nat → Int32) → Int32 → (Nat → Int64) → Prop)   (t_kind : Int32) (t_exponent : Int32) (t_letters : Int32) (t_values : Nat → Int32) (t_words : Nat → Int32) (t_lengths : Nat → Int32) (t_fed : Int32) (t_at : Int32) (t_steps : Int32) (t_foundMany : Int32) (t_keptMany : Int32) (t_keptLetters : Int32) (t_isFull : Int32) (t_sizes : Nat → Int32) (t_isSaved : Int32) (t_savedKind : Int32) (t_savedExponent : Int32) (t_savedLetters : Int32) (p1 : Int32) (p2 : Int32) (C0 : cx p s m args meth c cX11_prefixSums 4 (some .int) wsX11_prefixSums RX11 dC dI cy A)  : ∀ (n : Nat) (t_row : Nat → Int32) (t_rowSize : Int32) (t_items : Nat → Int64) (x3 : Int32), VX11_prefixSums_55 post t_values t_words t_lengths t_sizes p1 p2 n t_row t_rowSize t_items x3 → ∀ (H : Heap) (locs : List Loc) (ls : Array Slot), va_P (dC, dI) vwCl (pX11_prefixSums cy h t_kind t_exponent t_letters t_values t_words t_lengths t_fed t_at t_row t_rowSize t_steps t_foundMany t_keptMany t_keptLetters t_isFull t_sizes t_items t_isSaved t_savedKind t_savedExponent t_savedLetters) H → va_D A (pX11_prefixSums cy h t_kind t_exponent t_letters t_values t_words t_lengths t_fed t_at t_row t_rowSize t_steps t_foundMany t_keptMany t_keptLetters t_isFull t_sizes t_items t_isSaved t_savedKind t_savedExponent t_savedLetters) → va_S A s.heap H locs → lv_has ls 4 [(0, .ref (h 0)), (1, .int p1), (3, .int x3)] → W p l e rX11_prefixSums s m args below meth c H locs 0 0 (MQ below (va_Qi (fun (r : Int32) (u : (Nat → Int32) × Int32 × (Nat → Int64)) => post r u.1 u.2.1 u.2.2) (fun (u : (Nat → Int32) × Int32 × (Nat → Int64)) (t : State) => va_P (dC, dI) vwCl (pX11_prefixSums cy h t_kind t_exponent t_letters t_values t_words t_lengths t_fed t_at u.1 u.2.1 t_steps t_foundMany t_keptMany t_keptLetters t_isFull t_sizes u.2.2 t_isSaved t_savedKind t_savedExponent t_savedLetters) t.heap) A) args s 0 0 A) (F0 m 55 ls []) := by
  have C1 := C0
  obtain ⟨hx, hb, hr, hml, hown, hts, hlocks, hK, hA⟩ := C1
  intro n
  induction n with
  | zero => intro t_row t_rowSize t_items x3 hv; exact hv.elim
  | succ n ih =>
    intro t_row t_rowSize t_items x3 hv H locs ls hP hD hS hl
    refine lv_iload_n hx hb dX11_prefixSums_55 rfl (lv_at hl 2 rfl) ?_
    refine lv_aload_n hx hb dX11_prefixSums_56 rfl (lv_at hl 0 rfl) ?_
    refine va_get (D := (dC, dI)) (ci := 11) (v := .int t_rowSize) (C := RX11) (T := TX11) (N := 36) hx hb hts nX11_prefixSums_X11 hown hK hP 0 rfl rfl 12 (by decide) (hts _ mX11_prefixSums_3) (fun _ h9 => h9) rfl dX11_prefixSums_57 ?_
    refine lv_icmp_gt (tgt := 87) hx hb dX11_prefixSums_60 (by decide) (fun c_20 => ?_) (fun c_20 => ?_)
    · have hv := hv.1 c_20
      refine lv_aload_n hx hb dX11_prefixSums_87 rfl (lv_at hl 0 rfl) ?_
      refine va_get (D := (dC, dI)) (ci := 11) (v := .int t_rowSize) (C := RX11) (T := TX11) (N := 36) hx hb hts nX11_prefixSums_X11 hown hK hP 0 rfl rfl 12 (by decide) (hts _ mX11_prefixSums_3) (fun _ h9 => h9) rfl dX11_prefixSums_88 ?_
      refine lv_iconst (v := 1) hx hb dX11_prefixSums_91 (by decide) ?_
      refine lv_iadd hx hb dX11_prefixSums_92 ?_
      exact W.iret (v := (t_rowSize + 1)) hx hb hr (fun t ht hW => ⟨⟨(t_rowSize + 1), (t_row, t_rowSize, t_items), rfl, hv, va_Ph ht hP⟩, hS.F ht⟩) hS.2.2 dX11_prefixSums_93
    · have hv := hv.2 c_20
      refine lv_aload_n hx hb dX11_prefixSums_63 rfl (lv_at hl 0 rfl) ?_
      refine va_get (D := (dC, dI)) (ci := 11) (v := .ref (h 6)) (C := RX11) (T := TX11) (N := 36) hx hb hts nX11_prefixSums_X11 hown hK hP 0 rfl rfl 26 (by decide) (hts _ mX11_prefixSums_4) (fun _ h9 => h9) rfl dX11_prefixSums_64 ?_
      refine lv_bipush (v := 41) hx hb dX11_prefixSums_67 (by decide) ?_
      refine lv_iload_n hx hb dX11_prefixSums_69 rfl (lv_at hl 1 rfl) ?_
      refine lv_imul hx hb dX11_prefixSums_70 ?_
      refine lv_iload_n hx hb dX11_prefixSums_71 rfl (lv_at hl 2 rfl) ?_
      refine lv_iadd hx hb dX11_prefixSums_72 ?_
      refine lv_aload_n hx hb dX11_prefixSums_73 rfl (lv_at hl 0 rfl) ?_
      refine lv_iconst (v := 0) hx hb dX11_prefixSums_74 (by decide) ?_
      refine lv_iload_n hx hb dX11_prefixSums_75 rfl (lv_at hl 2 rfl) ?_
      refine cb_VI (As := [.int 0, .int x3]) (rest := [.int ((((41 : Int32) * p1) + x3)), .ref (h 6)]) ⟨hx, hb, hml, hown, hts⟩ (kX11_sum l dC dI cy (adl [h 0, h 1, h 4, h 2, h 3, h 7, h 8, h 9, h 10, h 11, h 12, h 13, h 14, h 15, h 16, h 5, h 6, h 17, h 18, h 19, h 20, h 21]) t_kind t_exponent t_letters t_values t_fed t_at t_row t_rowSize t_steps t_foundMany t_keptMany t_keptLetters t_isFull t_isSaved t_savedKind t_savedExponent t_savedLetters 0 x3 _ hv) (cwV 2 hts gX11_prefixSums_X11_sum rfl rfl rfl zX11_sum ⟨Nat.le_of_ble_eq_true rfl, Nat.le_of_ble_eq_true rfl⟩) hK hP hD hS hA [0, 1, 4] [some 0, some 1, none, none, some 2, none, none] rfl rfl rfl (ci := 11) rfl rfl (fun _ => rfl) rfl hl.1 rfl (Nat.le_of_ble_eq_true rfl) dX11_prefixSums_76 (fun r_17 w_19 H locs hv hP hD hS => ?_)
      have hP : va_P (dC, dI) vwCl (pX11_prefixSums cy h t_kind t_exponent t_letters t_values t_words t_lengths t_fed t_at t_row t_rowSize t_steps t_foundMany t_keptMany t_keptLetters t_isFull t_sizes t_items t_isSaved t_savedKind t_savedExponent t_savedLetters) H := hP
      have hD : va_D A (pX11_prefixSums cy h t_kind t_exponent t_letters t_values t_words t_lengths t_fed t_at t_row t_rowSize t_steps t_foundMany t_keptMany t_keptLetters t_isFull t_sizes t_items t_isSaved t_savedKind t_savedExponent t_savedLetters) := hD
      refine lv_i2l (v := r_17.toInt64) hx hb dX11_prefixSums_79 rfl ?_
      have h_18 := hv.1
      have hv := hv.2
      refine va_last hx hb hK hP hD hS 6 1 rfl rfl h_18 dX11_prefixSums_80 (fun H locs hP hD hS => ?_)
      have hP : va_P (dC, dI) vwCl (pX11_prefixSums cy h t_kind t_exponent t_letters t_values t_words t_lengths t_fed t_at t_row t_rowSize t_steps t_foundMany t_keptMany t_keptLetters t_isFull t_sizes (vp_updL t_items (((41 : Int32) * p1) + x3).toNatClampNeg r_17.toInt64) t_isSaved t_savedKind t_savedExponent t_savedLetters) H := hP
      have hD : va_D A (pX11_prefixSums cy h t_kind t_exponent t_letters t_values t_words t_lengths t_fed t_at t_row t_rowSize t_steps t_foundMany t_keptMany t_keptLetters t_isFull t_sizes (vp_updL t_items (((41 : Int32) * p1) + x3).toNatClampNeg r_17.toInt64) t_isSaved t_savedKind t_savedExponent t_savedLetters) := hD
      refine lv_iinc (v := (x3 + 1)) (lv' := [(3, .int ((x3 + 1))), (0, .ref (h 0)), (1, .int p1)]) hx hb dX11_prefixSums_81 hl (k := 2) rfl rfl (by decide) rfl (fun ls hl => ?_)
      refine lv_goto (tgt := 55) hx hb dX11_prefixSums_84 (by decide) ?_
      exact ih t_row t_rowSize (vp_updL t_items (((41 : Int32) * p1) + x3).toNatClampNeg r_17.toInt64) (x3 + 1) hv _ _ _ hP hD hS (lv_sub hl [1, 2, 0] rfl)
set_option maxHeartbeats 4000000 in
set_option maxRecDepth 100000 in
theorem wX11_prefixSums_0 {p : Program} (l : Launch) {e : Env} {s : State} {m : MethodId} {args : Array Value} {below : List Frame} {meth : Method} {c : Code} {dC : Nat → ClassId} {dI : Nat → Nat → Nat} {cy : Nat → ClassId} {A : Nat → Prop} (h : Nat → Nat) (post : Int32 → (Nat → Int32) → Int32 → (Nat → Int64) → Prop)   (t_kind : Int32) (t_exponent : Int32) (t_letters : Int32) (t_values : Nat → Int32) (t_words : Nat → Int32) (t_lengths : Nat → Int32) (t_fed : Int32) (t_at : Int32) (t_steps : Int32) (t_foundMany : Int32) (t_keptMany : Int32) (t_keptLetters : Int32) (t_isFull : Int32) (t_sizes : Nat → Int32) (t_isSaved : Int32) (t_savedKind : Int32) (t_savedExponent : Int32) (t_savedLetters : Int32) (p1 : Int32) (p2 : Int32) (C0 : cx p s m args meth c cX11_prefixSums 4 (some .int) wsX11_prefixSums RX11 dC dI cy A)  : ∀ (t_row : Nat → Int32) (t_rowSize : Int32) (t_items : Nat → Int64), VX11_prefixSums post t_values t_words t_lengths t_sizes p1 p2 t_row t_rowSize t_items → ∀ (H : Heap) (locs : List Loc) (ls : Array Slot), va_P (dC, dI) vwCl (pX11_prefixSums cy h t_kind t_exponent t_letters t_values t_words t_lengths t_fed t_at t_row t_rowSize t_steps t_foundMany t_keptMany t_keptLetters t_isFull t_sizes t_items t_isSaved t_savedKind t_savedExponent t_savedLetters) H → va_D A (pX11_prefixSums cy h t_kind t_exponent t_letters t_values t_words t_lengths t_fed t_at t_row t_rowSize t_steps t_foundMany t_keptMany t_keptLetters t_isFull t_sizes t_items t_isSaved t_savedKind t_savedExponent t_savedLetters) → va_S A s.heap H locs → lv_has ls 4 [(0, .ref (h 0)), (1, .int p1), (2, .int p2)] → W p l e rX11_prefixSums s m args below meth c H locs 0 0 (MQ below (va_Qi (fun (r : Int32) (u : (Nat → Int32) × Int32 × (Nat → Int64)) => post r u.1 u.2.1 u.2.2) (fun (u : (Nat → Int32) × Int32 × (Nat → Int64)) (t : State) => va_P (dC, dI) vwCl (pX11_prefixSums cy h t_kind t_exponent t_letters t_values t_words t_lengths t_fed t_at u.1 u.2.1 t_steps t_foundMany t_keptMany t_keptLetters t_isFull t_sizes u.2.2 t_isSaved t_savedKind t_savedExponent t_savedLetters) t.heap) A) args s 0 0 A) (F0 m 0 ls []) := by
  have C1 := C0
  obtain ⟨hx, hb, hr, hml, hown, hts, hlocks, hK, hA⟩ := C1
  intro t_row t_rowSize t_items hv H locs ls hP hD hS hl
  refine lv_iload_n hx hb dX11_prefixSums_0 rfl (lv_at hl 1 rfl) ?_
  refine cb_SI (As := [.int p1]) (rest := []) ⟨hx, hb, hml, hown, hts⟩ (kX11_isWord l dC dI cy (adl []) p1 _ hv) (va_cwS 1 hts gX11_prefixSums_X11_isWord rfl rfl rfl zX11_isWord ⟨Nat.le_of_ble_eq_true rfl, Nat.le_of_ble_eq_true rfl⟩) hK hP hD hS hA [] [none, none, none, none, none, none, none] rfl rfl rfl (fun _ => rfl) rfl hl.1 rfl (Nat.le_of_ble_eq_true rfl) dX11_prefixSums_1 (fun r_1 w_16 H locs hv hP hD hS => ?_)
  have hP : va_P (dC, dI) vwCl (pX11_prefixSums cy h t_kind t_exponent t_letters t_values t_words t_lengths t_fed t_at t_row t_rowSize t_steps t_foundMany t_keptMany t_keptLetters t_isFull t_sizes t_items t_isSaved t_savedKind t_savedExponent t_savedLetters) H := hP
  have hD : va_D A (pX11_prefixSums cy h t_kind t_exponent t_letters t_values t_words t_lengths t_fed t_at t_row t_rowSize t_steps t_foundMany t_keptMany t_keptLetters t_isFull t_sizes t_items t_isSaved t_savedKind t_savedExponent t_savedLetters) := hD
  refine lv_if_eq (tgt := 14) hx hb dX11_prefixSums_4 (by decide) (fun c_15 => ?_) (fun c_15 => ?_)
  · have hv := hv.1 c_15
    refine lv_iconst (v := (-1)) hx hb dX11_prefixSums_14 (by decide) ?_
    exact W.iret (v := (-1)) hx hb hr (fun t ht hW => ⟨⟨(-1), (t_row, t_rowSize, t_items), rfl, hv, va_Ph ht hP⟩, hS.F ht⟩) hS.2.2 dX11_prefixSums_15
  · have hv := hv.2 c_15
    refine lv_iload_n hx hb dX11_prefixSums_7 rfl (lv_at hl 2 rfl) ?_
    refine cb_SI (As := [.int p2]) (rest := []) ⟨hx, hb, hml, hown, hts⟩ (kX11_isWord l dC dI cy (adl []) p2 _ hv) (va_cwS 1 hts gX11_prefixSums_X11_isWord rfl rfl rfl zX11_isWord ⟨Nat.le_of_ble_eq_true rfl, Nat.le_of_ble_eq_true rfl⟩) hK hP hD hS hA [] [none, none, none, none, none, none, none] rfl rfl rfl (fun _ => rfl) rfl hl.1 rfl (Nat.le_of_ble_eq_true rfl) dX11_prefixSums_8 (fun r_2 w_14 H locs hv hP hD hS => ?_)
    have hP : va_P (dC, dI) vwCl (pX11_prefixSums cy h t_kind t_exponent t_letters t_values t_words t_lengths t_fed t_at t_row t_rowSize t_steps t_foundMany t_keptMany t_keptLetters t_isFull t_sizes t_items t_isSaved t_savedKind t_savedExponent t_savedLetters) H := hP
    have hD : va_D A (pX11_prefixSums cy h t_kind t_exponent t_letters t_values t_words t_lengths t_fed t_at t_row t_rowSize t_steps t_foundMany t_keptMany t_keptLetters t_isFull t_sizes t_items t_isSaved t_savedKind t_savedExponent t_savedLetters) := hD
    refine lv_if_ne (tgt := 16) hx hb dX11_prefixSums_11 (by decide) (fun c_13 => ?_) (fun c_13 => ?_)
    · have hv := hv.1 c_13
      refine lv_aload_n hx hb dX11_prefixSums_16 rfl (lv_at hl 0 rfl) ?_
      refine va_get (D := (dC, dI)) (ci := 11) (v := .ref (h 5)) (C := RX11) (T := TX11) (N := 36) hx hb hts nX11_prefixSums_X11 hown hK hP 0 rfl rfl 25 (by decide) (hts _ mX11_prefixSums_1) (fun _ h9 => h9) rfl dX11_prefixSums_17 ?_
      refine lv_iload_n hx hb dX11_prefixSums_20 rfl (lv_at hl 1 rfl) ?_
      have h_3 := hv.1
      have hv := hv.2
      refine va_iald hx hb hK hP 5 0 rfl rfl h_3 dX11_prefixSums_21 ?_
      refine lv_if_ge (tgt := 28) hx hb dX11_prefixSums_22 (by decide) (fun c_12 => ?_) (fun c_12 => ?_)
      · have hv := hv.1 c_12
        refine lv_aload_n hx hb dX11_prefixSums_28 rfl (lv_at hl 0 rfl) ?_
        refine va_get (D := (dC, dI)) (ci := 11) (v := .ref (h 5)) (C := RX11) (T := TX11) (N := 36) hx hb hts nX11_prefixSums_X11 hown hK hP 0 rfl rfl 25 (by decide) (hts _ mX11_prefixSums_1) (fun _ h9 => h9) rfl dX11_prefixSums_29 ?_
        refine lv_iload_n hx hb dX11_prefixSums_32 rfl (lv_at hl 1 rfl) ?_
        have h_4 := hv.1
        have hv := hv.2
        refine va_iald hx hb hK hP 5 0 rfl rfl h_4 dX11_prefixSums_33 ?_
        refine lv_aload_n hx hb dX11_prefixSums_34 rfl (lv_at hl 0 rfl) ?_
        refine va_get (D := (dC, dI)) (ci := 11) (v := .ref (h 3)) (C := RX11) (T := TX11) (N := 36) hx hb hts nX11_prefixSums_X11 hown hK hP 0 rfl rfl 5 (by decide) (hts _ mX11_prefixSums_2) (fun _ h9 => h9) rfl dX11_prefixSums_35 ?_
        refine lv_iload_n hx hb dX11_prefixSums_38 rfl (lv_at hl 2 rfl) ?_
        have h_5 := hv.1
        have hv := hv.2
        refine va_iald hx hb hK hP 3 0 rfl rfl h_5 dX11_prefixSums_39 ?_
        refine lv_iconst (v := 1) hx hb dX11_prefixSums_40 (by decide) ?_
        refine lv_iadd hx hb dX11_prefixSums_41 ?_
        refine lv_topi (fun y_6 ey_6 => ?_)
        have hv := hv y_6 ey_6
        refine lv_icmp_ge (tgt := 48) hx hb dX11_prefixSums_42 (by decide) (fun c_11 => ?_) (fun c_11 => ?_)
        · have hv := hv.1 c_11
          refine lv_aload_n hx hb dX11_prefixSums_48 rfl (lv_at hl 0 rfl) ?_
          refine lv_iload_n hx hb dX11_prefixSums_49 rfl (lv_at hl 2 rfl) ?_
          refine cb_VV (As := [.int p2]) (rest := []) ⟨hx, hb, hml, hown, hts⟩ (kX11_take l dC dI cy (adl [h 0, h 2, h 3, h 4, h 1, h 7, h 8, h 9, h 10, h 11, h 12, h 13, h 14, h 15, h 16, h 5, h 6, h 17, h 18, h 19, h 20, h 21]) t_kind t_exponent t_letters t_words t_lengths t_fed t_at t_row t_rowSize t_steps t_foundMany t_keptMany t_keptLetters t_isFull t_isSaved t_savedKind t_savedExponent t_savedLetters p2 _ hv) (cwV 1 hts gX11_prefixSums_X11_take rfl rfl rfl zX11_take ⟨Nat.le_of_ble_eq_true rfl, Nat.le_of_ble_eq_true rfl⟩) hK hP hD hS hA [0, 2, 3, 4] [some 0, none, some 1, some 2, some 3, none, none] rfl rfl rfl (ci := 11) rfl rfl (fun _ => rfl) rfl hl.1 rfl (Nat.le_of_ble_eq_true rfl) dX11_prefixSums_50 (fun w_10 H locs hv hP hD hS => ?_)
          obtain ⟨u_7, u_8⟩ := w_10
          have hP : va_P (dC, dI) vwCl (pX11_prefixSums cy h t_kind t_exponent t_letters t_values t_words t_lengths t_fed t_at u_7 u_8 t_steps t_foundMany t_keptMany t_keptLetters t_isFull t_sizes t_items t_isSaved t_savedKind t_savedExponent t_savedLetters) H := hP
          have hD : va_D A (pX11_prefixSums cy h t_kind t_exponent t_letters t_values t_words t_lengths t_fed t_at u_7 u_8 t_steps t_foundMany t_keptMany t_keptLetters t_isFull t_sizes t_items t_isSaved t_savedKind t_savedExponent t_savedLetters) := hD
          refine lv_iconst (v := 0) hx hb dX11_prefixSums_53 (by decide) ?_
          refine lv_istore_n (lv' := [(3, .int 0), (0, .ref (h 0)), (1, .int p1), (2, .int p2)]) hx hb dX11_prefixSums_54 rfl hl (by decide) rfl (fun ls hl => ?_)
          obtain ⟨n_9, hv⟩ := hv
          exact wX11_prefixSums_55 l h post  t_kind t_exponent t_letters t_values t_words t_lengths t_fed t_at t_steps t_foundMany t_keptMany t_keptLetters t_isFull t_sizes t_isSaved t_savedKind t_savedExponent t_savedLetters p1 p2 C0 n_9 u_7 u_8 t_items 0 hv _ _ _ hP hD hS (lv_sub hl [1, 2, 0] rfl)
        · have hv := hv.2 c_11
          refine lv_bipush (v := (-13)) hx hb dX11_prefixSums_45 (by decide) ?_
          exact W.iret (v := (-13)) hx hb hr (fun t ht hW => ⟨⟨(-13), (t_row, t_rowSize, t_items), rfl, hv, va_Ph ht hP⟩, hS.F ht⟩) hS.2.2 dX11_prefixSums_47
      · have hv := hv.2 c_12
        refine lv_bipush (v := (-11)) hx hb dX11_prefixSums_25 (by decide) ?_
        exact W.iret (v := (-11)) hx hb hr (fun t ht hW => ⟨⟨(-11), (t_row, t_rowSize, t_items), rfl, hv, va_Ph ht hP⟩, hS.F ht⟩) hS.2.2 dX11_prefixSums_27
    · have hv := hv.2 c_13
      refine lv_iconst (v := (-1)) hx hb dX11_prefixSums_14 (by decide) ?_
      exact W.iret (v := (-1)) hx hb hr (fun t ht hW => ⟨⟨(-1), (t_row, t_rowSize, t_items), rfl, hv, va_Ph ht hP⟩, hS.F ht⟩) hS.2.2 dX11_prefixSums_15
theorem kX11_prefixSums (l : Launch) (dC : Nat → ClassId) (dI : Nat → Nat → Nat) (cy : Nat → ClassId) (h : Nat → Nat) (t_kind : Int32) (t_exponent : Int32) (t_letters : Int32) (t_values : Nat → Int32) (t_words : Nat → Int32) (t_lengths : Nat → Int32) (t_fed : Int32) (t_at : Int32) (t_row : Nat → Int32) (t_rowSize : Int32) (t_steps : Int32) (t_foundMany : Int32) (t_keptMany : Int32) (t_keptLetters : Int32) (t_isFull : Int32) (t_sizes : Nat → Int32) (t_items : Nat → Int64) (t_isSaved : Int32) (t_savedKind : Int32) (t_savedExponent : Int32) (t_savedLetters : Int32) (p1 : Int32) (p2 : Int32) (post : Int32 → (Nat → Int32) → Int32 → (Nat → Int64) → Prop) (hv : VX11_prefixSums post t_values t_words t_lengths t_sizes p1 p2 t_row t_rowSize t_items) : CtI l yX11_prefixSums wsX11_prefixSums rX11_prefixSums dC dI cy [.ref (h 0), .int p1, .int p2] (pX11_prefixSums cy h t_kind t_exponent t_letters t_values t_words t_lengths t_fed t_at t_row t_rowSize t_steps t_foundMany t_keptMany t_keptLetters t_isFull t_sizes t_items t_isSaved t_savedKind t_savedExponent t_savedLetters) (fun (u : (Nat → Int32) × Int32 × (Nat → Int64)) => pX11_prefixSums cy h t_kind t_exponent t_letters t_values t_words t_lengths t_fed t_at u.1 u.2.1 t_steps t_foundMany t_keptMany t_keptLetters t_isFull t_sizes u.2.2 t_isSaved t_savedKind t_savedExponent t_savedLetters) (fun (r : Int32) (u : (Nat → Int32) × Int32 × (Nat → Int64)) => post r u.1 u.2.1 u.2.2) :=
  ct_ofI (by decide) rfl (Nat.le_of_ble_eq_true rfl) (fun p e s m below meth c A ls C0 hP hD hS hl => wX11_prefixSums_0 l h post t_kind t_exponent t_letters t_values t_words t_lengths t_fed t_at t_steps t_foundMany t_keptMany t_keptLetters t_isFull t_sizes t_isSaved t_savedKind t_savedExponent t_savedLetters p1 p2 C0 t_row t_rowSize t_items hv _ _ _ hP hD hS hl)
theorem mX11_allLetters_1 : (Cond.fieldLink RX11 26 "AbelianPowersModel" "lengths" "[I") ∈ wsX11_allLetters := List.mem_of_getElem? (i := 1) rfl
theorem nX11_allLetters_X11 : ∀ w ∈ wsX110, w ∈ wsX11_allLetters := fun _ h => List.mem_cons_of_mem _ (List.mem_append_right _ h)
theorem zX11_allLetters : yX11_allLetters.cls = RX11 ∧ yX11_allLetters.cls ≠ "java/lang/invoke/MethodHandle" ∧ yX11_allLetters.cls ≠ "java/lang/invoke/VarHandle" ∧ (parseMethodDescriptor yX11_allLetters.desc).map (fun d => d.parameters.length) = some 0 := by decide +kernel
abbrev rX11_allLetters : Room := { frames := 0, cells := 0, slots := 0, locals := 0 }
abbrev pX11_allLetters (cy : Nat → ClassId) (h : Nat → Nat) (t_kind : Int32) (t_exponent : Int32) (t_letters : Int32) (t_lengths : Nat → Int32) (t_fed : Int32) (t_at : Int32) (t_rowSize : Int32) (t_steps : Int32) (t_foundMany : Int32) (t_keptMany : Int32) (t_keptLetters : Int32) (t_isFull : Int32) (t_isSaved : Int32) (t_savedKind : Int32) (t_savedExponent : Int32) (t_savedLetters : Int32) : va_W := [(h 0, .inr (11, [.int t_kind, .int t_exponent, .int t_letters, .ref (h 2), .ref (h 3), .ref (h 1), .ref (h 4), .ref (h 5), .ref (h 6), .int t_fed, .int t_at, .ref (h 7), .int t_rowSize, .int t_steps, .ref (h 8), .int t_foundMany, .ref (h 9), .int t_keptMany, .int t_keptLetters, .ref (h 10), .ref (h 11), .ref (h 12), .ref (h 13), .ref (h 14), .int t_isFull, .ref (h 15), .ref (h 16), .int t_isSaved, .int t_savedKind, .int t_savedExponent, .int t_savedLetters, .ref (h 17), .ref (h 18), .ref (h 19), .ref (h 20), .ref (h 21)])), (h 1, .inl (cy 0, 3, .inl t_lengths))]
def VX11_allLetters (post : Int32 → Prop)  (t_lengths : Nat → Int32)  : Prop := vp_in (0 : Int32) 3 ∧ (∀ y_1 : Int32, y_1 = (t_lengths (0 : Int32).toNatClampNeg) → vp_in (1 : Int32) 3 ∧ (∀ y_3 : Int32, y_3 = (t_lengths (1 : Int32).toNatClampNeg) → vp_in (2 : Int32) 3 ∧ (∀ y_5 : Int32, y_5 = (t_lengths (2 : Int32).toNatClampNeg) → post ((y_1 + y_3) + y_5))))
set_option maxHeartbeats 4000000 in
set_option maxRecDepth 100000 in
theorem wX11_allLetters_0 {p : Program} (l : Launch) {e : Env} {s : State} {m : MethodId} {args : Array Value} {below : List Frame} {meth : Method} {c : Code} {dC : Nat → ClassId} {dI : Nat → Nat → Nat} {cy : Nat → ClassId} {A : Nat → Prop} (h : Nat → Nat) (post : Int32 → Prop)   (t_kind : Int32) (t_exponent : Int32) (t_letters : Int32) (t_lengths : Nat → Int32) (t_fed : Int32) (t_at : Int32) (t_rowSize : Int32) (t_steps : Int32) (t_foundMany : Int32) (t_keptMany : Int32) (t_keptLetters : Int32) (t_isFull : Int32) (t_isSaved : Int32) (t_savedKind : Int32) (t_savedExponent : Int32) (t_savedLetters : Int32)  (C0 : cx p s m args meth c cX11_allLetters 1 (some .int) wsX11_allLetters RX11 dC dI cy A)  : VX11_allLetters post t_lengths  → ∀ (H : Heap) (locs : List Loc) (ls : Array Slot), va_P (dC, dI) vwCl (pX11_allLetters cy h t_kind t_exponent t_letters t_lengths t_fed t_at t_rowSize t_steps t_foundMany t_keptMany t_keptLetters t_isFull t_isSaved t_savedKind t_savedExponent t_savedLetters) H → va_D A (pX11_allLetters cy h t_kind t_exponent t_letters t_lengths t_fed t_at t_rowSize t_steps t_foundMany t_keptMany t_keptLetters t_isFull t_isSaved t_savedKind t_savedExponent t_savedLetters) → va_S A s.heap H locs → lv_has ls 1 [(0, .ref (h 0))] → W p l e rX11_allLetters s m args below meth c H locs 0 0 (MQ below (va_Qi (fun (r : Int32) (_ : Unit) => post r) (fun (_ : Unit) (t : State) => va_P (dC, dI) vwCl (pX11_allLetters cy h t_kind t_exponent t_letters t_lengths t_fed t_at t_rowSize t_steps t_foundMany t_keptMany t_keptLetters t_isFull t_isSaved t_savedKind t_savedExponent t_savedLetters) t.heap) A) args s 0 0 A) (F0 m 0 ls []) := by
  have C1 := C0
  obtain ⟨hx, hb, hr, hml, hown, hts, hlocks, hK, hA⟩ := C1
  intro  hv H locs ls hP hD hS hl
  refine lv_aload_n hx hb dX11_allLetters_0 rfl (lv_at hl 0 rfl) ?_
  refine va_get (D := (dC, dI)) (ci := 11) (v := .ref (h 1)) (C := RX11) (T := TX11) (N := 36) hx hb hts nX11_allLetters_X11 hown hK hP 0 rfl rfl 5 (by decide) (hts _ mX11_allLetters_1) (fun _ h9 => h9) rfl dX11_allLetters_1 ?_
  refine lv_iconst (v := 0) hx hb dX11_allLetters_4 (by decide) ?_
  have h_2 := hv.1
  have hv := hv.2
  refine va_iald hx hb hK hP 1 0 rfl rfl h_2 dX11_allLetters_5 ?_
  refine lv_topi (fun y_1 ey_1 => ?_)
  have hv := hv y_1 ey_1
  refine lv_aload_n hx hb dX11_allLetters_6 rfl (lv_at hl 0 rfl) ?_
  refine va_get (D := (dC, dI)) (ci := 11) (v := .ref (h 1)) (C := RX11) (T := TX11) (N := 36) hx hb hts nX11_allLetters_X11 hown hK hP 0 rfl rfl 5 (by decide) (hts _ mX11_allLetters_1) (fun _ h9 => h9) rfl dX11_allLetters_7 ?_
  refine lv_iconst (v := 1) hx hb dX11_allLetters_10 (by decide) ?_
  have h_4 := hv.1
  have hv := hv.2
  refine va_iald hx hb hK hP 1 0 rfl rfl h_4 dX11_allLetters_11 ?_
  refine lv_topi (fun y_3 ey_3 => ?_)
  have hv := hv y_3 ey_3
  refine lv_iadd hx hb dX11_allLetters_12 ?_
  refine lv_aload_n hx hb dX11_allLetters_13 rfl (lv_at hl 0 rfl) ?_
  refine va_get (D := (dC, dI)) (ci := 11) (v := .ref (h 1)) (C := RX11) (T := TX11) (N := 36) hx hb hts nX11_allLetters_X11 hown hK hP 0 rfl rfl 5 (by decide) (hts _ mX11_allLetters_1) (fun _ h9 => h9) rfl dX11_allLetters_14 ?_
  refine lv_iconst (v := 2) hx hb dX11_allLetters_17 (by decide) ?_
  have h_6 := hv.1
  have hv := hv.2
  refine va_iald hx hb hK hP 1 0 rfl rfl h_6 dX11_allLetters_18 ?_
  refine lv_topi (fun y_5 ey_5 => ?_)
  have hv := hv y_5 ey_5
  refine lv_iadd hx hb dX11_allLetters_19 ?_
  exact W.iret (v := ((y_1 + y_3) + y_5)) hx hb hr (fun t ht hW => ⟨⟨((y_1 + y_3) + y_5), (), rfl, hv, va_Ph ht hP⟩, hS.F ht⟩) hS.2.2 dX11_allLetters_20
theorem kX11_allLetters (l : Launch) (dC : Nat → ClassId) (dI : Nat → Nat → Nat) (cy : Nat → ClassId) (h : Nat → Nat) (t_kind : Int32) (t_exponent : Int32) (t_letters : Int32) (t_lengths : Nat → Int32) (t_fed : Int32) (t_at : Int32) (t_rowSize : Int32) (t_steps : Int32) (t_foundMany : Int32) (t_keptMany : Int32) (t_keptLetters : Int32) (t_isFull : Int32) (t_isSaved : Int32) (t_savedKind : Int32) (t_savedExponent : Int32) (t_savedLetters : Int32)  (post : Int32 → Prop) (hv : VX11_allLetters post t_lengths ) : CtI l yX11_allLetters wsX11_allLetters rX11_allLetters dC dI cy [.ref (h 0)] (pX11_allLetters cy h t_kind t_exponent t_letters t_lengths t_fed t_at t_rowSize t_steps t_foundMany t_keptMany t_keptLetters t_isFull t_isSaved t_savedKind t_savedExponent t_savedLetters) (fun (_ : Unit) => pX11_allLetters cy h t_kind t_exponent t_letters t_lengths t_fed t_at t_rowSize t_steps t_foundMany t_keptMany t_keptLetters t_isFull t_isSaved t_savedKind t_savedExponent t_savedLetters) (fun (r : Int32) (_ : Unit) => post r) :=
  ct_ofI (by decide) rfl (Nat.le_of_ble_eq_true rfl) (fun p e s m below meth c A ls C0 hP hD hS hl => wX11_allLetters_0 l h post t_kind t_exponent t_letters t_lengths t_fed t_at t_rowSize t_steps t_foundMany t_keptMany t_keptLetters t_isFull t_isSaved t_savedKind t_savedExponent t_savedLetters C0  hv _ _ _ hP hD hS hl)
theorem mX11_saveSnapshot_1 : (Cond.fieldLink RX11 264 "AbelianPowersModel" "isSaved" "Z") ∈ wsX11_saveSnapshot := List.mem_of_getElem? (i := 1) rfl
theorem mX11_saveSnapshot_2 : (Cond.fieldLink RX11 7 "AbelianPowersModel" "kind" "I") ∈ wsX11_saveSnapshot := List.mem_of_getElem? (i := 2) rfl
theorem mX11_saveSnapshot_3 : (Cond.fieldLink RX11 267 "AbelianPowersModel" "savedKind" "I") ∈ wsX11_saveSnapshot := List.mem_of_getElem? (i := 3) rfl
theorem mX11_saveSnapshot_4 : (Cond.fieldLink RX11 13 "AbelianPowersModel" "exponent" "I") ∈ wsX11_saveSnapshot := List.mem_of_getElem? (i := 4) rfl
theorem mX11_saveSnapshot_5 : (Cond.fieldLink RX11 270 "AbelianPowersModel" "savedExponent" "I") ∈ wsX11_saveSnapshot := List.mem_of_getElem? (i := 5) rfl
theorem mX11_saveSnapshot_6 : (Cond.fieldLink RX11 16 "AbelianPowersModel" "letters" "I") ∈ wsX11_saveSnapshot := List.mem_of_getElem? (i := 6) rfl
theorem mX11_saveSnapshot_7 : (Cond.fieldLink RX11 273 "AbelianPowersModel" "savedLetters" "I") ∈ wsX11_saveSnapshot := List.mem_of_getElem? (i := 7) rfl
theorem mX11_saveSnapshot_8 : (Cond.fieldLink RX11 73 "AbelianPowersModel" "savedWords" "[I") ∈ wsX11_saveSnapshot := List.mem_of_getElem? (i := 8) rfl
theorem mX11_saveSnapshot_9 : (Cond.fieldLink RX11 23 "AbelianPowersModel" "words" "[I") ∈ wsX11_saveSnapshot := List.mem_of_getElem? (i := 9) rfl
theorem mX11_saveSnapshot_10 : (Cond.fieldLink RX11 76 "AbelianPowersModel" "savedLengths" "[I") ∈ wsX11_saveSnapshot := List.mem_of_getElem? (i := 10) rfl
theorem mX11_saveSnapshot_11 : (Cond.fieldLink RX11 26 "AbelianPowersModel" "lengths" "[I") ∈ wsX11_saveSnapshot := List.mem_of_getElem? (i := 11) rfl
theorem mX11_saveSnapshot_12 : (Cond.fieldLink RX11 79 "AbelianPowersModel" "savedImages" "[I") ∈ wsX11_saveSnapshot := List.mem_of_getElem? (i := 12) rfl
theorem mX11_saveSnapshot_13 : (Cond.fieldLink RX11 29 "AbelianPowersModel" "images" "[I") ∈ wsX11_saveSnapshot := List.mem_of_getElem? (i := 13) rfl
theorem mX11_saveSnapshot_14 : (Cond.fieldLink RX11 82 "AbelianPowersModel" "savedSizes" "[I") ∈ wsX11_saveSnapshot := List.mem_of_getElem? (i := 14) rfl
theorem mX11_saveSnapshot_15 : (Cond.fieldLink RX11 32 "AbelianPowersModel" "imageSizes" "[I") ∈ wsX11_saveSnapshot := List.mem_of_getElem? (i := 15) rfl
theorem mX11_saveSnapshot_16 : (Cond.fieldLink RX11 70 "AbelianPowersModel" "savedValues" "[I") ∈ wsX11_saveSnapshot := List.mem_of_getElem? (i := 16) rfl
theorem mX11_saveSnapshot_17 : (Cond.fieldLink RX11 19 "AbelianPowersModel" "values" "[I") ∈ wsX11_saveSnapshot := List.mem_of_getElem? (i := 17) rfl
theorem nX11_saveSnapshot_X11 : ∀ w ∈ wsX110, w ∈ wsX11_saveSnapshot := fun _ h => List.mem_cons_of_mem _ (List.mem_append_right _ h)
theorem zX11_saveSnapshot : yX11_saveSnapshot.cls = RX11 ∧ yX11_saveSnapshot.cls ≠ "java/lang/invoke/MethodHandle" ∧ yX11_saveSnapshot.cls ≠ "java/lang/invoke/VarHandle" ∧ (parseMethodDescriptor yX11_saveSnapshot.desc).map (fun d => d.parameters.length) = some 0 := by decide +kernel
abbrev rX11_saveSnapshot : Room := { frames := 1, cells := 0, slots := 0, locals := 20 }
abbrev pX11_saveSnapshot (cy : Nat → ClassId) (h : Nat → Nat) (t_kind : Int32) (t_exponent : Int32) (t_letters : Int32) (t_values : Nat → Int32) (t_words : Nat → Int32) (t_lengths : Nat → Int32) (t_images : Nat → Int32) (t_imageSizes : Nat → Int32) (t_fed : Int32) (t_at : Int32) (t_rowSize : Int32) (t_steps : Int32) (t_foundMany : Int32) (t_keptMany : Int32) (t_keptLetters : Int32) (t_isFull : Int32) (t_isSaved : Int32) (t_savedKind : Int32) (t_savedExponent : Int32) (t_savedLetters : Int32) (t_savedValues : Nat → Int32) (t_savedWords : Nat → Int32) (t_savedLengths : Nat → Int32) (t_savedImages : Nat → Int32) (t_savedSizes : Nat → Int32) : va_W := [(h 0, .inr (11, [.int t_kind, .int t_exponent, .int t_letters, .ref (h 1), .ref (h 2), .ref (h 3), .ref (h 4), .ref (h 5), .ref (h 11), .int t_fed, .int t_at, .ref (h 12), .int t_rowSize, .int t_steps, .ref (h 13), .int t_foundMany, .ref (h 14), .int t_keptMany, .int t_keptLetters, .ref (h 15), .ref (h 16), .ref (h 17), .ref (h 18), .ref (h 19), .int t_isFull, .ref (h 20), .ref (h 21), .int t_isSaved, .int t_savedKind, .int t_savedExponent, .int t_savedLetters, .ref (h 6), .ref (h 7), .ref (h 8), .ref (h 9), .ref (h 10)])), (h 1, .inl (cy 0, 4, .inl t_values)), (h 2, .inl (cy 0, 120, .inl t_words)), (h 3, .inl (cy 0, 3, .inl t_lengths)), (h 4, .inl (cy 0, 16, .inl t_images)), (h 5, .inl (cy 0, 4, .inl t_imageSizes)), (h 6, .inl (cy 0, 4, .inl t_savedValues)), (h 7, .inl (cy 0, 120, .inl t_savedWords)), (h 8, .inl (cy 0, 3, .inl t_savedLengths)), (h 9, .inl (cy 0, 16, .inl t_savedImages)), (h 10, .inl (cy 0, 4, .inl t_savedSizes))]
def VX11_saveSnapshot_31 (post : Int32 → Int32 → Int32 → Int32 → Int32 → (Nat → Int32) → (Nat → Int32) → (Nat → Int32) → (Nat → Int32) → (Nat → Int32) → Prop)  (t_kind : Int32) (t_exponent : Int32) (t_letters : Int32) (t_values : Nat → Int32) (t_words : Nat → Int32) (t_lengths : Nat → Int32) (t_images : Nat → Int32) (t_imageSizes : Nat → Int32) : Nat → Int32 → Int32 → Int32 → Int32 → (Nat → Int32) → (Nat → Int32) → (Nat → Int32) → (Nat → Int32) → (Nat → Int32) → Int32 → Prop
  | 0, _, _, _, _, _, _, _, _, _, _ => False
  | n + 1, t_isSaved, t_savedKind, t_savedExponent, t_savedLetters, t_savedValues, t_savedWords, t_savedLengths, t_savedImages, t_savedSizes, x1 => ((120 ≤ x1) → VX11_allLetters (fun r_2 => post r_2 t_isSaved t_savedKind t_savedExponent t_savedLetters t_savedValues t_savedWords t_savedLengths t_savedImages t_savedSizes) t_lengths) ∧ (¬ (120 ≤ x1) → vp_in x1 120 ∧ (vp_in x1 120 ∧ (vp_in (x1 - x1 / 3 * 3) 3 ∧ (∀ y_8 : Int32, y_8 = (t_lengths (x1 - x1 / 3 * 3).toNatClampNeg) → vp_in (x1 - x1 / 3 * 3) 3 ∧ (vp_in (x1 - x1 / 16 * 16) 16 ∧ (∀ y_13 : Int32, y_13 = (t_images (x1 - x1 / 16 * 16).toNatClampNeg) → vp_in (x1 - x1 / 16 * 16) 16 ∧ (vp_in (x1 - x1 / 4 * 4) 4 ∧ (∀ y_18 : Int32, y_18 = (t_imageSizes (x1 - x1 / 4 * 4).toNatClampNeg) → vp_in (x1 - x1 / 4 * 4) 4 ∧ (vp_in (x1 - x1 / 4 * 4) 4 ∧ (∀ y_23 : Int32, y_23 = (t_values (x1 - x1 / 4 * 4).toNatClampNeg) → vp_in (x1 - x1 / 4 * 4) 4 ∧ (VX11_saveSnapshot_31 post t_kind t_exponent t_letters t_values t_words t_lengths t_images t_imageSizes n t_isSaved t_savedKind t_savedExponent t_savedLetters (upd t_savedValues (x1 - x1 / 4 * 4).toNatClampNeg y_23) (upd t_savedWords x1.toNatClampNeg (t_words x1.toNatClampNeg)) (upd t_savedLengths (x1 - x1 / 3 * 3).toNatClampNeg y_8) (upd t_savedImages (x1 - x1 / 16 * 16).toNatClampNeg y_13) (upd t_savedSizes (x1 - x1 / 4 * 4).toNatClampNeg y_18) (x1 + 1))))))))))))
def VX11_saveSnapshot (post : Int32 → Int32 → Int32 → Int32 → Int32 → (Nat → Int32) → (Nat → Int32) → (Nat → Int32) → (Nat → Int32) → (Nat → Int32) → Prop)  (t_kind : Int32) (t_exponent : Int32) (t_letters : Int32) (t_values : Nat → Int32) (t_words : Nat → Int32) (t_lengths : Nat → Int32) (t_images : Nat → Int32) (t_imageSizes : Nat → Int32) (t_isSaved : Int32) (t_savedKind : Int32) (t_savedExponent : Int32) (t_savedLetters : Int32) (t_savedValues : Nat → Int32) (t_savedWords : Nat → Int32) (t_savedLengths : Nat → Int32) (t_savedImages : Nat → Int32) (t_savedSizes : Nat → Int32) : Prop := ∃ n31 : Nat, VX11_saveSnapshot_31 post t_kind t_exponent t_letters t_values t_words t_lengths t_images t_imageSizes n31 1 t_kind t_exponent t_letters t_savedValues t_savedWords t_savedLengths t_savedImages t_savedSizes 0
set_option maxHeartbeats 4000000 in
set_option maxRecDepth 100000 in
theorem wX11_saveSnapshot_31 {p : Program} (l : Launch) {e : Env} {s : State} {m : MethodId} {args : Array Value} {below : List Frame} {meth : Method} {c : Code} {dC : Nat → ClassId} {dI : Nat → Nat → Nat} {cy : Nat → ClassId} {A : Nat → Prop} (h : Nat → Nat) (post : Int32 → Int32 → Int32 → Int32 → Int32 → (Nat → Int32) → (Nat → Int32) → (Nat → Int32) → (Nat → Int32) → (Nat → Int32) → Prop)   (t_kind : Int32) (t_exponent : Int32) (t_letters : Int32) (t_values : Nat → Int32) (t_words : Nat → Int32) (t_lengths : Nat → Int32) (t_images : Nat → Int32) (t_imageSizes : Nat → Int32) (t_fed : Int32) (t_at : Int32) (t_rowSize : Int32) (t_steps : Int32) (t_foundMany : Int32) (t_keptMany : Int32) (t_keptLetters : Int32) (t_isFull : Int32)  (C0 : cx p s m args meth c cX11_saveSnapshot 2 (some .int) wsX11_saveSnapshot RX11 dC dI cy A)  : ∀ (n : Nat) (t_isSaved : Int32) (t_savedKind : Int32) (t_savedExponent : Int32) (t_savedLetters : Int32) (t_savedValues : Nat → Int32) (t_savedWords : Nat → Int32) (t_savedLengths : Nat → Int32) (t_savedImages : Nat → Int32) (t_savedSizes : Nat → Int32) (x1 : Int32), VX11_saveSnapshot_31 post t_kind t_exponent t_letters t_values t_words t_lengths t_images t_imageSizes n t_isSaved t_savedKind t_savedExponent t_savedLetters t_savedValues t_savedWords t_savedLengths t_savedImages t_savedSizes x1 → ∀ (H : Heap) (locs : List Loc) (ls : Array Slot), va_P (dC, dI) vwCl (pX11_saveSnapshot cy h t_kind t_exponent t_letters t_values t_words t_lengths t_images t_imageSizes t_fed t_at t_rowSize t_steps t_foundMany t_keptMany t_keptLetters t_isFull t_isSaved t_savedKind t_savedExponent t_savedLetters t_savedValues t_savedWords t_savedLengths t_savedImages t_savedSizes) H → va_D A (pX11_saveSnapshot cy h t_kind t_exponent t_letters t_values t_words t_lengths t_images t_imageSizes t_fed t_at t_rowSize t_steps t_foundMany t_keptMany t_keptLetters t_isFull t_isSaved t_savedKind t_savedExponent t_savedLetters t_savedValues t_savedWords t_savedLengths t_savedImages t_savedSizes) → va_S A s.heap H locs → lv_has ls 2 [(0, .ref (h 0)), (1, .int x1)] → W p l e rX11_saveSnapshot s m args below meth c H locs 0 0 (MQ below (va_Qi (fun (r : Int32) (u : Int32 × Int32 × Int32 × Int32 × (Nat → Int32) × (Nat → Int32) × (Nat → Int32) × (Nat → Int32) × (Nat → Int32)) => post r u.1 u.2.1 u.2.2.1 u.2.2.2.1 u.2.2.2.2.1 u.2.2.2.2.2.1 u.2.2.2.2.2.2.1 u.2.2.2.2.2.2.2.1 u.2.2.2.2.2.2.2.2) (fun (u : Int32 × Int32 × Int32 × Int32 × (Nat → Int32) × (Nat → Int32) × (Nat → Int32) × (Nat → Int32) × (Nat → Int32)) (t : State) => va_P (dC, dI) vwCl (pX11_saveSnapshot cy h t_kind t_exponent t_letters t_values t_words t_lengths t_images t_imageSizes t_fed t_at t_rowSize t_steps t_foundMany t_keptMany t_keptLetters t_isFull u.1 u.2.1 u.2.2.1 u.2.2.2.1 u.2.2.2.2.1 u.2.2.2.2.2.1 u.2.2.2.2.2.2.1 u.2.2.2.2.2.2.2.1 u.2.2.2.2.2.2.2.2) t.heap) A) args s 0 0 A) (F0 m 31 ls []) := by
  have C1 := C0
  obtain ⟨hx, hb, hr, hml, hown, hts, hlocks, hK, hA⟩ := C1
  intro n
  induction n with
  | zero => intro t_isSaved t_savedKind t_savedExponent t_savedLetters t_savedValues t_savedWords t_savedLengths t_savedImages t_savedSizes x1 hv; exact hv.elim
  | succ n ih =>
    intro t_isSaved t_savedKind t_savedExponent t_savedLetters t_savedValues t_savedWords t_savedLengths t_savedImages t_savedSizes x1 hv H locs ls hP hD hS hl
    refine lv_iload_n hx hb dX11_saveSnapshot_31 rfl (lv_at hl 1 rfl) ?_
    refine lv_bipush (v := 120) hx hb dX11_saveSnapshot_32 (by decide) ?_
    refine lv_icmp_ge (tgt := 121) hx hb dX11_saveSnapshot_34 (by decide) (fun c_26 => ?_) (fun c_26 => ?_)
    · have hv := hv.1 c_26
      refine lv_aload_n hx hb dX11_saveSnapshot_121 rfl (lv_at hl 0 rfl) ?_
      refine cb_VI (As := []) (rest := []) ⟨hx, hb, hml, hown, hts⟩ (kX11_allLetters l dC dI cy (adl [h 0, h 3, h 1, h 2, h 4, h 5, h 11, h 12, h 13, h 14, h 15, h 16, h 17, h 18, h 19, h 20, h 21, h 6, h 7, h 8, h 9, h 10]) t_kind t_exponent t_letters t_lengths t_fed t_at t_rowSize t_steps t_foundMany t_keptMany t_keptLetters t_isFull t_isSaved t_savedKind t_savedExponent t_savedLetters _ hv) (cwV 0 hts gX11_saveSnapshot_X11_allLetters rfl rfl rfl zX11_allLetters ⟨Nat.le_of_ble_eq_true rfl, Nat.le_of_ble_eq_true rfl⟩) hK hP hD hS hA [0, 3] [some 0, none, none, some 1, none, none, none, none, none, none, none] rfl rfl rfl (ci := 11) rfl rfl (fun _ => rfl) rfl hl.1 rfl (Nat.le_of_ble_eq_true rfl) dX11_saveSnapshot_122 (fun r_2 w_3 H locs hv hP hD hS => ?_)
      have hP : va_P (dC, dI) vwCl (pX11_saveSnapshot cy h t_kind t_exponent t_letters t_values t_words t_lengths t_images t_imageSizes t_fed t_at t_rowSize t_steps t_foundMany t_keptMany t_keptLetters t_isFull t_isSaved t_savedKind t_savedExponent t_savedLetters t_savedValues t_savedWords t_savedLengths t_savedImages t_savedSizes) H := hP
      have hD : va_D A (pX11_saveSnapshot cy h t_kind t_exponent t_letters t_values t_words t_lengths t_images t_imageSizes t_fed t_at t_rowSize t_steps t_foundMany t_keptMany t_keptLetters t_isFull t_isSaved t_savedKind t_savedExponent t_savedLetters t_savedValues t_savedWords t_savedLengths t_savedImages t_savedSizes) := hD
      exact W.iret (v := r_2) hx hb hr (fun t ht hW => ⟨⟨r_2, (t_isSaved, t_savedKind, t_savedExponent, t_savedLetters, t_savedValues, t_savedWords, t_savedLengths, t_savedImages, t_savedSizes), rfl, hv, va_Ph ht hP⟩, hS.F ht⟩) hS.2.2 dX11_saveSnapshot_125
    · have hv := hv.2 c_26
      refine lv_aload_n hx hb dX11_saveSnapshot_37 rfl (lv_at hl 0 rfl) ?_
      refine va_get (D := (dC, dI)) (ci := 11) (v := .ref (h 7)) (C := RX11) (T := TX11) (N := 36) hx hb hts nX11_saveSnapshot_X11 hown hK hP 0 rfl rfl 32 (by decide) (hts _ mX11_saveSnapshot_8) (fun _ h9 => h9) rfl dX11_saveSnapshot_38 ?_
      refine lv_iload_n hx hb dX11_saveSnapshot_41 rfl (lv_at hl 1 rfl) ?_
      refine lv_aload_n hx hb dX11_saveSnapshot_42 rfl (lv_at hl 0 rfl) ?_
      refine va_get (D := (dC, dI)) (ci := 11) (v := .ref (h 2)) (C := RX11) (T := TX11) (N := 36) hx hb hts nX11_saveSnapshot_X11 hown hK hP 0 rfl rfl 4 (by decide) (hts _ mX11_saveSnapshot_9) (fun _ h9 => h9) rfl dX11_saveSnapshot_43 ?_
      refine lv_iload_n hx hb dX11_saveSnapshot_46 rfl (lv_at hl 1 rfl) ?_
      have h_4 := hv.1
      have hv := hv.2
      refine va_iald hx hb hK hP 2 0 rfl rfl h_4 dX11_saveSnapshot_47 ?_
      have h_5 := hv.1
      have hv := hv.2
      refine va_iast hx hb hK hP hD hS 7 0 rfl rfl h_5 dX11_saveSnapshot_48 (fun H locs hP hD hS => ?_)
      have hP : va_P (dC, dI) vwCl (pX11_saveSnapshot cy h t_kind t_exponent t_letters t_values t_words t_lengths t_images t_imageSizes t_fed t_at t_rowSize t_steps t_foundMany t_keptMany t_keptLetters t_isFull t_isSaved t_savedKind t_savedExponent t_savedLetters t_savedValues (upd t_savedWords x1.toNatClampNeg (t_words x1.toNatClampNeg)) t_savedLengths t_savedImages t_savedSizes) H := hP
      have hD : va_D A (pX11_saveSnapshot cy h t_kind t_exponent t_letters t_values t_words t_lengths t_images t_imageSizes t_fed t_at t_rowSize t_steps t_foundMany t_keptMany t_keptLetters t_isFull t_isSaved t_savedKind t_savedExponent t_savedLetters t_savedValues (upd t_savedWords x1.toNatClampNeg (t_words x1.toNatClampNeg)) t_savedLengths t_savedImages t_savedSizes) := hD
      refine lv_aload_n hx hb dX11_saveSnapshot_49 rfl (lv_at hl 0 rfl) ?_
      refine va_get (D := (dC, dI)) (ci := 11) (v := .ref (h 8)) (C := RX11) (T := TX11) (N := 36) hx hb hts nX11_saveSnapshot_X11 hown hK hP 0 rfl rfl 33 (by decide) (hts _ mX11_saveSnapshot_10) (fun _ h9 => h9) rfl dX11_saveSnapshot_50 ?_
      refine lv_iload_n hx hb dX11_saveSnapshot_53 rfl (lv_at hl 1 rfl) ?_
      refine lv_iconst (v := 3) hx hb dX11_saveSnapshot_54 (by decide) ?_
      refine lv_irem hx hb dX11_saveSnapshot_55 (by decide) ?_
      refine lv_aload_n hx hb dX11_saveSnapshot_56 rfl (lv_at hl 0 rfl) ?_
      refine va_get (D := (dC, dI)) (ci := 11) (v := .ref (h 3)) (C := RX11) (T := TX11) (N := 36) hx hb hts nX11_saveSnapshot_X11 hown hK hP 0 rfl rfl 5 (by decide) (hts _ mX11_saveSnapshot_11) (fun _ h9 => h9) rfl dX11_saveSnapshot_57 ?_
      refine lv_iload_n hx hb dX11_saveSnapshot_60 rfl (lv_at hl 1 rfl) ?_
      refine lv_iconst (v := 3) hx hb dX11_saveSnapshot_61 (by decide) ?_
      refine lv_irem hx hb dX11_saveSnapshot_62 (by decide) ?_
      have h_9 := hv.1
      have hv := hv.2
      refine va_iald hx hb hK hP 3 0 rfl rfl h_9 dX11_saveSnapshot_63 ?_
      refine lv_topi (fun y_8 ey_8 => ?_)
      have hv := hv y_8 ey_8
      have h_10 := hv.1
      have hv := hv.2
      refine va_iast hx hb hK hP hD hS 8 0 rfl rfl h_10 dX11_saveSnapshot_64 (fun H locs hP hD hS => ?_)
      have hP : va_P (dC, dI) vwCl (pX11_saveSnapshot cy h t_kind t_exponent t_letters t_values t_words t_lengths t_images t_imageSizes t_fed t_at t_rowSize t_steps t_foundMany t_keptMany t_keptLetters t_isFull t_isSaved t_savedKind t_savedExponent t_savedLetters t_savedValues (upd t_savedWords x1.toNatClampNeg (t_words x1.toNatClampNeg)) (upd t_savedLengths (x1 - x1 / 3 * 3).toNatClampNeg y_8) t_savedImages t_savedSizes) H := hP
      have hD : va_D A (pX11_saveSnapshot cy h t_kind t_exponent t_letters t_values t_words t_lengths t_images t_imageSizes t_fed t_at t_rowSize t_steps t_foundMany t_keptMany t_keptLetters t_isFull t_isSaved t_savedKind t_savedExponent t_savedLetters t_savedValues (upd t_savedWords x1.toNatClampNeg (t_words x1.toNatClampNeg)) (upd t_savedLengths (x1 - x1 / 3 * 3).toNatClampNeg y_8) t_savedImages t_savedSizes) := hD
      refine lv_aload_n hx hb dX11_saveSnapshot_65 rfl (lv_at hl 0 rfl) ?_
      refine va_get (D := (dC, dI)) (ci := 11) (v := .ref (h 9)) (C := RX11) (T := TX11) (N := 36) hx hb hts nX11_saveSnapshot_X11 hown hK hP 0 rfl rfl 34 (by decide) (hts _ mX11_saveSnapshot_12) (fun _ h9 => h9) rfl dX11_saveSnapshot_66 ?_
      refine lv_iload_n hx hb dX11_saveSnapshot_69 rfl (lv_at hl 1 rfl) ?_
      refine lv_bipush (v := 16) hx hb dX11_saveSnapshot_70 (by decide) ?_
      refine lv_irem hx hb dX11_saveSnapshot_72 (by decide) ?_
      refine lv_aload_n hx hb dX11_saveSnapshot_73 rfl (lv_at hl 0 rfl) ?_
      refine va_get (D := (dC, dI)) (ci := 11) (v := .ref (h 4)) (C := RX11) (T := TX11) (N := 36) hx hb hts nX11_saveSnapshot_X11 hown hK hP 0 rfl rfl 6 (by decide) (hts _ mX11_saveSnapshot_13) (fun _ h9 => h9) rfl dX11_saveSnapshot_74 ?_
      refine lv_iload_n hx hb dX11_saveSnapshot_77 rfl (lv_at hl 1 rfl) ?_
      refine lv_bipush (v := 16) hx hb dX11_saveSnapshot_78 (by decide) ?_
      refine lv_irem hx hb dX11_saveSnapshot_80 (by decide) ?_
      have h_14 := hv.1
      have hv := hv.2
      refine va_iald hx hb hK hP 4 0 rfl rfl h_14 dX11_saveSnapshot_81 ?_
      refine lv_topi (fun y_13 ey_13 => ?_)
      have hv := hv y_13 ey_13
      have h_15 := hv.1
      have hv := hv.2
      refine va_iast hx hb hK hP hD hS 9 0 rfl rfl h_15 dX11_saveSnapshot_82 (fun H locs hP hD hS => ?_)
      have hP : va_P (dC, dI) vwCl (pX11_saveSnapshot cy h t_kind t_exponent t_letters t_values t_words t_lengths t_images t_imageSizes t_fed t_at t_rowSize t_steps t_foundMany t_keptMany t_keptLetters t_isFull t_isSaved t_savedKind t_savedExponent t_savedLetters t_savedValues (upd t_savedWords x1.toNatClampNeg (t_words x1.toNatClampNeg)) (upd t_savedLengths (x1 - x1 / 3 * 3).toNatClampNeg y_8) (upd t_savedImages (x1 - x1 / 16 * 16).toNatClampNeg y_13) t_savedSizes) H := hP
      have hD : va_D A (pX11_saveSnapshot cy h t_kind t_exponent t_letters t_values t_words t_lengths t_images t_imageSizes t_fed t_at t_rowSize t_steps t_foundMany t_keptMany t_keptLetters t_isFull t_isSaved t_savedKind t_savedExponent t_savedLetters t_savedValues (upd t_savedWords x1.toNatClampNeg (t_words x1.toNatClampNeg)) (upd t_savedLengths (x1 - x1 / 3 * 3).toNatClampNeg y_8) (upd t_savedImages (x1 - x1 / 16 * 16).toNatClampNeg y_13) t_savedSizes) := hD
      refine lv_aload_n hx hb dX11_saveSnapshot_83 rfl (lv_at hl 0 rfl) ?_
      refine va_get (D := (dC, dI)) (ci := 11) (v := .ref (h 10)) (C := RX11) (T := TX11) (N := 36) hx hb hts nX11_saveSnapshot_X11 hown hK hP 0 rfl rfl 35 (by decide) (hts _ mX11_saveSnapshot_14) (fun _ h9 => h9) rfl dX11_saveSnapshot_84 ?_
      refine lv_iload_n hx hb dX11_saveSnapshot_87 rfl (lv_at hl 1 rfl) ?_
      refine lv_iconst (v := 4) hx hb dX11_saveSnapshot_88 (by decide) ?_
      refine lv_irem hx hb dX11_saveSnapshot_89 (by decide) ?_
      refine lv_aload_n hx hb dX11_saveSnapshot_90 rfl (lv_at hl 0 rfl) ?_
      refine va_get (D := (dC, dI)) (ci := 11) (v := .ref (h 5)) (C := RX11) (T := TX11) (N := 36) hx hb hts nX11_saveSnapshot_X11 hown hK hP 0 rfl rfl 7 (by decide) (hts _ mX11_saveSnapshot_15) (fun _ h9 => h9) rfl dX11_saveSnapshot_91 ?_
      refine lv_iload_n hx hb dX11_saveSnapshot_94 rfl (lv_at hl 1 rfl) ?_
      refine lv_iconst (v := 4) hx hb dX11_saveSnapshot_95 (by decide) ?_
      refine lv_irem hx hb dX11_saveSnapshot_96 (by decide) ?_
      have h_19 := hv.1
      have hv := hv.2
      refine va_iald hx hb hK hP 5 0 rfl rfl h_19 dX11_saveSnapshot_97 ?_
      refine lv_topi (fun y_18 ey_18 => ?_)
      have hv := hv y_18 ey_18
      have h_20 := hv.1
      have hv := hv.2
      refine va_iast hx hb hK hP hD hS 10 0 rfl rfl h_20 dX11_saveSnapshot_98 (fun H locs hP hD hS => ?_)
      have hP : va_P (dC, dI) vwCl (pX11_saveSnapshot cy h t_kind t_exponent t_letters t_values t_words t_lengths t_images t_imageSizes t_fed t_at t_rowSize t_steps t_foundMany t_keptMany t_keptLetters t_isFull t_isSaved t_savedKind t_savedExponent t_savedLetters t_savedValues (upd t_savedWords x1.toNatClampNeg (t_words x1.toNatClampNeg)) (upd t_savedLengths (x1 - x1 / 3 * 3).toNatClampNeg y_8) (upd t_savedImages (x1 - x1 / 16 * 16).toNatClampNeg y_13) (upd t_savedSizes (x1 - x1 / 4 * 4).toNatClampNeg y_18)) H := hP
      have hD : va_D A (pX11_saveSnapshot cy h t_kind t_exponent t_letters t_values t_words t_lengths t_images t_imageSizes t_fed t_at t_rowSize t_steps t_foundMany t_keptMany t_keptLetters t_isFull t_isSaved t_savedKind t_savedExponent t_savedLetters t_savedValues (upd t_savedWords x1.toNatClampNeg (t_words x1.toNatClampNeg)) (upd t_savedLengths (x1 - x1 / 3 * 3).toNatClampNeg y_8) (upd t_savedImages (x1 - x1 / 16 * 16).toNatClampNeg y_13) (upd t_savedSizes (x1 - x1 / 4 * 4).toNatClampNeg y_18)) := hD
      refine lv_aload_n hx hb dX11_saveSnapshot_99 rfl (lv_at hl 0 rfl) ?_
      refine va_get (D := (dC, dI)) (ci := 11) (v := .ref (h 6)) (C := RX11) (T := TX11) (N := 36) hx hb hts nX11_saveSnapshot_X11 hown hK hP 0 rfl rfl 31 (by decide) (hts _ mX11_saveSnapshot_16) (fun _ h9 => h9) rfl dX11_saveSnapshot_100 ?_
      refine lv_iload_n hx hb dX11_saveSnapshot_103 rfl (lv_at hl 1 rfl) ?_
      refine lv_iconst (v := 4) hx hb dX11_saveSnapshot_104 (by decide) ?_
      refine lv_irem hx hb dX11_saveSnapshot_105 (by decide) ?_
      refine lv_aload_n hx hb dX11_saveSnapshot_106 rfl (lv_at hl 0 rfl) ?_
      refine va_get (D := (dC, dI)) (ci := 11) (v := .ref (h 1)) (C := RX11) (T := TX11) (N := 36) hx hb hts nX11_saveSnapshot_X11 hown hK hP 0 rfl rfl 3 (by decide) (hts _ mX11_saveSnapshot_17) (fun _ h9 => h9) rfl dX11_saveSnapshot_107 ?_
      refine lv_iload_n hx hb dX11_saveSnapshot_110 rfl (lv_at hl 1 rfl) ?_
      refine lv_iconst (v := 4) hx hb dX11_saveSnapshot_111 (by decide) ?_
      refine lv_irem hx hb dX11_saveSnapshot_112 (by decide) ?_
      have h_24 := hv.1
      have hv := hv.2
      refine va_iald hx hb hK hP 1 0 rfl rfl h_24 dX11_saveSnapshot_113 ?_
      refine lv_topi (fun y_23 ey_23 => ?_)
      have hv := hv y_23 ey_23
      have h_25 := hv.1
      have hv := hv.2
      refine va_iast hx hb hK hP hD hS 6 0 rfl rfl h_25 dX11_saveSnapshot_114 (fun H locs hP hD hS => ?_)
      have hP : va_P (dC, dI) vwCl (pX11_saveSnapshot cy h t_kind t_exponent t_letters t_values t_words t_lengths t_images t_imageSizes t_fed t_at t_rowSize t_steps t_foundMany t_keptMany t_keptLetters t_isFull t_isSaved t_savedKind t_savedExponent t_savedLetters (upd t_savedValues (x1 - x1 / 4 * 4).toNatClampNeg y_23) (upd t_savedWords x1.toNatClampNeg (t_words x1.toNatClampNeg)) (upd t_savedLengths (x1 - x1 / 3 * 3).toNatClampNeg y_8) (upd t_savedImages (x1 - x1 / 16 * 16).toNatClampNeg y_13) (upd t_savedSizes (x1 - x1 / 4 * 4).toNatClampNeg y_18)) H := hP
      have hD : va_D A (pX11_saveSnapshot cy h t_kind t_exponent t_letters t_values t_words t_lengths t_images t_imageSizes t_fed t_at t_rowSize t_steps t_foundMany t_keptMany t_keptLetters t_isFull t_isSaved t_savedKind t_savedExponent t_savedLetters (upd t_savedValues (x1 - x1 / 4 * 4).toNatClampNeg y_23) (upd t_savedWords x1.toNatClampNeg (t_words x1.toNatClampNeg)) (upd t_savedLengths (x1 - x1 / 3 * 3).toNatClampNeg y_8) (upd t_savedImages (x1 - x1 / 16 * 16).toNatClampNeg y_13) (upd t_savedSizes (x1 - x1 / 4 * 4).toNatClampNeg y_18)) := hD
      refine lv_iinc (v := (x1 + 1)) (lv' := [(1, .int ((x1 + 1))), (0, .ref (h 0))]) hx hb dX11_saveSnapshot_115 hl (k := 1) rfl rfl (by decide) rfl (fun ls hl => ?_)
      refine lv_goto (tgt := 31) hx hb dX11_saveSnapshot_118 (by decide) ?_
      exact ih t_isSaved t_savedKind t_savedExponent t_savedLetters (upd t_savedValues (x1 - x1 / 4 * 4).toNatClampNeg y_23) (upd t_savedWords x1.toNatClampNeg (t_words x1.toNatClampNeg)) (upd t_savedLengths (x1 - x1 / 3 * 3).toNatClampNeg y_8) (upd t_savedImages (x1 - x1 / 16 * 16).toNatClampNeg y_13) (upd t_savedSizes (x1 - x1 / 4 * 4).toNatClampNeg y_18) (x1 + 1) hv _ _ _ hP hD hS (lv_sub hl [1, 0] rfl)
set_option maxHeartbeats 4000000 in
set_option maxRecDepth 100000 in
theorem wX11_saveSnapshot_0 {p : Program} (l : Launch) {e : Env} {s : State} {m : MethodId} {args : Array Value} {below : List Frame} {meth : Method} {c : Code} {dC : Nat → ClassId} {dI : Nat → Nat → Nat} {cy : Nat → ClassId} {A : Nat → Prop} (h : Nat → Nat) (post : Int32 → Int32 → Int32 → Int32 → Int32 → (Nat → Int32) → (Nat → Int32) → (Nat → Int32) → (Nat → Int32) → (Nat → Int32) → Prop)   (t_kind : Int32) (t_exponent : Int32) (t_letters : Int32) (t_values : Nat → Int32) (t_words : Nat → Int32) (t_lengths : Nat → Int32) (t_images : Nat → Int32) (t_imageSizes : Nat → Int32) (t_fed : Int32) (t_at : Int32) (t_rowSize : Int32) (t_steps : Int32) (t_foundMany : Int32) (t_keptMany : Int32) (t_keptLetters : Int32) (t_isFull : Int32)  (C0 : cx p s m args meth c cX11_saveSnapshot 2 (some .int) wsX11_saveSnapshot RX11 dC dI cy A)  : ∀ (t_isSaved : Int32) (t_savedKind : Int32) (t_savedExponent : Int32) (t_savedLetters : Int32) (t_savedValues : Nat → Int32) (t_savedWords : Nat → Int32) (t_savedLengths : Nat → Int32) (t_savedImages : Nat → Int32) (t_savedSizes : Nat → Int32), VX11_saveSnapshot post t_kind t_exponent t_letters t_values t_words t_lengths t_images t_imageSizes t_isSaved t_savedKind t_savedExponent t_savedLetters t_savedValues t_savedWords t_savedLengths t_savedImages t_savedSizes → ∀ (H : Heap) (locs : List Loc) (ls : Array Slot), va_P (dC, dI) vwCl (pX11_saveSnapshot cy h t_kind t_exponent t_letters t_values t_words t_lengths t_images t_imageSizes t_fed t_at t_rowSize t_steps t_foundMany t_keptMany t_keptLetters t_isFull t_isSaved t_savedKind t_savedExponent t_savedLetters t_savedValues t_savedWords t_savedLengths t_savedImages t_savedSizes) H → va_D A (pX11_saveSnapshot cy h t_kind t_exponent t_letters t_values t_words t_lengths t_images t_imageSizes t_fed t_at t_rowSize t_steps t_foundMany t_keptMany t_keptLetters t_isFull t_isSaved t_savedKind t_savedExponent t_savedLetters t_savedValues t_savedWords t_savedLengths t_savedImages t_savedSizes) → va_S A s.heap H locs → lv_has ls 2 [(0, .ref (h 0))] → W p l e rX11_saveSnapshot s m args below meth c H locs 0 0 (MQ below (va_Qi (fun (r : Int32) (u : Int32 × Int32 × Int32 × Int32 × (Nat → Int32) × (Nat → Int32) × (Nat → Int32) × (Nat → Int32) × (Nat → Int32)) => post r u.1 u.2.1 u.2.2.1 u.2.2.2.1 u.2.2.2.2.1 u.2.2.2.2.2.1 u.2.2.2.2.2.2.1 u.2.2.2.2.2.2.2.1 u.2.2.2.2.2.2.2.2) (fun (u : Int32 × Int32 × Int32 × Int32 × (Nat → Int32) × (Nat → Int32) × (Nat → Int32) × (Nat → Int32) × (Nat → Int32)) (t : State) => va_P (dC, dI) vwCl (pX11_saveSnapshot cy h t_kind t_exponent t_letters t_values t_words t_lengths t_images t_imageSizes t_fed t_at t_rowSize t_steps t_foundMany t_keptMany t_keptLetters t_isFull u.1 u.2.1 u.2.2.1 u.2.2.2.1 u.2.2.2.2.1 u.2.2.2.2.2.1 u.2.2.2.2.2.2.1 u.2.2.2.2.2.2.2.1 u.2.2.2.2.2.2.2.2) t.heap) A) args s 0 0 A) (F0 m 0 ls []) := by
  have C1 := C0
  obtain ⟨hx, hb, hr, hml, hown, hts, hlocks, hK, hA⟩ := C1
  intro t_isSaved t_savedKind t_savedExponent t_savedLetters t_savedValues t_savedWords t_savedLengths t_savedImages t_savedSizes hv H locs ls hP hD hS hl
  refine lv_aload_n hx hb dX11_saveSnapshot_0 rfl (lv_at hl 0 rfl) ?_
  refine lv_iconst (v := 1) hx hb dX11_saveSnapshot_1 (by decide) ?_
  refine va_put (D := (dC, dI)) (ci := 11) (v := .int 1) (ty := .boolean) (C := RX11) (T := TX11) (N := 36) hx hb hts nX11_saveSnapshot_X11 tyX11 tyX11_ok nmX11 hown hK hP hD hS 0 rfl rfl 27 (by decide) (hts _ mX11_saveSnapshot_1) (fun _ h9 => h9) rfl (by decide +kernel) rfl rfl (Nat.le_of_ble_eq_true rfl) dX11_saveSnapshot_2 (fun H locs hP hD hS => ?_)
  have hP : va_P (dC, dI) vwCl (pX11_saveSnapshot cy h t_kind t_exponent t_letters t_values t_words t_lengths t_images t_imageSizes t_fed t_at t_rowSize t_steps t_foundMany t_keptMany t_keptLetters t_isFull 1 t_savedKind t_savedExponent t_savedLetters t_savedValues t_savedWords t_savedLengths t_savedImages t_savedSizes) H := hP
  have hD : va_D A (pX11_saveSnapshot cy h t_kind t_exponent t_letters t_values t_words t_lengths t_images t_imageSizes t_fed t_at t_rowSize t_steps t_foundMany t_keptMany t_keptLetters t_isFull 1 t_savedKind t_savedExponent t_savedLetters t_savedValues t_savedWords t_savedLengths t_savedImages t_savedSizes) := hD
  refine lv_aload_n hx hb dX11_saveSnapshot_5 rfl (lv_at hl 0 rfl) ?_
  refine lv_aload_n hx hb dX11_saveSnapshot_6 rfl (lv_at hl 0 rfl) ?_
  refine va_get (D := (dC, dI)) (ci := 11) (v := .int t_kind) (C := RX11) (T := TX11) (N := 36) hx hb hts nX11_saveSnapshot_X11 hown hK hP 0 rfl rfl 0 (by decide) (hts _ mX11_saveSnapshot_2) (fun _ h9 => h9) rfl dX11_saveSnapshot_7 ?_
  refine va_put (D := (dC, dI)) (ci := 11) (v := .int t_kind) (ty := .int) (C := RX11) (T := TX11) (N := 36) hx hb hts nX11_saveSnapshot_X11 tyX11 tyX11_ok nmX11 hown hK hP hD hS 0 rfl rfl 28 (by decide) (hts _ mX11_saveSnapshot_3) (fun _ h9 => h9) rfl (by decide +kernel) rfl rfl (Nat.le_of_ble_eq_true rfl) dX11_saveSnapshot_10 (fun H locs hP hD hS => ?_)
  have hP : va_P (dC, dI) vwCl (pX11_saveSnapshot cy h t_kind t_exponent t_letters t_values t_words t_lengths t_images t_imageSizes t_fed t_at t_rowSize t_steps t_foundMany t_keptMany t_keptLetters t_isFull 1 t_kind t_savedExponent t_savedLetters t_savedValues t_savedWords t_savedLengths t_savedImages t_savedSizes) H := hP
  have hD : va_D A (pX11_saveSnapshot cy h t_kind t_exponent t_letters t_values t_words t_lengths t_images t_imageSizes t_fed t_at t_rowSize t_steps t_foundMany t_keptMany t_keptLetters t_isFull 1 t_kind t_savedExponent t_savedLetters t_savedValues t_savedWords t_savedLengths t_savedImages t_savedSizes) := hD
  refine lv_aload_n hx hb dX11_saveSnapshot_13 rfl (lv_at hl 0 rfl) ?_
  refine lv_aload_n hx hb dX11_saveSnapshot_14 rfl (lv_at hl 0 rfl) ?_
  refine va_get (D := (dC, dI)) (ci := 11) (v := .int t_exponent) (C := RX11) (T := TX11) (N := 36) hx hb hts nX11_saveSnapshot_X11 hown hK hP 0 rfl rfl 1 (by decide) (hts _ mX11_saveSnapshot_4) (fun _ h9 => h9) rfl dX11_saveSnapshot_15 ?_
  refine va_put (D := (dC, dI)) (ci := 11) (v := .int t_exponent) (ty := .int) (C := RX11) (T := TX11) (N := 36) hx hb hts nX11_saveSnapshot_X11 tyX11 tyX11_ok nmX11 hown hK hP hD hS 0 rfl rfl 29 (by decide) (hts _ mX11_saveSnapshot_5) (fun _ h9 => h9) rfl (by decide +kernel) rfl rfl (Nat.le_of_ble_eq_true rfl) dX11_saveSnapshot_18 (fun H locs hP hD hS => ?_)
  have hP : va_P (dC, dI) vwCl (pX11_saveSnapshot cy h t_kind t_exponent t_letters t_values t_words t_lengths t_images t_imageSizes t_fed t_at t_rowSize t_steps t_foundMany t_keptMany t_keptLetters t_isFull 1 t_kind t_exponent t_savedLetters t_savedValues t_savedWords t_savedLengths t_savedImages t_savedSizes) H := hP
  have hD : va_D A (pX11_saveSnapshot cy h t_kind t_exponent t_letters t_values t_words t_lengths t_images t_imageSizes t_fed t_at t_rowSize t_steps t_foundMany t_keptMany t_keptLetters t_isFull 1 t_kind t_exponent t_savedLetters t_savedValues t_savedWords t_savedLengths t_savedImages t_savedSizes) := hD
  refine lv_aload_n hx hb dX11_saveSnapshot_21 rfl (lv_at hl 0 rfl) ?_
  refine lv_aload_n hx hb dX11_saveSnapshot_22 rfl (lv_at hl 0 rfl) ?_
  refine va_get (D := (dC, dI)) (ci := 11) (v := .int t_letters) (C := RX11) (T := TX11) (N := 36) hx hb hts nX11_saveSnapshot_X11 hown hK hP 0 rfl rfl 2 (by decide) (hts _ mX11_saveSnapshot_6) (fun _ h9 => h9) rfl dX11_saveSnapshot_23 ?_
  refine va_put (D := (dC, dI)) (ci := 11) (v := .int t_letters) (ty := .int) (C := RX11) (T := TX11) (N := 36) hx hb hts nX11_saveSnapshot_X11 tyX11 tyX11_ok nmX11 hown hK hP hD hS 0 rfl rfl 30 (by decide) (hts _ mX11_saveSnapshot_7) (fun _ h9 => h9) rfl (by decide +kernel) rfl rfl (Nat.le_of_ble_eq_true rfl) dX11_saveSnapshot_26 (fun H locs hP hD hS => ?_)
  have hP : va_P (dC, dI) vwCl (pX11_saveSnapshot cy h t_kind t_exponent t_letters t_values t_words t_lengths t_images t_imageSizes t_fed t_at t_rowSize t_steps t_foundMany t_keptMany t_keptLetters t_isFull 1 t_kind t_exponent t_letters t_savedValues t_savedWords t_savedLengths t_savedImages t_savedSizes) H := hP
  have hD : va_D A (pX11_saveSnapshot cy h t_kind t_exponent t_letters t_values t_words t_lengths t_images t_imageSizes t_fed t_at t_rowSize t_steps t_foundMany t_keptMany t_keptLetters t_isFull 1 t_kind t_exponent t_letters t_savedValues t_savedWords t_savedLengths t_savedImages t_savedSizes) := hD
  refine lv_iconst (v := 0) hx hb dX11_saveSnapshot_29 (by decide) ?_
  refine lv_istore_n (lv' := [(1, .int 0), (0, .ref (h 0))]) hx hb dX11_saveSnapshot_30 rfl hl (by decide) rfl (fun ls hl => ?_)
  obtain ⟨n_1, hv⟩ := hv
  exact wX11_saveSnapshot_31 l h post  t_kind t_exponent t_letters t_values t_words t_lengths t_images t_imageSizes t_fed t_at t_rowSize t_steps t_foundMany t_keptMany t_keptLetters t_isFull C0 n_1 1 t_kind t_exponent t_letters t_savedValues t_savedWords t_savedLengths t_savedImages t_savedSizes 0 hv _ _ _ hP hD hS (lv_sub hl [1, 0] rfl)
theorem kX11_saveSnapshot (l : Launch) (dC : Nat → ClassId) (dI : Nat → Nat → Nat) (cy : Nat → ClassId) (h : Nat → Nat) (t_kind : Int32) (t_exponent : Int32) (t_letters : Int32) (t_values : Nat → Int32) (t_words : Nat → Int32) (t_lengths : Nat → Int32) (t_images : Nat → Int32) (t_imageSizes : Nat → Int32) (t_fed : Int32) (t_at : Int32) (t_rowSize : Int32) (t_steps : Int32) (t_foundMany : Int32) (t_keptMany : Int32) (t_keptLetters : Int32) (t_isFull : Int32) (t_isSaved : Int32) (t_savedKind : Int32) (t_savedExponent : Int32) (t_savedLetters : Int32) (t_savedValues : Nat → Int32) (t_savedWords : Nat → Int32) (t_savedLengths : Nat → Int32) (t_savedImages : Nat → Int32) (t_savedSizes : Nat → Int32)  (post : Int32 → Int32 → Int32 → Int32 → Int32 → (Nat → Int32) → (Nat → Int32) → (Nat → Int32) → (Nat → Int32) → (Nat → Int32) → Prop) (hv : VX11_saveSnapshot post t_kind t_exponent t_letters t_values t_words t_lengths t_images t_imageSizes t_isSaved t_savedKind t_savedExponent t_savedLetters t_savedValues t_savedWords t_savedLengths t_savedImages t_savedSizes) : CtI l yX11_saveSnapshot wsX11_saveSnapshot rX11_saveSnapshot dC dI cy [.ref (h 0)] (pX11_saveSnapshot cy h t_kind t_exponent t_letters t_values t_words t_lengths t_images t_imageSizes t_fed t_at t_rowSize t_steps t_foundMany t_keptMany t_keptLetters t_isFull t_isSaved t_savedKind t_savedExponent t_savedLetters t_savedValues t_savedWords t_savedLengths t_savedImages t_savedSizes) (fun (u : Int32 × Int32 × Int32 × Int32 × (Nat → Int32) × (Nat → Int32) × (Nat → Int32) × (Nat → Int32) × (Nat → Int32)) => pX11_saveSnapshot cy h t_kind t_exponent t_letters t_values t_words t_lengths t_images t_imageSizes t_fed t_at t_rowSize t_steps t_foundMany t_keptMany t_keptLetters t_isFull u.1 u.2.1 u.2.2.1 u.2.2.2.1 u.2.2.2.2.1 u.2.2.2.2.2.1 u.2.2.2.2.2.2.1 u.2.2.2.2.2.2.2.1 u.2.2.2.2.2.2.2.2) (fun (r : Int32) (u : Int32 × Int32 × Int32 × Int32 × (Nat → Int32) × (Nat → Int32) × (Nat → Int32) × (Nat → Int32) × (Nat → Int32)) => post r u.1 u.2.1 u.2.2.1 u.2.2.2.1 u.2.2.2.2.1 u.2.2.2.2.2.1 u.2.2.2.2.2.2.1 u.2.2.2.2.2.2.2.1 u.2.2.2.2.2.2.2.2) :=
  ct_ofI (by decide) rfl (Nat.le_of_ble_eq_true rfl) (fun p e s m below meth c A ls C0 hP hD hS hl => wX11_saveSnapshot_0 l h post t_kind t_exponent t_letters t_values t_words t_lengths t_images t_imageSizes t_fed t_at t_rowSize t_steps t_foundMany t_keptMany t_keptLetters t_isFull C0 t_isSaved t_savedKind t_savedExponent t_savedLetters t_savedValues t_savedWords t_savedLengths t_savedImages t_savedSizes hv _ _ _ hP hD hS hl)
theorem mX11_restoreSnapshot_1 : (Cond.fieldLink RX11 264 "AbelianPowersModel" "isSaved" "Z") ∈ wsX11_restoreSnapshot := List.mem_of_getElem? (i := 1) rfl
theorem mX11_restoreSnapshot_2 : (Cond.fieldLink RX11 267 "AbelianPowersModel" "savedKind" "I") ∈ wsX11_restoreSnapshot := List.mem_of_getElem? (i := 2) rfl
theorem mX11_restoreSnapshot_3 : (Cond.fieldLink RX11 7 "AbelianPowersModel" "kind" "I") ∈ wsX11_restoreSnapshot := List.mem_of_getElem? (i := 3) rfl
theorem mX11_restoreSnapshot_4 : (Cond.fieldLink RX11 270 "AbelianPowersModel" "savedExponent" "I") ∈ wsX11_restoreSnapshot := List.mem_of_getElem? (i := 4) rfl
theorem mX11_restoreSnapshot_5 : (Cond.fieldLink RX11 13 "AbelianPowersModel" "exponent" "I") ∈ wsX11_restoreSnapshot := List.mem_of_getElem? (i := 5) rfl
theorem mX11_restoreSnapshot_6 : (Cond.fieldLink RX11 273 "AbelianPowersModel" "savedLetters" "I") ∈ wsX11_restoreSnapshot := List.mem_of_getElem? (i := 6) rfl
theorem mX11_restoreSnapshot_7 : (Cond.fieldLink RX11 16 "AbelianPowersModel" "letters" "I") ∈ wsX11_restoreSnapshot := List.mem_of_getElem? (i := 7) rfl
theorem mX11_restoreSnapshot_8 : (Cond.fieldLink RX11 23 "AbelianPowersModel" "words" "[I") ∈ wsX11_restoreSnapshot := List.mem_of_getElem? (i := 8) rfl
theorem mX11_restoreSnapshot_9 : (Cond.fieldLink RX11 73 "AbelianPowersModel" "savedWords" "[I") ∈ wsX11_restoreSnapshot := List.mem_of_getElem? (i := 9) rfl
theorem mX11_restoreSnapshot_10 : (Cond.fieldLink RX11 26 "AbelianPowersModel" "lengths" "[I") ∈ wsX11_restoreSnapshot := List.mem_of_getElem? (i := 10) rfl
theorem mX11_restoreSnapshot_11 : (Cond.fieldLink RX11 76 "AbelianPowersModel" "savedLengths" "[I") ∈ wsX11_restoreSnapshot := List.mem_of_getElem? (i := 11) rfl
theorem mX11_restoreSnapshot_12 : (Cond.fieldLink RX11 29 "AbelianPowersModel" "images" "[I") ∈ wsX11_restoreSnapshot := List.mem_of_getElem? (i := 12) rfl
theorem mX11_restoreSnapshot_13 : (Cond.fieldLink RX11 79 "AbelianPowersModel" "savedImages" "[I") ∈ wsX11_restoreSnapshot := List.mem_of_getElem? (i := 13) rfl
theorem mX11_restoreSnapshot_14 : (Cond.fieldLink RX11 32 "AbelianPowersModel" "imageSizes" "[I") ∈ wsX11_restoreSnapshot := List.mem_of_getElem? (i := 14) rfl
theorem mX11_restoreSnapshot_15 : (Cond.fieldLink RX11 82 "AbelianPowersModel" "savedSizes" "[I") ∈ wsX11_restoreSnapshot := List.mem_of_getElem? (i := 15) rfl
theorem mX11_restoreSnapshot_16 : (Cond.fieldLink RX11 19 "AbelianPowersModel" "values" "[I") ∈ wsX11_restoreSnapshot := List.mem_of_getElem? (i := 16) rfl
theorem mX11_restoreSnapshot_17 : (Cond.fieldLink RX11 70 "AbelianPowersModel" "savedValues" "[I") ∈ wsX11_restoreSnapshot := List.mem_of_getElem? (i := 17) rfl
theorem nX11_restoreSnapshot_X11 : ∀ w ∈ wsX110, w ∈ wsX11_restoreSnapshot := fun _ h => List.mem_cons_of_mem _ (List.mem_append_right _ h)
theorem zX11_restoreSnapshot : yX11_restoreSnapshot.cls = RX11 ∧ yX11_restoreSnapshot.cls ≠ "java/lang/invoke/MethodHandle" ∧ yX11_restoreSnapshot.cls ≠ "java/lang/invoke/VarHandle" ∧ (parseMethodDescriptor yX11_restoreSnapshot.desc).map (fun d => d.parameters.length) = some 0 := by decide +kernel
abbrev rX11_restoreSnapshot : Room := { frames := 1, cells := 0, slots := 0, locals := 20 }
abbrev pX11_restoreSnapshot (cy : Nat → ClassId) (h : Nat → Nat) (t_kind : Int32) (t_exponent : Int32) (t_letters : Int32) (t_values : Nat → Int32) (t_words : Nat → Int32) (t_lengths : Nat → Int32) (t_images : Nat → Int32) (t_imageSizes : Nat → Int32) (t_fed : Int32) (t_at : Int32) (t_rowSize : Int32) (t_steps : Int32) (t_foundMany : Int32) (t_keptMany : Int32) (t_keptLetters : Int32) (t_isFull : Int32) (t_isSaved : Int32) (t_savedKind : Int32) (t_savedExponent : Int32) (t_savedLetters : Int32) (t_savedValues : Nat → Int32) (t_savedWords : Nat → Int32) (t_savedLengths : Nat → Int32) (t_savedImages : Nat → Int32) (t_savedSizes : Nat → Int32) : va_W := [(h 0, .inr (11, [.int t_kind, .int t_exponent, .int t_letters, .ref (h 1), .ref (h 2), .ref (h 3), .ref (h 4), .ref (h 5), .ref (h 11), .int t_fed, .int t_at, .ref (h 12), .int t_rowSize, .int t_steps, .ref (h 13), .int t_foundMany, .ref (h 14), .int t_keptMany, .int t_keptLetters, .ref (h 15), .ref (h 16), .ref (h 17), .ref (h 18), .ref (h 19), .int t_isFull, .ref (h 20), .ref (h 21), .int t_isSaved, .int t_savedKind, .int t_savedExponent, .int t_savedLetters, .ref (h 6), .ref (h 7), .ref (h 8), .ref (h 9), .ref (h 10)])), (h 1, .inl (cy 0, 4, .inl t_values)), (h 2, .inl (cy 0, 120, .inl t_words)), (h 3, .inl (cy 0, 3, .inl t_lengths)), (h 4, .inl (cy 0, 16, .inl t_images)), (h 5, .inl (cy 0, 4, .inl t_imageSizes)), (h 6, .inl (cy 0, 4, .inl t_savedValues)), (h 7, .inl (cy 0, 120, .inl t_savedWords)), (h 8, .inl (cy 0, 3, .inl t_savedLengths)), (h 9, .inl (cy 0, 16, .inl t_savedImages)), (h 10, .inl (cy 0, 4, .inl t_savedSizes))]
def VX11_restoreSnapshot_36 (post : Int32 → Int32 → Int32 → Int32 → (Nat → Int32) → (Nat → Int32) → (Nat → Int32) → (Nat → Int32) → (Nat → Int32) → Prop)  (t_isSaved : Int32) (t_savedKind : Int32) (t_savedExponent : Int32) (t_savedLetters : Int32) (t_savedValues : Nat → Int32) (t_savedWords : Nat → Int32) (t_savedLengths : Nat → Int32) (t_savedImages : Nat → Int32) (t_savedSizes : Nat → Int32) : Nat → Int32 → Int32 → Int32 → (Nat → Int32) → (Nat → Int32) → (Nat → Int32) → (Nat → Int32) → (Nat → Int32) → Int32 → Prop
  | 0, _, _, _, _, _, _, _, _, _ => False
  | n + 1, t_kind, t_exponent, t_letters, t_values, t_words, t_lengths, t_images, t_imageSizes, x1 => ((120 ≤ x1) → VX11_allLetters (fun r_3 => post r_3 t_kind t_exponent t_letters t_values t_words t_lengths t_images t_imageSizes) t_lengths) ∧ (¬ (120 ≤ x1) → vp_in x1 120 ∧ (∀ y_5 : Int32, y_5 = (t_savedWords x1.toNatClampNeg) → vp_in x1 120 ∧ (vp_in (x1 - x1 / 3 * 3) 3 ∧ (∀ y_10 : Int32, y_10 = (t_savedLengths (x1 - x1 / 3 * 3).toNatClampNeg) → vp_in (x1 - x1 / 3 * 3) 3 ∧ (vp_in (x1 - x1 / 16 * 16) 16 ∧ (∀ y_15 : Int32, y_15 = (t_savedImages (x1 - x1 / 16 * 16).toNatClampNeg) → vp_in (x1 - x1 / 16 * 16) 16 ∧ (vp_in (x1 - x1 / 4 * 4) 4 ∧ (∀ y_20 : Int32, y_20 = (t_savedSizes (x1 - x1 / 4 * 4).toNatClampNeg) → vp_in (x1 - x1 / 4 * 4) 4 ∧ (vp_in (x1 - x1 / 4 * 4) 4 ∧ (∀ y_25 : Int32, y_25 = (t_savedValues (x1 - x1 / 4 * 4).toNatClampNeg) → vp_in (x1 - x1 / 4 * 4) 4 ∧ (VX11_restoreSnapshot_36 post t_isSaved t_savedKind t_savedExponent t_savedLetters t_savedValues t_savedWords t_savedLengths t_savedImages t_savedSizes n t_kind t_exponent t_letters (upd t_values (x1 - x1 / 4 * 4).toNatClampNeg y_25) (upd t_words x1.toNatClampNeg y_5) (upd t_lengths (x1 - x1 / 3 * 3).toNatClampNeg y_10) (upd t_images (x1 - x1 / 16 * 16).toNatClampNeg y_15) (upd t_imageSizes (x1 - x1 / 4 * 4).toNatClampNeg y_20) (x1 + 1))))))))))))
def VX11_restoreSnapshot (post : Int32 → Int32 → Int32 → Int32 → (Nat → Int32) → (Nat → Int32) → (Nat → Int32) → (Nat → Int32) → (Nat → Int32) → Prop)  (t_isSaved : Int32) (t_savedKind : Int32) (t_savedExponent : Int32) (t_savedLetters : Int32) (t_savedValues : Nat → Int32) (t_savedWords : Nat → Int32) (t_savedLengths : Nat → Int32) (t_savedImages : Nat → Int32) (t_savedSizes : Nat → Int32) (t_kind : Int32) (t_exponent : Int32) (t_letters : Int32) (t_values : Nat → Int32) (t_words : Nat → Int32) (t_lengths : Nat → Int32) (t_images : Nat → Int32) (t_imageSizes : Nat → Int32) : Prop := (¬ (t_isSaved = 0) → ∃ n36 : Nat, VX11_restoreSnapshot_36 post t_isSaved t_savedKind t_savedExponent t_savedLetters t_savedValues t_savedWords t_savedLengths t_savedImages t_savedSizes n36 t_savedKind t_savedExponent t_savedLetters t_values t_words t_lengths t_images t_imageSizes 0) ∧ ((t_isSaved = 0) → post (-2 : Int32) t_kind t_exponent t_letters t_values t_words t_lengths t_images t_imageSizes)
set_option maxHeartbeats 4000000 in
set_option maxRecDepth 100000 in
theorem wX11_restoreSnapshot_36 {p : Program} (l : Launch) {e : Env} {s : State} {m : MethodId} {args : Array Value} {below : List Frame} {meth : Method} {c : Code} {dC : Nat → ClassId} {dI : Nat → Nat → Nat} {cy : Nat → ClassId} {A : Nat → Prop} (h : Nat → Nat) (post : Int32 → Int32 → Int32 → Int32 → (Nat → Int32) → (Nat → Int32) → (Nat → Int32) → (Nat → Int32) → (Nat → Int32) → Prop)   (t_fed : Int32) (t_at : Int32) (t_rowSize : Int32) (t_steps : Int32) (t_foundMany : Int32) (t_keptMany : Int32) (t_keptLetters : Int32) (t_isFull : Int32) (t_isSaved : Int32) (t_savedKind : Int32) (t_savedExponent : Int32) (t_savedLetters : Int32) (t_savedValues : Nat → Int32) (t_savedWords : Nat → Int32) (t_savedLengths : Nat → Int32) (t_savedImages : Nat → Int32) (t_savedSizes : Nat → Int32)  (C0 : cx p s m args meth c cX11_restoreSnapshot 2 (some .int) wsX11_restoreSnapshot RX11 dC dI cy A)  : ∀ (n : Nat) (t_kind : Int32) (t_exponent : Int32) (t_letters : Int32) (t_values : Nat → Int32) (t_words : Nat → Int32) (t_lengths : Nat → Int32) (t_images : Nat → Int32) (t_imageSizes : Nat → Int32) (x1 : Int32), VX11_restoreSnapshot_36 post t_isSaved t_savedKind t_savedExponent t_savedLetters t_savedValues t_savedWords t_savedLengths t_savedImages t_savedSizes n t_kind t_exponent t_letters t_values t_words t_lengths t_images t_imageSizes x1 → ∀ (H : Heap) (locs : List Loc) (ls : Array Slot), va_P (dC, dI) vwCl (pX11_restoreSnapshot cy h t_kind t_exponent t_letters t_values t_words t_lengths t_images t_imageSizes t_fed t_at t_rowSize t_steps t_foundMany t_keptMany t_keptLetters t_isFull t_isSaved t_savedKind t_savedExponent t_savedLetters t_savedValues t_savedWords t_savedLengths t_savedImages t_savedSizes) H → va_D A (pX11_restoreSnapshot cy h t_kind t_exponent t_letters t_values t_words t_lengths t_images t_imageSizes t_fed t_at t_rowSize t_steps t_foundMany t_keptMany t_keptLetters t_isFull t_isSaved t_savedKind t_savedExponent t_savedLetters t_savedValues t_savedWords t_savedLengths t_savedImages t_savedSizes) → va_S A s.heap H locs → lv_has ls 2 [(0, .ref (h 0)), (1, .int x1)] → W p l e rX11_restoreSnapshot s m args below meth c H locs 0 0 (MQ below (va_Qi (fun (r : Int32) (u : Int32 × Int32 × Int32 × (Nat → Int32) × (Nat → Int32) × (Nat → Int32) × (Nat → Int32) × (Nat → Int32)) => post r u.1 u.2.1 u.2.2.1 u.2.2.2.1 u.2.2.2.2.1 u.2.2.2.2.2.1 u.2.2.2.2.2.2.1 u.2.2.2.2.2.2.2) (fun (u : Int32 × Int32 × Int32 × (Nat → Int32) × (Nat → Int32) × (Nat → Int32) × (Nat → Int32) × (Nat → Int32)) (t : State) => va_P (dC, dI) vwCl (pX11_restoreSnapshot cy h u.1 u.2.1 u.2.2.1 u.2.2.2.1 u.2.2.2.2.1 u.2.2.2.2.2.1 u.2.2.2.2.2.2.1 u.2.2.2.2.2.2.2 t_fed t_at t_rowSize t_steps t_foundMany t_keptMany t_keptLetters t_isFull t_isSaved t_savedKind t_savedExponent t_savedLetters t_savedValues t_savedWords t_savedLengths t_savedImages t_savedSizes) t.heap) A) args s 0 0 A) (F0 m 36 ls []) := by
  have C1 := C0
  obtain ⟨hx, hb, hr, hml, hown, hts, hlocks, hK, hA⟩ := C1
  intro n
  induction n with
  | zero => intro t_kind t_exponent t_letters t_values t_words t_lengths t_images t_imageSizes x1 hv; exact hv.elim
  | succ n ih =>
    intro t_kind t_exponent t_letters t_values t_words t_lengths t_images t_imageSizes x1 hv H locs ls hP hD hS hl
    refine lv_iload_n hx hb dX11_restoreSnapshot_36 rfl (lv_at hl 1 rfl) ?_
    refine lv_bipush (v := 120) hx hb dX11_restoreSnapshot_37 (by decide) ?_
    refine lv_icmp_ge (tgt := 126) hx hb dX11_restoreSnapshot_39 (by decide) (fun c_28 => ?_) (fun c_28 => ?_)
    · have hv := hv.1 c_28
      refine lv_aload_n hx hb dX11_restoreSnapshot_126 rfl (lv_at hl 0 rfl) ?_
      refine cb_VI (As := []) (rest := []) ⟨hx, hb, hml, hown, hts⟩ (kX11_allLetters l dC dI cy (adl [h 0, h 3, h 1, h 2, h 4, h 5, h 11, h 12, h 13, h 14, h 15, h 16, h 17, h 18, h 19, h 20, h 21, h 6, h 7, h 8, h 9, h 10]) t_kind t_exponent t_letters t_lengths t_fed t_at t_rowSize t_steps t_foundMany t_keptMany t_keptLetters t_isFull t_isSaved t_savedKind t_savedExponent t_savedLetters _ hv) (cwV 0 hts gX11_restoreSnapshot_X11_allLetters rfl rfl rfl zX11_allLetters ⟨Nat.le_of_ble_eq_true rfl, Nat.le_of_ble_eq_true rfl⟩) hK hP hD hS hA [0, 3] [some 0, none, none, some 1, none, none, none, none, none, none, none] rfl rfl rfl (ci := 11) rfl rfl (fun _ => rfl) rfl hl.1 rfl (Nat.le_of_ble_eq_true rfl) dX11_restoreSnapshot_127 (fun r_3 w_4 H locs hv hP hD hS => ?_)
      have hP : va_P (dC, dI) vwCl (pX11_restoreSnapshot cy h t_kind t_exponent t_letters t_values t_words t_lengths t_images t_imageSizes t_fed t_at t_rowSize t_steps t_foundMany t_keptMany t_keptLetters t_isFull t_isSaved t_savedKind t_savedExponent t_savedLetters t_savedValues t_savedWords t_savedLengths t_savedImages t_savedSizes) H := hP
      have hD : va_D A (pX11_restoreSnapshot cy h t_kind t_exponent t_letters t_values t_words t_lengths t_images t_imageSizes t_fed t_at t_rowSize t_steps t_foundMany t_keptMany t_keptLetters t_isFull t_isSaved t_savedKind t_savedExponent t_savedLetters t_savedValues t_savedWords t_savedLengths t_savedImages t_savedSizes) := hD
      exact W.iret (v := r_3) hx hb hr (fun t ht hW => ⟨⟨r_3, (t_kind, t_exponent, t_letters, t_values, t_words, t_lengths, t_images, t_imageSizes), rfl, hv, va_Ph ht hP⟩, hS.F ht⟩) hS.2.2 dX11_restoreSnapshot_130
    · have hv := hv.2 c_28
      refine lv_aload_n hx hb dX11_restoreSnapshot_42 rfl (lv_at hl 0 rfl) ?_
      refine va_get (D := (dC, dI)) (ci := 11) (v := .ref (h 2)) (C := RX11) (T := TX11) (N := 36) hx hb hts nX11_restoreSnapshot_X11 hown hK hP 0 rfl rfl 4 (by decide) (hts _ mX11_restoreSnapshot_8) (fun _ h9 => h9) rfl dX11_restoreSnapshot_43 ?_
      refine lv_iload_n hx hb dX11_restoreSnapshot_46 rfl (lv_at hl 1 rfl) ?_
      refine lv_aload_n hx hb dX11_restoreSnapshot_47 rfl (lv_at hl 0 rfl) ?_
      refine va_get (D := (dC, dI)) (ci := 11) (v := .ref (h 7)) (C := RX11) (T := TX11) (N := 36) hx hb hts nX11_restoreSnapshot_X11 hown hK hP 0 rfl rfl 32 (by decide) (hts _ mX11_restoreSnapshot_9) (fun _ h9 => h9) rfl dX11_restoreSnapshot_48 ?_
      refine lv_iload_n hx hb dX11_restoreSnapshot_51 rfl (lv_at hl 1 rfl) ?_
      have h_6 := hv.1
      have hv := hv.2
      refine va_iald hx hb hK hP 7 0 rfl rfl h_6 dX11_restoreSnapshot_52 ?_
      refine lv_topi (fun y_5 ey_5 => ?_)
      have hv := hv y_5 ey_5
      have h_7 := hv.1
      have hv := hv.2
      refine va_iast hx hb hK hP hD hS 2 0 rfl rfl h_7 dX11_restoreSnapshot_53 (fun H locs hP hD hS => ?_)
      have hP : va_P (dC, dI) vwCl (pX11_restoreSnapshot cy h t_kind t_exponent t_letters t_values (upd t_words x1.toNatClampNeg y_5) t_lengths t_images t_imageSizes t_fed t_at t_rowSize t_steps t_foundMany t_keptMany t_keptLetters t_isFull t_isSaved t_savedKind t_savedExponent t_savedLetters t_savedValues t_savedWords t_savedLengths t_savedImages t_savedSizes) H := hP
      have hD : va_D A (pX11_restoreSnapshot cy h t_kind t_exponent t_letters t_values (upd t_words x1.toNatClampNeg y_5) t_lengths t_images t_imageSizes t_fed t_at t_rowSize t_steps t_foundMany t_keptMany t_keptLetters t_isFull t_isSaved t_savedKind t_savedExponent t_savedLetters t_savedValues t_savedWords t_savedLengths t_savedImages t_savedSizes) := hD
      refine lv_aload_n hx hb dX11_restoreSnapshot_54 rfl (lv_at hl 0 rfl) ?_
      refine va_get (D := (dC, dI)) (ci := 11) (v := .ref (h 3)) (C := RX11) (T := TX11) (N := 36) hx hb hts nX11_restoreSnapshot_X11 hown hK hP 0 rfl rfl 5 (by decide) (hts _ mX11_restoreSnapshot_10) (fun _ h9 => h9) rfl dX11_restoreSnapshot_55 ?_
      refine lv_iload_n hx hb dX11_restoreSnapshot_58 rfl (lv_at hl 1 rfl) ?_
      refine lv_iconst (v := 3) hx hb dX11_restoreSnapshot_59 (by decide) ?_
      refine lv_irem hx hb dX11_restoreSnapshot_60 (by decide) ?_
      refine lv_aload_n hx hb dX11_restoreSnapshot_61 rfl (lv_at hl 0 rfl) ?_
      refine va_get (D := (dC, dI)) (ci := 11) (v := .ref (h 8)) (C := RX11) (T := TX11) (N := 36) hx hb hts nX11_restoreSnapshot_X11 hown hK hP 0 rfl rfl 33 (by decide) (hts _ mX11_restoreSnapshot_11) (fun _ h9 => h9) rfl dX11_restoreSnapshot_62 ?_
      refine lv_iload_n hx hb dX11_restoreSnapshot_65 rfl (lv_at hl 1 rfl) ?_
      refine lv_iconst (v := 3) hx hb dX11_restoreSnapshot_66 (by decide) ?_
      refine lv_irem hx hb dX11_restoreSnapshot_67 (by decide) ?_
      have h_11 := hv.1
      have hv := hv.2
      refine va_iald hx hb hK hP 8 0 rfl rfl h_11 dX11_restoreSnapshot_68 ?_
      refine lv_topi (fun y_10 ey_10 => ?_)
      have hv := hv y_10 ey_10
      have h_12 := hv.1
      have hv := hv.2
      refine va_iast hx hb hK hP hD hS 3 0 rfl rfl h_12 dX11_restoreSnapshot_69 (fun H locs hP hD hS => ?_)
      have hP : va_P (dC, dI) vwCl (pX11_restoreSnapshot cy h t_kind t_exponent t_letters t_values (upd t_words x1.toNatClampNeg y_5) (upd t_lengths (x1 - x1 / 3 * 3).toNatClampNeg y_10) t_images t_imageSizes t_fed t_at t_rowSize t_steps t_foundMany t_keptMany t_keptLetters t_isFull t_isSaved t_savedKind t_savedExponent t_savedLetters t_savedValues t_savedWords t_savedLengths t_savedImages t_savedSizes) H := hP
      have hD : va_D A (pX11_restoreSnapshot cy h t_kind t_exponent t_letters t_values (upd t_words x1.toNatClampNeg y_5) (upd t_lengths (x1 - x1 / 3 * 3).toNatClampNeg y_10) t_images t_imageSizes t_fed t_at t_rowSize t_steps t_foundMany t_keptMany t_keptLetters t_isFull t_isSaved t_savedKind t_savedExponent t_savedLetters t_savedValues t_savedWords t_savedLengths t_savedImages t_savedSizes) := hD
      refine lv_aload_n hx hb dX11_restoreSnapshot_70 rfl (lv_at hl 0 rfl) ?_
      refine va_get (D := (dC, dI)) (ci := 11) (v := .ref (h 4)) (C := RX11) (T := TX11) (N := 36) hx hb hts nX11_restoreSnapshot_X11 hown hK hP 0 rfl rfl 6 (by decide) (hts _ mX11_restoreSnapshot_12) (fun _ h9 => h9) rfl dX11_restoreSnapshot_71 ?_
      refine lv_iload_n hx hb dX11_restoreSnapshot_74 rfl (lv_at hl 1 rfl) ?_
      refine lv_bipush (v := 16) hx hb dX11_restoreSnapshot_75 (by decide) ?_
      refine lv_irem hx hb dX11_restoreSnapshot_77 (by decide) ?_
      refine lv_aload_n hx hb dX11_restoreSnapshot_78 rfl (lv_at hl 0 rfl) ?_
      refine va_get (D := (dC, dI)) (ci := 11) (v := .ref (h 9)) (C := RX11) (T := TX11) (N := 36) hx hb hts nX11_restoreSnapshot_X11 hown hK hP 0 rfl rfl 34 (by decide) (hts _ mX11_restoreSnapshot_13) (fun _ h9 => h9) rfl dX11_restoreSnapshot_79 ?_
      refine lv_iload_n hx hb dX11_restoreSnapshot_82 rfl (lv_at hl 1 rfl) ?_
      refine lv_bipush (v := 16) hx hb dX11_restoreSnapshot_83 (by decide) ?_
      refine lv_irem hx hb dX11_restoreSnapshot_85 (by decide) ?_
      have h_16 := hv.1
      have hv := hv.2
      refine va_iald hx hb hK hP 9 0 rfl rfl h_16 dX11_restoreSnapshot_86 ?_
      refine lv_topi (fun y_15 ey_15 => ?_)
      have hv := hv y_15 ey_15
      have h_17 := hv.1
      have hv := hv.2
      refine va_iast hx hb hK hP hD hS 4 0 rfl rfl h_17 dX11_restoreSnapshot_87 (fun H locs hP hD hS => ?_)
      have hP : va_P (dC, dI) vwCl (pX11_restoreSnapshot cy h t_kind t_exponent t_letters t_values (upd t_words x1.toNatClampNeg y_5) (upd t_lengths (x1 - x1 / 3 * 3).toNatClampNeg y_10) (upd t_images (x1 - x1 / 16 * 16).toNatClampNeg y_15) t_imageSizes t_fed t_at t_rowSize t_steps t_foundMany t_keptMany t_keptLetters t_isFull t_isSaved t_savedKind t_savedExponent t_savedLetters t_savedValues t_savedWords t_savedLengths t_savedImages t_savedSizes) H := hP
      have hD : va_D A (pX11_restoreSnapshot cy h t_kind t_exponent t_letters t_values (upd t_words x1.toNatClampNeg y_5) (upd t_lengths (x1 - x1 / 3 * 3).toNatClampNeg y_10) (upd t_images (x1 - x1 / 16 * 16).toNatClampNeg y_15) t_imageSizes t_fed t_at t_rowSize t_steps t_foundMany t_keptMany t_keptLetters t_isFull t_isSaved t_savedKind t_savedExponent t_savedLetters t_savedValues t_savedWords t_savedLengths t_savedImages t_savedSizes) := hD
      refine lv_aload_n hx hb dX11_restoreSnapshot_88 rfl (lv_at hl 0 rfl) ?_
      refine va_get (D := (dC, dI)) (ci := 11) (v := .ref (h 5)) (C := RX11) (T := TX11) (N := 36) hx hb hts nX11_restoreSnapshot_X11 hown hK hP 0 rfl rfl 7 (by decide) (hts _ mX11_restoreSnapshot_14) (fun _ h9 => h9) rfl dX11_restoreSnapshot_89 ?_
      refine lv_iload_n hx hb dX11_restoreSnapshot_92 rfl (lv_at hl 1 rfl) ?_
      refine lv_iconst (v := 4) hx hb dX11_restoreSnapshot_93 (by decide) ?_
      refine lv_irem hx hb dX11_restoreSnapshot_94 (by decide) ?_
      refine lv_aload_n hx hb dX11_restoreSnapshot_95 rfl (lv_at hl 0 rfl) ?_
      refine va_get (D := (dC, dI)) (ci := 11) (v := .ref (h 10)) (C := RX11) (T := TX11) (N := 36) hx hb hts nX11_restoreSnapshot_X11 hown hK hP 0 rfl rfl 35 (by decide) (hts _ mX11_restoreSnapshot_15) (fun _ h9 => h9) rfl dX11_restoreSnapshot_96 ?_
      refine lv_iload_n hx hb dX11_restoreSnapshot_99 rfl (lv_at hl 1 rfl) ?_
      refine lv_iconst (v := 4) hx hb dX11_restoreSnapshot_100 (by decide) ?_
      refine lv_irem hx hb dX11_restoreSnapshot_101 (by decide) ?_
      have h_21 := hv.1
      have hv := hv.2
      refine va_iald hx hb hK hP 10 0 rfl rfl h_21 dX11_restoreSnapshot_102 ?_
      refine lv_topi (fun y_20 ey_20 => ?_)
      have hv := hv y_20 ey_20
      have h_22 := hv.1
      have hv := hv.2
      refine va_iast hx hb hK hP hD hS 5 0 rfl rfl h_22 dX11_restoreSnapshot_103 (fun H locs hP hD hS => ?_)
      have hP : va_P (dC, dI) vwCl (pX11_restoreSnapshot cy h t_kind t_exponent t_letters t_values (upd t_words x1.toNatClampNeg y_5) (upd t_lengths (x1 - x1 / 3 * 3).toNatClampNeg y_10) (upd t_images (x1 - x1 / 16 * 16).toNatClampNeg y_15) (upd t_imageSizes (x1 - x1 / 4 * 4).toNatClampNeg y_20) t_fed t_at t_rowSize t_steps t_foundMany t_keptMany t_keptLetters t_isFull t_isSaved t_savedKind t_savedExponent t_savedLetters t_savedValues t_savedWords t_savedLengths t_savedImages t_savedSizes) H := hP
      have hD : va_D A (pX11_restoreSnapshot cy h t_kind t_exponent t_letters t_values (upd t_words x1.toNatClampNeg y_5) (upd t_lengths (x1 - x1 / 3 * 3).toNatClampNeg y_10) (upd t_images (x1 - x1 / 16 * 16).toNatClampNeg y_15) (upd t_imageSizes (x1 - x1 / 4 * 4).toNatClampNeg y_20) t_fed t_at t_rowSize t_steps t_foundMany t_keptMany t_keptLetters t_isFull t_isSaved t_savedKind t_savedExponent t_savedLetters t_savedValues t_savedWords t_savedLengths t_savedImages t_savedSizes) := hD
      refine lv_aload_n hx hb dX11_restoreSnapshot_104 rfl (lv_at hl 0 rfl) ?_
      refine va_get (D := (dC, dI)) (ci := 11) (v := .ref (h 1)) (C := RX11) (T := TX11) (N := 36) hx hb hts nX11_restoreSnapshot_X11 hown hK hP 0 rfl rfl 3 (by decide) (hts _ mX11_restoreSnapshot_16) (fun _ h9 => h9) rfl dX11_restoreSnapshot_105 ?_
      refine lv_iload_n hx hb dX11_restoreSnapshot_108 rfl (lv_at hl 1 rfl) ?_
      refine lv_iconst (v := 4) hx hb dX11_restoreSnapshot_109 (by decide) ?_
      refine lv_irem hx hb dX11_restoreSnapshot_110 (by decide) ?_
      refine lv_aload_n hx hb dX11_restoreSnapshot_111 rfl (lv_at hl 0 rfl) ?_
      refine va_get (D := (dC, dI)) (ci := 11) (v := .ref (h 6)) (C := RX11) (T := TX11) (N := 36) hx hb hts nX11_restoreSnapshot_X11 hown hK hP 0 rfl rfl 31 (by decide) (hts _ mX11_restoreSnapshot_17) (fun _ h9 => h9) rfl dX11_restoreSnapshot_112 ?_
      refine lv_iload_n hx hb dX11_restoreSnapshot_115 rfl (lv_at hl 1 rfl) ?_
      refine lv_iconst (v := 4) hx hb dX11_restoreSnapshot_116 (by decide) ?_
      refine lv_irem hx hb dX11_restoreSnapshot_117 (by decide) ?_
      have h_26 := hv.1
      have hv := hv.2
      refine va_iald hx hb hK hP 6 0 rfl rfl h_26 dX11_restoreSnapshot_118 ?_
      refine lv_topi (fun y_25 ey_25 => ?_)
      have hv := hv y_25 ey_25
      have h_27 := hv.1
      have hv := hv.2
      refine va_iast hx hb hK hP hD hS 1 0 rfl rfl h_27 dX11_restoreSnapshot_119 (fun H locs hP hD hS => ?_)
      have hP : va_P (dC, dI) vwCl (pX11_restoreSnapshot cy h t_kind t_exponent t_letters (upd t_values (x1 - x1 / 4 * 4).toNatClampNeg y_25) (upd t_words x1.toNatClampNeg y_5) (upd t_lengths (x1 - x1 / 3 * 3).toNatClampNeg y_10) (upd t_images (x1 - x1 / 16 * 16).toNatClampNeg y_15) (upd t_imageSizes (x1 - x1 / 4 * 4).toNatClampNeg y_20) t_fed t_at t_rowSize t_steps t_foundMany t_keptMany t_keptLetters t_isFull t_isSaved t_savedKind t_savedExponent t_savedLetters t_savedValues t_savedWords t_savedLengths t_savedImages t_savedSizes) H := hP
      have hD : va_D A (pX11_restoreSnapshot cy h t_kind t_exponent t_letters (upd t_values (x1 - x1 / 4 * 4).toNatClampNeg y_25) (upd t_words x1.toNatClampNeg y_5) (upd t_lengths (x1 - x1 / 3 * 3).toNatClampNeg y_10) (upd t_images (x1 - x1 / 16 * 16).toNatClampNeg y_15) (upd t_imageSizes (x1 - x1 / 4 * 4).toNatClampNeg y_20) t_fed t_at t_rowSize t_steps t_foundMany t_keptMany t_keptLetters t_isFull t_isSaved t_savedKind t_savedExponent t_savedLetters t_savedValues t_savedWords t_savedLengths t_savedImages t_savedSizes) := hD
      refine lv_iinc (v := (x1 + 1)) (lv' := [(1, .int ((x1 + 1))), (0, .ref (h 0))]) hx hb dX11_restoreSnapshot_120 hl (k := 1) rfl rfl (by decide) rfl (fun ls hl => ?_)
      refine lv_goto (tgt := 36) hx hb dX11_restoreSnapshot_123 (by decide) ?_
      exact ih t_kind t_exponent t_letters (upd t_values (x1 - x1 / 4 * 4).toNatClampNeg y_25) (upd t_words x1.toNatClampNeg y_5) (upd t_lengths (x1 - x1 / 3 * 3).toNatClampNeg y_10) (upd t_images (x1 - x1 / 16 * 16).toNatClampNeg y_15) (upd t_imageSizes (x1 - x1 / 4 * 4).toNatClampNeg y_20) (x1 + 1) hv _ _ _ hP hD hS (lv_sub hl [1, 0] rfl)
set_option maxHeartbeats 4000000 in
set_option maxRecDepth 100000 in
theorem wX11_restoreSnapshot_0 {p : Program} (l : Launch) {e : Env} {s : State} {m : MethodId} {args : Array Value} {below : List Frame} {meth : Method} {c : Code} {dC : Nat → ClassId} {dI : Nat → Nat → Nat} {cy : Nat → ClassId} {A : Nat → Prop} (h : Nat → Nat) (post : Int32 → Int32 → Int32 → Int32 → (Nat → Int32) → (Nat → Int32) → (Nat → Int32) → (Nat → Int32) → (Nat → Int32) → Prop)   (t_fed : Int32) (t_at : Int32) (t_rowSize : Int32) (t_steps : Int32) (t_foundMany : Int32) (t_keptMany : Int32) (t_keptLetters : Int32) (t_isFull : Int32) (t_isSaved : Int32) (t_savedKind : Int32) (t_savedExponent : Int32) (t_savedLetters : Int32) (t_savedValues : Nat → Int32) (t_savedWords : Nat → Int32) (t_savedLengths : Nat → Int32) (t_savedImages : Nat → Int32) (t_savedSizes : Nat → Int32)  (C0 : cx p s m args meth c cX11_restoreSnapshot 2 (some .int) wsX11_restoreSnapshot RX11 dC dI cy A)  : ∀ (t_kind : Int32) (t_exponent : Int32) (t_letters : Int32) (t_values : Nat → Int32) (t_words : Nat → Int32) (t_lengths : Nat → Int32) (t_images : Nat → Int32) (t_imageSizes : Nat → Int32), VX11_restoreSnapshot post t_isSaved t_savedKind t_savedExponent t_savedLetters t_savedValues t_savedWords t_savedLengths t_savedImages t_savedSizes t_kind t_exponent t_letters t_values t_words t_lengths t_images t_imageSizes → ∀ (H : Heap) (locs : List Loc) (ls : Array Slot), va_P (dC, dI) vwCl (pX11_restoreSnapshot cy h t_kind t_exponent t_letters t_values t_words t_lengths t_images t_imageSizes t_fed t_at t_rowSize t_steps t_foundMany t_keptMany t_keptLetters t_isFull t_isSaved t_savedKind t_savedExponent t_savedLetters t_savedValues t_savedWords t_savedLengths t_savedImages t_savedSizes) H → va_D A (pX11_restoreSnapshot cy h t_kind t_exponent t_letters t_values t_words t_lengths t_images t_imageSizes t_fed t_at t_rowSize t_steps t_foundMany t_keptMany t_keptLetters t_isFull t_isSaved t_savedKind t_savedExponent t_savedLetters t_savedValues t_savedWords t_savedLengths t_savedImages t_savedSizes) → va_S A s.heap H locs → lv_has ls 2 [(0, .ref (h 0))] → W p l e rX11_restoreSnapshot s m args below meth c H locs 0 0 (MQ below (va_Qi (fun (r : Int32) (u : Int32 × Int32 × Int32 × (Nat → Int32) × (Nat → Int32) × (Nat → Int32) × (Nat → Int32) × (Nat → Int32)) => post r u.1 u.2.1 u.2.2.1 u.2.2.2.1 u.2.2.2.2.1 u.2.2.2.2.2.1 u.2.2.2.2.2.2.1 u.2.2.2.2.2.2.2) (fun (u : Int32 × Int32 × Int32 × (Nat → Int32) × (Nat → Int32) × (Nat → Int32) × (Nat → Int32) × (Nat → Int32)) (t : State) => va_P (dC, dI) vwCl (pX11_restoreSnapshot cy h u.1 u.2.1 u.2.2.1 u.2.2.2.1 u.2.2.2.2.1 u.2.2.2.2.2.1 u.2.2.2.2.2.2.1 u.2.2.2.2.2.2.2 t_fed t_at t_rowSize t_steps t_foundMany t_keptMany t_keptLetters t_isFull t_isSaved t_savedKind t_savedExponent t_savedLetters t_savedValues t_savedWords t_savedLengths t_savedImages t_savedSizes) t.heap) A) args s 0 0 A) (F0 m 0 ls []) := by
  have C1 := C0
  obtain ⟨hx, hb, hr, hml, hown, hts, hlocks, hK, hA⟩ := C1
  intro t_kind t_exponent t_letters t_values t_words t_lengths t_images t_imageSizes hv H locs ls hP hD hS hl
  refine lv_aload_n hx hb dX11_restoreSnapshot_0 rfl (lv_at hl 0 rfl) ?_
  refine va_get (D := (dC, dI)) (ci := 11) (v := .int t_isSaved) (C := RX11) (T := TX11) (N := 36) hx hb hts nX11_restoreSnapshot_X11 hown hK hP 0 rfl rfl 27 (by decide) (hts _ mX11_restoreSnapshot_1) (fun _ h9 => h9) rfl dX11_restoreSnapshot_1 ?_
  refine lv_if_ne (tgt := 10) hx hb dX11_restoreSnapshot_4 (by decide) (fun c_2 => ?_) (fun c_2 => ?_)
  · have hv := hv.1 c_2
    refine lv_aload_n hx hb dX11_restoreSnapshot_10 rfl (lv_at hl 0 rfl) ?_
    refine lv_aload_n hx hb dX11_restoreSnapshot_11 rfl (lv_at hl 0 rfl) ?_
    refine va_get (D := (dC, dI)) (ci := 11) (v := .int t_savedKind) (C := RX11) (T := TX11) (N := 36) hx hb hts nX11_restoreSnapshot_X11 hown hK hP 0 rfl rfl 28 (by decide) (hts _ mX11_restoreSnapshot_2) (fun _ h9 => h9) rfl dX11_restoreSnapshot_12 ?_
    refine va_put (D := (dC, dI)) (ci := 11) (v := .int t_savedKind) (ty := .int) (C := RX11) (T := TX11) (N := 36) hx hb hts nX11_restoreSnapshot_X11 tyX11 tyX11_ok nmX11 hown hK hP hD hS 0 rfl rfl 0 (by decide) (hts _ mX11_restoreSnapshot_3) (fun _ h9 => h9) rfl (by decide +kernel) rfl rfl (Nat.le_of_ble_eq_true rfl) dX11_restoreSnapshot_15 (fun H locs hP hD hS => ?_)
    have hP : va_P (dC, dI) vwCl (pX11_restoreSnapshot cy h t_savedKind t_exponent t_letters t_values t_words t_lengths t_images t_imageSizes t_fed t_at t_rowSize t_steps t_foundMany t_keptMany t_keptLetters t_isFull t_isSaved t_savedKind t_savedExponent t_savedLetters t_savedValues t_savedWords t_savedLengths t_savedImages t_savedSizes) H := hP
    have hD : va_D A (pX11_restoreSnapshot cy h t_savedKind t_exponent t_letters t_values t_words t_lengths t_images t_imageSizes t_fed t_at t_rowSize t_steps t_foundMany t_keptMany t_keptLetters t_isFull t_isSaved t_savedKind t_savedExponent t_savedLetters t_savedValues t_savedWords t_savedLengths t_savedImages t_savedSizes) := hD
    refine lv_aload_n hx hb dX11_restoreSnapshot_18 rfl (lv_at hl 0 rfl) ?_
    refine lv_aload_n hx hb dX11_restoreSnapshot_19 rfl (lv_at hl 0 rfl) ?_
    refine va_get (D := (dC, dI)) (ci := 11) (v := .int t_savedExponent) (C := RX11) (T := TX11) (N := 36) hx hb hts nX11_restoreSnapshot_X11 hown hK hP 0 rfl rfl 29 (by decide) (hts _ mX11_restoreSnapshot_4) (fun _ h9 => h9) rfl dX11_restoreSnapshot_20 ?_
    refine va_put (D := (dC, dI)) (ci := 11) (v := .int t_savedExponent) (ty := .int) (C := RX11) (T := TX11) (N := 36) hx hb hts nX11_restoreSnapshot_X11 tyX11 tyX11_ok nmX11 hown hK hP hD hS 0 rfl rfl 1 (by decide) (hts _ mX11_restoreSnapshot_5) (fun _ h9 => h9) rfl (by decide +kernel) rfl rfl (Nat.le_of_ble_eq_true rfl) dX11_restoreSnapshot_23 (fun H locs hP hD hS => ?_)
    have hP : va_P (dC, dI) vwCl (pX11_restoreSnapshot cy h t_savedKind t_savedExponent t_letters t_values t_words t_lengths t_images t_imageSizes t_fed t_at t_rowSize t_steps t_foundMany t_keptMany t_keptLetters t_isFull t_isSaved t_savedKind t_savedExponent t_savedLetters t_savedValues t_savedWords t_savedLengths t_savedImages t_savedSizes) H := hP
    have hD : va_D A (pX11_restoreSnapshot cy h t_savedKind t_savedExponent t_letters t_values t_words t_lengths t_images t_imageSizes t_fed t_at t_rowSize t_steps t_foundMany t_keptMany t_keptLetters t_isFull t_isSaved t_savedKind t_savedExponent t_savedLetters t_savedValues t_savedWords t_savedLengths t_savedImages t_savedSizes) := hD
    refine lv_aload_n hx hb dX11_restoreSnapshot_26 rfl (lv_at hl 0 rfl) ?_
    refine lv_aload_n hx hb dX11_restoreSnapshot_27 rfl (lv_at hl 0 rfl) ?_
    refine va_get (D := (dC, dI)) (ci := 11) (v := .int t_savedLetters) (C := RX11) (T := TX11) (N := 36) hx hb hts nX11_restoreSnapshot_X11 hown hK hP 0 rfl rfl 30 (by decide) (hts _ mX11_restoreSnapshot_6) (fun _ h9 => h9) rfl dX11_restoreSnapshot_28 ?_
    refine va_put (D := (dC, dI)) (ci := 11) (v := .int t_savedLetters) (ty := .int) (C := RX11) (T := TX11) (N := 36) hx hb hts nX11_restoreSnapshot_X11 tyX11 tyX11_ok nmX11 hown hK hP hD hS 0 rfl rfl 2 (by decide) (hts _ mX11_restoreSnapshot_7) (fun _ h9 => h9) rfl (by decide +kernel) rfl rfl (Nat.le_of_ble_eq_true rfl) dX11_restoreSnapshot_31 (fun H locs hP hD hS => ?_)
    have hP : va_P (dC, dI) vwCl (pX11_restoreSnapshot cy h t_savedKind t_savedExponent t_savedLetters t_values t_words t_lengths t_images t_imageSizes t_fed t_at t_rowSize t_steps t_foundMany t_keptMany t_keptLetters t_isFull t_isSaved t_savedKind t_savedExponent t_savedLetters t_savedValues t_savedWords t_savedLengths t_savedImages t_savedSizes) H := hP
    have hD : va_D A (pX11_restoreSnapshot cy h t_savedKind t_savedExponent t_savedLetters t_values t_words t_lengths t_images t_imageSizes t_fed t_at t_rowSize t_steps t_foundMany t_keptMany t_keptLetters t_isFull t_isSaved t_savedKind t_savedExponent t_savedLetters t_savedValues t_savedWords t_savedLengths t_savedImages t_savedSizes) := hD
    refine lv_iconst (v := 0) hx hb dX11_restoreSnapshot_34 (by decide) ?_
    refine lv_istore_n (lv' := [(1, .int 0), (0, .ref (h 0))]) hx hb dX11_restoreSnapshot_35 rfl hl (by decide) rfl (fun ls hl => ?_)
    obtain ⟨n_1, hv⟩ := hv
    exact wX11_restoreSnapshot_36 l h post  t_fed t_at t_rowSize t_steps t_foundMany t_keptMany t_keptLetters t_isFull t_isSaved t_savedKind t_savedExponent t_savedLetters t_savedValues t_savedWords t_savedLengths t_savedImages t_savedSizes C0 n_1 t_savedKind t_savedExponent t_savedLetters t_values t_words t_lengths t_images t_imageSizes 0 hv _ _ _ hP hD hS (lv_sub hl [1, 0] rfl)
  · have hv := hv.2 c_2
    refine lv_bipush (v := (-2)) hx hb dX11_restoreSnapshot_7 (by decide) ?_
    exact W.iret (v := (-2)) hx hb hr (fun t ht hW => ⟨⟨(-2), (t_kind, t_exponent, t_letters, t_values, t_words, t_lengths, t_images, t_imageSizes), rfl, hv, va_Ph ht hP⟩, hS.F ht⟩) hS.2.2 dX11_restoreSnapshot_9
theorem kX11_restoreSnapshot (l : Launch) (dC : Nat → ClassId) (dI : Nat → Nat → Nat) (cy : Nat → ClassId) (h : Nat → Nat) (t_kind : Int32) (t_exponent : Int32) (t_letters : Int32) (t_values : Nat → Int32) (t_words : Nat → Int32) (t_lengths : Nat → Int32) (t_images : Nat → Int32) (t_imageSizes : Nat → Int32) (t_fed : Int32) (t_at : Int32) (t_rowSize : Int32) (t_steps : Int32) (t_foundMany : Int32) (t_keptMany : Int32) (t_keptLetters : Int32) (t_isFull : Int32) (t_isSaved : Int32) (t_savedKind : Int32) (t_savedExponent : Int32) (t_savedLetters : Int32) (t_savedValues : Nat → Int32) (t_savedWords : Nat → Int32) (t_savedLengths : Nat → Int32) (t_savedImages : Nat → Int32) (t_savedSizes : Nat → Int32)  (post : Int32 → Int32 → Int32 → Int32 → (Nat → Int32) → (Nat → Int32) → (Nat → Int32) → (Nat → Int32) → (Nat → Int32) → Prop) (hv : VX11_restoreSnapshot post t_isSaved t_savedKind t_savedExponent t_savedLetters t_savedValues t_savedWords t_savedLengths t_savedImages t_savedSizes t_kind t_exponent t_letters t_values t_words t_lengths t_images t_imageSizes) : CtI l yX11_restoreSnapshot wsX11_restoreSnapshot rX11_restoreSnapshot dC dI cy [.ref (h 0)] (pX11_restoreSnapshot cy h t_kind t_exponent t_letters t_values t_words t_lengths t_images t_imageSizes t_fed t_at t_rowSize t_steps t_foundMany t_keptMany t_keptLetters t_isFull t_isSaved t_savedKind t_savedExponent t_savedLetters t_savedValues t_savedWords t_savedLengths t_savedImages t_savedSizes) (fun (u : Int32 × Int32 × Int32 × (Nat → Int32) × (Nat → Int32) × (Nat → Int32) × (Nat → Int32) × (Nat → Int32)) => pX11_restoreSnapshot cy h u.1 u.2.1 u.2.2.1 u.2.2.2.1 u.2.2.2.2.1 u.2.2.2.2.2.1 u.2.2.2.2.2.2.1 u.2.2.2.2.2.2.2 t_fed t_at t_rowSize t_steps t_foundMany t_keptMany t_keptLetters t_isFull t_isSaved t_savedKind t_savedExponent t_savedLetters t_savedValues t_savedWords t_savedLengths t_savedImages t_savedSizes) (fun (r : Int32) (u : Int32 × Int32 × Int32 × (Nat → Int32) × (Nat → Int32) × (Nat → Int32) × (Nat → Int32) × (Nat → Int32)) => post r u.1 u.2.1 u.2.2.1 u.2.2.2.1 u.2.2.2.2.1 u.2.2.2.2.2.1 u.2.2.2.2.2.2.1 u.2.2.2.2.2.2.2) :=
  ct_ofI (by decide) rfl (Nat.le_of_ble_eq_true rfl) (fun p e s m below meth c A ls C0 hP hD hS hl => wX11_restoreSnapshot_0 l h post t_fed t_at t_rowSize t_steps t_foundMany t_keptMany t_keptLetters t_isFull t_isSaved t_savedKind t_savedExponent t_savedLetters t_savedValues t_savedWords t_savedLengths t_savedImages t_savedSizes C0 t_kind t_exponent t_letters t_values t_words t_lengths t_images t_imageSizes hv _ _ _ hP hD hS hl)
