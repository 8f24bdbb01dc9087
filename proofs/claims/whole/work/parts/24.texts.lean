/-! TEXTS: the four String constants, and the JDK's members over them -/
def lenJ : List Nat := [6, 8, 9, 6]
def bytJ : List (List Int32) := [[101, 113, 117, 97, 108, 32], [97, 98, 101, 108, 105, 97, 110, 32], [97, 100, 100, 105, 116, 105, 118, 101, 32], [109, 105, 120, 101, 100, 32]]
def chJ (i k : Nat) : Int32 := (bytJ.getD i []).getD k 0
theorem chJ_ok : ∀ i, i < 4 → ∀ k, k < lenJ.getD i 0 → ((chJ i k &&& 255).toUInt32 % 65536).toInt32 = chJ i k := by decide +kernel
def JS (adK adV : Nat → Nat) (A : Nat → Prop) (U : State) (H : Heap) : Prop := vk_S 4 lenJ bytJ adK adV A U H ∧ va_Z "java/lang/String" "COMPACT_STRINGS" "Z" (.int 1) A U H ∧ va_Zq "jdk/internal/util/Preconditions" "SIOOBE_FORMATTER" "Ljava/util/function/BiFunction;" A U H ∧ vk_R RX1 23 "equal " (adK 0) U ∧ vk_R RX1 25 "abelian " (adK 1) U ∧ vk_R RX1 27 "additive " (adK 2) U ∧ vk_R RX1 29 "mixed " (adK 3) U
section
variable {adK adV : Nat → Nat} {A B : Nat → Prop} {s U : State} {H H1 : Heap}
theorem JS.warm (hW : s.WarmedH U.vm) (h : JS adK adV A s H) : JS adK adV A U H := ⟨h.1.moved hW.alike, h.2.1.moved hW.alike, h.2.2.1.moved hW.alike, h.2.2.2.1.warm hW, h.2.2.2.2.1.warm hW, h.2.2.2.2.2.1.warm hW, h.2.2.2.2.2.2.warm hW⟩
theorem JS.call {g : JFrame} {mk : MethodId} {a : Array Value} (h : JS adK adV A U H) : JS adK adV A (U.calling g mk a) H := ⟨h.1.moved (u := U) (U := U.calling g mk a) (Vm.Alike.refl U.vm), h.2.1.moved (u := U) (U := U.calling g mk a) (Vm.Alike.refl U.vm), h.2.2.1.moved (u := U) (U := U.calling g mk a) (Vm.Alike.refl U.vm), h.2.2.2.1.same rfl, h.2.2.2.2.1.same rfl, h.2.2.2.2.2.1.same rfl, h.2.2.2.2.2.2.same rfl⟩
theorem JS.kept (h : JS adK adV A U H) (hq : ∀ a : Nat, a < H.size → ¬ A a → H1[a]? = H[a]?) : JS adK adV A U H1 := ⟨h.1.kept hq, h.2.1.kept hq, h.2.2.1.kept hq, h.2.2.2⟩
theorem JS.narrow (h : JS adK adV A U H) (hAB : ∀ q, B q → A q) : JS adK adV B U H := ⟨h.1.narrow hAB, h.2.1.narrow hAB, h.2.2.1.narrow hAB, h.2.2.2⟩
end
abbrev CtJI (l : Launch) (y : MethodName) (ws : List Cond) (rm : Room) (dC : Nat → ClassId) (dI : Nat → Nat → Nat) (cy : Nat → ClassId) (adK adV : Nat → Nat) (av : List Value) (pic : va_W) {S : Type} (pic' : S → va_W) (post : Int32 → S → Prop) : Prop := ∀ sz : Nat, Met l y ws rm (va_Pc av (fun U => Ct0 dC dI cy pic sz U ∧ JS adK adV (va_A pic sz) U U.heap)) (va_Qi post (fun u t => va_P (dC, dI) vwCl (pic' u) t.heap) (va_A pic sz)) 0 0 (va_A pic sz)
abbrev CtJV (l : Launch) (y : MethodName) (ws : List Cond) (rm : Room) (dC : Nat → ClassId) (dI : Nat → Nat → Nat) (cy : Nat → ClassId) (adK adV : Nat → Nat) (av : List Value) (pic : va_W) {S : Type} (pic' : S → va_W) (post : S → Prop) : Prop := ∀ sz : Nat, Met l y ws rm (va_Pc av (fun U => Ct0 dC dI cy pic sz U ∧ JS adK adV (va_A pic sz) U U.heap)) (va_Qv post (fun u t => va_P (dC, dI) vwCl (pic' u) t.heap) (va_A pic sz)) 0 0 (va_A pic sz)
abbrev CtJR (l : Launch) (y : MethodName) (ws : List Cond) (rm : Room) (dC : Nat → ClassId) (dI : Nat → Nat → Nat) (cy : Nat → ClassId) (adK adV : Nat → Nat) (av : List Value) (pic : va_W) (post : Nat → Prop) : Prop := ∀ sz : Nat, Met l y ws rm (va_Pc av (fun U => Ct0 dC dI cy pic sz U ∧ JS adK adV (va_A pic sz) U U.heap)) (va_Qr post (fun i a t => a = adK i ∧ va_P (dC, dI) vwCl pic t.heap) (va_A pic sz)) 0 0 (va_A pic sz)
section
variable {l : Launch} {y : MethodName} {ws ws' : List Cond} {rm : Room} {dC : Nat → ClassId} {dI : Nat → Nat → Nat} {cy : Nat → ClassId} {adK adV : Nat → Nat} {av : List Value} {pic : va_W} {cc : ByteArray} {maxL : Nat}
theorem ct_ofJ {Qc : Nat → Array Value → State → Outcome → State → Prop} {Q1 : (Nat → Prop) → Array Value → State → Outcome → State → Prop} {ret : Option FieldType} (hQ : ∀ sz, Qc sz = Q1 (va_A pic sz)) (hy : plainName y.cls = true) (hw : ws = Cond.code y cc maxL ret :: ws') (hav : (lg_sl av).length ≤ maxL)
    (body : ∀ (p : Program) (e : Env) (s : State) (m : MethodId) (below : List Frame) (meth : Method) (c : Code) (A : Nat → Prop) (ls : Array Slot), cx p s m av.toArray meth c cc maxL ret ws y.cls dC dI cy A → JS adK adV A s s.heap → va_P (dC, dI) vwCl pic s.heap → va_D A pic → va_S A s.heap s.heap [] → lv_has ls maxL (lv_args 0 av) →
      W p l e rm s m av.toArray below meth c s.heap [] 0 0 (MQ below (Q1 A) av.toArray s 0 0 A) (F0 m 0 ls [])) : ∀ sz : Nat, Met l y ws rm (va_Pc av (fun U => Ct0 dC dI cy pic sz U ∧ JS adK adV (va_A pic sz) U U.heap)) (Qc sz) 0 0 (va_A pic sz) := by
  intro sz
  refine Met.ofW (cc := cc) (maxL := maxL) (ret := ret) hy hw ?_
  intro p e s m args below meth c s₁ B hml hv
  obtain ⟨rfl, ⟨hsz, hP, hK, hD0⟩, hJ⟩ := hv
  subst hsz
  rw [hQ]
  have hl := lv_entry av (n := maxL) hav
  rw [lg_entry_eq]
  exact body p e s m below meth c (va_A pic s.heap.size) _ ⟨B.exec, B.bytes, B.returns, hml, findClass_of_methodNamed B.named, atoms_spec (ws := ws) B.pre, B.notSynchronized, hK, fun q h => Or.inr h⟩ hJ hP hD0.self va_S.rf hl
end
section
variable {p : Program} {l : Launch} {e : Env} {R : Room} {s : State} {m : MethodId} {args : Array Value} {below : List Frame} {meth : Method} {c : Code} {H : Heap} {locs : List Loc} {cells slots : Nat} {Q : State → Prop} {dC : Nat → ClassId} {dI : Nat → Nat → Nat} {cy : Nat → ClassId} {adK adV : Nat → Nat} {A : Nat → Prop}
variable {y : MethodName} {bytes cc : ByteArray} {maxL nL n index : Nat} {ret : Option FieldType} {ws : List Cond} {rm : Room} {Ts : List Cond} {own C : String} {b : Addr} {As rest st : List Value} {pc : Nat} {ls : Array Slot} {pic wc : va_W} {S : Type} {pc' : S → va_W}
theorem cj_pre (hJ : JS adK adV A s s.heap) (hK : va_K (dC, dI) vwCl (vTy cy) s) (hP : va_P (dC, dI) vwCl pic H) (hD : va_D A pic) (hS : va_S A s.heap H locs) (hA : ∀ q : Nat, s.heap.size ≤ q → A q) {isC : List Nat} (hC : isC.map (fun i => pic[i]?) = wc.map some) (hnd : va_nd isC = true) (U : State) (hU : U.heap = H) (hW : s.WarmedH U.vm) : Ct0 dC dI cy wc H.size U ∧ JS adK adV (va_A wc H.size) U U.heap :=
  ⟨⟨by rw [hU], by rw [hU]; exact my_sub hP hC, va_K.moved hW.alike hK, (hD.sub isC hnd hC).weaken (fun _ _ _ _ => trivial)⟩, by rw [hU]; exact ((hJ.kept hS.2.1).warm hW).narrow (va_free hD hS hA isC hC)⟩
theorem cj_blind (av : List Value) (wc : va_W) (sz : Nat) : FrameBlind (va_Pc av (fun U => Ct0 dC dI cy wc sz U ∧ JS adK adV (va_A wc sz) U U.heap)) := fun a U g mk q => by
  obtain ⟨q0, ⟨q1, qP, qK, qD⟩, qJ⟩ := q
  exact ⟨q0, ⟨q1, qP, va_K.moved (u := U) (U := U.calling g mk a) (Vm.Alike.refl U.vm) qK, qD⟩, qJ.call⟩
/-- invokevirtual of a method over texts, an int comes back -/
theorem cj_VI {post : Int32 → S → Prop} (Sx : CallFix p m c cc nL s args Ts own) (hM : CtJI l y ws rm dC dI cy adK adV (.ref b :: As) wc pc' post) (cw : CallW R s args own C index y bytes maxL ret ws rm 0 0 n)
    (hJ : JS adK adV A s s.heap) (hK : va_K (dC, dI) vwCl (vTy cy) s) (hP : va_P (dC, dI) vwCl pic H) (hD : va_D A pic) (hS : va_S A s.heap H locs) (hA : ∀ q : Nat, s.heap.size ≤ q → A q)
    (isC : List Nat) (ms : List (Option Nat)) (hms : chk isC ms = true) (hC : isC.map (fun i => pic[i]?) = wc.map some) (hnd : va_nd isC = true) (hrecv : ∃ cellB : Cell, H[b]? = some cellB ∧ cellB.vm.isStatics = false ∧ s.vm.findClass C = some cellB.cls) (had : ∀ u, (pc' u).map (fun q => q.1) = wc.map (fun q => q.1))
    (hn : As.length = n) (hsize : ls.size = nL) (hst : st = As.reverse ++ .ref b :: rest) (hrest : (rest.map fun v => v.category).sum ≤ 8) (hcz : cells ≤ R.cells) (hsz : slots ≤ R.slots) (hdg : decode cc pc = .ok (.invokevirtual index, 3))
    (kk : ∀ (r : Int32) (u : S) (H1 : Heap) (locs1 : List Loc), post r u → va_P (dC, dI) vwCl (bld pic (pc' u) ms) H1 → va_D A (bld pic (pc' u) ms) → va_S A s.heap H1 locs1 → W p l e R s m args below meth c H1 locs1 cells slots Q (F0 m (pc + 3) ls (.int r :: rest))) :
    W p l e R s m args below meth c H locs cells slots Q (F0 m pc ls st) := by
  have hF := va_free hD hS hA isC hC
  refine va_calli (va_runV (As := As) (rest := rest) Sx (hM H.size) cw ⟨cj_blind _ wc H.size, hrecv, fun U hU hW => ⟨rfl, cj_pre hJ hK hP hD hS hA hC hnd U hU hW⟩⟩ rfl hn hsize hst (lv_room (m := m) (pc := pc) (ls := ls) (rest := st) hrest) hdg ⟨hcz, hsz⟩) hS (fun q _ h => hF q h) hF (fun r u t H1 locs1 ht hvm hw hB hz hk hS1 => ?_)
  rw [ht] at hB
  obtain ⟨hP2, hD2⟩ := my_joinB hP hD hC hms hk hB (had u)
  exact kk r u H1 locs1 hw hP2 hD2 hS1
theorem cj_SI {post : Int32 → S → Prop} (Sx : CallFix p m c cc nL s args Ts own) (hM : CtJI l y ws rm dC dI cy adK adV As wc pc' post) (cw : CallB R s args own index y bytes maxL ret ws rm 0 0 n ∧ (Cond.static y).before args s = true)
    (hJ : JS adK adV A s s.heap) (hK : va_K (dC, dI) vwCl (vTy cy) s) (hP : va_P (dC, dI) vwCl pic H) (hD : va_D A pic) (hS : va_S A s.heap H locs) (hA : ∀ q : Nat, s.heap.size ≤ q → A q)
    (isC : List Nat) (ms : List (Option Nat)) (hms : chk isC ms = true) (hC : isC.map (fun i => pic[i]?) = wc.map some) (hnd : va_nd isC = true) (had : ∀ u, (pc' u).map (fun q => q.1) = wc.map (fun q => q.1))
    (hn : As.length = n) (hsize : ls.size = nL) (hst : st = As.reverse ++ rest) (hrest : (rest.map fun v => v.category).sum ≤ 8) (hcz : cells ≤ R.cells) (hsz : slots ≤ R.slots) (hdg : decode cc pc = .ok (.invokestatic index, 3))
    (kk : ∀ (r : Int32) (u : S) (H1 : Heap) (locs1 : List Loc), post r u → va_P (dC, dI) vwCl (bld pic (pc' u) ms) H1 → va_D A (bld pic (pc' u) ms) → va_S A s.heap H1 locs1 → W p l e R s m args below meth c H1 locs1 cells slots Q (F0 m (pc + 3) ls (.int r :: rest))) :
    W p l e R s m args below meth c H locs cells slots Q (F0 m pc ls st) := by
  have hF := va_free hD hS hA isC hC
  refine va_calli (va_runS (As := As) (rest := rest) Sx (hM H.size) cw ⟨cj_blind _ wc H.size, fun U hU hW => ⟨rfl, cj_pre hJ hK hP hD hS hA hC hnd U hU hW⟩⟩ rfl hn hsize hst (lv_room (m := m) (pc := pc) (ls := ls) (rest := st) hrest) hdg ⟨hcz, hsz⟩) hS (fun q _ h => hF q h) hF (fun r u t H1 locs1 ht hvm hw hB hz hk hS1 => ?_)
  rw [ht] at hB
  obtain ⟨hP2, hD2⟩ := my_joinB hP hD hC hms hk hB (had u)
  exact kk r u H1 locs1 hw hP2 hD2 hS1
theorem cj_SV {post : S → Prop} (Sx : CallFix p m c cc nL s args Ts own) (hM : CtJV l y ws rm dC dI cy adK adV As wc pc' post) (cw : CallB R s args own index y bytes maxL ret ws rm 0 0 n ∧ (Cond.static y).before args s = true)
    (hJ : JS adK adV A s s.heap) (hK : va_K (dC, dI) vwCl (vTy cy) s) (hP : va_P (dC, dI) vwCl pic H) (hD : va_D A pic) (hS : va_S A s.heap H locs) (hA : ∀ q : Nat, s.heap.size ≤ q → A q)
    (isC : List Nat) (ms : List (Option Nat)) (hms : chk isC ms = true) (hC : isC.map (fun i => pic[i]?) = wc.map some) (hnd : va_nd isC = true) (had : ∀ u, (pc' u).map (fun q => q.1) = wc.map (fun q => q.1))
    (hn : As.length = n) (hsize : ls.size = nL) (hst : st = As.reverse ++ rest) (hrest : (rest.map fun v => v.category).sum ≤ 8) (hcz : cells ≤ R.cells) (hsz : slots ≤ R.slots) (hdg : decode cc pc = .ok (.invokestatic index, 3))
    (kk : ∀ (u : S) (H1 : Heap) (locs1 : List Loc), post u → va_P (dC, dI) vwCl (bld pic (pc' u) ms) H1 → va_D A (bld pic (pc' u) ms) → va_S A s.heap H1 locs1 → W p l e R s m args below meth c H1 locs1 cells slots Q (F0 m (pc + 3) ls rest)) :
    W p l e R s m args below meth c H locs cells slots Q (F0 m pc ls st) := by
  have hF := va_free hD hS hA isC hC
  refine va_callv (va_runS (As := As) (rest := rest) Sx (hM H.size) cw ⟨cj_blind _ wc H.size, fun U hU hW => ⟨rfl, cj_pre hJ hK hP hD hS hA hC hnd U hU hW⟩⟩ rfl hn hsize hst (lv_room (m := m) (pc := pc) (ls := ls) (rest := st) hrest) hdg ⟨hcz, hsz⟩) hS (fun q _ h => hF q h) hF (fun u t H1 locs1 ht hvm hw hB hz hk hS1 => ?_)
  rw [ht] at hB
  obtain ⟨hP2, hD2⟩ := my_joinB hP hD hC hms hk hB (had u)
  exact kk u H1 locs1 hw hP2 hD2 hS1
/-- kindText: a text comes back -/
theorem cj_SR {post : Nat → Prop} (Sx : CallFix p m c cc nL s args Ts own) (hM : CtJR l y ws rm dC dI cy adK adV As [] post) (cw : CallB R s args own index y bytes maxL ret ws rm 0 0 n ∧ (Cond.static y).before args s = true)
    (hJ : JS adK adV A s s.heap) (hK : va_K (dC, dI) vwCl (vTy cy) s) (hP : va_P (dC, dI) vwCl pic H) (hD : va_D A pic) (hS : va_S A s.heap H locs) (hA : ∀ q : Nat, s.heap.size ≤ q → A q)
    (hn : As.length = n) (hsize : ls.size = nL) (hst : st = As.reverse ++ rest) (hrest : (rest.map fun v => v.category).sum ≤ 8) (hcz : cells ≤ R.cells) (hsz : slots ≤ R.slots) (hdg : decode cc pc = .ok (.invokestatic index, 3))
    (kk : ∀ (i : Nat) (H1 : Heap) (locs1 : List Loc), post i → va_P (dC, dI) vwCl pic H1 → va_S A s.heap H1 locs1 → W p l e R s m args below meth c H1 locs1 cells slots Q (F0 m (pc + 3) ls (.ref (adK i) :: rest))) :
    W p l e R s m args below meth c H locs cells slots Q (F0 m pc ls st) := by
  have hC : ([] : List Nat).map (fun i => pic[i]?) = ([] : va_W).map some := rfl
  have hF := va_free hD hS hA [] hC
  refine va_callr (va_runS (As := As) (rest := rest) Sx (hM H.size) cw ⟨cj_blind _ [] H.size, fun U hU hW => ⟨rfl, cj_pre hJ hK hP hD hS hA hC rfl U hU hW⟩⟩ rfl hn hsize hst (lv_room (m := m) (pc := pc) (ls := ls) (rest := st) hrest) hdg ⟨hcz, hsz⟩) hS (fun q _ h => hF q h) hF (fun i a t H1 locs1 ht hvm hw hB hz hk hS1 => ?_)
  obtain ⟨rfl, hB⟩ := hB
  exact kk i H1 locs1 hw (hP.kept (fun k q hq => hk q.1 (hP k q hq).lt (fun z => z.elim (fun ⟨k2, e2, h2⟩ => by simp at h2) (fun h2 => absurd (hP k q hq).lt (Nat.not_lt.mpr h2))))) hS1
end
abbrev rJ_0 : Room := { frames := 0, cells := 0, slots := 0, locals := 0 }
abbrev rJ_len : Room := { frames := 1, cells := 0, slots := 0, locals := 20 }
abbrev rJ_chk : Room := { frames := 1, cells := 0, slots := 0, locals := 22 }
abbrev rJ_ch1 : Room := { frames := 2, cells := 0, slots := 0, locals := 43 }
abbrev rJ_ch0 : Room := { frames := 3, cells := 0, slots := 0, locals := 64 }
theorem zJ_coder : yJ0_coder_7d493.cls = RJ0 ∧ yJ0_coder_7d493.cls ≠ "java/lang/invoke/MethodHandle" ∧ yJ0_coder_7d493.cls ≠ "java/lang/invoke/VarHandle" ∧ (parseMethodDescriptor yJ0_coder_7d493.desc).map (fun d => d.parameters.length) = some 0 := by decide +kernel
theorem zJ_isLatin1 : yJ0_isLatin1_aae02.cls = RJ0 ∧ yJ0_isLatin1_aae02.cls ≠ "java/lang/invoke/MethodHandle" ∧ yJ0_isLatin1_aae02.cls ≠ "java/lang/invoke/VarHandle" ∧ (parseMethodDescriptor yJ0_isLatin1_aae02.desc).map (fun d => d.parameters.length) = some 0 := by decide +kernel
theorem zJ_length : yJ0_length_8abf5.cls = RJ0 ∧ yJ0_length_8abf5.cls ≠ "java/lang/invoke/MethodHandle" ∧ yJ0_length_8abf5.cls ≠ "java/lang/invoke/VarHandle" ∧ (parseMethodDescriptor yJ0_length_8abf5.desc).map (fun d => d.parameters.length) = some 0 := by decide +kernel
theorem zJ_charAt : yJ0_charAt_5068e.cls = RJ0 ∧ yJ0_charAt_5068e.cls ≠ "java/lang/invoke/MethodHandle" ∧ yJ0_charAt_5068e.cls ≠ "java/lang/invoke/VarHandle" ∧ (parseMethodDescriptor yJ0_charAt_5068e.desc).map (fun d => d.parameters.length) = some 1 := by decide +kernel
theorem zJ_check3 : yJ3_checkIndex_8e157.cls ≠ "java/lang/invoke/MethodHandle" ∧ yJ3_checkIndex_8e157.cls ≠ "java/lang/invoke/VarHandle" ∧ (parseMethodDescriptor yJ3_checkIndex_8e157.desc).map (fun d => d.parameters.length) = some 3 := by decide +kernel
theorem zJ_check0 : yJ0_checkIndex_df160.cls ≠ "java/lang/invoke/MethodHandle" ∧ yJ0_checkIndex_df160.cls ≠ "java/lang/invoke/VarHandle" ∧ (parseMethodDescriptor yJ0_checkIndex_df160.desc).map (fun d => d.parameters.length) = some 2 := by decide +kernel
theorem zJ_charAt1 : yJ1_charAt_3b067.cls ≠ "java/lang/invoke/MethodHandle" ∧ yJ1_charAt_3b067.cls ≠ "java/lang/invoke/VarHandle" ∧ (parseMethodDescriptor yJ1_charAt_3b067.desc).map (fun d => d.parameters.length) = some 2 := by decide +kernel
set_option maxRecDepth 100000 in
theorem kJ_coder (l : Launch) (dC : Nat → ClassId) (dI : Nat → Nat → Nat) (cy : Nat → ClassId) (adK adV : Nat → Nat) {i : Nat} (hi : i < 4) (post : Int32 → Prop) (hv : post 0) : CtJI l yJ0_coder_7d493 wsJ0_coder_7d493 rJ_0 dC dI cy adK adV [.ref (adK i)] [] (fun (_ : Unit) => []) (fun r (_ : Unit) => post r) :=
  ct_ofJ (Q1 := fun A => va_Qi (fun r (_ : Unit) => post r) (fun (_ : Unit) t => va_P (dC, dI) vwCl [] t.heap) A) (fun _ => rfl) (by decide) rfl (Nat.le_of_ble_eq_true rfl) (fun p e s m below meth c A ls C0 hJ hP hD hS hl => by
    obtain ⟨hx, hb, hr, hml, hown, hts, hlocks, hK, hA⟩ := C0
    have hl : lv_has ls 1 [(0, .ref (adK i))] := hl
    refine va_gets hx hb hJ.2.1 hS hown (hts (.fieldLink RJ0 38 "java/lang/String" "COMPACT_STRINGS" "Z") (List.mem_of_getElem? (i := 1) rfl)) (fun _ h => h) dJ0_coder_7d493_0 ?_
    refine lv_if_eq (tgt := 13) hx hb dJ0_coder_7d493_3 (by decide) (fun q => absurd q (by decide)) (fun _ => ?_)
    refine lv_aload_n hx hb dJ0_coder_7d493_6 rfl (lv_at hl 0 rfl) ?_
    refine vk_getf hx hb (hJ.1.1 i hi).2.1 hS hown (hts (.fieldLink RJ0 15 "java/lang/String" "coder" "B") (List.mem_of_getElem? (i := 2) rfl)) (fun _ h => h) dJ0_coder_7d493_7 ?_
    refine lv_goto (tgt := 14) hx hb dJ0_coder_7d493_10 (by decide) ?_
    exact W.zret (v := 0) hx hb hr rfl (fun t ht hW => ⟨⟨0, (), rfl, hv, va_Ph ht hP⟩, hS.F ht⟩) hS.2.2 dJ0_coder_7d493_14)
set_option maxRecDepth 100000 in
theorem kJ_isLatin1 (l : Launch) (dC : Nat → ClassId) (dI : Nat → Nat → Nat) (cy : Nat → ClassId) (adK adV : Nat → Nat) {i : Nat} (hi : i < 4) (post : Int32 → Prop) (hv : post 1) : CtJI l yJ0_isLatin1_aae02 wsJ0_isLatin1_aae02 rJ_0 dC dI cy adK adV [.ref (adK i)] [] (fun (_ : Unit) => []) (fun r (_ : Unit) => post r) :=
  ct_ofJ (Q1 := fun A => va_Qi (fun r (_ : Unit) => post r) (fun (_ : Unit) t => va_P (dC, dI) vwCl [] t.heap) A) (fun _ => rfl) (by decide) rfl (Nat.le_of_ble_eq_true rfl) (fun p e s m below meth c A ls C0 hJ hP hD hS hl => by
    obtain ⟨hx, hb, hr, hml, hown, hts, hlocks, hK, hA⟩ := C0
    have hl : lv_has ls 1 [(0, .ref (adK i))] := hl
    refine va_gets hx hb hJ.2.1 hS hown (hts (.fieldLink RJ0 38 "java/lang/String" "COMPACT_STRINGS" "Z") (List.mem_of_getElem? (i := 1) rfl)) (fun _ h => h) dJ0_isLatin1_aae02_0 ?_
    refine lv_if_eq (tgt := 17) hx hb dJ0_isLatin1_aae02_3 (by decide) (fun q => absurd q (by decide)) (fun _ => ?_)
    refine lv_aload_n hx hb dJ0_isLatin1_aae02_6 rfl (lv_at hl 0 rfl) ?_
    refine vk_getf hx hb (hJ.1.1 i hi).2.1 hS hown (hts (.fieldLink RJ0 15 "java/lang/String" "coder" "B") (List.mem_of_getElem? (i := 2) rfl)) (fun _ h => h) dJ0_isLatin1_aae02_7 ?_
    refine lv_if_ne (tgt := 17) hx hb dJ0_isLatin1_aae02_10 (by decide) (fun q => absurd rfl q) (fun _ => ?_)
    refine lv_iconst (v := 1) hx hb dJ0_isLatin1_aae02_13 (by decide) ?_
    refine lv_goto (tgt := 18) hx hb dJ0_isLatin1_aae02_14 (by decide) ?_
    exact W.zret (v := 1) hx hb hr rfl (fun t ht hW => ⟨⟨1, (), rfl, hv, va_Ph ht hP⟩, hS.F ht⟩) hS.2.2 dJ0_isLatin1_aae02_18)
set_option maxRecDepth 100000 in
theorem kJ_length (l : Launch) (dC : Nat → ClassId) (dI : Nat → Nat → Nat) (cy : Nat → ClassId) (adK adV : Nat → Nat) {i : Nat} (hi : i < 4) (post : Int32 → Prop) (hv : post (nI (lenJ.getD i 0))) : CtJI l yJ0_length_8abf5 wsJ0_length_8abf5 rJ_len dC dI cy adK adV [.ref (adK i)] [] (fun (_ : Unit) => []) (fun r (_ : Unit) => post r) :=
  ct_ofJ (Q1 := fun A => va_Qi (fun r (_ : Unit) => post r) (fun (_ : Unit) t => va_P (dC, dI) vwCl [] t.heap) A) (fun _ => rfl) (by decide) rfl (Nat.le_of_ble_eq_true rfl) (fun p e s m below meth c A ls C0 hJ hP hD hS hl => by
    obtain ⟨hx, hb, hr, hml, hown, hts, hlocks, hK, hA⟩ := C0
    have hl : lv_has ls 1 [(0, .ref (adK i))] := hl
    have hL : lenJ.getD i 0 < 2 ^ 31 := co_4 (P := fun i => lenJ.getD i 0 < 2 ^ 31) (by decide) (by decide) (by decide) (by decide) hi
    refine lv_aload_n hx hb dJ0_length_8abf5_0 rfl (lv_at hl 0 rfl) ?_
    refine vk_getf hx hb (hJ.1.1 i hi).2.2.1 hS hown (hts (.fieldLink RJ0 9 "java/lang/String" "value" "[B") (List.mem_of_getElem? (i := 1) rfl)) (fun _ h => h) dJ0_length_8abf5_1 ?_
    refine va_tlen (v := nI (lenJ.getD i 0)) hx hb (hJ.1.1 i hi).2.2.2 hS rfl dJ0_length_8abf5_4 ?_
    refine lv_aload_n hx hb dJ0_length_8abf5_5 rfl (lv_at hl 0 rfl) ?_
    refine cj_VI (As := []) (rest := [.int (nI (lenJ.getD i 0))]) ⟨hx, hb, hml, hown, hts⟩ (kJ_coder l dC dI cy adK adV hi (fun r => post (nI (lenJ.getD i 0) >>> (r &&& 31))) (by rw [sc_shr0 hL]; exact hv)) (cwV 0 hts gJ0_length_8abf5_J0_coder_7d493 rfl rfl rfl zJ_coder ⟨Nat.le_of_ble_eq_true rfl, Nat.le_of_ble_eq_true rfl⟩) hJ hK hP hD hS hA [] [] rfl rfl rfl (vk_recv hJ.1 hi hS) (fun _ => rfl) rfl hl.1 rfl (Nat.le_of_ble_eq_true rfl) (Nat.zero_le _) (Nat.zero_le _) dJ0_length_8abf5_6 (fun r u H locs hv hP hD hS => ?_)
    refine lv_ishr hx hb dJ0_length_8abf5_9 ?_
    exact W.iret (v := (nI (lenJ.getD i 0) >>> (r &&& 31))) hx hb hr (fun t ht hW => ⟨⟨(nI (lenJ.getD i 0) >>> (r &&& 31)), (), rfl, hv, va_Ph ht hP⟩, hS.F ht⟩) hS.2.2 dJ0_length_8abf5_10)
set_option maxRecDepth 100000 in
theorem kJ_check3n (l : Launch) (dC : Nat → ClassId) (dI : Nat → Nat → Nat) (cy : Nat → ClassId) (adK adV : Nat → Nat) (x n : Int32) (post : Int32 → Prop) (h0 : ¬ x < 0) (h1 : x < n) (hv : post x) : CtJI l yJ3_checkIndex_8e157 wsJ3_checkIndex_8e157 rJ_0 dC dI cy adK adV [.int x, .int n, .null] [] (fun (_ : Unit) => []) (fun r (_ : Unit) => post r) :=
  ct_ofJ (Q1 := fun A => va_Qi (fun r (_ : Unit) => post r) (fun (_ : Unit) t => va_P (dC, dI) vwCl [] t.heap) A) (fun _ => rfl) (by decide) rfl (Nat.le_of_ble_eq_true rfl) (fun p e s m below meth c A ls C0 hJ hP hD hS hl => by
    obtain ⟨hx, hb, hr, hml, hown, hts, hlocks, hK, hA⟩ := C0
    have hl : lv_has ls 3 [(0, .int x), (1, .int n), (2, .null)] := hl
    refine lv_iload_n hx hb dJ3_checkIndex_8e157_0 rfl (lv_at hl 0 rfl) ?_
    refine lv_if_lt (tgt := 9) hx hb dJ3_checkIndex_8e157_1 (by decide) (fun q => absurd q h0) (fun _ => ?_)
    refine lv_iload_n hx hb dJ3_checkIndex_8e157_4 rfl (lv_at hl 0 rfl) ?_
    refine lv_iload_n hx hb dJ3_checkIndex_8e157_5 rfl (lv_at hl 1 rfl) ?_
    refine lv_icmp_lt (tgt := 16) hx hb dJ3_checkIndex_8e157_6 (by decide) (fun _ => ?_) (fun q => absurd h1 q)
    refine lv_iload_n hx hb dJ3_checkIndex_8e157_16 rfl (lv_at hl 0 rfl) ?_
    exact W.iret (v := x) hx hb hr (fun t ht hW => ⟨⟨x, (), rfl, hv, va_Ph ht hP⟩, hS.F ht⟩) hS.2.2 dJ3_checkIndex_8e157_17)
set_option maxRecDepth 100000 in
theorem kJ_check3r (l : Launch) (dC : Nat → ClassId) (dI : Nat → Nat → Nat) (cy : Nat → ClassId) (adK adV : Nat → Nat) (t : Nat) (x n : Int32) (post : Int32 → Prop) (h0 : ¬ x < 0) (h1 : x < n) (hv : post x) : CtJI l yJ3_checkIndex_8e157 wsJ3_checkIndex_8e157 rJ_0 dC dI cy adK adV [.int x, .int n, .ref t] [] (fun (_ : Unit) => []) (fun r (_ : Unit) => post r) :=
  ct_ofJ (Q1 := fun A => va_Qi (fun r (_ : Unit) => post r) (fun (_ : Unit) t => va_P (dC, dI) vwCl [] t.heap) A) (fun _ => rfl) (by decide) rfl (Nat.le_of_ble_eq_true rfl) (fun p e s m below meth c A ls C0 hJ hP hD hS hl => by
    obtain ⟨hx, hb, hr, hml, hown, hts, hlocks, hK, hA⟩ := C0
    have hl : lv_has ls 3 [(0, .int x), (1, .int n), (2, .ref t)] := hl
    refine lv_iload_n hx hb dJ3_checkIndex_8e157_0 rfl (lv_at hl 0 rfl) ?_
    refine lv_if_lt (tgt := 9) hx hb dJ3_checkIndex_8e157_1 (by decide) (fun q => absurd q h0) (fun _ => ?_)
    refine lv_iload_n hx hb dJ3_checkIndex_8e157_4 rfl (lv_at hl 0 rfl) ?_
    refine lv_iload_n hx hb dJ3_checkIndex_8e157_5 rfl (lv_at hl 1 rfl) ?_
    refine lv_icmp_lt (tgt := 16) hx hb dJ3_checkIndex_8e157_6 (by decide) (fun _ => ?_) (fun q => absurd h1 q)
    refine lv_iload_n hx hb dJ3_checkIndex_8e157_16 rfl (lv_at hl 0 rfl) ?_
    exact W.iret (v := x) hx hb hr (fun t ht hW => ⟨⟨x, (), rfl, hv, va_Ph ht hP⟩, hS.F ht⟩) hS.2.2 dJ3_checkIndex_8e157_17)
set_option maxRecDepth 100000 in
theorem kJ_check0 (l : Launch) (dC : Nat → ClassId) (dI : Nat → Nat → Nat) (cy : Nat → ClassId) (adK adV : Nat → Nat) (x n : Int32) (post : Prop) (h0 : ¬ x < 0) (h1 : x < n) (hv : post) : CtJV l yJ0_checkIndex_df160 wsJ0_checkIndex_df160 rJ_chk dC dI cy adK adV [.int x, .int n] [] (fun (_ : Unit) => []) (fun (_ : Unit) => post) :=
  ct_ofJ (Q1 := fun A => va_Qv (fun (_ : Unit) => post) (fun (_ : Unit) t => va_P (dC, dI) vwCl [] t.heap) A) (fun _ => rfl) (by decide) rfl (Nat.le_of_ble_eq_true rfl) (fun p e s m below meth c A ls C0 hJ hP hD hS hl => by
    obtain ⟨hx, hb, hr, hml, hown, hts, hlocks, hK, hA⟩ := C0
    have hl : lv_has ls 2 [(0, .int x), (1, .int n)] := hl
    refine lv_iload_n hx hb dJ0_checkIndex_df160_0 rfl (lv_at hl 0 rfl) ?_
    refine lv_iload_n hx hb dJ0_checkIndex_df160_1 rfl (lv_at hl 1 rfl) ?_
    rcases hJ.2.2.1 with hZ | ⟨t, hZ⟩
    · refine va_gets hx hb hZ hS hown (hts (.fieldLink RJ0 1053 "jdk/internal/util/Preconditions" "SIOOBE_FORMATTER" "Ljava/util/function/BiFunction;") (List.mem_of_getElem? (i := 1) rfl)) (fun _ h => h) dJ0_checkIndex_df160_2 ?_
      refine cj_SI (As := [.int x, .int n, .null]) (rest := []) ⟨hx, hb, hml, hown, hts⟩ (kJ_check3n l dC dI cy adK adV x n (fun _ => post) h0 h1 hv) (va_cwS 3 hts gJ0_checkIndex_df160_J3_checkIndex_8e157 rfl rfl rfl zJ_check3 ⟨Nat.le_of_ble_eq_true rfl, Nat.le_of_ble_eq_true rfl⟩) hJ hK hP hD hS hA [] [] rfl rfl rfl (fun _ => rfl) rfl hl.1 rfl (Nat.le_of_ble_eq_true rfl) (Nat.zero_le _) (Nat.zero_le _) dJ0_checkIndex_df160_5 (fun r u H locs hv hP hD hS => ?_)
      refine lv_pop hx hb dJ0_checkIndex_df160_8 rfl ?_
      exact W.vret hx hb hr (fun t ht hW => ⟨⟨(), rfl, hv, va_Ph ht hP⟩, hS.F ht⟩) hS.2.2 dJ0_checkIndex_df160_9
    · refine va_gets hx hb hZ hS hown (hts (.fieldLink RJ0 1053 "jdk/internal/util/Preconditions" "SIOOBE_FORMATTER" "Ljava/util/function/BiFunction;") (List.mem_of_getElem? (i := 1) rfl)) (fun _ h => h) dJ0_checkIndex_df160_2 ?_
      refine cj_SI (As := [.int x, .int n, .ref t]) (rest := []) ⟨hx, hb, hml, hown, hts⟩ (kJ_check3r l dC dI cy adK adV t x n (fun _ => post) h0 h1 hv) (va_cwS 3 hts gJ0_checkIndex_df160_J3_checkIndex_8e157 rfl rfl rfl zJ_check3 ⟨Nat.le_of_ble_eq_true rfl, Nat.le_of_ble_eq_true rfl⟩) hJ hK hP hD hS hA [] [] rfl rfl rfl (fun _ => rfl) rfl hl.1 rfl (Nat.le_of_ble_eq_true rfl) (Nat.zero_le _) (Nat.zero_le _) dJ0_checkIndex_df160_5 (fun r u H locs hv hP hD hS => ?_)
      refine lv_pop hx hb dJ0_checkIndex_df160_8 rfl ?_
      exact W.vret hx hb hr (fun t ht hW => ⟨⟨(), rfl, hv, va_Ph ht hP⟩, hS.F ht⟩) hS.2.2 dJ0_checkIndex_df160_9)
set_option maxRecDepth 100000 in
theorem kJ_charAt1 (l : Launch) (dC : Nat → ClassId) (dI : Nat → Nat → Nat) (cy : Nat → ClassId) (adK adV : Nat → Nat) {i k : Nat} (hi : i < 4) (hk : k < lenJ.getD i 0) (post : Int32 → Prop) (hv : post (chJ i k)) : CtJI l yJ1_charAt_3b067 wsJ1_charAt_3b067 rJ_ch1 dC dI cy adK adV [.ref (adV i), .int (nI k)] [] (fun (_ : Unit) => []) (fun r (_ : Unit) => post r) :=
  ct_ofJ (Q1 := fun A => va_Qi (fun r (_ : Unit) => post r) (fun (_ : Unit) t => va_P (dC, dI) vwCl [] t.heap) A) (fun _ => rfl) (by decide) rfl (Nat.le_of_ble_eq_true rfl) (fun p e s m below meth c A ls C0 hJ hP hD hS hl => by
    obtain ⟨hx, hb, hr, hml, hown, hts, hlocks, hK, hA⟩ := C0
    have hl : lv_has ls 2 [(0, .ref (adV i)), (1, .int (nI k))] := hl
    have hL : lenJ.getD i 0 < 2 ^ 31 := co_4 (P := fun i => lenJ.getD i 0 < 2 ^ 31) (by decide) (by decide) (by decide) (by decide) hi
    refine lv_iload_n hx hb dJ1_charAt_3b067_0 rfl (lv_at hl 1 rfl) ?_
    refine lv_aload_n hx hb dJ1_charAt_3b067_1 rfl (lv_at hl 0 rfl) ?_
    refine va_tlen (v := nI (lenJ.getD i 0)) hx hb (hJ.1.1 i hi).2.2.2 hS rfl dJ1_charAt_3b067_2 ?_
    refine cj_SV (As := [.int (nI k), .int (nI (lenJ.getD i 0))]) (rest := []) ⟨hx, hb, hml, hown, hts⟩ (kJ_check0 l dC dI cy adK adV (nI k) (nI (lenJ.getD i 0)) True (nI_pos (by omega)) (nI_lt hk hL) trivial) (va_cwS 2 hts gJ1_charAt_3b067_J0_checkIndex_df160 rfl rfl rfl zJ_check0 ⟨Nat.le_of_ble_eq_true rfl, Nat.le_of_ble_eq_true rfl⟩) hJ hK hP hD hS hA [] [] rfl rfl rfl (fun _ => rfl) rfl hl.1 rfl (Nat.le_of_ble_eq_true rfl) (Nat.zero_le _) (Nat.zero_le _) dJ1_charAt_3b067_3 (fun u H locs _ hP hD hS => ?_)
    refine lv_aload_n hx hb dJ1_charAt_3b067_6 rfl (lv_at hl 0 rfl) ?_
    refine lv_iload_n hx hb dJ1_charAt_3b067_7 rfl (lv_at hl 1 rfl) ?_
    refine va_tb (v := .int (chJ i k)) hx hb (hJ.1.1 i hi).2.2.2 hS (vp_in_nI hk hL) (by rw [nI_clamp (by omega)]; rfl) dJ1_charAt_3b067_8 ?_
    refine lv_sipush (v := 255) hx hb dJ1_charAt_3b067_9 (by decide) ?_
    refine lv_iand hx hb dJ1_charAt_3b067_12 ?_
    refine lv_i2c (v := chJ i k) hx hb dJ1_charAt_3b067_13 (chJ_ok i hi k hk) ?_
    have hn : narrow .char (.int (chJ i k)) = .int (chJ i k) := by rw [← chJ_ok i hi k hk]; exact pk_nc _
    exact W.zret (v := (chJ i k)) hx hb hr hn (fun t ht hW => ⟨⟨(chJ i k), (), rfl, hv, va_Ph ht hP⟩, hS.F ht⟩) hS.2.2 dJ1_charAt_3b067_14)
set_option maxRecDepth 100000 in
theorem kJ_charAt (l : Launch) (dC : Nat → ClassId) (dI : Nat → Nat → Nat) (cy : Nat → ClassId) (adK adV : Nat → Nat) {i k : Nat} (hi : i < 4) (hk : k < lenJ.getD i 0) (post : Int32 → Prop) (hv : post (chJ i k)) : CtJI l yJ0_charAt_5068e wsJ0_charAt_5068e rJ_ch0 dC dI cy adK adV [.ref (adK i), .int (nI k)] [] (fun (_ : Unit) => []) (fun r (_ : Unit) => post r) :=
  ct_ofJ (Q1 := fun A => va_Qi (fun r (_ : Unit) => post r) (fun (_ : Unit) t => va_P (dC, dI) vwCl [] t.heap) A) (fun _ => rfl) (by decide) rfl (Nat.le_of_ble_eq_true rfl) (fun p e s m below meth c A ls C0 hJ hP hD hS hl => by
    obtain ⟨hx, hb, hr, hml, hown, hts, hlocks, hK, hA⟩ := C0
    have hl : lv_has ls 2 [(0, .ref (adK i)), (1, .int (nI k))] := hl
    refine lv_aload_n hx hb dJ0_charAt_5068e_0 rfl (lv_at hl 0 rfl) ?_
    refine cj_VI (As := []) (rest := []) ⟨hx, hb, hml, hown, hts⟩ (kJ_isLatin1 l dC dI cy adK adV hi (fun r => ¬ r = 0) (by decide)) (cwV 0 hts gJ0_charAt_5068e_J0_isLatin1_aae02 rfl rfl rfl zJ_isLatin1 ⟨Nat.le_of_ble_eq_true rfl, Nat.le_of_ble_eq_true rfl⟩) hJ hK hP hD hS hA [] [] rfl rfl rfl (vk_recv hJ.1 hi hS) (fun _ => rfl) rfl hl.1 rfl (Nat.le_of_ble_eq_true rfl) (Nat.zero_le _) (Nat.zero_le _) dJ0_charAt_5068e_1 (fun r u H locs hr0 hP hD hS => ?_)
    refine lv_if_eq (tgt := 16) hx hb dJ0_charAt_5068e_4 (by decide) (fun q => absurd q hr0) (fun _ => ?_)
    refine lv_aload_n hx hb dJ0_charAt_5068e_7 rfl (lv_at hl 0 rfl) ?_
    refine vk_getf hx hb (hJ.1.1 i hi).2.2.1 hS hown (hts (.fieldLink RJ0 9 "java/lang/String" "value" "[B") (List.mem_of_getElem? (i := 1) rfl)) (fun _ h => h) dJ0_charAt_5068e_8 ?_
    refine lv_iload_n hx hb dJ0_charAt_5068e_11 rfl (lv_at hl 1 rfl) ?_
    refine cj_SI (As := [.ref (adV i), .int (nI k)]) (rest := []) ⟨hx, hb, hml, hown, hts⟩ (kJ_charAt1 l dC dI cy adK adV hi hk (fun r => narrow .char (.int r) = .int r ∧ post r) ⟨by rw [← chJ_ok i hi k hk]; exact pk_nc _, hv⟩) (va_cwS 2 hts gJ0_charAt_5068e_J1_charAt_3b067 rfl rfl rfl zJ_charAt1 ⟨Nat.le_of_ble_eq_true rfl, Nat.le_of_ble_eq_true rfl⟩) hJ hK hP hD hS hA [] [] rfl rfl rfl (fun _ => rfl) rfl hl.1 rfl (Nat.le_of_ble_eq_true rfl) (Nat.zero_le _) (Nat.zero_le _) dJ0_charAt_5068e_12 (fun r u H locs hv hP hD hS => ?_)
    exact W.zret (v := r) hx hb hr hv.1 (fun t ht hW => ⟨⟨r, (), rfl, hv.2, va_Ph ht hP⟩, hS.F ht⟩) hS.2.2 dJ0_charAt_5068e_15)
theorem kJ_charAtX (l : Launch) (dC : Nat → ClassId) (dI : Nat → Nat → Nat) (cy : Nat → ClassId) (adK adV : Nat → Nat) {i : Nat} (hi : i < 4) {x : Int32} (hx : vp_in x (lenJ.getD i 0)) (post : Int32 → Prop) (hv : post (chJ i x.toNatClampNeg)) : CtJI l yJ0_charAt_5068e wsJ0_charAt_5068e rJ_ch0 dC dI cy adK adV [.ref (adK i), .int x] [] (fun (_ : Unit) => []) (fun r (_ : Unit) => post r) := by
  have hL : lenJ.getD i 0 < 2 ^ 31 := co_4 (P := fun i => lenJ.getD i 0 < 2 ^ 31) (by decide) (by decide) (by decide) (by decide) hi
  obtain ⟨k, hk, rfl⟩ := vp_in_of hx hL
  rw [nI_clamp (by omega)] at hv
  exact kJ_charAt l dC dI cy adK adV hi hk post hv
/-- kindText -/
def VX1_kindText (post : Nat → Prop) (p0 : Int32) : Prop := ((p0.toInt < 0 ∨ 2 < p0.toInt) → post 3) ∧ (p0 = 0 → post 0) ∧ (p0 = 1 → post 1) ∧ (p0 = 2 → post 2)
theorem zX1_kindText : yX1_kindText.cls ≠ "java/lang/invoke/MethodHandle" ∧ yX1_kindText.cls ≠ "java/lang/invoke/VarHandle" ∧ (parseMethodDescriptor yX1_kindText.desc).map (fun d => d.parameters.length) = some 1 := by decide +kernel
set_option maxRecDepth 100000 in
theorem kX1_kindText (l : Launch) (dC : Nat → ClassId) (dI : Nat → Nat → Nat) (cy : Nat → ClassId) (adK adV : Nat → Nat) (p0 : Int32) (post : Nat → Prop) (hv : VX1_kindText post p0) : CtJR l yX1_kindText wsX1_kindText rJ_0 dC dI cy adK adV [.int p0] [] (fun i => i < 4 ∧ post i) :=
  ct_ofJ (Q1 := fun A => va_Qr (fun i => i < 4 ∧ post i) (fun i a t => a = adK i ∧ va_P (dC, dI) vwCl [] t.heap) A) (fun _ => rfl) (by decide) rfl (Nat.le_of_ble_eq_true rfl) (fun p e s m below meth c A ls C0 hJ hP hD hS hl => by
    obtain ⟨hx, hb, hr, hml, hown, hts, hlocks, hK, hA⟩ := C0
    have hl : lv_has ls 1 [(0, .int p0)] := hl
    refine lv_iload_n hx hb dX1_kindText_0 rfl (lv_at hl 0 rfl) ?_
    by_cases c_1 : (p0.toInt < 0 ∨ 2 < p0.toInt)
    · refine lv_tableOut (tgt := 37) hx hb dX1_kindText_1 c_1 (by decide) ?_
      refine va_ldcS hx hb hown hJ.2.2.2.2.2.2 dX1_kindText_37 ?_
      exact W.aret hx hb hr (Or.inl ⟨_, rfl⟩) (Or.inr ⟨_, rfl⟩) (fun t ht hW => ⟨⟨3, _, rfl, ⟨by decide, hv.1 c_1⟩, rfl, va_Ph ht hP⟩, hS.F ht⟩) hS.2.2 dX1_kindText_39
    · rcases sw_3 p0 c_1 with c_1 | c_1 | c_1
      · refine lv_tableIn (tgt := 28) hx hb dX1_kindText_1 (by rw [c_1]; decide) (by rw [c_1]; decide) (by rw [c_1]; rfl) (by decide) ?_
        refine va_ldcS hx hb hown hJ.2.2.2.1 dX1_kindText_28 ?_
        exact W.aret hx hb hr (Or.inl ⟨_, rfl⟩) (Or.inr ⟨_, rfl⟩) (fun t ht hW => ⟨⟨0, _, rfl, ⟨by decide, hv.2.1 c_1⟩, rfl, va_Ph ht hP⟩, hS.F ht⟩) hS.2.2 dX1_kindText_30
      · refine lv_tableIn (tgt := 31) hx hb dX1_kindText_1 (by rw [c_1]; decide) (by rw [c_1]; decide) (by rw [c_1]; rfl) (by decide) ?_
        refine va_ldcS hx hb hown hJ.2.2.2.2.1 dX1_kindText_31 ?_
        exact W.aret hx hb hr (Or.inl ⟨_, rfl⟩) (Or.inr ⟨_, rfl⟩) (fun t ht hW => ⟨⟨1, _, rfl, ⟨by decide, hv.2.2.1 c_1⟩, rfl, va_Ph ht hP⟩, hS.F ht⟩) hS.2.2 dX1_kindText_33
      · refine lv_tableIn (tgt := 34) hx hb dX1_kindText_1 (by rw [c_1]; decide) (by rw [c_1]; decide) (by rw [c_1]; rfl) (by decide) ?_
        refine va_ldcS hx hb hown hJ.2.2.2.2.2.1 dX1_kindText_34 ?_
        exact W.aret hx hb hr (Or.inl ⟨_, rfl⟩) (Or.inr ⟨_, rfl⟩) (fun t ht hW => ⟨⟨2, _, rfl, ⟨by decide, hv.2.2.2 c_1⟩, rfl, va_Ph ht hP⟩, hS.F ht⟩) hS.2.2 dX1_kindText_36)
