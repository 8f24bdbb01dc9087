theorem va_P_refs {D : va_G} {cl : List vw_C} {ws : va_W} {H : Heap} {p a n : Nat} {c : ClassId} {f g : Nat → Option Nat} (hP : va_P D cl ws H) (hp : ws[p]? = some (a, .inl (c, n, .inr (.inr (.inr (.inr f)))))) (hfg : ∀ j, j < n → f j = g j) : va_P D cl (ws.set p (a, .inl (c, n, .inr (.inr (.inr (.inr g)))))) H := by
  intro k q hq
  rw [List.getElem?_set] at hq
  by_cases e : p = k
  · subst e
    rw [if_pos rfl] at hq
    have hl : p < ws.length := (List.getElem?_eq_some_iff.mp hp).1
    rw [if_pos hl] at hq
    cases hq
    have h1 : H[a]? = some (arrV c n (fun j => va_rf (f j))) := hP p _ hp
    show H[a]? = some (arrV c n (fun j => va_rf (g j)))
    rw [h1]
    refine congrArg some ?_
    unfold arrV
    congr 1
    apply Array.ext
    · simp
    · intro i h2 h3
      simp at h2
      simp [hfg i h2]
  · rw [if_neg e] at hq
    exact hP k q hq
/-- words that the word lists don't hold: arrays of references, constructors of nest mates -/
def cX (U : State) : Prop := va_AO "AbelianPowers$Word" U ∧ va_AO "AbelianPowers$Row" U ∧ va_Nw (.methodLinkNest RX10 9 yX1_init "AbelianPowers") U ∧ va_Nw (.methodLinkNest RX10 37 yX8_init "AbelianPowers") U ∧ va_Nw (.methodLinkNest RX10 44 yX4_init "AbelianPowers") U ∧ va_Nw (.methodLinkNest RX10 51 yX2_init "AbelianPowers") U ∧ va_Nw (.methodLinkNest RX10 58 yX0_init "AbelianPowers") U ∧ va_Nw (.methodLinkNest RX10 69 yX3_init "AbelianPowers") U ∧ va_Nw (.methodLinkNest RX0 23 yX7_init "AbelianPowers") U
theorem cX.warm {s U : State} (hW : s.WarmedH U.vm) (h : cX s) : cX U := ⟨va_AO.moved hW.alike h.1, va_AO.moved hW.alike h.2.1, va_Nw.warmM hW h.2.2.1, va_Nw.warmM hW h.2.2.2.1, va_Nw.warmM hW h.2.2.2.2.1, va_Nw.warmM hW h.2.2.2.2.2.1, va_Nw.warmM hW h.2.2.2.2.2.2.1, va_Nw.warmM hW h.2.2.2.2.2.2.2.1, va_Nw.warmM hW h.2.2.2.2.2.2.2.2⟩
theorem cX.call {U : State} {g : JFrame} {mk : MethodId} {a : Array Value} (h : cX U) : cX (U.calling g mk a) := ⟨va_AO.moved (u := U) (U := U.calling g mk a) (Vm.Alike.refl U.vm) h.1, va_AO.moved (u := U) (U := U.calling g mk a) (Vm.Alike.refl U.vm) h.2.1, va_Nw.same rfl (u := U) (U := U.calling g mk a) rfl h.2.2.1, va_Nw.same rfl (u := U) (U := U.calling g mk a) rfl h.2.2.2.1, va_Nw.same rfl (u := U) (U := U.calling g mk a) rfl h.2.2.2.2.1, va_Nw.same rfl (u := U) (U := U.calling g mk a) rfl h.2.2.2.2.2.1, va_Nw.same rfl (u := U) (U := U.calling g mk a) rfl h.2.2.2.2.2.2.1, va_Nw.same rfl (u := U) (U := U.calling g mk a) rfl h.2.2.2.2.2.2.2.1, va_Nw.same rfl (u := U) (U := U.calling g mk a) rfl h.2.2.2.2.2.2.2.2⟩
abbrev CtN (l : Launch) (y : MethodName) (ws : List Cond) (rm : Room) (dC : Nat → ClassId) (dI : Nat → Nat → Nat) (cy : Nat → ClassId) (av : List Value) (pic : va_W) {S : Type} (pic' : S → va_W) (post : S → Prop) (mc ms : Nat) : Prop := ∀ sz : Nat, Met l y ws rm (va_Pc av (fun U => Ct0 dC dI cy pic sz U ∧ cX U)) (va_Qv post (fun u t => va_P (dC, dI) vwCl (pic' u) t.heap ∧ va_D (va_A pic sz) (pic' u)) (va_A pic sz)) mc ms (va_A pic sz)
section
variable {l : Launch} {y : MethodName} {ws ws' : List Cond} {rm : Room} {dC : Nat → ClassId} {dI : Nat → Nat → Nat} {cy : Nat → ClassId} {av : List Value} {pic : va_W} {S : Type} {pic' : S → va_W} {cc : ByteArray} {maxL mc ms : Nat}
theorem ct_ofN {post : S → Prop} (hy : plainName y.cls = true) (hyn : y.name = "<init>") (hw : ws = Cond.code y cc maxL none :: ws') (hav : (lg_sl av).length ≤ maxL)
    (body : ∀ (p : Program) (e : Env) (s : State) (m : MethodId) (below : List Frame) (meth : Method) (c : Code) (A : Nat → Prop) (ls : Array Slot), cx p s m av.toArray meth c cc maxL none ws y.cls dC dI cy A → meth.name = "<init>" → cX s → va_P (dC, dI) vwCl pic s.heap → va_D A pic → va_S A s.heap s.heap [] → lv_has ls maxL (lv_args 0 av) →
      W p l e rm s m av.toArray below meth c s.heap [] 0 0 (MQ below (va_Qv post (fun u t => va_P (dC, dI) vwCl (pic' u) t.heap ∧ va_D A (pic' u)) A) av.toArray s mc ms A) (F0 m 0 ls [])) : CtN l y ws rm dC dI cy av pic pic' post mc ms := by
  intro sz
  refine Met.ofW (cc := cc) (maxL := maxL) (ret := none) hy hw ?_
  intro p e s m args below meth c s₁ B hml hv
  obtain ⟨rfl, ⟨hsz, hP, hK, hD0⟩, hcx⟩ := hv
  subst hsz
  have hl := lv_entry av (n := maxL) hav
  rw [lg_entry_eq]
  have hin : meth.name = y.name := (name_of_methodNamed B.named B.method).1
  exact body p e s m below meth c (va_A pic s.heap.size) _ ⟨B.exec, B.bytes, B.returns, hml, findClass_of_methodNamed B.named, atoms_spec (ws := ws) B.pre, B.notSynchronized, hK, fun q h => Or.inr h⟩ (hin.trans hyn) hcx hP hD0.self va_S.rf hl
end
section
variable {p : Program} {l : Launch} {e : Env} {R : Room} {s : State} {m : MethodId} {args : Array Value} {below : List Frame} {meth : Method} {c : Code} {H H0 : Heap} {locs : List Loc} {cells slots : Nat} {Q : State → Prop} {dC : Nat → ClassId} {dI : Nat → Nat → Nat} {cy : Nat → ClassId} {A : Nat → Prop}
variable {y : MethodName} {bytes cc : ByteArray} {maxL nL n index mc ms : Nat} {ws : List Cond} {rm : Room} {Ts : List Cond} {own : String} {b : Addr} {As rest st : List Value} {pc : Nat} {ls : Array Slot} {pic wr : va_W} {S : Type} {pc' : S → va_W} {ci : Nat} {fs : List Value}
theorem cn_call {post : S → Prop} (Sx : CallFix p m c cc nL s args Ts own) (hM : CtN l y ws rm dC dI cy (.ref b :: As) [(b, .inr (ci, fs))] pc' post mc ms) (cw : CallB R s args own index y bytes maxL none ws rm mc ms n ∧ y.name = "<init>" ∧ (Cond.instanceMethod y).before args s = true)
    (hcx : cX s) (hK : va_K (dC, dI) vwCl (vTy cy) s) (hP : va_P (dC, dI) vwCl pic H) (hD : va_D A pic) (hS : va_S A s.heap H locs) (hA : ∀ q : Nat, s.heap.size ≤ q → A q)
    (k : Nat) (hC : [k].map (fun i => pic[i]?) = [(b, .inr (ci, fs))].map some) (isR : List Nat) (hR : isR.map (fun i => pic[i]?) = wr.map some) (hnd : va_nd isR = true) (hdis : ∀ i ∈ isR, i ∉ [k])
    (hn : As.length = n) (hsize : ls.size = nL) (hst : st = As.reverse ++ .ref b :: rest) (hrest : (rest.map fun v => v.category).sum ≤ 8) (hf : cells + mc ≤ R.cells ∧ slots + ms ≤ R.slots) (hdg : decode cc pc = .ok (.invokespecial index, 3))
    (kk : ∀ (u : S) (H1 : Heap) (locs1 : List Loc), post u → va_P (dC, dI) vwCl (wr ++ pc' u) H1 → va_D A (wr ++ pc' u) → va_S A s.heap H1 locs1 → W p l e R s m args below meth c H1 locs1 (cells + mc) (slots + ms) Q (F0 m (pc + 3) ls rest)) :
    W p l e R s m args below meth c H locs cells slots Q (F0 m pc ls st) := by
  have hF := va_free hD hS hA [k] hC
  have hpre : PreS s H (va_Pc (.ref b :: As) (fun U => Ct0 dC dI cy [(b, .inr (ci, fs))] H.size U ∧ cX U)) (.ref b :: As) := by
    refine ⟨fun a U g mk q => ?_, fun U hU hW => ?_⟩
    · obtain ⟨q0, ⟨q1, qP, qK, qD⟩, q2⟩ := q
      exact ⟨q0, ⟨q1, qP, va_K.moved (u := U) (U := U.calling g mk a) (Vm.Alike.refl U.vm) qK, qD⟩, cX.call q2⟩
    · exact ⟨rfl, ⟨by rw [hU], by rw [hU]; exact my_sub hP hC, va_K.moved hW.alike hK, (hD.sub [k] rfl hC).weaken (fun _ _ _ _ => trivial)⟩, cX.warm hW hcx⟩
  refine va_callv (va_runI (As := As) (rest := rest) Sx (hM H.size) cw hpre rfl hn hsize hst (lv_room (m := m) (pc := pc) (ls := ls) (rest := st) hrest) hdg hf) hS (fun q _ h => hF q h) hF (fun u t H1 locs1 ht hvm hw hB hz hk hS1 => ?_)
  rw [ht] at hB
  obtain ⟨hP2, hD2⟩ := va_join hP hD [k] isR hC hR hnd hdis hk hF hB.1 hB.2
  exact kk u H1 locs1 hw hP2 hD2 hS1
theorem cm_call {post : S → Prop} (Sx : CallFix p m c cc nL s args Ts own) (hM : CtN l y ws rm dC dI cy (.ref b :: As) [(b, .inr (ci, fs))] pc' post mc ms) {host : String} (cw : va_CN R s args own index y host bytes maxL none ws rm mc ms n ∧ y.name = "<init>" ∧ (Cond.instanceMethod y).before args s = true)
    (hcx : cX s) (hK : va_K (dC, dI) vwCl (vTy cy) s) (hP : va_P (dC, dI) vwCl pic H) (hD : va_D A pic) (hS : va_S A s.heap H locs) (hA : ∀ q : Nat, s.heap.size ≤ q → A q)
    (k : Nat) (hC : [k].map (fun i => pic[i]?) = [(b, .inr (ci, fs))].map some) (isR : List Nat) (hR : isR.map (fun i => pic[i]?) = wr.map some) (hnd : va_nd isR = true) (hdis : ∀ i ∈ isR, i ∉ [k])
    (hn : As.length = n) (hsize : ls.size = nL) (hst : st = As.reverse ++ .ref b :: rest) (hrest : (rest.map fun v => v.category).sum ≤ 8) (hf : cells + mc ≤ R.cells ∧ slots + ms ≤ R.slots) (hdg : decode cc pc = .ok (.invokespecial index, 3))
    (kk : ∀ (u : S) (H1 : Heap) (locs1 : List Loc), post u → va_P (dC, dI) vwCl (wr ++ pc' u) H1 → va_D A (wr ++ pc' u) → va_S A s.heap H1 locs1 → W p l e R s m args below meth c H1 locs1 (cells + mc) (slots + ms) Q (F0 m (pc + 3) ls rest)) :
    W p l e R s m args below meth c H locs cells slots Q (F0 m pc ls st) := by
  have hF := va_free hD hS hA [k] hC
  have hpre : PreS s H (va_Pc (.ref b :: As) (fun U => Ct0 dC dI cy [(b, .inr (ci, fs))] H.size U ∧ cX U)) (.ref b :: As) := by
    refine ⟨fun a U g mk q => ?_, fun U hU hW => ?_⟩
    · obtain ⟨q0, ⟨q1, qP, qK, qD⟩, q2⟩ := q
      exact ⟨q0, ⟨q1, qP, va_K.moved (u := U) (U := U.calling g mk a) (Vm.Alike.refl U.vm) qK, qD⟩, cX.call q2⟩
    · exact ⟨rfl, ⟨by rw [hU], by rw [hU]; exact my_sub hP hC, va_K.moved hW.alike hK, (hD.sub [k] rfl hC).weaken (fun _ _ _ _ => trivial)⟩, cX.warm hW hcx⟩
  refine va_callv (va_runIN (As := As) (rest := rest) Sx (hM H.size) cw hpre rfl hn hsize hst (lv_room (m := m) (pc := pc) (ls := ls) (rest := st) hrest) hdg hf) hS (fun q _ h => hF q h) hF (fun u t H1 locs1 ht hvm hw hB hz hk hS1 => ?_)
  rw [ht] at hB
  obtain ⟨hP2, hD2⟩ := va_join hP hD [k] isR hC hR hnd hdis hk hF hB.1 hB.2
  exact kk u H1 locs1 hw hP2 hD2 hS1
theorem nw_int (hx : p.tables.exec = Jvm.exec) (hb : c.code = cc) (harr : (Cond.arrayClass .int).before args s = true) (hK : va_K (dC, dI) vwCl (vTy cy) s) (hP : va_P (dC, dI) vwCl pic H) (hD : va_D A pic) (hS : va_S A H0 H locs) (hA : ∀ q, H0.size ≤ q → A q)
    {n : Int32} (N : Nat) (hn : ¬ n < 0) (hN : n.toNatClampNeg = N) (hbytes : N * componentBytes .int ≤ 536870912) (hcells : cells + 1 ≤ R.cells) (hslots : slots + N ≤ R.slots) (hdg : decode cc pc = .ok (.newarray .int, 2))
    (kk : ∀ (q : Nat) (H1 : Heap), va_P (dC, dI) vwCl (pic ++ [(q, .inl (cy 0, N, .inl (fun _ => 0)))]) H1 → va_D A (pic ++ [(q, .inl (cy 0, N, .inl (fun _ => 0)))]) → va_S A H0 H1 locs → W p l e R s m args below meth c H1 locs (cells + 1) (slots + N) Q (F0 m (pc + 2) ls (.ref q :: rest))) :
    W p l e R s m args below meth c H locs cells slots Q (F0 m pc ls (.int n :: rest)) := by
  refine va_newa (atype := .int) (ty := .int) (a0 := (N, .inl (fun _ => 0))) hx hb harr rfl hK hP hD hS hA (fun _ => rfl) hn hN hbytes hcells hslots hdg (fun q cA H1 hK1 hP1 hD1 hS1 => ?_)
  have h1 : s.vm.findClass ("[" ++ FieldType.int.toString) = some cA := (hK1.2 5 (cA, .int) rfl).2
  have h2 : s.vm.findClass ("[" ++ FieldType.int.toString) = some (cy 0) := (hK.2 0 (cy 0, .int) rfl).2
  have e : cA = cy 0 := Option.some.inj (h1.symm.trans h2)
  subst e
  exact kk q H1 hP1 hD1 hS1
theorem nw_long (hx : p.tables.exec = Jvm.exec) (hb : c.code = cc) (harr : (Cond.arrayClass .long).before args s = true) (hK : va_K (dC, dI) vwCl (vTy cy) s) (hP : va_P (dC, dI) vwCl pic H) (hD : va_D A pic) (hS : va_S A H0 H locs) (hA : ∀ q, H0.size ≤ q → A q)
    {n : Int32} (N : Nat) (hn : ¬ n < 0) (hN : n.toNatClampNeg = N) (hbytes : N * componentBytes .long ≤ 536870912) (hcells : cells + 1 ≤ R.cells) (hslots : slots + N ≤ R.slots) (hdg : decode cc pc = .ok (.newarray .long, 2))
    (kk : ∀ (q : Nat) (H1 : Heap), va_P (dC, dI) vwCl (pic ++ [(q, .inl (cy 1, N, .inr (.inl (fun _ => 0))))]) H1 → va_D A (pic ++ [(q, .inl (cy 1, N, .inr (.inl (fun _ => 0))))]) → va_S A H0 H1 locs → W p l e R s m args below meth c H1 locs (cells + 1) (slots + N) Q (F0 m (pc + 2) ls (.ref q :: rest))) :
    W p l e R s m args below meth c H locs cells slots Q (F0 m pc ls (.int n :: rest)) := by
  refine va_newa (atype := .long) (ty := .long) (a0 := (N, .inr (.inl (fun _ => 0)))) hx hb harr rfl hK hP hD hS hA (fun _ => rfl) hn hN hbytes hcells hslots hdg (fun q cA H1 hK1 hP1 hD1 hS1 => ?_)
  have h1 : s.vm.findClass ("[" ++ FieldType.long.toString) = some cA := (hK1.2 5 (cA, .long) rfl).2
  have h2 : s.vm.findClass ("[" ++ FieldType.long.toString) = some (cy 1) := (hK.2 1 (cy 1, .long) rfl).2
  have e : cA = cy 1 := Option.some.inj (h1.symm.trans h2)
  subst e
  exact kk q H1 hP1 hD1 hS1
theorem nw_bool (hx : p.tables.exec = Jvm.exec) (hb : c.code = cc) (harr : (Cond.arrayClass .boolean).before args s = true) (hK : va_K (dC, dI) vwCl (vTy cy) s) (hP : va_P (dC, dI) vwCl pic H) (hD : va_D A pic) (hS : va_S A H0 H locs) (hA : ∀ q, H0.size ≤ q → A q)
    {n : Int32} (N : Nat) (hn : ¬ n < 0) (hN : n.toNatClampNeg = N) (hbytes : N * componentBytes .boolean ≤ 536870912) (hcells : cells + 1 ≤ R.cells) (hslots : slots + N ≤ R.slots) (hdg : decode cc pc = .ok (.newarray .boolean, 2))
    (kk : ∀ (q : Nat) (H1 : Heap), va_P (dC, dI) vwCl (pic ++ [(q, .inl (cy 2, N, .inl (fun _ => 0)))]) H1 → va_D A (pic ++ [(q, .inl (cy 2, N, .inl (fun _ => 0)))]) → va_S A H0 H1 locs → W p l e R s m args below meth c H1 locs (cells + 1) (slots + N) Q (F0 m (pc + 2) ls (.ref q :: rest))) :
    W p l e R s m args below meth c H locs cells slots Q (F0 m pc ls (.int n :: rest)) := by
  refine va_newa (atype := .boolean) (ty := .boolean) (a0 := (N, .inl (fun _ => 0))) hx hb harr rfl hK hP hD hS hA (fun _ => rfl) hn hN hbytes hcells hslots hdg (fun q cA H1 hK1 hP1 hD1 hS1 => ?_)
  have h1 : s.vm.findClass ("[" ++ FieldType.boolean.toString) = some cA := (hK1.2 5 (cA, .boolean) rfl).2
  have h2 : s.vm.findClass ("[" ++ FieldType.boolean.toString) = some (cy 2) := (hK.2 2 (cy 2, .boolean) rfl).2
  have e : cA = cy 2 := Option.some.inj (h1.symm.trans h2)
  subst e
  exact kk q H1 hP1 hD1 hS1
theorem nw_refs {C : String} (t0 : Nat) {cB : ClassId} (ht : (vTy cy)[t0]? = some (cB, .object C)) (hx : p.tables.exec = Jvm.exec) (hb : c.code = cc) (hown : s.vm.findClass own = some m.cls) (hclink : (Cond.classLink own index C).before args s = true) (hover : va_AO C s) (hK : va_K (dC, dI) vwCl (vTy cy) s) (hP : va_P (dC, dI) vwCl pic H) (hD : va_D A pic) (hS : va_S A H0 H locs) (hA : ∀ q, H0.size ≤ q → A q)
    {n : Int32} (N : Nat) (hn : ¬ n < 0) (hN : n.toNatClampNeg = N) (hbytes : N * 4 ≤ 536870912) (hcells : cells + 1 ≤ R.cells) (hslots : slots + N ≤ R.slots) (hdg : decode cc pc = .ok (.anewarray index, 3))
    (kk : ∀ (q : Nat) (H1 : Heap), va_P (dC, dI) vwCl (pic ++ [(q, .inl (cB, N, .inr (.inr (.inr (.inr (fun _ => none))))))]) H1 → va_D A (pic ++ [(q, .inl (cB, N, .inr (.inr (.inr (.inr (fun _ => none))))))]) → va_S A H0 H1 locs → W p l e R s m args below meth c H1 locs (cells + 1) (slots + N) Q (F0 m (pc + 3) ls (.ref q :: rest))) :
    W p l e R s m args below meth c H locs cells slots Q (F0 m pc ls (.int n :: rest)) := by
  refine va_newq hx hb hown hclink hover hK hP hD hS hA hn hN hbytes hcells hslots hdg (fun q cA H1 hK1 hP1 hD1 hS1 => ?_)
  obtain ⟨kA, comp, -, -, -, h1⟩ := (hK1.2 5 (cA, .object C) rfl).2
  obtain ⟨kB, comp2, -, -, -, h2⟩ := (hK.2 t0 (cB, .object C) ht).2
  have e : cA = cB := Option.some.inj (h1.symm.trans h2)
  subst e
  exact kk q H1 hP1 hD1 hS1
end
/-- the classes of arrays are there at the law's start -/
theorem vTy_of {args : Array Value} {s : State} {dC : Nat → ClassId} {dI : Nat → Nat → Nat} (hc : ∀ (k : Nat) (q : vw_C), vwCl[k]? = some q → u_Kn s q.1 q.2.1 q.2.2 (dC k) (dI k)) (h1 : (Cond.arrayClass .int).before args s = true) (h2 : (Cond.arrayClass .long).before args s = true) (h3 : (Cond.arrayClass .boolean).before args s = true) (h4 : va_AO "AbelianPowers$Word" s) (h5 : va_AO "AbelianPowers$Row" s) : ∃ cy : Nat → ClassId, va_K (dC, dI) vwCl (vTy cy) s := by
  obtain ⟨c1, k1, m1, a1, b1, d1⟩ := Cond.arrayClass_spec h1
  obtain ⟨c2, k2, m2, a2, b2, d2⟩ := Cond.arrayClass_spec h2
  obtain ⟨c3, k3, m3, a3, b3, d3⟩ := Cond.arrayClass_spec h3
  obtain ⟨m4, c4, k4, e4, -, b4, d4, a4⟩ := Cond.arrayOver_spec h4
  obtain ⟨m5, c5, k5, e5, -, b5, d5, a5⟩ := Cond.arrayOver_spec h5
  refine ⟨fun i => if i = 0 then c1 else if i = 1 then c2 else if i = 2 then c3 else if i = 3 then c4 else c5, hc, fun k q hq => ?_⟩
  match k, hq with
  | 0, hq => cases hq; exact ⟨fun n z => ⟨fun k h => (by cases h), k1, b1, m1, d1⟩, a1⟩
  | 1, hq => cases hq; exact ⟨fun n z => ⟨fun k h => (by cases h), k2, b2, m2, d2⟩, a2⟩
  | 2, hq => cases hq; exact ⟨fun n z => ⟨fun k h => (by cases h), k3, b3, m3, d3⟩, a3⟩
  | 3, hq => cases hq; exact ⟨fun n z => ⟨fun k h => (by cases h), k4, b4, m4, d4⟩, k4, m4, b4, d4, e4, a4⟩
  | 4, hq => cases hq; exact ⟨fun n z => ⟨fun k h => (by cases h), k5, b5, m5, d5⟩, k5, m5, b5, d5, e5, a5⟩
  | k + 5, hq => simp [vTy] at hq
section
variable {p : Program} {l : Launch} {e : Env} {R : Room} {s : State} {m : MethodId} {args : Array Value} {below : List Frame} {meth : Method} {c : Code} {H : Heap} {locs : List Loc} {cells slots : Nat} {Q : State → Prop} {dC : Nat → ClassId} {dI : Nat → Nat → Nat} {cy : Nat → ClassId} {A : Nat → Prop}
variable {y : MethodName} {bytes cc : ByteArray} {maxL nL n index : Nat} {ret : Option FieldType} {ws : List Cond} {rm : Room} {Ts : List Cond} {own C : String} {b : Addr} {As rest st : List Value} {pc : Nat} {ls : Array Slot} {pic wc : va_W} {S : Type} {pc' : S → va_W} {T : u_T} {N ci : Nat} {fs : List Value}
/-- invokevirtual, an int comes back -/
theorem lc_VI {post : Int32 → S → Prop} (Sx : CallFix p m c cc nL s args Ts own) (hM : CtI l y ws rm dC dI cy (.ref b :: As) wc pc' post) (cw : CallW R s args own C index y bytes maxL ret ws rm 0 0 n)
    (hK : va_K (dC, dI) vwCl (vTy cy) s) (hP : va_P (dC, dI) vwCl pic H) (hD : va_D A pic) (hS : va_S A s.heap H locs) (hA : ∀ q : Nat, s.heap.size ≤ q → A q)
    (isC : List Nat) (ms : List (Option Nat)) (hms : chk isC ms = true) (hC : isC.map (fun i => pic[i]?) = wc.map some) (hnd : va_nd isC = true) (hc : vwCl[ci]? = some (C, T, N)) (h0 : wc[0]? = some (b, .inr (ci, fs))) (had : ∀ u, (pc' u).map (fun q => q.1) = wc.map (fun q => q.1))
    (hn : As.length = n) (hsize : ls.size = nL) (hst : st = As.reverse ++ .ref b :: rest) (hrest : (rest.map fun v => v.category).sum ≤ 8) (hcz : cells ≤ R.cells) (hsz : slots ≤ R.slots) (hdg : decode cc pc = .ok (.invokevirtual index, 3))
    (kk : ∀ (r : Int32) (u : S) (H1 : Heap) (locs1 : List Loc), post r u → va_P (dC, dI) vwCl (bld pic (pc' u) ms) H1 → va_D A (bld pic (pc' u) ms) → va_S A s.heap H1 locs1 → W p l e R s m args below meth c H1 locs1 cells slots Q (F0 m (pc + 3) ls (.int r :: rest))) :
    W p l e R s m args below meth c H locs cells slots Q (F0 m pc ls st) := by
  have hF := va_free hD hS hA isC hC
  refine va_calli (va_runV (As := As) (rest := rest) Sx (hM H.size) cw (ca_preV hK hP hD hC hnd hc h0) rfl hn hsize hst (lv_room (m := m) (pc := pc) (ls := ls) (rest := st) hrest) hdg ⟨hcz, hsz⟩) hS (fun q _ h => hF q h) hF (fun r u t H1 locs1 ht hvm hw hB hz hk hS1 => ?_)
  rw [ht] at hB
  obtain ⟨hP2, hD2⟩ := my_joinB hP hD hC hms hk hB (had u)
  exact kk r u H1 locs1 hw hP2 hD2 hS1
theorem lc_VL {post : Int64 → S → Prop} (Sx : CallFix p m c cc nL s args Ts own) (hM : CtL l y ws rm dC dI cy (.ref b :: As) wc pc' post) (cw : CallW R s args own C index y bytes maxL ret ws rm 0 0 n)
    (hK : va_K (dC, dI) vwCl (vTy cy) s) (hP : va_P (dC, dI) vwCl pic H) (hD : va_D A pic) (hS : va_S A s.heap H locs) (hA : ∀ q : Nat, s.heap.size ≤ q → A q)
    (isC : List Nat) (ms : List (Option Nat)) (hms : chk isC ms = true) (hC : isC.map (fun i => pic[i]?) = wc.map some) (hnd : va_nd isC = true) (hc : vwCl[ci]? = some (C, T, N)) (h0 : wc[0]? = some (b, .inr (ci, fs))) (had : ∀ u, (pc' u).map (fun q => q.1) = wc.map (fun q => q.1))
    (hn : As.length = n) (hsize : ls.size = nL) (hst : st = As.reverse ++ .ref b :: rest) (hrest : (rest.map fun v => v.category).sum ≤ 8) (hcz : cells ≤ R.cells) (hsz : slots ≤ R.slots) (hdg : decode cc pc = .ok (.invokevirtual index, 3))
    (kk : ∀ (r : Int64) (u : S) (H1 : Heap) (locs1 : List Loc), post r u → va_P (dC, dI) vwCl (bld pic (pc' u) ms) H1 → va_D A (bld pic (pc' u) ms) → va_S A s.heap H1 locs1 → W p l e R s m args below meth c H1 locs1 cells slots Q (F0 m (pc + 3) ls (.long r :: rest))) :
    W p l e R s m args below meth c H locs cells slots Q (F0 m pc ls st) := by
  have hF := va_free hD hS hA isC hC
  refine va_calll (va_runV (As := As) (rest := rest) Sx (hM H.size) cw (ca_preV hK hP hD hC hnd hc h0) rfl hn hsize hst (lv_room (m := m) (pc := pc) (ls := ls) (rest := st) hrest) hdg ⟨hcz, hsz⟩) hS (fun q _ h => hF q h) hF (fun r u t H1 locs1 ht hvm hw hB hz hk hS1 => ?_)
  rw [ht] at hB
  obtain ⟨hP2, hD2⟩ := my_joinB hP hD hC hms hk hB (had u)
  exact kk r u H1 locs1 hw hP2 hD2 hS1
theorem lc_VV {post : S → Prop} (Sx : CallFix p m c cc nL s args Ts own) (hM : CtV l y ws rm dC dI cy (.ref b :: As) wc pc' post) (cw : CallW R s args own C index y bytes maxL ret ws rm 0 0 n)
    (hK : va_K (dC, dI) vwCl (vTy cy) s) (hP : va_P (dC, dI) vwCl pic H) (hD : va_D A pic) (hS : va_S A s.heap H locs) (hA : ∀ q : Nat, s.heap.size ≤ q → A q)
    (isC : List Nat) (ms : List (Option Nat)) (hms : chk isC ms = true) (hC : isC.map (fun i => pic[i]?) = wc.map some) (hnd : va_nd isC = true) (hc : vwCl[ci]? = some (C, T, N)) (h0 : wc[0]? = some (b, .inr (ci, fs))) (had : ∀ u, (pc' u).map (fun q => q.1) = wc.map (fun q => q.1))
    (hn : As.length = n) (hsize : ls.size = nL) (hst : st = As.reverse ++ .ref b :: rest) (hrest : (rest.map fun v => v.category).sum ≤ 8) (hcz : cells ≤ R.cells) (hsz : slots ≤ R.slots) (hdg : decode cc pc = .ok (.invokevirtual index, 3))
    (kk : ∀ (u : S) (H1 : Heap) (locs1 : List Loc), post u → va_P (dC, dI) vwCl (bld pic (pc' u) ms) H1 → va_D A (bld pic (pc' u) ms) → va_S A s.heap H1 locs1 → W p l e R s m args below meth c H1 locs1 cells slots Q (F0 m (pc + 3) ls rest)) :
    W p l e R s m args below meth c H locs cells slots Q (F0 m pc ls st) := by
  have hF := va_free hD hS hA isC hC
  refine va_callv (va_runV (As := As) (rest := rest) Sx (hM H.size) cw (ca_preV hK hP hD hC hnd hc h0) rfl hn hsize hst (lv_room (m := m) (pc := pc) (ls := ls) (rest := st) hrest) hdg ⟨hcz, hsz⟩) hS (fun q _ h => hF q h) hF (fun u t H1 locs1 ht hvm hw hB hz hk hS1 => ?_)
  rw [ht] at hB
  obtain ⟨hP2, hD2⟩ := my_joinB hP hD hC hms hk hB (had u)
  exact kk u H1 locs1 hw hP2 hD2 hS1
theorem lc_VR {post : S → Prop} {ad : Nat} (Sx : CallFix p m c cc nL s args Ts own) (hM : CtR l y ws rm dC dI cy (.ref b :: As) wc pc' ad post) (cw : CallW R s args own C index y bytes maxL ret ws rm 0 0 n)
    (hK : va_K (dC, dI) vwCl (vTy cy) s) (hP : va_P (dC, dI) vwCl pic H) (hD : va_D A pic) (hS : va_S A s.heap H locs) (hA : ∀ q : Nat, s.heap.size ≤ q → A q)
    (isC : List Nat) (ms : List (Option Nat)) (hms : chk isC ms = true) (hC : isC.map (fun i => pic[i]?) = wc.map some) (hnd : va_nd isC = true) (hc : vwCl[ci]? = some (C, T, N)) (h0 : wc[0]? = some (b, .inr (ci, fs))) (had : ∀ u, (pc' u).map (fun q => q.1) = wc.map (fun q => q.1))
    (hn : As.length = n) (hsize : ls.size = nL) (hst : st = As.reverse ++ .ref b :: rest) (hrest : (rest.map fun v => v.category).sum ≤ 8) (hcz : cells ≤ R.cells) (hsz : slots ≤ R.slots) (hdg : decode cc pc = .ok (.invokevirtual index, 3))
    (kk : ∀ (u : S) (H1 : Heap) (locs1 : List Loc), post u → va_P (dC, dI) vwCl (bld pic (pc' u) ms) H1 → va_D A (bld pic (pc' u) ms) → va_S A s.heap H1 locs1 → W p l e R s m args below meth c H1 locs1 cells slots Q (F0 m (pc + 3) ls (.ref ad :: rest))) :
    W p l e R s m args below meth c H locs cells slots Q (F0 m pc ls st) := by
  have hF := va_free hD hS hA isC hC
  refine va_callr (va_runV (As := As) (rest := rest) Sx (hM H.size) cw (ca_preV hK hP hD hC hnd hc h0) rfl hn hsize hst (lv_room (m := m) (pc := pc) (ls := ls) (rest := st) hrest) hdg ⟨hcz, hsz⟩) hS (fun q _ h => hF q h) hF (fun u a t H1 locs1 ht hvm hw hB hz hk hS1 => ?_)
  obtain ⟨rfl, hB⟩ := hB
  rw [ht] at hB
  obtain ⟨hP2, hD2⟩ := my_joinB hP hD hC hms hk hB (had u)
  exact kk u H1 locs1 hw hP2 hD2 hS1
/-- invokestatic -/
theorem lc_SI {post : Int32 → S → Prop} (Sx : CallFix p m c cc nL s args Ts own) (hM : CtI l y ws rm dC dI cy As wc pc' post) (cw : CallB R s args own index y bytes maxL ret ws rm 0 0 n ∧ (Cond.static y).before args s = true)
    (hK : va_K (dC, dI) vwCl (vTy cy) s) (hP : va_P (dC, dI) vwCl pic H) (hD : va_D A pic) (hS : va_S A s.heap H locs) (hA : ∀ q : Nat, s.heap.size ≤ q → A q)
    (isC : List Nat) (ms : List (Option Nat)) (hms : chk isC ms = true) (hC : isC.map (fun i => pic[i]?) = wc.map some) (hnd : va_nd isC = true) (had : ∀ u, (pc' u).map (fun q => q.1) = wc.map (fun q => q.1))
    (hn : As.length = n) (hsize : ls.size = nL) (hst : st = As.reverse ++ rest) (hrest : (rest.map fun v => v.category).sum ≤ 8) (hcz : cells ≤ R.cells) (hsz : slots ≤ R.slots) (hdg : decode cc pc = .ok (.invokestatic index, 3))
    (kk : ∀ (r : Int32) (u : S) (H1 : Heap) (locs1 : List Loc), post r u → va_P (dC, dI) vwCl (bld pic (pc' u) ms) H1 → va_D A (bld pic (pc' u) ms) → va_S A s.heap H1 locs1 → W p l e R s m args below meth c H1 locs1 cells slots Q (F0 m (pc + 3) ls (.int r :: rest))) :
    W p l e R s m args below meth c H locs cells slots Q (F0 m pc ls st) := by
  have hF := va_free hD hS hA isC hC
  refine va_calli (va_runS (As := As) (rest := rest) Sx (hM H.size) cw (ca_preS hK hP hD hC hnd) rfl hn hsize hst (lv_room (m := m) (pc := pc) (ls := ls) (rest := st) hrest) hdg ⟨hcz, hsz⟩) hS (fun q _ h => hF q h) hF (fun r u t H1 locs1 ht hvm hw hB hz hk hS1 => ?_)
  rw [ht] at hB
  obtain ⟨hP2, hD2⟩ := my_joinB hP hD hC hms hk hB (had u)
  exact kk r u H1 locs1 hw hP2 hD2 hS1
end
