/-! MY KIT: contracts that take any post, calls that put what came back in its place, labels -/
def vTy (cy : Nat → ClassId) : List (ClassId × FieldType) := [(cy 0, .int), (cy 1, .long), (cy 2, .boolean), (cy 3, .object "AbelianPowers$Word"), (cy 4, .object "AbelianPowers$Row")]
def adr (h : Nat → Nat) (is : List Nat) : Nat → Nat := fun i => h (is.getD i 0)
def setL : va_W → List Nat → va_W → va_W
  | w, i :: is, x :: xs => setL (w.set i x) is xs
  | w, _, _ => w
theorem setL_get : ∀ (is : List Nat) (xs ws : va_W), is.length = xs.length → ∀ (k : Nat) (q : Nat × va_E), (setL ws is xs)[k]? = some q → (∃ j : Nat, is[j]? = some k ∧ xs[j]? = some q) ∨ (ws[k]? = some q ∧ k ∉ is)
  | [], [], ws, _, k, q, h => Or.inr ⟨h, List.not_mem_nil⟩
  | [], _ :: _, _, hl, _, _, _ => by simp at hl
  | _ :: _, [], _, hl, _, _, _ => by simp at hl
  | i :: is, x :: xs, ws, hl, k, q, h => by
    have h' : (setL (ws.set i x) is xs)[k]? = some q := h
    rcases setL_get is xs (ws.set i x) (by simpa using hl) k q h' with ⟨j, h1, h2⟩ | ⟨h1, h2⟩
    · exact Or.inl ⟨j + 1, by simpa using h1, by simpa using h2⟩
    · rw [List.getElem?_set] at h1
      by_cases e : i = k
      · subst e
        rw [if_pos rfl] at h1
        by_cases e2 : i < ws.length
        · rw [if_pos e2] at h1
          exact Or.inl ⟨0, rfl, by simpa using h1⟩
        · rw [if_neg e2] at h1
          cases h1
      · rw [if_neg e] at h1
        exact Or.inr ⟨h1, by simp [h2, Ne.symm e]⟩
theorem my_at {is : List Nat} {ws w : va_W} (hs : is.map (fun i => ws[i]?) = w.map some) (k : Nat) (q : Nat × va_E) (hq : w[k]? = some q) : ∃ i, is[k]? = some i ∧ ws[i]? = some q := by
  have h1 : (is.map (fun i => ws[i]?))[k]? = some (some q) := by rw [hs, List.getElem?_map, hq]; rfl
  rw [List.getElem?_map] at h1
  cases hi : is[k]? with
  | none => rw [hi] at h1; cases h1
  | some i => rw [hi] at h1; exact ⟨i, rfl, Option.some.inj h1⟩
theorem my_sub {D : va_G} {cl : List vw_C} {ws wc : va_W} {H : Heap} (hP : va_P D cl ws H) {isC : List Nat} (hC : isC.map (fun i => ws[i]?) = wc.map some) : va_P D cl wc H := fun k q hq => by
  obtain ⟨i, -, hi⟩ := my_at hC k q hq
  exact hP i q hi
theorem my_join {D : va_G} {cl : List vw_C} {A : Nat → Prop} {ws wc w1 : va_W} {H H1 : Heap} (hP : va_P D cl ws H) (hD : va_D A ws) {isC : List Nat} (hC : isC.map (fun i => ws[i]?) = wc.map some)
    (hk : ∀ q : Nat, q < H.size → ¬ va_A wc H.size q → H1[q]? = H[q]?) (hP1 : va_P D cl w1 H1) (ha : w1.map (fun q => q.1) = wc.map (fun q => q.1)) : va_P D cl (setL ws isC w1) H1 ∧ va_D A (setL ws isC w1) := by
  have hlen : isC.length = w1.length := by
    have e1 := congrArg List.length hC
    have e2 := congrArg List.length ha
    simp at e1 e2
    omega
  have had : ∀ (k : Nat) (q : Nat × va_E), (setL ws isC w1)[k]? = some q → ∃ x, ws[k]? = some (q.1, x) := by
    intro k q hq
    rcases setL_get isC w1 ws hlen k q hq with ⟨j, h1, h2⟩ | ⟨h1, -⟩
    · have h3 : (w1.map (fun q => q.1))[j]? = some q.1 := by rw [List.getElem?_map, h2]; rfl
      rw [ha, List.getElem?_map] at h3
      cases hw : wc[j]? with
      | none => rw [hw] at h3; cases h3
      | some z =>
        rw [hw] at h3
        obtain ⟨i, h4, h5⟩ := my_at hC j z hw
        rw [h1] at h4
        cases h4
        have h6 : z.1 = q.1 := Option.some.inj h3
        exact ⟨z.2, by rw [h5, ← h6]⟩
    · exact ⟨q.2, h1⟩
  refine ⟨fun k q hq => ?_, fun i j x y hx hy e => ?_, fun k q hq => ?_⟩
  · rcases setL_get isC w1 ws hlen k q hq with ⟨j, h1, h2⟩ | ⟨h1, h2⟩
    · exact hP1 j q h2
    · refine (hP k q h1).kept (hk q.1 (hP k q h1).lt ?_)
      rintro (⟨k2, e, he⟩ | hge)
      · obtain ⟨i, h4, h5⟩ := my_at hC k2 _ he
        have : i = k := hD.1 i k _ _ h5 h1 rfl
        subst this
        exact h2 (List.mem_of_getElem? h4)
      · exact absurd (hP k q h1).lt (Nat.not_lt.mpr hge)
  · obtain ⟨x', hx'⟩ := had i x hx
    obtain ⟨y', hy'⟩ := had j y hy
    exact hD.1 i j _ _ hx' hy' e
  · obtain ⟨x', hx'⟩ := had k q hq
    exact hD.2 k (q.1, x') hx'
theorem va_Pe {D : va_G} {cl : List vw_C} {ws ws' : va_W} {H : Heap} (h : va_P D cl ws H) (e : ws = ws') : va_P D cl ws' H := e ▸ h
theorem va_De {A : Nat → Prop} {ws ws' : va_W} (h : va_D A ws) (e : ws = ws') : va_D A ws' := e ▸ h
/-- a contract's start -/
def Ct0 (dC : Nat → ClassId) (dI : Nat → Nat → Nat) (cy : Nat → ClassId) (pic : va_W) (sz : Nat) (U : State) : Prop := U.heap.size = sz ∧ va_P (dC, dI) vwCl pic U.heap ∧ va_K (dC, dI) vwCl (vTy cy) U ∧ va_D (fun _ => True) pic
abbrev CtV (l : Launch) (y : MethodName) (ws : List Cond) (rm : Room) (dC : Nat → ClassId) (dI : Nat → Nat → Nat) (cy : Nat → ClassId) (av : List Value) (pic : va_W) {S : Type} (pic' : S → va_W) (post : S → Prop) : Prop := ∀ sz : Nat, Met l y ws rm (va_Pc av (Ct0 dC dI cy pic sz)) (va_Qv post (fun u t => va_P (dC, dI) vwCl (pic' u) t.heap) (va_A pic sz)) 0 0 (va_A pic sz)
abbrev CtI (l : Launch) (y : MethodName) (ws : List Cond) (rm : Room) (dC : Nat → ClassId) (dI : Nat → Nat → Nat) (cy : Nat → ClassId) (av : List Value) (pic : va_W) {S : Type} (pic' : S → va_W) (post : Int32 → S → Prop) : Prop := ∀ sz : Nat, Met l y ws rm (va_Pc av (Ct0 dC dI cy pic sz)) (va_Qi post (fun u t => va_P (dC, dI) vwCl (pic' u) t.heap) (va_A pic sz)) 0 0 (va_A pic sz)
abbrev CtL (l : Launch) (y : MethodName) (ws : List Cond) (rm : Room) (dC : Nat → ClassId) (dI : Nat → Nat → Nat) (cy : Nat → ClassId) (av : List Value) (pic : va_W) {S : Type} (pic' : S → va_W) (post : Int64 → S → Prop) : Prop := ∀ sz : Nat, Met l y ws rm (va_Pc av (Ct0 dC dI cy pic sz)) (va_Ql post (fun u t => va_P (dC, dI) vwCl (pic' u) t.heap) (va_A pic sz)) 0 0 (va_A pic sz)
abbrev CtR (l : Launch) (y : MethodName) (ws : List Cond) (rm : Room) (dC : Nat → ClassId) (dI : Nat → Nat → Nat) (cy : Nat → ClassId) (av : List Value) (pic : va_W) {S : Type} (pic' : S → va_W) (ad : Nat) (post : S → Prop) : Prop := ∀ sz : Nat, Met l y ws rm (va_Pc av (Ct0 dC dI cy pic sz)) (va_Qr post (fun u a t => a = ad ∧ va_P (dC, dI) vwCl (pic' u) t.heap) (va_A pic sz)) 0 0 (va_A pic sz)
theorem Ct0_blind (dC : Nat → ClassId) (dI : Nat → Nat → Nat) (cy : Nat → ClassId) (av : List Value) (pic : va_W) (sz : Nat) : FrameBlind (va_Pc av (Ct0 dC dI cy pic sz)) := fun a U g mk q => by
  obtain ⟨q0, q1, qP, qK, qD⟩ := q
  exact ⟨q0, q1, qP, va_K.moved (u := U) (U := U.calling g mk a) (Vm.Alike.refl U.vm) qK, qD⟩
/-- what holds of the machine all through a method -/
def cx (p : Program) (s : State) (m : MethodId) (args : Array Value) (meth : Method) (c : Code) (cc : ByteArray) (maxL : Nat) (ret : Option FieldType) (ws : List Cond) (own : String) (dC : Nat → ClassId) (dI : Nat → Nat → Nat) (cy : Nat → ClassId) (A : Nat → Prop) : Prop :=
  p.tables.exec = Jvm.exec ∧ c.code = cc ∧ meth.sig.returnType = ret ∧ c.maxLocals = maxL ∧ s.vm.findClass own = some m.cls ∧ (∀ w ∈ ws, w.before args s = true) ∧ meth.locks = false ∧ va_K (dC, dI) vwCl (vTy cy) s ∧ ∀ q : Nat, s.heap.size ≤ q → A q
section
variable {l : Launch} {y : MethodName} {ws ws' : List Cond} {rm : Room} {dC : Nat → ClassId} {dI : Nat → Nat → Nat} {cy : Nat → ClassId} {av : List Value} {pic : va_W} {S : Type} {pic' : S → va_W} {cc : ByteArray} {maxL : Nat}
theorem ct_of {Qc : Nat → Array Value → State → Outcome → State → Prop} {Q1 : (Nat → Prop) → Array Value → State → Outcome → State → Prop} {ret : Option FieldType} (hQ : ∀ sz, Qc sz = Q1 (va_A pic sz)) (hy : plainName y.cls = true) (hw : ws = Cond.code y cc maxL ret :: ws') (hav : (lg_sl av).length ≤ maxL)
    (body : ∀ (p : Program) (e : Env) (s : State) (m : MethodId) (below : List Frame) (meth : Method) (c : Code) (A : Nat → Prop) (ls : Array Slot), cx p s m av.toArray meth c cc maxL ret ws y.cls dC dI cy A → va_P (dC, dI) vwCl pic s.heap → va_D A pic → va_S A s.heap s.heap [] → lv_has ls maxL (lv_args 0 av) →
      W p l e rm s m av.toArray below meth c s.heap [] 0 0 (MQ below (Q1 A) av.toArray s 0 0 A) (F0 m 0 ls [])) : ∀ sz : Nat, Met l y ws rm (va_Pc av (Ct0 dC dI cy pic sz)) (Qc sz) 0 0 (va_A pic sz) := by
  intro sz
  refine Met.ofW (cc := cc) (maxL := maxL) (ret := ret) hy hw ?_
  intro p e s m args below meth c s₁ B hml hv
  obtain ⟨rfl, hsz, hP, hK, hD0⟩ := hv
  subst hsz
  rw [hQ]
  have hl := lv_entry av (n := maxL) hav
  rw [lg_entry_eq]
  exact body p e s m below meth c (va_A pic s.heap.size) _ ⟨B.exec, B.bytes, B.returns, hml, findClass_of_methodNamed B.named, atoms_spec (ws := ws) B.pre, B.notSynchronized, hK, fun q h => Or.inr h⟩ hP hD0.self va_S.rf hl
theorem ct_ofV {post : S → Prop} (hy : plainName y.cls = true) (hw : ws = Cond.code y cc maxL none :: ws') (hav : (lg_sl av).length ≤ maxL)
    (body : ∀ (p : Program) (e : Env) (s : State) (m : MethodId) (below : List Frame) (meth : Method) (c : Code) (A : Nat → Prop) (ls : Array Slot), cx p s m av.toArray meth c cc maxL none ws y.cls dC dI cy A → va_P (dC, dI) vwCl pic s.heap → va_D A pic → va_S A s.heap s.heap [] → lv_has ls maxL (lv_args 0 av) →
      W p l e rm s m av.toArray below meth c s.heap [] 0 0 (MQ below (va_Qv post (fun u t => va_P (dC, dI) vwCl (pic' u) t.heap) A) av.toArray s 0 0 A) (F0 m 0 ls [])) : CtV l y ws rm dC dI cy av pic pic' post :=
  ct_of (Q1 := fun A => va_Qv post (fun u t => va_P (dC, dI) vwCl (pic' u) t.heap) A) (fun _ => rfl) hy hw hav body
theorem ct_ofI {post : Int32 → S → Prop} {ret : Option FieldType} (hy : plainName y.cls = true) (hw : ws = Cond.code y cc maxL ret :: ws') (hav : (lg_sl av).length ≤ maxL)
    (body : ∀ (p : Program) (e : Env) (s : State) (m : MethodId) (below : List Frame) (meth : Method) (c : Code) (A : Nat → Prop) (ls : Array Slot), cx p s m av.toArray meth c cc maxL ret ws y.cls dC dI cy A → va_P (dC, dI) vwCl pic s.heap → va_D A pic → va_S A s.heap s.heap [] → lv_has ls maxL (lv_args 0 av) →
      W p l e rm s m av.toArray below meth c s.heap [] 0 0 (MQ below (va_Qi post (fun u t => va_P (dC, dI) vwCl (pic' u) t.heap) A) av.toArray s 0 0 A) (F0 m 0 ls [])) : CtI l y ws rm dC dI cy av pic pic' post :=
  ct_of (Q1 := fun A => va_Qi post (fun u t => va_P (dC, dI) vwCl (pic' u) t.heap) A) (fun _ => rfl) hy hw hav body
theorem ct_ofL {post : Int64 → S → Prop} (hy : plainName y.cls = true) (hw : ws = Cond.code y cc maxL (some .long) :: ws') (hav : (lg_sl av).length ≤ maxL)
    (body : ∀ (p : Program) (e : Env) (s : State) (m : MethodId) (below : List Frame) (meth : Method) (c : Code) (A : Nat → Prop) (ls : Array Slot), cx p s m av.toArray meth c cc maxL (some .long) ws y.cls dC dI cy A → va_P (dC, dI) vwCl pic s.heap → va_D A pic → va_S A s.heap s.heap [] → lv_has ls maxL (lv_args 0 av) →
      W p l e rm s m av.toArray below meth c s.heap [] 0 0 (MQ below (va_Ql post (fun u t => va_P (dC, dI) vwCl (pic' u) t.heap) A) av.toArray s 0 0 A) (F0 m 0 ls [])) : CtL l y ws rm dC dI cy av pic pic' post :=
  ct_of (Q1 := fun A => va_Ql post (fun u t => va_P (dC, dI) vwCl (pic' u) t.heap) A) (fun _ => rfl) hy hw hav body
theorem ct_ofR {post : S → Prop} {ad : Nat} {ret : Option FieldType} (hy : plainName y.cls = true) (hw : ws = Cond.code y cc maxL ret :: ws') (hav : (lg_sl av).length ≤ maxL)
    (body : ∀ (p : Program) (e : Env) (s : State) (m : MethodId) (below : List Frame) (meth : Method) (c : Code) (A : Nat → Prop) (ls : Array Slot), cx p s m av.toArray meth c cc maxL ret ws y.cls dC dI cy A → va_P (dC, dI) vwCl pic s.heap → va_D A pic → va_S A s.heap s.heap [] → lv_has ls maxL (lv_args 0 av) →
      W p l e rm s m av.toArray below meth c s.heap [] 0 0 (MQ below (va_Qr post (fun u a t => a = ad ∧ va_P (dC, dI) vwCl (pic' u) t.heap) A) av.toArray s 0 0 A) (F0 m 0 ls [])) : CtR l y ws rm dC dI cy av pic pic' ad post :=
  ct_of (Q1 := fun A => va_Qr post (fun u a t => a = ad ∧ va_P (dC, dI) vwCl (pic' u) t.heap) A) (fun _ => rfl) hy hw hav body
end
section
variable {p : Program} {l : Launch} {e : Env} {R : Room} {s : State} {m : MethodId} {args : Array Value} {below : List Frame} {meth : Method} {c : Code} {H : Heap} {locs : List Loc} {Q : State → Prop} {dC : Nat → ClassId} {dI : Nat → Nat → Nat} {cy : Nat → ClassId} {A : Nat → Prop}
variable {y : MethodName} {bytes cc : ByteArray} {maxL nL n index : Nat} {ret : Option FieldType} {ws : List Cond} {rm : Room} {Ts : List Cond} {own C : String} {b : Addr} {As rest st : List Value} {pc : Nat} {ls : Array Slot} {pic wc : va_W} {S : Type} {pc' : S → va_W} {T : u_T} {N ci : Nat} {fs : List Value}
theorem ca_preV (hK : va_K (dC, dI) vwCl (vTy cy) s) (hP : va_P (dC, dI) vwCl pic H) (hD : va_D A pic) {isC : List Nat} (hC : isC.map (fun i => pic[i]?) = wc.map some) (hnd : va_nd isC = true) (hc : vwCl[ci]? = some (C, T, N)) (h0 : wc[0]? = some (b, .inr (ci, fs))) : PreV s H C b (va_Pc (.ref b :: As) (Ct0 dC dI cy wc H.size)) As :=
  ⟨Ct0_blind dC dI cy _ wc H.size, va_recv hK (my_sub hP hC) hc h0, fun U hU hW => ⟨rfl, by rw [hU], by rw [hU]; exact my_sub hP hC, va_K.moved hW.alike hK, (hD.sub isC hnd hC).weaken (fun _ _ _ _ => trivial)⟩⟩
theorem ca_preS (hK : va_K (dC, dI) vwCl (vTy cy) s) (hP : va_P (dC, dI) vwCl pic H) (hD : va_D A pic) {isC : List Nat} (hC : isC.map (fun i => pic[i]?) = wc.map some) (hnd : va_nd isC = true) : PreS s H (va_Pc As (Ct0 dC dI cy wc H.size)) As :=
  ⟨Ct0_blind dC dI cy _ wc H.size, fun U hU hW => ⟨rfl, by rw [hU], by rw [hU]; exact my_sub hP hC, va_K.moved hW.alike hK, (hD.sub isC hnd hC).weaken (fun _ _ _ _ => trivial)⟩⟩
/-- invokevirtual, an int comes back -/
theorem ca_VI {post : Int32 → S → Prop} (Sx : CallFix p m c cc nL s args Ts own) (hM : CtI l y ws rm dC dI cy (.ref b :: As) wc pc' post) (cw : CallW R s args own C index y bytes maxL ret ws rm 0 0 n)
    (hK : va_K (dC, dI) vwCl (vTy cy) s) (hP : va_P (dC, dI) vwCl pic H) (hD : va_D A pic) (hS : va_S A s.heap H locs) (hA : ∀ q : Nat, s.heap.size ≤ q → A q)
    (isC : List Nat) (hC : isC.map (fun i => pic[i]?) = wc.map some) (hnd : va_nd isC = true) (hc : vwCl[ci]? = some (C, T, N)) (h0 : wc[0]? = some (b, .inr (ci, fs))) (had : ∀ u, (pc' u).map (fun q => q.1) = wc.map (fun q => q.1))
    (hn : As.length = n) (hsize : ls.size = nL) (hst : st = As.reverse ++ .ref b :: rest) (hrest : (rest.map fun v => v.category).sum ≤ 8) (hdg : decode cc pc = .ok (.invokevirtual index, 3))
    (kk : ∀ (r : Int32) (u : S) (H1 : Heap) (locs1 : List Loc), post r u → va_P (dC, dI) vwCl (setL pic isC (pc' u)) H1 → va_D A (setL pic isC (pc' u)) → va_S A s.heap H1 locs1 → W p l e R s m args below meth c H1 locs1 0 0 Q (F0 m (pc + 3) ls (.int r :: rest))) :
    W p l e R s m args below meth c H locs 0 0 Q (F0 m pc ls st) := by
  have hF := va_free hD hS hA isC hC
  refine va_calli (va_runV (As := As) (rest := rest) Sx (hM H.size) cw (ca_preV hK hP hD hC hnd hc h0) rfl hn hsize hst (lv_room (m := m) (pc := pc) (ls := ls) (rest := st) hrest) hdg ⟨Nat.zero_le _, Nat.zero_le _⟩) hS (fun q _ h => hF q h) hF (fun r u t H1 locs1 ht hvm hw hB hz hk hS1 => ?_)
  rw [ht] at hB
  obtain ⟨hP2, hD2⟩ := my_join hP hD hC hk hB (had u)
  exact kk r u H1 locs1 hw hP2 hD2 hS1
theorem ca_VL {post : Int64 → S → Prop} (Sx : CallFix p m c cc nL s args Ts own) (hM : CtL l y ws rm dC dI cy (.ref b :: As) wc pc' post) (cw : CallW R s args own C index y bytes maxL ret ws rm 0 0 n)
    (hK : va_K (dC, dI) vwCl (vTy cy) s) (hP : va_P (dC, dI) vwCl pic H) (hD : va_D A pic) (hS : va_S A s.heap H locs) (hA : ∀ q : Nat, s.heap.size ≤ q → A q)
    (isC : List Nat) (hC : isC.map (fun i => pic[i]?) = wc.map some) (hnd : va_nd isC = true) (hc : vwCl[ci]? = some (C, T, N)) (h0 : wc[0]? = some (b, .inr (ci, fs))) (had : ∀ u, (pc' u).map (fun q => q.1) = wc.map (fun q => q.1))
    (hn : As.length = n) (hsize : ls.size = nL) (hst : st = As.reverse ++ .ref b :: rest) (hrest : (rest.map fun v => v.category).sum ≤ 8) (hdg : decode cc pc = .ok (.invokevirtual index, 3))
    (kk : ∀ (r : Int64) (u : S) (H1 : Heap) (locs1 : List Loc), post r u → va_P (dC, dI) vwCl (setL pic isC (pc' u)) H1 → va_D A (setL pic isC (pc' u)) → va_S A s.heap H1 locs1 → W p l e R s m args below meth c H1 locs1 0 0 Q (F0 m (pc + 3) ls (.long r :: rest))) :
    W p l e R s m args below meth c H locs 0 0 Q (F0 m pc ls st) := by
  have hF := va_free hD hS hA isC hC
  refine va_calll (va_runV (As := As) (rest := rest) Sx (hM H.size) cw (ca_preV hK hP hD hC hnd hc h0) rfl hn hsize hst (lv_room (m := m) (pc := pc) (ls := ls) (rest := st) hrest) hdg ⟨Nat.zero_le _, Nat.zero_le _⟩) hS (fun q _ h => hF q h) hF (fun r u t H1 locs1 ht hvm hw hB hz hk hS1 => ?_)
  rw [ht] at hB
  obtain ⟨hP2, hD2⟩ := my_join hP hD hC hk hB (had u)
  exact kk r u H1 locs1 hw hP2 hD2 hS1
theorem ca_VV {post : S → Prop} (Sx : CallFix p m c cc nL s args Ts own) (hM : CtV l y ws rm dC dI cy (.ref b :: As) wc pc' post) (cw : CallW R s args own C index y bytes maxL ret ws rm 0 0 n)
    (hK : va_K (dC, dI) vwCl (vTy cy) s) (hP : va_P (dC, dI) vwCl pic H) (hD : va_D A pic) (hS : va_S A s.heap H locs) (hA : ∀ q : Nat, s.heap.size ≤ q → A q)
    (isC : List Nat) (hC : isC.map (fun i => pic[i]?) = wc.map some) (hnd : va_nd isC = true) (hc : vwCl[ci]? = some (C, T, N)) (h0 : wc[0]? = some (b, .inr (ci, fs))) (had : ∀ u, (pc' u).map (fun q => q.1) = wc.map (fun q => q.1))
    (hn : As.length = n) (hsize : ls.size = nL) (hst : st = As.reverse ++ .ref b :: rest) (hrest : (rest.map fun v => v.category).sum ≤ 8) (hdg : decode cc pc = .ok (.invokevirtual index, 3))
    (kk : ∀ (u : S) (H1 : Heap) (locs1 : List Loc), post u → va_P (dC, dI) vwCl (setL pic isC (pc' u)) H1 → va_D A (setL pic isC (pc' u)) → va_S A s.heap H1 locs1 → W p l e R s m args below meth c H1 locs1 0 0 Q (F0 m (pc + 3) ls rest)) :
    W p l e R s m args below meth c H locs 0 0 Q (F0 m pc ls st) := by
  have hF := va_free hD hS hA isC hC
  refine va_callv (va_runV (As := As) (rest := rest) Sx (hM H.size) cw (ca_preV hK hP hD hC hnd hc h0) rfl hn hsize hst (lv_room (m := m) (pc := pc) (ls := ls) (rest := st) hrest) hdg ⟨Nat.zero_le _, Nat.zero_le _⟩) hS (fun q _ h => hF q h) hF (fun u t H1 locs1 ht hvm hw hB hz hk hS1 => ?_)
  rw [ht] at hB
  obtain ⟨hP2, hD2⟩ := my_join hP hD hC hk hB (had u)
  exact kk u H1 locs1 hw hP2 hD2 hS1
theorem ca_VR {post : S → Prop} {ad : Nat} (Sx : CallFix p m c cc nL s args Ts own) (hM : CtR l y ws rm dC dI cy (.ref b :: As) wc pc' ad post) (cw : CallW R s args own C index y bytes maxL ret ws rm 0 0 n)
    (hK : va_K (dC, dI) vwCl (vTy cy) s) (hP : va_P (dC, dI) vwCl pic H) (hD : va_D A pic) (hS : va_S A s.heap H locs) (hA : ∀ q : Nat, s.heap.size ≤ q → A q)
    (isC : List Nat) (hC : isC.map (fun i => pic[i]?) = wc.map some) (hnd : va_nd isC = true) (hc : vwCl[ci]? = some (C, T, N)) (h0 : wc[0]? = some (b, .inr (ci, fs))) (had : ∀ u, (pc' u).map (fun q => q.1) = wc.map (fun q => q.1))
    (hn : As.length = n) (hsize : ls.size = nL) (hst : st = As.reverse ++ .ref b :: rest) (hrest : (rest.map fun v => v.category).sum ≤ 8) (hdg : decode cc pc = .ok (.invokevirtual index, 3))
    (kk : ∀ (u : S) (H1 : Heap) (locs1 : List Loc), post u → va_P (dC, dI) vwCl (setL pic isC (pc' u)) H1 → va_D A (setL pic isC (pc' u)) → va_S A s.heap H1 locs1 → W p l e R s m args below meth c H1 locs1 0 0 Q (F0 m (pc + 3) ls (.ref ad :: rest))) :
    W p l e R s m args below meth c H locs 0 0 Q (F0 m pc ls st) := by
  have hF := va_free hD hS hA isC hC
  refine va_callr (va_runV (As := As) (rest := rest) Sx (hM H.size) cw (ca_preV hK hP hD hC hnd hc h0) rfl hn hsize hst (lv_room (m := m) (pc := pc) (ls := ls) (rest := st) hrest) hdg ⟨Nat.zero_le _, Nat.zero_le _⟩) hS (fun q _ h => hF q h) hF (fun u a t H1 locs1 ht hvm hw hB hz hk hS1 => ?_)
  obtain ⟨rfl, hB⟩ := hB
  rw [ht] at hB
  obtain ⟨hP2, hD2⟩ := my_join hP hD hC hk hB (had u)
  exact kk u H1 locs1 hw hP2 hD2 hS1
/-- invokestatic -/
theorem ca_SI {post : Int32 → S → Prop} (Sx : CallFix p m c cc nL s args Ts own) (hM : CtI l y ws rm dC dI cy As wc pc' post) (cw : CallB R s args own index y bytes maxL ret ws rm 0 0 n ∧ (Cond.static y).before args s = true)
    (hK : va_K (dC, dI) vwCl (vTy cy) s) (hP : va_P (dC, dI) vwCl pic H) (hD : va_D A pic) (hS : va_S A s.heap H locs) (hA : ∀ q : Nat, s.heap.size ≤ q → A q)
    (isC : List Nat) (hC : isC.map (fun i => pic[i]?) = wc.map some) (hnd : va_nd isC = true) (had : ∀ u, (pc' u).map (fun q => q.1) = wc.map (fun q => q.1))
    (hn : As.length = n) (hsize : ls.size = nL) (hst : st = As.reverse ++ rest) (hrest : (rest.map fun v => v.category).sum ≤ 8) (hdg : decode cc pc = .ok (.invokestatic index, 3))
    (kk : ∀ (r : Int32) (u : S) (H1 : Heap) (locs1 : List Loc), post r u → va_P (dC, dI) vwCl (setL pic isC (pc' u)) H1 → va_D A (setL pic isC (pc' u)) → va_S A s.heap H1 locs1 → W p l e R s m args below meth c H1 locs1 0 0 Q (F0 m (pc + 3) ls (.int r :: rest))) :
    W p l e R s m args below meth c H locs 0 0 Q (F0 m pc ls st) := by
  have hF := va_free hD hS hA isC hC
  refine va_calli (va_runS (As := As) (rest := rest) Sx (hM H.size) cw (ca_preS hK hP hD hC hnd) rfl hn hsize hst (lv_room (m := m) (pc := pc) (ls := ls) (rest := st) hrest) hdg ⟨Nat.zero_le _, Nat.zero_le _⟩) hS (fun q _ h => hF q h) hF (fun r u t H1 locs1 ht hvm hw hB hz hk hS1 => ?_)
  rw [ht] at hB
  obtain ⟨hP2, hD2⟩ := my_join hP hD hC hk hB (had u)
  exact kk r u H1 locs1 hw hP2 hD2 hS1
end
