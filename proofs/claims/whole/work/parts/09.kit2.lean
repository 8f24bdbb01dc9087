def adl (l : List Nat) : Nat → Nat := fun i => l.getD i 0
/-- a number that a boolean may be -/
def vbo (r : Int32) : Prop := narrow .boolean (.int r) = .int r
theorem vbo_0 : vbo 0 := rfl
theorem vbo_1 : vbo 1 := rfl
theorem vbo_of {r : Int32} (h : r = 0 ∨ r = 1) : vbo r := by rcases h with h | h <;> subst h <;> rfl
theorem sw_3 (x : Int32) (h : ¬ (x.toInt < 0 ∨ 2 < x.toInt)) : x = 0 ∨ x = 1 ∨ x = 2 := by
  have h1 : x.toInt = 0 ∨ x.toInt = 1 ∨ x.toInt = 2 := by omega
  rcases h1 with h1 | h1 | h1
  · exact Or.inl (Int32.toInt_inj.mp h1)
  · exact Or.inr (Or.inl (Int32.toInt_inj.mp h1))
  · exact Or.inr (Or.inr (Int32.toInt_inj.mp h1))
theorem sw_4 (x : Int32) (h : ¬ (x.toInt < 0 ∨ 3 < x.toInt)) : x = 0 ∨ x = 1 ∨ x = 2 ∨ x = 3 := by
  have h1 : x.toInt = 0 ∨ x.toInt = 1 ∨ x.toInt = 2 ∨ x.toInt = 3 := by omega
  rcases h1 with h1 | h1 | h1 | h1
  · exact Or.inl (Int32.toInt_inj.mp h1)
  · exact Or.inr (Or.inl (Int32.toInt_inj.mp h1))
  · exact Or.inr (Or.inr (Or.inl (Int32.toInt_inj.mp h1)))
  · exact Or.inr (Or.inr (Or.inr (Int32.toInt_inj.mp h1)))
theorem va_Ph {D : va_G} {cl : List vw_C} {ws : va_W} {H : Heap} {t : State} (ht : t.heap = H) (h : va_P D cl ws H) : va_P D cl ws t.heap := ht.symm ▸ h
def bld : va_W → va_W → List (Option Nat) → va_W
  | c :: cs, w, some j :: ms => w.getD j c :: bld cs w ms
  | c :: cs, w, none :: ms => c :: bld cs w ms
  | cs, _, _ => cs
def chk (isC : List Nat) (ms : List (Option Nat)) : Bool := (List.range isC.length).all (fun j => ms.getD (isC.getD j 0) none == some j) && (List.range ms.length).all (fun k => match ms.getD k none with | none => true | some j => isC[j]? == some k)
theorem chk_1 {isC : List Nat} {ms : List (Option Nat)} (h : chk isC ms = true) {j k : Nat} (hj : isC[j]? = some k) : ms.getD k none = some j := by
  have h1 := (Bool.and_eq_true _ _ ▸ h).1
  have hl : j < isC.length := (List.getElem?_eq_some_iff.mp hj).1
  have h2 := List.all_eq_true.mp h1 j (List.mem_range.mpr hl)
  have e : isC.getD j 0 = k := by rw [List.getD_eq_getElem?_getD, hj]; rfl
  rw [e] at h2
  exact eq_of_beq h2
theorem chk_2 {isC : List Nat} {ms : List (Option Nat)} (h : chk isC ms = true) {j k : Nat} (hj : ms.getD k none = some j) : isC[j]? = some k := by
  have h1 := (Bool.and_eq_true _ _ ▸ h).2
  have hl : k < ms.length := by
    rcases Nat.lt_or_ge k ms.length with q | q
    · exact q
    · rw [List.getD_eq_getElem?_getD, List.getElem?_eq_none q] at hj
      cases hj
  have h2 := List.all_eq_true.mp h1 k (List.mem_range.mpr hl)
  rw [hj] at h2
  exact eq_of_beq h2
theorem bld_get : ∀ (ms : List (Option Nat)) (w cs : va_W) (k : Nat) (q : Nat × va_E), (bld cs w ms)[k]? = some q → (∃ j c : _, ms.getD k none = some j ∧ cs[k]? = some c ∧ q = w.getD j c) ∨ (cs[k]? = some q ∧ ms.getD k none = none)
  | _, _, [], k, q, h => by
    simp [bld] at h
  | [], w, c :: cs, k, q, h => Or.inr ⟨h, by simp⟩
  | some j :: ms, w, c :: cs, 0, q, h => Or.inl ⟨j, c, rfl, rfl, (Option.some.inj h).symm⟩
  | none :: ms, w, c :: cs, 0, q, h => Or.inr ⟨h, rfl⟩
  | some j :: ms, w, c :: cs, k + 1, q, h => bld_get ms w cs k q h
  | none :: ms, w, c :: cs, k + 1, q, h => bld_get ms w cs k q h
theorem my_joinB {D : va_G} {cl : List vw_C} {A : Nat → Prop} {ws wc w1 : va_W} {H H1 : Heap} (hP : va_P D cl ws H) (hD : va_D A ws) {isC : List Nat} (hC : isC.map (fun i => ws[i]?) = wc.map some) {ms : List (Option Nat)} (hms : chk isC ms = true)
    (hk : ∀ q : Nat, q < H.size → ¬ va_A wc H.size q → H1[q]? = H[q]?) (hP1 : va_P D cl w1 H1) (ha : w1.map (fun q => q.1) = wc.map (fun q => q.1)) : va_P D cl (bld ws w1 ms) H1 ∧ va_D A (bld ws w1 ms) := by
  have hlen : isC.length = w1.length := by
    have e1 := congrArg List.length hC
    have e2 := congrArg List.length ha
    simp at e1 e2
    omega
  have hin : ∀ (k j : Nat) (c : Nat × va_E), ms.getD k none = some j → ∃ z, w1[j]? = some z ∧ w1.getD j c = z ∧ ∃ x, ws[k]? = some (z.1, x) := by
    intro k j c hj
    have h1 := chk_2 hms hj
    have hl : j < w1.length := by rw [← hlen]; exact (List.getElem?_eq_some_iff.mp h1).1
    obtain ⟨z, hz⟩ : ∃ z, w1[j]? = some z := ⟨w1[j], List.getElem?_eq_getElem hl⟩
    refine ⟨z, hz, by rw [List.getD_eq_getElem?_getD, hz]; rfl, ?_⟩
    have h3 : (w1.map (fun q => q.1))[j]? = some z.1 := by rw [List.getElem?_map, hz]; rfl
    rw [ha, List.getElem?_map] at h3
    cases hw : wc[j]? with
    | none => rw [hw] at h3; cases h3
    | some y =>
      rw [hw] at h3
      obtain ⟨i, h4, h5⟩ := my_at hC j y hw
      rw [h1] at h4
      cases h4
      have h6 : y.1 = z.1 := Option.some.inj h3
      exact ⟨y.2, by rw [h5, ← h6]⟩
  have had : ∀ (k : Nat) (q : Nat × va_E), (bld ws w1 ms)[k]? = some q → ∃ x, ws[k]? = some (q.1, x) := by
    intro k q hq
    rcases bld_get ms w1 ws k q hq with ⟨j, c, h1, h2, h3⟩ | ⟨h1, -⟩
    · obtain ⟨z, -, e, h5⟩ := hin k j c h1
      rw [h3, e]
      exact h5
    · exact ⟨q.2, h1⟩
  refine ⟨fun k q hq => ?_, fun i j x y hx hy e => ?_, fun k q hq => ?_⟩
  · rcases bld_get ms w1 ws k q hq with ⟨j, c, h1, h2, h3⟩ | ⟨h1, h2⟩
    · obtain ⟨z, hz, e, -⟩ := hin k j c h1
      rw [h3, e]
      exact hP1 j z hz
    · refine (hP k q h1).kept (hk q.1 (hP k q h1).lt ?_)
      rintro (⟨k2, e, he⟩ | hge)
      · obtain ⟨i, h4, h5⟩ := my_at hC k2 _ he
        have : i = k := hD.1 i k _ _ h5 h1 rfl
        subst this
        rw [chk_1 hms h4] at h2
        cases h2
      · exact absurd (hP k q h1).lt (Nat.not_lt.mpr hge)
  · obtain ⟨x', hx'⟩ := had i x hx
    obtain ⟨y', hy'⟩ := had j y hy
    exact hD.1 i j _ _ hx' hy' e
  · obtain ⟨x', hx'⟩ := had k q hq
    exact hD.2 k (q.1, x') hx'
section
variable {p : Program} {l : Launch} {e : Env} {R : Room} {s : State} {m : MethodId} {args : Array Value} {below : List Frame} {meth : Method} {c : Code} {H : Heap} {locs : List Loc} {Q : State → Prop} {dC : Nat → ClassId} {dI : Nat → Nat → Nat} {cy : Nat → ClassId} {A : Nat → Prop}
variable {y : MethodName} {bytes cc : ByteArray} {maxL nL n index : Nat} {ret : Option FieldType} {ws : List Cond} {rm : Room} {Ts : List Cond} {own C : String} {b : Addr} {As rest st : List Value} {pc : Nat} {ls : Array Slot} {pic wc : va_W} {S : Type} {pc' : S → va_W} {T : u_T} {N ci : Nat} {fs : List Value}
/-- invokevirtual, an int comes back -/
theorem cb_VI {post : Int32 → S → Prop} (Sx : CallFix p m c cc nL s args Ts own) (hM : CtI l y ws rm dC dI cy (.ref b :: As) wc pc' post) (cw : CallW R s args own C index y bytes maxL ret ws rm 0 0 n)
    (hK : va_K (dC, dI) vwCl (vTy cy) s) (hP : va_P (dC, dI) vwCl pic H) (hD : va_D A pic) (hS : va_S A s.heap H locs) (hA : ∀ q : Nat, s.heap.size ≤ q → A q)
    (isC : List Nat) (ms : List (Option Nat)) (hms : chk isC ms = true) (hC : isC.map (fun i => pic[i]?) = wc.map some) (hnd : va_nd isC = true) (hc : vwCl[ci]? = some (C, T, N)) (h0 : wc[0]? = some (b, .inr (ci, fs))) (had : ∀ u, (pc' u).map (fun q => q.1) = wc.map (fun q => q.1))
    (hn : As.length = n) (hsize : ls.size = nL) (hst : st = As.reverse ++ .ref b :: rest) (hrest : (rest.map fun v => v.category).sum ≤ 8) (hdg : decode cc pc = .ok (.invokevirtual index, 3))
    (kk : ∀ (r : Int32) (u : S) (H1 : Heap) (locs1 : List Loc), post r u → va_P (dC, dI) vwCl (bld pic (pc' u) ms) H1 → va_D A (bld pic (pc' u) ms) → va_S A s.heap H1 locs1 → W p l e R s m args below meth c H1 locs1 0 0 Q (F0 m (pc + 3) ls (.int r :: rest))) :
    W p l e R s m args below meth c H locs 0 0 Q (F0 m pc ls st) := by
  have hF := va_free hD hS hA isC hC
  refine va_calli (va_runV (As := As) (rest := rest) Sx (hM H.size) cw (ca_preV hK hP hD hC hnd hc h0) rfl hn hsize hst (lv_room (m := m) (pc := pc) (ls := ls) (rest := st) hrest) hdg ⟨Nat.zero_le _, Nat.zero_le _⟩) hS (fun q _ h => hF q h) hF (fun r u t H1 locs1 ht hvm hw hB hz hk hS1 => ?_)
  rw [ht] at hB
  obtain ⟨hP2, hD2⟩ := my_joinB hP hD hC hms hk hB (had u)
  exact kk r u H1 locs1 hw hP2 hD2 hS1
theorem cb_VL {post : Int64 → S → Prop} (Sx : CallFix p m c cc nL s args Ts own) (hM : CtL l y ws rm dC dI cy (.ref b :: As) wc pc' post) (cw : CallW R s args own C index y bytes maxL ret ws rm 0 0 n)
    (hK : va_K (dC, dI) vwCl (vTy cy) s) (hP : va_P (dC, dI) vwCl pic H) (hD : va_D A pic) (hS : va_S A s.heap H locs) (hA : ∀ q : Nat, s.heap.size ≤ q → A q)
    (isC : List Nat) (ms : List (Option Nat)) (hms : chk isC ms = true) (hC : isC.map (fun i => pic[i]?) = wc.map some) (hnd : va_nd isC = true) (hc : vwCl[ci]? = some (C, T, N)) (h0 : wc[0]? = some (b, .inr (ci, fs))) (had : ∀ u, (pc' u).map (fun q => q.1) = wc.map (fun q => q.1))
    (hn : As.length = n) (hsize : ls.size = nL) (hst : st = As.reverse ++ .ref b :: rest) (hrest : (rest.map fun v => v.category).sum ≤ 8) (hdg : decode cc pc = .ok (.invokevirtual index, 3))
    (kk : ∀ (r : Int64) (u : S) (H1 : Heap) (locs1 : List Loc), post r u → va_P (dC, dI) vwCl (bld pic (pc' u) ms) H1 → va_D A (bld pic (pc' u) ms) → va_S A s.heap H1 locs1 → W p l e R s m args below meth c H1 locs1 0 0 Q (F0 m (pc + 3) ls (.long r :: rest))) :
    W p l e R s m args below meth c H locs 0 0 Q (F0 m pc ls st) := by
  have hF := va_free hD hS hA isC hC
  refine va_calll (va_runV (As := As) (rest := rest) Sx (hM H.size) cw (ca_preV hK hP hD hC hnd hc h0) rfl hn hsize hst (lv_room (m := m) (pc := pc) (ls := ls) (rest := st) hrest) hdg ⟨Nat.zero_le _, Nat.zero_le _⟩) hS (fun q _ h => hF q h) hF (fun r u t H1 locs1 ht hvm hw hB hz hk hS1 => ?_)
  rw [ht] at hB
  obtain ⟨hP2, hD2⟩ := my_joinB hP hD hC hms hk hB (had u)
  exact kk r u H1 locs1 hw hP2 hD2 hS1
theorem cb_VV {post : S → Prop} (Sx : CallFix p m c cc nL s args Ts own) (hM : CtV l y ws rm dC dI cy (.ref b :: As) wc pc' post) (cw : CallW R s args own C index y bytes maxL ret ws rm 0 0 n)
    (hK : va_K (dC, dI) vwCl (vTy cy) s) (hP : va_P (dC, dI) vwCl pic H) (hD : va_D A pic) (hS : va_S A s.heap H locs) (hA : ∀ q : Nat, s.heap.size ≤ q → A q)
    (isC : List Nat) (ms : List (Option Nat)) (hms : chk isC ms = true) (hC : isC.map (fun i => pic[i]?) = wc.map some) (hnd : va_nd isC = true) (hc : vwCl[ci]? = some (C, T, N)) (h0 : wc[0]? = some (b, .inr (ci, fs))) (had : ∀ u, (pc' u).map (fun q => q.1) = wc.map (fun q => q.1))
    (hn : As.length = n) (hsize : ls.size = nL) (hst : st = As.reverse ++ .ref b :: rest) (hrest : (rest.map fun v => v.category).sum ≤ 8) (hdg : decode cc pc = .ok (.invokevirtual index, 3))
    (kk : ∀ (u : S) (H1 : Heap) (locs1 : List Loc), post u → va_P (dC, dI) vwCl (bld pic (pc' u) ms) H1 → va_D A (bld pic (pc' u) ms) → va_S A s.heap H1 locs1 → W p l e R s m args below meth c H1 locs1 0 0 Q (F0 m (pc + 3) ls rest)) :
    W p l e R s m args below meth c H locs 0 0 Q (F0 m pc ls st) := by
  have hF := va_free hD hS hA isC hC
  refine va_callv (va_runV (As := As) (rest := rest) Sx (hM H.size) cw (ca_preV hK hP hD hC hnd hc h0) rfl hn hsize hst (lv_room (m := m) (pc := pc) (ls := ls) (rest := st) hrest) hdg ⟨Nat.zero_le _, Nat.zero_le _⟩) hS (fun q _ h => hF q h) hF (fun u t H1 locs1 ht hvm hw hB hz hk hS1 => ?_)
  rw [ht] at hB
  obtain ⟨hP2, hD2⟩ := my_joinB hP hD hC hms hk hB (had u)
  exact kk u H1 locs1 hw hP2 hD2 hS1
theorem cb_VR {post : S → Prop} {ad : Nat} (Sx : CallFix p m c cc nL s args Ts own) (hM : CtR l y ws rm dC dI cy (.ref b :: As) wc pc' ad post) (cw : CallW R s args own C index y bytes maxL ret ws rm 0 0 n)
    (hK : va_K (dC, dI) vwCl (vTy cy) s) (hP : va_P (dC, dI) vwCl pic H) (hD : va_D A pic) (hS : va_S A s.heap H locs) (hA : ∀ q : Nat, s.heap.size ≤ q → A q)
    (isC : List Nat) (ms : List (Option Nat)) (hms : chk isC ms = true) (hC : isC.map (fun i => pic[i]?) = wc.map some) (hnd : va_nd isC = true) (hc : vwCl[ci]? = some (C, T, N)) (h0 : wc[0]? = some (b, .inr (ci, fs))) (had : ∀ u, (pc' u).map (fun q => q.1) = wc.map (fun q => q.1))
    (hn : As.length = n) (hsize : ls.size = nL) (hst : st = As.reverse ++ .ref b :: rest) (hrest : (rest.map fun v => v.category).sum ≤ 8) (hdg : decode cc pc = .ok (.invokevirtual index, 3))
    (kk : ∀ (u : S) (H1 : Heap) (locs1 : List Loc), post u → va_P (dC, dI) vwCl (bld pic (pc' u) ms) H1 → va_D A (bld pic (pc' u) ms) → va_S A s.heap H1 locs1 → W p l e R s m args below meth c H1 locs1 0 0 Q (F0 m (pc + 3) ls (.ref ad :: rest))) :
    W p l e R s m args below meth c H locs 0 0 Q (F0 m pc ls st) := by
  have hF := va_free hD hS hA isC hC
  refine va_callr (va_runV (As := As) (rest := rest) Sx (hM H.size) cw (ca_preV hK hP hD hC hnd hc h0) rfl hn hsize hst (lv_room (m := m) (pc := pc) (ls := ls) (rest := st) hrest) hdg ⟨Nat.zero_le _, Nat.zero_le _⟩) hS (fun q _ h => hF q h) hF (fun u a t H1 locs1 ht hvm hw hB hz hk hS1 => ?_)
  obtain ⟨rfl, hB⟩ := hB
  rw [ht] at hB
  obtain ⟨hP2, hD2⟩ := my_joinB hP hD hC hms hk hB (had u)
  exact kk u H1 locs1 hw hP2 hD2 hS1
/-- invokestatic -/
theorem cb_SI {post : Int32 → S → Prop} (Sx : CallFix p m c cc nL s args Ts own) (hM : CtI l y ws rm dC dI cy As wc pc' post) (cw : CallB R s args own index y bytes maxL ret ws rm 0 0 n ∧ (Cond.static y).before args s = true)
    (hK : va_K (dC, dI) vwCl (vTy cy) s) (hP : va_P (dC, dI) vwCl pic H) (hD : va_D A pic) (hS : va_S A s.heap H locs) (hA : ∀ q : Nat, s.heap.size ≤ q → A q)
    (isC : List Nat) (ms : List (Option Nat)) (hms : chk isC ms = true) (hC : isC.map (fun i => pic[i]?) = wc.map some) (hnd : va_nd isC = true) (had : ∀ u, (pc' u).map (fun q => q.1) = wc.map (fun q => q.1))
    (hn : As.length = n) (hsize : ls.size = nL) (hst : st = As.reverse ++ rest) (hrest : (rest.map fun v => v.category).sum ≤ 8) (hdg : decode cc pc = .ok (.invokestatic index, 3))
    (kk : ∀ (r : Int32) (u : S) (H1 : Heap) (locs1 : List Loc), post r u → va_P (dC, dI) vwCl (bld pic (pc' u) ms) H1 → va_D A (bld pic (pc' u) ms) → va_S A s.heap H1 locs1 → W p l e R s m args below meth c H1 locs1 0 0 Q (F0 m (pc + 3) ls (.int r :: rest))) :
    W p l e R s m args below meth c H locs 0 0 Q (F0 m pc ls st) := by
  have hF := va_free hD hS hA isC hC
  refine va_calli (va_runS (As := As) (rest := rest) Sx (hM H.size) cw (ca_preS hK hP hD hC hnd) rfl hn hsize hst (lv_room (m := m) (pc := pc) (ls := ls) (rest := st) hrest) hdg ⟨Nat.zero_le _, Nat.zero_le _⟩) hS (fun q _ h => hF q h) hF (fun r u t H1 locs1 ht hvm hw hB hz hk hS1 => ?_)
  rw [ht] at hB
  obtain ⟨hP2, hD2⟩ := my_joinB hP hD hC hms hk hB (had u)
  exact kk r u H1 locs1 hw hP2 hD2 hS1
end
