/-! THE LAW: its start, its loop -/
theorem in_val : ∀ x, x < 4 → (upd (upd (upd (upd (fun _ => 0) (0 : Int32).toNatClampNeg 0) (1 : Int32).toNatClampNeg 1) (2 : Int32).toNatClampNeg 2) (3 : Int32).toNatClampNeg 3 : TA) x = iI ((x : Nat) : Int) := by
  intro x hx
  obtain rfl | rfl | rfl | rfl : x = 0 ∨ x = 1 ∨ x = 2 ∨ x = 3 := by omega
  · rfl
  · rfl
  · rfl
  · rfl
theorem in_siz : ∀ x, x < 3 → (upd (upd (upd (fun _ => 0) (0 : Int32).toNatClampNeg (-1)) (1 : Int32).toNatClampNeg (-1)) (2 : Int32).toNatClampNeg (-1) : TA) x = iI (-1) := by
  intro x hx
  obtain rfl | rfl | rfl : x = 0 ∨ x = 1 ∨ x = 2 := by omega
  · rfl
  · rfl
  · rfl
theorem law_pure : LawPure := by
  intro L xs hL
  unfold VX10_init VX5_init
  refine s5_startOver (fun v wS iS h1 h2 h3 => ?_)
  refine s5_startOver (fun v2 wS2 iS2 g1 g2 g3 => ?_)
  have hV : EV v (upd (upd (upd (upd (fun _ => 0) (0 : Int32).toNatClampNeg 0) (1 : Int32).toNatClampNeg 1) (2 : Int32).toNatClampNeg 2) (3 : Int32).toNatClampNeg 3) := ⟨fun x => (x : Int), fun x hx => ⟨⟨by show -9 ≤ (x : Int); omega, by show (x : Int) ≤ 9; omega⟩, h1 x hx, in_val x hx⟩⟩
  have hW : EW 3 (fun _ => (fun _ => 0)) wS (fun _ => 0) (fun _ => 0) := ⟨fun _ => 0, fun _ _ => 0, fun i hi => ⟨Nat.zero_le _, h2 i hi, rfl, fun j hj => absurd hj (Nat.not_lt_zero j)⟩⟩
  have hI : EI 3 (fun _ => (fun _ => 0)) iS (fun _ => 0) (fun _ => 0) := ⟨fun _ => 0, fun _ _ => 0, fun x hx => ⟨Nat.zero_le _, h3 x hx, rfl, fun j hj => absurd hj (Nat.not_lt_zero j)⟩⟩
  have hS := RS_mk (K := 1) (E := 2) (N := 3) (by omega) (by omega) (by omega) hV hW hI
  have hC : RCl (fun _ => 0) 0 0 (fun _ => 0) 0 0 := ⟨0, 2, fun _ => 0, by omega, by omega, rfl, rfl, Or.inl rfl, fun i hi => absurd hi (Nat.not_lt_zero i), fun i hi => absurd hi (Nat.not_lt_zero i)⟩
  have hR : RRow (fun _ => (fun _ => 0)) (fun _ => 0) (fun _ => 0) (upd (upd (upd (fun _ => 0) (0 : Int32).toNatClampNeg (-1)) (1 : Int32).toNatClampNeg (-1)) (2 : Int32).toNatClampNeg (-1)) (fun _ => 0) := fun i hi => Or.inl ⟨rfl, in_siz i hi⟩
  exact ⟨L / 5 + 1 + 1, law_loop hL (L / 5 + 1) 0 _ _ _ _ _ _ _ _ _ _ _ _ _ _ _ _ _ _ _ _ _ _ _ _ _ _ _ _ _ _ _ _ _ _ _ _ _ _ _ _ _ _ _ _ _ _ _ _ _ _ _ _ _ _ _ _ _ _ _ _ _ _ _ _ _ _ _ _ _ _ _ _ _ _ _ _ _ _ _ _ _ _ _ _ _ _ _ _ _ _ _ _ _ _ (by omega) (by omega) rfl RIn_0 hS (Or.inl ⟨rfl, rfl⟩) rfl hC hR⟩
