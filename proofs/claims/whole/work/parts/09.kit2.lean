def adl (l : List Nat) : Nat → Nat := fun i => l.getD i 0
/-- a number that a boolean may be -/
def vbo (r : Int32) : Prop := narrow .boolean (.int r) = .int r
theorem vbo_0 : vbo 0 := rfl
theorem vbo_1 : vbo 1 := rfl
theorem vbo_of {r : Int32} (h : r = 0 ∨ r = 1) : vbo r := by rcases h with h | h <;> subst h <;> rfl
theorem sw_3 (x : Int32) (h : ¬ (x.toInt < 0 ∨ 2 < x.toInt)) : x = 0 ∨ x = 1 ∨ x = 2 := by
  have h1 : x.toInt = 0 ∨ x.toInt = 1 ∨ x.toInt = 2 := by omega
  rcases h1 with h1 | h1 | h1
  · exact Or.inl (Int32.toInt_inj.mp h1)
  · exact Or.inr (Or.inl (Int32.toInt_inj.mp h1))
  · exact Or.inr (Or.inr (Int32.toInt_inj.mp h1))
theorem sw_4 (x : Int32) (h : ¬ (x.toInt < 0 ∨ 3 < x.toInt)) : x = 0 ∨ x = 1 ∨ x = 2 ∨ x = 3 := by
  have h1 : x.toInt = 0 ∨ x.toInt = 1 ∨ x.toInt = 2 ∨ x.toInt = 3 := by omega
  rcases h1 with h1 | h1 | h1 | h1
  · exact Or.inl (Int32.toInt_inj.mp h1)
  · exact Or.inr (Or.inl (Int32.toInt_inj.mp h1))
  · exact Or.inr (Or.inr (Or.inl (Int32.toInt_inj.mp h1)))
  · exact Or.inr (Or.inr (Or.inr (Int32.toInt_inj.mp h1)))
theorem va_Ph {D : va_G} {cl : List vw_C} {ws : va_W} {H : Heap} {t : State} (ht : t.heap = H) (h : va_P D cl ws H) : va_P D cl ws t.heap := ht.symm ▸ h
