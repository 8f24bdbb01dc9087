/-! NUMBERS: ints and longs as whole numbers -/
def iI (z : Int) : Int32 := Int32.ofInt z
def lI (z : Int) : Int64 := Int64.ofInt z
theorem iI_add (a b : Int) : iI a + iI b = iI (a + b) := (Int32.ofInt_add a b).symm
theorem iI_sub (a b : Int) : iI a - iI b = iI (a - b) := (Int32.ofInt_sub a b).symm
theorem iI_mul (a b : Int) : iI a * iI b = iI (a * b) := (Int32.ofInt_mul a b).symm
theorem iI_neg (a : Int) : - iI a = iI (-a) := (Int32.ofInt_neg a).symm
theorem lI_add (a b : Int) : lI a + lI b = lI (a + b) := (Int64.ofInt_add a b).symm
theorem lI_sub (a b : Int) : lI a - lI b = lI (a - b) := (Int64.ofInt_sub a b).symm
theorem lI_mul (a b : Int) : lI a * lI b = lI (a * b) := (Int64.ofInt_mul a b).symm
theorem lI_neg (a : Int) : - lI a = lI (-a) := (Int64.ofInt_neg a).symm
theorem iI_lit (n : Nat) : (OfNat.ofNat n : Int32) = iI (OfNat.ofNat n) := (Int32.ofInt_eq_ofNat (n := n)).symm
theorem lI_lit (n : Nat) : (OfNat.ofNat n : Int64) = lI (OfNat.ofNat n) := (Int64.ofInt_eq_ofNat (n := n)).symm
theorem iI_nI (n : Nat) : nI n = iI n := (Int32.ofInt_eq_ofNat (n := n)).symm
theorem lI_lN (n : Nat) : lN n = lI n := (Int64.ofInt_eq_ofNat (n := n)).symm
theorem iI_toInt {a : Int} (h1 : -2147483648 ≤ a) (h2 : a < 2147483648) : (iI a).toInt = a := Int32.toInt_ofInt_of_le (by omega) (by omega)
theorem lI_toInt {a : Int} (h1 : -9223372036854775808 ≤ a) (h2 : a < 9223372036854775808) : (lI a).toInt = a := Int64.toInt_ofInt_of_le (by omega) (by omega)
theorem iI_of (x : Int32) : iI x.toInt = x := Int32.ofInt_toInt x
theorem lI_of (x : Int64) : lI x.toInt = x := Int64.ofInt_toInt x
theorem iI_rng (x : Int32) : ∃ z : Int, x = iI z ∧ -2147483648 ≤ z ∧ z < 2147483648 := ⟨x.toInt, (iI_of x).symm, by have := Int32.le_toInt x; omega, by have := Int32.toInt_lt x; omega⟩
theorem iI_le {a b : Int} (h1 : -2147483648 ≤ a) (h2 : a < 2147483648) (h3 : -2147483648 ≤ b) (h4 : b < 2147483648) : iI a ≤ iI b ↔ a ≤ b := by rw [Int32.le_iff_toInt_le, iI_toInt h1 h2, iI_toInt h3 h4]
theorem iI_lt {a b : Int} (h1 : -2147483648 ≤ a) (h2 : a < 2147483648) (h3 : -2147483648 ≤ b) (h4 : b < 2147483648) : iI a < iI b ↔ a < b := by rw [Int32.lt_iff_toInt_lt, iI_toInt h1 h2, iI_toInt h3 h4]
theorem iI_eq {a b : Int} (h1 : -2147483648 ≤ a) (h2 : a < 2147483648) (h3 : -2147483648 ≤ b) (h4 : b < 2147483648) : iI a = iI b ↔ a = b := by rw [← Int32.toInt_inj, iI_toInt h1 h2, iI_toInt h3 h4]
theorem lI_le {a b : Int} (h1 : -9223372036854775808 ≤ a) (h2 : a < 9223372036854775808) (h3 : -9223372036854775808 ≤ b) (h4 : b < 9223372036854775808) : lI a ≤ lI b ↔ a ≤ b := by rw [Int64.le_iff_toInt_le, lI_toInt h1 h2, lI_toInt h3 h4]
theorem lI_lt {a b : Int} (h1 : -9223372036854775808 ≤ a) (h2 : a < 9223372036854775808) (h3 : -9223372036854775808 ≤ b) (h4 : b < 9223372036854775808) : lI a < lI b ↔ a < b := by rw [Int64.lt_iff_toInt_lt, lI_toInt h1 h2, lI_toInt h3 h4]
theorem lI_eq {a b : Int} (h1 : -9223372036854775808 ≤ a) (h2 : a < 9223372036854775808) (h3 : -9223372036854775808 ≤ b) (h4 : b < 9223372036854775808) : lI a = lI b ↔ a = b := by rw [← Int64.toInt_inj, lI_toInt h1 h2, lI_toInt h3 h4]
theorem iI_clamp {a : Int} (h1 : 0 ≤ a) (h2 : a < 2147483648) : (iI a).toNatClampNeg = a.toNat := by
  have : (iI a).toNatClampNeg = (iI a).toInt.toNat := rfl
  rw [this, iI_toInt (by omega) h2]
theorem iI_in {a : Int} {n : Nat} (h1 : -2147483648 ≤ a) (h2 : a < 2147483648) : vp_in (iI a) n ↔ 0 ≤ a ∧ a < n := by rw [vp_in_iff, iI_toInt h1 h2]
theorem iI_long {a : Int} (h1 : -2147483648 ≤ a) (h2 : a < 2147483648) : (iI a).toInt64 = lI a := by
  rw [← Int64.toInt_inj, Int32.toInt_toInt64, iI_toInt h1 h2, lI_toInt (by omega) (by omega)]
theorem iI_div {a b : Int} (h1 : -2147483648 ≤ a) (h2 : a < 2147483648) (h3 : -2147483648 ≤ b) (h4 : b < 2147483648) : iI a / iI b = iI (a.tdiv b) := by
  rw [← Int32.toInt_inj, Int32.toInt_div, iI_toInt h1 h2, iI_toInt h3 h4]
  exact Int32.toInt_ofInt.symm
theorem lI_div {a b : Int} (h1 : -9223372036854775808 ≤ a) (h2 : a < 9223372036854775808) (h3 : -9223372036854775808 ≤ b) (h4 : b < 9223372036854775808) : lI a / lI b = lI (a.tdiv b) := by
  rw [← Int64.toInt_inj, Int64.toInt_div, lI_toInt h1 h2, lI_toInt h3 h4]
  exact Int64.toInt_ofInt.symm
/-! comparisons that come out as they should: for simp, with omega to discharge -/
theorem c_lt_t {a b : Int} (h : a < b) (h1 : -2147483648 ≤ a) (h4 : b < 2147483648) : (iI a < iI b) = True := eq_true ((iI_lt h1 (by omega) (by omega) h4).mpr h)
theorem c_lt_f {a b : Int} (h : b ≤ a) (h2 : a < 2147483648) (h3 : -2147483648 ≤ b) : (iI a < iI b) = False := eq_false (fun q => absurd ((iI_lt (by omega) h2 h3 (by omega)).mp q) (by omega))
theorem c_le_t {a b : Int} (h : a ≤ b) (h1 : -2147483648 ≤ a) (h4 : b < 2147483648) : (iI a ≤ iI b) = True := eq_true ((iI_le h1 (by omega) (by omega) h4).mpr h)
theorem c_le_f {a b : Int} (h : b < a) (h2 : a < 2147483648) (h3 : -2147483648 ≤ b) : (iI a ≤ iI b) = False := eq_false (fun q => absurd ((iI_le (by omega) h2 h3 (by omega)).mp q) (by omega))
theorem c_eq_t {a b : Int} (h : a = b) : (iI a = iI b) = True := eq_true (by rw [h])
theorem c_eq_f {a b : Int} (h : a ≠ b) (h1 : -2147483648 ≤ a) (h2 : a < 2147483648) (h3 : -2147483648 ≤ b) (h4 : b < 2147483648) : (iI a = iI b) = False := eq_false (fun q => h ((iI_eq h1 h2 h3 h4).mp q))
theorem c_in_t {a : Int} {n : Nat} (h1 : 0 ≤ a) (h2 : a < n) (h3 : a < 2147483648) : vp_in (iI a) n = True := eq_true ((iI_in (by omega) h3).mpr ⟨h1, h2⟩)
theorem vu_s {α : Type} (f : Nat → α) (k : Nat) (x : α) : va_up f k x k = x := by simp [va_up]
theorem vu_n {α : Type} {f : Nat → α} {k j : Nat} {x : α} (h : j ≠ k) : va_up f k x j = f j := by simp [va_up, h]
theorem vL_s (f : Nat → Int64) (k : Nat) (x : Int64) : vp_updL f k x k = x := by simp [vp_updL]
theorem br_i {c d A B : Prop} (e : c ↔ d) (f : d → A) (g : ¬ d → B) : (c → A) ∧ (¬ c → B) := ⟨fun h => f (e.mp h), fun h => g (fun q => h (e.mpr q))⟩
/-- a place in range, or not -/
theorem ix_cases (x : Int32) (n : Nat) (hn : n < 2147483648) : (∃ i : Nat, i < n ∧ x = iI i) ∨ (∃ z : Int, x = iI z ∧ -2147483648 ≤ z ∧ z < 2147483648 ∧ (z < 0 ∨ (n : Int) ≤ z)) := by
  obtain ⟨z, rfl, h1, h2⟩ := iI_rng x
  by_cases h : 0 ≤ z ∧ z < n
  · exact Or.inl ⟨z.toNat, by omega, by rw [Int.toNat_of_nonneg h.1]⟩
  · exact Or.inr ⟨z, rfl, h1, h2, by omega⟩
theorem vb_0 : vbo (iI 0) = True := eq_true rfl
theorem vb_1 : vbo (iI 1) = True := eq_true rfl
