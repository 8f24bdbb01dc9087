/-! CRAMER'S RULE -/
def sgn (n : Nat) : Int := if n % 2 = 0 then 1 else -1
def adjM (M : Nat → Nat → Int) (N y x : Nat) : Int := sgn (y + x) * mnr M N (rws x N 0) (fun i => true && !(i == y))
def mrep (M : Nat → Nat → Int) (y : Nat) (w : Nat → Int) (i j : Nat) : Int := if j = y then w i else M i j
def sm4 (g : Nat → Int) : Int := g 0 + g 1 + g 2 + g 3
def AD (M : Nat → Nat → Int) (N y x : Nat) : Int := if x < N ∧ y < N then adjM M N y x else 0
theorem cramer2 (M : Nat → Nat → Int) (w : Nat → Int) : ∀ y, y < 2 → dtm (mrep M y w) 2 = sm4 (fun x => AD M 2 y x * w x) := by
  intro y hy
  obtain rfl | rfl : y = 0 ∨ y = 1 := by omega
  all_goals
    simp [dtm, mnr, lap, rws, mrep, sm4, AD, adjM, sgn]
    grind
theorem cramer3 (M : Nat → Nat → Int) (w : Nat → Int) : ∀ y, y < 3 → dtm (mrep M y w) 3 = sm4 (fun x => AD M 3 y x * w x) := by
  intro y hy
  obtain rfl | rfl | rfl : y = 0 ∨ y = 1 ∨ y = 2 := by omega
  all_goals
    simp [dtm, mnr, lap, rws, mrep, sm4, AD, adjM, sgn]
    grind
theorem cramer4 (M : Nat → Nat → Int) (w : Nat → Int) : ∀ y, y < 4 → dtm (mrep M y w) 4 = sm4 (fun x => AD M 4 y x * w x) := by
  intro y hy
  obtain rfl | rfl | rfl | rfl : y = 0 ∨ y = 1 ∨ y = 2 ∨ y = 3 := by omega
  all_goals
    simp [dtm, mnr, lap, rws, mrep, sm4, AD, adjM, sgn]
    grind
