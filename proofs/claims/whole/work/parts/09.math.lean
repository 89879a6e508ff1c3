/-! what a log is, the settings, the windows -/
def zLog (n : Nat) (K T U : Nat → Int) : Prop := n ≤ 250 ∧ (∀ j, j < n → 0 ≤ K j ∧ K j ≤ 2) ∧ (∀ j, j < n → 0 ≤ T j ∧ T j ≤ 1000000) ∧ (∀ j, j < n → -2000 ≤ U j ∧ U j ≤ 2000) ∧ (∀ i j, i ≤ j → j < n → T i ≤ T j)
def zSet (S : Nat → Int) : Prop := (0 ≤ S 0 ∧ S 0 ≤ 359) ∧ (1 ≤ S 1 ∧ S 1 ≤ 1000) ∧ (0 ≤ S 2 ∧ S 2 ≤ 2000) ∧ (1 ≤ S 3 ∧ S 3 ≤ 2000) ∧ (0 ≤ S 4 ∧ S 4 ≤ 100) ∧ (0 ≤ S 5 ∧ S 5 ≤ 1000) ∧ (1 ≤ S 6 ∧ S 6 ≤ 1000) ∧ (0 ≤ S 7 ∧ S 7 ≤ 1000) ∧ (1 ≤ S 8 ∧ S 8 ≤ 1000) ∧ (1 ≤ S 9 ∧ S 9 ≤ 10) ∧ (1 ≤ S 10 ∧ S 10 ≤ 100000)
def zWin (w : Nat) (F L : Nat → Int) : Prop := w ≤ 4 ∧ (∀ j, j < w → 0 ≤ F j ∧ F j ≤ 359) ∧ (∀ j, j < w → 0 ≤ L j ∧ L j ≤ 359)
/-- the time of the last pulse -/
def zLast (n : Nat) (T : Nat → Int) : Int := if 0 < n then T (n - 1) else 0
