/-! answers -/
def zO1 (ok : Prop) (q : Int) (e : Prop) : Prop := (ok ∧ q = 0 ∧ e) ∨ (¬ ok ∧ q = 1)
def zO2 (ok ok2 : Prop) (q : Int) (e : Prop) : Prop := (ok ∧ ok2 ∧ q = 0 ∧ e) ∨ (¬ ok ∧ q = 1) ∨ (ok ∧ ¬ ok2 ∧ q = 2)
theorem zHs_row {NW F L : Nat → Int} {w : Nat} {h x : Int} (hx : NW 11 = x) (hr : ∀ j, j < w → NW (12 + 2 * j) = F j ∧ NW (12 + 2 * j + 1) = L j) : ∀ k, k ≤ w → zHs h (fun j => NW (11 + j)) (1 + 2 * k) = zHw (31 * h + x) F L k
  | 0, _ => by simp only [zHs, zHw]; rw [hx]
  | k + 1, hk => by
    have ih := zHs_row (h := h) hx hr k (by omega)
    have h1 := hr k (by omega)
    rw [show 1 + 2 * (k + 1) = (1 + 2 * k) + 1 + 1 by omega]
    simp only [zHs, zHw]
    rw [ih, show 11 + (1 + 2 * k) = 12 + 2 * k by omega, show 11 + (1 + 2 * k + 1) = 12 + 2 * k + 1 by omega, h1.1, h1.2]
