/-! the digest -/
def zHs (h : Int) (f : Nat → Int) : Nat → Int
  | 0 => h
  | k + 1 => 31 * zHs h f k + f k
def zHw (h : Int) (F L : Nat → Int) : Nat → Int
  | 0 => h
  | k + 1 => 31 * (31 * zHw h F L k + F k) + L k
def zHp (h : Int) (g : Nat → Int → Int) : Nat → Int
  | 0 => h
  | k + 1 => zHs (zHp h g k) (fun v => g k (v : Int)) 7
theorem zHs_cg {h : Int} {f g : Nat → Int} : ∀ {n : Nat}, (∀ j, j < n → f j = g j) → zHs h f n = zHs h g n
  | 0, _ => rfl
  | n + 1, e => by simp only [zHs]; rw [zHs_cg (fun j hj => e j (by omega)), e n (by omega)]
theorem zHp_cg {h : Int} {f g : Nat → Int → Int} : ∀ {n : Nat}, (∀ j, j < n → ∀ v, f j v = g j v) → zHp h f n = zHp h g n
  | 0, _ => rfl
  | n + 1, e => by
    simp only [zHp]
    rw [zHp_cg (fun j hj => e j (by omega)), zHs_cg (fun j _ => e n (by omega) (j : Int))]
/-- the hash of a state -/
def zHash (len : Nat) (n : Nat) (K T U S F L : Nat → Int) (w m : Nat) : Int :=
  31 * (31 * zHp (31 * zHw (31 * zHs (31 * 2957 + (len : Int)) S 11 + (w : Int)) F L w + (n : Int)) (fun k v => zPu n K T U S F L w v k) n + zBN n K T U S F L w) + (m : Int)
theorem mul_r {a b x y : Int} (ha : 0 ≤ a ∧ a ≤ x) (hb : 0 ≤ b ∧ b ≤ y) : 0 ≤ a * b ∧ a * b ≤ x * y := ⟨Int.mul_nonneg ha.1 hb.1, Int.mul_le_mul ha.2 hb.2 hb.1 (by omega)⟩
def zOkW (lv gl gw dt x : Int) : Prop := (0 ≤ lv ∧ lv ≤ 2000) ∧ (1 ≤ gl ∧ gl ≤ 2000) ∧ (0 ≤ gw ∧ gw ≤ 100) ∧ (0 ≤ dt ∧ dt ≤ 1000) ∧ 0 ≤ x ∧ x ≤ 6
