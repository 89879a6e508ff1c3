/-! the reference's reading -/
def zDn (tb : Nat → Int) (len q : Nat) : Nat → Int
  | 0 => 0
  | i + 1 => 10 * zDn tb len q i + zNx tb len (q + i) - 48
theorem rd_e {tb : Nat → Int} {len q i : Nat} (hi : i ≤ 4) (hd : ∀ j, j < i → zDg tb len (q + j) = true) (he : i = 4 ∨ ¬ zDg tb len (q + i) = true) : zNe tb len q = q + i ∧ (zDg tb len q = true ↔ 1 ≤ i) ∧ (1 ≤ i → zDn tb len q i = zNv tb len q) := by
  rcases (show i = 0 ∨ i = 1 ∨ i = 2 ∨ i = 3 ∨ i = 4 by omega) with h | h | h | h | h <;> subst h
  · have e0 : ¬ zDg tb len q = true := he.resolve_left (by omega)
    exact ⟨by unfold zNe; rw [if_neg e0]; rfl, ⟨fun h => absurd h e0, fun h => absurd h (by omega)⟩, fun h => absurd h (by omega)⟩
  · have d0 : zDg tb len q = true := hd 0 (by omega)
    have e1 : ¬ zDg tb len (q + 1) = true := he.resolve_left (by omega)
    exact ⟨by unfold zNe; rw [if_pos d0, if_neg e1], ⟨fun _ => by omega, fun _ => d0⟩, fun _ => by unfold zNv; rw [if_neg e1]; simp only [zDn, zN1, Nat.add_zero]; omega⟩
  · have d0 : zDg tb len q = true := hd 0 (by omega)
    have d1 : zDg tb len (q + 1) = true := hd 1 (by omega)
    have e2 : ¬ zDg tb len (q + 2) = true := he.resolve_left (by omega)
    exact ⟨by unfold zNe; rw [if_pos d0, if_pos d1, if_neg e2], ⟨fun _ => by omega, fun _ => d0⟩, fun _ => by unfold zNv; rw [if_pos d1, if_neg e2]; simp only [zDn, zN2, zN1, Nat.add_zero]; omega⟩
  · have d0 : zDg tb len q = true := hd 0 (by omega)
    have d1 : zDg tb len (q + 1) = true := hd 1 (by omega)
    have d2 : zDg tb len (q + 2) = true := hd 2 (by omega)
    have e3 : ¬ zDg tb len (q + 3) = true := he.resolve_left (by omega)
    exact ⟨by unfold zNe; rw [if_pos d0, if_pos d1, if_pos d2, if_neg e3], ⟨fun _ => by omega, fun _ => d0⟩, fun _ => by unfold zNv; rw [if_pos d1, if_pos d2, if_neg e3]; simp only [zDn, zN3, zN2, zN1, Nat.add_zero]; omega⟩
  · have d0 : zDg tb len q = true := hd 0 (by omega)
    have d1 : zDg tb len (q + 1) = true := hd 1 (by omega)
    have d2 : zDg tb len (q + 2) = true := hd 2 (by omega)
    have d3 : zDg tb len (q + 3) = true := hd 3 (by omega)
    exact ⟨by unfold zNe; rw [if_pos d0, if_pos d1, if_pos d2, if_pos d3], ⟨fun _ => by omega, fun _ => d0⟩, fun _ => by unfold zNv; rw [if_pos d1, if_pos d2, if_pos d3]; simp only [zDn, zN4, zN3, zN2, zN1, Nat.add_zero]; omega⟩
theorem dg_s {tb : Nat → Int} {len q i : Nat} {h x : Int} (hh : h = zDn tb len q i) (hx : zNx tb len (q + i) = x) : 10 * h + x - 48 = zDn tb len q (i + 1) := by
  simp only [zDn]; rw [hh, hx]
theorem dg_a {tb : Nat → Int} {len q i : Nat} (h : ∀ j, j < i → zDg tb len (q + j) = true) (h1 : zDg tb len (q + i) = true) : ∀ j, j < i + 1 → zDg tb len (q + j) = true := fun j hj => by
  by_cases e : j = i
  · subst e; exact h1
  · exact h j (by omega)
/-- a number that is complete -/
abbrev zOkN (tb : Nat → Int) (len q : Nat) : Prop := zDg tb len q = true ∧ ¬ zDg tb len (zNe tb len q) = true
theorem zNe_0 {tb : Nat → Int} {len q : Nat} (h : ¬ zDg tb len q = true) : zNe tb len q = q := by unfold zNe; rw [if_neg h]
theorem pe_1 {tb : Nat → Int} {len q : Nat} (h : ¬ (zNx tb len q = 109 ∨ zNx tb len q = 110 ∨ zNx tb len q = 105)) : zPe tb len q = (q : Int) := by unfold zPe; rw [if_pos h]
theorem pe_2 {tb : Nat → Int} {len q : Nat} (k : zNx tb len q = 109 ∨ zNx tb len q = 110 ∨ zNx tb len q = 105) (h : ¬ zOkN tb len (q + 1)) : zPe tb len q = ((zNe tb len (q + 1) : Nat) : Int) := by
  unfold zPe
  rw [if_neg (fun g => g k)]
  by_cases d : zDg tb len (q + 1) = true
  · have d2 : zDg tb len (zNe tb len (q + 1)) = true := Classical.byContradiction fun g => h ⟨d, g⟩
    have d3 := zDg_iff.mp d2
    rw [if_neg (fun g => g d), if_pos (by omega)]
  · rw [if_pos d, zNe_0 d]
theorem pe_4 {tb : Nat → Int} {len q : Nat} (k : zNx tb len q = 109 ∨ zNx tb len q = 110 ∨ zNx tb len q = 105) (h : zOkN tb len (q + 1)) (g : ¬ (zNx tb len (zNe tb len (q + 1)) = 43 ∨ zNx tb len (zNe tb len (q + 1)) = 45)) : zPe tb len q = ((zNe tb len (q + 1) : Nat) : Int) := by
  unfold zPe
  rw [if_neg (fun g => g k), if_neg (fun g => g h.1), if_pos g]
theorem pe_5 {tb : Nat → Int} {len q : Nat} (k : zNx tb len q = 109 ∨ zNx tb len q = 110 ∨ zNx tb len q = 105) (h : zOkN tb len (q + 1)) (g : zNx tb len (zNe tb len (q + 1)) = 43 ∨ zNx tb len (zNe tb len (q + 1)) = 45) (b : ¬ zOkN tb len (zNe tb len (q + 1) + 1)) : zPe tb len q = ((zNe tb len (zNe tb len (q + 1) + 1) : Nat) : Int) := by
  unfold zPe
  rw [if_neg (fun g => g k), if_neg (fun g => g h.1), if_neg (fun f => f g)]
  by_cases d : zDg tb len (zNe tb len (q + 1) + 1) = true
  · have d2 : zDg tb len (zNe tb len (zNe tb len (q + 1) + 1)) = true := Classical.byContradiction fun g => b ⟨d, g⟩
    have d3 := zDg_iff.mp d2
    rw [if_neg (fun g => g d), if_neg (fun g => g.2 d2), if_pos (by omega)]
  · rw [if_pos d, zNe_0 d]
theorem pe_6 {tb : Nat → Int} {len q : Nat} (k : zNx tb len q = 109 ∨ zNx tb len q = 110 ∨ zNx tb len q = 105) (h : zOkN tb len (q + 1)) (g : zNx tb len (zNe tb len (q + 1)) = 43 ∨ zNx tb len (zNe tb len (q + 1)) = 45) (b : zOkN tb len (zNe tb len (q + 1) + 1)) (c : 2000 < zNv tb len (zNe tb len (q + 1) + 1)) : zPe tb len q = ((zNe tb len (q + 1) + 1 : Nat) : Int) := by
  unfold zPe
  rw [if_neg (fun g => g k), if_neg (fun g => g h.1), if_neg (fun f => f g), if_neg (fun f => f b.1), if_pos ⟨c, b.2⟩]
theorem pe_7 {tb : Nat → Int} {len q : Nat} (k : zNx tb len q = 109 ∨ zNx tb len q = 110 ∨ zNx tb len q = 105) (h : zOkN tb len (q + 1)) (g : zNx tb len (zNe tb len (q + 1)) = 43 ∨ zNx tb len (zNe tb len (q + 1)) = 45) (b : zOkN tb len (zNe tb len (q + 1) + 1)) (c : zNv tb len (zNe tb len (q + 1) + 1) ≤ 2000) : zPe tb len q = if ¬ zNx tb len (zNe tb len (zNe tb len (q + 1) + 1)) = 59 then ((zNe tb len (zNe tb len (q + 1) + 1) : Nat) : Int) else -1 := by
  unfold zPe
  rw [if_neg (fun g => g k), if_neg (fun g => g h.1), if_neg (fun f => f g), if_neg (fun f => f b.1), if_neg (fun f => absurd f.1 (by omega))]
theorem pk0_v {tb : Nat → Int} {len q : Nat} {x : Int} (h : (x = 0 ∧ zNx tb len q = 109) ∨ (x = 1 ∧ zNx tb len q = 110) ∨ (x = 2 ∧ zNx tb len q = 105)) : x = zPk0 tb len q := by
  unfold zPk0 zKd
  split
  · omega
  · split <;> omega
theorem pa_v {tb : Nat → Int} {len q : Nat} {x : Int} (h : (zNx tb len (zNe tb len (q + 1)) = 45 ∧ x = -zNv tb len (zNe tb len (q + 1) + 1)) ∨ (zNx tb len (zNe tb len (q + 1)) ≠ 45 ∧ x = zNv tb len (zNe tb len (q + 1) + 1))) : x = zPa tb len q := by
  unfold zPa zSg
  split <;> omega
/-- what reading one pulse leaves, in the reference -/
def zRr (tb : Nat → Int) (len q : Nat) (u : Nat × Int × Int × Int × Int) : Prop :=
  (zPe tb len q = -1 → u.1 = zPn tb len q ∧ u.2.2.1 = zPk0 tb len q ∧ u.2.2.2.1 = zPt tb len q ∧ u.2.2.2.2 = zPa tb len q) ∧ (zPe tb len q ≠ -1 → (u.1 : Int) = zPe tb len q)
theorem rr_n {tb : Nat → Int} {len q a : Nat} {x y z v : Int} (h : zPe tb len q = (a : Int)) : zRr tb len q (a, x, y, z, v) := ⟨fun g => absurd (h.symm.trans g) (by omega), fun _ => h.symm⟩
theorem rr_y {tb : Nat → Int} {len q a : Nat} {x y z v : Int} (h : zPe tb len q = -1) (h1 : a = zPn tb len q) (h2 : y = zPk0 tb len q) (h3 : z = zPt tb len q) (h4 : v = zPa tb len q) : zRr tb len q (a, x, y, z, v) := ⟨fun _ => ⟨h1, h2, h3, h4⟩, fun g => absurd h g⟩
