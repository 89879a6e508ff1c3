/-! the reference's intervals -/
def zTi (n : Nat) (T st ch S pk : Nat → Int) (i : Nat) (v : Int) : Int :=
  if v = 0 then zCt (zPq T st (360 * S 8) i) n else if v = 1 then pk i else if v = 2 then zSm (zPq T st (360 * S 8) i) ch n
  else if v = 3 then zB (zLim pk (S 9) (S 10) i = true) else zB (zGro pk i = true)
theorem zTi_lk {n : Nat} {K T U S F L : Nat → Int} {w : Nat} {st bo pk : Nat → Int} {i : Nat} {v : Int} (hl : zMk n K T U S F L w st bo) (hp : ∀ b : Nat, b < 2778 → pk b = zPks n K T U S F L w b) (hi : i < 2778) : zTi n T st (zCh n K U S) S pk i v = zIn n K T U S F L w i v := by
  unfold zTi zIn
  rw [zCt_cg (zPq_lk (tk := 360 * S 8) (i := i) (mk_lk hl)), zSm_cg (zPq_lk (tk := 360 * S 8) (i := i) (mk_lk hl)) (fun _ _ _ => rfl), hp i hi]
  simp only [zLim_cg hi hp, zGro_cg hi hp]
theorem row_r {NW : Nat → Int} {n : Nat} {K T U S F L : Nat → Int} {w : Nat} (hN : zRow NW n K T U S F L w) (hw : zWin w F L) : ∀ j, j < 1 + 2 * w → -2147483648 ≤ NW (11 + j) ∧ NW (11 + j) ≤ 2147483647 := by
  intro j hj
  have hw4 := hw.1
  by_cases e : j = 0
  · subst e
    have := hN.2.1
    show -2147483648 ≤ NW 11 ∧ NW 11 ≤ 2147483647
    omega
  · obtain ⟨i, hi⟩ : ∃ i, j = 1 + 2 * i ∨ j = 1 + 2 * i + 1 := ⟨(j - 1) / 2, by omega⟩
    have h1 := hN.2.2.1 i (by omega)
    have h2 := hw.2.1 i (by omega)
    have h3 := hw.2.2 i (by omega)
    rcases hi with rfl | rfl
    · rw [show 11 + (1 + 2 * i) = 12 + 2 * i by omega]; omega
    · rw [show 11 + (1 + 2 * i + 1) = 12 + 2 * i + 1 by omega]; omega
theorem row_r0 {NW : Nat → Int} {n : Nat} {K T U S F L : Nat → Int} {w : Nat} (hN : zRow NW n K T U S F L w) (hs : zSet S) : ∀ j, j < 11 → -2147483648 ≤ NW (0 + j) ∧ NW (0 + j) ≤ 2147483647 := by
  intro j hj
  have h1 := hN.1 j hj
  have h2 := zSet_in hs j hj
  rw [Nat.zero_add]; omega
theorem row_h {NW : Nat → Int} {n : Nat} {K T U S F L : Nat → Int} {w : Nat} {h : Int} (hN : zRow NW n K T U S F L w) : zHs h (fun j => NW (0 + j)) 11 = zHs h S 11 := zHs_cg (fun j hj => by show NW (0 + j) = S j; rw [Nat.zero_add]; exact hN.1 j hj)
theorem row_w {NW : Nat → Int} {n : Nat} {K T U S F L : Nat → Int} {w : Nat} {h : Int} (hN : zRow NW n K T U S F L w) : zHs h (fun j => NW (11 + j)) (1 + 2 * w) = zHw (31 * h + (w : Int)) F L w := zHs_row hN.2.1 hN.2.2.1 w (Nat.le_refl w)
