theorem fb_s {P : Nat → Bool} {V f : Nat → Int} {i : Nat} {b0 : Nat} (h : ∀ b : Nat, b < 36 → f b = zCt (fun a => P a && decide (V a = b)) i) (hP : P i = true) (hv : V i = (b0 : Int)) : ∀ b : Nat, b < 36 → zU f b0 (f b0 + 1) b = zCt (fun a => P a && decide (V a = b)) (i + 1) := by
  intro b hb
  simp only [zCt]
  rw [← h b hb]
  by_cases e : b = b0
  · subst e
    rw [zU_s, if_pos (by rw [hP, hv]; simp)]
  · rw [zU_n e, if_neg (by rw [hP, hv]; simp; omega)]; omega
theorem fb_k {P : Nat → Bool} {V f : Nat → Int} {i : Nat} (h : ∀ b : Nat, b < 36 → f b = zCt (fun a => P a && decide (V a = b)) i) (hP : ¬ P i = true) : ∀ b : Nat, b < 36 → f b = zCt (fun a => P a && decide (V a = b)) (i + 1) := by
  intro b hb
  simp only [zCt]
  rw [← h b hb, if_neg (by intro q; rw [Bool.and_eq_true] at q; exact hP q.1)]; omega
/-- the rows of a look: statuses, charges, bursts as they are now -/
def zLk (n : Nat) (K T U S F L : Nat → Int) (w : Nat) (st ch bo : Nat → Int) : Prop := ∀ j, j < n → st j = zSN n K T U S F L w j ∧ ch j = zCh n K U S j ∧ bo j = zBo (zSN n K T U S F L w) T (S 7) j
theorem zSN_in {n : Nat} {K T U S F L : Nat → Int} {w : Nat} {k : Nat} (hK : ∀ j, j < n → 0 ≤ K j ∧ K j ≤ 2) (h : k < n) : 0 ≤ zSN n K T U S F L w k ∧ zSN n K T U S F L w k ≤ 6 := zSt_in hK h
theorem zLk_r {n : Nat} {K T U S F L : Nat → Int} {w : Nat} {st ch bo : Nat → Int} (hg : zLog n K T U) (hs : zSet S) (h : zLk n K T U S F L w st ch bo) : (∀ j, j < n → 0 ≤ st j ∧ st j ≤ 6) ∧ (∀ j, j < n → 0 ≤ ch j ∧ ch j ≤ 500000000) ∧ (∀ j, j < n → -1 ≤ bo j ∧ bo j ≤ 250) := by
  obtain ⟨hn, hK, hT, hU, hM⟩ := hg
  refine ⟨fun j hj => ?_, fun j hj => ?_, fun j hj => ?_⟩
  · rw [(h j hj).1]; exact zSN_in hK hj
  · rw [(h j hj).2.1]; exact zCh_in hn hU hs.2.1 hj
  · rw [(h j hj).2.2]
    have := zBo_in (st := zSN n K T U S F L w) (T := T) (gap := S 7) (k := j)
    omega
