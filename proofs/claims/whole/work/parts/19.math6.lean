/-! the pulse text -/
def zNx (tb : Nat → Int) (len q : Nat) : Int := if q < len then tb q else -1
def zDg (tb : Nat → Int) (len q : Nat) : Bool := decide (48 ≤ zNx tb len q ∧ zNx tb len q ≤ 57)
def zNe (tb : Nat → Int) (len q : Nat) : Nat :=
  if zDg tb len q = true then (if zDg tb len (q + 1) = true then (if zDg tb len (q + 2) = true then (if zDg tb len (q + 3) = true then q + 4 else q + 3) else q + 2) else q + 1) else q
def zN1 (tb : Nat → Int) (len q : Nat) : Int := zNx tb len q - 48
def zN2 (tb : Nat → Int) (len q : Nat) : Int := zN1 tb len q * 10 + zNx tb len (q + 1) - 48
def zN3 (tb : Nat → Int) (len q : Nat) : Int := zN2 tb len q * 10 + zNx tb len (q + 2) - 48
def zN4 (tb : Nat → Int) (len q : Nat) : Int := zN3 tb len q * 10 + zNx tb len (q + 3) - 48
def zNv (tb : Nat → Int) (len q : Nat) : Int :=
  if zDg tb len (q + 1) = true then (if zDg tb len (q + 2) = true then (if zDg tb len (q + 3) = true then zN4 tb len q else zN3 tb len q) else zN2 tb len q) else zN1 tb len q
theorem zDg_iff {tb : Nat → Int} {len q : Nat} : zDg tb len q = true ↔ 48 ≤ zNx tb len q ∧ zNx tb len q ≤ 57 := decide_eq_true_iff
theorem zNv_in {tb : Nat → Int} {len q : Nat} (h : zDg tb len q = true) : 0 ≤ zNv tb len q ∧ zNv tb len q ≤ 9999 := by
  rw [zDg_iff] at h
  unfold zNv
  split
  · rename_i h1; rw [zDg_iff] at h1
    split
    · rename_i h2; rw [zDg_iff] at h2
      split
      · rename_i h3; rw [zDg_iff] at h3
        unfold zN4 zN3 zN2 zN1; omega
      · unfold zN3 zN2 zN1; omega
    · unfold zN2 zN1; omega
  · unfold zN1; omega
theorem zNe_in {tb : Nat → Int} {len q : Nat} : q ≤ zNe tb len q ∧ zNe tb len q ≤ q + 4 := by
  unfold zNe
  split
  · split
    · split
      · split <;> omega
      · omega
    · omega
  · omega
theorem zNe_lt {tb : Nat → Int} {len q : Nat} (h : zDg tb len q = true) : q < zNe tb len q := by
  unfold zNe
  rw [if_pos h]
  split
  · split
    · split <;> omega
    · omega
  · omega
theorem zDg_lt {tb : Nat → Int} {len q : Nat} (h : zDg tb len q = true) : q < len := by
  rw [zDg_iff] at h
  unfold zNx at h
  by_cases e : q < len
  · exact e
  · rw [if_neg e] at h; omega
theorem zNe_len {tb : Nat → Int} {len q : Nat} (h : zDg tb len q = true) : zNe tb len q ≤ len := by
  have h0 := zDg_lt h
  unfold zNe
  rw [if_pos h]
  split
  · rename_i h1; have := zDg_lt h1
    split
    · rename_i h2; have := zDg_lt h2
      split
      · rename_i h3; have := zDg_lt h3; omega
      · omega
    · omega
  · omega
def zKo (c : Int) : Prop := c = 109 ∨ c = 110 ∨ c = 105
def zKd (c : Int) : Int := if c = 109 then 0 else if c = 110 then 1 else 2
def zSo (c : Int) : Prop := c = 43 ∨ c = 45
def zSg (c : Int) : Int := if c = 45 then -1 else 1
/-- where the pulse that begins at q goes wrong, or -1 -/
def zPe (tb : Nat → Int) (len q : Nat) : Int :=
  if ¬ (zNx tb len q = 109 ∨ zNx tb len q = 110 ∨ zNx tb len q = 105) then (q : Int)
  else if ¬ zDg tb len (q + 1) = true then ((q + 1 : Nat) : Int)
  else if ¬ (zNx tb len (zNe tb len (q + 1)) = 43 ∨ zNx tb len (zNe tb len (q + 1)) = 45) then ((zNe tb len (q + 1) : Nat) : Int)
  else if ¬ zDg tb len (zNe tb len (q + 1) + 1) = true then ((zNe tb len (q + 1) + 1 : Nat) : Int)
  else if 2000 < zNv tb len (zNe tb len (q + 1) + 1) ∧ ¬ zDg tb len (zNe tb len (zNe tb len (q + 1) + 1)) = true then ((zNe tb len (q + 1) + 1 : Nat) : Int)
  else if ¬ zNx tb len (zNe tb len (zNe tb len (q + 1) + 1)) = 59 then ((zNe tb len (zNe tb len (q + 1) + 1) : Nat) : Int)
  else -1
def zPn (tb : Nat → Int) (len q : Nat) : Nat := zNe tb len (zNe tb len (q + 1) + 1) + 1
def zPk0 (tb : Nat → Int) (len q : Nat) : Int := zKd (zNx tb len q)
def zPt (tb : Nat → Int) (len q : Nat) : Int := zNv tb len (q + 1)
def zPa (tb : Nat → Int) (len q : Nat) : Int := zSg (zNx tb len (zNe tb len (q + 1))) * zNv tb len (zNe tb len (q + 1) + 1)
/-- what a number's reading leaves: where, the error, the number -/
def zRn (tb : Nat → Int) (len q : Nat) (er : Int) (u : Nat × Int × Int) : Prop :=
  (er ≠ -1 → u.1 = q ∧ u.2.1 = er) ∧ (er = -1 → ¬ zDg tb len q = true → u.1 = q ∧ u.2.1 = q) ∧ (er = -1 → zDg tb len q = true → u.1 = zNe tb len q ∧ u.2.1 = -1 ∧ u.2.2 = zNv tb len q)
def zRs (tb : Nat → Int) (len q : Nat) (er : Int) (u : Nat × Int) : Prop :=
  (er ≠ -1 → u.1 = q ∧ u.2 = er) ∧ (er = -1 → ¬ zSo (zNx tb len q) → u.1 = q ∧ u.2 = q) ∧ (er = -1 → zSo (zNx tb len q) → u.1 = q + 1 ∧ u.2 = -1)
def zRk (tb : Nat → Int) (len q : Nat) (u : Nat × Int) : Prop :=
  (¬ zKo (zNx tb len q) → u.1 = q ∧ u.2 = q) ∧ (zKo (zNx tb len q) → u.1 = q + 1 ∧ u.2 = -1)
def zRa (tb : Nat → Int) (len q : Nat) (er : Int) (u : Nat × Int × Int) : Prop :=
  (er ≠ -1 → u.1 = q ∧ u.2.1 = er) ∧ (er = -1 → ¬ zDg tb len q = true → u.1 = q ∧ u.2.1 = q) ∧ (er = -1 → zDg tb len q = true → u.1 = zNe tb len q ∧ ((2000 < zNv tb len q ∧ ¬ zDg tb len (zNe tb len q) = true) → u.2.1 = q) ∧ (¬ (2000 < zNv tb len q ∧ ¬ zDg tb len (zNe tb len q) = true) → u.2.1 = -1 ∧ u.2.2 = zNv tb len q))
def zRc (tb : Nat → Int) (len q : Nat) (er : Int) (u : Nat × Int) : Prop :=
  (er ≠ -1 → u.1 = q ∧ u.2 = er) ∧ (er = -1 → ¬ zNx tb len q = 59 → u.1 = q ∧ u.2 = q) ∧ (er = -1 → zNx tb len q = 59 → u.1 = q + 1 ∧ u.2 = -1)
theorem rp_all {tb : Nat → Int} {len q : Nat} {u1 : Nat × Int} {u2 : Nat × Int × Int} {u3 : Nat × Int} {u4 : Nat × Int × Int} {u5 : Nat × Int} (h1 : zRk tb len q u1) (h2 : zRn tb len u1.1 u1.2 u2) (h3 : zRs tb len u2.1 u2.2.1 u3) (h4 : zRa tb len u3.1 u3.2 u4) (h5 : zRc tb len u4.1 u4.2.1 u5) :
    u5.2 = zPe tb len q ∧ (zPe tb len q = -1 → u5.1 = zPn tb len q ∧ u2.2.2 = zPt tb len q ∧ zSg (zNx tb len u2.1) * u4.2.2 = zPa tb len q) := by
  obtain ⟨a1, e1⟩ := u1
  obtain ⟨a2, e2, r2⟩ := u2
  obtain ⟨a3, e3⟩ := u3
  obtain ⟨a4, e4, r4⟩ := u4
  obtain ⟨a5, e5⟩ := u5
  simp only [zRk, zRn, zRs, zRa, zRc, zKo, zSo] at h1 h2 h3 h4 h5
  have stop : ∀ z : Int, z ≠ -1 → e1 = z → e5 = z := by
    intro z hz h
    have b2 := (h2.1 (by omega)).2
    have b3 := (h3.1 (by omega)).2
    have b4 := (h4.1 (by omega)).2
    have b5 := (h5.1 (by omega)).2
    omega
  have stop2 : ∀ z : Int, z ≠ -1 → e2 = z → e5 = z := by
    intro z hz h
    have b3 := (h3.1 (by omega)).2
    have b4 := (h4.1 (by omega)).2
    have b5 := (h5.1 (by omega)).2
    omega
  have stop3 : ∀ z : Int, z ≠ -1 → e3 = z → e5 = z := by
    intro z hz h
    have b4 := (h4.1 (by omega)).2
    have b5 := (h5.1 (by omega)).2
    omega
  have stop4 : ∀ z : Int, z ≠ -1 → e4 = z → e5 = z := by
    intro z hz h
    have b5 := (h5.1 (by omega)).2
    omega
  unfold zPe
  by_cases c1 : zNx tb len q = 109 ∨ zNx tb len q = 110 ∨ zNx tb len q = 105
  · rw [if_neg (not_not_intro c1)]
    obtain ⟨rfl, rfl⟩ := h1.2 c1
    by_cases c2 : zDg tb len (q + 1) = true
    · rw [if_neg (not_not_intro c2)]
      obtain ⟨rfl, rfl, rfl⟩ := h2.2.2 rfl c2
      by_cases c3 : zNx tb len (zNe tb len (q + 1)) = 43 ∨ zNx tb len (zNe tb len (q + 1)) = 45
      · rw [if_neg (not_not_intro c3)]
        obtain ⟨rfl, rfl⟩ := h3.2.2 rfl c3
        by_cases c4 : zDg tb len (zNe tb len (q + 1) + 1) = true
        · rw [if_neg (not_not_intro c4)]
          obtain ⟨rfl, d1, d2⟩ := h4.2.2 rfl c4
          by_cases c5 : 2000 < zNv tb len (zNe tb len (q + 1) + 1) ∧ ¬ zDg tb len (zNe tb len (zNe tb len (q + 1) + 1)) = true
          · rw [if_pos c5]
            exact ⟨stop4 _ (by omega) (d1 c5), fun h => absurd h (by omega)⟩
          · rw [if_neg c5]
            obtain ⟨rfl, rfl⟩ := d2 c5
            by_cases c6 : zNx tb len (zNe tb len (zNe tb len (q + 1) + 1)) = 59
            · rw [if_neg (not_not_intro c6)]
              obtain ⟨rfl, rfl⟩ := h5.2.2 rfl c6
              exact ⟨rfl, fun _ => ⟨rfl, rfl, rfl⟩⟩
            · rw [if_pos c6]
              obtain ⟨rfl, rfl⟩ := h5.2.1 rfl c6
              exact ⟨rfl, fun h => absurd h (by omega)⟩
        · rw [if_pos c4]
          obtain ⟨rfl, b2⟩ := h4.2.1 rfl c4
          exact ⟨stop4 _ (by omega) b2, fun h => absurd h (by omega)⟩
      · rw [if_pos c3]
        obtain ⟨rfl, b2⟩ := h3.2.1 rfl c3
        exact ⟨stop3 _ (by omega) b2, fun h => absurd h (by omega)⟩
    · rw [if_pos c2]
      obtain ⟨rfl, b2⟩ := h2.2.1 rfl c2
      exact ⟨stop2 _ (by omega) b2, fun h => absurd h (by omega)⟩
  · rw [if_pos c1]
    obtain ⟨rfl, b2⟩ := h1.1 c1
    exact ⟨stop _ (by omega) b2, fun h => absurd h (by omega)⟩
theorem zPe_ok {tb : Nat → Int} {len q : Nat} (h : zPe tb len q = -1) : (zNx tb len q = 109 ∨ zNx tb len q = 110 ∨ zNx tb len q = 105) ∧ zDg tb len (q + 1) = true ∧ (zNx tb len (zNe tb len (q + 1)) = 43 ∨ zNx tb len (zNe tb len (q + 1)) = 45) ∧ zDg tb len (zNe tb len (q + 1) + 1) = true ∧ ¬ (2000 < zNv tb len (zNe tb len (q + 1) + 1) ∧ ¬ zDg tb len (zNe tb len (zNe tb len (q + 1) + 1)) = true) ∧ zNx tb len (zNe tb len (zNe tb len (q + 1) + 1)) = 59 := by
  unfold zPe at h
  split at h
  · omega
  · rename_i c1
    split at h
    · omega
    · rename_i c2
      split at h
      · omega
      · rename_i c3
        split at h
        · omega
        · rename_i c4
          split at h
          · omega
          · rename_i c5
            split at h
            · omega
            · rename_i c6
              exact ⟨Classical.not_not.mp c1, Classical.not_not.mp c2, Classical.not_not.mp c3, Classical.not_not.mp c4, c5, Classical.not_not.mp c6⟩
theorem zPn_ge {tb : Nat → Int} {len q : Nat} (h : zPe tb len q = -1) : q + 5 ≤ zPn tb len q ∧ zPn tb len q ≤ len := by
  obtain ⟨c1, c2, c3, c4, c5, c6⟩ := zPe_ok h
  have a1 := zNe_lt c2
  have a2 := zNe_lt c4
  have a3 : zNe tb len (zNe tb len (q + 1) + 1) < len := by
    unfold zNx at c6
    by_cases e : zNe tb len (zNe tb len (q + 1) + 1) < len
    · exact e
    · rw [if_neg e] at c6; omega
  unfold zPn
  omega
theorem zPa_in {tb : Nat → Int} {len q : Nat} (h : zPe tb len q = -1) : -2000 ≤ zPa tb len q ∧ zPa tb len q ≤ 2000 ∧ 0 ≤ zPt tb len q ∧ zPt tb len q ≤ 9999 ∧ 0 ≤ zPk0 tb len q ∧ zPk0 tb len q ≤ 2 := by
  obtain ⟨c1, c2, c3, c4, c5, c6⟩ := zPe_ok h
  have a1 := zNv_in c2
  have a2 := zNv_in c4
  have a3 : ¬ zDg tb len (zNe tb len (zNe tb len (q + 1) + 1)) = true := by rw [zDg_iff, c6]; omega
  have a4 : zNv tb len (zNe tb len (q + 1) + 1) ≤ 2000 := by
    by_cases e : 2000 < zNv tb len (zNe tb len (q + 1) + 1)
    · exact absurd ⟨e, a3⟩ c5
    · omega
  refine ⟨?_, ?_, a1.1, a1.2, ?_, ?_⟩
  · unfold zPa zSg; split <;> omega
  · unfold zPa zSg; split <;> omega
  · unfold zPk0 zKd; split <;> (try split) <;> omega
  · unfold zPk0 zKd; split <;> (try split) <;> omega
/-- where the pulses begin -/
def zPp (tb : Nat → Int) (len : Nat) : Nat → Nat
  | 0 => 0
  | i + 1 => zPn tb len (zPp tb len i)
/-- the text's reading: N pulses stand, then the end (er = -1) or an error -/
def zTxt (tb : Nat → Int) (len N : Nat) (er : Int) : Prop := (∀ j, j < N → zPp tb len j < len ∧ zPe tb len (zPp tb len j) = -1) ∧ ((er = -1 ∧ len ≤ zPp tb len N) ∨ (zPp tb len N < len ∧ zPe tb len (zPp tb len N) = er ∧ er ≠ -1))
theorem zTxt_one {tb : Nat → Int} {len N N2 : Nat} {er er2 : Int} (h : zTxt tb len N er) (h2 : zTxt tb len N2 er2) : N = N2 ∧ er = er2 := by
  obtain ⟨a, b⟩ := h
  obtain ⟨a2, b2⟩ := h2
  have e : N = N2 := by
    rcases Nat.lt_trichotomy N N2 with q | q | q
    · have := a2 N q
      omega
    · exact q
    · have := a N2 q
      omega
  subst e
  refine ⟨rfl, ?_⟩
  omega
theorem zPp_ge {tb : Nat → Int} {len : Nat} : ∀ {N : Nat}, (∀ j, j < N → zPp tb len j < len ∧ zPe tb len (zPp tb len j) = -1) → 5 * N ≤ zPp tb len N ∧ zPp tb len N ≤ len
  | 0, _ => by simp [zPp]
  | N + 1, h => by
    have h1 := zPp_ge (N := N) (fun j hj => h j (by omega))
    have h2 := zPn_ge (h N (by omega)).2
    show 5 * (N + 1) ≤ zPn tb len (zPp tb len N) ∧ zPn tb len (zPp tb len N) ≤ len
    omega
theorem zPe_in {tb : Nat → Int} {len q : Nat} (hl : len ≤ 150) (hq : q < len) : -1 ≤ zPe tb len q ∧ zPe tb len q ≤ 200 := by
  have a1 := zNe_in (tb := tb) (len := len) (q := q + 1)
  have a2 := zNe_in (tb := tb) (len := len) (q := zNe tb len (q + 1) + 1)
  unfold zPe
  split
  · omega
  · split
    · omega
    · split
      · omega
      · split
        · omega
        · split
          · omega
          · split <;> omega
