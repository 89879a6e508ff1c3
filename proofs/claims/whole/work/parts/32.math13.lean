/-! recording a text's pulses -/
def zTm (tb : Nat → Int) (len : Nat) (t0 : Int) : Nat → Int
  | 0 => t0
  | i + 1 => zTm tb len t0 i + zPt tb len (zPp tb len i)
def zRq (tb : Nat → Int) (len n : Nat) (t0 : Int) (i : Nat) : Bool := decide (1000000 < zTm tb len t0 (i + 1) ∨ 250 ≤ (n : Int) + (i : Int))
def zRef (tb : Nat → Int) (len n : Nat) (t0 : Int) (N : Nat) : Int := zFst (zRq tb len n t0) N
theorem zLog_add {n : Nat} {K T U : Nat → Int} {k t u : Int} (hg : zLog n K T U) (hn : n < 250) (hk : 0 ≤ k ∧ k ≤ 2) (ht : zLast n T ≤ t ∧ t ≤ 1000000) (hu : -2000 ≤ u ∧ u ≤ 2000) : zLog (n + 1) (zU K n k) (zU T n t) (zU U n u) := by
  have h0 := zLast_in hg
  obtain ⟨h1, hK, hT, hU, hM⟩ := hg
  refine ⟨by omega, fun j hj => ?_, fun j hj => ?_, fun j hj => ?_, fun i j hij hj => ?_⟩
  · by_cases e : j = n
    · subst e; rw [zU_s]; exact hk
    · rw [zU_n e]; exact hK j (by omega)
  · by_cases e : j = n
    · subst e; rw [zU_s]; omega
    · rw [zU_n e]; exact hT j (by omega)
  · by_cases e : j = n
    · subst e; rw [zU_s]; exact hu
    · rw [zU_n e]; exact hU j (by omega)
  · by_cases e : j = n
    · subst e; rw [zU_s]
      by_cases e2 : i = j
      · subst e2; rw [zU_s]; exact Int.le_refl _
      · rw [zU_n e2]
        have a1 := hM i (j - 1) (by omega) (by omega)
        have a2 : zLast j T = T (j - 1) := by unfold zLast; rw [if_pos (by omega)]
        omega
    · rw [zU_n e, zU_n (by omega)]; exact hM i j hij (by omega)
theorem zLast_add {n : Nat} {T : Nat → Int} {t : Int} : zLast (n + 1) (zU T n t) = t := by
  unfold zLast
  rw [if_pos (by omega)]
  exact zU_s
/-- the log with N pulses of the text behind it -/
def zApp (tb : Nat → Int) (len n : Nat) (K T U : Nat → Int) (N : Nat) (K2 T2 U2 : Nat → Int) : Prop :=
  (∀ j, j < n → K2 j = K j ∧ T2 j = T j ∧ U2 j = U j) ∧ (∀ i, i < N → K2 (n + i) = zPk0 tb len (zPp tb len i) ∧ T2 (n + i) = zTm tb len (zLast n T) (i + 1) ∧ U2 (n + i) = zPa tb len (zPp tb len i))
def zPar (tb : Nat → Int) (len n : Nat) (K T U : Nat → Int) (CC : Nat → zS8) (mm : Nat) (X : zS8) (r : Int) (CC2 : Nat → zS8) (mm2 : Nat) (K2 T2 U2 : Nat → Int) (n2 : Nat) : Prop :=
  ∃ (N : Nat) (er : Int), zTxt tb len N er ∧
    ((er ≠ -1 ∧ r = -10 - er ∧ CC2 = CC ∧ mm2 = mm ∧ K2 = K ∧ T2 = T ∧ U2 = U ∧ n2 = n) ∨
     (er = -1 ∧ zRef tb len n (zLast n T) N ≠ -1 ∧ r = -1000 - zRef tb len n (zLast n T) N ∧ CC2 = CC ∧ mm2 = mm ∧ K2 = K ∧ T2 = T ∧ U2 = U ∧ n2 = n) ∨
     (er = -1 ∧ zRef tb len n (zLast n T) N = -1 ∧ r = (N : Int) ∧ CC2 = zPush mm CC X ∧ mm2 = zMs mm ∧ n2 = n + N ∧ zApp tb len n K T U N K2 T2 U2 ∧ zLog n2 K2 T2 U2))
theorem zTxt_ok {tb : Nat → Int} {len N : Nat} {er : Int} (h : zTxt tb len N er) : ∀ j, j < N → zPe tb len (zPp tb len j) = -1 := fun j hj => (h.1 j hj).2
theorem app_s {tb : Nat → Int} {len n : Nat} {K T U : Nat → Int} {i : Nat} {K2 T2 U2 : Nat → Int} {x y z : Int} (h : zApp tb len n K T U i K2 T2 U2) (hx : x = zPk0 tb len (zPp tb len i)) (hy : y = zTm tb len (zLast n T) (i + 1)) (hz : z = zPa tb len (zPp tb len i)) : zApp tb len n K T U (i + 1) (zU K2 (n + i) x) (zU T2 (n + i) y) (zU U2 (n + i) z) := by
  refine ⟨fun j hj => ?_, fun j hj => ?_⟩
  · rw [zU_n (by omega), zU_n (by omega), zU_n (by omega)]; exact h.1 j hj
  · by_cases e : j = i
    · subst e; rw [zU_s, zU_s, zU_s]; exact ⟨hx, hy, hz⟩
    · rw [zU_n (by omega), zU_n (by omega), zU_n (by omega)]; exact h.2 j (by omega)
theorem zFst_none {P : Nat → Bool} : ∀ {n : Nat}, zFst P n = -1 → ∀ j, j < n → P j = false
  | 0, _, j, hj => absurd hj (by omega)
  | n + 1, h, j, hj => by
    simp only [zFst] at h
    by_cases c : zFst P n = -1
    · rw [if_pos c] at h
      by_cases d : P n = true
      · rw [if_pos d] at h; omega
      · by_cases e : j = n
        · subst e; exact Bool.eq_false_iff.mpr d
        · exact zFst_none c j (by omega)
    · rw [if_neg c] at h; omega
theorem zFst_in {P : Nat → Bool} : ∀ {n : Nat}, -1 ≤ zFst P n ∧ zFst P n < n
  | 0 => by simp [zFst]
  | n + 1 => by
    have ih := zFst_in (P := P) (n := n)
    simp only [zFst]
    split
    · split <;> omega
    · omega
theorem zTm_s {tb : Nat → Int} {len : Nat} {t0 : Int} {i : Nat} : zTm tb len t0 (i + 1) = zTm tb len t0 i + zPt tb len (zPp tb len i) := rfl
theorem rq_t {tb : Nat → Int} {len n : Nat} {t0 : Int} {i : Nat} {a b : Int} (ha : a = zTm tb len t0 i) (hb : b = zPt tb len (zPp tb len i)) (h : 1000000 < a + b ∨ 250 ≤ (n : Int) + (i : Int)) : zRq tb len n t0 i = true := by
  subst ha; subst hb; exact decide_eq_true h
theorem rq_f {tb : Nat → Int} {len n : Nat} {t0 : Int} {i : Nat} {a b : Int} (ha : a = zTm tb len t0 i) (hb : b = zPt tb len (zPp tb len i)) (h : ¬(1000000 < a + b ∨ 250 ≤ (n : Int) + (i : Int))) : zRq tb len n t0 i = false := by
  subst ha; subst hb; exact decide_eq_false h
theorem rq_no {tb : Nat → Int} {len n : Nat} {t0 : Int} {i : Nat} {a b : Int} (ha : a = zTm tb len t0 i) (hb : b = zPt tb len (zPp tb len i)) (h : zRq tb len n t0 i = false) : a + b ≤ 1000000 ∧ (n : Int) + (i : Int) < 250 := by
  subst ha; subst hb
  have h2 : ¬(1000000 < zTm tb len t0 (i + 1) ∨ 250 ≤ (n : Int) + (i : Int)) := of_decide_eq_false h
  rw [zTm_s] at h2
  omega
