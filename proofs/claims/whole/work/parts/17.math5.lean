/-! the trend -/
def zPq (T st : Nat → Int) (tk i : Int) (a : Nat) : Bool := decide (st a = 0 ∧ T a / tk = i)
theorem trend_q {t s : Int} (h : 0 ≤ t ∧ t ≤ 1000000) (hs : 1 ≤ s ∧ s ≤ 1000) : 0 ≤ t / (360 * s) ∧ t / (360 * s) ≤ 2777 := by
  refine ⟨Int.ediv_nonneg h.1 (by omega), ?_⟩
  have h1 : t / (360 * s) = t / 360 / s := (Int.ediv_ediv_of_nonneg (by omega)).symm
  rw [h1]
  have h2 := Int.ediv_le_self s (show 0 ≤ t / 360 by omega)
  omega
theorem pk_s {T st c f : Nat → Int} {tk : Int} {i b0 : Nat} (h : ∀ b : Nat, b < 2778 → f b = zMx 0 (zPq T st tk b) c i) (hP : st i = 0) (hv : T i / tk = (b0 : Int)) : ∀ b : Nat, b < 2778 → zU f b0 (max (f b0) (c i)) b = zMx 0 (zPq T st tk b) c (i + 1) := by
  intro b hb
  simp only [zMx]
  rw [← h b hb]
  by_cases e : b = b0
  · subst e
    rw [zU_s, if_pos (by unfold zPq; exact decide_eq_true ⟨hP, hv⟩)]
  · rw [zU_n e, if_neg (by unfold zPq; simp only [decide_eq_true_eq]; omega)]
theorem pk_k {T st c f : Nat → Int} {tk : Int} {i : Nat} (h : ∀ b : Nat, b < 2778 → f b = zMx 0 (zPq T st tk b) c i) (hP : ¬ st i = 0) : ∀ b : Nat, b < 2778 → f b = zMx 0 (zPq T st tk b) c (i + 1) := by
  intro b hb
  simp only [zMx]
  rw [← h b hb, if_neg (by unfold zPq; simp only [decide_eq_true_eq]; omega)]
/-- the peaks of a trend -/
def zPk (n : Nat) (T st ch S : Nat → Int) (i : Nat) : Int := zMx 0 (zPq T st (360 * S 8) i) ch n
theorem zPk_in {n : Nat} {T st ch S : Nat → Int} {i : Nat} (h : ∀ j, j < n → 0 ≤ ch j ∧ ch j ≤ 500000000) : 0 ≤ zPk n T st ch S i ∧ zPk n T st ch S i ≤ 500000000 := zMx_in (by omega) h
def zLim (pk : Nat → Int) (pe li : Int) (i : Nat) : Bool := decide (pe ≤ (i : Int) + 1) && !(zAny (fun k => decide ((i : Int) + 1 - pe ≤ (k : Int) ∧ pk k < li)) (i + 1))
theorem zLim_iff {pk : Nat → Int} {pe li : Int} {i : Nat} : zLim pk pe li i = true ↔ pe ≤ (i : Int) + 1 ∧ ∀ k : Nat, k ≤ i → (i : Int) + 1 - pe ≤ (k : Int) → li ≤ pk k := by
  unfold zLim
  rw [Bool.and_eq_true, decide_eq_true_eq, Bool.not_eq_true', zAny_no]
  constructor
  · rintro ⟨h1, h2⟩
    refine ⟨h1, fun k hk hp => ?_⟩
    have := h2 k (by omega)
    simp only [decide_eq_false_iff_not] at this
    omega
  · rintro ⟨h1, h2⟩
    refine ⟨h1, fun k hk => ?_⟩
    simp only [decide_eq_false_iff_not]
    intro q
    have := h2 k (by omega) q.1
    omega
def zGro (pk : Nat → Int) (i : Nat) : Bool := decide (3 ≤ i ∧ 0 < pk i ∧ 2 * (pk (i - 1) + pk (i - 2) + pk (i - 3)) ≤ 3 * pk i)
-- what is saved
abbrev zS8 : Type := (Nat → Int) × (Nat → Int) × (Nat → Int) × (Nat → Int) × (Nat → Int) × (Nat → Int) × Nat × Nat
def zPush (m : Nat) (CC : Nat → zS8) (X : zS8) : Nat → zS8 := if m < 4 then va_up CC m X else va_up (fun j => CC (j + 1)) 3 X
def zMs (m : Nat) : Nat := if m < 4 then m + 1 else 4
def zRf (AD : Nat → Nat → Nat) : Nat → Option Nat := fun j => some (AD j 0)
