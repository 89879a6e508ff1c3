/-! pulses before a time -/
def zGone (T : Nat → Int) (t : Int) : Nat → Nat
  | 0 => 0
  | n + 1 => zGone T t n + (if T n < t then 1 else 0)
theorem zGone_le {T : Nat → Int} {t : Int} {n : Nat} : zGone T t n ≤ n := by
  induction n with
  | zero => simp [zGone]
  | succ n ih => simp only [zGone]; split <;> omega
theorem drop_z {T T1 : Nat → Int} {t : Int} {n i kept : Nat} (hM : ∀ i j, i ≤ j → j < n → T i ≤ T j) (hi : i < n) (hTi : T1 i = T i) (h : T1 i < t) (hz : kept = 0 ∨ ∃ j, j < i ∧ t ≤ T j) : kept = 0 := by
  rcases hz with hz | ⟨j, hj, hz⟩
  · exact hz
  · have := hM j i (by omega) hi
    omega
theorem drop_k1 {T T1 : Nat → Int} {t : Int} {i kept : Nat} (hk : kept + zGone T t i = i) (hTi : T1 i = T i) (h : t ≤ T1 i) : kept + 1 + zGone T t (i + 1) = i + 1 := by
  simp only [zGone]; rw [if_neg (by omega)]; omega
theorem drop_k2 {T T1 : Nat → Int} {t : Int} {i kept : Nat} (hk : kept + zGone T t i = i) (hTi : T1 i = T i) (h : T1 i < t) (_ : kept = 0) : kept + zGone T t (i + 1) = i + 1 := by
  simp only [zGone]; rw [if_pos (by omega)]; omega
theorem drop_lo {K T U K1 T1 U1 : Nat → Int} {t : Int} {i kept : Nat} (hk : kept + zGone T t i = i) (hTi : T1 i = T i) (h : t ≤ T1 i) (hi : K1 i = K i ∧ T1 i = T i ∧ U1 i = U i) (hlo : ∀ j, j < kept → K1 j = K (j + zGone T t i) ∧ T1 j = T (j + zGone T t i) ∧ U1 j = U (j + zGone T t i)) : ∀ j, j < kept + 1 → zU K1 kept (K1 i) j = K (j + zGone T t (i + 1)) ∧ zU T1 kept (T1 i) j = T (j + zGone T t (i + 1)) ∧ zU U1 kept (U1 i) j = U (j + zGone T t (i + 1)) := by
  intro j hj
  have e : zGone T t (i + 1) = zGone T t i := by simp only [zGone]; rw [if_neg (by omega)]; omega
  rw [e]
  by_cases hjk : j = kept
  · subst hjk
    rw [zU_s, zU_s, zU_s, hk]; exact hi
  · rw [zU_n hjk, zU_n hjk, zU_n hjk]; exact hlo j (by omega)
theorem drop_hi {K T U K1 T1 U1 : Nat → Int} {t : Int} {i kept : Nat} {x y z : Int} (hk : kept + zGone T t i = i) (hhi : ∀ j, i ≤ j → K1 j = K j ∧ T1 j = T j ∧ U1 j = U j) : ∀ j, i + 1 ≤ j → zU K1 kept x j = K j ∧ zU T1 kept y j = T j ∧ zU U1 kept z j = U j := by
  intro j hj
  rw [zU_n (by omega), zU_n (by omega), zU_n (by omega)]; exact hhi j (by omega)
