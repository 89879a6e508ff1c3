/-! numbers that are no NaN -/
theorem n64_of {a : UInt64} (h : FP.Core.val64 a ≠ .nan) : vf_n64 a := by
  unfold vf_n64
  rw [UInt64.le_iff_toNat_le, UInt64.toNat_and]
  show a.toNat &&& (2 ^ 63 - 1) ≤ 0x7ff0000000000000
  rw [Nat.and_two_pow_sub_one_eq_mod]
  apply Nat.le_of_not_lt
  intro g
  apply h
  have e1 : FP.Core.fieldE FP.Core.b64 a.toNat = FP.Core.b64.exps - 1 := by
    show a.toNat / 2 ^ 52 % 2 ^ 11 = 2 ^ 11 - 1
    omega
  have e2 : ¬ FP.Core.fieldT FP.Core.b64 a.toNat = 0 := by
    show ¬ a.toNat % 2 ^ 52 = 0
    omega
  unfold FP.Core.val64 FP.Core.decode
  rw [if_pos e1, if_neg e2]
theorem rr_nn {f : FP.Core.Fmt} {s : Bool} {A B : Nat} {e : Int} : FP.Core.roundRatio f s A B e ≠ .nan := by
  unfold FP.Core.roundRatio
  split
  · intro h; cases h
  · unfold FP.Core.roundAt FP.Core.settle FP.Core.bound
    split <;> split <;> (intro h; cases h)
theorem qt_nn {f : FP.Core.Fmt} {s t : Bool} {c d : Nat} {q r : Int} (h : d ≠ 0) : FP.Core.quotient f (.fin s c q) (.fin t d r) ≠ .nan := by
  unfold FP.Core.quotient
  simp only [if_neg h]
  exact rr_nn
theorem qt_nn2 {f : FP.Core.Fmt} {x y : FP.Core.Datum} (hx : x ≠ .nan) (hy : ∃ t d r, y = .fin t d r ∧ d ≠ 0) : FP.Core.quotient f x y ≠ .nan := by
  obtain ⟨t, d, r, rfl, h⟩ := hy
  cases x with
  | nan => exact absurd rfl hx
  | inf s => intro h; cases h
  | fin s c q => exact qt_nn h
