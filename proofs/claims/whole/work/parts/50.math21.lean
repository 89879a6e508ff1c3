/-! numbers that are no NaN -/
theorem n64_of {a : UInt64} (h : FP.Core.val64 a ≠ .nan) : vf_n64 a := by
  unfold vf_n64
  rw [UInt64.le_iff_toNat_le, UInt64.toNat_and]
  show a.toNat &&& (2 ^ 63 - 1) ≤ 0x7ff0000000000000
  rw [Nat.and_two_pow_sub_one_eq_mod]
  apply Nat.le_of_not_lt
  intro g
  apply h
  have e1 : FP.Core.fieldE FP.Core.b64 a.toNat = FP.Core.b64.exps - 1 := by
    show a.toNat / 2 ^ 52 % 2 ^ 11 = 2 ^ 11 - 1
    omega
  have e2 : ¬ FP.Core.fieldT FP.Core.b64 a.toNat = 0 := by
    show ¬ a.toNat % 2 ^ 52 = 0
    omega
  unfold FP.Core.val64 FP.Core.decode
  rw [if_pos e1, if_neg e2]
theorem rr_nn {f : FP.Core.Fmt} {s : Bool} {A B : Nat} {e : Int} : FP.Core.roundRatio f s A B e ≠ .nan := by
  unfold FP.Core.roundRatio
  split
  · intro h; cases h
  · unfold FP.Core.roundAt FP.Core.settle FP.Core.bound
    split <;> split <;> (intro h; cases h)
theorem qt_nn {f : FP.Core.Fmt} {s t : Bool} {c d : Nat} {q r : Int} (h : d ≠ 0) : FP.Core.quotient f (.fin s c q) (.fin t d r) ≠ .nan := by
  unfold FP.Core.quotient
  simp only [if_neg h]
  exact rr_nn
theorem qt_nn2 {f : FP.Core.Fmt} {x y : FP.Core.Datum} (hx : x ≠ .nan) (hy : ∃ t d r, y = .fin t d r ∧ d ≠ 0) : FP.Core.quotient f x y ≠ .nan := by
  obtain ⟨t, d, r, rfl, h⟩ := hy
  cases x with
  | nan => exact absurd rfl hx
  | inf s => intro h; cases h
  | fin s c q => exact qt_nn h
theorem rr_pos {s : Bool} {a b : Nat} (ha : 1 ≤ a ∧ a ≤ 1000000000000) (hb : 1 ≤ b ∧ b ≤ 250) : ∃ t d r, FP.Core.roundRatio FP.Core.b64 s a b 0 = .fin t d r ∧ d ≠ 0 := by
  cases h : FP.Core.roundRatio FP.Core.b64 s a b 0 with
  | nan => exact absurd h rr_nn
  | inf t =>
    exfalso
    have h1 : t = s := by
      unfold FP.Core.roundRatio at h
      split at h
      · cases h
      · unfold FP.Core.roundAt FP.Core.settle FP.Core.bound at h
        split at h <;> split at h <;> cases h <;> rfl
    subst h1
    have h2 := (FP.Core.roundRatio_inf (e0 := -1075) FP.Core.good_b64 (by omega) (by decide) (by decide)).mp h
    have h3 : FP.Core.inUnits a 0 (-1075) = a * 2 ^ 1075 := by
      unfold FP.Core.inUnits
      rw [show ((0 : Int) - (-1075)).toNat = 1075 by decide]
    have h4 : (2 ^ (FP.Core.b64.p + 1) - 1) * 2 ^ (FP.Core.b64.qmax - 1 - (-1075 : Int)).toNat = (2 ^ 54 - 1) * 2 ^ 2045 := by
      rw [show (FP.Core.b64.qmax - 1 - (-1075 : Int)).toNat = 2045 by decide]
      exact congrArg (· * 2 ^ 2045) (show 2 ^ (FP.Core.b64.p + 1) - 1 = 2 ^ 54 - 1 from rfl)
    rw [h3, h4] at h2
    have h5 : a * 2 ^ 1075 ≤ 1000000000000 * 2 ^ 1075 := Nat.mul_le_mul_right _ ha.2
    have h6 : (2 ^ 54 - 1) * 2 ^ 2045 * 1 ≤ (2 ^ 54 - 1) * 2 ^ 2045 * b := Nat.mul_le_mul_left _ hb.1
    have h7 : 1000000000000 * 2 ^ 1075 < (2 ^ 54 - 1) * 2 ^ 2045 * 1 := by decide +kernel
    exact absurd (Nat.lt_of_lt_of_le h7 (Nat.le_trans h6 (Nat.le_trans h2 h5))) (Nat.lt_irrefl _)
  | fin t d r =>
    refine ⟨t, d, r, rfl, fun h0 => ?_⟩
    subst h0
    have h1 := FP.Core.roundRatio_nearest (c' := 1) (q' := -8) (e0 := -1074) FP.Core.good_b64 (by omega) h (by decide) (by decide) (by decide) (by decide)
    unfold FP.Core.distance at h1
    have h3 : FP.Core.inUnits a 0 (-1074) = a * (256 * 2 ^ 1066) := by
      unfold FP.Core.inUnits
      rw [show ((0 : Int) - (-1074)).toNat = 8 + 1066 by decide, Nat.pow_add, show (2 : Nat) ^ 8 = 256 from rfl]
    have h4 : FP.Core.inUnits 1 (-8) (-1074) = 1 * 2 ^ 1066 := by
      unfold FP.Core.inUnits
      rw [show ((-8 : Int) - (-1074)).toNat = 1066 by decide]
    have h5 : FP.Core.inUnits 0 r (-1074) = 0 := by unfold FP.Core.inUnits; rw [Nat.zero_mul]
    rw [h3, h4, h5] at h1
    have hp : 0 < 2 ^ 1066 := Nat.two_pow_pos _
    generalize 2 ^ 1066 = P at h1 hp
    have h6 : 1 * (256 * P) ≤ a * (256 * P) := Nat.mul_le_mul_right _ ha.1
    have h7 : P * b ≤ P * 250 := Nat.mul_le_mul_left _ hb.2
    have h8 : P * 1 ≤ P * b := Nat.mul_le_mul_left _ hb.1
    generalize a * (256 * P) = X at h1 h6
    have h9 : ((1 * P : Nat) : Int) * (b : Int) = ((P * b : Nat) : Int) := by rw [Nat.one_mul, Int.natCast_mul]
    rw [h9] at h1
    generalize P * b = Y at h1 h7 h8
    omega
theorem rr_w {i j : Int} {s t u : Bool} {c d : Nat} {q r : Int} (hi : 0 ≤ i) (hj : 0 < j) (h1 : FP.Core.Whole i (.fin s c q)) (h2 : FP.Core.Whole j (.fin t d r)) : FP.Core.roundRatio FP.Core.b64 u c d (q - r) = FP.Core.roundRatio FP.Core.b64 u i.toNat j.toNat 0 := by
  have e1 := FP.Core.whole_natAbs h1
  have e2 := FP.Core.whole_natAbs h2
  have hd : d ≠ 0 := fun g => by have := (FP.Core.whole_zero h2).mp g; omega
  rw [show i.natAbs = i.toNat by omega] at e1
  rw [show j.natAbs = j.toNat by omega] at e2
  refine FP.Core.roundRatio_congr (by omega) (by omega) ?_
  have key : ∀ (a b : Nat), a * 2 ^ q.toNat = b * 2 ^ (-q).toNat → True := fun _ _ _ => trivial
  have p1 := Nat.two_pow_pos q.toNat
  have p2 := Nat.two_pow_pos (-r).toNat
  have x1 : c * j.toNat * 2 ^ (q - r - 0).toNat * (2 ^ (-q).toNat * 2 ^ r.toNat) = c * j.toNat * 2 ^ (0 - (q - r)).toNat * (2 ^ q.toNat * 2 ^ (-r).toNat) := by
    rw [Nat.mul_assoc (c * j.toNat), Nat.mul_assoc (c * j.toNat), ← Nat.pow_add, ← Nat.pow_add, ← Nat.pow_add, ← Nat.pow_add]
    congr 2
    omega
  have x2 : c * 2 ^ q.toNat * (j.toNat * 2 ^ (-r).toNat) = i.toNat * 2 ^ (-q).toNat * (d * 2 ^ r.toNat) := by rw [e1, e2]
  have x3 : (c * j.toNat * 2 ^ (q - r - 0).toNat) * (2 ^ (-q).toNat * 2 ^ r.toNat) = (i.toNat * d * 2 ^ (0 - (q - r)).toNat) * (2 ^ (-q).toNat * 2 ^ r.toNat) := by
    rw [x1]
    have a1 : c * j.toNat * 2 ^ (0 - (q - r)).toNat * (2 ^ q.toNat * 2 ^ (-r).toNat) = c * 2 ^ q.toNat * (j.toNat * 2 ^ (-r).toNat) * 2 ^ (0 - (q - r)).toNat := by ac_rfl
    rw [a1, x2]
    ac_rfl
  exact Nat.eq_of_mul_eq_mul_right (Nat.mul_pos (Nat.two_pow_pos _) (Nat.two_pow_pos _)) x3
theorem l2d_f {i : Int} (h : 0 ≤ i ∧ i ≤ 1000000000000) : ∃ s c q, FP.Core.val64 (FP.Core.l2d (zL i)) = .fin s c q ∧ FP.Core.Whole i (.fin s c q) := by
  have e : (zL i).toInt = i := zL_ti ⟨by omega, by omega⟩
  have h1 : FP.Core.DInt (zL i).toInt (FP.Core.l2d (zL i)) := FP.Core.l2d_int (by rw [e]; omega)
  rw [e] at h1
  unfold FP.Core.DInt at h1
  cases g : FP.Core.val64 (FP.Core.l2d (zL i)) with
  | nan => rw [g] at h1; exact absurd h1 (by unfold FP.Core.Whole; exact id)
  | inf s => rw [g] at h1; exact absurd h1 (by unfold FP.Core.Whole; exact id)
  | fin s c q => rw [g] at h1; exact ⟨s, c, q, rfl, h1⟩
theorem mean_nn {i j : Int} (hi : 0 ≤ i ∧ i ≤ 1000000000000) (hj : 1 ≤ j ∧ j ≤ 250) : FP.Core.val64 (FP.Core.ddiv (FP.Core.l2d (zL i)) (FP.Core.l2d (zL j))) ≠ .nan := by
  obtain ⟨s, c, q, h1, w1⟩ := l2d_f hi
  obtain ⟨t, d, r, h2, w2⟩ := l2d_f (i := j) ⟨by omega, by omega⟩
  rw [FP.Core.val64_ddiv, h1, h2]
  exact qt_nn (fun g => by have := (FP.Core.whole_zero w2).mp g; omega)
theorem mean_pos {i j : Int} (hi : 1 ≤ i ∧ i ≤ 1000000000000) (hj : 1 ≤ j ∧ j ≤ 250) : ∃ t d r, FP.Core.val64 (FP.Core.ddiv (FP.Core.l2d (zL i)) (FP.Core.l2d (zL j))) = .fin t d r ∧ d ≠ 0 := by
  obtain ⟨s, c, q, h1, w1⟩ := l2d_f (i := i) ⟨by omega, by omega⟩
  obtain ⟨t, d, r, h2, w2⟩ := l2d_f (i := j) ⟨by omega, by omega⟩
  have hd : d ≠ 0 := fun g => by have := (FP.Core.whole_zero w2).mp g; omega
  rw [FP.Core.val64_ddiv, h1, h2]
  unfold FP.Core.quotient
  simp only [if_neg hd]
  rw [rr_w (by omega) (by omega) w1 w2]
  exact rr_pos ⟨by omega, by omega⟩ ⟨by omega, by omega⟩
theorem quot_nn {i j k l : Int} (hi : 0 ≤ i ∧ i ≤ 1000000000000) (hj : 1 ≤ j ∧ j ≤ 250) (hk : 1 ≤ k ∧ k ≤ 1000000000000) (hl : 1 ≤ l ∧ l ≤ 250) : FP.Core.val64 (FP.Core.ddiv (FP.Core.ddiv (FP.Core.l2d (zL i)) (FP.Core.l2d (zL j))) (FP.Core.ddiv (FP.Core.l2d (zL k)) (FP.Core.l2d (zL l)))) ≠ .nan := by
  rw [FP.Core.val64_ddiv]
  exact qt_nn2 (mean_nn hi hj) (mean_pos hk hl)
/-- the asymmetry -/
def zAs (n0 n1 c0 c1 : Int) : UInt64 := if n0 = 0 ∨ n1 = 0 ∨ c0 = 0 then FP.dconst0 else FP.ddiv (FP.ddiv (FP.l2d (zL c1)) (FP.l2d (zL n1))) (FP.ddiv (FP.l2d (zL c0)) (FP.l2d (zL n0)))
def zAsy (n : Nat) (K T U S F L : Nat → Int) (w : Nat) (x y : Int) : UInt64 := zAs (zFeat n K T U S F L w 0 x y 0) (zFeat n K T U S F L w 1 x y 0) (zFeat n K T U S F L w 0 x y 2) (zFeat n K T U S F L w 1 x y 2)
theorem mean_ok {i j : Int} (hi : 0 ≤ i ∧ i ≤ 1000000000000) (hj : 1 ≤ j ∧ j ≤ 250) : vf_n64 (FP.ddiv (FP.l2d (zL i)) (FP.l2d (zL j))) := n64_of (mean_nn hi hj)
theorem quot_ok {i j k l : Int} (hi : 0 ≤ i ∧ i ≤ 1000000000000) (hj : 1 ≤ j ∧ j ≤ 250) (hk : 1 ≤ k ∧ k ≤ 1000000000000) (hl : 1 ≤ l ∧ l ≤ 250) : vf_n64 (FP.ddiv (FP.ddiv (FP.l2d (zL i)) (FP.l2d (zL j))) (FP.ddiv (FP.l2d (zL k)) (FP.l2d (zL l)))) := n64_of (quot_nn hi hj hk hl)
theorem zFeat_in {n : Nat} {K T U S F L : Nat → Int} {w : Nat} {h x y : Int} (hg : zLog n K T U) (hs : zSet S) : (0 ≤ zFeat n K T U S F L w h x y 0 ∧ zFeat n K T U S F L w h x y 0 ≤ n) ∧ 0 ≤ zFeat n K T U S F L w h x y 2 ∧ zFeat n K T U S F L w h x y 2 ≤ 1000000000000 := by
  obtain ⟨hn, hK, hT, hU, hM⟩ := hg
  refine ⟨?_, ?_⟩
  · unfold zFeat zFe
    rw [if_pos rfl]
    exact zCt_in
  · unfold zFeat zFe
    rw [if_neg (by omega), if_neg (by omega), if_pos rfl]
    have h1 := zSm_in (P := zAh (zSN n K T U S F L w) T S x y h) (f := zCh n K U S) (c := 500000000) (n := n) (fun j hj => zCh_in (K := K) hn hU hs.2.1 hj) (by omega)
    omega
