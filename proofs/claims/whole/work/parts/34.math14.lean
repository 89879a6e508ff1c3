/-! the reference's row -/
def zRow (NW : Nat → Int) (n : Nat) (K T U S F L : Nat → Int) (w : Nat) : Prop :=
  (∀ k, k < 11 → NW k = S k) ∧ NW 11 = (w : Int) ∧ (∀ j, j < w → NW (12 + 2 * j) = F j ∧ NW (12 + 2 * j + 1) = L j) ∧ NW 20 = (n : Int) ∧ (∀ k, k < n → NW (21 + 3 * k) = K k ∧ NW (21 + 3 * k + 1) = T k ∧ NW (21 + 3 * k + 2) = U k)
/-- the statuses without level and dead time -/
def zSh0 (K : Nat → Int) (G B : Nat → Bool) (k : Nat) : Int := if K k = 0 then (if G k = true then 2 else if B k = true then 3 else 0) else 4 + K k
theorem zSh0_in {n : Nat} {K : Nat → Int} {G B : Nat → Bool} {k : Nat} (hK : ∀ j, j < n → 0 ≤ K j ∧ K j ≤ 2) (h : k < n) : 0 ≤ zSh0 K G B k ∧ zSh0 K G B k ≤ 6 := by
  have := hK k h
  unfold zSh0
  split
  · split
    · omega
    · split <;> omega
  · omega
theorem sh_o {K : Nat → Int} {G B : Nat → Bool} {k : Nat} (h : ¬ K k = 0) : 4 + K k = zSh0 K G B k := by unfold zSh0; rw [if_neg h]
theorem sh_g {K : Nat → Int} {G B : Nat → Bool} {k : Nat} (h : K k = 0) (g : G k = true) : 2 = zSh0 K G B k := by unfold zSh0; rw [if_pos h, if_pos g]
theorem sh_b {K : Nat → Int} {G B : Nat → Bool} {k : Nat} (h : K k = 0) (g : ¬ G k = true) (b : B k = true) : 3 = zSh0 K G B k := by unfold zSh0; rw [if_pos h, if_neg g, if_pos b]
theorem sh_a {K : Nat → Int} {G B : Nat → Bool} {k : Nat} (h : K k = 0) (g : ¬ G k = true) (b : ¬ B k = true) : 0 = zSh0 K G B k := by unfold zSh0; rw [if_pos h, if_neg g, if_neg b]
theorem bk_s {w : Nat} {F L : Nat → Int} {ph b : Int} (hb : b = zB (zBlk w F L ph = true)) (h : b ≠ 0 ∨ (F w ≤ L w ∧ F w ≤ ph ∧ ph ≤ L w) ∨ (L w < F w ∧ (F w ≤ ph ∨ ph ≤ L w))) : 1 = zB (zBlk (w + 1) F L ph = true) := by
  symm; apply zB_t
  simp only [zBlk, zAny, Bool.or_eq_true]
  by_cases c : zBlk w F L ph = true
  · exact Or.inl c
  · rw [zB_f c] at hb
    refine Or.inr ?_
    split
    · rw [decide_eq_true_eq]; omega
    · rw [decide_eq_true_eq]; omega
theorem bk_k {w : Nat} {F L : Nat → Int} {ph b : Int} (hb : b = zB (zBlk w F L ph = true)) (h0 : b = 0) (h : (F w ≤ L w ∧ ¬ (F w ≤ ph ∧ ph ≤ L w)) ∨ (L w < F w ∧ ¬ (F w ≤ ph ∨ ph ≤ L w))) : 0 = zB (zBlk (w + 1) F L ph = true) := by
  symm; apply zB_f
  rw [h0] at hb
  have c : ¬ zBlk w F L ph = true := zB_0.mp hb.symm
  simp only [zBlk, zAny, Bool.or_eq_true, not_or]
  refine ⟨c, ?_⟩
  split
  · rw [decide_eq_true_eq]; omega
  · rw [decide_eq_true_eq]; omega
theorem gt_y {n : Nat} {K T U : Nat → Int} {gl gw : Int} {k a : Nat} (ha : a < n) (h1 : K a = 1) (h2 : gl ≤ ((U a).natAbs : Int)) (h3 : ((T a - T k).natAbs : Int) ≤ gw) : zGat n K T U gl gw k = true := zGat_iff.mpr ⟨a, ha, decide_eq_true ⟨h1, h2⟩, h3⟩
theorem gt_n {K T U : Nat → Int} {gl gw : Int} {k a : Nat} (h : zGat a K T U gl gw k = false) (h1 : ¬ K a = 1 ∨ ((U a).natAbs : Int) < gl ∨ gw < ((T a - T k).natAbs : Int)) : zGat (a + 1) K T U gl gw k = false := by
  unfold zGat at h ⊢
  simp only [zAny, Bool.or_eq_false_iff]
  refine ⟨h, ?_⟩
  unfold zOp
  simp only [Bool.and_eq_false_iff, decide_eq_false_iff_not]
  omega
/-- the last accepted pulse -/
def zBe (K T U : Nat → Int) (G B : Nat → Bool) (lv dt : Int) (i : Nat) (b : Int) : Prop := (b = -1 ∧ zDu K T U G B lv dt i = 0) ∨ ∃ j : Nat, j < i ∧ b = (j : Int) ∧ zDu K T U G B lv dt i = T j + dt
theorem be_s {K T U : Nat → Int} {G B : Nat → Bool} {lv dt b : Int} {i : Nat} (h : zSt K T U G B lv dt i = 0) : zBe K T U G B lv dt (i + 1) (i : Int) := by
  refine Or.inr ⟨i, by omega, rfl, ?_⟩
  simp only [zDu]
  exact if_pos h
theorem be_k {K T U : Nat → Int} {G B : Nat → Bool} {lv dt b : Int} {i : Nat} (hb : zBe K T U G B lv dt i b) (h : ¬ zSt K T U G B lv dt i = 0) : zBe K T U G B lv dt (i + 1) b := by
  have e : zDu K T U G B lv dt (i + 1) = zDu K T U G B lv dt i := by simp only [zDu]; exact if_neg h
  rcases hb with ⟨h1, h2⟩ | ⟨j, h1, h2, h3⟩
  · exact Or.inl ⟨h1, by rw [e]; exact h2⟩
  · exact Or.inr ⟨j, by omega, h2, by rw [e]; exact h3⟩
theorem st_o {K T U : Nat → Int} {G B : Nat → Bool} {lv dt x : Int} {i : Nat} (h : ¬ K i = 0) (hx : x = zSh0 K G B i) : x = zSt K T U G B lv dt i := by
  rw [hx]; unfold zSt zS0 zSh0; rw [if_neg h, if_neg h]
theorem st_q {K T U : Nat → Int} {G B : Nat → Bool} {lv dt : Int} {i : Nat} (h : K i = 0) (hq : ((U i).natAbs : Int) < lv) : 1 = zSt K T U G B lv dt i := by
  unfold zSt zS0; rw [if_pos h, if_pos hq]
theorem st_s {K T U : Nat → Int} {G B : Nat → Bool} {lv dt x : Int} {i : Nat} (h : K i = 0) (hq : lv ≤ ((U i).natAbs : Int)) (hx : x = zSh0 K G B i) (h0 : x ≠ 0) : x = zSt K T U G B lv dt i := by
  unfold zSt zS0; unfold zSh0 at hx
  rw [if_pos h] at hx
  rw [if_pos h, if_neg (by omega)]
  split at hx
  · rename_i c; rw [if_pos c]; exact hx
  · rename_i c
    split at hx
    · rename_i d; rw [if_neg c, if_pos d]; exact hx
    · exact absurd hx h0
theorem st_z {K T U : Nat → Int} {G B : Nat → Bool} {lv dt x : Int} {i : Nat} (h : K i = 0) (hq : lv ≤ ((U i).natAbs : Int)) (hx : x = zSh0 K G B i) (h0 : x = 0) : zSt K T U G B lv dt i = if T i < zDu K T U G B lv dt i then 4 else 0 := by
  unfold zSt zS0; unfold zSh0 at hx
  rw [if_pos h] at hx
  rw [if_pos h, if_neg (by omega)]
  split at hx
  · omega
  · rename_i c
    split at hx
    · omega
    · rename_i d; rw [if_neg c, if_neg d]
theorem st_d {K T U : Nat → Int} {G B : Nat → Bool} {lv dt x : Int} {i j : Nat} (h : K i = 0) (hq : lv ≤ ((U i).natAbs : Int)) (hx : x = zSh0 K G B i) (h0 : x = 0) (hd : zDu K T U G B lv dt i = T j + dt) (hc : T i - T j < dt) : 4 = zSt K T U G B lv dt i := by
  rw [st_z h hq hx h0, if_pos (by omega)]
theorem st_a {K T U : Nat → Int} {G B : Nat → Bool} {lv dt x : Int} {i : Nat} (h : K i = 0) (hq : lv ≤ ((U i).natAbs : Int)) (hx : x = zSh0 K G B i) (h0 : x = 0) (hd : zDu K T U G B lv dt i ≤ T i) : 0 = zSt K T U G B lv dt i := by
  rw [st_z h hq hx h0, if_neg (by omega)]
/-- the last accepted pulse, for the bursts -/
def zBg (st T : Nat → Int) (gap : Int) (i : Nat) (b c : Int) : Prop := (c = -1 ∧ b = 0) ∨ ∃ j : Nat, j < i ∧ c = (j : Int) ∧ zLs (zA0 st) T i = T j ∧ 1 ≤ b
theorem bg_s {st T : Nat → Int} {gap b : Int} {i : Nat} (h : st i = 0) (hb : 1 ≤ b) : zBg st T gap (i + 1) b (i : Int) := Or.inr ⟨i, by omega, rfl, (zLs_s (by unfold zA0; exact decide_eq_true h)).symm, hb⟩
theorem bg_k {st T : Nat → Int} {gap b c : Int} {i : Nat} (hb : zBg st T gap i b c) (h : ¬ st i = 0) : zBg st T gap (i + 1) b c := by
  rcases hb with h1 | ⟨j, h1, h2, h3, h4⟩
  · exact Or.inl h1
  · exact Or.inr ⟨j, by omega, h2, (zLs_k h3.symm (by unfold zA0; rw [decide_eq_true_eq]; exact h)).symm, h4⟩
/-- the rows of a laying: statuses, bursts as they are now -/
def zMk (n : Nat) (K T U S F L : Nat → Int) (w : Nat) (st bo : Nat → Int) : Prop := ∀ j, j < n → st j = zSN n K T U S F L w j ∧ bo j = zBo (zSN n K T U S F L w) T (S 7) j
theorem ch_c {n : Nat} {K U S : Nat → Int} {i : Nat} {x y : Int} (hx : x = zNi K n) (hy : y = zSi K U n) (h : y ≠ 0) : ((U i).natAbs : Int) * S 1 * x / y = zCh n K U S i := by
  unfold zCh; rw [← hy, ← hx, if_neg h]
theorem ch_d {n : Nat} {K U S : Nat → Int} {i : Nat} {y : Int} (hy : y = zSi K U n) (h : y = 0) : ((U i).natAbs : Int) = zCh n K U S i := by
  unfold zCh; rw [← hy, if_pos h]
theorem ch_r {u x y : Int} (h1 : 0 ≤ u ∧ u ≤ 2000) (h2 : 0 ≤ x ∧ x ≤ 250) (h3 : 1 ≤ y ∧ y ≤ 1000) : (0 ≤ u * y ∧ u * y ≤ 2000000) ∧ 0 ≤ u * y * x ∧ u * y * x ≤ 500000000 := by
  have a := mul_r h1 (⟨by omega, h3.2⟩ : 0 ≤ y ∧ y ≤ 1000)
  exact ⟨a, mul_r a h2⟩
