/-! a higher level accepts no more -/
theorem zDu_t {n : Nat} {K T U : Nat → Int} {G B : Nat → Bool} {lv dt : Int} (hT : ∀ j, j < n → 0 ≤ T j ∧ T j ≤ 1000000) (hM : ∀ i j, i ≤ j → j < n → T i ≤ T j) (hd : 0 ≤ dt) : ∀ k i, k ≤ i → i < n → zDu K T U G B lv dt k ≤ T i + dt := by
  intro k
  induction k with
  | zero => intro i _ hi; have := hT i hi; simp only [zDu]; omega
  | succ k ih =>
    intro i h hi
    simp only [zDu]
    split
    · have := hM k i (by omega) hi; omega
    · exact ih i (by omega) hi
theorem zS0_acc {K T U : Nat → Int} {G B : Nat → Bool} {lv du : Int} {k : Nat} (hK : 0 ≤ K k) : zS0 K T U G B lv du k = 0 ↔ K k = 0 ∧ lv ≤ ((U k).natAbs : Int) ∧ G k = false ∧ B k = false ∧ du ≤ T k := by
  unfold zS0
  by_cases h1 : K k = 0
  · rw [if_pos h1]
    by_cases h2 : ((U k).natAbs : Int) < lv
    · rw [if_pos h2]; omega
    · rw [if_neg h2]
      by_cases h3 : G k = true
      · rw [if_pos h3]; simp [h3]
      · rw [if_neg h3]
        have h3' := Bool.eq_false_iff.mpr h3
        by_cases h4 : B k = true
        · rw [if_pos h4]; simp [h4]
        · rw [if_neg h4]
          have h4' := Bool.eq_false_iff.mpr h4
          by_cases h5 : T k < du
          · rw [if_pos h5]; omega
          · rw [if_neg h5]; exact ⟨fun _ => ⟨h1, by omega, h3', h4', by omega⟩, fun _ => rfl⟩
  · rw [if_neg h1]; omega
theorem zAw_step {n : Nat} {K T U : Nat → Int} {G B : Nat → Bool} {l1 l2 dt : Int} (hK : ∀ j, j < n → 0 ≤ K j ∧ K j ≤ 2) (hT : ∀ j, j < n → 0 ≤ T j ∧ T j ≤ 1000000) (hM : ∀ i j, i ≤ j → j < n → T i ≤ T j) (hd : 0 ≤ dt) (hl : l1 ≤ l2) : ∀ k, k ≤ n →
    (zCt (fun a => decide (zSt K T U G B l2 dt a = 0)) k < zCt (fun a => decide (zSt K T U G B l1 dt a = 0)) k) ∨ (zCt (fun a => decide (zSt K T U G B l2 dt a = 0)) k = zCt (fun a => decide (zSt K T U G B l1 dt a = 0)) k ∧ zDu K T U G B l1 dt k ≤ zDu K T U G B l2 dt k) := by
  intro k
  induction k with
  | zero => intro _; exact Or.inr ⟨rfl, Int.le_refl _⟩
  | succ k ih =>
    intro hk
    have ih := ih (by omega)
    have b1 := zDu_t (K := K) (U := U) (G := G) (B := B) (lv := l1) hT hM hd k k (Nat.le_refl k) (by omega)
    have e1 := zS0_acc (T := T) (U := U) (G := G) (B := B) (lv := l1) (du := zDu K T U G B l1 dt k) (hK k (by omega)).1
    have e2 := zS0_acc (T := T) (U := U) (G := G) (B := B) (lv := l2) (du := zDu K T U G B l2 dt k) (hK k (by omega)).1
    simp only [zCt, zDu, decide_eq_true_eq]
    unfold zSt at *
    by_cases c1 : zS0 K T U G B l1 (zDu K T U G B l1 dt k) k = 0
    · by_cases c2 : zS0 K T U G B l2 (zDu K T U G B l2 dt k) k = 0
      · rw [if_pos c1, if_pos c1, if_pos c2, if_pos c2]; omega
      · rw [if_pos c1, if_pos c1, if_neg c2, if_neg c2]; omega
    · by_cases c2 : zS0 K T U G B l2 (zDu K T U G B l2 dt k) k = 0
      · rw [if_neg c1, if_neg c1, if_pos c2, if_pos c2]
        rcases ih with ih | ⟨ih1, ih2⟩
        · omega
        · exfalso
          obtain ⟨f1, f2, f3, f4, f5⟩ := e2.mp c2
          exact c1 (e1.mpr ⟨f1, by omega, f3, f4, by omega⟩)
      · rw [if_neg c1, if_neg c1, if_neg c2, if_neg c2]; omega
theorem zAw_mono {n : Nat} {K T U S F L : Nat → Int} {w : Nat} {l1 l2 : Int} (hg : zLog n K T U) (hs : zSet S) (hl : l1 ≤ l2) : zAw n K T U S F L w l2 ≤ zAw n K T U S F L w l1 := by
  obtain ⟨hn, hK, hT, hU, hM⟩ := hg
  obtain ⟨s0, s1, s2, s3, s4, s5, s6, s7, s8, s9, s10⟩ := hs
  have := zAw_step (K := K) (T := T) (U := U) (G := zGat n K T U (S 3) (S 4)) (B := zBl w F L T S) (l1 := l1) (l2 := l2) (dt := S 5) hK hT hM (by omega) hl n (Nat.le_refl n)
  unfold zAw
  omega
/-- the smallest level with at most x accepted -/
def zLf (n : Nat) (K T U S F L : Nat → Int) (w : Nat) (x : Int) : Int := zFst (fun l => decide (zAw n K T U S F L w (l : Int) ≤ x)) 2001
def zJ (j : Int) : Prop := j = 0 ∨ j = 1 ∨ j = 2 ∨ j = 4 ∨ j = 8 ∨ j = 16 ∨ j = 32 ∨ j = 64 ∨ j = 128 ∨ j = 256 ∨ j = 512 ∨ j = 1024
theorem zJ_s {j : Int} (h : zJ j) : zJ (j / 2) := by unfold zJ at *; omega
theorem zJ_d {j : Int} (h : zJ j) (h0 : 0 < j) : (j / 2 = 0 ∧ j = 1) ∨ (j / 2 ≠ 0 ∧ 2 * (j / 2) = j) := by unfold zJ at *; omega
theorem zJ_in {j : Int} (h : zJ j) : 0 ≤ j ∧ j ≤ 1024 := by unfold zJ at *; omega
/-- all levels from here on accept no more than x -/
def zLb (n : Nat) (K T U S F L : Nat → Int) (w : Nat) (x t j : Int) : Prop := ∀ l : Int, t + (if j = 0 then 1 else 2 * j) ≤ l → l ≤ 2000 → zAw n K T U S F L w l ≤ x
theorem lb_1 {n : Nat} {K T U S F L : Nat → Int} {w : Nat} {x t j : Int} (hj : zJ j) (h0 : 0 < j) (h : zLb n K T U S F L w x t j) : zLb n K T U S F L w x (t + j) (j / 2) := by
  intro l h1 h2
  refine h l ?_ h2
  rw [if_neg (by omega)]
  rcases zJ_d hj h0 with ⟨e1, e2⟩ | ⟨e1, e2⟩
  · rw [if_pos e1] at h1; omega
  · rw [if_neg e1] at h1; omega
theorem lb_2 {n : Nat} {K T U S F L : Nat → Int} {w : Nat} {x t j : Int} (hg : zLog n K T U) (hs : zSet S) (hj : zJ j) (h0 : 0 < j) (h : t + j > 2000 ∨ zAw n K T U S F L w (t + j) ≤ x) : zLb n K T U S F L w x t (j / 2) := by
  intro l h1 h2
  have h3 : t + j ≤ l := by
    rcases zJ_d hj h0 with ⟨e1, e2⟩ | ⟨e1, e2⟩
    · rw [if_pos e1] at h1; omega
    · rw [if_neg e1] at h1; omega
  rcases h with h | h
  · omega
  · exact Int.le_trans (zAw_mono hg hs h3) h
theorem lf_end {n : Nat} {K T U S F L : Nat → Int} {w : Nat} {x t : Int} (hg : zLog n K T U) (hs : zSet S) (ht : -1 ≤ t ∧ t ≤ 2000) (h1 : t = -1 ∨ x < zAw n K T U S F L w t) (h2 : zLb n K T U S F L w x t 0) : zLf n K T U S F L w x = if t < 2000 then t + 1 else -1 := by
  have hlo : ∀ j : Nat, (j : Int) ≤ t → (fun l : Nat => decide (zAw n K T U S F L w (l : Int) ≤ x)) j = false := by
    intro j hj
    rcases h1 with h1 | h1
    · omega
    · have := zAw_mono (F := F) (L := L) (w := w) hg hs hj
      exact decide_eq_false (by omega)
  unfold zLf
  by_cases c : t < 2000
  · rw [if_pos c]
    have e : t + 1 = (((t + 1).toNat : Nat) : Int) := by omega
    rw [e]
    refine zFst_at ?_ (fun j hj => hlo j (by omega)) (by omega)
    refine decide_eq_true ?_
    rw [← e]
    exact h2 (t + 1) (by rw [if_pos rfl]; omega) (by omega)
  · rw [if_neg c]
    exact zFst_no (fun j hj => hlo j (by omega))
