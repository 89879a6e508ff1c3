/-! the reference's changes -/
def zSv (NW PA : Nat → Int) (m : Nat) (P : Nat → Int) : Prop :=
  if m < 4 then (∀ k, k < 771 * m → P k = PA k) ∧ ∀ k, k < 771 → P (771 * m + k) = NW k
  else (∀ k, k < 2313 → P k = PA (k + 771)) ∧ ∀ k, k < 771 → P (2313 + k) = NW k
theorem cp_a {P PA : Nat → Int} {i : Nat} (h : ∀ k, P k = if k < i then PA (k + 771) else PA k) : ∀ k, zU P i (P (i + 771)) k = if k < i + 1 then PA (k + 771) else PA k := by
  intro k
  by_cases e : k = i
  · subst e; rw [zU_s, if_pos (by omega), h, if_neg (by omega)]
  · rw [zU_n e, h]
    by_cases c : k < i
    · rw [if_pos c, if_pos (by omega)]
    · rw [if_neg c, if_neg (by omega)]
theorem cp_b {P B NW : Nat → Int} {o i : Nat} (h : ∀ k, P k = if o ≤ k ∧ k < o + i then NW (k - o) else B k) : ∀ k, zU P (o + i) (NW i) k = if o ≤ k ∧ k < o + (i + 1) then NW (k - o) else B k := by
  intro k
  by_cases e : k = o + i
  · subst e; rw [zU_s, if_pos (by omega)]; congr 1; omega
  · rw [zU_n e, h]
    by_cases c : o ≤ k ∧ k < o + i
    · rw [if_pos c, if_pos (by omega)]
    · rw [if_neg c, if_neg (by omega)]
theorem sv_lo {NW PA P : Nat → Int} {m : Nat} (hm : m < 4) (h : ∀ k, P k = if 771 * m ≤ k ∧ k < 771 * m + 771 then NW (k - 771 * m) else PA k) : zSv NW PA m P := by
  unfold zSv
  rw [if_pos hm]
  refine ⟨fun k hk => by rw [h, if_neg (by omega)], fun k hk => ?_⟩
  rw [h, if_pos (by omega)]; congr 1; omega
theorem sv_hi {NW PA P1 P : Nat → Int} {m : Nat} (hm : ¬ m < 4) (h1 : ∀ k, P1 k = if k < 2313 then PA (k + 771) else PA k) (h : ∀ k, P k = if 771 * 3 ≤ k ∧ k < 771 * 3 + 771 then NW (k - 771 * 3) else P1 k) : zSv NW PA m P := by
  unfold zSv
  rw [if_neg hm]
  refine ⟨fun k hk => by rw [h, if_neg (by omega), h1, if_pos hk], fun k hk => ?_⟩
  rw [h, if_pos (by omega)]; rw [show 2313 + k - 771 * 3 = k by omega]
def zP1 (ok : Prop) (q : Int) (e f : Prop) : Prop := (ok ∧ q = 0 ∧ e) ∨ (¬ ok ∧ q = 1 ∧ f)
def zP2 (ok ok2 : Prop) (q : Int) (e f : Prop) : Prop := (ok ∧ ok2 ∧ q = 0 ∧ e) ∨ (¬ ok ∧ q = 1 ∧ f) ∨ (ok ∧ ¬ ok2 ∧ q = 2 ∧ f)
theorem row_set {NW : Nat → Int} {n : Nat} {K T U S F L : Nat → Int} {w k : Nat} {v : Int} (hN : zRow NW n K T U S F L w) (hk : k < 11) : zRow (zU NW k v) n K T U (zU S k v) F L w := by
  obtain ⟨h1, h2, h3, h4, h5⟩ := hN
  refine ⟨fun j hj => ?_, ?_, fun j hj => ?_, ?_, fun j hj => ?_⟩
  · by_cases e : j = k
    · subst e; rw [zU_s, zU_s]
    · rw [zU_n e, zU_n e]; exact h1 j hj
  · rw [zU_n (by omega)]; exact h2
  · rw [zU_n (by omega), zU_n (by omega)]; exact h3 j hj
  · rw [zU_n (by omega)]; exact h4
  · rw [zU_n (by omega), zU_n (by omega), zU_n (by omega)]; exact h5 j hj
theorem row_blk {NW : Nat → Int} {n : Nat} {K T U S F L : Nat → Int} {w : Nat} {x v : Int} (hN : zRow NW n K T U S F L w) (hw : w < 4) : zRow (zU (zU (zU NW (12 + 2 * w) x) (12 + 2 * w + 1) v) 11 ((w + 1 : Nat) : Int)) n K T U S (zU F w x) (zU L w v) (w + 1) := by
  obtain ⟨h1, h2, h3, h4, h5⟩ := hN
  refine ⟨fun j hj => ?_, zU_s, fun j hj => ?_, ?_, fun j hj => ?_⟩
  · rw [zU_n (by omega), zU_n (by omega), zU_n (by omega)]; exact h1 j hj
  · by_cases e : j = w
    · subst e
      refine ⟨?_, ?_⟩
      · rw [zU_n (by omega), zU_n (by omega), zU_s, zU_s]
      · rw [zU_n (by omega), zU_s, zU_s]
    · refine ⟨?_, ?_⟩
      · rw [zU_n (by omega), zU_n (by omega), zU_n (by omega), zU_n e]; exact (h3 j (by omega)).1
      · rw [zU_n (by omega), zU_n (by omega), zU_n (by omega), zU_n e]; exact (h3 j (by omega)).2
  · rw [zU_n (by omega), zU_n (by omega), zU_n (by omega)]; exact h4
  · rw [zU_n (by omega), zU_n (by omega), zU_n (by omega), zU_n (by omega), zU_n (by omega), zU_n (by omega), zU_n (by omega), zU_n (by omega), zU_n (by omega)]; exact h5 j hj
theorem row_unb {NW : Nat → Int} {n : Nat} {K T U S F L : Nat → Int} {w : Nat} (hN : zRow NW n K T U S F L w) : zRow (zU NW 11 0) n K T U S F L 0 := by
  obtain ⟨h1, h2, h3, h4, h5⟩ := hN
  refine ⟨fun j hj => ?_, zU_s, fun j hj => absurd hj (by omega), ?_, fun j hj => ?_⟩
  · rw [zU_n (by omega)]; exact h1 j hj
  · rw [zU_n (by omega)]; exact h4
  · rw [zU_n (by omega), zU_n (by omega), zU_n (by omega)]; exact h5 j hj
theorem row_rec {NW : Nat → Int} {n : Nat} {K T U S F L : Nat → Int} {w : Nat} {x t v : Int} (hN : zRow NW n K T U S F L w) (hw : w ≤ 4) : zRow (zU (zU (zU (zU NW (21 + 3 * n) x) (21 + 3 * n + 1) t) (21 + 3 * n + 2) v) 20 ((n + 1 : Nat) : Int)) (n + 1) (zU K n x) (zU T n t) (zU U n v) S F L w := by
  obtain ⟨h1, h2, h3, h4, h5⟩ := hN
  refine ⟨fun j hj => ?_, ?_, fun j hj => ?_, zU_s, fun j hj => ?_⟩
  · rw [zU_n (by omega), zU_n (by omega), zU_n (by omega), zU_n (by omega)]; exact h1 j hj
  · rw [zU_n (by omega), zU_n (by omega), zU_n (by omega), zU_n (by omega)]; exact h2
  · refine ⟨?_, ?_⟩
    · rw [zU_n (by omega), zU_n (by omega), zU_n (by omega), zU_n (by omega)]; exact (h3 j hj).1
    · rw [zU_n (by omega), zU_n (by omega), zU_n (by omega), zU_n (by omega)]; exact (h3 j hj).2
  · by_cases e : j = n
    · subst e
      refine ⟨?_, ?_, ?_⟩
      · rw [zU_n (by omega), zU_n (by omega), zU_n (by omega), zU_s, zU_s]
      · rw [zU_n (by omega), zU_n (by omega), zU_s, zU_s]
      · rw [zU_n (by omega), zU_s, zU_s]
    · have h9 := h5 j (by omega)
      refine ⟨?_, ?_, ?_⟩
      · rw [zU_n (by omega), zU_n (by omega), zU_n (by omega), zU_n (by omega), zU_n e]; exact h9.1
      · rw [zU_n (by omega), zU_n (by omega), zU_n (by omega), zU_n (by omega), zU_n e]; exact h9.2.1
      · rw [zU_n (by omega), zU_n (by omega), zU_n (by omega), zU_n (by omega), zU_n e]; exact h9.2.2
/-- forgetting: how many go -/
theorem gone_e {T : Nat → Int} {t : Int} {n g : Nat} (hM : ∀ i j, i ≤ j → j < n → T i ≤ T j) (hg : g ≤ n) (h : ∀ j, j < g → T j < t) (he : g = n ∨ t ≤ T g) : zGone T t n = g := by
  have key : ∀ m, m ≤ n → zGone T t m = if m ≤ g then m else g := by
    intro m
    induction m with
    | zero => intro _; simp [zGone]
    | succ m ih =>
      intro hm
      simp only [zGone]
      rw [ih (by omega)]
      by_cases c : m < g
      · rw [if_pos (h m c), if_pos (by omega), if_pos (by omega)]
      · have : ¬ T m < t := by
          have := hM g m (by omega) (by omega)
          omega
        rw [if_neg this, if_neg (show ¬ m + 1 ≤ g by omega)]
        split <;> omega
  rw [key n (Nat.le_refl n)]
  split <;> omega
theorem fg_s {P NW : Nat → Int} {g i : Nat} {c : Int} (h : ∀ j, P j = if 21 ≤ j ∧ j < 21 + i then NW (j + 3 * g) else if j = 20 then c else NW j) : ∀ j, zU P (21 + i) (P (21 + i + 3 * g)) j = if 21 ≤ j ∧ j < 21 + (i + 1) then NW (j + 3 * g) else if j = 20 then c else NW j := by
  intro j
  by_cases e : j = 21 + i
  · subst e; rw [zU_s, if_pos (by omega), h, if_neg (by omega), if_neg (by omega)]
  · rw [zU_n e, h]
    by_cases d : 21 ≤ j ∧ j < 21 + i
    · rw [if_pos d, if_pos (by omega)]
    · rw [if_neg d, if_neg (show ¬ (21 ≤ j ∧ j < 21 + (i + 1)) by omega)]
theorem row_fg {NW P : Nat → Int} {n : Nat} {K T U S F L : Nat → Int} {w g i : Nat} (hN : zRow NW n K T U S F L w) (hw : w ≤ 4) (hg : g ≤ n) (hi : 3 * (n - g) ≤ i) (h : ∀ j, P j = if 21 ≤ j ∧ j < 21 + i then NW (j + 3 * g) else if j = 20 then ((n - g : Nat) : Int) else NW j) : zRow P (n - g) (fun j => K (j + g)) (fun j => T (j + g)) (fun j => U (j + g)) S F L w := by
  obtain ⟨h1, h2, h3, h4, h5⟩ := hN
  refine ⟨fun j hj => ?_, ?_, fun j hj => ⟨?_, ?_⟩, ?_, fun j hj => ?_⟩
  · rw [h, if_neg (by omega), if_neg (by omega)]; exact h1 j hj
  · rw [h, if_neg (by omega), if_neg (by omega)]; exact h2
  · rw [h, if_neg (by omega), if_neg (by omega)]; exact (h3 j hj).1
  · rw [h, if_neg (by omega), if_neg (by omega)]; exact (h3 j hj).2
  · rw [h, if_neg (by omega), if_pos rfl]
  · have h9 := h5 (j + g) (by omega)
    refine ⟨?_, ?_, ?_⟩
    · rw [h, if_pos (by omega), show 21 + 3 * j + 3 * g = 21 + 3 * (j + g) by omega]; exact h9.1
    · rw [h, if_pos (by omega), show 21 + 3 * j + 1 + 3 * g = 21 + 3 * (j + g) + 1 by omega]; exact h9.2.1
    · rw [h, if_pos (by omega), show 21 + 3 * j + 2 + 3 * g = 21 + 3 * (j + g) + 2 by omega]; exact h9.2.2
theorem un_s {P NW PA : Nat → Int} {m i : Nat} (h : ∀ k, P k = if k < i then PA (771 * m + k) else NW k) : ∀ k, zU P i (PA (771 * m + i)) k = if k < i + 1 then PA (771 * m + k) else NW k := by
  intro k
  by_cases e : k = i
  · subst e; rw [zU_s, if_pos (by omega)]
  · rw [zU_n e, h]
    by_cases c : k < i
    · rw [if_pos c, if_pos (by omega)]
    · rw [if_neg c, if_neg (by omega)]
