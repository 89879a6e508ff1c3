/-! the reference's parse -/
theorem zRow_cg {NW P : Nat → Int} {n : Nat} {K T U S F L : Nat → Int} {w : Nat} (h : ∀ k, k < 771 → P k = NW k) (hn : n ≤ 250) (hw : w ≤ 4) (hN : zRow NW n K T U S F L w) : zRow P n K T U S F L w := by
  obtain ⟨h1, h2, h3, h4, h5⟩ := hN
  refine ⟨fun j hj => ?_, ?_, fun j hj => ⟨?_, ?_⟩, ?_, fun j hj => ⟨?_, ?_, ?_⟩⟩
  · rw [h j (by omega)]; exact h1 j hj
  · rw [h 11 (by omega)]; exact h2
  · rw [h _ (by omega)]; exact (h3 j hj).1
  · rw [h _ (by omega)]; exact (h3 j hj).2
  · rw [h 20 (by omega)]; exact h4
  · rw [h _ (by omega)]; exact (h5 j hj).1
  · rw [h _ (by omega)]; exact (h5 j hj).2.1
  · rw [h _ (by omega)]; exact (h5 j hj).2.2
theorem zSv_cg {NW N3 PA P : Nat → Int} {m : Nat} (h : ∀ k, k < 771 → N3 k = NW k) (hs : zSv N3 PA m P) : zSv NW PA m P := by
  unfold zSv at hs ⊢
  split
  · rename_i c; rw [if_pos c] at hs; exact ⟨hs.1, fun k hk => (hs.2 k hk).trans (h k hk)⟩
  · rename_i c; rw [if_neg c] at hs; exact ⟨hs.1, fun k hk => (hs.2 k hk).trans (h k hk)⟩
theorem if_s {P X B : Nat → Int} {i : Nat} {x : Int} (h : ∀ k, P k = if k < i then X k else B k) (hx : x = X i) : ∀ k, zU P i x k = if k < i + 1 then X k else B k := by
  intro k
  by_cases e : k = i
  · subst e; rw [zU_s, if_pos (by omega)]; exact hx
  · rw [zU_n e, h]
    by_cases c : k < i
    · rw [if_pos c, if_pos (by omega)]
    · rw [if_neg c, if_neg (by omega)]
theorem if_at {P X B : Nat → Int} {i : Nat} (h : ∀ k, P k = if k < i then X k else B k) : P i = B i := by rw [h, if_neg (by omega)]
theorem if_end {P X B : Nat → Int} {i : Nat} (h : ∀ k, P k = if k < i then X k else B k) (hi : 771 ≤ i) : ∀ k, k < 771 → P k = X k := fun k hk => by rw [h, if_pos (by omega)]
abbrev zPT : Type := (Nat → Int) × (Nat → Int) × (Nat → Int) × Nat × Nat × Int × Int × Int × Int × Int
def zParM (tb : Nat → Int) (len n : Nat) (K T U S F L : Nat → Int) (w : Nat) (NW PA : Nat → Int) (sv : Nat) (r : Int) (N2 P2 : Nat → Int) (s2 : Nat) : Prop :=
  ∃ (N : Nat) (er : Int), zTxt tb len N er ∧
    ((er ≠ -1 ∧ r = -10 - er ∧ N2 = NW ∧ P2 = PA ∧ s2 = sv) ∨
     (er = -1 ∧ zRef tb len n (zLast n T) N ≠ -1 ∧ r = -1000 - zRef tb len n (zLast n T) N ∧ zRow N2 n K T U S F L w ∧ P2 = PA ∧ s2 = sv) ∨
     (er = -1 ∧ zRef tb len n (zLast n T) N = -1 ∧ r = (N : Int) ∧ zSv NW PA sv P2 ∧ s2 = zMs sv ∧ ∃ K2 T2 U2, zApp tb len n K T U N K2 T2 U2 ∧ zLog (n + N) K2 T2 U2 ∧ zRow N2 (n + N) K2 T2 U2 S F L w))
