theorem zSet_in {S : Nat → Int} (hs : zSet S) : ∀ i, i < 11 → 0 ≤ S i ∧ S i ≤ 100000 := by
  obtain ⟨s0, s1, s2, s3, s4, s5, s6, s7, s8, s9, s10⟩ := hs
  intro i hi
  rcases (show i = 0 ∨ i = 1 ∨ i = 2 ∨ i = 3 ∨ i = 4 ∨ i = 5 ∨ i = 6 ∨ i = 7 ∨ i = 8 ∨ i = 9 ∨ i = 10 by omega) with h | h | h | h | h | h | h | h | h | h | h <;> subst h <;> omega
theorem zPu_in {n : Nat} {K T U S F L : Nat → Int} {w : Nat} {v : Int} {k : Nat} (hg : zLog n K T U) (hs : zSet S) (hk : k < n) : -2147483648 ≤ zPu n K T U S F L w v k ∧ zPu n K T U S F L w v k ≤ 2147483647 := by
  obtain ⟨hn, hK, hT, hU, hM⟩ := hg
  have a1 := hK k hk
  have a2 := hT k hk
  have a3 := hU k hk
  have a4 := zPh_in (T := T) (S := S) (k := k)
  have a5 := zCh_in (K := K) hn hU hs.2.1 hk
  have a6 := zSN_in (T := T) (U := U) (S := S) (F := F) (L := L) (w := w) hK hk
  have a7 := zBo_in (st := zSN n K T U S F L w) (T := T) (gap := S 7) (k := k)
  unfold zPu zAp
  split
  · omega
  · split
    · omega
    · split
      · omega
      · split
        · omega
        · split
          · omega
          · split <;> omega
