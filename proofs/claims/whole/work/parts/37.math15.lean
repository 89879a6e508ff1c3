/-! the reference's questions -/
theorem zMi0 {P : Nat → Bool} {f : Nat → Int} : ∀ {n : Nat}, zCt P n = 0 → zMi P f n = -1
  | 0, _ => rfl
  | n + 1, h => by
    simp only [zCt] at h
    simp only [zMi]
    have h1 := zCt_in (P := P) (n := n)
    by_cases c : P n = true
    · rw [if_pos c] at h; omega
    · rw [if_neg c] at h; rw [if_neg c]; exact zMi0 (by omega)
theorem zMi_nn {P : Nat → Bool} {f : Nat → Int} : ∀ {n : Nat}, zCt P n ≠ 0 → (∀ j, j < n → 0 ≤ f j) → 0 ≤ zMi P f n
  | 0, h, _ => absurd rfl h
  | n + 1, h, hf => by
    simp only [zCt] at h
    simp only [zMi]
    have h0 := hf n (by omega)
    by_cases c : P n = true
    · rw [if_pos c]
      split
      · exact h0
      · rename_i d
        have := zMi_nn (f := f) d (fun j hj => hf j (by omega))
        omega
    · rw [if_neg c] at h; rw [if_neg c]; exact zMi_nn (by omega) (fun j hj => hf j (by omega))
theorem zFs0 {P : Nat → Bool} {f : Nat → Int} : ∀ {n : Nat}, zCt P n = 0 → zFs P f n = -1
  | 0, _ => rfl
  | n + 1, h => by
    simp only [zCt] at h
    simp only [zFs]
    have h1 := zCt_in (P := P) (n := n)
    by_cases c : P n = true
    · rw [if_pos c] at h; omega
    · rw [if_neg c] at h; rw [if_neg c]; exact zFs0 (by omega)
theorem zFs_nn {P : Nat → Bool} {f : Nat → Int} : ∀ {n : Nat}, zCt P n ≠ 0 → (∀ j, j < n → 0 ≤ f j) → 0 ≤ zFs P f n
  | 0, h, _ => absurd rfl h
  | n + 1, h, hf => by
    simp only [zCt] at h
    simp only [zFs]
    have h0 := hf n (by omega)
    by_cases c : P n = true
    · rw [if_pos c]
      split
      · exact h0
      · rename_i d
        exact zFs_nn (f := f) d (fun j hj => hf j (by omega))
    · rw [if_neg c] at h; rw [if_neg c]; exact zFs_nn (by omega) (fun j hj => hf j (by omega))
theorem mi_y {P : Nat → Bool} {f : Nat → Int} {i : Nat} {c : Int} (hc : c = zMi P f i) (h : P i = true) (h0 : c = -1 ∨ f i < c) (hf : ∀ j, j < i → 0 ≤ f j) : f i = zMi P f (i + 1) := by
  by_cases e : zCt P i = 0
  · exact zMi_s0 h e
  · have h1 := zMi_nn (f := f) e hf
    rw [← zMi_s1 hc h e]
    omega
theorem mi_n {P : Nat → Bool} {f : Nat → Int} {i : Nat} {c : Int} (hc : c = zMi P f i) (h : P i = true) (h0 : c ≠ -1) (h1 : c ≤ f i) : c = zMi P f (i + 1) := by
  by_cases e : zCt P i = 0
  · exact absurd (hc.trans (zMi0 e)) h0
  · rw [← zMi_s1 hc h e]
    omega
theorem mx_y {d : Int} {P : Nat → Bool} {f : Nat → Int} {i : Nat} {c : Int} (hc : c = zMx d P f i) (h : P i = true) (h0 : c < f i) : f i = zMx d P f (i + 1) := by
  rw [← zMx_s hc h]; omega
theorem mx_n {d : Int} {P : Nat → Bool} {f : Nat → Int} {i : Nat} {c : Int} (hc : c = zMx d P f i) (h : P i = true) (h0 : f i ≤ c) : c = zMx d P f (i + 1) := by
  rw [← zMx_s hc h]; omega
theorem fs_y {P : Nat → Bool} {f : Nat → Int} {i : Nat} {c : Int} (hc : c = zFs P f i) (h : P i = true) (h0 : c = -1) (hf : ∀ j, j < i → 0 ≤ f j) : f i = zFs P f (i + 1) := by
  by_cases e : zCt P i = 0
  · exact zFs_s0 h e
  · have h1 := zFs_nn (f := f) e hf
    omega
theorem fs_n {P : Nat → Bool} {f : Nat → Int} {i : Nat} {c : Int} (hc : c = zFs P f i) (h : P i = true) (h0 : c ≠ -1) : c = zFs P f (i + 1) := by
  by_cases e : zCt P i = 0
  · exact absurd (hc.trans (zFs0 e)) h0
  · exact zFs_s1 hc h e
/-- the sums of a pattern, one bin after another -/
def zOn (f : Nat → Int) : Nat → Int
  | 0 => 0
  | b + 1 => zOn f b + (if b < 18 then f b else 0)
def zEv (f : Nat → Int) : Nat → Int
  | 0 => 0
  | b + 1 => zEv f b + (if b / 9 % 2 = 0 then f b else 0)
theorem zOn_36 {f : Nat → Int} : zOn f 36 = zSu f 0 18 := by
  simp [zOn, zSu]
theorem zEv_36 {f : Nat → Int} : zEv f 36 = zSu f 0 9 + zSu f 18 9 := by
  simp [zEv, zSu]
  omega
theorem on_s {f : Nat → Int} {b : Nat} {x y : Int} (hx : x = zOn f b) (hy : (b < 18 ∧ y = f b) ∨ (18 ≤ b ∧ y = 0)) : x + y = zOn f (b + 1) := by
  simp only [zOn]; split <;> omega
theorem ev_s {f : Nat → Int} {b : Nat} {x y : Int} (hx : x = zEv f b) (hy : (b / 9 % 2 = 0 ∧ y = f b) ∨ (b / 9 % 2 ≠ 0 ∧ y = 0)) : x + y = zEv f (b + 1) := by
  simp only [zEv]; split <;> omega
theorem ss_s {f g : Nat → Int} {a b x y : Int} {k : Nat} (hx : x = zSs f g a b k) (hy : y = min (f k * b) (g k * a)) : x + y = zSs f g a b (k + 1) := by
  simp only [zSs]; omega
theorem pk_u {T st c f : Nat → Int} {tk x : Int} {i b0 : Nat} (h : ∀ b : Nat, b < 2778 → f b = zMx 0 (zPq T st tk b) c i) (hP : st i = 0) (hv : T i / tk = (b0 : Int)) (hx : x = max (f b0) (c i)) : ∀ b : Nat, b < 2778 → zU f b0 x b = zMx 0 (zPq T st tk b) c (i + 1) := by
  rw [hx]; exact pk_s h hP hv
/-- alarms, as the reference reads them -/
def zLi (pk : Nat → Int) (pe li : Int) (i k : Nat) (b : Int) : Prop := (b = 0 ∧ zLim pk pe li i = false) ∨ (b = 1 ∧ pe ≤ (i : Int) + 1 ∧ ∀ j, j < k → li ≤ pk (i - j))
theorem li_0 {pk : Nat → Int} {pe li : Int} {i : Nat} {b : Int} (h : (b = 1 ∧ pe ≤ (i : Int) + 1) ∨ (b = 0 ∧ ¬ pe ≤ (i : Int) + 1)) : zLi pk pe li i 0 b := by
  rcases h with ⟨h1, h2⟩ | ⟨h1, h2⟩
  · exact Or.inr ⟨h1, h2, fun j hj => absurd hj (by omega)⟩
  · refine Or.inl ⟨h1, Bool.eq_false_iff.mpr fun q => h2 (zLim_iff.mp q).1⟩
theorem li_s {pk : Nat → Int} {pe li : Int} {i k : Nat} {b c : Int} (h : zLi pk pe li i k b) (hb : b ≠ 0) (hk : (k : Int) < pe) (hc : (c = 1 ∧ li ≤ pk (i - k)) ∨ (c = 0 ∧ pk (i - k) < li)) : zLi pk pe li i (k + 1) c := by
  rcases h with h1 | ⟨h1, h2, h3⟩
  · exact absurd h1.1 hb
  · rcases hc with ⟨c1, c2⟩ | ⟨c1, c2⟩
    · refine Or.inr ⟨c1, h2, fun j hj => ?_⟩
      by_cases e : j = k
      · subst e; exact c2
      · exact h3 j (by omega)
    · refine Or.inl ⟨c1, Bool.eq_false_iff.mpr fun q => ?_⟩
      have := (zLim_iff.mp q).2 (i - k) (by omega) (by omega)
      omega
theorem li_e {pk : Nat → Int} {pe li : Int} {i k : Nat} {b : Int} (h : zLi pk pe li i k b) (he : pe ≤ (k : Int) ∨ b = 0) : b = zB (zLim pk pe li i = true) := by
  rcases h with ⟨h1, h2⟩ | ⟨h1, h2, h3⟩
  · rw [h1, zB_f (by rw [h2]; decide)]
  · rw [h1, zB_t]
    refine zLim_iff.mpr ⟨h2, fun q hq hp => ?_⟩
    have := h3 (i - q) (by omega)
    rw [show i - (i - q) = q by omega] at this
    exact this
theorem gro_t {pk : Nat → Int} {i : Nat} (h : 3 ≤ i ∧ 0 < pk i ∧ 2 * (pk (i - 1) + pk (i - 2) + pk (i - 3)) ≤ 3 * pk i) : zGro pk i = true := decide_eq_true h
theorem gro_f {pk : Nat → Int} {i : Nat} (h : ¬ (3 ≤ i ∧ 0 < pk i ∧ 2 * (pk (i - 1) + pk (i - 2) + pk (i - 3)) ≤ 3 * pk i)) : ¬ zGro pk i = true := fun q => h (of_decide_eq_true q)
theorem mk_st {n : Nat} {K T U S F L : Nat → Int} {w : Nat} {st bo : Nat → Int} (h : zMk n K T U S F L w st bo) : ∀ j, j < n → st j = zSN n K T U S F L w j := fun j hj => (h j hj).1
theorem mk_lk {n : Nat} {K T U S F L : Nat → Int} {w : Nat} {st bo : Nat → Int} (h : zMk n K T U S F L w st bo) : zLk n K T U S F L w st (zCh n K U S) bo := fun j hj => ⟨(h j hj).1, rfl, (h j hj).2⟩
theorem mk_r {n : Nat} {K T U S F L : Nat → Int} {w : Nat} {st bo : Nat → Int} (hK : ∀ j, j < n → 0 ≤ K j ∧ K j ≤ 2) (hn : n ≤ 250) (h : zMk n K T U S F L w st bo) : (∀ j, j < n → 0 ≤ st j ∧ st j ≤ 6) ∧ ∀ j, j < n → -1 ≤ bo j ∧ bo j ≤ 250 := by
  refine ⟨fun j hj => ?_, fun j hj => ?_⟩
  · rw [(h j hj).1]; exact zSN_in hK hj
  · rw [(h j hj).2]
    have := zBo_in (st := zSN n K T U S F L w) (T := T) (gap := S 7) (k := j)
    omega
theorem cl_in {n : Nat} {K U S : Nat → Int} (hn : n ≤ 250) (hU : ∀ j, j < n → -2000 ≤ U j ∧ U j ≤ 2000) (hs : zSet S) {k : Nat} (hk : k < n) : 0 ≤ min (zCh n K U S k / S 6) 15 ∧ min (zCh n K U S k / S 6) 15 ≤ 15 := by
  have hs6 := hs.2.2.2.2.2.2.1
  have hc0 := zCh_in (K := K) (U := U) (S := S) hn hU hs.2.1 hk
  have hd0 := Int.ediv_nonneg hc0.1 (show 0 ≤ S 6 by omega)
  omega
