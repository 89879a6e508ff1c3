/-! gates: what the two sweeps leave -/
def zGp (K T U : Nat → Int) (gl gw : Int) (g : Nat → Int) (j : Nat) : Prop := (g j = 0 ∨ g j = 1) ∧ (g j = 1 ↔ ∃ a, a ≤ j ∧ zOp K U gl a = true ∧ T j - T a ≤ gw)
theorem gate_t {K T U : Nat → Int} {gl : Int} {n i : Nat} {b : Int} (hM : ∀ i j, i ≤ j → j < n → T i ≤ T j) (hi : i < n) : ∀ a, a < i + 1 → zOp K U gl a = true → T a ≤ T i := fun a ha _ => hM a i (by omega) hi
theorem gate_f {K T U : Nat → Int} {gl : Int} {i : Nat} {b : Int} (hn : ¬ zOp K U gl i = true) (h : ∀ a, a < i → zOp K U gl a = true → T a ≤ b) : ∀ a, a < i + 1 → zOp K U gl a = true → T a ≤ b := fun a ha hz => by
  by_cases e : a = i
  · subst e; exact absurd hz hn
  · exact h a (by omega) hz
theorem gate_f2 {K T U : Nat → Int} {gl : Int} {i : Nat} {b d : Int} (h : b = d ∨ ∃ a, a < i ∧ zOp K U gl a = true ∧ b = T a) : b = d ∨ ∃ a, a < i + 1 ∧ zOp K U gl a = true ∧ b = T a := by
  rcases h with h | ⟨a, h1, h2, h3⟩
  · exact Or.inl h
  · exact Or.inr ⟨a, by omega, h2, h3⟩
theorem gate_g {K T U : Nat → Int} {gl gw : Int} {g : Nat → Int} {i : Nat} {b x : Int} (h1 : ∀ a, a < i + 1 → zOp K U gl a = true → T a ≤ b) (h2 : b = -2000000 ∨ ∃ a, a < i + 1 ∧ zOp K U gl a = true ∧ b = T a) (hx : x = 0 ∨ x = 1) (hq : x = 1 ↔ T i - b ≤ gw) (hw : gw ≤ 100) (hT : 0 ≤ T i) (hg : ∀ j, j < i → zGp K T U gl gw g j) : ∀ j, j < i + 1 → zGp K T U gl gw (zU g i x) j := by
  intro j hj
  by_cases e : j = i
  · subst e
    unfold zGp
    rw [zU_s]
    refine ⟨hx, ?_⟩
    rw [hq]
    constructor
    · intro q
      rcases h2 with h2 | ⟨a, a1, a2, a3⟩
      · omega
      · exact ⟨a, by omega, a2, by omega⟩
    · rintro ⟨a, a1, a2, a3⟩
      have := h1 a (by omega) a2
      omega
  · have h := hg j (by omega)
    unfold zGp at h ⊢
    rw [zU_n e]
    exact h
theorem gate_bt {K T U : Nat → Int} {gl : Int} {n k : Nat} (hM : ∀ i j, i ≤ j → j < n → T i ≤ T j) : ∀ a : Nat, ((k : Int) - 1) < a → a < n → zOp K U gl a = true → T k ≤ T a := fun a ha h _ => hM k a (by omega) h
theorem gate_bf {K T U : Nat → Int} {gl : Int} {n k : Nat} {b : Int} (hn : ¬ zOp K U gl k = true) (h : ∀ a : Nat, (k : Int) < a → a < n → zOp K U gl a = true → b ≤ T a) : ∀ a : Nat, ((k : Int) - 1) < a → a < n → zOp K U gl a = true → b ≤ T a := fun a ha h9 hz => by
  by_cases e : a = k
  · subst e; exact absurd hz hn
  · exact h a (by omega) h9 hz
theorem gate_bf2 {K T U : Nat → Int} {gl : Int} {n k : Nat} {b d : Int} (h : b = d ∨ ∃ a : Nat, (k : Int) < a ∧ a < n ∧ zOp K U gl a = true ∧ b = T a) : b = d ∨ ∃ a : Nat, ((k : Int) - 1) < a ∧ a < n ∧ zOp K U gl a = true ∧ b = T a := by
  rcases h with h | ⟨a, h1, h2, h3⟩
  · exact Or.inl h
  · exact Or.inr ⟨a, by omega, h2, h3⟩
theorem gate_z {K T U : Nat → Int} {gl gw : Int} {g : Nat → Int} {n k : Nat} {b x : Int} (hM : ∀ i j, i ≤ j → j < n → T i ≤ T j) (hk : k < n) (hp : zGp K T U gl gw g k) (h1 : ∀ a : Nat, ((k : Int) - 1) < a → a < n → zOp K U gl a = true → b ≤ T a) (h2 : b = 2000000 ∨ ∃ a : Nat, ((k : Int) - 1) < a ∧ a < n ∧ zOp K U gl a = true ∧ b = T a) (hT : T k ≤ 1000000) (hw : gw ≤ 100) (hx : (b - T k ≤ gw ∧ x = 1) ∨ (gw < b - T k ∧ x = g k)) : x = zB (zGat n K T U gl gw k = true) := by
  obtain ⟨p1, p2⟩ := hp
  have key : x = 1 ↔ zGat n K T U gl gw k = true := by
    rw [zGat_iff]
    constructor
    · intro q
      rcases hx with ⟨c1, c2⟩ | ⟨c1, c2⟩
      · rcases h2 with h2 | ⟨a, a1, a2, a3, a4⟩
        · omega
        · have := hM k a (by omega) a2
          exact ⟨a, a2, a3, by omega⟩
      · obtain ⟨a, a1, a2, a3⟩ := p2.mp (by omega)
        have := hM a k a1 hk
        exact ⟨a, by omega, a2, by omega⟩
    · rintro ⟨a, a1, a2, a3⟩
      rcases hx with ⟨c1, c2⟩ | ⟨c1, c2⟩
      · exact c2
      · rw [c2, p2]
        by_cases e : a ≤ k
        · exact ⟨a, e, a2, by omega⟩
        · have h9 := h1 a (by omega) a1 a2
          have := hM k a (by omega) a1
          omega
  by_cases q : zGat n K T U gl gw k = true
  · rw [zB_t q]; exact key.mpr q
  · rw [zB_f q]
    have : ¬ x = 1 := fun z => q (key.mp z)
    rcases hx with ⟨c1, c2⟩ | ⟨c1, c2⟩ <;> omega
theorem gate_hi {n k : Nat} {g : Nat → Int} {V : Nat → Int} {x : Int} (hx : x = V k) (h : ∀ j : Nat, (k : Int) < j → j < n → g j = V j) : ∀ j : Nat, ((k : Int) - 1) < j → j < n → zU g k x j = V j := by
  intro j hj hn
  by_cases e : j = k
  · subst e; rw [zU_s]; exact hx
  · rw [zU_n e]; exact h j (by omega) hn
theorem gate_hi2 {n k : Nat} {g : Nat → Int} {V : Nat → Int} (hx : g k = V k) (h : ∀ j : Nat, (k : Int) < j → j < n → g j = V j) : ∀ j : Nat, ((k : Int) - 1) < j → j < n → g j = V j := by
  intro j hj hn
  by_cases e : j = k
  · subst e; exact hx
  · exact h j (by omega) hn
theorem gate_lo {K T U : Nat → Int} {gl gw : Int} {g : Nat → Int} {k : Nat} {x : Int} (h : ∀ j : Nat, (j : Int) ≤ k → zGp K T U gl gw g j) : ∀ j : Nat, (j : Int) ≤ (k : Int) - 1 → zGp K T U gl gw (zU g k x) j := by
  intro j hj
  have h9 := h j (by omega)
  unfold zGp at h9 ⊢
  rw [zU_n (by omega)]
  exact h9
-- a row filled up
theorem fill_s {f V : Nat → Int} {i : Nat} {x : Int} (hx : x = V i) (h : ∀ j, j < i → f j = V j) : ∀ j, j < i + 1 → zU f i x j = V j := by
  intro j hj
  by_cases e : j = i
  · subst e; rw [zU_s]; exact hx
  · rw [zU_n e]; exact h j (by omega)
theorem zNi_s {K : Nat → Int} {i : Nat} {x : Int} (hx : x = zNi K i) (h : K i = 2) : x + 1 = zNi K (i + 1) := by
  simp only [zNi, zCt] at hx ⊢; rw [if_pos (decide_eq_true h)]; omega
theorem zNi_k {K : Nat → Int} {i : Nat} {x : Int} (hx : x = zNi K i) (h : ¬ K i = 2) : x = zNi K (i + 1) := by
  simp only [zNi, zCt] at hx ⊢; rw [if_neg (by simp only [decide_eq_true_eq]; exact h)]; omega
theorem zSi_s {K U : Nat → Int} {i : Nat} {x : Int} (hx : x = zSi K U i) (h : K i = 2) : x + ((U i).natAbs : Int) = zSi K U (i + 1) := by
  simp only [zSi, zSm] at hx ⊢; rw [if_pos (decide_eq_true h)]; omega
theorem zSi_k {K U : Nat → Int} {i : Nat} {x : Int} (hx : x = zSi K U i) (h : ¬ K i = 2) : x = zSi K U (i + 1) := by
  simp only [zSi, zSm] at hx ⊢; rw [if_neg (by simp only [decide_eq_true_eq]; exact h)]; omega
theorem weigh_r {u x y : Int} (h1 : 0 ≤ u ∧ u ≤ 2000) (h2 : 0 ≤ x ∧ x ≤ 250) (h3 : 1 ≤ y ∧ y ≤ 1000) : 0 ≤ u * (x * y) ∧ u * (x * y) ≤ 500000000 := by
  have a1 : 0 ≤ x * y := Int.mul_nonneg h2.1 (by omega)
  have a2 : x * y ≤ 250 * 1000 := Int.mul_le_mul h2.2 h3.2 (by omega) (by omega)
  exact ⟨Int.mul_nonneg h1.1 a1, Int.le_trans (Int.mul_le_mul h1.2 a2 a1 (by omega)) (by omega)⟩
theorem weigh_c {n : Nat} {K U S : Nat → Int} {i : Nat} {x y : Int} (hx : x = zNi K n) (hy : y = zSi K U n) (h : 0 < y) : ((U i).natAbs : Int) * (x * S 1) / y = zCh n K U S i := by
  unfold zCh
  rw [if_neg (by omega), hx, hy, Int.mul_comm (zNi K n) (S 1), Int.mul_assoc]
theorem weigh_d {n : Nat} {K U S : Nat → Int} {i : Nat} {y : Int} (hy : y = zSi K U n) (h : y ≤ 0) (h0 : 0 ≤ y) : ((U i).natAbs : Int) = zCh n K U S i := by
  unfold zCh
  rw [if_pos (by omega)]
-- counting
theorem zCt_s {P : Nat → Bool} {i : Nat} {c : Int} (hc : c = zCt P i) (h : P i = true) : c + 1 = zCt P (i + 1) := by
  simp only [zCt]; rw [if_pos h]; omega
theorem zCt_k {P : Nat → Bool} {i : Nat} {c : Int} (hc : c = zCt P i) (h : ¬ P i = true) : c = zCt P (i + 1) := by
  simp only [zCt]; rw [if_neg h]; omega
theorem zSm_s {P : Nat → Bool} {f : Nat → Int} {i : Nat} {c : Int} (hc : c = zSm P f i) (h : P i = true) : c + f i = zSm P f (i + 1) := by
  simp only [zSm]; rw [if_pos h]; omega
theorem zSm_k {P : Nat → Bool} {f : Nat → Int} {i : Nat} {c : Int} (hc : c = zSm P f i) (h : ¬ P i = true) : c = zSm P f (i + 1) := by
  simp only [zSm]; rw [if_neg h]; omega
theorem zMx_s {d : Int} {P : Nat → Bool} {f : Nat → Int} {i : Nat} {c : Int} (hc : c = zMx d P f i) (h : P i = true) : max c (f i) = zMx d P f (i + 1) := by
  simp only [zMx]; rw [if_pos h, hc]
theorem zMx_k {d : Int} {P : Nat → Bool} {f : Nat → Int} {i : Nat} {c : Int} (hc : c = zMx d P f i) (h : ¬ P i = true) : c = zMx d P f (i + 1) := by
  simp only [zMx]; rw [if_neg h, hc]
theorem zMi_s0 {P : Nat → Bool} {f : Nat → Int} {i : Nat} (h : P i = true) (h0 : zCt P i = 0) : f i = zMi P f (i + 1) := by
  simp only [zMi]; rw [if_pos h, if_pos h0]
theorem zMi_s1 {P : Nat → Bool} {f : Nat → Int} {i : Nat} {c : Int} (hc : c = zMi P f i) (h : P i = true) (h0 : ¬ zCt P i = 0) : min c (f i) = zMi P f (i + 1) := by
  simp only [zMi]; rw [if_pos h, if_neg h0, hc]
theorem zMi_k {P : Nat → Bool} {f : Nat → Int} {i : Nat} {c : Int} (hc : c = zMi P f i) (h : ¬ P i = true) : c = zMi P f (i + 1) := by
  simp only [zMi]; rw [if_neg h, hc]
theorem zFs_s0 {P : Nat → Bool} {f : Nat → Int} {i : Nat} (h : P i = true) (h0 : zCt P i = 0) : f i = zFs P f (i + 1) := by
  simp only [zFs]; rw [if_pos h, if_pos h0]
theorem zFs_s1 {P : Nat → Bool} {f : Nat → Int} {i : Nat} {c : Int} (hc : c = zFs P f i) (h : P i = true) (h0 : ¬ zCt P i = 0) : c = zFs P f (i + 1) := by
  simp only [zFs]; rw [if_pos h, if_neg h0, hc]
theorem zFs_k {P : Nat → Bool} {f : Nat → Int} {i : Nat} {c : Int} (hc : c = zFs P f i) (h : ¬ P i = true) : c = zFs P f (i + 1) := by
  simp only [zFs]; rw [if_neg h, hc]
theorem zLs_s {P : Nat → Bool} {f : Nat → Int} {i : Nat} (h : P i = true) : f i = zLs P f (i + 1) := by
  simp only [zLs]; rw [if_pos h]
theorem zLs_k {P : Nat → Bool} {f : Nat → Int} {i : Nat} {c : Int} (hc : c = zLs P f i) (h : ¬ P i = true) : c = zLs P f (i + 1) := by
  simp only [zLs]; rw [if_neg h, hc]
theorem zMx_in {d lo hi : Int} {P : Nat → Bool} {f : Nat → Int} {n : Nat} (hd : lo ≤ d ∧ d ≤ hi) (h : ∀ j, j < n → lo ≤ f j ∧ f j ≤ hi) : lo ≤ zMx d P f n ∧ zMx d P f n ≤ hi := by
  induction n with
  | zero => exact hd
  | succ n ih =>
    have h1 := ih (fun j hj => h j (by omega))
    have h2 := h n (by omega)
    simp only [zMx]; split <;> omega
theorem zMi_in {lo hi : Int} {P : Nat → Bool} {f : Nat → Int} {n : Nat} (hd : lo ≤ -1 ∧ -1 ≤ hi) (h : ∀ j, j < n → lo ≤ f j ∧ f j ≤ hi) : lo ≤ zMi P f n ∧ zMi P f n ≤ hi := by
  induction n with
  | zero => exact hd
  | succ n ih =>
    have h1 := ih (fun j hj => h j (by omega))
    have h2 := h n (by omega)
    simp only [zMi]; split
    · split <;> omega
    · omega
theorem zFs_in {lo hi : Int} {P : Nat → Bool} {f : Nat → Int} {n : Nat} (hd : lo ≤ -1 ∧ -1 ≤ hi) (h : ∀ j, j < n → lo ≤ f j ∧ f j ≤ hi) : lo ≤ zFs P f n ∧ zFs P f n ≤ hi := by
  induction n with
  | zero => exact hd
  | succ n ih =>
    have h1 := ih (fun j hj => h j (by omega))
    have h2 := h n (by omega)
    simp only [zFs]; split
    · split <;> omega
    · omega
theorem zLs_in {lo hi : Int} {P : Nat → Bool} {f : Nat → Int} {n : Nat} (hd : lo ≤ -1 ∧ -1 ≤ hi) (h : ∀ j, j < n → lo ≤ f j ∧ f j ≤ hi) : lo ≤ zLs P f n ∧ zLs P f n ≤ hi := by
  induction n with
  | zero => exact hd
  | succ n ih =>
    have h1 := ih (fun j hj => h j (by omega))
    have h2 := h n (by omega)
    simp only [zLs]; split <;> omega
-- bursts
theorem zBn_s {st T : Nat → Int} {gap : Int} {i : Nat} {b : Int} (hb : b = zBn st T gap i) (h : st i = 0) (hc : b = 0 ∨ gap < T i - zLs (zA0 st) T i) : b + 1 = zBn st T gap (i + 1) := by
  simp only [zBn]; rw [if_pos h, ← hb, if_pos hc]
theorem zBn_k {st T : Nat → Int} {gap : Int} {i : Nat} {b : Int} (hb : b = zBn st T gap i) (h : st i = 0) (hc : ¬ b = 0) (hd : T i - zLs (zA0 st) T i ≤ gap) : b = zBn st T gap (i + 1) := by
  simp only [zBn]; rw [if_pos h, ← hb, if_neg (by omega)]
theorem zBn_n {st T : Nat → Int} {gap : Int} {i : Nat} {b : Int} (hb : b = zBn st T gap i) (h : ¬ st i = 0) : b = zBn st T gap (i + 1) := by
  simp only [zBn]; rw [if_neg h, ← hb]
theorem zBo_y {st T : Nat → Int} {gap : Int} {i : Nat} {b : Int} (hb : b = zBn st T gap (i + 1)) (h : st i = 0) : b - 1 = zBo st T gap i := by
  unfold zBo; rw [if_pos h, hb]
theorem zBo_n {st T : Nat → Int} {gap : Int} {i : Nat} (h : ¬ st i = 0) : -1 = zBo st T gap i := by
  unfold zBo; rw [if_neg h]
theorem fill_t {f V : Nat → Int} {i : Nat} {x y : Int} (hx : x = V i) (h : ∀ j, j < i → f j = V j) : ∀ j, j < i + 1 → zU (zU f i y) i x j = V j := by
  intro j hj
  by_cases e : j = i
  · subst e; rw [zU_s]; exact hx
  · rw [zU_n e, zU_n e]; exact h j (by omega)
-- what is told of a pulse
def zAp (K T U S ch st bo : Nat → Int) (x : Int) (k : Nat) : Int := if x = 0 then K k else if x = 1 then T k else if x = 2 then U k else if x = 3 then zPh T S k else if x = 4 then ch k else if x = 5 then st k else bo k
/-- accepted and in a range -/
def zAr (st T : Nat → Int) (x y : Int) (a : Nat) : Bool := decide (st a = 0 ∧ x ≤ T a ∧ T a ≤ y)
/-- .. in a half of the cycle -/
def zAh (st T S : Nat → Int) (x y h : Int) (a : Nat) : Bool := zAr st T x y a && decide (zPh T S a / 10 / 18 = h)
def zFe (st T S U ch : Nat → Int) (x y h w : Int) (n : Nat) : Int :=
  if w = 0 then zCt (zAh st T S x y h) n else if w = 1 then zMx 0 (zAh st T S x y h) ch n else if w = 2 then zSm (zAh st T S x y h) ch n else if w = 3 then zCt (fun a => zAh st T S x y h a && decide (0 ≤ U a)) n else if w = 4 then zMi (zAh st T S x y h) (zPh T S) n else zMx (-1) (zAh st T S x y h) (zPh T S) n
def zBu (bo T ch : Nat → Int) (b w : Int) (n : Nat) : Int :=
  if w = 0 then zCt (fun a => decide (bo a = b)) n else if w = 1 then zFs (fun a => decide (bo a = b)) T n else if w = 2 then zLs (fun a => decide (bo a = b)) T n else zSm (fun a => decide (bo a = b)) ch n
