/-! what a log is, the settings, the windows -/
def zLog (n : Nat) (K T U : Nat → Int) : Prop := n ≤ 250 ∧ (∀ j, j < n → 0 ≤ K j ∧ K j ≤ 2) ∧ (∀ j, j < n → 0 ≤ T j ∧ T j ≤ 1000000) ∧ (∀ j, j < n → -2000 ≤ U j ∧ U j ≤ 2000) ∧ (∀ i j, i ≤ j → j < n → T i ≤ T j)
def zSet (S : Nat → Int) : Prop := (0 ≤ S 0 ∧ S 0 ≤ 359) ∧ (1 ≤ S 1 ∧ S 1 ≤ 1000) ∧ (0 ≤ S 2 ∧ S 2 ≤ 2000) ∧ (1 ≤ S 3 ∧ S 3 ≤ 2000) ∧ (0 ≤ S 4 ∧ S 4 ≤ 100) ∧ (0 ≤ S 5 ∧ S 5 ≤ 1000) ∧ (1 ≤ S 6 ∧ S 6 ≤ 1000) ∧ (0 ≤ S 7 ∧ S 7 ≤ 1000) ∧ (1 ≤ S 8 ∧ S 8 ≤ 1000) ∧ (1 ≤ S 9 ∧ S 9 ≤ 10) ∧ (1 ≤ S 10 ∧ S 10 ≤ 100000)
def zWin (w : Nat) (F L : Nat → Int) : Prop := w ≤ 4 ∧ (∀ j, j < w → 0 ≤ F j ∧ F j ≤ 359) ∧ (∀ j, j < w → 0 ≤ L j ∧ L j ≤ 359)
/-- the time of the last pulse -/
def zLast (n : Nat) (T : Nat → Int) : Int := if 0 < n then T (n - 1) else 0
-- folds over the first n
def zAny (P : Nat → Bool) : Nat → Bool
  | 0 => false
  | n + 1 => zAny P n || P n
def zCt (P : Nat → Bool) : Nat → Int
  | 0 => 0
  | n + 1 => zCt P n + (if P n = true then 1 else 0)
def zSm (P : Nat → Bool) (f : Nat → Int) : Nat → Int
  | 0 => 0
  | n + 1 => zSm P f n + (if P n = true then f n else 0)
def zMx (d : Int) (P : Nat → Bool) (f : Nat → Int) : Nat → Int
  | 0 => d
  | n + 1 => if P n = true then max (zMx d P f n) (f n) else zMx d P f n
def zMi (P : Nat → Bool) (f : Nat → Int) : Nat → Int
  | 0 => -1
  | n + 1 => if P n = true then (if zCt P n = 0 then f n else min (zMi P f n) (f n)) else zMi P f n
def zFs (P : Nat → Bool) (f : Nat → Int) : Nat → Int
  | 0 => -1
  | n + 1 => if P n = true then (if zCt P n = 0 then f n else zFs P f n) else zFs P f n
def zLs (P : Nat → Bool) (f : Nat → Int) : Nat → Int
  | 0 => -1
  | n + 1 => if P n = true then f n else zLs P f n
theorem zAny_iff {P : Nat → Bool} {n : Nat} : zAny P n = true ↔ ∃ j, j < n ∧ P j = true := by
  induction n with
  | zero => simp [zAny]
  | succ n ih =>
    simp only [zAny, Bool.or_eq_true, ih]
    constructor
    · rintro (⟨j, h1, h2⟩ | h)
      · exact ⟨j, by omega, h2⟩
      · exact ⟨n, by omega, h⟩
    · rintro ⟨j, h1, h2⟩
      by_cases h : j = n
      · subst h; exact Or.inr h2
      · exact Or.inl ⟨j, by omega, h2⟩
theorem zAny_no {P : Nat → Bool} {n : Nat} : zAny P n = false ↔ ∀ j, j < n → P j = false := by
  have h := zAny_iff (P := P) (n := n)
  constructor
  · intro q j hj
    cases hp : P j with
    | false => rfl
    | true => rw [h.mpr ⟨j, hj, hp⟩] at q; cases q
  · intro q
    cases hz : zAny P n with
    | false => rfl
    | true =>
      obtain ⟨j, hj, hp⟩ := h.mp hz
      rw [q j hj] at hp; cases hp
theorem zAny_cg {P P2 : Nat → Bool} {n : Nat} (h : ∀ j, j < n → P j = P2 j) : zAny P n = zAny P2 n := by
  induction n with
  | zero => rfl
  | succ n ih => simp only [zAny]; rw [ih (fun j hj => h j (by omega)), h n (by omega)]
theorem zCt_cg {P P2 : Nat → Bool} {n : Nat} (h : ∀ j, j < n → P j = P2 j) : zCt P n = zCt P2 n := by
  induction n with
  | zero => rfl
  | succ n ih => simp only [zCt]; rw [ih (fun j hj => h j (by omega)), h n (by omega)]
theorem zSm_cg {P P2 : Nat → Bool} {f f2 : Nat → Int} {n : Nat} (h : ∀ j, j < n → P j = P2 j) (hf : ∀ j, j < n → P j = true → f j = f2 j) : zSm P f n = zSm P2 f2 n := by
  induction n with
  | zero => rfl
  | succ n ih =>
    simp only [zSm]; rw [ih (fun j hj => h j (by omega)) (fun j hj => hf j (by omega)), ← h n (by omega)]
    by_cases hp : P n = true
    · rw [if_pos hp, if_pos hp, hf n (by omega) hp]
    · rw [if_neg hp, if_neg hp]
theorem zMx_cg {d : Int} {P P2 : Nat → Bool} {f f2 : Nat → Int} {n : Nat} (h : ∀ j, j < n → P j = P2 j) (hf : ∀ j, j < n → P j = true → f j = f2 j) : zMx d P f n = zMx d P2 f2 n := by
  induction n with
  | zero => rfl
  | succ n ih =>
    simp only [zMx]; rw [ih (fun j hj => h j (by omega)) (fun j hj => hf j (by omega)), ← h n (by omega)]
    by_cases hp : P n = true
    · rw [if_pos hp, if_pos hp, hf n (by omega) hp]
    · rw [if_neg hp, if_neg hp]
theorem zMi_cg {P P2 : Nat → Bool} {f f2 : Nat → Int} {n : Nat} (h : ∀ j, j < n → P j = P2 j) (hf : ∀ j, j < n → P j = true → f j = f2 j) : zMi P f n = zMi P2 f2 n := by
  induction n with
  | zero => rfl
  | succ n ih =>
    simp only [zMi]; rw [ih (fun j hj => h j (by omega)) (fun j hj => hf j (by omega)), ← h n (by omega), zCt_cg (fun j hj => h j (by omega))]
    by_cases hp : P n = true
    · rw [if_pos hp, if_pos hp, hf n (by omega) hp]
    · rw [if_neg hp, if_neg hp]
theorem zFs_cg {P P2 : Nat → Bool} {f f2 : Nat → Int} {n : Nat} (h : ∀ j, j < n → P j = P2 j) (hf : ∀ j, j < n → P j = true → f j = f2 j) : zFs P f n = zFs P2 f2 n := by
  induction n with
  | zero => rfl
  | succ n ih =>
    simp only [zFs]; rw [ih (fun j hj => h j (by omega)) (fun j hj => hf j (by omega)), ← h n (by omega), zCt_cg (fun j hj => h j (by omega))]
    by_cases hp : P n = true
    · rw [if_pos hp, if_pos hp, hf n (by omega) hp]
    · rw [if_neg hp, if_neg hp]
theorem zLs_cg {P P2 : Nat → Bool} {f f2 : Nat → Int} {n : Nat} (h : ∀ j, j < n → P j = P2 j) (hf : ∀ j, j < n → P j = true → f j = f2 j) : zLs P f n = zLs P2 f2 n := by
  induction n with
  | zero => rfl
  | succ n ih =>
    simp only [zLs]; rw [ih (fun j hj => h j (by omega)) (fun j hj => hf j (by omega)), ← h n (by omega)]
    by_cases hp : P n = true
    · rw [if_pos hp, if_pos hp, hf n (by omega) hp]
    · rw [if_neg hp, if_neg hp]
theorem zCt_in {P : Nat → Bool} {n : Nat} : 0 ≤ zCt P n ∧ zCt P n ≤ n := by
  induction n with
  | zero => simp [zCt]
  | succ n ih => simp only [zCt]; split <;> omega
theorem zSm_in {P : Nat → Bool} {f : Nat → Int} {c : Int} {n : Nat} (h : ∀ j, j < n → 0 ≤ f j ∧ f j ≤ c) (hc : 0 ≤ c) : 0 ≤ zSm P f n ∧ zSm P f n ≤ n * c := by
  induction n with
  | zero => simp [zSm]
  | succ n ih =>
    have h1 := ih (fun j hj => h j (by omega))
    have h2 := h n (by omega)
    have e : ((n + 1 : Nat) : Int) * c = n * c + c := by rw [Int.natCast_add, Int.add_mul]; simp
    simp only [zSm]; rw [e]; split <;> omega
-- phases and windows
def zPh (T S : Nat → Int) (k : Nat) : Int := (T k + S 0) % 360
theorem zPh_in {T S : Nat → Int} {k : Nat} : 0 ≤ zPh T S k ∧ zPh T S k < 360 := by unfold zPh; omega
def zBlk (w : Nat) (F L : Nat → Int) (ph : Int) : Bool := zAny (fun j => if L j < F j then decide (F j ≤ ph ∨ ph ≤ L j) else decide (F j ≤ ph ∧ ph ≤ L j)) w
def zBl (w : Nat) (F L T S : Nat → Int) (k : Nat) : Bool := zBlk w F L (zPh T S k)
-- gates
def zOp (K U : Nat → Int) (gl : Int) (a : Nat) : Bool := decide (K a = 1 ∧ gl ≤ ((U a).natAbs : Int))
def zGat (n : Nat) (K T U : Nat → Int) (gl gw : Int) (k : Nat) : Bool := zAny (fun a => zOp K U gl a && decide (((T a - T k).natAbs : Int) ≤ gw)) n
theorem zGat_iff {n : Nat} {K T U : Nat → Int} {gl gw : Int} {k : Nat} : zGat n K T U gl gw k = true ↔ ∃ a, a < n ∧ zOp K U gl a = true ∧ ((T a - T k).natAbs : Int) ≤ gw := by
  unfold zGat
  rw [zAny_iff]
  simp only [Bool.and_eq_true, decide_eq_true_eq]
-- statuses
def zS0 (K T U : Nat → Int) (G B : Nat → Bool) (lv du : Int) (k : Nat) : Int :=
  if K k = 0 then (if ((U k).natAbs : Int) < lv then 1 else if G k = true then 2 else if B k = true then 3 else if T k < du then 4 else 0) else 4 + K k
def zDu (K T U : Nat → Int) (G B : Nat → Bool) (lv dt : Int) : Nat → Int
  | 0 => 0
  | k + 1 => if zS0 K T U G B lv (zDu K T U G B lv dt k) k = 0 then T k + dt else zDu K T U G B lv dt k
def zSt (K T U : Nat → Int) (G B : Nat → Bool) (lv dt : Int) (k : Nat) : Int := zS0 K T U G B lv (zDu K T U G B lv dt k) k
theorem zSt_in {n : Nat} {K T U : Nat → Int} {G B : Nat → Bool} {lv dt : Int} {k : Nat} (hK : ∀ j, j < n → 0 ≤ K j ∧ K j ≤ 2) (h : k < n) : 0 ≤ zSt K T U G B lv dt k ∧ zSt K T U G B lv dt k ≤ 6 := by
  have := hK k h
  unfold zSt zS0
  split
  · split
    · omega
    · split
      · omega
      · split
        · omega
        · split <;> omega
  · omega
theorem zDu_in {n : Nat} {K T U : Nat → Int} {G B : Nat → Bool} {lv dt : Int} (hT : ∀ j, j < n → 0 ≤ T j ∧ T j ≤ 1000000) (hd : 0 ≤ dt ∧ dt ≤ 1000) : ∀ k, k ≤ n → 0 ≤ zDu K T U G B lv dt k ∧ zDu K T U G B lv dt k ≤ 1001000 := by
  intro k
  induction k with
  | zero => intro _; simp [zDu]
  | succ k ih =>
    intro h
    have h1 := ih (by omega)
    have h2 := hT k (by omega)
    simp only [zDu]; split <;> omega
-- charges
def zNi (K : Nat → Int) (n : Nat) : Int := zCt (fun a => decide (K a = 2)) n
def zSi (K U : Nat → Int) (n : Nat) : Int := zSm (fun a => decide (K a = 2)) (fun a => ((U a).natAbs : Int)) n
def zCh (n : Nat) (K U S : Nat → Int) (k : Nat) : Int := if zSi K U n = 0 then ((U k).natAbs : Int) else ((U k).natAbs : Int) * S 1 * zNi K n / zSi K U n
theorem zSi_in {n : Nat} {K U : Nat → Int} (hn : n ≤ 250) (hU : ∀ j, j < n → -2000 ≤ U j ∧ U j ≤ 2000) {m : Nat} (hm : m ≤ n) : 0 ≤ zSi K U m ∧ zSi K U m ≤ 500000 := by
  have h := zSm_in (P := fun a => decide (K a = 2)) (f := fun a => ((U a).natAbs : Int)) (c := 2000) (n := m) (fun j hj => by have := hU j (by omega); omega) (by omega)
  unfold zSi
  omega
theorem zCh_in {n : Nat} {K U S : Nat → Int} (hn : n ≤ 250) (hU : ∀ j, j < n → -2000 ≤ U j ∧ U j ≤ 2000) (hS : 1 ≤ S 1 ∧ S 1 ≤ 1000) {k : Nat} (hk : k < n) : 0 ≤ zCh n K U S k ∧ zCh n K U S k ≤ 500000000 := by
  have h1 := zSi_in (K := K) hn hU (Nat.le_refl n)
  have h2 : 0 ≤ zNi K n ∧ zNi K n ≤ n := zCt_in
  have h3 := hU k hk
  unfold zCh
  split
  · omega
  · have a1 : 0 ≤ ((U k).natAbs : Int) * S 1 := Int.mul_nonneg (by omega) (by omega)
    have a2 : ((U k).natAbs : Int) * S 1 ≤ 2000 * 1000 := Int.mul_le_mul (by omega) (by omega) (by omega) (by omega)
    have a3 : 0 ≤ ((U k).natAbs : Int) * S 1 * zNi K n := Int.mul_nonneg a1 h2.1
    have a4 : ((U k).natAbs : Int) * S 1 * zNi K n ≤ 2000 * 1000 * 250 := Int.mul_le_mul a2 (by omega) h2.1 (by omega)
    refine ⟨Int.ediv_nonneg a3 h1.1, ?_⟩
    have a5 := Int.ediv_le_self (zSi K U n) a3
    omega
-- bursts
def zA0 (st : Nat → Int) (k : Nat) : Bool := decide (st k = 0)
def zBn (st T : Nat → Int) (gap : Int) : Nat → Int
  | 0 => 0
  | k + 1 => if st k = 0 then (if zBn st T gap k = 0 ∨ gap < T k - zLs (zA0 st) T k then zBn st T gap k + 1 else zBn st T gap k) else zBn st T gap k
def zBo (st T : Nat → Int) (gap : Int) (k : Nat) : Int := if st k = 0 then zBn st T gap (k + 1) - 1 else -1
theorem zBn_cg {st st2 T : Nat → Int} {gap : Int} {n : Nat} (h : ∀ j, j < n → st j = st2 j) : zBn st T gap n = zBn st2 T gap n := by
  induction n with
  | zero => rfl
  | succ n ih =>
    simp only [zBn]
    rw [ih (fun j hj => h j (by omega)), h n (by omega), zLs_cg (P := zA0 st) (P2 := zA0 st2) (f2 := T) (fun j hj => by unfold zA0; rw [h j (by omega)]) (fun _ _ _ => rfl)]
theorem zBn_in {st T : Nat → Int} {gap : Int} {n : Nat} : 0 ≤ zBn st T gap n ∧ zBn st T gap n ≤ n := by
  induction n with
  | zero => simp [zBn]
  | succ n ih =>
    simp only [zBn]; split
    · split <;> omega
    · omega
theorem zBo_cg {st st2 T : Nat → Int} {gap : Int} {n : Nat} (h : ∀ j, j < n → st j = st2 j) {k : Nat} (hk : k < n) : zBo st T gap k = zBo st2 T gap k := by
  unfold zBo
  rw [h k hk, zBn_cg (n := k + 1) (fun j hj => h j (by omega))]
theorem zBo_in {st T : Nat → Int} {gap : Int} {k : Nat} : -1 ≤ zBo st T gap k ∧ zBo st T gap k ≤ k := by
  have := zBn_in (st := st) (T := T) (gap := gap) (n := k + 1)
  unfold zBo; split <;> omega
-- what stands now
def zSN (n : Nat) (K T U S F L : Nat → Int) (w : Nat) : Nat → Int := zSt K T U (zGat n K T U (S 3) (S 4)) (zBl w F L T S) (S 2) (S 5)
