/-! asymmetry, patterns, similarity -/
def zSu (f : Nat → Int) (x : Nat) : Nat → Int
  | 0 => 0
  | n + 1 => zSu f x n + (if x + n < 36 then f (x + n) else 0)
theorem zSu_cg {f g : Nat → Int} {x n : Nat} (h : ∀ b, b < 36 → f b = g b) : zSu f x n = zSu g x n := by
  induction n with
  | zero => rfl
  | succ n ih =>
    simp only [zSu]
    rw [ih]
    by_cases e : x + n < 36
    · rw [if_pos e, if_pos e, h _ e]
    · rw [if_neg e, if_neg e]
def zFi (f : Nat → Int) (n : Nat) : Int := zCt (fun b => decide (0 < f b)) n
def zPat (f : Nat → Int) (n : Int) : Int :=
  if n < 10 then 0 else if 8 * n ≤ (max (zSu f 0 18) (n - zSu f 0 18)) * 10 then 1
  else if 7 * n ≤ (zSu f 0 9 + zSu f 18 9) * 10 then (if ((zSu f 0 18 - (n - zSu f 0 18)).natAbs : Int) * 5 ≤ n then 2 else 3)
  else if 24 ≤ zFi f 36 then 4 else 5
theorem zFi_cg {f g : Nat → Int} {n : Nat} (hn : n ≤ 36) (h : ∀ b, b < 36 → f b = g b) : zFi f n = zFi g n := zCt_cg (fun j hj => by show decide _ = decide _; rw [h j (by omega)])
theorem zPat_cg {f g : Nat → Int} {n : Int} (h : ∀ b, b < 36 → f b = g b) : zPat f n = zPat g n := by
  unfold zPat
  rw [zSu_cg (x := 0) (n := 18) h, zSu_cg (x := 0) (n := 9) h, zSu_cg (x := 18) (n := 9) h, zFi_cg (Nat.le_refl 36) h]
def zPattern (n : Nat) (K T U S F L : Nat → Int) (w : Nat) (x y : Int) : Int := zPat (zBi n K T U S F L w x y) (zTo n K T U S F L w x y)
theorem zSu_in {f : Nat → Int} {c : Int} {x n : Nat} (hc : 0 ≤ c) (h : ∀ b, b < 36 → 0 ≤ f b ∧ f b ≤ c) : 0 ≤ zSu f x n ∧ zSu f x n ≤ n * c := by
  induction n with
  | zero => simp [zSu]
  | succ n ih =>
    have e : ((n + 1 : Nat) : Int) * c = n * c + c := by rw [Int.natCast_add, Int.add_mul]; simp
    simp only [zSu]; rw [e]
    split
    · rename_i h1; have := h _ h1; omega
    · omega
/-- the sum of the smaller products -/
def zSs (f g : Nat → Int) (a b : Int) : Nat → Int
  | 0 => 0
  | n + 1 => zSs f g a b n + min (f n * b) (g n * a)
theorem zSs_cg {f g f2 g2 : Nat → Int} {a b : Int} : ∀ {n : Nat}, n ≤ 36 → (∀ b, b < 36 → f b = f2 b) → (∀ b, b < 36 → g b = g2 b) → zSs f g a b n = zSs f2 g2 a b n
  | 0, _, _, _ => rfl
  | n + 1, hn, h1, h2 => by
    simp only [zSs]
    rw [zSs_cg (by omega) h1 h2, h1 n (by omega), h2 n (by omega)]
def zSim (f g : Nat → Int) (a b : Int) : Int := if a = 0 ∨ b = 0 then 0 else 1000 * zSs f g a b 36 / (a * b)
theorem zSim_cg {f g f2 g2 : Nat → Int} {a b : Int} (h1 : ∀ b, b < 36 → f b = f2 b) (h2 : ∀ b, b < 36 → g b = g2 b) : zSim f g a b = zSim f2 g2 a b := by
  unfold zSim
  rw [zSs_cg (Nat.le_refl 36) h1 h2]
def zSimilar (n : Nat) (K T U S F L : Nat → Int) (w : Nat) (x y x2 y2 : Int) : Int := zSim (zBi n K T U S F L w x y) (zBi n K T U S F L w x2 y2) (zTo n K T U S F L w x y) (zTo n K T U S F L w x2 y2)
/-- the bins of a row add up to no more than all -/
def zSf (f : Nat → Int) : Nat → Int
  | 0 => 0
  | n + 1 => zSf f n + f n
theorem zSf_bins {P : Nat → Bool} {V : Nat → Int} {n : Nat} : ∀ (m : Nat), (∀ j, j < n → 0 ≤ V j) → zSf (fun b => zCt (fun a => P a && decide (V a = (b : Int))) n) m ≤ zCt (fun a => P a && decide (V a < (m : Int))) n := by
  intro m
  induction m with
  | zero =>
    intro _
    show 0 ≤ _
    exact zCt_in.1
  | succ m ih =>
    intro hV
    have h1 := ih hV
    show zSf _ m + zCt (fun a => P a && decide (V a = (m : Int))) n ≤ _
    have h2 : ∀ k, zCt (fun a => P a && decide (V a < (m : Int))) k + zCt (fun a => P a && decide (V a = (m : Int))) k = zCt (fun a => P a && decide (V a < ((m + 1 : Nat) : Int))) k := by
      intro k
      induction k with
      | zero => rfl
      | succ k ihk =>
        simp only [zCt, Bool.and_eq_true, decide_eq_true_eq]
        by_cases hP : P k = true
        · by_cases c1 : V k < (m : Int)
          · rw [if_pos ⟨hP, c1⟩, if_neg (fun q => absurd q.2 (by omega)), if_pos ⟨hP, by omega⟩]; omega
          · by_cases c2 : V k = (m : Int)
            · rw [if_neg (fun q => c1 q.2), if_pos ⟨hP, c2⟩, if_pos ⟨hP, by omega⟩]; omega
            · rw [if_neg (fun q => c1 q.2), if_neg (fun q => c2 q.2), if_neg (fun q => absurd q.2 (by omega))]; omega
        · rw [if_neg (fun q => hP q.1), if_neg (fun q => hP q.1), if_neg (fun q => hP q.1)]; omega
    have := h2 n
    omega
theorem zCt_le {P P2 : Nat → Bool} {n : Nat} (h : ∀ j, j < n → P j = true → P2 j = true) : zCt P n ≤ zCt P2 n := by
  induction n with
  | zero => simp [zCt]
  | succ n ih =>
    have h1 := ih (fun j hj => h j (by omega))
    simp only [zCt]
    by_cases c : P n = true
    · rw [if_pos c, if_pos (h n (by omega) c)]; omega
    · rw [if_neg c]; split <;> omega
theorem zSs_in {f g : Nat → Int} {a b : Int} (ha : 0 ≤ a) (hb : 0 ≤ b) (hf : ∀ j, j < 36 → 0 ≤ f j) (hg : ∀ j, j < 36 → 0 ≤ g j) : ∀ {n : Nat}, n ≤ 36 → 0 ≤ zSs f g a b n ∧ zSs f g a b n ≤ zSf f n * b
  | 0, _ => by simp [zSs, zSf]
  | n + 1, hn => by
    have h1 := zSs_in (f := f) (g := g) ha hb hf hg (n := n) (by omega)
    have h2 : 0 ≤ f n * b := Int.mul_nonneg (hf n (by omega)) hb
    have h3 : 0 ≤ g n * a := Int.mul_nonneg (hg n (by omega)) ha
    simp only [zSs, zSf]
    rw [Int.add_mul]
    omega
/-- both bins rows are of a log: what the sums keep to -/
theorem zSim_in {n : Nat} {K T U S F L : Nat → Int} {w : Nat} {x y : Int} {g : Nat → Int} {b : Int} (hn : n ≤ 250) (hb : 0 ≤ b ∧ b ≤ 250) (hg : ∀ j, j < 36 → 0 ≤ g j) {m : Nat} (hm : m ≤ 36) : 0 ≤ zSs (zBi n K T U S F L w x y) g (zTo n K T U S F L w x y) b m ∧ zSs (zBi n K T U S F L w x y) g (zTo n K T U S F L w x y) b m ≤ 62500 := by
  have a0 : 0 ≤ zTo n K T U S F L w x y ∧ zTo n K T U S F L w x y ≤ n := zCt_in
  have h1 := zSs_in (f := zBi n K T U S F L w x y) (g := g) a0.1 hb.1 (fun j _ => zCt_in.1) hg hm
  have h2 := zSf_bins (P := zAr (zSN n K T U S F L w) T x y) (V := fun a => zPh T S a / 10) (n := n) m (fun j _ => by have := zPh_in (T := T) (S := S) (k := j); show 0 ≤ zPh T S j / 10; omega)
  have h3 : zCt (fun a => zAr (zSN n K T U S F L w) T x y a && decide ((fun a => zPh T S a / 10) a < (m : Int))) n ≤ zTo n K T U S F L w x y := zCt_le (fun j hj h => by simp only [Bool.and_eq_true] at h; exact h.1)
  have h4 : zSf (zBi n K T U S F L w x y) m ≤ zTo n K T U S F L w x y := Int.le_trans h2 h3
  have h5 : zSf (zBi n K T U S F L w x y) m * b ≤ 250 * 250 := Int.le_trans (Int.mul_le_mul_of_nonneg_right (show zSf (zBi n K T U S F L w x y) m ≤ 250 by omega) hb.1) (by omega)
  omega
-- the trend's answers
def zPks (n : Nat) (K T U S F L : Nat → Int) (w : Nat) (i : Nat) : Int := zPk n T (zSN n K T U S F L w) (zCh n K U S) S i
theorem zPks_lk {n : Nat} {K T U S F L : Nat → Int} {w : Nat} {st ch bo : Nat → Int} (hl : zLk n K T U S F L w st ch bo) (i : Nat) : zPk n T st ch S i = zPks n K T U S F L w i := by
  unfold zPks zPk
  exact zMx_cg (fun j hj => by unfold zPq; rw [(hl j hj).1]) (fun j hj _ => (hl j hj).2.1)
theorem zLim_cg {f g : Nat → Int} {pe li : Int} {i : Nat} (hi : i < 2778) (h : ∀ b, b < 2778 → f b = g b) : zLim f pe li i = zLim g pe li i := by
  unfold zLim
  rw [zAny_cg (P2 := fun k => decide ((i : Int) + 1 - pe ≤ (k : Int) ∧ g k < li)) (fun j hj => by show decide _ = decide _; rw [h j (by omega)])]
theorem zGro_cg {f g : Nat → Int} {i : Nat} (hi : i < 2778) (h : ∀ b, b < 2778 → f b = g b) : zGro f i = zGro g i := by
  unfold zGro
  rw [h i hi, h (i - 1) (by omega), h (i - 2) (by omega), h (i - 3) (by omega)]
def zIn (n : Nat) (K T U S F L : Nat → Int) (w : Nat) (i : Nat) (v : Int) : Int :=
  if v = 0 then zCt (zPq T (zSN n K T U S F L w) (360 * S 8) i) n else if v = 1 then zPks n K T U S F L w i else if v = 2 then zSm (zPq T (zSN n K T U S F L w) (360 * S 8) i) (zCh n K U S) n
  else if v = 3 then zB (zLim (zPks n K T U S F L w) (S 9) (S 10) i = true) else zB (zGro (zPks n K T U S F L w) i = true)
theorem in_range {t k q : Int} (hk : 0 < k) : (q * k ≤ t ∧ t ≤ (q + 1) * k - 1) ↔ t / k = q := by
  constructor
  · rintro ⟨h1, h2⟩
    have a1 : q ≤ t / k := (Int.le_ediv_iff_mul_le hk).mpr h1
    have a2 : t / k < q + 1 := (Int.ediv_lt_iff_lt_mul hk).mpr (by omega)
    omega
  · intro h
    subst h
    have a1 := Int.ediv_mul_le t (Int.ne_of_gt hk)
    have a2 := Int.lt_ediv_add_one_mul_self t hk
    omega
theorem zAr_q {T st : Nat → Int} {tk i : Int} {a : Nat} (hk : 0 < tk) : zAr st T (i * tk) ((i + 1) * tk - 1) a = zPq T st tk i a := by
  unfold zAr zPq
  have h := in_range (t := T a) (k := tk) (q := i) hk
  by_cases c : st a = 0
  · by_cases d : T a / tk = i
    · rw [decide_eq_true (show _ ∧ _ from ⟨c, d⟩), decide_eq_true (show _ ∧ _ ∧ _ from ⟨c, h.mpr d⟩)]
    · rw [decide_eq_false (fun q : _ ∧ _ => d q.2), decide_eq_false (fun q : _ ∧ _ ∧ _ => d (h.mp q.2))]
  · rw [decide_eq_false (fun q : _ ∧ _ => c q.1), decide_eq_false (fun q : _ ∧ _ => c q.1)]
theorem zPq_lk {n : Nat} {K T U S F L : Nat → Int} {w : Nat} {st ch bo : Nat → Int} {tk i : Int} (hl : zLk n K T U S F L w st ch bo) : ∀ j, j < n → zPq T st tk i j = zPq T (zSN n K T U S F L w) tk i j := fun j hj => by unfold zPq; rw [(hl j hj).1]
/-- the first of the first n -/
def zFst (P : Nat → Bool) : Nat → Int
  | 0 => -1
  | n + 1 => if zFst P n = -1 then (if P n = true then (n : Int) else -1) else zFst P n
theorem zFst_no {P : Nat → Bool} : ∀ {n : Nat}, (∀ j, j < n → P j = false) → zFst P n = -1
  | 0, _ => rfl
  | n + 1, h => by
    simp only [zFst]
    rw [zFst_no (fun j hj => h j (by omega)), if_pos rfl, if_neg (by rw [h n (by omega)]; decide)]
theorem zFst_at {P : Nat → Bool} {k : Nat} (hk : P k = true) (h : ∀ j, j < k → P j = false) : ∀ {n : Nat}, k < n → zFst P n = (k : Int)
  | 0, h0 => absurd h0 (by omega)
  | n + 1, h0 => by
    simp only [zFst]
    by_cases e : k < n
    · rw [zFst_at hk h e, if_neg (by omega)]
    · have e2 : k = n := by omega
      subst e2
      rw [zFst_no h, if_pos rfl, if_pos hk]
theorem zFst_cg {P P2 : Nat → Bool} : ∀ {n : Nat}, (∀ j, j < n → P j = P2 j) → zFst P n = zFst P2 n
  | 0, _ => rfl
  | n + 1, h => by
    simp only [zFst]
    rw [zFst_cg (fun j hj => h j (by omega)), h n (by omega)]
def zFa (n : Nat) (K T U S F L : Nat → Int) (w : Nat) (g : Int) : Int := zFst (fun i => if g = 0 then zLim (zPks n K T U S F L w) (S 9) (S 10) i else zGro (zPks n K T U S F L w) i) 2778
/-- statuses with other settings -/
def zSw (n : Nat) (K T U S F L : Nat → Int) (w : Nat) (lv gl gw dt x : Int) : Int := zCt (fun a => decide (zSt K T U (zGat n K T U gl gw) (zBl w F L T S) lv dt a = x)) n
def zAw (n : Nat) (K T U S F L : Nat → Int) (w : Nat) (lv : Int) : Int := zCt (fun a => decide (zSt K T U (zGat n K T U (S 3) (S 4)) (zBl w F L T S) lv (S 5) a = 0)) n
