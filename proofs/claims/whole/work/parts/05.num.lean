/-! numbers: an int and a long as what a whole number leaves in them -/
def zI (x : Int) : Int32 := Int32.ofInt x
def zL (x : Int) : Int64 := Int64.ofInt x
abbrev zR (x : Int) : Prop := -2147483648 ≤ x ∧ x ≤ 2147483647
abbrev zR64 (x : Int) : Prop := -9223372036854775808 ≤ x ∧ x ≤ 9223372036854775807
/-- 1 where it holds -/
def zB (c : Prop) [Decidable c] : Int := if c then 1 else 0
theorem zB_t {c : Prop} [Decidable c] (h : c) : zB c = 1 := if_pos h
theorem zB_f {c : Prop} [Decidable c] (h : ¬ c) : zB c = 0 := if_neg h
theorem zB_01 {c : Prop} [Decidable c] : zB c = 0 ∨ zB c = 1 := by
  by_cases h : c
  · exact Or.inr (zB_t h)
  · exact Or.inl (zB_f h)
theorem zB_1 {c : Prop} [Decidable c] : zB c = 1 ↔ c := by
  by_cases h : c
  · rw [zB_t h]; exact ⟨fun _ => h, fun _ => rfl⟩
  · rw [zB_f h]; exact ⟨fun q => absurd q (by decide), fun q => absurd q h⟩
theorem zB_0 {c : Prop} [Decidable c] : zB c = 0 ↔ ¬ c := by
  by_cases h : c
  · rw [zB_t h]; exact ⟨fun q => absurd q (by decide), fun q => absurd h q⟩
  · rw [zB_f h]; exact ⟨fun _ => h, fun _ => rfl⟩
theorem zB_i {c d : Prop} [Decidable c] [Decidable d] (h : c ↔ d) : zB c = zB d := by
  by_cases q : c
  · rw [zB_t q, zB_t (h.mp q)]
  · rw [zB_f q, zB_f (fun r => q (h.mpr r))]
theorem zB_in {c : Prop} [Decidable c] : 0 ≤ zB c ∧ zB c ≤ 1 := by
  rcases (zB_01 : zB c = 0 ∨ zB c = 1) with h | h <;> rw [h] <;> decide
theorem zI_ti {x : Int} (h : zR x) : (zI x).toInt = x := Int32.toInt_ofInt_of_le (by have := h.1; omega) (by have := h.2; omega)
theorem zI_it (x : Int32) : zI x.toInt = x := Int32.ofInt_toInt x
theorem zR_it (x : Int32) : zR x.toInt := ⟨by have := Int32.le_toInt x; omega, by have := Int32.toInt_lt x; omega⟩
theorem zI_of (x : Int32) : ∃ z : Int, zR z ∧ x = zI z := ⟨x.toInt, zR_it x, (zI_it x).symm⟩
theorem zI_add (a b : Int) : zI a + zI b = zI (a + b) := (Int32.ofInt_add a b).symm
theorem zI_sub (a b : Int) : zI a - zI b = zI (a - b) := (Int32.ofInt_sub a b).symm
theorem zI_mul (a b : Int) : zI a * zI b = zI (a * b) := (Int32.ofInt_mul a b).symm
theorem zI_neg (a : Int) : -zI a = zI (-a) := (Int32.ofInt_neg a).symm
theorem zI_lt {a b : Int} (ha : zR a) (hb : zR b) : zI a < zI b ↔ a < b := by rw [Int32.lt_iff_toInt_lt, zI_ti ha, zI_ti hb]
theorem zI_le {a b : Int} (ha : zR a) (hb : zR b) : zI a ≤ zI b ↔ a ≤ b := by rw [Int32.le_iff_toInt_le, zI_ti ha, zI_ti hb]
theorem zI_eq {a b : Int} (ha : zR a) (hb : zR b) : zI a = zI b ↔ a = b := ⟨fun h => by rw [← zI_ti ha, h, zI_ti hb], fun h => by rw [h]⟩
theorem zR_0 : zR 0 := by decide
theorem zI_0 : (0 : Int32) = zI 0 := rfl
theorem zI_n {a : Int} (h : zR a) (h0 : 0 ≤ a) : (zI a).toNatClampNeg = a.toNat := by
  show (zI a).toInt.toNat = a.toNat
  rw [zI_ti h]
theorem zI_in {a : Int} {n : Nat} (h0 : 0 ≤ a) (h1 : a < n) (hn : n ≤ 2147483647) : vp_in (zI a) n := by
  have h : zR a := ⟨by omega, by omega⟩
  intro q
  rcases q with q | q
  · rw [zI_0, zI_lt h zR_0] at q; omega
  · rw [zI_n h h0] at q; omega
theorem zI_div {a b : Int} (ha : zR a) (hb : zR b) (h0 : 0 ≤ a) (h1 : 0 < b) : zI a / zI b = zI (a / b) := by
  have e : a.tdiv b = a / b := Int.tdiv_eq_ediv_of_nonneg h0
  rw [← e]
  exact (Int32.ofInt_tdiv (by exact ha.1) (by exact ha.2) (by exact hb.1) (by exact hb.2)).symm
theorem zI_rem {a b : Int} (ha : zR a) (hb : zR b) (h0 : 0 ≤ a) (h1 : 0 < b) : zI a - zI a / zI b * zI b = zI (a % b) := by
  rw [zI_div ha hb h0 h1, zI_mul, zI_sub]
  congr 1
  have := Int.emod_def a b
  rw [this, Int.mul_comm]
theorem zI_nz {a : Int} (ha : zR a) (h : a ≠ 0) : ¬ zI a = 0 := by rw [zI_0, zI_eq ha zR_0]; exact h
theorem zI_abs {a : Int} (ha : zR a) : (if 0 ≤ zI a then zI a else 0 - zI a) = zI (a.natAbs : Int) := by
  rw [zI_0, zI_sub]
  by_cases h : 0 ≤ a
  · rw [if_pos ((zI_le zR_0 ha).mpr h)]; congr 1; omega
  · rw [if_neg (fun q => h ((zI_le zR_0 ha).mp q))]; congr 1; omega
theorem zI_max {a b : Int} (ha : zR a) (hb : zR b) : (if zI a < zI b then zI b else zI a) = zI (max a b) := by
  by_cases h : a < b
  · rw [if_pos ((zI_lt ha hb).mpr h)]; congr 1; omega
  · rw [if_neg (fun q => h ((zI_lt ha hb).mp q))]; congr 1; omega
theorem zI_min {a b : Int} (ha : zR a) (hb : zR b) : (if zI b < zI a then zI b else zI a) = zI (min a b) := by
  by_cases h : b < a
  · rw [if_pos ((zI_lt hb ha).mpr h)]; congr 1; omega
  · rw [if_neg (fun q => h ((zI_lt hb ha).mp q))]; congr 1; omega
theorem zI_nar {a : Int} (h : a = 0 ∨ a = 1) : vp_nar .boolean (zI a) = zI a := by
  rcases h with rfl | rfl <;> decide
-- longs
theorem zL_ti {x : Int} (h : zR64 x) : (zL x).toInt = x := Int64.toInt_ofInt_of_le (by have := h.1; omega) (by have := h.2; omega)
theorem zL_it (x : Int64) : zL x.toInt = x := Int64.ofInt_toInt x
theorem zL_add (a b : Int) : zL a + zL b = zL (a + b) := (Int64.ofInt_add a b).symm
theorem zL_sub (a b : Int) : zL a - zL b = zL (a - b) := (Int64.ofInt_sub a b).symm
theorem zL_mul (a b : Int) : zL a * zL b = zL (a * b) := (Int64.ofInt_mul a b).symm
theorem zL_lt {a b : Int} (ha : zR64 a) (hb : zR64 b) : zL a < zL b ↔ a < b := by rw [Int64.lt_iff_toInt_lt, zL_ti ha, zL_ti hb]
theorem zL_le {a b : Int} (ha : zR64 a) (hb : zR64 b) : zL a ≤ zL b ↔ a ≤ b := by rw [Int64.le_iff_toInt_le, zL_ti ha, zL_ti hb]
theorem zL_eq {a b : Int} (ha : zR64 a) (hb : zR64 b) : zL a = zL b ↔ a = b := ⟨fun h => by rw [← zL_ti ha, h, zL_ti hb], fun h => by rw [h]⟩
theorem zL_div {a b : Int} (ha : zR64 a) (hb : zR64 b) (h0 : 0 ≤ a) (h1 : 0 < b) : zL a / zL b = zL (a / b) := by
  have e : a.tdiv b = a / b := Int.tdiv_eq_ediv_of_nonneg h0
  rw [← e]
  exact (Int64.ofInt_tdiv (by exact ha.1) (by exact ha.2) (by exact hb.1) (by exact hb.2)).symm
theorem zL_0 : (0 : Int64) = zL 0 := rfl
theorem zL_nz {a : Int} (ha : zR64 a) (h : a ≠ 0) : ¬ zL a = 0 := by rw [zL_0, zL_eq ha (by decide)]; exact h
theorem zL_i {a : Int} (h : zR a) : (zI a).toInt64 = zL a := by
  apply Int64.toInt_inj.mp
  rw [Int32.toInt_toInt64, zI_ti h, zL_ti ⟨by have := h.1; omega, by have := h.2; omega⟩]
theorem zI_l (a : Int) : (zL a).toInt32 = zI a := Int64.toInt32_ofInt
theorem zL_max {a b : Int} (ha : zR64 a) (hb : zR64 b) : (if zL b < zL a then zL a else zL b) = zL (max a b) := by
  by_cases h : b < a
  · rw [if_pos ((zL_lt hb ha).mpr h)]; congr 1; omega
  · rw [if_neg (fun q => h ((zL_lt hb ha).mp q))]; congr 1; omega
theorem zL_min {a b : Int} (ha : zR64 a) (hb : zR64 b) : (if zL b < zL a then zL b else zL a) = zL (min a b) := by
  by_cases h : b < a
  · rw [if_pos ((zL_lt hb ha).mpr h)]; congr 1; omega
  · rw [if_neg (fun q => h ((zL_lt hb ha).mp q))]; congr 1; omega
/-- an array's place -/
def zU (f : Nat → Int) (k : Nat) (x : Int) : Nat → Int := fun j => if j = k then x else f j
theorem zU_s {f : Nat → Int} {k : Nat} {x : Int} : zU f k x k = x := if_pos rfl
theorem zU_n {f : Nat → Int} {k j : Nat} {x : Int} (h : j ≠ k) : zU f k x j = f j := if_neg h
theorem zU_i {f : Nat → Int} {k : Nat} {x : Int} : upd (fun j => zI (f j)) k (zI x) = fun j => zI (zU f k x j) := by
  funext j
  show (if j = k then zI x else zI (f j)) = zI (if j = k then x else f j)
  by_cases h : j = k
  · rw [if_pos h, if_pos h]
  · rw [if_neg h, if_neg h]
theorem zU_l {f : Nat → Int} {k : Nat} {x : Int} : vp_updL (fun j => zL (f j)) k (zL x) = fun j => zL (zU f k x j) := by
  funext j
  show (if j = k then zL x else zL (f j)) = zL (if j = k then x else f j)
  by_cases h : j = k
  · rw [if_pos h, if_pos h]
  · rw [if_neg h, if_neg h]
/-- a part laid over another -/
def zCpy (f g : Nat → Int) (sp dp n : Nat) : Nat → Int := fun k => if dp ≤ k ∧ k < dp + n then f (sp + (k - dp)) else g k
theorem zCpy_i {f g : Nat → Int} {sp dp n : Nat} : va_cpy (fun j => zI (f j)) (fun j => zI (g j)) sp dp n = fun j => zI (zCpy f g sp dp n j) := by
  funext j
  show (if dp ≤ j ∧ j < dp + n then zI (f (sp + (j - dp))) else zI (g j)) = zI (if dp ≤ j ∧ j < dp + n then f (sp + (j - dp)) else g j)
  by_cases h : dp ≤ j ∧ j < dp + n
  · rw [if_pos h, if_pos h]
  · rw [if_neg h, if_neg h]
