/-! what a call's arguments must be -/
def zOkSet (x v : Int) : Prop := 0 ≤ x ∧ x ≤ 10 ∧ zLow x.toNat ≤ v ∧ v ≤ zHigh x.toNat
theorem zTab_in : ∀ k : Nat, k < 11 → (0 ≤ zLow k ∧ zLow k ≤ 1) ∧ 10 ≤ zHigh k ∧ zHigh k ≤ 100000 := by decide
def zOkB (x v : Int) : Prop := (0 ≤ x ∧ x ≤ 359) ∧ 0 ≤ v ∧ v ≤ 359
def zOkR (n : Nat) (T : Nat → Int) (x t v : Int) : Prop := (0 ≤ x ∧ x ≤ 2) ∧ (zLast n T ≤ t ∧ t ≤ 1000000) ∧ -2000 ≤ v ∧ v ≤ 2000
def zRg (x y : Int) : Prop := 0 ≤ x ∧ x ≤ y ∧ y ≤ 1000000
theorem zLast_in {n : Nat} {K T U : Nat → Int} (hg : zLog n K T U) : 0 ≤ zLast n T ∧ zLast n T ≤ 1000000 := by
  obtain ⟨hn, hK, hT, hU, hM⟩ := hg
  unfold zLast
  split
  · exact hT (n - 1) (by omega)
  · omega
/-- a pulse's answers -/
def zPu (n : Nat) (K T U S F L : Nat → Int) (w : Nat) (v : Int) (k : Nat) : Int := zAp K T U S (zCh n K U S) (zSN n K T U S F L w) (zBo (zSN n K T U S F L w) T (S 7)) v k
theorem zPu_lk {n : Nat} {K T U S F L : Nat → Int} {w : Nat} {st ch bo : Nat → Int} {v : Int} {k : Nat} (h : zLk n K T U S F L w st ch bo) (hk : k < n) : zAp K T U S ch st bo v k = zPu n K T U S F L w v k := by
  obtain ⟨h1, h2, h3⟩ := h k hk
  unfold zPu zAp
  rw [h1, h2, h3]
def zStt (n : Nat) (K T U S F L : Nat → Int) (w : Nat) (x : Int) : Int := zCt (fun a => decide (zSN n K T U S F L w a = x)) n
/-- accepted, of a bin, of a class -/
def zCo (st ch T S : Nat → Int) (x v : Int) (a : Nat) : Bool := decide (st a = 0 ∧ (x = -1 ∨ zPh T S a / 10 = x) ∧ (v = -1 ∨ min (ch a / S 6) 15 = v))
def zCount (n : Nat) (K T U S F L : Nat → Int) (w : Nat) (x v : Int) : Int := zCt (zCo (zSN n K T U S F L w) (zCh n K U S) T S x v) n
/-- the bins of a range -/
def zBi (n : Nat) (K T U S F L : Nat → Int) (w : Nat) (x y : Int) (b : Nat) : Int := zCt (fun a => zAr (zSN n K T U S F L w) T x y a && decide (zPh T S a / 10 = (b : Int))) n
def zTo (n : Nat) (K T U S F L : Nat → Int) (w : Nat) (x y : Int) : Int := zCt (zAr (zSN n K T U S F L w) T x y) n
def zBest (f : Nat → Int) : Nat → Nat
  | 0 => 0
  | i + 1 => if f (zBest f i) < f i then i else zBest f i
theorem zBest_lt {f : Nat → Int} : ∀ {i : Nat}, 0 < i → zBest f i < i
  | 0, h => absurd h (by omega)
  | i + 1, _ => by
    simp only [zBest]
    split
    · omega
    · by_cases h : 0 < i
      · have := zBest_lt (f := f) h; omega
      · have : i = 0 := by omega
        subst this; simp [zBest]
theorem zBest_cg {f g : Nat → Int} : ∀ {i : Nat}, (∀ b, b < i → f b = g b) → zBest f i = zBest g i
  | 0, _ => rfl
  | i + 1, h => by
    have ih := zBest_cg (f := f) (g := g) (i := i) (fun b hb => h b (by omega))
    simp only [zBest]
    rw [ih, h i (by omega)]
    by_cases hi : 0 < i
    · rw [h (zBest g i) (by have := zBest_lt (f := g) hi; omega)]
    · have : i = 0 := by omega
      subst this
      show (if f 0 < g 0 then 0 else 0) = (if g 0 < g 0 then 0 else 0)
      split <;> split <;> rfl
def zFull (n : Nat) (K T U S F L : Nat → Int) (w : Nat) (x y : Int) : Int := if zTo n K T U S F L w x y = 0 then -1 else (zBest (zBi n K T U S F L w x y) 36 : Int)
theorem zAr_cg {st st2 T : Nat → Int} {x y : Int} {n : Nat} (h : ∀ j, j < n → st j = st2 j) : ∀ j, j < n → zAr st T x y j = zAr st2 T x y j := fun j hj => by unfold zAr; rw [h j hj]
theorem zTo_lk {n : Nat} {K T U S F L : Nat → Int} {w : Nat} {st : Nat → Int} {x y : Int} (h : ∀ j, j < n → st j = zSN n K T U S F L w j) : zCt (zAr st T x y) n = zTo n K T U S F L w x y := zCt_cg (zAr_cg h)
theorem zBi_lk {n : Nat} {K T U S F L : Nat → Int} {w : Nat} {st : Nat → Int} {x y : Int} (h : ∀ j, j < n → st j = zSN n K T U S F L w j) (b : Nat) : zCt (fun a => zAr st T x y a && decide (zPh T S a / 10 = (b : Int))) n = zBi n K T U S F L w x y b := zCt_cg (fun j hj => by rw [zAr_cg h j hj])
def zFeat (n : Nat) (K T U S F L : Nat → Int) (w : Nat) (h x y v : Int) : Int := zFe (zSN n K T U S F L w) T S U (zCh n K U S) x y h v n
theorem zFeat_lk {n : Nat} {K T U S F L : Nat → Int} {w : Nat} {st ch bo : Nat → Int} {h x y v : Int} (hl : zLk n K T U S F L w st ch bo) : zFe st T S U ch x y h v n = zFeat n K T U S F L w h x y v := by
  have e : ∀ j, j < n → zAh st T S x y h j = zAh (zSN n K T U S F L w) T S x y h j := fun j hj => by unfold zAh; rw [zAr_cg (fun j hj => (hl j hj).1) j hj]
  have ec : ∀ j, j < n → zAh st T S x y h j = true → ch j = zCh n K U S j := fun j hj _ => (hl j hj).2.1
  unfold zFeat zFe
  rw [zCt_cg e, zMx_cg e ec, zSm_cg e ec, zMi_cg (f2 := zPh T S) e (fun _ _ _ => rfl), zMx_cg (f2 := zPh T S) e (fun _ _ _ => rfl), zCt_cg (P := fun a => zAh st T S x y h a && decide (0 ≤ U a)) (P2 := fun a => zAh (zSN n K T U S F L w) T S x y h a && decide (0 ≤ U a)) (fun j hj => by rw [e j hj])]
def zBst (n : Nat) (K T U S F L : Nat → Int) (w : Nat) (b v : Int) : Int := zBu (zBo (zSN n K T U S F L w) T (S 7)) T (zCh n K U S) b v n
theorem zBst_lk {n : Nat} {K T U S F L : Nat → Int} {w : Nat} {st ch bo : Nat → Int} {b v : Int} (hl : zLk n K T U S F L w st ch bo) : zBu bo T ch b v n = zBst n K T U S F L w b v := by
  have e : ∀ j, j < n → (fun a => decide (bo a = b)) j = (fun a => decide (zBo (zSN n K T U S F L w) T (S 7) a = b)) j := fun j hj => by show decide _ = decide _; rw [(hl j hj).2.2]
  have ec : ∀ j, j < n → (fun a => decide (bo a = b)) j = true → ch j = zCh n K U S j := fun j hj _ => (hl j hj).2.1
  unfold zBst zBu
  rw [zCt_cg e, zFs_cg (f2 := T) e (fun _ _ _ => rfl), zLs_cg (f2 := T) e (fun _ _ _ => rfl), zSm_cg e ec]
theorem zCount_lk {n : Nat} {K T U S F L : Nat → Int} {w : Nat} {st ch bo : Nat → Int} {x v : Int} (hl : zLk n K T U S F L w st ch bo) : zCt (zCo st ch T S x v) n = zCount n K T U S F L w x v := zCt_cg (fun j hj => by unfold zCo; rw [(hl j hj).1, (hl j hj).2.1])
theorem zStt_lk {n : Nat} {K T U S F L : Nat → Int} {w : Nat} {st : Nat → Int} {x : Int} (h : ∀ j, j < n → st j = zSN n K T U S F L w j) : zCt (fun a => decide (st a = x)) n = zStt n K T U S F L w x := zCt_cg (fun j hj => by rw [h j hj])
def zBN (n : Nat) (K T U S F L : Nat → Int) (w : Nat) : Int := zBn (zSN n K T U S F L w) T (S 7) n
