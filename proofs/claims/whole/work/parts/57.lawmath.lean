/-! the law's invariant, and what keeps it -/
/-- a state (settings, windows' first and last, kinds, times, amplitudes, windows, pulses) against a row of the reference -/
def zO8 (NW : Nat → Int) (C : zS8) : Prop := zRow NW C.2.2.2.2.2.2.2 C.2.2.2.1 C.2.2.2.2.1 C.2.2.2.2.2.1 C.1 C.2.1 C.2.2.1 C.2.2.2.2.2.2.1 ∧ zLog C.2.2.2.2.2.2.2 C.2.2.2.1 C.2.2.2.2.1 C.2.2.2.2.2.1 ∧ zSet C.1 ∧ zWin C.2.2.2.2.2.2.1 C.2.1 C.2.2.1
def zInv (X : zS8) (mm : Nat) (CC : Nat → zS8) (NW PA : Nat → Int) (len : Nat) (tb : Nat → Int) : Prop :=
  zO8 NW X ∧ mm ≤ 4 ∧ (∀ j, j < mm → zO8 (fun k => PA (771 * j + k)) (CC j)) ∧ len ≤ 150 ∧ ∀ j, j < len → 0 ≤ tb j ∧ tb j ≤ 127
theorem zO8_cg {NW P : Nat → Int} {C : zS8} (h : ∀ k, k < 771 → P k = NW k) (hN : zO8 NW C) : zO8 P C := ⟨zRow_cg h hN.2.1.1 hN.2.2.2.1 hN.1, hN.2⟩
theorem li_save {NW PA P : Nat → Int} {X : zS8} {CC : Nat → zS8} {mm : Nat} (hX : zO8 NW X) (hm : mm ≤ 4) (hS : ∀ j, j < mm → zO8 (fun k => PA (771 * j + k)) (CC j)) (hv : zSv NW PA mm P) : zMs mm ≤ 4 ∧ ∀ j, j < zMs mm → zO8 (fun k => P (771 * j + k)) (zPush mm CC X j) := by
  unfold zSv at hv
  unfold zMs zPush
  by_cases h4 : mm < 4
  · rw [if_pos h4] at hv
    simp only [if_pos h4]
    refine ⟨by omega, fun j hj => ?_⟩
    unfold va_up
    by_cases e : j = mm
    · rw [if_pos e, e]
      exact zO8_cg (fun k hk => hv.2 k hk) hX
    · rw [if_neg e]
      exact zO8_cg (fun k hk => hv.1 (771 * j + k) (by omega)) (hS j (by omega))
  · rw [if_neg h4] at hv
    simp only [if_neg h4]
    refine ⟨by omega, fun j hj => ?_⟩
    unfold va_up
    by_cases e : j = 3
    · rw [if_pos e, e]
      exact zO8_cg (fun k hk => hv.2 k hk) hX
    · rw [if_neg e]
      refine zO8_cg (fun k hk => ?_) (hS (j + 1) (by omega))
      show P (771 * j + k) = PA (771 * (j + 1) + k)
      rw [hv.1 (771 * j + k) (by omega)]
      congr 1
      omega
/-- a change that saves: the new state X2 against the new row N2 -/
theorem li_ch {X X2 : zS8} {mm len : Nat} {CC : Nat → zS8} {NW PA N2 P2 tb : Nat → Int} (hI : zInv X mm CC NW PA len tb) (h2 : zO8 N2 X2) (hv : zSv NW PA mm P2) : zInv X2 (zMs mm) (zPush mm CC X) N2 P2 len tb := by
  obtain ⟨h1, hm, hS, hl, hb⟩ := hI
  obtain ⟨a, b⟩ := li_save h1 hm hS hv
  exact ⟨h2, a, b, hl, hb⟩
theorem zLog_cg {n : Nat} {K T U K2 T2 U2 : Nat → Int} (h : ∀ j, j < n → K2 j = K j ∧ T2 j = T j ∧ U2 j = U j) (hg : zLog n K T U) : zLog n K2 T2 U2 := by
  obtain ⟨h1, h2, h3, h4, h5⟩ := hg
  refine ⟨h1, fun j hj => ?_, fun j hj => ?_, fun j hj => ?_, fun i j hi hj => ?_⟩
  · rw [(h j hj).1]; exact h2 j hj
  · rw [(h j hj).2.1]; exact h3 j hj
  · rw [(h j hj).2.2]; exact h4 j hj
  · rw [(h j hj).2.1, (h i (by omega)).2.1]; exact h5 i j hi hj
theorem zRow_lg {NW : Nat → Int} {n : Nat} {K T U K2 T2 U2 S F L : Nat → Int} {w : Nat} (h : ∀ j, j < n → K2 j = K j ∧ T2 j = T j ∧ U2 j = U j) (hN : zRow NW n K T U S F L w) : zRow NW n K2 T2 U2 S F L w := by
  obtain ⟨a, b, c, d, e⟩ := hN
  refine ⟨a, b, c, d, fun k hk => ?_⟩
  rw [(h k hk).1, (h k hk).2.1, (h k hk).2.2]
  exact e k hk
theorem zLog_sh {n g : Nat} {K T U : Nat → Int} (hg : zLog n K T U) (hn : g ≤ n) : zLog (n - g) (fun j => K (j + g)) (fun j => T (j + g)) (fun j => U (j + g)) := by
  obtain ⟨h1, h2, h3, h4, h5⟩ := hg
  exact ⟨by omega, fun j hj => h2 (j + g) (by omega), fun j hj => h3 (j + g) (by omega), fun j hj => h4 (j + g) (by omega), fun i j hi hj => h5 (i + g) (j + g) (by omega) (by omega)⟩
theorem zSet_up {S : Nat → Int} {x v : Int} (hs : zSet S) (h : zOkSet x v) : zSet (zU S x.toNat v) := by
  obtain ⟨h0, h1, h2, h3⟩ := h
  obtain ⟨k, rfl⟩ : ∃ k : Nat, x = (k : Int) := ⟨x.toNat, by omega⟩
  rw [Int.toNat_natCast] at h2 h3 ⊢
  unfold zSet at hs ⊢
  unfold zU
  rcases (show k = 0 ∨ k = 1 ∨ k = 2 ∨ k = 3 ∨ k = 4 ∨ k = 5 ∨ k = 6 ∨ k = 7 ∨ k = 8 ∨ k = 9 ∨ k = 10 by omega) with rfl | rfl | rfl | rfl | rfl | rfl | rfl | rfl | rfl | rfl | rfl <;> (simp only [zLow, zHigh] at h2 h3; simp at h2 h3; simp; omega)
theorem zWin_up {w : Nat} {F L : Nat → Int} {x v : Int} (hw : zWin w F L) (h4 : w < 4) (h : zOkB x v) : zWin (w + 1) (zU F w x) (zU L w v) := by
  obtain ⟨h1, h2, h3⟩ := hw
  obtain ⟨ha, hb⟩ := h
  refine ⟨by omega, fun j hj => ?_, fun j hj => ?_⟩
  · unfold zU
    by_cases e : j = w
    · rw [if_pos e]; exact ha
    · rw [if_neg e]; exact h2 j (by omega)
  · unfold zU
    by_cases e : j = w
    · rw [if_pos e]; exact hb
    · rw [if_neg e]; exact h3 j (by omega)
section LI
variable {mm len n w : Nat} {CC : Nat → zS8} {NW PA N2 P2 tb S F L K T U K2 T2 U2 : Nat → Int} {x v t : Int}
theorem li_set (hI : zInv (S, F, L, K, T, U, w, n) mm CC NW PA len tb) (ok : zOkSet x v) (hN : zRow N2 n K T U (zU S x.toNat v) F L w) (hv : zSv NW PA mm P2) : zInv (zU S x.toNat v, F, L, K, T, U, w, n) (zMs mm) (zPush mm CC (S, F, L, K, T, U, w, n)) N2 P2 len tb :=
  li_ch hI ⟨hN, hI.1.2.1, zSet_up hI.1.2.2.1 ok, hI.1.2.2.2⟩ hv
theorem li_block (hI : zInv (S, F, L, K, T, U, w, n) mm CC NW PA len tb) (ok : zOkB x v) (hw4 : w < 4) (hN : zRow N2 n K T U S (zU F w x) (zU L w v) (w + 1)) (hv : zSv NW PA mm P2) : zInv (S, zU F w x, zU L w v, K, T, U, w + 1, n) (zMs mm) (zPush mm CC (S, F, L, K, T, U, w, n)) N2 P2 len tb :=
  li_ch hI ⟨hN, hI.1.2.1, hI.1.2.2.1, zWin_up hI.1.2.2.2 hw4 ok⟩ hv
theorem li_unblock (hI : zInv (S, F, L, K, T, U, w, n) mm CC NW PA len tb) (hN : zRow N2 n K T U S F L 0) (hv : zSv NW PA mm P2) : zInv (S, F, L, K, T, U, 0, n) (zMs mm) (zPush mm CC (S, F, L, K, T, U, w, n)) N2 P2 len tb :=
  li_ch hI ⟨hN, hI.1.2.1, hI.1.2.2.1, ⟨Nat.zero_le _, fun j hj => absurd hj (Nat.not_lt_zero j), fun j hj => absurd hj (Nat.not_lt_zero j)⟩⟩ hv
theorem li_record (hI : zInv (S, F, L, K, T, U, w, n) mm CC NW PA len tb) (ok : zOkR n T x t v) (hn : n < 250) (hN : zRow N2 (n + 1) (zU K n x) (zU T n t) (zU U n v) S F L w) (hv : zSv NW PA mm P2) : zInv (S, F, L, zU K n x, zU T n t, zU U n v, w, n + 1) (zMs mm) (zPush mm CC (S, F, L, K, T, U, w, n)) N2 P2 len tb :=
  li_ch hI ⟨hN, zLog_add hI.1.2.1 hn ok.1 ok.2.1 ok.2.2, hI.1.2.2.1, hI.1.2.2.2⟩ hv
theorem li_forget (hI : zInv (S, F, L, K, T, U, w, n) mm CC NW PA len tb) (hK : ∀ j, j < n - zGone T t n → K2 j = K (j + zGone T t n) ∧ T2 j = T (j + zGone T t n) ∧ U2 j = U (j + zGone T t n)) (hN : zRow N2 (n - zGone T t n) (fun j => K (j + zGone T t n)) (fun j => T (j + zGone T t n)) (fun j => U (j + zGone T t n)) S F L w) (hv : zSv NW PA mm P2) : zInv (S, F, L, K2, T2, U2, w, n - zGone T t n) (zMs mm) (zPush mm CC (S, F, L, K, T, U, w, n)) N2 P2 len tb :=
  li_ch hI ⟨zRow_lg hK hN, zLog_cg hK (zLog_sh hI.1.2.1 zGone_le), hI.1.2.2.1, hI.1.2.2.2⟩ hv
theorem li_append (hI : zInv (S, F, L, K, T, U, w, n) mm CC NW PA len tb) (ok : 0 ≤ v ∧ v ≤ 127) (hl : len < 150) : zInv (S, F, L, K, T, U, w, n) mm CC NW PA (len + 1) (zU tb len v) := by
  obtain ⟨h1, hm, hS, hl2, hb⟩ := hI
  refine ⟨h1, hm, hS, by omega, fun j hj => ?_⟩
  unfold zU
  by_cases e : j = len
  · rw [if_pos e]; exact ok
  · rw [if_neg e]; exact hb j (by omega)
theorem li_clear (hI : zInv (S, F, L, K, T, U, w, n) mm CC NW PA len tb) : zInv (S, F, L, K, T, U, w, n) mm CC NW PA 0 tb := ⟨hI.1, hI.2.1, hI.2.2.1, by omega, fun j hj => absurd hj (by omega)⟩
theorem li_undo (hI : zInv (S, F, L, K, T, U, w, n) mm CC NW PA len tb) (h1 : 1 ≤ mm) (hN : ∀ k, k < 771 → N2 k = PA (771 * (mm - 1) + k)) : zInv ((CC (mm - 1)).1, (CC (mm - 1)).2.1, (CC (mm - 1)).2.2.1, (CC (mm - 1)).2.2.2.1, (CC (mm - 1)).2.2.2.2.1, (CC (mm - 1)).2.2.2.2.2.1, (CC (mm - 1)).2.2.2.2.2.2.1, (CC (mm - 1)).2.2.2.2.2.2.2) (mm - 1) CC N2 PA len tb := by
  obtain ⟨ha, hm, hS, hb⟩ := hI
  exact ⟨zO8_cg hN (hS (mm - 1) (by omega)), by omega, fun j hj => hS j (by omega), hb⟩
theorem zApp_one {N : Nat} {K3 T3 U3 : Nat → Int} (h : zApp tb len n K T U N K2 T2 U2) (h2 : zApp tb len n K T U N K3 T3 U3) : ∀ j, j < n + N → K2 j = K3 j ∧ T2 j = T3 j ∧ U2 j = U3 j := fun j hj => by
  by_cases e : j < n
  · rw [(h.1 j e).1, (h.1 j e).2.1, (h.1 j e).2.2, (h2.1 j e).1, (h2.1 j e).2.1, (h2.1 j e).2.2]; exact ⟨rfl, rfl, rfl⟩
  · obtain ⟨i, rfl⟩ : ∃ i, j = n + i := ⟨j - n, by omega⟩
    have a := h.2 i (by omega)
    have b := h2.2 i (by omega)
    rw [a.1, a.2.1, a.2.2, b.1, b.2.1, b.2.2]; exact ⟨rfl, rfl, rfl⟩
/-- both have read the text: the same answer, and the invariant holds -/
theorem li_parse {r r2 : Int} {C2 : Nat → zS8} {m2 n2 s2 : Nat} (hI : zInv (S, F, L, K, T, U, w, n) mm CC NW PA len tb) (h : zPar tb len n K T U CC mm (S, F, L, K, T, U, w, n) r C2 m2 K2 T2 U2 n2) (h2 : zParM tb len n K T U S F L w NW PA mm r2 N2 P2 s2) : r2 = r ∧ s2 = m2 ∧ zInv (S, F, L, K2, T2, U2, w, n2) m2 C2 N2 P2 len tb := by
  obtain ⟨N, er, ht, h⟩ := h
  obtain ⟨N', er', ht2, h2⟩ := h2
  obtain ⟨e1, e2⟩ := zTxt_one ht ht2
  subst e1; subst e2
  rcases h with ⟨a1, a2, rfl, rfl, rfl, rfl, rfl, rfl⟩ | ⟨a1, a2, a3, rfl, rfl, rfl, rfl, rfl, rfl⟩ | ⟨a1, a2, a3, rfl, rfl, rfl, a4, a5⟩ <;> rcases h2 with ⟨b1, b2, rfl, rfl, rfl⟩ | ⟨b1, b2, b3, b4, rfl, rfl⟩ | ⟨b1, b2, b3, b4, rfl, K3, T3, U3, b5, b6, b7⟩
  · exact ⟨b2.trans a2.symm, rfl, hI⟩
  · exact absurd b1 a1
  · exact absurd b1 a1
  · exact absurd a1 b1
  · exact ⟨b3.trans a3.symm, rfl, ⟨b4, hI.1.2⟩, hI.2⟩
  · exact absurd b2 a2
  · exact absurd a1 b1
  · exact absurd a2 b2
  · exact ⟨b3.trans a3.symm, rfl, li_ch hI ⟨zRow_lg (zApp_one a4 b5) b7, a5, hI.1.2.2.1, hI.1.2.2.2⟩ b4⟩
theorem li_new (hS : ∀ j, j < 11 → S j = zInit j) : zInv (S, F, L, K, T, U, 0, 0) 0 CC (zU (zU (zU (zU (zU (zU (zU (zU (zU (zU (fun _ => 0) 1 100) 2 20) 3 200) 4 3) 5 2) 6 10) 7 20) 8 1) 9 2) 10 500) PA 0 tb := by
  have h0 := hS 0 (by omega)
  have h1 := hS 1 (by omega)
  have h2 := hS 2 (by omega)
  have h3 := hS 3 (by omega)
  have h4 := hS 4 (by omega)
  have h5 := hS 5 (by omega)
  have h6 := hS 6 (by omega)
  have h7 := hS 7 (by omega)
  have h8 := hS 8 (by omega)
  have h9 := hS 9 (by omega)
  have h10 := hS 10 (by omega)
  simp [zInit] at h0 h1 h2 h3 h4 h5 h6 h7 h8 h9 h10
  refine ⟨⟨⟨fun j hj => ?_, ?_, fun j hj => absurd hj (Nat.not_lt_zero _), ?_, fun k hk => absurd hk (Nat.not_lt_zero _)⟩, ⟨Nat.zero_le _, fun j hj => absurd hj (Nat.not_lt_zero _), fun j hj => absurd hj (Nat.not_lt_zero _), fun j hj => absurd hj (Nat.not_lt_zero _), fun i j _ hj => absurd hj (Nat.not_lt_zero _)⟩, ?_, ⟨Nat.zero_le _, fun j hj => absurd hj (Nat.not_lt_zero _), fun j hj => absurd hj (Nat.not_lt_zero _)⟩⟩, Nat.zero_le _, fun j hj => absurd hj (Nat.not_lt_zero _), Nat.zero_le _, fun j hj => absurd hj (Nat.not_lt_zero _)⟩
  · show _ = S j
    rw [hS j hj]
    rcases (show j = 0 ∨ j = 1 ∨ j = 2 ∨ j = 3 ∨ j = 4 ∨ j = 5 ∨ j = 6 ∨ j = 7 ∨ j = 8 ∨ j = 9 ∨ j = 10 by omega) with rfl | rfl | rfl | rfl | rfl | rfl | rfl | rfl | rfl | rfl | rfl <;> rfl
  · rfl
  · rfl
  · show zSet S
    unfold zSet
    omega
end LI
section ZL
variable {p : Program} {l : Launch} {e : Env} {R : Room} {s : State} {m : MethodId} {args : Array Value} {below : List Frame} {meth : Method} {c : Code} {A : Nat → Prop} {D : zG} {Q : State → Prop} {nL cs sl : Nat}
variable {cc : ByteArray} {own : String} {ws : va_W} {ls : List (Nat × Value)} {st : List Value} {pc : Nat}
/-- the same number on both sides -/
theorem zz_icmp_eqs (hC : ZC p s m args meth c A D nL cc own) {a : Int} {off : Int} (tgt : Nat) (hdg : decode cc pc = .ok (.if_icmp .eq off, 3)) (ht : (pc : Int) + off = (tgt : Int)) (kt : Z p l e R s m args below meth c A D Q nL cs sl ws ls st tgt) : Z p l e R s m args below meth c A D Q nL cs sl ws ls (.int (zI a) :: .int (zI a) :: st) pc := by
  have e : zI a = zI (zWr a) := (zI_it (zI a)).symm
  rw [e]
  exact zz_icmp_eq hC tgt hdg ht ⟨zR_it _, zR_it _⟩ (fun _ => kt) (fun h => absurd rfl h)
def zWl (a : Int) : Int := (zL a).toInt
theorem zz_lcmp_eqs (hC : ZC p s m args meth c A D nL cc own) {a : Int} {off : Int} (tgt : Nat) (hdg : decode cc pc = .ok (.lcmp, 1)) (hdg2 : decode cc (pc + 1) = .ok (.ifCond .eq off, 3)) (ht : ((pc + 1 : Nat) : Int) + off = (tgt : Int)) (kt : Z p l e R s m args below meth c A D Q nL cs sl ws ls st tgt) : Z p l e R s m args below meth c A D Q nL cs sl ws ls (.long (zL a) :: .long (zL a) :: st) pc := by
  have e : zL a = zL (zWl a) := (Int64.ofInt_toInt (zL a)).symm
  have hr : zR64 (zWl a) := ⟨by have := Int64.le_toInt (zL a); unfold zWl; omega, by have := Int64.toInt_lt (zL a); unfold zWl; omega⟩
  rw [e]
  exact zz_lcmp_eq hC tgt hdg hdg2 ht ⟨hr, hr⟩ (fun _ => kt) (fun h => absurd rfl h)
end ZL
