set_option maxHeartbeats 4000000 in
set_option maxRecDepth 100000 in
theorem c_X2_aboutPulse (l : Launch) (D : zG) (r0 : Nat) (r1 : Nat) (r2 : Nat) (r3 : Nat) (r4 : Nat) (g : Nat → Int) (st : Nat → Int) (ch : Nat → Int) (bo : Nat → Int) (bn : Int) (h0 : Nat) (h1 : Nat) (h2 : Nat) (h3 : Nat) (h4 : Nat) (h5 : Nat) (h6 : Nat) (S : Nat → Int) (F : Nat → Int) (L : Nat → Int) (K : Nat → Int) (T : Nat → Int) (U : Nat → Int) (w : Nat) (n : Nat) (x : Int) (k : Nat) (hg : zLog n K T U) (hs : zSet S) (hk : k < n) (hx : -2147483648 ≤ x ∧ x ≤ 2147483647) : CI (S := Unit) l yX2_aboutPulse cX2_aboutPulse 3 ((some .int)) ({ frames := 1, cells := 0, slots := 0, locals := 21 } : Room) D [.ref r0, .int (zI ((k : Nat) : Int)), .int (zI x)] [(r0, .inr (2, [.ref h0, .ref r1, .ref r2, .ref r3, .ref r4, .int (zI bn)])), (r1, bA D 250 g), (r2, iA D 250 st), (r3, lA D 250 ch), (r4, iA D 250 bo), (h0, .inr (3, [.ref h1, .ref h2, .ref h3, .ref h4, .ref h5, .ref h6, .int (zI ((w : Nat) : Int)), .int (zI ((n : Nat) : Int))])), (h1, iA D 11 S), (h2, iA D 4 F), (h3, iA D 4 L), (h4, iA D 250 K), (h5, iA D 250 T), (h6, iA D 250 U)] (fun _ => True) (fun _ => (zAp K T U S ch st bo x k)) (fun _ => [(r0, .inr (2, [.ref h0, .ref r1, .ref r2, .ref r3, .ref r4, .int (zI bn)])), (r1, bA D 250 g), (r2, iA D 250 st), (r3, lA D 250 ch), (r4, iA D 250 bo), (h0, .inr (3, [.ref h1, .ref h2, .ref h3, .ref h4, .ref h5, .ref h6, .int (zI ((w : Nat) : Int)), .int (zI ((n : Nat) : Int))])), (h1, iA D 11 S), (h2, iA D 4 F), (h3, iA D 4 L), (h4, iA D 250 K), (h5, iA D 250 T), (h6, iA D 250 U)]) := by
  refine CI_of (by decide) (Nat.le_of_ble_eq_true rfl) ?_
  intro p e s m args below meth cd A Q hQ hC hr hnm
  have hC : ZC p s m args meth cd A D 3 cX2_aboutPulse RX2 := hC
  have hg0 := hg
  obtain ⟨hn, hK, hT, hU, hM⟩ := hg0
  show Z p l e ({ frames := 1, cells := 0, slots := 0, locals := 21 } : Room) s m args below meth cd A D Q 3 0 0 [(r0, .inr (2, [.ref h0, .ref r1, .ref r2, .ref r3, .ref r4, .int (zI bn)])), (r1, bA D 250 g), (r2, iA D 250 st), (r3, lA D 250 ch), (r4, iA D 250 bo), (h0, .inr (3, [.ref h1, .ref h2, .ref h3, .ref h4, .ref h5, .ref h6, .int (zI ((w : Nat) : Int)), .int (zI ((n : Nat) : Int))])), (h1, iA D 11 S), (h2, iA D 4 F), (h3, iA D 4 L), (h4, iA D 250 K), (h5, iA D 250 T), (h6, iA D 250 U)] [(0, .ref r0), (1, .int (zI ((k : Nat) : Int))), (2, .int (zI x))] [] 0
  refine zz_iload_n hC 2 (dk DX2_aboutPulse_0k 0 rfl) rfl rfl ?_
  rcases (show x = 0 ∨ x = 1 ∨ x = 2 ∨ x = 3 ∨ x = 4 ∨ x = 5 ∨ (x < 0 ∨ 5 < x) by omega) with sw1 | sw1 | sw1 | sw1 | sw1 | sw1 | sw1
  · refine zz_tabIn hC 40 (dk DX2_aboutPulse_0k 1 rfl) 0 rfl sw1 rfl (by decide) ?_
    refine zz_aload_n hC 0 (dk DX2_aboutPulse_0k 2 rfl) rfl rfl ?_
    refine zz_get hC F_X2_12 0 rfl rfl (dk DX2_aboutPulse_0k 3 rfl) ?_
    refine zz_getN hC F_X2_67 5 rfl rfl (dk DX2_aboutPulse_0k 4 rfl) ?_
    refine zz_iload_n hC 1 (dk DX2_aboutPulse_0k 5 rfl) rfl rfl ?_
    refine zz_iald hC k 9 rfl rfl (by omega) (dk DX2_aboutPulse_0k 6 rfl) ?_
    exact zz_iret hC hQ hr () trivial (by unfold zAp; rw [if_pos (by omega)]) [0, 1, 2, 3, 4, 5, 6, 7, 8, 9, 10, 11] rfl rfl ⟨Nat.le_refl _, Nat.le_refl _⟩ (dk DX2_aboutPulse_0k 7 rfl)
  · refine zz_tabIn hC 50 (dk DX2_aboutPulse_0k 1 rfl) 1 rfl sw1 rfl (by decide) ?_
    refine zz_aload_n hC 0 (dk DX2_aboutPulse_0k 8 rfl) rfl rfl ?_
    refine zz_get hC F_X2_12 0 rfl rfl (dk DX2_aboutPulse_0k 9 rfl) ?_
    refine zz_getN hC F_X2_64 5 rfl rfl (dk DX2_aboutPulse_0k 10 rfl) ?_
    refine zz_iload_n hC 1 (dk DX2_aboutPulse_0k 11 rfl) rfl rfl ?_
    refine zz_iald hC k 10 rfl rfl (by omega) (dk DX2_aboutPulse_0k 12 rfl) ?_
    exact zz_iret hC hQ hr () trivial (by unfold zAp; rw [if_neg (by omega), if_pos (by omega)]) [0, 1, 2, 3, 4, 5, 6, 7, 8, 9, 10, 11] rfl rfl ⟨Nat.le_refl _, Nat.le_refl _⟩ (dk DX2_aboutPulse_0k 13 rfl)
  · refine zz_tabIn hC 60 (dk DX2_aboutPulse_0k 1 rfl) 2 rfl sw1 rfl (by decide) ?_
    refine zz_aload_n hC 0 (dk DX2_aboutPulse_0k 14 rfl) rfl rfl ?_
    refine zz_get hC F_X2_12 0 rfl rfl (dk DX2_aboutPulse_0k 15 rfl) ?_
    refine zz_getN hC F_X2_85 5 rfl rfl (dk DX2_aboutPulse_0k 16 rfl) ?_
    refine zz_iload_n hC 1 (dk DX2_aboutPulse_0k 17 rfl) rfl rfl ?_
    refine zz_iald hC k 11 rfl rfl (by omega) (dk DX2_aboutPulse_0k 18 rfl) ?_
    exact zz_iret hC hQ hr () trivial (by unfold zAp; rw [if_neg (by omega), if_neg (by omega), if_pos (by omega)]) [0, 1, 2, 3, 4, 5, 6, 7, 8, 9, 10, 11] rfl rfl ⟨Nat.le_refl _, Nat.le_refl _⟩ (dk DX2_aboutPulse_0k 19 rfl)
  · refine zz_tabIn hC 70 (dk DX2_aboutPulse_0k 1 rfl) 3 rfl sw1 rfl (by decide) ?_
    refine zz_aload_n hC 0 (dk DX2_aboutPulse_0k 20 rfl) rfl rfl ?_
    refine zz_get hC F_X2_12 0 rfl rfl (dk DX2_aboutPulse_0k 21 rfl) ?_
    refine zz_iload_n hC 1 (dk DX2_aboutPulse_0k 22 rfl) rfl rfl ?_
    refine zz_pureNi hC (c_X3_phase l D h0 h1 h2 h3 h4 h5 h6 S F L K T U w n k hg hs (by omega)) G_X2_78 H_X3_phase ⟨Nat.le_of_ble_eq_true rfl, Nat.le_of_ble_eq_true rfl⟩ rfl [5, 6, 7, 8, 9, 10, 11] rfl rfl 0 3 ⟨rfl, rfl, rfl⟩ (As := [.int (zI ((k : Nat) : Int))]) (rest := []) (Nat.le_of_ble_eq_true rfl) rfl ⟨Nat.le_of_ble_eq_true rfl, Nat.le_of_ble_eq_true rfl⟩ (dk DX2_aboutPulse_0k 23 rfl) ⟨rfl, rfl⟩ ?_
    exact zz_iret hC hQ hr () trivial (by unfold zAp; rw [if_neg (by omega), if_neg (by omega), if_neg (by omega), if_pos (by omega)]) [0, 1, 2, 3, 4, 5, 6, 7, 8, 9, 10, 11] rfl rfl ⟨Nat.le_refl _, Nat.le_refl _⟩ (dk DX2_aboutPulse_0k 24 rfl)
  · refine zz_tabIn hC 79 (dk DX2_aboutPulse_0k 1 rfl) 4 rfl sw1 rfl (by decide) ?_
    refine zz_aload_n hC 0 (dk DX2_aboutPulse_0k 25 rfl) rfl rfl ?_
    refine zz_get hC F_X2_26 0 rfl rfl (dk DX2_aboutPulse_0k 26 rfl) ?_
    refine zz_iload_n hC 1 (dk DX2_aboutPulse_0k 27 rfl) rfl rfl ?_
    refine zz_lald hC k 3 rfl rfl (by omega) (dk DX2_aboutPulse_0k 28 rfl) ?_
    refine zz_l2i hC (dk DX2_aboutPulse_0k 29 rfl) ?_
    exact zz_iret hC hQ hr () trivial (by unfold zAp; rw [if_neg (by omega), if_neg (by omega), if_neg (by omega), if_neg (by omega), if_pos (by omega)]) [0, 1, 2, 3, 4, 5, 6, 7, 8, 9, 10, 11] rfl rfl ⟨Nat.le_refl _, Nat.le_refl _⟩ (dk DX2_aboutPulse_0k 30 rfl)
  · refine zz_tabIn hC 87 (dk DX2_aboutPulse_0k 1 rfl) 5 rfl sw1 rfl (by decide) ?_
    refine zz_aload_n hC 0 (dk DX2_aboutPulse_0k 31 rfl) rfl rfl ?_
    refine zz_get hC F_X2_22 0 rfl rfl (dk DX2_aboutPulse_0k 32 rfl) ?_
    refine zz_iload_n hC 1 (dk DX2_aboutPulse_0k 33 rfl) rfl rfl ?_
    refine zz_iald hC k 2 rfl rfl (by omega) (dk DX2_aboutPulse_0k 34 rfl) ?_
    exact zz_iret hC hQ hr () trivial (by unfold zAp; rw [if_neg (by omega), if_neg (by omega), if_neg (by omega), if_neg (by omega), if_neg (by omega), if_pos (by omega)]) [0, 1, 2, 3, 4, 5, 6, 7, 8, 9, 10, 11] rfl rfl ⟨Nat.le_refl _, Nat.le_refl _⟩ (dk DX2_aboutPulse_0k 35 rfl)
  · refine zz_tabOut hC 94 (dk DX2_aboutPulse_0k 1 rfl) ⟨by omega, by omega⟩ sw1 (by decide) ?_
    refine zz_aload_n hC 0 (dk DX2_aboutPulse_0k 36 rfl) rfl rfl ?_
    refine zz_get hC F_X2_30 0 rfl rfl (dk DX2_aboutPulse_0k 37 rfl) ?_
    refine zz_iload_n hC 1 (dk DX2_aboutPulse_0k 38 rfl) rfl rfl ?_
    refine zz_iald hC k 4 rfl rfl (by omega) (dk DX2_aboutPulse_0k 39 rfl) ?_
    exact zz_iret hC hQ hr () trivial (by unfold zAp; rw [if_neg (by omega), if_neg (by omega), if_neg (by omega), if_neg (by omega), if_neg (by omega), if_neg (by omega)]) [0, 1, 2, 3, 4, 5, 6, 7, 8, 9, 10, 11] rfl rfl ⟨Nat.le_refl _, Nat.le_refl _⟩ (dk DX2_aboutPulse_0k 40 rfl)
set_option maxHeartbeats 4000000 in
set_option maxRecDepth 100000 in
theorem c_X2_having (l : Launch) (D : zG) (r0 : Nat) (r1 : Nat) (r2 : Nat) (r3 : Nat) (r4 : Nat) (g : Nat → Int) (st : Nat → Int) (ch : Nat → Int) (bo : Nat → Int) (bn : Int) (h0 : Nat) (h1 : Nat) (h2 : Nat) (h3 : Nat) (h4 : Nat) (h5 : Nat) (h6 : Nat) (S : Nat → Int) (F : Nat → Int) (L : Nat → Int) (K : Nat → Int) (T : Nat → Int) (U : Nat → Int) (w : Nat) (n : Nat) (x : Int) (hg : zLog n K T U) (hst6 : ∀ j, j < n → 0 ≤ st j ∧ st j ≤ 6) (hx : 0 ≤ x ∧ x ≤ 6) : CI (S := Unit) l yX2_having cX2_having 4 ((some .int)) ({ frames := 0, cells := 0, slots := 0, locals := 0 } : Room) D [.ref r0, .int (zI x)] [(r0, .inr (2, [.ref h0, .ref r1, .ref r2, .ref r3, .ref r4, .int (zI bn)])), (r1, bA D 250 g), (r2, iA D 250 st), (r3, lA D 250 ch), (r4, iA D 250 bo), (h0, .inr (3, [.ref h1, .ref h2, .ref h3, .ref h4, .ref h5, .ref h6, .int (zI ((w : Nat) : Int)), .int (zI ((n : Nat) : Int))])), (h1, iA D 11 S), (h2, iA D 4 F), (h3, iA D 4 L), (h4, iA D 250 K), (h5, iA D 250 T), (h6, iA D 250 U)] (fun _ => True) (fun _ => (zCt (fun a => decide (st a = x)) n)) (fun _ => [(r0, .inr (2, [.ref h0, .ref r1, .ref r2, .ref r3, .ref r4, .int (zI bn)])), (r1, bA D 250 g), (r2, iA D 250 st), (r3, lA D 250 ch), (r4, iA D 250 bo), (h0, .inr (3, [.ref h1, .ref h2, .ref h3, .ref h4, .ref h5, .ref h6, .int (zI ((w : Nat) : Int)), .int (zI ((n : Nat) : Int))])), (h1, iA D 11 S), (h2, iA D 4 F), (h3, iA D 4 L), (h4, iA D 250 K), (h5, iA D 250 T), (h6, iA D 250 U)]) := by
  refine CI_of (by decide) (Nat.le_of_ble_eq_true rfl) ?_
  intro p e s m args below meth cd A Q hQ hC hr hnm
  have hC : ZC p s m args meth cd A D 4 cX2_having RX2 := hC
  have hg0 := hg
  obtain ⟨hn, hK, hT, hU, hM⟩ := hg0
  show Z p l e ({ frames := 0, cells := 0, slots := 0, locals := 0 } : Room) s m args below meth cd A D Q 4 0 0 [(r0, .inr (2, [.ref h0, .ref r1, .ref r2, .ref r3, .ref r4, .int (zI bn)])), (r1, bA D 250 g), (r2, iA D 250 st), (r3, lA D 250 ch), (r4, iA D 250 bo), (h0, .inr (3, [.ref h1, .ref h2, .ref h3, .ref h4, .ref h5, .ref h6, .int (zI ((w : Nat) : Int)), .int (zI ((n : Nat) : Int))])), (h1, iA D 11 S), (h2, iA D 4 F), (h3, iA D 4 L), (h4, iA D 250 K), (h5, iA D 250 T), (h6, iA D 250 U)] [(0, .ref r0), (1, .int (zI x))] [] 0
  refine zz_iconst hC (dk DX2_having_0k 0 rfl) ?_
  refine zz_istore_n hC (ls' := [(0, .ref r0), (1, .int (zI x)), (2, .int (zI 0))]) [1, 2, 0] (dk DX2_having_0k 1 rfl) rfl (by decide) rfl ?_
  refine zz_iconst hC (dk DX2_having_0k 2 rfl) ?_
  refine zz_istore_n hC (ls' := [(0, .ref r0), (1, .int (zI x)), (2, .int (zI 0)), (3, .int (zI 0))]) [1, 2, 3, 0] (dk DX2_having_0k 3 rfl) rfl (by decide) rfl ?_
  have LP4 : ∀ (fuel4 : Nat) (i : Nat) (c : Int), (i ≤ n) → (c = zCt (fun a => decide (st a = x)) i) → n - i < fuel4 → Z p l e ({ frames := 0, cells := 0, slots := 0, locals := 0 } : Room) s m args below meth cd A D Q 4 0 0 [(r0, .inr (2, [.ref h0, .ref r1, .ref r2, .ref r3, .ref r4, .int (zI bn)])), (r1, bA D 250 g), (r2, iA D 250 st), (r3, lA D 250 ch), (r4, iA D 250 bo), (h0, .inr (3, [.ref h1, .ref h2, .ref h3, .ref h4, .ref h5, .ref h6, .int (zI ((w : Nat) : Int)), .int (zI ((n : Nat) : Int))])), (h1, iA D 11 S), (h2, iA D 4 F), (h3, iA D 4 L), (h4, iA D 250 K), (h5, iA D 250 T), (h6, iA D 250 U)] [(0, .ref r0), (1, .int (zI x)), (2, .int (zI c)), (3, .int (zI ((i : Nat) : Int)))] [] 4 := by
    intro fuel4
    induction fuel4 with
    | zero => intro i c hi hc hfu; exact absurd hfu (Nat.not_lt_zero _)
    | succ fuel4 ih4 =>
      intro i c hi hc hfu4
      refine zz_iload_n hC 3 (dk DX2_having_0k 4 rfl) rfl rfl ?_
      refine zz_aload_n hC 0 (dk DX2_having_0k 5 rfl) rfl rfl ?_
      refine zz_get hC F_X2_12 0 rfl rfl (dk DX2_having_0k 6 rfl) ?_
      refine zz_getN hC F_X2_57 5 rfl rfl (dk DX2_having_0k 7 rfl) ?_
      refine zz_icmp_ge hC 34 (dk DX2_having_0k 8 rfl) (by decide) ⟨⟨by omega, by omega⟩, ⟨by omega, by omega⟩⟩ (fun c1 => ?_) (fun c1 => ?_)
      · refine zz_iload_n hC 2 (dk DX2_having_0k 18 rfl) rfl rfl ?_
        exact zz_iret hC hQ hr () trivial (by rw [hc]; congr 1; omega) [0, 1, 2, 3, 4, 5, 6, 7, 8, 9, 10, 11] rfl rfl ⟨Nat.le_refl _, Nat.le_refl _⟩ (dk DX2_having_0k 19 rfl)
      · refine zz_aload_n hC 0 (dk DX2_having_0k 9 rfl) rfl rfl ?_
        refine zz_get hC F_X2_22 0 rfl rfl (dk DX2_having_0k 10 rfl) ?_
        refine zz_iload_n hC 3 (dk DX2_having_0k 11 rfl) rfl rfl ?_
        refine zz_iald hC i 2 rfl rfl (by omega) (dk DX2_having_0k 12 rfl) ?_
        have hf2 := hst6 i (by omega)
        refine zz_iload_n hC 1 (dk DX2_having_0k 13 rfl) rfl rfl ?_
        refine zz_icmp_ne hC 28 (dk DX2_having_0k 14 rfl) (by decide) ⟨⟨by omega, by omega⟩, ⟨by omega, by omega⟩⟩ (fun c3 => ?_) (fun c3 => ?_)
        · refine zz_iinc hC ((i + 1 : Nat) : Int) (ls' := [(0, .ref r0), (1, .int (zI x)), (2, .int (zI c)), (3, .int (zI ((i + 1 : Nat) : Int)))]) 3 [1, 2, 3, 0] (dk DX2_having_0k 16 rfl) rfl (by omega) (by decide) rfl ?_
          refine zz_goto hC 4 (dk DX2_having_0k 17 rfl) (by decide) ?_
          refine zz_ls [0, 1, 2, 3] rfl ?_
          exact ih4 (i + 1) c (by omega) (zCt_k hc (by simp only [decide_eq_true_eq]; assumption)) (by omega)
        · refine zz_iinc hC (c + 1) (ls' := [(0, .ref r0), (1, .int (zI x)), (2, .int (zI (c + 1))), (3, .int (zI ((i : Nat) : Int)))]) 2 [1, 2, 0, 3] (dk DX2_having_0k 15 rfl) rfl (by omega) (by decide) rfl ?_
          refine zz_iinc hC ((i + 1 : Nat) : Int) (ls' := [(0, .ref r0), (1, .int (zI x)), (2, .int (zI (c + 1))), (3, .int (zI ((i + 1 : Nat) : Int)))]) 3 [1, 2, 3, 0] (dk DX2_having_0k 16 rfl) rfl (by omega) (by decide) rfl ?_
          refine zz_goto hC 4 (dk DX2_having_0k 17 rfl) (by decide) ?_
          refine zz_ls [0, 1, 2, 3] rfl ?_
          exact ih4 (i + 1) (c + 1) (by omega) (zCt_s hc (decide_eq_true (by assumption))) (by omega)
  refine zz_ls [0, 1, 2, 3] rfl ?_
  exact LP4 _ 0 0 (by omega) rfl (Nat.lt_succ_self _)
set_option maxHeartbeats 4000000 in
set_option maxRecDepth 100000 in
theorem c_X2_chargeClass (l : Launch) (D : zG) (r0 : Nat) (r1 : Nat) (r2 : Nat) (r3 : Nat) (r4 : Nat) (g : Nat → Int) (st : Nat → Int) (ch : Nat → Int) (bo : Nat → Int) (bn : Int) (h0 : Nat) (h1 : Nat) (h2 : Nat) (h3 : Nat) (h4 : Nat) (h5 : Nat) (h6 : Nat) (S : Nat → Int) (F : Nat → Int) (L : Nat → Int) (K : Nat → Int) (T : Nat → Int) (U : Nat → Int) (w : Nat) (n : Nat) (k : Nat) (hg : zLog n K T U) (hs : zSet S) (hch : ∀ j, j < n → 0 ≤ ch j ∧ ch j ≤ 500000000) (hk : k < n) : CI (S := Unit) l yX2_chargeClass cX2_chargeClass 5 ((some .int)) ({ frames := 0, cells := 0, slots := 0, locals := 0 } : Room) D [.ref r0, .int (zI ((k : Nat) : Int))] [(r0, .inr (2, [.ref h0, .ref r1, .ref r2, .ref r3, .ref r4, .int (zI bn)])), (r1, bA D 250 g), (r2, iA D 250 st), (r3, lA D 250 ch), (r4, iA D 250 bo), (h0, .inr (3, [.ref h1, .ref h2, .ref h3, .ref h4, .ref h5, .ref h6, .int (zI ((w : Nat) : Int)), .int (zI ((n : Nat) : Int))])), (h1, iA D 11 S), (h2, iA D 4 F), (h3, iA D 4 L), (h4, iA D 250 K), (h5, iA D 250 T), (h6, iA D 250 U)] (fun _ => True) (fun _ => (min (ch k / S 6) 15)) (fun _ => [(r0, .inr (2, [.ref h0, .ref r1, .ref r2, .ref r3, .ref r4, .int (zI bn)])), (r1, bA D 250 g), (r2, iA D 250 st), (r3, lA D 250 ch), (r4, iA D 250 bo), (h0, .inr (3, [.ref h1, .ref h2, .ref h3, .ref h4, .ref h5, .ref h6, .int (zI ((w : Nat) : Int)), .int (zI ((n : Nat) : Int))])), (h1, iA D 11 S), (h2, iA D 4 F), (h3, iA D 4 L), (h4, iA D 250 K), (h5, iA D 250 T), (h6, iA D 250 U)]) := by
  refine CI_of (by decide) (Nat.le_of_ble_eq_true rfl) ?_
  intro p e s m args below meth cd A Q hQ hC hr hnm
  have hC : ZC p s m args meth cd A D 5 cX2_chargeClass RX2 := hC
  have hg0 := hg
  obtain ⟨hn, hK, hT, hU, hM⟩ := hg0
  have hs6 := hs.2.2.2.2.2.2.1
  have hd0 := Int.ediv_nonneg (hch k hk).1 (show 0 ≤ S 6 by omega)
  have hd1 := Int.ediv_le_self (S 6) (hch k hk).1
  have hc0 := hch k hk
  show Z p l e ({ frames := 0, cells := 0, slots := 0, locals := 0 } : Room) s m args below meth cd A D Q 5 0 0 [(r0, .inr (2, [.ref h0, .ref r1, .ref r2, .ref r3, .ref r4, .int (zI bn)])), (r1, bA D 250 g), (r2, iA D 250 st), (r3, lA D 250 ch), (r4, iA D 250 bo), (h0, .inr (3, [.ref h1, .ref h2, .ref h3, .ref h4, .ref h5, .ref h6, .int (zI ((w : Nat) : Int)), .int (zI ((n : Nat) : Int))])), (h1, iA D 11 S), (h2, iA D 4 F), (h3, iA D 4 L), (h4, iA D 250 K), (h5, iA D 250 T), (h6, iA D 250 U)] [(0, .ref r0), (1, .int (zI ((k : Nat) : Int)))] [] 0
  refine zz_aload_n hC 0 (dk DX2_chargeClass_0k 0 rfl) rfl rfl ?_
  refine zz_get hC F_X2_12 0 rfl rfl (dk DX2_chargeClass_0k 1 rfl) ?_
  refine zz_getN hC F_X2_46 5 rfl rfl (dk DX2_chargeClass_0k 2 rfl) ?_
  refine zz_bipush hC (dk DX2_chargeClass_0k 3 rfl) (by decide) ?_
  refine zz_iald hC 6 6 rfl rfl (by omega) (dk DX2_chargeClass_0k 4 rfl) ?_
  refine zz_istore_n hC (ls' := [(0, .ref r0), (1, .int (zI ((k : Nat) : Int))), (2, .int (zI (S 6)))]) [1, 2, 0] (dk DX2_chargeClass_0k 5 rfl) rfl (by decide) rfl ?_
  refine zz_iload_n hC 2 (dk DX2_chargeClass_0k 6 rfl) rfl rfl ?_
  refine zz_if_le hC 27 (dk DX2_chargeClass_0k 7 rfl) (by decide) ⟨by omega, by omega⟩ (fun c1 => ?_) (fun c1 => ?_)
  · exfalso; omega
  · refine zz_aload_n hC 0 (dk DX2_chargeClass_0k 8 rfl) rfl rfl ?_
    refine zz_get hC F_X2_26 0 rfl rfl (dk DX2_chargeClass_0k 9 rfl) ?_
    refine zz_iload_n hC 1 (dk DX2_chargeClass_0k 10 rfl) rfl rfl ?_
    refine zz_lald hC k 3 rfl rfl (by omega) (dk DX2_chargeClass_0k 11 rfl) ?_
    have hf2 := hch k (by omega)
    refine zz_iload_n hC 2 (dk DX2_chargeClass_0k 12 rfl) rfl rfl ?_
    refine zz_i2l hC (dk DX2_chargeClass_0k 13 rfl) ⟨by omega, by omega⟩ ?_
    refine zz_ldiv hC (dk DX2_chargeClass_0k 14 rfl) ⟨⟨⟨by omega, by omega⟩, ⟨by omega, by omega⟩⟩, by omega, by omega⟩ ?_
    refine zz_goto hC 28 (dk DX2_chargeClass_0k 15 rfl) (by decide) ?_
    refine zz_lstore_n hC (ls' := [(0, .ref r0), (1, .int (zI ((k : Nat) : Int))), (2, .int (zI (S 6))), (3, .long (zL ((ch k) / (S 6))))]) [1, 2, 3, 0] (dk DX2_chargeClass_0k 17 rfl) rfl (by decide) rfl ?_
    refine zz_lload_n hC 3 (dk DX2_chargeClass_0k 18 rfl) rfl rfl ?_
    refine zz_ldc2 hC 15 K_X2_88 (by decide) (dk DX2_chargeClass_0k 19 rfl) ?_
    refine zz_lcmp_ge hC 42 (dk DX2_chargeClass_0k 20 rfl) (dk DX2_chargeClass_0k 21 rfl) (by decide) ⟨⟨by omega, by omega⟩, (by decide)⟩ (fun c3 => ?_) (fun c3 => ?_)
    · refine zz_bipush hC (dk DX2_chargeClass_0k 25 rfl) (by decide) ?_
      exact zz_iret hC hQ hr () trivial (by omega) [0, 1, 2, 3, 4, 5, 6, 7, 8, 9, 10, 11] rfl rfl ⟨Nat.le_refl _, Nat.le_refl _⟩ (dk DX2_chargeClass_0k 26 rfl)
    · refine zz_lload_n hC 3 (dk DX2_chargeClass_0k 22 rfl) rfl rfl ?_
      refine zz_l2i hC (dk DX2_chargeClass_0k 23 rfl) ?_
      refine zz_goto hC 44 (dk DX2_chargeClass_0k 24 rfl) (by decide) ?_
      exact zz_iret hC hQ hr () trivial (by omega) [0, 1, 2, 3, 4, 5, 6, 7, 8, 9, 10, 11] rfl rfl ⟨Nat.le_refl _, Nat.le_refl _⟩ (dk DX2_chargeClass_0k 26 rfl)
set_option maxHeartbeats 4000000 in
set_option maxRecDepth 100000 in
theorem c_X2_isAccepted (l : Launch) (D : zG) (r0 : Nat) (r1 : Nat) (r2 : Nat) (r3 : Nat) (r4 : Nat) (g : Nat → Int) (st : Nat → Int) (ch : Nat → Int) (bo : Nat → Int) (bn : Int) (h0 : Nat) (h1 : Nat) (h2 : Nat) (h3 : Nat) (h4 : Nat) (h5 : Nat) (h6 : Nat) (S : Nat → Int) (F : Nat → Int) (L : Nat → Int) (K : Nat → Int) (T : Nat → Int) (U : Nat → Int) (w : Nat) (n : Nat) (k : Nat) (x : Int) (y : Int) (hg : zLog n K T U) (hst6 : ∀ j, j < n → 0 ≤ st j ∧ st j ≤ 6) (hk : k < n) (hxy : (-1000000000000 ≤ x ∧ x ≤ 1000000000000) ∧ -1000000000000 ≤ y ∧ y ≤ 1000000000000) : CI (S := Unit) l yX2_isAccepted cX2_isAccepted 8 ((some .boolean)) ({ frames := 0, cells := 0, slots := 0, locals := 0 } : Room) D [.ref r0, .int (zI ((k : Nat) : Int)), .long (zL x), .long (zL y)] [(r0, .inr (2, [.ref h0, .ref r1, .ref r2, .ref r3, .ref r4, .int (zI bn)])), (r1, bA D 250 g), (r2, iA D 250 st), (r3, lA D 250 ch), (r4, iA D 250 bo), (h0, .inr (3, [.ref h1, .ref h2, .ref h3, .ref h4, .ref h5, .ref h6, .int (zI ((w : Nat) : Int)), .int (zI ((n : Nat) : Int))])), (h1, iA D 11 S), (h2, iA D 4 F), (h3, iA D 4 L), (h4, iA D 250 K), (h5, iA D 250 T), (h6, iA D 250 U)] (fun _ => True) (fun _ => zB (zAr st T x y k = true)) (fun _ => [(r0, .inr (2, [.ref h0, .ref r1, .ref r2, .ref r3, .ref r4, .int (zI bn)])), (r1, bA D 250 g), (r2, iA D 250 st), (r3, lA D 250 ch), (r4, iA D 250 bo), (h0, .inr (3, [.ref h1, .ref h2, .ref h3, .ref h4, .ref h5, .ref h6, .int (zI ((w : Nat) : Int)), .int (zI ((n : Nat) : Int))])), (h1, iA D 11 S), (h2, iA D 4 F), (h3, iA D 4 L), (h4, iA D 250 K), (h5, iA D 250 T), (h6, iA D 250 U)]) := by
  refine CI_of (by decide) (Nat.le_of_ble_eq_true rfl) ?_
  intro p e s m args below meth cd A Q hQ hC hr hnm
  have hC : ZC p s m args meth cd A D 8 cX2_isAccepted RX2 := hC
  have hg0 := hg
  obtain ⟨hn, hK, hT, hU, hM⟩ := hg0
  show Z p l e ({ frames := 0, cells := 0, slots := 0, locals := 0 } : Room) s m args below meth cd A D Q 8 0 0 [(r0, .inr (2, [.ref h0, .ref r1, .ref r2, .ref r3, .ref r4, .int (zI bn)])), (r1, bA D 250 g), (r2, iA D 250 st), (r3, lA D 250 ch), (r4, iA D 250 bo), (h0, .inr (3, [.ref h1, .ref h2, .ref h3, .ref h4, .ref h5, .ref h6, .int (zI ((w : Nat) : Int)), .int (zI ((n : Nat) : Int))])), (h1, iA D 11 S), (h2, iA D 4 F), (h3, iA D 4 L), (h4, iA D 250 K), (h5, iA D 250 T), (h6, iA D 250 U)] [(0, .ref r0), (1, .int (zI ((k : Nat) : Int))), (2, .long (zL x)), (4, .long (zL y))] [] 0
  refine zz_aload_n hC 0 (dk DX2_isAccepted_0k 0 rfl) rfl rfl ?_
  refine zz_get hC F_X2_12 0 rfl rfl (dk DX2_isAccepted_0k 1 rfl) ?_
  refine zz_getN hC F_X2_64 5 rfl rfl (dk DX2_isAccepted_0k 2 rfl) ?_
  refine zz_iload_n hC 1 (dk DX2_isAccepted_0k 3 rfl) rfl rfl ?_
  refine zz_iald hC k 10 rfl rfl (by omega) (dk DX2_isAccepted_0k 4 rfl) ?_
  have hf1 := hT k (by omega)
  refine zz_i2l hC (dk DX2_isAccepted_0k 5 rfl) ⟨by omega, by omega⟩ ?_
  refine zz_lstore hC (ls' := [(0, .ref r0), (1, .int (zI ((k : Nat) : Int))), (2, .long (zL x)), (4, .long (zL y)), (6, .long (zL (T k)))]) [1, 2, 3, 4, 0] (dk DX2_isAccepted_0k 6 rfl) (by decide) rfl ?_
  refine zz_aload_n hC 0 (dk DX2_isAccepted_0k 7 rfl) rfl rfl ?_
  refine zz_get hC F_X2_22 0 rfl rfl (dk DX2_isAccepted_0k 8 rfl) ?_
  refine zz_iload_n hC 1 (dk DX2_isAccepted_0k 9 rfl) rfl rfl ?_
  refine zz_iald hC k 2 rfl rfl (by omega) (dk DX2_isAccepted_0k 10 rfl) ?_
  have hf2 := hst6 k (by omega)
  refine zz_if_ne hC 40 (dk DX2_isAccepted_0k 11 rfl) (by decide) ⟨by omega, by omega⟩ (fun c3 => ?_) (fun c3 => ?_)
  · refine zz_iconst hC (dk DX2_isAccepted_0k 22 rfl) ?_
    exact zz_zret hC hQ hr () trivial (zB_f (by unfold zAr; simp only [decide_eq_true_eq]; omega)).symm (by decide) [0, 1, 2, 3, 4, 5, 6, 7, 8, 9, 10, 11] rfl rfl ⟨Nat.le_refl _, Nat.le_refl _⟩ (dk DX2_isAccepted_0k 23 rfl)
  · refine zz_lload hC 4 (dk DX2_isAccepted_0k 12 rfl) rfl ?_
    refine zz_lload_n hC 2 (dk DX2_isAccepted_0k 13 rfl) rfl rfl ?_
    refine zz_lcmp_lt hC 40 (dk DX2_isAccepted_0k 14 rfl) (dk DX2_isAccepted_0k 15 rfl) (by decide) ⟨⟨by omega, by omega⟩, ⟨by omega, by omega⟩⟩ (fun c4 => ?_) (fun c4 => ?_)
    · refine zz_iconst hC (dk DX2_isAccepted_0k 22 rfl) ?_
      exact zz_zret hC hQ hr () trivial (zB_f (by unfold zAr; simp only [decide_eq_true_eq]; omega)).symm (by decide) [0, 1, 2, 3, 4, 5, 6, 7, 8, 9, 10, 11] rfl rfl ⟨Nat.le_refl _, Nat.le_refl _⟩ (dk DX2_isAccepted_0k 23 rfl)
    · refine zz_lload hC 4 (dk DX2_isAccepted_0k 16 rfl) rfl ?_
      refine zz_lload hC 3 (dk DX2_isAccepted_0k 17 rfl) rfl ?_
      refine zz_lcmp_gt hC 40 (dk DX2_isAccepted_0k 18 rfl) (dk DX2_isAccepted_0k 19 rfl) (by decide) ⟨⟨by omega, by omega⟩, ⟨by omega, by omega⟩⟩ (fun c5 => ?_) (fun c5 => ?_)
      · refine zz_iconst hC (dk DX2_isAccepted_0k 22 rfl) ?_
        exact zz_zret hC hQ hr () trivial (zB_f (by unfold zAr; simp only [decide_eq_true_eq]; omega)).symm (by decide) [0, 1, 2, 3, 4, 5, 6, 7, 8, 9, 10, 11] rfl rfl ⟨Nat.le_refl _, Nat.le_refl _⟩ (dk DX2_isAccepted_0k 23 rfl)
      · refine zz_iconst hC (dk DX2_isAccepted_0k 20 rfl) ?_
        refine zz_goto hC 41 (dk DX2_isAccepted_0k 21 rfl) (by decide) ?_
        exact zz_zret hC hQ hr () trivial (zB_t (by unfold zAr; exact decide_eq_true ⟨by omega, by omega, by omega⟩)).symm (by decide) [0, 1, 2, 3, 4, 5, 6, 7, 8, 9, 10, 11] rfl rfl ⟨Nat.le_refl _, Nat.le_refl _⟩ (dk DX2_isAccepted_0k 23 rfl)
set_option maxHeartbeats 4000000 in
set_option maxRecDepth 100000 in
theorem c_X2_numberIn (l : Launch) (D : zG) (r0 : Nat) (r1 : Nat) (r2 : Nat) (r3 : Nat) (r4 : Nat) (g : Nat → Int) (st : Nat → Int) (ch : Nat → Int) (bo : Nat → Int) (bn : Int) (h0 : Nat) (h1 : Nat) (h2 : Nat) (h3 : Nat) (h4 : Nat) (h5 : Nat) (h6 : Nat) (S : Nat → Int) (F : Nat → Int) (L : Nat → Int) (K : Nat → Int) (T : Nat → Int) (U : Nat → Int) (w : Nat) (n : Nat) (x : Int) (y : Int) (hg : zLog n K T U) (hst6 : ∀ j, j < n → 0 ≤ st j ∧ st j ≤ 6) (hxy : (-1000000000000 ≤ x ∧ x ≤ 1000000000000) ∧ -1000000000000 ≤ y ∧ y ≤ 1000000000000) : CL (S := Unit) l yX2_numberIn cX2_numberIn 8 ((some .long)) ({ frames := 1, cells := 0, slots := 0, locals := 27 } : Room) D [.ref r0, .long (zL x), .long (zL y)] [(r0, .inr (2, [.ref h0, .ref r1, .ref r2, .ref r3, .ref r4, .int (zI bn)])), (r1, bA D 250 g), (r2, iA D 250 st), (r3, lA D 250 ch), (r4, iA D 250 bo), (h0, .inr (3, [.ref h1, .ref h2, .ref h3, .ref h4, .ref h5, .ref h6, .int (zI ((w : Nat) : Int)), .int (zI ((n : Nat) : Int))])), (h1, iA D 11 S), (h2, iA D 4 F), (h3, iA D 4 L), (h4, iA D 250 K), (h5, iA D 250 T), (h6, iA D 250 U)] (fun _ => True) (fun _ => (zCt (zAr st T x y) n)) (fun _ => [(r0, .inr (2, [.ref h0, .ref r1, .ref r2, .ref r3, .ref r4, .int (zI bn)])), (r1, bA D 250 g), (r2, iA D 250 st), (r3, lA D 250 ch), (r4, iA D 250 bo), (h0, .inr (3, [.ref h1, .ref h2, .ref h3, .ref h4, .ref h5, .ref h6, .int (zI ((w : Nat) : Int)), .int (zI ((n : Nat) : Int))])), (h1, iA D 11 S), (h2, iA D 4 F), (h3, iA D 4 L), (h4, iA D 250 K), (h5, iA D 250 T), (h6, iA D 250 U)]) := by
  refine CL_of (by decide) (Nat.le_of_ble_eq_true rfl) ?_
  intro p e s m args below meth cd A Q hQ hC hr hnm
  have hC : ZC p s m args meth cd A D 8 cX2_numberIn RX2 := hC
  have hg0 := hg
  obtain ⟨hn, hK, hT, hU, hM⟩ := hg0
  show Z p l e ({ frames := 1, cells := 0, slots := 0, locals := 27 } : Room) s m args below meth cd A D Q 8 0 0 [(r0, .inr (2, [.ref h0, .ref r1, .ref r2, .ref r3, .ref r4, .int (zI bn)])), (r1, bA D 250 g), (r2, iA D 250 st), (r3, lA D 250 ch), (r4, iA D 250 bo), (h0, .inr (3, [.ref h1, .ref h2, .ref h3, .ref h4, .ref h5, .ref h6, .int (zI ((w : Nat) : Int)), .int (zI ((n : Nat) : Int))])), (h1, iA D 11 S), (h2, iA D 4 F), (h3, iA D 4 L), (h4, iA D 250 K), (h5, iA D 250 T), (h6, iA D 250 U)] [(0, .ref r0), (1, .long (zL x)), (3, .long (zL y))] [] 0
  refine zz_lconst hC 0 (dk DX2_numberIn_0k 0 rfl) (by decide) ?_
  refine zz_lstore hC (ls' := [(0, .ref r0), (1, .long (zL x)), (3, .long (zL y)), (5, .long (zL 0))]) [1, 2, 3, 0] (dk DX2_numberIn_0k 1 rfl) (by decide) rfl ?_
  refine zz_iconst hC (dk DX2_numberIn_0k 2 rfl) ?_
  refine zz_istore hC (ls' := [(0, .ref r0), (1, .long (zL x)), (3, .long (zL y)), (5, .long (zL 0)), (7, .int (zI 0))]) [1, 2, 3, 4, 0] (dk DX2_numberIn_0k 3 rfl) (by decide) rfl ?_
  have LP6 : ∀ (fuel6 : Nat) (i : Nat) (c : Int), (i ≤ n) → (c = zCt (zAr st T x y) i) → n - i < fuel6 → Z p l e ({ frames := 1, cells := 0, slots := 0, locals := 27 } : Room) s m args below meth cd A D Q 8 0 0 [(r0, .inr (2, [.ref h0, .ref r1, .ref r2, .ref r3, .ref r4, .int (zI bn)])), (r1, bA D 250 g), (r2, iA D 250 st), (r3, lA D 250 ch), (r4, iA D 250 bo), (h0, .inr (3, [.ref h1, .ref h2, .ref h3, .ref h4, .ref h5, .ref h6, .int (zI ((w : Nat) : Int)), .int (zI ((n : Nat) : Int))])), (h1, iA D 11 S), (h2, iA D 4 F), (h3, iA D 4 L), (h4, iA D 250 K), (h5, iA D 250 T), (h6, iA D 250 U)] [(0, .ref r0), (1, .long (zL x)), (3, .long (zL y)), (5, .long (zL c)), (7, .int (zI ((i : Nat) : Int)))] [] 6 := by
    intro fuel6
    induction fuel6 with
    | zero => intro i c hi hc hfu; exact absurd hfu (Nat.not_lt_zero _)
    | succ fuel6 ih6 =>
      intro i c hi hc hfu6
      refine zz_iload hC 4 (dk DX2_numberIn_0k 4 rfl) rfl ?_
      refine zz_aload_n hC 0 (dk DX2_numberIn_0k 5 rfl) rfl rfl ?_
      refine zz_get hC F_X2_12 0 rfl rfl (dk DX2_numberIn_0k 6 rfl) ?_
      refine zz_getN hC F_X2_57 5 rfl rfl (dk DX2_numberIn_0k 7 rfl) ?_
      refine zz_icmp_ge hC 45 (dk DX2_numberIn_0k 8 rfl) (by decide) ⟨⟨by omega, by omega⟩, ⟨by omega, by omega⟩⟩ (fun c1 => ?_) (fun c1 => ?_)
      · refine zz_lload hC 3 (dk DX2_numberIn_0k 23 rfl) rfl ?_
        exact zz_lret hC hQ hr () trivial (by rw [hc]; congr 1; omega) [0, 1, 2, 3, 4, 5, 6, 7, 8, 9, 10, 11] rfl rfl ⟨Nat.le_refl _, Nat.le_refl _⟩ (dk DX2_numberIn_0k 24 rfl)
      · refine zz_lload hC 3 (dk DX2_numberIn_0k 9 rfl) rfl ?_
        refine zz_aload_n hC 0 (dk DX2_numberIn_0k 10 rfl) rfl rfl ?_
        refine zz_iload hC 4 (dk DX2_numberIn_0k 11 rfl) rfl ?_
        refine zz_lload_n hC 1 (dk DX2_numberIn_0k 12 rfl) rfl rfl ?_
        refine zz_lload_n hC 2 (dk DX2_numberIn_0k 13 rfl) rfl rfl ?_
        refine zz_pureVi hC (c_X2_isAccepted l D r0 r1 r2 r3 r4 g st ch bo bn h0 h1 h2 h3 h4 h5 h6 S F L K T U w n i x y hg hst6 (by omega) (by omega)) G_X2_90 H_X2_isAccepted ⟨Nat.le_of_ble_eq_true rfl, Nat.le_of_ble_eq_true rfl⟩ rfl [0, 1, 2, 3, 4, 5, 6, 7, 8, 9, 10, 11] rfl rfl 0 2 ⟨rfl, rfl, rfl⟩ (As := [.int (zI ((i : Nat) : Int)), .long (zL x), .long (zL y)]) (rest := [.long (zL c)]) (Nat.le_of_ble_eq_true rfl) rfl ⟨Nat.le_of_ble_eq_true rfl, Nat.le_of_ble_eq_true rfl⟩ (dk DX2_numberIn_0k 14 rfl) ⟨rfl, rfl⟩ ?_
        refine zz_ifb_eq hC 35 (dk DX2_numberIn_0k 15 rfl) (by decide) (fun c2 => ?_) (fun c2 => ?_)
        · refine zz_lconst hC 0 (dk DX2_numberIn_0k 18 rfl) (by decide) ?_
          refine zz_ladd hC (dk DX2_numberIn_0k 19 rfl) ?_
          refine zz_lstore hC (ls' := [(0, .ref r0), (1, .long (zL x)), (3, .long (zL y)), (5, .long (zL (c + 0))), (7, .int (zI ((i : Nat) : Int)))]) [1, 2, 3, 0, 4] (dk DX2_numberIn_0k 20 rfl) (by decide) rfl ?_
          refine zz_iinc hC ((i + 1 : Nat) : Int) (ls' := [(0, .ref r0), (1, .long (zL x)), (3, .long (zL y)), (5, .long (zL (c + 0))), (7, .int (zI ((i + 1 : Nat) : Int)))]) 4 [1, 2, 3, 4, 0] (dk DX2_numberIn_0k 21 rfl) rfl (by omega) (by decide) rfl ?_
          refine zz_goto hC 6 (dk DX2_numberIn_0k 22 rfl) (by decide) ?_
          refine zz_ls [0, 1, 2, 3, 4] rfl ?_
          exact ih6 (i + 1) (c + 0) (by omega) (by rw [Int.add_zero]; exact zCt_k hc (by assumption)) (by omega)
        · refine zz_lconst hC 1 (dk DX2_numberIn_0k 16 rfl) (by decide) ?_
          refine zz_goto hC 36 (dk DX2_numberIn_0k 17 rfl) (by decide) ?_
          refine zz_ladd hC (dk DX2_numberIn_0k 19 rfl) ?_
          refine zz_lstore hC (ls' := [(0, .ref r0), (1, .long (zL x)), (3, .long (zL y)), (5, .long (zL (c + 1))), (7, .int (zI ((i : Nat) : Int)))]) [1, 2, 3, 0, 4] (dk DX2_numberIn_0k 20 rfl) (by decide) rfl ?_
          refine zz_iinc hC ((i + 1 : Nat) : Int) (ls' := [(0, .ref r0), (1, .long (zL x)), (3, .long (zL y)), (5, .long (zL (c + 1))), (7, .int (zI ((i + 1 : Nat) : Int)))]) 4 [1, 2, 3, 4, 0] (dk DX2_numberIn_0k 21 rfl) rfl (by omega) (by decide) rfl ?_
          refine zz_goto hC 6 (dk DX2_numberIn_0k 22 rfl) (by decide) ?_
          refine zz_ls [0, 1, 2, 3, 4] rfl ?_
          exact ih6 (i + 1) (c + 1) (by omega) (zCt_s hc (by assumption)) (by omega)
  refine zz_ls [0, 1, 2, 3, 4] rfl ?_
  exact LP6 _ 0 0 (by omega) rfl (Nat.lt_succ_self _)
set_option maxHeartbeats 4000000 in
set_option maxRecDepth 100000 in
theorem c_X2_chargeIn (l : Launch) (D : zG) (r0 : Nat) (r1 : Nat) (r2 : Nat) (r3 : Nat) (r4 : Nat) (g : Nat → Int) (st : Nat → Int) (ch : Nat → Int) (bo : Nat → Int) (bn : Int) (h0 : Nat) (h1 : Nat) (h2 : Nat) (h3 : Nat) (h4 : Nat) (h5 : Nat) (h6 : Nat) (S : Nat → Int) (F : Nat → Int) (L : Nat → Int) (K : Nat → Int) (T : Nat → Int) (U : Nat → Int) (w : Nat) (n : Nat) (x : Int) (y : Int) (hg : zLog n K T U) (hst6 : ∀ j, j < n → 0 ≤ st j ∧ st j ≤ 6) (hxy : (-1000000000000 ≤ x ∧ x ≤ 1000000000000) ∧ -1000000000000 ≤ y ∧ y ≤ 1000000000000) : CL (S := Unit) l yX2_chargeIn cX2_chargeIn 8 ((some .long)) ({ frames := 1, cells := 0, slots := 0, locals := 27 } : Room) D [.ref r0, .long (zL x), .long (zL y)] [(r0, .inr (2, [.ref h0, .ref r1, .ref r2, .ref r3, .ref r4, .int (zI bn)])), (r1, bA D 250 g), (r2, iA D 250 st), (r3, lA D 250 ch), (r4, iA D 250 bo), (h0, .inr (3, [.ref h1, .ref h2, .ref h3, .ref h4, .ref h5, .ref h6, .int (zI ((w : Nat) : Int)), .int (zI ((n : Nat) : Int))])), (h1, iA D 11 S), (h2, iA D 4 F), (h3, iA D 4 L), (h4, iA D 250 K), (h5, iA D 250 T), (h6, iA D 250 U)] (fun _ => True) (fun _ => (zSm (zAr st T x y) ch n)) (fun _ => [(r0, .inr (2, [.ref h0, .ref r1, .ref r2, .ref r3, .ref r4, .int (zI bn)])), (r1, bA D 250 g), (r2, iA D 250 st), (r3, lA D 250 ch), (r4, iA D 250 bo), (h0, .inr (3, [.ref h1, .ref h2, .ref h3, .ref h4, .ref h5, .ref h6, .int (zI ((w : Nat) : Int)), .int (zI ((n : Nat) : Int))])), (h1, iA D 11 S), (h2, iA D 4 F), (h3, iA D 4 L), (h4, iA D 250 K), (h5, iA D 250 T), (h6, iA D 250 U)]) := by
  refine CL_of (by decide) (Nat.le_of_ble_eq_true rfl) ?_
  intro p e s m args below meth cd A Q hQ hC hr hnm
  have hC : ZC p s m args meth cd A D 8 cX2_chargeIn RX2 := hC
  have hg0 := hg
  obtain ⟨hn, hK, hT, hU, hM⟩ := hg0
  show Z p l e ({ frames := 1, cells := 0, slots := 0, locals := 27 } : Room) s m args below meth cd A D Q 8 0 0 [(r0, .inr (2, [.ref h0, .ref r1, .ref r2, .ref r3, .ref r4, .int (zI bn)])), (r1, bA D 250 g), (r2, iA D 250 st), (r3, lA D 250 ch), (r4, iA D 250 bo), (h0, .inr (3, [.ref h1, .ref h2, .ref h3, .ref h4, .ref h5, .ref h6, .int (zI ((w : Nat) : Int)), .int (zI ((n : Nat) : Int))])), (h1, iA D 11 S), (h2, iA D 4 F), (h3, iA D 4 L), (h4, iA D 250 K), (h5, iA D 250 T), (h6, iA D 250 U)] [(0, .ref r0), (1, .long (zL x)), (3, .long (zL y))] [] 0
  refine zz_lconst hC 0 (dk DX2_chargeIn_0k 0 rfl) (by decide) ?_
  refine zz_lstore hC (ls' := [(0, .ref r0), (1, .long (zL x)), (3, .long (zL y)), (5, .long (zL 0))]) [1, 2, 3, 0] (dk DX2_chargeIn_0k 1 rfl) (by decide) rfl ?_
  refine zz_iconst hC (dk DX2_chargeIn_0k 2 rfl) ?_
  refine zz_istore hC (ls' := [(0, .ref r0), (1, .long (zL x)), (3, .long (zL y)), (5, .long (zL 0)), (7, .int (zI 0))]) [1, 2, 3, 4, 0] (dk DX2_chargeIn_0k 3 rfl) (by decide) rfl ?_
  have LP6 : ∀ (fuel6 : Nat) (i : Nat) (c : Int), (i ≤ n) → (c = zSm (zAr st T x y) ch i) → n - i < fuel6 → Z p l e ({ frames := 1, cells := 0, slots := 0, locals := 27 } : Room) s m args below meth cd A D Q 8 0 0 [(r0, .inr (2, [.ref h0, .ref r1, .ref r2, .ref r3, .ref r4, .int (zI bn)])), (r1, bA D 250 g), (r2, iA D 250 st), (r3, lA D 250 ch), (r4, iA D 250 bo), (h0, .inr (3, [.ref h1, .ref h2, .ref h3, .ref h4, .ref h5, .ref h6, .int (zI ((w : Nat) : Int)), .int (zI ((n : Nat) : Int))])), (h1, iA D 11 S), (h2, iA D 4 F), (h3, iA D 4 L), (h4, iA D 250 K), (h5, iA D 250 T), (h6, iA D 250 U)] [(0, .ref r0), (1, .long (zL x)), (3, .long (zL y)), (5, .long (zL c)), (7, .int (zI ((i : Nat) : Int)))] [] 6 := by
    intro fuel6
    induction fuel6 with
    | zero => intro i c hi hc hfu; exact absurd hfu (Nat.not_lt_zero _)
    | succ fuel6 ih6 =>
      intro i c hi hc hfu6
      refine zz_iload hC 4 (dk DX2_chargeIn_0k 4 rfl) rfl ?_
      refine zz_aload_n hC 0 (dk DX2_chargeIn_0k 5 rfl) rfl rfl ?_
      refine zz_get hC F_X2_12 0 rfl rfl (dk DX2_chargeIn_0k 6 rfl) ?_
      refine zz_getN hC F_X2_57 5 rfl rfl (dk DX2_chargeIn_0k 7 rfl) ?_
      refine zz_icmp_ge hC 51 (dk DX2_chargeIn_0k 8 rfl) (by decide) ⟨⟨by omega, by omega⟩, ⟨by omega, by omega⟩⟩ (fun c1 => ?_) (fun c1 => ?_)
      · refine zz_lload hC 3 (dk DX2_chargeIn_0k 26 rfl) rfl ?_
        exact zz_lret hC hQ hr () trivial (by rw [hc]; congr 1; omega) [0, 1, 2, 3, 4, 5, 6, 7, 8, 9, 10, 11] rfl rfl ⟨Nat.le_refl _, Nat.le_refl _⟩ (dk DX2_chargeIn_0k 27 rfl)
      · refine zz_lload hC 3 (dk DX2_chargeIn_0k 9 rfl) rfl ?_
        refine zz_aload_n hC 0 (dk DX2_chargeIn_0k 10 rfl) rfl rfl ?_
        refine zz_iload hC 4 (dk DX2_chargeIn_0k 11 rfl) rfl ?_
        refine zz_lload_n hC 1 (dk DX2_chargeIn_0k 12 rfl) rfl rfl ?_
        refine zz_lload_n hC 2 (dk DX2_chargeIn_0k 13 rfl) rfl rfl ?_
        refine zz_pureVi hC (c_X2_isAccepted l D r0 r1 r2 r3 r4 g st ch bo bn h0 h1 h2 h3 h4 h5 h6 S F L K T U w n i x y hg hst6 (by omega) (by omega)) G_X2_90 H_X2_isAccepted ⟨Nat.le_of_ble_eq_true rfl, Nat.le_of_ble_eq_true rfl⟩ rfl [0, 1, 2, 3, 4, 5, 6, 7, 8, 9, 10, 11] rfl rfl 0 2 ⟨rfl, rfl, rfl⟩ (As := [.int (zI ((i : Nat) : Int)), .long (zL x), .long (zL y)]) (rest := [.long (zL c)]) (Nat.le_of_ble_eq_true rfl) rfl ⟨Nat.le_of_ble_eq_true rfl, Nat.le_of_ble_eq_true rfl⟩ (dk DX2_chargeIn_0k 14 rfl) ⟨rfl, rfl⟩ ?_
        refine zz_ifb_eq hC 41 (dk DX2_chargeIn_0k 15 rfl) (by decide) (fun c2 => ?_) (fun c2 => ?_)
        · refine zz_lconst hC 0 (dk DX2_chargeIn_0k 21 rfl) (by decide) ?_
          refine zz_ladd hC (dk DX2_chargeIn_0k 22 rfl) ?_
          refine zz_lstore hC (ls' := [(0, .ref r0), (1, .long (zL x)), (3, .long (zL y)), (5, .long (zL (c + 0))), (7, .int (zI ((i : Nat) : Int)))]) [1, 2, 3, 0, 4] (dk DX2_chargeIn_0k 23 rfl) (by decide) rfl ?_
          refine zz_iinc hC ((i + 1 : Nat) : Int) (ls' := [(0, .ref r0), (1, .long (zL x)), (3, .long (zL y)), (5, .long (zL (c + 0))), (7, .int (zI ((i + 1 : Nat) : Int)))]) 4 [1, 2, 3, 4, 0] (dk DX2_chargeIn_0k 24 rfl) rfl (by omega) (by decide) rfl ?_
          refine zz_goto hC 6 (dk DX2_chargeIn_0k 25 rfl) (by decide) ?_
          refine zz_ls [0, 1, 2, 3, 4] rfl ?_
          exact ih6 (i + 1) (c + 0) (by omega) (by rw [Int.add_zero]; exact zSm_k hc (by assumption)) (by omega)
        · refine zz_aload_n hC 0 (dk DX2_chargeIn_0k 16 rfl) rfl rfl ?_
          refine zz_get hC F_X2_26 0 rfl rfl (dk DX2_chargeIn_0k 17 rfl) ?_
          refine zz_iload hC 4 (dk DX2_chargeIn_0k 18 rfl) rfl ?_
          refine zz_lald hC i 3 rfl rfl (by omega) (dk DX2_chargeIn_0k 19 rfl) ?_
          refine zz_goto hC 42 (dk DX2_chargeIn_0k 20 rfl) (by decide) ?_
          refine zz_ladd hC (dk DX2_chargeIn_0k 22 rfl) ?_
          refine zz_lstore hC (ls' := [(0, .ref r0), (1, .long (zL x)), (3, .long (zL y)), (5, .long (zL (c + (ch i)))), (7, .int (zI ((i : Nat) : Int)))]) [1, 2, 3, 0, 4] (dk DX2_chargeIn_0k 23 rfl) (by decide) rfl ?_
          refine zz_iinc hC ((i + 1 : Nat) : Int) (ls' := [(0, .ref r0), (1, .long (zL x)), (3, .long (zL y)), (5, .long (zL (c + (ch i)))), (7, .int (zI ((i + 1 : Nat) : Int)))]) 4 [1, 2, 3, 4, 0] (dk DX2_chargeIn_0k 24 rfl) rfl (by omega) (by decide) rfl ?_
          refine zz_goto hC 6 (dk DX2_chargeIn_0k 25 rfl) (by decide) ?_
          refine zz_ls [0, 1, 2, 3, 4] rfl ?_
          exact ih6 (i + 1) (c + (ch i)) (by omega) (zSm_s hc (by assumption)) (by omega)
  refine zz_ls [0, 1, 2, 3, 4] rfl ?_
  exact LP6 _ 0 0 (by omega) rfl (Nat.lt_succ_self _)
set_option maxHeartbeats 4000000 in
set_option maxRecDepth 100000 in
theorem c_X2_fillBins (l : Launch) (D : zG) (r0 : Nat) (r1 : Nat) (r2 : Nat) (r3 : Nat) (r4 : Nat) (g : Nat → Int) (st : Nat → Int) (ch : Nat → Int) (bo : Nat → Int) (bn : Int) (h0 : Nat) (h1 : Nat) (h2 : Nat) (h3 : Nat) (h4 : Nat) (h5 : Nat) (h6 : Nat) (S : Nat → Int) (F : Nat → Int) (L : Nat → Int) (K : Nat → Int) (T : Nat → Int) (U : Nat → Int) (w : Nat) (n : Nat) (q0 : Nat) (f : Nat → Int) (x : Int) (y : Int) (hg : zLog n K T U) (hs : zSet S) (hst6 : ∀ j, j < n → 0 ≤ st j ∧ st j ≤ 6) (hxy : 0 ≤ x ∧ x ≤ y ∧ y ≤ 1000000) : CI (S := Nat → Int) l yX2_fillBins cX2_fillBins 7 ((some .int)) ({ frames := 2, cells := 0, slots := 0, locals := 42 } : Room) D [.ref r0, .ref q0, .int (zI x), .int (zI y)] [(r0, .inr (2, [.ref h0, .ref r1, .ref r2, .ref r3, .ref r4, .int (zI bn)])), (r1, bA D 250 g), (r2, iA D 250 st), (r3, lA D 250 ch), (r4, iA D 250 bo), (h0, .inr (3, [.ref h1, .ref h2, .ref h3, .ref h4, .ref h5, .ref h6, .int (zI ((w : Nat) : Int)), .int (zI ((n : Nat) : Int))])), (h1, iA D 11 S), (h2, iA D 4 F), (h3, iA D 4 L), (h4, iA D 250 K), (h5, iA D 250 T), (h6, iA D 250 U), (q0, iA D 36 f)] (fun u => ∀ b : Nat, b < 36 → u b = zCt (fun a => zAr st T x y a && decide (zPh T S a / 10 = (b : Int))) n) (fun u => (zCt (zAr st T x y) n)) (fun u => [(r0, .inr (2, [.ref h0, .ref r1, .ref r2, .ref r3, .ref r4, .int (zI bn)])), (r1, bA D 250 g), (r2, iA D 250 st), (r3, lA D 250 ch), (r4, iA D 250 bo), (h0, .inr (3, [.ref h1, .ref h2, .ref h3, .ref h4, .ref h5, .ref h6, .int (zI ((w : Nat) : Int)), .int (zI ((n : Nat) : Int))])), (h1, iA D 11 S), (h2, iA D 4 F), (h3, iA D 4 L), (h4, iA D 250 K), (h5, iA D 250 T), (h6, iA D 250 U), (q0, iA D 36 u)]) := by
  refine CI_of (by decide) (Nat.le_of_ble_eq_true rfl) ?_
  intro p e s m args below meth cd A Q hQ hC hr hnm
  have hC : ZC p s m args meth cd A D 7 cX2_fillBins RX2 := hC
  have hg0 := hg
  obtain ⟨hn, hK, hT, hU, hM⟩ := hg0
  show Z p l e ({ frames := 2, cells := 0, slots := 0, locals := 42 } : Room) s m args below meth cd A D Q 7 0 0 [(r0, .inr (2, [.ref h0, .ref r1, .ref r2, .ref r3, .ref r4, .int (zI bn)])), (r1, bA D 250 g), (r2, iA D 250 st), (r3, lA D 250 ch), (r4, iA D 250 bo), (h0, .inr (3, [.ref h1, .ref h2, .ref h3, .ref h4, .ref h5, .ref h6, .int (zI ((w : Nat) : Int)), .int (zI ((n : Nat) : Int))])), (h1, iA D 11 S), (h2, iA D 4 F), (h3, iA D 4 L), (h4, iA D 250 K), (h5, iA D 250 T), (h6, iA D 250 U), (q0, iA D 36 f)] [(0, .ref r0), (1, .ref q0), (2, .int (zI x)), (3, .int (zI y))] [] 0
  refine zz_iconst hC (dk DX2_fillBins_0k 0 rfl) ?_
  refine zz_istore hC (ls' := [(0, .ref r0), (1, .ref q0), (2, .int (zI x)), (3, .int (zI y)), (4, .int (zI 0))]) [1, 2, 3, 4, 0] (dk DX2_fillBins_0k 1 rfl) (by decide) rfl ?_
  have LP3 : ∀ (fuel3 : Nat) (i : Nat) (f1 : Nat → Int), (i ≤ 36) → (∀ j, j < i → f1 j = 0) → 36 - i < fuel3 → Z p l e ({ frames := 2, cells := 0, slots := 0, locals := 42 } : Room) s m args below meth cd A D Q 7 0 0 [(r0, .inr (2, [.ref h0, .ref r1, .ref r2, .ref r3, .ref r4, .int (zI bn)])), (r1, bA D 250 g), (r2, iA D 250 st), (r3, lA D 250 ch), (r4, iA D 250 bo), (h0, .inr (3, [.ref h1, .ref h2, .ref h3, .ref h4, .ref h5, .ref h6, .int (zI ((w : Nat) : Int)), .int (zI ((n : Nat) : Int))])), (h1, iA D 11 S), (h2, iA D 4 F), (h3, iA D 4 L), (h4, iA D 250 K), (h5, iA D 250 T), (h6, iA D 250 U), (q0, iA D 36 f1)] [(0, .ref r0), (1, .ref q0), (2, .int (zI x)), (3, .int (zI y)), (4, .int (zI ((i : Nat) : Int)))] [] 3 := by
    intro fuel3
    induction fuel3 with
    | zero => intro i f1 hi hf hfu; exact absurd hfu (Nat.not_lt_zero _)
    | succ fuel3 ih3 =>
      intro i f1 hi hf hfu3
      refine zz_iload hC 4 (dk DX2_fillBins_0k 2 rfl) rfl ?_
      refine zz_bipush hC (dk DX2_fillBins_0k 3 rfl) (by decide) ?_
      refine zz_icmp_ge hC 28 (dk DX2_fillBins_0k 4 rfl) (by decide) ⟨⟨by omega, by omega⟩, (by decide)⟩ (fun c1 => ?_) (fun c1 => ?_)
      · refine zz_iconst hC (dk DX2_fillBins_0k 15 rfl) ?_
        refine zz_istore hC (ls' := [(0, .ref r0), (1, .ref q0), (2, .int (zI x)), (3, .int (zI y)), (4, .int (zI 0))]) [1, 2, 3, 4, 0] (dk DX2_fillBins_0k 16 rfl) (by decide) rfl ?_
        refine zz_iconst hC (dk DX2_fillBins_0k 17 rfl) ?_
        refine zz_istore hC (ls' := [(0, .ref r0), (1, .ref q0), (2, .int (zI x)), (3, .int (zI y)), (4, .int (zI 0)), (5, .int (zI 0))]) [1, 2, 3, 4, 5, 0] (dk DX2_fillBins_0k 18 rfl) (by decide) rfl ?_
        have LP34 : ∀ (fuel34 : Nat) (i : Nat) (c : Int) (f2 : Nat → Int), (i ≤ n) → (c = zCt (zAr st T x y) i) → (∀ b : Nat, b < 36 → f2 b = zCt (fun a => zAr st T x y a && decide (zPh T S a / 10 = (b : Int))) i) → n - i < fuel34 → Z p l e ({ frames := 2, cells := 0, slots := 0, locals := 42 } : Room) s m args below meth cd A D Q 7 0 0 [(r0, .inr (2, [.ref h0, .ref r1, .ref r2, .ref r3, .ref r4, .int (zI bn)])), (r1, bA D 250 g), (r2, iA D 250 st), (r3, lA D 250 ch), (r4, iA D 250 bo), (h0, .inr (3, [.ref h1, .ref h2, .ref h3, .ref h4, .ref h5, .ref h6, .int (zI ((w : Nat) : Int)), .int (zI ((n : Nat) : Int))])), (h1, iA D 11 S), (h2, iA D 4 F), (h3, iA D 4 L), (h4, iA D 250 K), (h5, iA D 250 T), (h6, iA D 250 U), (q0, iA D 36 f2)] [(0, .ref r0), (1, .ref q0), (2, .int (zI x)), (3, .int (zI y)), (4, .int (zI c)), (5, .int (zI ((i : Nat) : Int)))] [] 34 := by
          intro fuel34
          induction fuel34 with
          | zero => intro i c f2 hi hc hf hfu; exact absurd hfu (Nat.not_lt_zero _)
          | succ fuel34 ih34 =>
            intro i c f2 hi hc hf hfu34
            have hph := zPh_in (T := T) (S := S) (k := i)
            refine zz_iload hC 5 (dk DX2_fillBins_0k 19 rfl) rfl ?_
            refine zz_aload_n hC 0 (dk DX2_fillBins_0k 20 rfl) rfl rfl ?_
            refine zz_get hC F_X2_12 0 rfl rfl (dk DX2_fillBins_0k 21 rfl) ?_
            refine zz_getN hC F_X2_57 5 rfl rfl (dk DX2_fillBins_0k 22 rfl) ?_
            refine zz_icmp_ge hC 99 (dk DX2_fillBins_0k 23 rfl) (by decide) ⟨⟨by omega, by omega⟩, ⟨by omega, by omega⟩⟩ (fun c2 => ?_) (fun c2 => ?_)
            · refine zz_iload hC 4 (dk DX2_fillBins_0k 53 rfl) rfl ?_
              exact zz_iret hC hQ hr f2 (fun b hb => by have e : i = n := (by omega); rw [e] at hf; exact hf b hb) (by rw [hc]; congr 1; omega) [0, 1, 2, 3, 4, 5, 6, 7, 8, 9, 10, 11, 12] rfl rfl ⟨Nat.le_refl _, Nat.le_refl _⟩ (dk DX2_fillBins_0k 54 rfl)
            · refine zz_aload_n hC 0 (dk DX2_fillBins_0k 24 rfl) rfl rfl ?_
              refine zz_get hC F_X2_12 0 rfl rfl (dk DX2_fillBins_0k 25 rfl) ?_
              refine zz_iload hC 5 (dk DX2_fillBins_0k 26 rfl) rfl ?_
              refine zz_pureNi hC (c_X3_bin l D h0 h1 h2 h3 h4 h5 h6 S F L K T U w n i hg hs (by omega)) G_X2_94 H_X3_bin ⟨Nat.le_of_ble_eq_true rfl, Nat.le_of_ble_eq_true rfl⟩ rfl [5, 6, 7, 8, 9, 10, 11] rfl rfl 0 3 ⟨rfl, rfl, rfl⟩ (As := [.int (zI ((i : Nat) : Int))]) (rest := []) (Nat.le_of_ble_eq_true rfl) rfl ⟨Nat.le_of_ble_eq_true rfl, Nat.le_of_ble_eq_true rfl⟩ (dk DX2_fillBins_0k 27 rfl) ⟨rfl, rfl⟩ ?_
              refine zz_istore hC (ls' := [(0, .ref r0), (1, .ref q0), (2, .int (zI x)), (3, .int (zI y)), (4, .int (zI c)), (5, .int (zI ((i : Nat) : Int))), (6, .int (zI (zPh T S i / 10)))]) [1, 2, 3, 4, 5, 6, 0] (dk DX2_fillBins_0k 28 rfl) (by decide) rfl ?_
              refine zz_aload_n hC 0 (dk DX2_fillBins_0k 29 rfl) rfl rfl ?_
              refine zz_iload hC 5 (dk DX2_fillBins_0k 30 rfl) rfl ?_
              refine zz_iload_n hC 2 (dk DX2_fillBins_0k 31 rfl) rfl rfl ?_
              refine zz_i2l hC (dk DX2_fillBins_0k 32 rfl) ⟨by omega, by omega⟩ ?_
              refine zz_iload_n hC 3 (dk DX2_fillBins_0k 33 rfl) rfl rfl ?_
              refine zz_i2l hC (dk DX2_fillBins_0k 34 rfl) ⟨by omega, by omega⟩ ?_
              refine zz_pureVi hC (c_X2_isAccepted l D r0 r1 r2 r3 r4 g st ch bo bn h0 h1 h2 h3 h4 h5 h6 S F L K T U w n i x y hg hst6 (by omega) (by omega)) G_X2_90 H_X2_isAccepted ⟨Nat.le_of_ble_eq_true rfl, Nat.le_of_ble_eq_true rfl⟩ rfl [0, 1, 2, 3, 4, 5, 6, 7, 8, 9, 10, 11] rfl rfl 0 2 ⟨rfl, rfl, rfl⟩ (As := [.int (zI ((i : Nat) : Int)), .long (zL x), .long (zL y)]) (rest := []) (Nat.le_of_ble_eq_true rfl) rfl ⟨Nat.le_of_ble_eq_true rfl, Nat.le_of_ble_eq_true rfl⟩ (dk DX2_fillBins_0k 35 rfl) ⟨rfl, rfl⟩ ?_
              refine zz_ifb_eq hC 93 (dk DX2_fillBins_0k 36 rfl) (by decide) (fun c3 => ?_) (fun c3 => ?_)
              · refine zz_iinc hC ((i + 1 : Nat) : Int) (ls' := [(0, .ref r0), (1, .ref q0), (2, .int (zI x)), (3, .int (zI y)), (4, .int (zI c)), (5, .int (zI ((i + 1 : Nat) : Int))), (6, .int (zI (zPh T S i / 10)))]) 5 [1, 2, 3, 4, 5, 0, 6] (dk DX2_fillBins_0k 51 rfl) rfl (by omega) (by decide) rfl ?_
                refine zz_goto hC 34 (dk DX2_fillBins_0k 52 rfl) (by decide) ?_
                refine zz_ls [0, 1, 2, 3, 4, 5] rfl ?_
                exact ih34 (i + 1) c f2 (by omega) (zCt_k hc (by assumption)) (fb_k (V := fun a => zPh T S a / 10) hf (by assumption)) (by omega)
              · refine zz_iload hC 6 (dk DX2_fillBins_0k 37 rfl) rfl ?_
                refine zz_if_lt hC 93 (dk DX2_fillBins_0k 38 rfl) (by decide) ⟨by omega, by omega⟩ (fun c4 => ?_) (fun c4 => ?_)
                · exfalso; omega
                · refine zz_iload hC 6 (dk DX2_fillBins_0k 39 rfl) rfl ?_
                  refine zz_aload_n hC 1 (dk DX2_fillBins_0k 40 rfl) rfl rfl ?_
                  refine zz_alen hC 12 0 rfl rfl 36 rfl (dk DX2_fillBins_0k 41 rfl) ?_
                  refine zz_icmp_ge hC 93 (dk DX2_fillBins_0k 42 rfl) (by decide) ⟨⟨by omega, by omega⟩, ⟨by omega, by omega⟩⟩ (fun c5 => ?_) (fun c5 => ?_)
                  · exfalso; omega
                  · refine zz_aload_n hC 1 (dk DX2_fillBins_0k 43 rfl) rfl rfl ?_
                    refine zz_iload hC 6 (dk DX2_fillBins_0k 44 rfl) rfl ?_
                    refine zz_dup2 hC (dk DX2_fillBins_0k 45 rfl) rfl rfl ?_
                    refine zz_iald hC ((zPh T S i / 10)).toNat 12 rfl (by omega) (by omega) (dk DX2_fillBins_0k 46 rfl) ?_
                    refine zz_iconst hC (dk DX2_fillBins_0k 47 rfl) ?_
                    refine zz_iadd hC (dk DX2_fillBins_0k 48 rfl) ?_
                    refine zz_iast hC (ws' := [(r0, .inr (2, [.ref h0, .ref r1, .ref r2, .ref r3, .ref r4, .int (zI bn)])), (r1, bA D 250 g), (r2, iA D 250 st), (r3, lA D 250 ch), (r4, iA D 250 bo), (h0, .inr (3, [.ref h1, .ref h2, .ref h3, .ref h4, .ref h5, .ref h6, .int (zI ((w : Nat) : Int)), .int (zI ((n : Nat) : Int))])), (h1, iA D 11 S), (h2, iA D 4 F), (h3, iA D 4 L), (h4, iA D 250 K), (h5, iA D 250 T), (h6, iA D 250 U), (q0, iA D 36 (zU f2 (((zPh T S i / 10)).toNat) ((f2 (((zPh T S i / 10)).toNat)) + 1)))]) ((zPh T S i / 10)).toNat 12 rfl (by omega) (by omega) rfl (dk DX2_fillBins_0k 49 rfl) ?_
                    refine zz_iinc hC (c + 1) (ls' := [(0, .ref r0), (1, .ref q0), (2, .int (zI x)), (3, .int (zI y)), (4, .int (zI (c + 1))), (5, .int (zI ((i : Nat) : Int))), (6, .int (zI (zPh T S i / 10)))]) 4 [1, 2, 3, 4, 0, 5, 6] (dk DX2_fillBins_0k 50 rfl) rfl (by omega) (by decide) rfl ?_
                    refine zz_iinc hC ((i + 1 : Nat) : Int) (ls' := [(0, .ref r0), (1, .ref q0), (2, .int (zI x)), (3, .int (zI y)), (4, .int (zI (c + 1))), (5, .int (zI ((i + 1 : Nat) : Int))), (6, .int (zI (zPh T S i / 10)))]) 5 [1, 2, 3, 4, 5, 0, 6] (dk DX2_fillBins_0k 51 rfl) rfl (by omega) (by decide) rfl ?_
                    refine zz_goto hC 34 (dk DX2_fillBins_0k 52 rfl) (by decide) ?_
                    refine zz_ls [0, 1, 2, 3, 4, 5] rfl ?_
                    exact ih34 (i + 1) (c + 1) (zU f2 (((zPh T S i / 10)).toNat) ((f2 (((zPh T S i / 10)).toNat)) + 1)) (by omega) (zCt_s hc (by assumption)) (fb_s (V := fun a => zPh T S a / 10) hf (by assumption) (by show zPh T S i / 10 = _; omega)) (by omega)
        refine zz_ls [0, 1, 2, 3, 4, 5] rfl ?_
        exact LP34 _ 0 0 f1 (by omega) rfl (fun b hb => hf b (by omega)) (Nat.lt_succ_self _)
      · refine zz_iload hC 4 (dk DX2_fillBins_0k 5 rfl) rfl ?_
        refine zz_aload_n hC 1 (dk DX2_fillBins_0k 6 rfl) rfl rfl ?_
        refine zz_alen hC 12 0 rfl rfl 36 rfl (dk DX2_fillBins_0k 7 rfl) ?_
        refine zz_icmp_ge hC 28 (dk DX2_fillBins_0k 8 rfl) (by decide) ⟨⟨by omega, by omega⟩, ⟨by omega, by omega⟩⟩ (fun c6 => ?_) (fun c6 => ?_)
        · exfalso; omega
        · refine zz_aload_n hC 1 (dk DX2_fillBins_0k 9 rfl) rfl rfl ?_
          refine zz_iload hC 4 (dk DX2_fillBins_0k 10 rfl) rfl ?_
          refine zz_iconst hC (dk DX2_fillBins_0k 11 rfl) ?_
          refine zz_iast hC (ws' := [(r0, .inr (2, [.ref h0, .ref r1, .ref r2, .ref r3, .ref r4, .int (zI bn)])), (r1, bA D 250 g), (r2, iA D 250 st), (r3, lA D 250 ch), (r4, iA D 250 bo), (h0, .inr (3, [.ref h1, .ref h2, .ref h3, .ref h4, .ref h5, .ref h6, .int (zI ((w : Nat) : Int)), .int (zI ((n : Nat) : Int))])), (h1, iA D 11 S), (h2, iA D 4 F), (h3, iA D 4 L), (h4, iA D 250 K), (h5, iA D 250 T), (h6, iA D 250 U), (q0, iA D 36 (zU f1 i 0))]) i 12 rfl rfl (by omega) rfl (dk DX2_fillBins_0k 12 rfl) ?_
          refine zz_iinc hC ((i + 1 : Nat) : Int) (ls' := [(0, .ref r0), (1, .ref q0), (2, .int (zI x)), (3, .int (zI y)), (4, .int (zI ((i + 1 : Nat) : Int)))]) 4 [1, 2, 3, 4, 0] (dk DX2_fillBins_0k 13 rfl) rfl (by omega) (by decide) rfl ?_
          refine zz_goto hC 3 (dk DX2_fillBins_0k 14 rfl) (by decide) ?_
          refine zz_ls [0, 1, 2, 3, 4] rfl ?_
          exact ih3 (i + 1) (zU f1 i 0) (by omega) (fill_s (V := fun _ => 0) rfl hf) (by omega)
  refine zz_ls [0, 1, 2, 3, 4] rfl ?_
  exact LP3 _ 0 f (by omega) (fun j hj => absurd hj (by omega)) (Nat.lt_succ_self _)
set_option maxHeartbeats 4000000 in
set_option maxRecDepth 100000 in
theorem c_X2_aboutHalf (l : Launch) (D : zG) (r0 : Nat) (r1 : Nat) (r2 : Nat) (r3 : Nat) (r4 : Nat) (g : Nat → Int) (st : Nat → Int) (ch : Nat → Int) (bo : Nat → Int) (bn : Int) (h0 : Nat) (h1 : Nat) (h2 : Nat) (h3 : Nat) (h4 : Nat) (h5 : Nat) (h6 : Nat) (S : Nat → Int) (F : Nat → Int) (L : Nat → Int) (K : Nat → Int) (T : Nat → Int) (U : Nat → Int) (w : Nat) (n : Nat) (h : Int) (x : Int) (y : Int) (v : Int) (hg : zLog n K T U) (hs : zSet S) (hst6 : ∀ j, j < n → 0 ≤ st j ∧ st j ≤ 6) (hch : ∀ j, j < n → 0 ≤ ch j ∧ ch j ≤ 500000000) (hxy : 0 ≤ x ∧ x ≤ y ∧ y ≤ 1000000) (hh : 0 ≤ h ∧ h ≤ 1) (hv : 0 ≤ v ∧ v ≤ 5) : CL (S := Unit) l yX2_aboutHalf cX2_aboutHalf 19 ((some .long)) ({ frames := 2, cells := 0, slots := 0, locals := 42 } : Room) D [.ref r0, .int (zI h), .int (zI x), .int (zI y), .int (zI v)] [(r0, .inr (2, [.ref h0, .ref r1, .ref r2, .ref r3, .ref r4, .int (zI bn)])), (r1, bA D 250 g), (r2, iA D 250 st), (r3, lA D 250 ch), (r4, iA D 250 bo), (h0, .inr (3, [.ref h1, .ref h2, .ref h3, .ref h4, .ref h5, .ref h6, .int (zI ((w : Nat) : Int)), .int (zI ((n : Nat) : Int))])), (h1, iA D 11 S), (h2, iA D 4 F), (h3, iA D 4 L), (h4, iA D 250 K), (h5, iA D 250 T), (h6, iA D 250 U)] (fun _ => True) (fun _ => (zFe st T S U ch x y h v n)) (fun _ => [(r0, .inr (2, [.ref h0, .ref r1, .ref r2, .ref r3, .ref r4, .int (zI bn)])), (r1, bA D 250 g), (r2, iA D 250 st), (r3, lA D 250 ch), (r4, iA D 250 bo), (h0, .inr (3, [.ref h1, .ref h2, .ref h3, .ref h4, .ref h5, .ref h6, .int (zI ((w : Nat) : Int)), .int (zI ((n : Nat) : Int))])), (h1, iA D 11 S), (h2, iA D 4 F), (h3, iA D 4 L), (h4, iA D 250 K), (h5, iA D 250 T), (h6, iA D 250 U)]) := by
  refine CL_of (by decide) (Nat.le_of_ble_eq_true rfl) ?_
  intro p e s m args below meth cd A Q hQ hC hr hnm
  have hC : ZC p s m args meth cd A D 19 cX2_aboutHalf RX2 := hC
  have hg0 := hg
  obtain ⟨hn, hK, hT, hU, hM⟩ := hg0
  show Z p l e ({ frames := 2, cells := 0, slots := 0, locals := 42 } : Room) s m args below meth cd A D Q 19 0 0 [(r0, .inr (2, [.ref h0, .ref r1, .ref r2, .ref r3, .ref r4, .int (zI bn)])), (r1, bA D 250 g), (r2, iA D 250 st), (r3, lA D 250 ch), (r4, iA D 250 bo), (h0, .inr (3, [.ref h1, .ref h2, .ref h3, .ref h4, .ref h5, .ref h6, .int (zI ((w : Nat) : Int)), .int (zI ((n : Nat) : Int))])), (h1, iA D 11 S), (h2, iA D 4 F), (h3, iA D 4 L), (h4, iA D 250 K), (h5, iA D 250 T), (h6, iA D 250 U)] [(0, .ref r0), (1, .int (zI h)), (2, .int (zI x)), (3, .int (zI y)), (4, .int (zI v))] [] 0
  refine zz_lconst hC 0 (dk DX2_aboutHalf_0k 0 rfl) (by decide) ?_
  refine zz_lstore hC (ls' := [(0, .ref r0), (1, .int (zI h)), (2, .int (zI x)), (3, .int (zI y)), (4, .int (zI v)), (5, .long (zL 0))]) [1, 2, 3, 4, 5, 0] (dk DX2_aboutHalf_0k 1 rfl) (by decide) rfl ?_
  refine zz_lconst hC 0 (dk DX2_aboutHalf_0k 2 rfl) (by decide) ?_
  refine zz_lstore hC (ls' := [(0, .ref r0), (1, .int (zI h)), (2, .int (zI x)), (3, .int (zI y)), (4, .int (zI v)), (5, .long (zL 0)), (7, .long (zL 0))]) [1, 2, 3, 4, 5, 6, 0] (dk DX2_aboutHalf_0k 3 rfl) (by decide) rfl ?_
  refine zz_lconst hC 0 (dk DX2_aboutHalf_0k 4 rfl) (by decide) ?_
  refine zz_lstore hC (ls' := [(0, .ref r0), (1, .int (zI h)), (2, .int (zI x)), (3, .int (zI y)), (4, .int (zI v)), (5, .long (zL 0)), (7, .long (zL 0)), (9, .long (zL 0))]) [1, 2, 3, 4, 5, 6, 7, 0] (dk DX2_aboutHalf_0k 5 rfl) (by decide) rfl ?_
  refine zz_lconst hC 0 (dk DX2_aboutHalf_0k 6 rfl) (by decide) ?_
  refine zz_lstore hC (ls' := [(0, .ref r0), (1, .int (zI h)), (2, .int (zI x)), (3, .int (zI y)), (4, .int (zI v)), (5, .long (zL 0)), (7, .long (zL 0)), (9, .long (zL 0)), (11, .long (zL 0))]) [1, 2, 3, 4, 5, 6, 7, 8, 0] (dk DX2_aboutHalf_0k 7 rfl) (by decide) rfl ?_
  refine zz_ldc2 hC (-1) K_X2_97 (by decide) (dk DX2_aboutHalf_0k 8 rfl) ?_
  refine zz_lstore hC (ls' := [(0, .ref r0), (1, .int (zI h)), (2, .int (zI x)), (3, .int (zI y)), (4, .int (zI v)), (5, .long (zL 0)), (7, .long (zL 0)), (9, .long (zL 0)), (11, .long (zL 0)), (13, .long (zL (-1)))]) [1, 2, 3, 4, 5, 6, 7, 8, 9, 0] (dk DX2_aboutHalf_0k 9 rfl) (by decide) rfl ?_
  refine zz_ldc2 hC (-1) K_X2_97 (by decide) (dk DX2_aboutHalf_0k 10 rfl) ?_
  refine zz_lstore hC (ls' := [(0, .ref r0), (1, .int (zI h)), (2, .int (zI x)), (3, .int (zI y)), (4, .int (zI v)), (5, .long (zL 0)), (7, .long (zL 0)), (9, .long (zL 0)), (11, .long (zL 0)), (13, .long (zL (-1))), (15, .long (zL (-1)))]) [1, 2, 3, 4, 5, 6, 7, 8, 9, 10, 0] (dk DX2_aboutHalf_0k 11 rfl) (by decide) rfl ?_
  refine zz_iconst hC (dk DX2_aboutHalf_0k 12 rfl) ?_
  refine zz_istore hC (ls' := [(0, .ref r0), (1, .int (zI h)), (2, .int (zI x)), (3, .int (zI y)), (4, .int (zI v)), (5, .long (zL 0)), (7, .long (zL 0)), (9, .long (zL 0)), (11, .long (zL 0)), (13, .long (zL (-1))), (15, .long (zL (-1))), (17, .int (zI 0))]) [1, 2, 3, 4, 5, 6, 7, 8, 9, 10, 11, 0] (dk DX2_aboutHalf_0k 13 rfl) (by decide) rfl ?_
  have LP25 : ∀ (fuel25 : Nat) (i : Nat) (a1 : Int) (a2 : Int) (a3 : Int) (a4 : Int) (a5 : Int) (a6 : Int), (i ≤ n) → (a1 = zCt (zAh st T S x y h) i) → (a2 = zMx 0 (zAh st T S x y h) ch i) → (a3 = zSm (zAh st T S x y h) ch i) → (a4 = zCt (fun a => zAh st T S x y h a && decide (0 ≤ U a)) i) → (a5 = zMi (zAh st T S x y h) (zPh T S) i) → (a6 = zMx (-1) (zAh st T S x y h) (zPh T S) i) → n - i < fuel25 → Z p l e ({ frames := 2, cells := 0, slots := 0, locals := 42 } : Room) s m args below meth cd A D Q 19 0 0 [(r0, .inr (2, [.ref h0, .ref r1, .ref r2, .ref r3, .ref r4, .int (zI bn)])), (r1, bA D 250 g), (r2, iA D 250 st), (r3, lA D 250 ch), (r4, iA D 250 bo), (h0, .inr (3, [.ref h1, .ref h2, .ref h3, .ref h4, .ref h5, .ref h6, .int (zI ((w : Nat) : Int)), .int (zI ((n : Nat) : Int))])), (h1, iA D 11 S), (h2, iA D 4 F), (h3, iA D 4 L), (h4, iA D 250 K), (h5, iA D 250 T), (h6, iA D 250 U)] [(0, .ref r0), (1, .int (zI h)), (2, .int (zI x)), (3, .int (zI y)), (4, .int (zI v)), (5, .long (zL a1)), (7, .long (zL a2)), (9, .long (zL a3)), (11, .long (zL a4)), (13, .long (zL a5)), (15, .long (zL a6)), (17, .int (zI ((i : Nat) : Int)))] [] 25 := by
    intro fuel25
    induction fuel25 with
    | zero => intro i a1 a2 a3 a4 a5 a6 hi e1 e2 e3 e4 e5 e6 hfu; exact absurd hfu (Nat.not_lt_zero _)
    | succ fuel25 ih25 =>
      intro i a1 a2 a3 a4 a5 a6 hi e1 e2 e3 e4 e5 e6 hfu25
      have hph := zPh_in (T := T) (S := S) (k := i)
      have rr1 := zCt_in (P := zAh st T S x y h) (n := i)
      rw [← e1] at rr1
      have rr2 := zMx_in (d := 0) (lo := 0) (hi := 500000000) (P := zAh st T S x y h) (f := ch) (n := i) (by omega) (fun j hj => hch j (by omega))
      rw [← e2] at rr2
      have rr5 := zMi_in (lo := -1) (hi := 360) (P := zAh st T S x y h) (f := zPh T S) (n := i) (by omega) (fun j hj => by have := zPh_in (T := T) (S := S) (k := j); omega)
      rw [← e5] at rr5
      have rr6 := zMx_in (d := -1) (lo := -1) (hi := 360) (P := zAh st T S x y h) (f := zPh T S) (n := i) (by omega) (fun j hj => by have := zPh_in (T := T) (S := S) (k := j); omega)
      rw [← e6] at rr6
      refine zz_iload hC 11 (dk DX2_aboutHalf_0k 14 rfl) rfl ?_
      refine zz_aload_n hC 0 (dk DX2_aboutHalf_0k 15 rfl) rfl rfl ?_
      refine zz_get hC F_X2_12 0 rfl rfl (dk DX2_aboutHalf_0k 16 rfl) ?_
      refine zz_getN hC F_X2_57 5 rfl rfl (dk DX2_aboutHalf_0k 17 rfl) ?_
      refine zz_icmp_ge hC 171 (dk DX2_aboutHalf_0k 18 rfl) (by decide) ⟨⟨by omega, by omega⟩, ⟨by omega, by omega⟩⟩ (fun c1 => ?_) (fun c1 => ?_)
      · have hin : i = n := by omega
        rw [hin] at e1 e2 e3 e4 e5 e6
        refine zz_iload hC 4 (dk DX2_aboutHalf_1k 29 rfl) rfl ?_
        rcases (show v = 0 ∨ v = 1 ∨ v = 2 ∨ v = 3 ∨ v = 4 ∨ (v < 0 ∨ 4 < v) by omega) with sw2 | sw2 | sw2 | sw2 | sw2 | sw2
        · refine zz_tabIn hC 208 (dk DX2_aboutHalf_1k 30 rfl) 0 rfl sw2 rfl (by decide) ?_
          refine zz_lload hC 5 (dk DX2_aboutHalf_1k 31 rfl) rfl ?_
          exact zz_lret hC hQ hr () trivial (by unfold zFe; rw [e1, if_pos (by omega)]) [0, 1, 2, 3, 4, 5, 6, 7, 8, 9, 10, 11] rfl rfl ⟨Nat.le_refl _, Nat.le_refl _⟩ (dk DX2_aboutHalf_1k 32 rfl)
        · refine zz_tabIn hC 211 (dk DX2_aboutHalf_1k 30 rfl) 1 rfl sw2 rfl (by decide) ?_
          refine zz_lload hC 6 (dk DX2_aboutHalf_1k 33 rfl) rfl ?_
          exact zz_lret hC hQ hr () trivial (by unfold zFe; rw [e2, if_neg (by omega), if_pos (by omega)]) [0, 1, 2, 3, 4, 5, 6, 7, 8, 9, 10, 11] rfl rfl ⟨Nat.le_refl _, Nat.le_refl _⟩ (dk DX2_aboutHalf_1k 34 rfl)
        · refine zz_tabIn hC 214 (dk DX2_aboutHalf_1k 30 rfl) 2 rfl sw2 rfl (by decide) ?_
          refine zz_lload hC 7 (dk DX2_aboutHalf_1k 35 rfl) rfl ?_
          exact zz_lret hC hQ hr () trivial (by unfold zFe; rw [e3, if_neg (by omega), if_neg (by omega), if_pos (by omega)]) [0, 1, 2, 3, 4, 5, 6, 7, 8, 9, 10, 11] rfl rfl ⟨Nat.le_refl _, Nat.le_refl _⟩ (dk DX2_aboutHalf_1k 36 rfl)
        · refine zz_tabIn hC 217 (dk DX2_aboutHalf_1k 30 rfl) 3 rfl sw2 rfl (by decide) ?_
          refine zz_lload hC 8 (dk DX2_aboutHalf_1k 37 rfl) rfl ?_
          exact zz_lret hC hQ hr () trivial (by unfold zFe; rw [e4, if_neg (by omega), if_neg (by omega), if_neg (by omega), if_pos (by omega)]) [0, 1, 2, 3, 4, 5, 6, 7, 8, 9, 10, 11] rfl rfl ⟨Nat.le_refl _, Nat.le_refl _⟩ (dk DX2_aboutHalf_1k 38 rfl)
        · refine zz_tabIn hC 220 (dk DX2_aboutHalf_1k 30 rfl) 4 rfl sw2 rfl (by decide) ?_
          refine zz_lload hC 9 (dk DX2_aboutHalf_1k 39 rfl) rfl ?_
          exact zz_lret hC hQ hr () trivial (by unfold zFe; rw [e5, if_neg (by omega), if_neg (by omega), if_neg (by omega), if_neg (by omega), if_pos (by omega)]) [0, 1, 2, 3, 4, 5, 6, 7, 8, 9, 10, 11] rfl rfl ⟨Nat.le_refl _, Nat.le_refl _⟩ (dk DX2_aboutHalf_1k 40 rfl)
        · refine zz_tabOut hC 223 (dk DX2_aboutHalf_1k 30 rfl) ⟨by omega, by omega⟩ sw2 (by decide) ?_
          refine zz_lload hC 10 (dk DX2_aboutHalf_1k 41 rfl) rfl ?_
          exact zz_lret hC hQ hr () trivial (by unfold zFe; rw [e6, if_neg (by omega), if_neg (by omega), if_neg (by omega), if_neg (by omega), if_neg (by omega)]) [0, 1, 2, 3, 4, 5, 6, 7, 8, 9, 10, 11] rfl rfl ⟨Nat.le_refl _, Nat.le_refl _⟩ (dk DX2_aboutHalf_1k 42 rfl)
      · refine zz_aload_n hC 0 (dk DX2_aboutHalf_0k 19 rfl) rfl rfl ?_
        refine zz_iload hC 11 (dk DX2_aboutHalf_0k 20 rfl) rfl ?_
        refine zz_iload_n hC 2 (dk DX2_aboutHalf_0k 21 rfl) rfl rfl ?_
        refine zz_i2l hC (dk DX2_aboutHalf_0k 22 rfl) ⟨by omega, by omega⟩ ?_
        refine zz_iload_n hC 3 (dk DX2_aboutHalf_0k 23 rfl) rfl rfl ?_
        refine zz_i2l hC (dk DX2_aboutHalf_0k 24 rfl) ⟨by omega, by omega⟩ ?_
        refine zz_pureVi hC (c_X2_isAccepted l D r0 r1 r2 r3 r4 g st ch bo bn h0 h1 h2 h3 h4 h5 h6 S F L K T U w n i x y hg hst6 (by omega) (by omega)) G_X2_90 H_X2_isAccepted ⟨Nat.le_of_ble_eq_true rfl, Nat.le_of_ble_eq_true rfl⟩ rfl [0, 1, 2, 3, 4, 5, 6, 7, 8, 9, 10, 11] rfl rfl 0 2 ⟨rfl, rfl, rfl⟩ (As := [.int (zI ((i : Nat) : Int)), .long (zL x), .long (zL y)]) (rest := []) (Nat.le_of_ble_eq_true rfl) rfl ⟨Nat.le_of_ble_eq_true rfl, Nat.le_of_ble_eq_true rfl⟩ (dk DX2_aboutHalf_0k 25 rfl) ⟨rfl, rfl⟩ ?_
        refine zz_ifb_eq hC 165 (dk DX2_aboutHalf_0k 26 rfl) (by decide) (fun c3 => ?_) (fun c3 => ?_)
        · refine zz_iinc hC ((i + 1 : Nat) : Int) (ls' := [(0, .ref r0), (1, .int (zI h)), (2, .int (zI x)), (3, .int (zI y)), (4, .int (zI v)), (5, .long (zL a1)), (7, .long (zL a2)), (9, .long (zL a3)), (11, .long (zL a4)), (13, .long (zL a5)), (15, .long (zL a6)), (17, .int (zI ((i + 1 : Nat) : Int)))]) 11 [1, 2, 3, 4, 5, 6, 7, 8, 9, 10, 11, 0] (dk DX2_aboutHalf_1k 27 rfl) rfl (by omega) (by decide) rfl ?_
          refine zz_goto hC 25 (dk DX2_aboutHalf_1k 28 rfl) (by decide) ?_
          refine zz_ls [0, 1, 2, 3, 4, 5, 6, 7, 8, 9, 10, 11] rfl ?_
          exact ih25 (i + 1) a1 a2 a3 a4 a5 a6 (by omega) (zCt_k e1 (by unfold zAh; rw [Bool.and_eq_true, decide_eq_true_eq]; intro q; first | exact absurd q.1 (by assumption) | exact absurd q.2 (by assumption))) (zMx_k e2 (by unfold zAh; rw [Bool.and_eq_true, decide_eq_true_eq]; intro q; first | exact absurd q.1 (by assumption) | exact absurd q.2 (by assumption))) (zSm_k e3 (by unfold zAh; rw [Bool.and_eq_true, decide_eq_true_eq]; intro q; first | exact absurd q.1 (by assumption) | exact absurd q.2 (by assumption))) (zCt_k e4 (by rw [Bool.and_eq_true]; intro q; exact absurd q.1 (by unfold zAh; rw [Bool.and_eq_true, decide_eq_true_eq]; intro q; first | exact absurd q.1 (by assumption) | exact absurd q.2 (by assumption)))) (zMi_k e5 (by unfold zAh; rw [Bool.and_eq_true, decide_eq_true_eq]; intro q; first | exact absurd q.1 (by assumption) | exact absurd q.2 (by assumption))) (zMx_k e6 (by unfold zAh; rw [Bool.and_eq_true, decide_eq_true_eq]; intro q; first | exact absurd q.1 (by assumption) | exact absurd q.2 (by assumption))) (by omega)
        · refine zz_aload_n hC 0 (dk DX2_aboutHalf_0k 27 rfl) rfl rfl ?_
          refine zz_get hC F_X2_12 0 rfl rfl (dk DX2_aboutHalf_0k 28 rfl) ?_
          refine zz_iload hC 11 (dk DX2_aboutHalf_0k 29 rfl) rfl ?_
          refine zz_pureNi hC (c_X3_bin l D h0 h1 h2 h3 h4 h5 h6 S F L K T U w n i hg hs (by omega)) G_X2_94 H_X3_bin ⟨Nat.le_of_ble_eq_true rfl, Nat.le_of_ble_eq_true rfl⟩ rfl [5, 6, 7, 8, 9, 10, 11] rfl rfl 0 3 ⟨rfl, rfl, rfl⟩ (As := [.int (zI ((i : Nat) : Int))]) (rest := []) (Nat.le_of_ble_eq_true rfl) rfl ⟨Nat.le_of_ble_eq_true rfl, Nat.le_of_ble_eq_true rfl⟩ (dk DX2_aboutHalf_0k 30 rfl) ⟨rfl, rfl⟩ ?_
          refine zz_bipush hC (dk DX2_aboutHalf_0k 31 rfl) (by decide) ?_
          refine zz_idiv hC (dk DX2_aboutHalf_0k 32 rfl) ⟨⟨⟨by omega, by omega⟩, (by decide)⟩, by omega, by omega⟩ ?_
          refine zz_iload_n hC 1 (dk DX2_aboutHalf_0k 33 rfl) rfl rfl ?_
          refine zz_icmp_ne hC 165 (dk DX2_aboutHalf_0k 34 rfl) (by decide) ⟨⟨by omega, by omega⟩, ⟨by omega, by omega⟩⟩ (fun c4 => ?_) (fun c4 => ?_)
          · refine zz_iinc hC ((i + 1 : Nat) : Int) (ls' := [(0, .ref r0), (1, .int (zI h)), (2, .int (zI x)), (3, .int (zI y)), (4, .int (zI v)), (5, .long (zL a1)), (7, .long (zL a2)), (9, .long (zL a3)), (11, .long (zL a4)), (13, .long (zL a5)), (15, .long (zL a6)), (17, .int (zI ((i + 1 : Nat) : Int)))]) 11 [1, 2, 3, 4, 5, 6, 7, 8, 9, 10, 11, 0] (dk DX2_aboutHalf_1k 27 rfl) rfl (by omega) (by decide) rfl ?_
            refine zz_goto hC 25 (dk DX2_aboutHalf_1k 28 rfl) (by decide) ?_
            refine zz_ls [0, 1, 2, 3, 4, 5, 6, 7, 8, 9, 10, 11] rfl ?_
            exact ih25 (i + 1) a1 a2 a3 a4 a5 a6 (by omega) (zCt_k e1 (by unfold zAh; rw [Bool.and_eq_true, decide_eq_true_eq]; intro q; first | exact absurd q.1 (by assumption) | exact absurd q.2 (by assumption))) (zMx_k e2 (by unfold zAh; rw [Bool.and_eq_true, decide_eq_true_eq]; intro q; first | exact absurd q.1 (by assumption) | exact absurd q.2 (by assumption))) (zSm_k e3 (by unfold zAh; rw [Bool.and_eq_true, decide_eq_true_eq]; intro q; first | exact absurd q.1 (by assumption) | exact absurd q.2 (by assumption))) (zCt_k e4 (by rw [Bool.and_eq_true]; intro q; exact absurd q.1 (by unfold zAh; rw [Bool.and_eq_true, decide_eq_true_eq]; intro q; first | exact absurd q.1 (by assumption) | exact absurd q.2 (by assumption)))) (zMi_k e5 (by unfold zAh; rw [Bool.and_eq_true, decide_eq_true_eq]; intro q; first | exact absurd q.1 (by assumption) | exact absurd q.2 (by assumption))) (zMx_k e6 (by unfold zAh; rw [Bool.and_eq_true, decide_eq_true_eq]; intro q; first | exact absurd q.1 (by assumption) | exact absurd q.2 (by assumption))) (by omega)
          · refine zz_aload_n hC 0 (dk DX2_aboutHalf_0k 35 rfl) rfl rfl ?_
            refine zz_get hC F_X2_12 0 rfl rfl (dk DX2_aboutHalf_0k 36 rfl) ?_
            refine zz_iload hC 11 (dk DX2_aboutHalf_0k 37 rfl) rfl ?_
            refine zz_pureNi hC (c_X3_phase l D h0 h1 h2 h3 h4 h5 h6 S F L K T U w n i hg hs (by omega)) G_X2_78 H_X3_phase ⟨Nat.le_of_ble_eq_true rfl, Nat.le_of_ble_eq_true rfl⟩ rfl [5, 6, 7, 8, 9, 10, 11] rfl rfl 0 3 ⟨rfl, rfl, rfl⟩ (As := [.int (zI ((i : Nat) : Int))]) (rest := []) (Nat.le_of_ble_eq_true rfl) rfl ⟨Nat.le_of_ble_eq_true rfl, Nat.le_of_ble_eq_true rfl⟩ (dk DX2_aboutHalf_0k 38 rfl) ⟨rfl, rfl⟩ ?_
            refine zz_istore hC (ls' := [(0, .ref r0), (1, .int (zI h)), (2, .int (zI x)), (3, .int (zI y)), (4, .int (zI v)), (5, .long (zL a1)), (7, .long (zL a2)), (9, .long (zL a3)), (11, .long (zL a4)), (13, .long (zL a5)), (15, .long (zL a6)), (17, .int (zI ((i : Nat) : Int))), (18, .int (zI (zPh T S i)))]) [1, 2, 3, 4, 5, 6, 7, 8, 9, 10, 11, 12, 0] (dk DX2_aboutHalf_0k 39 rfl) (by decide) rfl ?_
            refine zz_lload hC 5 (dk DX2_aboutHalf_0k 40 rfl) rfl ?_
            refine zz_lconst hC 1 (dk DX2_aboutHalf_0k 41 rfl) (by decide) ?_
            refine zz_ladd hC (dk DX2_aboutHalf_0k 42 rfl) ?_
            refine zz_lstore hC (ls' := [(0, .ref r0), (1, .int (zI h)), (2, .int (zI x)), (3, .int (zI y)), (4, .int (zI v)), (5, .long (zL (a1 + 1))), (7, .long (zL a2)), (9, .long (zL a3)), (11, .long (zL a4)), (13, .long (zL a5)), (15, .long (zL a6)), (17, .int (zI ((i : Nat) : Int))), (18, .int (zI (zPh T S i)))]) [1, 2, 3, 4, 5, 0, 6, 7, 8, 9, 10, 11, 12] (dk DX2_aboutHalf_0k 43 rfl) (by decide) rfl ?_
            refine zz_lload hC 6 (dk DX2_aboutHalf_0k 44 rfl) rfl ?_
            refine zz_aload_n hC 0 (dk DX2_aboutHalf_0k 45 rfl) rfl rfl ?_
            refine zz_get hC F_X2_26 0 rfl rfl (dk DX2_aboutHalf_0k 46 rfl) ?_
            refine zz_iload hC 11 (dk DX2_aboutHalf_0k 47 rfl) rfl ?_
            refine zz_lald hC i 3 rfl rfl (by omega) (dk DX2_aboutHalf_0k 48 rfl) ?_
            have hf5 := hch i (by omega)
            refine zz_mmaxl hC Q_X2_99 Q_mmaxl ⟨Nat.le_of_ble_eq_true rfl, Nat.le_of_ble_eq_true rfl⟩ ⟨Nat.zero_le _, Nat.zero_le _⟩ ⟨⟨by omega, by omega⟩, ⟨by omega, by omega⟩⟩ (dk DX2_aboutHalf_0k 49 rfl) ?_
            refine zz_lstore hC (ls' := [(0, .ref r0), (1, .int (zI h)), (2, .int (zI x)), (3, .int (zI y)), (4, .int (zI v)), (5, .long (zL (a1 + 1))), (7, .long (zL (max a2 (ch i)))), (9, .long (zL a3)), (11, .long (zL a4)), (13, .long (zL a5)), (15, .long (zL a6)), (17, .int (zI ((i : Nat) : Int))), (18, .int (zI (zPh T S i)))]) [1, 2, 3, 4, 5, 6, 0, 7, 8, 9, 10, 11, 12] (dk DX2_aboutHalf_0k 50 rfl) (by decide) rfl ?_
            refine zz_lload hC 7 (dk DX2_aboutHalf_0k 51 rfl) rfl ?_
            refine zz_aload_n hC 0 (dk DX2_aboutHalf_0k 52 rfl) rfl rfl ?_
            refine zz_get hC F_X2_26 0 rfl rfl (dk DX2_aboutHalf_0k 53 rfl) ?_
            refine zz_iload hC 11 (dk DX2_aboutHalf_0k 54 rfl) rfl ?_
            refine zz_lald hC i 3 rfl rfl (by omega) (dk DX2_aboutHalf_0k 55 rfl) ?_
            have hf6 := hch i (by omega)
            refine zz_ladd hC (dk DX2_aboutHalf_0k 56 rfl) ?_
            refine zz_lstore hC (ls' := [(0, .ref r0), (1, .int (zI h)), (2, .int (zI x)), (3, .int (zI y)), (4, .int (zI v)), (5, .long (zL (a1 + 1))), (7, .long (zL (max a2 (ch i)))), (9, .long (zL (a3 + (ch i)))), (11, .long (zL a4)), (13, .long (zL a5)), (15, .long (zL a6)), (17, .int (zI ((i : Nat) : Int))), (18, .int (zI (zPh T S i)))]) [1, 2, 3, 4, 5, 6, 7, 0, 8, 9, 10, 11, 12] (dk DX2_aboutHalf_0k 57 rfl) (by decide) rfl ?_
            refine zz_lload hC 8 (dk DX2_aboutHalf_0k 58 rfl) rfl ?_
            refine zz_aload_n hC 0 (dk DX2_aboutHalf_0k 59 rfl) rfl rfl ?_
            refine zz_get hC F_X2_12 0 rfl rfl (dk DX2_aboutHalf_1k 0 rfl) ?_
            refine zz_getN hC F_X2_85 5 rfl rfl (dk DX2_aboutHalf_1k 1 rfl) ?_
            refine zz_iload hC 11 (dk DX2_aboutHalf_1k 2 rfl) rfl ?_
            refine zz_iald hC i 11 rfl rfl (by omega) (dk DX2_aboutHalf_1k 3 rfl) ?_
            have hf7 := hU i (by omega)
            refine zz_if_lt hC 128 (dk DX2_aboutHalf_1k 4 rfl) (by decide) ⟨by omega, by omega⟩ (fun c8 => ?_) (fun c8 => ?_)
            · refine zz_lconst hC 0 (dk DX2_aboutHalf_1k 7 rfl) (by decide) ?_
              refine zz_ladd hC (dk DX2_aboutHalf_1k 8 rfl) ?_
              refine zz_lstore hC (ls' := [(0, .ref r0), (1, .int (zI h)), (2, .int (zI x)), (3, .int (zI y)), (4, .int (zI v)), (5, .long (zL (a1 + 1))), (7, .long (zL (max a2 (ch i)))), (9, .long (zL (a3 + (ch i)))), (11, .long (zL (a4 + 0))), (13, .long (zL a5)), (15, .long (zL a6)), (17, .int (zI ((i : Nat) : Int))), (18, .int (zI (zPh T S i)))]) [1, 2, 3, 4, 5, 6, 7, 8, 0, 9, 10, 11, 12] (dk DX2_aboutHalf_1k 9 rfl) (by decide) rfl ?_
              refine zz_lload hC 5 (dk DX2_aboutHalf_1k 10 rfl) rfl ?_
              refine zz_lconst hC 1 (dk DX2_aboutHalf_1k 11 rfl) (by decide) ?_
              refine zz_lcmp_ne hC 145 (dk DX2_aboutHalf_1k 12 rfl) (dk DX2_aboutHalf_1k 13 rfl) (by decide) ⟨⟨by omega, by omega⟩, (by decide)⟩ (fun c9 => ?_) (fun c9 => ?_)
              · refine zz_lload hC 9 (dk DX2_aboutHalf_1k 17 rfl) rfl ?_
                refine zz_iload hC 12 (dk DX2_aboutHalf_1k 18 rfl) rfl ?_
                refine zz_i2l hC (dk DX2_aboutHalf_1k 19 rfl) ⟨by omega, by omega⟩ ?_
                refine zz_mminl hC Q_X2_105 Q_mminl ⟨Nat.le_of_ble_eq_true rfl, Nat.le_of_ble_eq_true rfl⟩ ⟨Nat.zero_le _, Nat.zero_le _⟩ ⟨⟨by omega, by omega⟩, ⟨by omega, by omega⟩⟩ (dk DX2_aboutHalf_1k 20 rfl) ?_
                refine zz_lstore hC (ls' := [(0, .ref r0), (1, .int (zI h)), (2, .int (zI x)), (3, .int (zI y)), (4, .int (zI v)), (5, .long (zL (a1 + 1))), (7, .long (zL (max a2 (ch i)))), (9, .long (zL (a3 + (ch i)))), (11, .long (zL (a4 + 0))), (13, .long (zL (min a5 (zPh T S i)))), (15, .long (zL a6)), (17, .int (zI ((i : Nat) : Int))), (18, .int (zI (zPh T S i)))]) [1, 2, 3, 4, 5, 6, 7, 8, 9, 0, 10, 11, 12] (dk DX2_aboutHalf_1k 21 rfl) (by decide) rfl ?_
                refine zz_lload hC 10 (dk DX2_aboutHalf_1k 22 rfl) rfl ?_
                refine zz_iload hC 12 (dk DX2_aboutHalf_1k 23 rfl) rfl ?_
                refine zz_i2l hC (dk DX2_aboutHalf_1k 24 rfl) ⟨by omega, by omega⟩ ?_
                refine zz_mmaxl hC Q_X2_99 Q_mmaxl ⟨Nat.le_of_ble_eq_true rfl, Nat.le_of_ble_eq_true rfl⟩ ⟨Nat.zero_le _, Nat.zero_le _⟩ ⟨⟨by omega, by omega⟩, ⟨by omega, by omega⟩⟩ (dk DX2_aboutHalf_1k 25 rfl) ?_
                refine zz_lstore hC (ls' := [(0, .ref r0), (1, .int (zI h)), (2, .int (zI x)), (3, .int (zI y)), (4, .int (zI v)), (5, .long (zL (a1 + 1))), (7, .long (zL (max a2 (ch i)))), (9, .long (zL (a3 + (ch i)))), (11, .long (zL (a4 + 0))), (13, .long (zL (min a5 (zPh T S i)))), (15, .long (zL (max a6 (zPh T S i)))), (17, .int (zI ((i : Nat) : Int))), (18, .int (zI (zPh T S i)))]) [1, 2, 3, 4, 5, 6, 7, 8, 9, 10, 0, 11, 12] (dk DX2_aboutHalf_1k 26 rfl) (by decide) rfl ?_
                refine zz_iinc hC ((i + 1 : Nat) : Int) (ls' := [(0, .ref r0), (1, .int (zI h)), (2, .int (zI x)), (3, .int (zI y)), (4, .int (zI v)), (5, .long (zL (a1 + 1))), (7, .long (zL (max a2 (ch i)))), (9, .long (zL (a3 + (ch i)))), (11, .long (zL (a4 + 0))), (13, .long (zL (min a5 (zPh T S i)))), (15, .long (zL (max a6 (zPh T S i)))), (17, .int (zI ((i + 1 : Nat) : Int))), (18, .int (zI (zPh T S i)))]) 11 [1, 2, 3, 4, 5, 6, 7, 8, 9, 10, 11, 0, 12] (dk DX2_aboutHalf_1k 27 rfl) rfl (by omega) (by decide) rfl ?_
                refine zz_goto hC 25 (dk DX2_aboutHalf_1k 28 rfl) (by decide) ?_
                refine zz_ls [0, 1, 2, 3, 4, 5, 6, 7, 8, 9, 10, 11] rfl ?_
                exact ih25 (i + 1) (a1 + 1) (max a2 (ch i)) (a3 + (ch i)) (a4 + 0) (min a5 (zPh T S i)) (max a6 (zPh T S i)) (by omega) (zCt_s e1 (by unfold zAh; rw [Bool.and_eq_true]; exact ⟨by assumption, decide_eq_true (by assumption)⟩)) (zMx_s e2 (by unfold zAh; rw [Bool.and_eq_true]; exact ⟨by assumption, decide_eq_true (by assumption)⟩)) (zSm_s e3 (by unfold zAh; rw [Bool.and_eq_true]; exact ⟨by assumption, decide_eq_true (by assumption)⟩)) (by rw [Int.add_zero]; exact zCt_k e4 (by rw [Bool.and_eq_true, decide_eq_true_eq]; intro q; have := q.2; omega)) (zMi_s1 e5 (by unfold zAh; rw [Bool.and_eq_true]; exact ⟨by assumption, decide_eq_true (by assumption)⟩) (by omega)) (zMx_s e6 (by unfold zAh; rw [Bool.and_eq_true]; exact ⟨by assumption, decide_eq_true (by assumption)⟩)) (by omega)
              · refine zz_iload hC 12 (dk DX2_aboutHalf_1k 14 rfl) rfl ?_
                refine zz_i2l hC (dk DX2_aboutHalf_1k 15 rfl) ⟨by omega, by omega⟩ ?_
                refine zz_goto hC 153 (dk DX2_aboutHalf_1k 16 rfl) (by decide) ?_
                refine zz_lstore hC (ls' := [(0, .ref r0), (1, .int (zI h)), (2, .int (zI x)), (3, .int (zI y)), (4, .int (zI v)), (5, .long (zL (a1 + 1))), (7, .long (zL (max a2 (ch i)))), (9, .long (zL (a3 + (ch i)))), (11, .long (zL (a4 + 0))), (13, .long (zL (zPh T S i))), (15, .long (zL a6)), (17, .int (zI ((i : Nat) : Int))), (18, .int (zI (zPh T S i)))]) [1, 2, 3, 4, 5, 6, 7, 8, 9, 0, 10, 11, 12] (dk DX2_aboutHalf_1k 21 rfl) (by decide) rfl ?_
                refine zz_lload hC 10 (dk DX2_aboutHalf_1k 22 rfl) rfl ?_
                refine zz_iload hC 12 (dk DX2_aboutHalf_1k 23 rfl) rfl ?_
                refine zz_i2l hC (dk DX2_aboutHalf_1k 24 rfl) ⟨by omega, by omega⟩ ?_
                refine zz_mmaxl hC Q_X2_99 Q_mmaxl ⟨Nat.le_of_ble_eq_true rfl, Nat.le_of_ble_eq_true rfl⟩ ⟨Nat.zero_le _, Nat.zero_le _⟩ ⟨⟨by omega, by omega⟩, ⟨by omega, by omega⟩⟩ (dk DX2_aboutHalf_1k 25 rfl) ?_
                refine zz_lstore hC (ls' := [(0, .ref r0), (1, .int (zI h)), (2, .int (zI x)), (3, .int (zI y)), (4, .int (zI v)), (5, .long (zL (a1 + 1))), (7, .long (zL (max a2 (ch i)))), (9, .long (zL (a3 + (ch i)))), (11, .long (zL (a4 + 0))), (13, .long (zL (zPh T S i))), (15, .long (zL (max a6 (zPh T S i)))), (17, .int (zI ((i : Nat) : Int))), (18, .int (zI (zPh T S i)))]) [1, 2, 3, 4, 5, 6, 7, 8, 9, 10, 0, 11, 12] (dk DX2_aboutHalf_1k 26 rfl) (by decide) rfl ?_
                refine zz_iinc hC ((i + 1 : Nat) : Int) (ls' := [(0, .ref r0), (1, .int (zI h)), (2, .int (zI x)), (3, .int (zI y)), (4, .int (zI v)), (5, .long (zL (a1 + 1))), (7, .long (zL (max a2 (ch i)))), (9, .long (zL (a3 + (ch i)))), (11, .long (zL (a4 + 0))), (13, .long (zL (zPh T S i))), (15, .long (zL (max a6 (zPh T S i)))), (17, .int (zI ((i + 1 : Nat) : Int))), (18, .int (zI (zPh T S i)))]) 11 [1, 2, 3, 4, 5, 6, 7, 8, 9, 10, 11, 0, 12] (dk DX2_aboutHalf_1k 27 rfl) rfl (by omega) (by decide) rfl ?_
                refine zz_goto hC 25 (dk DX2_aboutHalf_1k 28 rfl) (by decide) ?_
                refine zz_ls [0, 1, 2, 3, 4, 5, 6, 7, 8, 9, 10, 11] rfl ?_
                exact ih25 (i + 1) (a1 + 1) (max a2 (ch i)) (a3 + (ch i)) (a4 + 0) (zPh T S i) (max a6 (zPh T S i)) (by omega) (zCt_s e1 (by unfold zAh; rw [Bool.and_eq_true]; exact ⟨by assumption, decide_eq_true (by assumption)⟩)) (zMx_s e2 (by unfold zAh; rw [Bool.and_eq_true]; exact ⟨by assumption, decide_eq_true (by assumption)⟩)) (zSm_s e3 (by unfold zAh; rw [Bool.and_eq_true]; exact ⟨by assumption, decide_eq_true (by assumption)⟩)) (by rw [Int.add_zero]; exact zCt_k e4 (by rw [Bool.and_eq_true, decide_eq_true_eq]; intro q; have := q.2; omega)) (zMi_s0 (f := zPh T S) (by unfold zAh; rw [Bool.and_eq_true]; exact ⟨by assumption, decide_eq_true (by assumption)⟩) (by omega)) (zMx_s e6 (by unfold zAh; rw [Bool.and_eq_true]; exact ⟨by assumption, decide_eq_true (by assumption)⟩)) (by omega)
            · refine zz_lconst hC 1 (dk DX2_aboutHalf_1k 5 rfl) (by decide) ?_
              refine zz_goto hC 129 (dk DX2_aboutHalf_1k 6 rfl) (by decide) ?_
              refine zz_ladd hC (dk DX2_aboutHalf_1k 8 rfl) ?_
              refine zz_lstore hC (ls' := [(0, .ref r0), (1, .int (zI h)), (2, .int (zI x)), (3, .int (zI y)), (4, .int (zI v)), (5, .long (zL (a1 + 1))), (7, .long (zL (max a2 (ch i)))), (9, .long (zL (a3 + (ch i)))), (11, .long (zL (a4 + 1))), (13, .long (zL a5)), (15, .long (zL a6)), (17, .int (zI ((i : Nat) : Int))), (18, .int (zI (zPh T S i)))]) [1, 2, 3, 4, 5, 6, 7, 8, 0, 9, 10, 11, 12] (dk DX2_aboutHalf_1k 9 rfl) (by decide) rfl ?_
              refine zz_lload hC 5 (dk DX2_aboutHalf_1k 10 rfl) rfl ?_
              refine zz_lconst hC 1 (dk DX2_aboutHalf_1k 11 rfl) (by decide) ?_
              refine zz_lcmp_ne hC 145 (dk DX2_aboutHalf_1k 12 rfl) (dk DX2_aboutHalf_1k 13 rfl) (by decide) ⟨⟨by omega, by omega⟩, (by decide)⟩ (fun c10 => ?_) (fun c10 => ?_)
              · refine zz_lload hC 9 (dk DX2_aboutHalf_1k 17 rfl) rfl ?_
                refine zz_iload hC 12 (dk DX2_aboutHalf_1k 18 rfl) rfl ?_
                refine zz_i2l hC (dk DX2_aboutHalf_1k 19 rfl) ⟨by omega, by omega⟩ ?_
                refine zz_mminl hC Q_X2_105 Q_mminl ⟨Nat.le_of_ble_eq_true rfl, Nat.le_of_ble_eq_true rfl⟩ ⟨Nat.zero_le _, Nat.zero_le _⟩ ⟨⟨by omega, by omega⟩, ⟨by omega, by omega⟩⟩ (dk DX2_aboutHalf_1k 20 rfl) ?_
                refine zz_lstore hC (ls' := [(0, .ref r0), (1, .int (zI h)), (2, .int (zI x)), (3, .int (zI y)), (4, .int (zI v)), (5, .long (zL (a1 + 1))), (7, .long (zL (max a2 (ch i)))), (9, .long (zL (a3 + (ch i)))), (11, .long (zL (a4 + 1))), (13, .long (zL (min a5 (zPh T S i)))), (15, .long (zL a6)), (17, .int (zI ((i : Nat) : Int))), (18, .int (zI (zPh T S i)))]) [1, 2, 3, 4, 5, 6, 7, 8, 9, 0, 10, 11, 12] (dk DX2_aboutHalf_1k 21 rfl) (by decide) rfl ?_
                refine zz_lload hC 10 (dk DX2_aboutHalf_1k 22 rfl) rfl ?_
                refine zz_iload hC 12 (dk DX2_aboutHalf_1k 23 rfl) rfl ?_
                refine zz_i2l hC (dk DX2_aboutHalf_1k 24 rfl) ⟨by omega, by omega⟩ ?_
                refine zz_mmaxl hC Q_X2_99 Q_mmaxl ⟨Nat.le_of_ble_eq_true rfl, Nat.le_of_ble_eq_true rfl⟩ ⟨Nat.zero_le _, Nat.zero_le _⟩ ⟨⟨by omega, by omega⟩, ⟨by omega, by omega⟩⟩ (dk DX2_aboutHalf_1k 25 rfl) ?_
                refine zz_lstore hC (ls' := [(0, .ref r0), (1, .int (zI h)), (2, .int (zI x)), (3, .int (zI y)), (4, .int (zI v)), (5, .long (zL (a1 + 1))), (7, .long (zL (max a2 (ch i)))), (9, .long (zL (a3 + (ch i)))), (11, .long (zL (a4 + 1))), (13, .long (zL (min a5 (zPh T S i)))), (15, .long (zL (max a6 (zPh T S i)))), (17, .int (zI ((i : Nat) : Int))), (18, .int (zI (zPh T S i)))]) [1, 2, 3, 4, 5, 6, 7, 8, 9, 10, 0, 11, 12] (dk DX2_aboutHalf_1k 26 rfl) (by decide) rfl ?_
                refine zz_iinc hC ((i + 1 : Nat) : Int) (ls' := [(0, .ref r0), (1, .int (zI h)), (2, .int (zI x)), (3, .int (zI y)), (4, .int (zI v)), (5, .long (zL (a1 + 1))), (7, .long (zL (max a2 (ch i)))), (9, .long (zL (a3 + (ch i)))), (11, .long (zL (a4 + 1))), (13, .long (zL (min a5 (zPh T S i)))), (15, .long (zL (max a6 (zPh T S i)))), (17, .int (zI ((i + 1 : Nat) : Int))), (18, .int (zI (zPh T S i)))]) 11 [1, 2, 3, 4, 5, 6, 7, 8, 9, 10, 11, 0, 12] (dk DX2_aboutHalf_1k 27 rfl) rfl (by omega) (by decide) rfl ?_
                refine zz_goto hC 25 (dk DX2_aboutHalf_1k 28 rfl) (by decide) ?_
                refine zz_ls [0, 1, 2, 3, 4, 5, 6, 7, 8, 9, 10, 11] rfl ?_
                exact ih25 (i + 1) (a1 + 1) (max a2 (ch i)) (a3 + (ch i)) (a4 + 1) (min a5 (zPh T S i)) (max a6 (zPh T S i)) (by omega) (zCt_s e1 (by unfold zAh; rw [Bool.and_eq_true]; exact ⟨by assumption, decide_eq_true (by assumption)⟩)) (zMx_s e2 (by unfold zAh; rw [Bool.and_eq_true]; exact ⟨by assumption, decide_eq_true (by assumption)⟩)) (zSm_s e3 (by unfold zAh; rw [Bool.and_eq_true]; exact ⟨by assumption, decide_eq_true (by assumption)⟩)) (zCt_s e4 (by rw [Bool.and_eq_true]; exact ⟨(by unfold zAh; rw [Bool.and_eq_true]; exact ⟨by assumption, decide_eq_true (by assumption)⟩), decide_eq_true (by omega)⟩)) (zMi_s1 e5 (by unfold zAh; rw [Bool.and_eq_true]; exact ⟨by assumption, decide_eq_true (by assumption)⟩) (by omega)) (zMx_s e6 (by unfold zAh; rw [Bool.and_eq_true]; exact ⟨by assumption, decide_eq_true (by assumption)⟩)) (by omega)
              · refine zz_iload hC 12 (dk DX2_aboutHalf_1k 14 rfl) rfl ?_
                refine zz_i2l hC (dk DX2_aboutHalf_1k 15 rfl) ⟨by omega, by omega⟩ ?_
                refine zz_goto hC 153 (dk DX2_aboutHalf_1k 16 rfl) (by decide) ?_
                refine zz_lstore hC (ls' := [(0, .ref r0), (1, .int (zI h)), (2, .int (zI x)), (3, .int (zI y)), (4, .int (zI v)), (5, .long (zL (a1 + 1))), (7, .long (zL (max a2 (ch i)))), (9, .long (zL (a3 + (ch i)))), (11, .long (zL (a4 + 1))), (13, .long (zL (zPh T S i))), (15, .long (zL a6)), (17, .int (zI ((i : Nat) : Int))), (18, .int (zI (zPh T S i)))]) [1, 2, 3, 4, 5, 6, 7, 8, 9, 0, 10, 11, 12] (dk DX2_aboutHalf_1k 21 rfl) (by decide) rfl ?_
                refine zz_lload hC 10 (dk DX2_aboutHalf_1k 22 rfl) rfl ?_
                refine zz_iload hC 12 (dk DX2_aboutHalf_1k 23 rfl) rfl ?_
                refine zz_i2l hC (dk DX2_aboutHalf_1k 24 rfl) ⟨by omega, by omega⟩ ?_
                refine zz_mmaxl hC Q_X2_99 Q_mmaxl ⟨Nat.le_of_ble_eq_true rfl, Nat.le_of_ble_eq_true rfl⟩ ⟨Nat.zero_le _, Nat.zero_le _⟩ ⟨⟨by omega, by omega⟩, ⟨by omega, by omega⟩⟩ (dk DX2_aboutHalf_1k 25 rfl) ?_
                refine zz_lstore hC (ls' := [(0, .ref r0), (1, .int (zI h)), (2, .int (zI x)), (3, .int (zI y)), (4, .int (zI v)), (5, .long (zL (a1 + 1))), (7, .long (zL (max a2 (ch i)))), (9, .long (zL (a3 + (ch i)))), (11, .long (zL (a4 + 1))), (13, .long (zL (zPh T S i))), (15, .long (zL (max a6 (zPh T S i)))), (17, .int (zI ((i : Nat) : Int))), (18, .int (zI (zPh T S i)))]) [1, 2, 3, 4, 5, 6, 7, 8, 9, 10, 0, 11, 12] (dk DX2_aboutHalf_1k 26 rfl) (by decide) rfl ?_
                refine zz_iinc hC ((i + 1 : Nat) : Int) (ls' := [(0, .ref r0), (1, .int (zI h)), (2, .int (zI x)), (3, .int (zI y)), (4, .int (zI v)), (5, .long (zL (a1 + 1))), (7, .long (zL (max a2 (ch i)))), (9, .long (zL (a3 + (ch i)))), (11, .long (zL (a4 + 1))), (13, .long (zL (zPh T S i))), (15, .long (zL (max a6 (zPh T S i)))), (17, .int (zI ((i + 1 : Nat) : Int))), (18, .int (zI (zPh T S i)))]) 11 [1, 2, 3, 4, 5, 6, 7, 8, 9, 10, 11, 0, 12] (dk DX2_aboutHalf_1k 27 rfl) rfl (by omega) (by decide) rfl ?_
                refine zz_goto hC 25 (dk DX2_aboutHalf_1k 28 rfl) (by decide) ?_
                refine zz_ls [0, 1, 2, 3, 4, 5, 6, 7, 8, 9, 10, 11] rfl ?_
                exact ih25 (i + 1) (a1 + 1) (max a2 (ch i)) (a3 + (ch i)) (a4 + 1) (zPh T S i) (max a6 (zPh T S i)) (by omega) (zCt_s e1 (by unfold zAh; rw [Bool.and_eq_true]; exact ⟨by assumption, decide_eq_true (by assumption)⟩)) (zMx_s e2 (by unfold zAh; rw [Bool.and_eq_true]; exact ⟨by assumption, decide_eq_true (by assumption)⟩)) (zSm_s e3 (by unfold zAh; rw [Bool.and_eq_true]; exact ⟨by assumption, decide_eq_true (by assumption)⟩)) (zCt_s e4 (by rw [Bool.and_eq_true]; exact ⟨(by unfold zAh; rw [Bool.and_eq_true]; exact ⟨by assumption, decide_eq_true (by assumption)⟩), decide_eq_true (by omega)⟩)) (zMi_s0 (f := zPh T S) (by unfold zAh; rw [Bool.and_eq_true]; exact ⟨by assumption, decide_eq_true (by assumption)⟩) (by omega)) (zMx_s e6 (by unfold zAh; rw [Bool.and_eq_true]; exact ⟨by assumption, decide_eq_true (by assumption)⟩)) (by omega)
  refine zz_ls [0, 1, 2, 3, 4, 5, 6, 7, 8, 9, 10, 11] rfl ?_
  exact LP25 _ 0 0 0 0 0 (-1) (-1) (by omega) rfl rfl rfl rfl rfl rfl (Nat.lt_succ_self _)
set_option maxHeartbeats 4000000 in
set_option maxRecDepth 100000 in
theorem c_X2_aboutBurst (l : Launch) (D : zG) (r0 : Nat) (r1 : Nat) (r2 : Nat) (r3 : Nat) (r4 : Nat) (g : Nat → Int) (st : Nat → Int) (ch : Nat → Int) (bo : Nat → Int) (bn : Int) (h0 : Nat) (h1 : Nat) (h2 : Nat) (h3 : Nat) (h4 : Nat) (h5 : Nat) (h6 : Nat) (S : Nat → Int) (F : Nat → Int) (L : Nat → Int) (K : Nat → Int) (T : Nat → Int) (U : Nat → Int) (w : Nat) (n : Nat) (b : Int) (v : Int) (hg : zLog n K T U) (hst6 : ∀ j, j < n → 0 ≤ st j ∧ st j ≤ 6) (hch : ∀ j, j < n → 0 ≤ ch j ∧ ch j ≤ 500000000) (hbo : ∀ j, j < n → -1 ≤ bo j ∧ bo j ≤ 250) (hb : 0 ≤ b ∧ b ≤ 250) (hv : 0 ≤ v ∧ v ≤ 3) : CL (S := Unit) l yX2_aboutBurst cX2_aboutBurst 12 ((some .long)) ({ frames := 0, cells := 0, slots := 0, locals := 0 } : Room) D [.ref r0, .int (zI b), .int (zI v)] [(r0, .inr (2, [.ref h0, .ref r1, .ref r2, .ref r3, .ref r4, .int (zI bn)])), (r1, bA D 250 g), (r2, iA D 250 st), (r3, lA D 250 ch), (r4, iA D 250 bo), (h0, .inr (3, [.ref h1, .ref h2, .ref h3, .ref h4, .ref h5, .ref h6, .int (zI ((w : Nat) : Int)), .int (zI ((n : Nat) : Int))])), (h1, iA D 11 S), (h2, iA D 4 F), (h3, iA D 4 L), (h4, iA D 250 K), (h5, iA D 250 T), (h6, iA D 250 U)] (fun _ => True) (fun _ => (zBu bo T ch b v n)) (fun _ => [(r0, .inr (2, [.ref h0, .ref r1, .ref r2, .ref r3, .ref r4, .int (zI bn)])), (r1, bA D 250 g), (r2, iA D 250 st), (r3, lA D 250 ch), (r4, iA D 250 bo), (h0, .inr (3, [.ref h1, .ref h2, .ref h3, .ref h4, .ref h5, .ref h6, .int (zI ((w : Nat) : Int)), .int (zI ((n : Nat) : Int))])), (h1, iA D 11 S), (h2, iA D 4 F), (h3, iA D 4 L), (h4, iA D 250 K), (h5, iA D 250 T), (h6, iA D 250 U)]) := by
  refine CL_of (by decide) (Nat.le_of_ble_eq_true rfl) ?_
  intro p e s m args below meth cd A Q hQ hC hr hnm
  have hC : ZC p s m args meth cd A D 12 cX2_aboutBurst RX2 := hC
  have hg0 := hg
  obtain ⟨hn, hK, hT, hU, hM⟩ := hg0
  show Z p l e ({ frames := 0, cells := 0, slots := 0, locals := 0 } : Room) s m args below meth cd A D Q 12 0 0 [(r0, .inr (2, [.ref h0, .ref r1, .ref r2, .ref r3, .ref r4, .int (zI bn)])), (r1, bA D 250 g), (r2, iA D 250 st), (r3, lA D 250 ch), (r4, iA D 250 bo), (h0, .inr (3, [.ref h1, .ref h2, .ref h3, .ref h4, .ref h5, .ref h6, .int (zI ((w : Nat) : Int)), .int (zI ((n : Nat) : Int))])), (h1, iA D 11 S), (h2, iA D 4 F), (h3, iA D 4 L), (h4, iA D 250 K), (h5, iA D 250 T), (h6, iA D 250 U)] [(0, .ref r0), (1, .int (zI b)), (2, .int (zI v))] [] 0
  refine zz_lconst hC 0 (dk DX2_aboutBurst_0k 0 rfl) (by decide) ?_
  refine zz_lstore_n hC (ls' := [(0, .ref r0), (1, .int (zI b)), (2, .int (zI v)), (3, .long (zL 0))]) [1, 2, 3, 0] (dk DX2_aboutBurst_0k 1 rfl) rfl (by decide) rfl ?_
  refine zz_ldc2 hC (-1) K_X2_97 (by decide) (dk DX2_aboutBurst_0k 2 rfl) ?_
  refine zz_lstore hC (ls' := [(0, .ref r0), (1, .int (zI b)), (2, .int (zI v)), (3, .long (zL 0)), (5, .long (zL (-1)))]) [1, 2, 3, 4, 0] (dk DX2_aboutBurst_0k 3 rfl) (by decide) rfl ?_
  refine zz_ldc2 hC (-1) K_X2_97 (by decide) (dk DX2_aboutBurst_0k 4 rfl) ?_
  refine zz_lstore hC (ls' := [(0, .ref r0), (1, .int (zI b)), (2, .int (zI v)), (3, .long (zL 0)), (5, .long (zL (-1))), (7, .long (zL (-1)))]) [1, 2, 3, 4, 5, 0] (dk DX2_aboutBurst_0k 5 rfl) (by decide) rfl ?_
  refine zz_lconst hC 0 (dk DX2_aboutBurst_0k 6 rfl) (by decide) ?_
  refine zz_lstore hC (ls' := [(0, .ref r0), (1, .int (zI b)), (2, .int (zI v)), (3, .long (zL 0)), (5, .long (zL (-1))), (7, .long (zL (-1))), (9, .long (zL 0))]) [1, 2, 3, 4, 5, 6, 0] (dk DX2_aboutBurst_0k 7 rfl) (by decide) rfl ?_
  refine zz_iconst hC (dk DX2_aboutBurst_0k 8 rfl) ?_
  refine zz_istore hC (ls' := [(0, .ref r0), (1, .int (zI b)), (2, .int (zI v)), (3, .long (zL 0)), (5, .long (zL (-1))), (7, .long (zL (-1))), (9, .long (zL 0)), (11, .int (zI 0))]) [1, 2, 3, 4, 5, 6, 7, 0] (dk DX2_aboutBurst_0k 9 rfl) (by decide) rfl ?_
  have LP18 : ∀ (fuel18 : Nat) (i : Nat) (a1 : Int) (a2 : Int) (a3 : Int) (a4 : Int), (i ≤ n) → (a1 = zCt (fun a => decide (bo a = b)) i) → (a2 = zFs (fun a => decide (bo a = b)) T i) → (a3 = zLs (fun a => decide (bo a = b)) T i) → (a4 = zSm (fun a => decide (bo a = b)) ch i) → n - i < fuel18 → Z p l e ({ frames := 0, cells := 0, slots := 0, locals := 0 } : Room) s m args below meth cd A D Q 12 0 0 [(r0, .inr (2, [.ref h0, .ref r1, .ref r2, .ref r3, .ref r4, .int (zI bn)])), (r1, bA D 250 g), (r2, iA D 250 st), (r3, lA D 250 ch), (r4, iA D 250 bo), (h0, .inr (3, [.ref h1, .ref h2, .ref h3, .ref h4, .ref h5, .ref h6, .int (zI ((w : Nat) : Int)), .int (zI ((n : Nat) : Int))])), (h1, iA D 11 S), (h2, iA D 4 F), (h3, iA D 4 L), (h4, iA D 250 K), (h5, iA D 250 T), (h6, iA D 250 U)] [(0, .ref r0), (1, .int (zI b)), (2, .int (zI v)), (3, .long (zL a1)), (5, .long (zL a2)), (7, .long (zL a3)), (9, .long (zL a4)), (11, .int (zI ((i : Nat) : Int)))] [] 18 := by
    intro fuel18
    induction fuel18 with
    | zero => intro i a1 a2 a3 a4 hi e1 e2 e3 e4 hfu; exact absurd hfu (Nat.not_lt_zero _)
    | succ fuel18 ih18 =>
      intro i a1 a2 a3 a4 hi e1 e2 e3 e4 hfu18
      have rr1 := zCt_in (P := fun a => decide (bo a = b)) (n := i)
      rw [← e1] at rr1
      refine zz_iload hC 7 (dk DX2_aboutBurst_0k 10 rfl) rfl ?_
      refine zz_aload_n hC 0 (dk DX2_aboutBurst_0k 11 rfl) rfl rfl ?_
      refine zz_get hC F_X2_12 0 rfl rfl (dk DX2_aboutBurst_0k 12 rfl) ?_
      refine zz_getN hC F_X2_57 5 rfl rfl (dk DX2_aboutBurst_0k 13 rfl) ?_
      refine zz_icmp_ge hC 100 (dk DX2_aboutBurst_0k 14 rfl) (by decide) ⟨⟨by omega, by omega⟩, ⟨by omega, by omega⟩⟩ (fun c1 => ?_) (fun c1 => ?_)
      · have hin : i = n := by omega
        rw [hin] at e1 e2 e3 e4
        refine zz_iload_n hC 2 (dk DX2_aboutBurst_0k 54 rfl) rfl rfl ?_
        rcases (show v = 0 ∨ v = 1 ∨ v = 2 ∨ (v < 0 ∨ 2 < v) by omega) with sw2 | sw2 | sw2 | sw2
        · refine zz_tabIn hC 128 (dk DX2_aboutBurst_0k 55 rfl) 0 rfl sw2 rfl (by decide) ?_
          refine zz_lload_n hC 3 (dk DX2_aboutBurst_0k 56 rfl) rfl rfl ?_
          exact zz_lret hC hQ hr () trivial (by unfold zBu; rw [e1, if_pos (by omega)]) [0, 1, 2, 3, 4, 5, 6, 7, 8, 9, 10, 11] rfl rfl ⟨Nat.le_refl _, Nat.le_refl _⟩ (dk DX2_aboutBurst_0k 57 rfl)
        · refine zz_tabIn hC 130 (dk DX2_aboutBurst_0k 55 rfl) 1 rfl sw2 rfl (by decide) ?_
          refine zz_lload hC 4 (dk DX2_aboutBurst_0k 58 rfl) rfl ?_
          exact zz_lret hC hQ hr () trivial (by unfold zBu; rw [e2, if_neg (by omega), if_pos (by omega)]) [0, 1, 2, 3, 4, 5, 6, 7, 8, 9, 10, 11] rfl rfl ⟨Nat.le_refl _, Nat.le_refl _⟩ (dk DX2_aboutBurst_0k 59 rfl)
        · refine zz_tabIn hC 133 (dk DX2_aboutBurst_0k 55 rfl) 2 rfl sw2 rfl (by decide) ?_
          refine zz_lload hC 5 (dk DX2_aboutBurst_1k 0 rfl) rfl ?_
          exact zz_lret hC hQ hr () trivial (by unfold zBu; rw [e3, if_neg (by omega), if_neg (by omega), if_pos (by omega)]) [0, 1, 2, 3, 4, 5, 6, 7, 8, 9, 10, 11] rfl rfl ⟨Nat.le_refl _, Nat.le_refl _⟩ (dk DX2_aboutBurst_1k 1 rfl)
        · refine zz_tabOut hC 136 (dk DX2_aboutBurst_0k 55 rfl) ⟨by omega, by omega⟩ sw2 (by decide) ?_
          refine zz_lload hC 6 (dk DX2_aboutBurst_1k 2 rfl) rfl ?_
          exact zz_lret hC hQ hr () trivial (by unfold zBu; rw [e4, if_neg (by omega), if_neg (by omega), if_neg (by omega)]) [0, 1, 2, 3, 4, 5, 6, 7, 8, 9, 10, 11] rfl rfl ⟨Nat.le_refl _, Nat.le_refl _⟩ (dk DX2_aboutBurst_1k 3 rfl)
      · refine zz_aload_n hC 0 (dk DX2_aboutBurst_0k 15 rfl) rfl rfl ?_
        refine zz_get hC F_X2_30 0 rfl rfl (dk DX2_aboutBurst_0k 16 rfl) ?_
        refine zz_iload hC 7 (dk DX2_aboutBurst_0k 17 rfl) rfl ?_
        refine zz_iald hC i 4 rfl rfl (by omega) (dk DX2_aboutBurst_0k 18 rfl) ?_
        have hf3 := hbo i (by omega)
        refine zz_iload_n hC 1 (dk DX2_aboutBurst_0k 19 rfl) rfl rfl ?_
        refine zz_icmp_ne hC 94 (dk DX2_aboutBurst_0k 20 rfl) (by decide) ⟨⟨by omega, by omega⟩, ⟨by omega, by omega⟩⟩ (fun c4 => ?_) (fun c4 => ?_)
        · refine zz_iinc hC ((i + 1 : Nat) : Int) (ls' := [(0, .ref r0), (1, .int (zI b)), (2, .int (zI v)), (3, .long (zL a1)), (5, .long (zL a2)), (7, .long (zL a3)), (9, .long (zL a4)), (11, .int (zI ((i + 1 : Nat) : Int)))]) 7 [1, 2, 3, 4, 5, 6, 7, 0] (dk DX2_aboutBurst_0k 52 rfl) rfl (by omega) (by decide) rfl ?_
          refine zz_goto hC 18 (dk DX2_aboutBurst_0k 53 rfl) (by decide) ?_
          refine zz_ls [0, 1, 2, 3, 4, 5, 6, 7] rfl ?_
          exact ih18 (i + 1) a1 a2 a3 a4 (by omega) (zCt_k e1 (by simp only [decide_eq_true_eq]; assumption)) (zFs_k e2 (by simp only [decide_eq_true_eq]; assumption)) (zLs_k e3 (by simp only [decide_eq_true_eq]; assumption)) (zSm_k e4 (by simp only [decide_eq_true_eq]; assumption)) (by omega)
        · refine zz_lload_n hC 3 (dk DX2_aboutBurst_0k 21 rfl) rfl rfl ?_
          refine zz_lconst hC 0 (dk DX2_aboutBurst_0k 22 rfl) (by decide) ?_
          refine zz_lcmp_ne hC 61 (dk DX2_aboutBurst_0k 23 rfl) (dk DX2_aboutBurst_0k 24 rfl) (by decide) ⟨⟨by omega, by omega⟩, (by decide)⟩ (fun c5 => ?_) (fun c5 => ?_)
          · refine zz_lload hC 4 (dk DX2_aboutBurst_0k 32 rfl) rfl ?_
            refine zz_lstore hC (ls' := [(0, .ref r0), (1, .int (zI b)), (2, .int (zI v)), (3, .long (zL a1)), (5, .long (zL a2)), (7, .long (zL a3)), (9, .long (zL a4)), (11, .int (zI ((i : Nat) : Int)))]) [1, 2, 3, 4, 0, 5, 6, 7] (dk DX2_aboutBurst_0k 33 rfl) (by decide) rfl ?_
            refine zz_aload_n hC 0 (dk DX2_aboutBurst_0k 34 rfl) rfl rfl ?_
            refine zz_get hC F_X2_12 0 rfl rfl (dk DX2_aboutBurst_0k 35 rfl) ?_
            refine zz_getN hC F_X2_64 5 rfl rfl (dk DX2_aboutBurst_0k 36 rfl) ?_
            refine zz_iload hC 7 (dk DX2_aboutBurst_0k 37 rfl) rfl ?_
            refine zz_iald hC i 10 rfl rfl (by omega) (dk DX2_aboutBurst_0k 38 rfl) ?_
            have hf6 := hT i (by omega)
            refine zz_i2l hC (dk DX2_aboutBurst_0k 39 rfl) ⟨by omega, by omega⟩ ?_
            refine zz_lstore hC (ls' := [(0, .ref r0), (1, .int (zI b)), (2, .int (zI v)), (3, .long (zL a1)), (5, .long (zL a2)), (7, .long (zL (T i))), (9, .long (zL a4)), (11, .int (zI ((i : Nat) : Int)))]) [1, 2, 3, 4, 5, 0, 6, 7] (dk DX2_aboutBurst_0k 40 rfl) (by decide) rfl ?_
            refine zz_lload hC 6 (dk DX2_aboutBurst_0k 41 rfl) rfl ?_
            refine zz_aload_n hC 0 (dk DX2_aboutBurst_0k 42 rfl) rfl rfl ?_
            refine zz_get hC F_X2_26 0 rfl rfl (dk DX2_aboutBurst_0k 43 rfl) ?_
            refine zz_iload hC 7 (dk DX2_aboutBurst_0k 44 rfl) rfl ?_
            refine zz_lald hC i 3 rfl rfl (by omega) (dk DX2_aboutBurst_0k 45 rfl) ?_
            have hf7 := hch i (by omega)
            refine zz_ladd hC (dk DX2_aboutBurst_0k 46 rfl) ?_
            refine zz_lstore hC (ls' := [(0, .ref r0), (1, .int (zI b)), (2, .int (zI v)), (3, .long (zL a1)), (5, .long (zL a2)), (7, .long (zL (T i))), (9, .long (zL (a4 + (ch i)))), (11, .int (zI ((i : Nat) : Int)))]) [1, 2, 3, 4, 5, 6, 0, 7] (dk DX2_aboutBurst_0k 47 rfl) (by decide) rfl ?_
            refine zz_lload_n hC 3 (dk DX2_aboutBurst_0k 48 rfl) rfl rfl ?_
            refine zz_lconst hC 1 (dk DX2_aboutBurst_0k 49 rfl) (by decide) ?_
            refine zz_ladd hC (dk DX2_aboutBurst_0k 50 rfl) ?_
            refine zz_lstore_n hC (ls' := [(0, .ref r0), (1, .int (zI b)), (2, .int (zI v)), (3, .long (zL (a1 + 1))), (5, .long (zL a2)), (7, .long (zL (T i))), (9, .long (zL (a4 + (ch i)))), (11, .int (zI ((i : Nat) : Int)))]) [1, 2, 3, 0, 4, 5, 6, 7] (dk DX2_aboutBurst_0k 51 rfl) rfl (by decide) rfl ?_
            refine zz_iinc hC ((i + 1 : Nat) : Int) (ls' := [(0, .ref r0), (1, .int (zI b)), (2, .int (zI v)), (3, .long (zL (a1 + 1))), (5, .long (zL a2)), (7, .long (zL (T i))), (9, .long (zL (a4 + (ch i)))), (11, .int (zI ((i + 1 : Nat) : Int)))]) 7 [1, 2, 3, 4, 5, 6, 7, 0] (dk DX2_aboutBurst_0k 52 rfl) rfl (by omega) (by decide) rfl ?_
            refine zz_goto hC 18 (dk DX2_aboutBurst_0k 53 rfl) (by decide) ?_
            refine zz_ls [0, 1, 2, 3, 4, 5, 6, 7] rfl ?_
            exact ih18 (i + 1) (a1 + 1) a2 (T i) (a4 + (ch i)) (by omega) (zCt_s e1 (decide_eq_true (by assumption))) (zFs_s1 e2 (decide_eq_true (by assumption)) (by omega)) (zLs_s (decide_eq_true (by assumption))) (zSm_s e4 (decide_eq_true (by assumption))) (by omega)
          · refine zz_aload_n hC 0 (dk DX2_aboutBurst_0k 25 rfl) rfl rfl ?_
            refine zz_get hC F_X2_12 0 rfl rfl (dk DX2_aboutBurst_0k 26 rfl) ?_
            refine zz_getN hC F_X2_64 5 rfl rfl (dk DX2_aboutBurst_0k 27 rfl) ?_
            refine zz_iload hC 7 (dk DX2_aboutBurst_0k 28 rfl) rfl ?_
            refine zz_iald hC i 10 rfl rfl (by omega) (dk DX2_aboutBurst_0k 29 rfl) ?_
            have hf8 := hT i (by omega)
            refine zz_i2l hC (dk DX2_aboutBurst_0k 30 rfl) ⟨by omega, by omega⟩ ?_
            refine zz_goto hC 63 (dk DX2_aboutBurst_0k 31 rfl) (by decide) ?_
            refine zz_lstore hC (ls' := [(0, .ref r0), (1, .int (zI b)), (2, .int (zI v)), (3, .long (zL a1)), (5, .long (zL (T i))), (7, .long (zL a3)), (9, .long (zL a4)), (11, .int (zI ((i : Nat) : Int)))]) [1, 2, 3, 4, 0, 5, 6, 7] (dk DX2_aboutBurst_0k 33 rfl) (by decide) rfl ?_
            refine zz_aload_n hC 0 (dk DX2_aboutBurst_0k 34 rfl) rfl rfl ?_
            refine zz_get hC F_X2_12 0 rfl rfl (dk DX2_aboutBurst_0k 35 rfl) ?_
            refine zz_getN hC F_X2_64 5 rfl rfl (dk DX2_aboutBurst_0k 36 rfl) ?_
            refine zz_iload hC 7 (dk DX2_aboutBurst_0k 37 rfl) rfl ?_
            refine zz_iald hC i 10 rfl rfl (by omega) (dk DX2_aboutBurst_0k 38 rfl) ?_
            have hf9 := hT i (by omega)
            refine zz_i2l hC (dk DX2_aboutBurst_0k 39 rfl) ⟨by omega, by omega⟩ ?_
            refine zz_lstore hC (ls' := [(0, .ref r0), (1, .int (zI b)), (2, .int (zI v)), (3, .long (zL a1)), (5, .long (zL (T i))), (7, .long (zL (T i))), (9, .long (zL a4)), (11, .int (zI ((i : Nat) : Int)))]) [1, 2, 3, 4, 5, 0, 6, 7] (dk DX2_aboutBurst_0k 40 rfl) (by decide) rfl ?_
            refine zz_lload hC 6 (dk DX2_aboutBurst_0k 41 rfl) rfl ?_
            refine zz_aload_n hC 0 (dk DX2_aboutBurst_0k 42 rfl) rfl rfl ?_
            refine zz_get hC F_X2_26 0 rfl rfl (dk DX2_aboutBurst_0k 43 rfl) ?_
            refine zz_iload hC 7 (dk DX2_aboutBurst_0k 44 rfl) rfl ?_
            refine zz_lald hC i 3 rfl rfl (by omega) (dk DX2_aboutBurst_0k 45 rfl) ?_
            have hf10 := hch i (by omega)
            refine zz_ladd hC (dk DX2_aboutBurst_0k 46 rfl) ?_
            refine zz_lstore hC (ls' := [(0, .ref r0), (1, .int (zI b)), (2, .int (zI v)), (3, .long (zL a1)), (5, .long (zL (T i))), (7, .long (zL (T i))), (9, .long (zL (a4 + (ch i)))), (11, .int (zI ((i : Nat) : Int)))]) [1, 2, 3, 4, 5, 6, 0, 7] (dk DX2_aboutBurst_0k 47 rfl) (by decide) rfl ?_
            refine zz_lload_n hC 3 (dk DX2_aboutBurst_0k 48 rfl) rfl rfl ?_
            refine zz_lconst hC 1 (dk DX2_aboutBurst_0k 49 rfl) (by decide) ?_
            refine zz_ladd hC (dk DX2_aboutBurst_0k 50 rfl) ?_
            refine zz_lstore_n hC (ls' := [(0, .ref r0), (1, .int (zI b)), (2, .int (zI v)), (3, .long (zL (a1 + 1))), (5, .long (zL (T i))), (7, .long (zL (T i))), (9, .long (zL (a4 + (ch i)))), (11, .int (zI ((i : Nat) : Int)))]) [1, 2, 3, 0, 4, 5, 6, 7] (dk DX2_aboutBurst_0k 51 rfl) rfl (by decide) rfl ?_
            refine zz_iinc hC ((i + 1 : Nat) : Int) (ls' := [(0, .ref r0), (1, .int (zI b)), (2, .int (zI v)), (3, .long (zL (a1 + 1))), (5, .long (zL (T i))), (7, .long (zL (T i))), (9, .long (zL (a4 + (ch i)))), (11, .int (zI ((i + 1 : Nat) : Int)))]) 7 [1, 2, 3, 4, 5, 6, 7, 0] (dk DX2_aboutBurst_0k 52 rfl) rfl (by omega) (by decide) rfl ?_
            refine zz_goto hC 18 (dk DX2_aboutBurst_0k 53 rfl) (by decide) ?_
            refine zz_ls [0, 1, 2, 3, 4, 5, 6, 7] rfl ?_
            exact ih18 (i + 1) (a1 + 1) (T i) (T i) (a4 + (ch i)) (by omega) (zCt_s e1 (decide_eq_true (by assumption))) (zFs_s0 (decide_eq_true (by assumption)) (by omega)) (zLs_s (decide_eq_true (by assumption))) (zSm_s e4 (decide_eq_true (by assumption))) (by omega)
  refine zz_ls [0, 1, 2, 3, 4, 5, 6, 7] rfl ?_
  exact LP18 _ 0 0 (-1) (-1) 0 (by omega) rfl rfl rfl rfl (Nat.lt_succ_self _)
set_option maxHeartbeats 4000000 in
set_option maxRecDepth 100000 in
theorem c_X2_judge (l : Launch) (D : zG) (r0 : Nat) (r1 : Nat) (r2 : Nat) (r3 : Nat) (r4 : Nat) (g : Nat → Int) (st : Nat → Int) (ch : Nat → Int) (bo : Nat → Int) (bn : Int) (h0 : Nat) (h1 : Nat) (h2 : Nat) (h3 : Nat) (h4 : Nat) (h5 : Nat) (h6 : Nat) (S : Nat → Int) (F : Nat → Int) (L : Nat → Int) (K : Nat → Int) (T : Nat → Int) (U : Nat → Int) (w : Nat) (n : Nat) (hg : zLog n K T U) (hs : zSet S) (hw : zWin w F L) : CV (S := (Nat → Int) × (Nat → Int)) l yX2_judge cX2_judge 1 (none) ({ frames := 4, cells := 0, slots := 0, locals := 109 } : Room) D [.ref r0] [(r0, .inr (2, [.ref h0, .ref r1, .ref r2, .ref r3, .ref r4, .int (zI bn)])), (r1, bA D 250 g), (r2, iA D 250 st), (r3, lA D 250 ch), (r4, iA D 250 bo), (h0, .inr (3, [.ref h1, .ref h2, .ref h3, .ref h4, .ref h5, .ref h6, .int (zI ((w : Nat) : Int)), .int (zI ((n : Nat) : Int))])), (h1, iA D 11 S), (h2, iA D 4 F), (h3, iA D 4 L), (h4, iA D 250 K), (h5, iA D 250 T), (h6, iA D 250 U)] (fun u => ∀ j, j < n → u.2 j = zSN n K T U S F L w j)  (fun u => [(r0, .inr (2, [.ref h0, .ref r1, .ref r2, .ref r3, .ref r4, .int (zI bn)])), (r1, bA D 250 u.1), (r2, iA D 250 u.2), (r3, lA D 250 ch), (r4, iA D 250 bo), (h0, .inr (3, [.ref h1, .ref h2, .ref h3, .ref h4, .ref h5, .ref h6, .int (zI ((w : Nat) : Int)), .int (zI ((n : Nat) : Int))])), (h1, iA D 11 S), (h2, iA D 4 F), (h3, iA D 4 L), (h4, iA D 250 K), (h5, iA D 250 T), (h6, iA D 250 U)]) := by
  refine CV_of (by decide) (Nat.le_of_ble_eq_true rfl) ?_
  intro p e s m args below meth cd A Q hQ hC hr hnm
  have hC : ZC p s m args meth cd A D 1 cX2_judge RX2 := hC
  have hg0 := hg
  obtain ⟨hn, hK, hT, hU, hM⟩ := hg0
  obtain ⟨s0, s1, s2, s3, s4, s5, s6, s7, s8, s9, s10⟩ := id hs
  show Z p l e ({ frames := 4, cells := 0, slots := 0, locals := 109 } : Room) s m args below meth cd A D Q 1 0 0 [(r0, .inr (2, [.ref h0, .ref r1, .ref r2, .ref r3, .ref r4, .int (zI bn)])), (r1, bA D 250 g), (r2, iA D 250 st), (r3, lA D 250 ch), (r4, iA D 250 bo), (h0, .inr (3, [.ref h1, .ref h2, .ref h3, .ref h4, .ref h5, .ref h6, .int (zI ((w : Nat) : Int)), .int (zI ((n : Nat) : Int))])), (h1, iA D 11 S), (h2, iA D 4 F), (h3, iA D 4 L), (h4, iA D 250 K), (h5, iA D 250 T), (h6, iA D 250 U)] [(0, .ref r0)] [] 0
  refine zz_aload_n hC 0 (dk DX2_judge_0k 0 rfl) rfl rfl ?_
  refine zz_aload_n hC 0 (dk DX2_judge_0k 1 rfl) rfl rfl ?_
  refine zz_get hC F_X2_12 0 rfl rfl (dk DX2_judge_0k 2 rfl) ?_
  refine zz_getN hC F_X2_46 5 rfl rfl (dk DX2_judge_0k 3 rfl) ?_
  refine zz_iconst hC (dk DX2_judge_0k 4 rfl) ?_
  refine zz_iald hC 3 6 rfl rfl (by omega) (dk DX2_judge_0k 5 rfl) ?_
  refine zz_aload_n hC 0 (dk DX2_judge_0k 6 rfl) rfl rfl ?_
  refine zz_get hC F_X2_12 0 rfl rfl (dk DX2_judge_0k 7 rfl) ?_
  refine zz_getN hC F_X2_46 5 rfl rfl (dk DX2_judge_0k 8 rfl) ?_
  refine zz_iconst hC (dk DX2_judge_0k 9 rfl) ?_
  refine zz_iald hC 4 6 rfl rfl (by omega) (dk DX2_judge_0k 10 rfl) ?_
  refine zz_callVv hC (wr := []) (c_X2_gate l D r0 r1 r2 r3 r4 g st ch bo bn h0 h1 h2 h3 h4 h5 h6 S F L K T U w n (S 3) (S 4) hg (by omega) (by omega)) G_X2_49 H_X2_gate ⟨Nat.le_of_ble_eq_true rfl, Nat.le_of_ble_eq_true rfl⟩ rfl [0, 1, 2, 3, 4, 5, 6, 7, 8, 9, 10, 11] [] rfl rfl ⟨rfl, rfl, by decide⟩ 0 2 ⟨rfl, rfl, rfl⟩ (As := [.int (zI (S 3)), .int (zI (S 4))]) (rest := []) (Nat.le_of_ble_eq_true rfl) rfl ⟨Nat.le_of_ble_eq_true rfl, Nat.le_of_ble_eq_true rfl⟩ (dk DX2_judge_0k 11 rfl) ⟨rfl, rfl⟩ (wb := fun u1 => [(r0, .inr (2, [.ref h0, .ref r1, .ref r2, .ref r3, .ref r4, .int (zI bn)])), (r1, bA D 250 u1), (r2, iA D 250 st), (r3, lA D 250 ch), (r4, iA D 250 bo), (h0, .inr (3, [.ref h1, .ref h2, .ref h3, .ref h4, .ref h5, .ref h6, .int (zI ((w : Nat) : Int)), .int (zI ((n : Nat) : Int))])), (h1, iA D 11 S), (h2, iA D 4 F), (h3, iA D 4 L), (h4, iA D 250 K), (h5, iA D 250 T), (h6, iA D 250 U)]) [0, 1, 2, 3, 4, 5, 6, 7, 8, 9, 10, 11] rfl (fun _ => rfl) (fun u1 hu1 => ?_)
  refine zz_aload_n hC 0 (dk DX2_judge_0k 12 rfl) rfl rfl ?_
  refine zz_aload_n hC 0 (dk DX2_judge_0k 13 rfl) rfl rfl ?_
  refine zz_get hC F_X2_12 0 rfl rfl (dk DX2_judge_0k 14 rfl) ?_
  refine zz_getN hC F_X2_46 5 rfl rfl (dk DX2_judge_0k 15 rfl) ?_
  refine zz_iconst hC (dk DX2_judge_0k 16 rfl) ?_
  refine zz_iald hC 2 6 rfl rfl (by omega) (dk DX2_judge_0k 17 rfl) ?_
  refine zz_aload_n hC 0 (dk DX2_judge_0k 18 rfl) rfl rfl ?_
  refine zz_get hC F_X2_12 0 rfl rfl (dk DX2_judge_0k 19 rfl) ?_
  refine zz_getN hC F_X2_46 5 rfl rfl (dk DX2_judge_0k 20 rfl) ?_
  refine zz_iconst hC (dk DX2_judge_0k 21 rfl) ?_
  refine zz_iald hC 5 6 rfl rfl (by omega) (dk DX2_judge_0k 22 rfl) ?_
  refine zz_callVv hC (wr := []) (c_X2_assign l D r0 r1 r2 r3 r4 u1 st ch bo bn h0 h1 h2 h3 h4 h5 h6 S F L K T U w n (zGat n K T U (S 3) (S 4)) (S 2) (S 5) hg hs hw hu1 (by omega) (by omega)) G_X2_53 H_X2_assign ⟨Nat.le_of_ble_eq_true rfl, Nat.le_of_ble_eq_true rfl⟩ rfl [0, 1, 2, 3, 4, 5, 6, 7, 8, 9, 10, 11] [] rfl rfl ⟨rfl, rfl, by decide⟩ 0 2 ⟨rfl, rfl, rfl⟩ (As := [.int (zI (S 2)), .int (zI (S 5))]) (rest := []) (Nat.le_of_ble_eq_true rfl) rfl ⟨Nat.le_of_ble_eq_true rfl, Nat.le_of_ble_eq_true rfl⟩ (dk DX2_judge_0k 23 rfl) ⟨rfl, rfl⟩ (wb := fun u2 => [(r0, .inr (2, [.ref h0, .ref r1, .ref r2, .ref r3, .ref r4, .int (zI bn)])), (r1, bA D 250 u1), (r2, iA D 250 u2), (r3, lA D 250 ch), (r4, iA D 250 bo), (h0, .inr (3, [.ref h1, .ref h2, .ref h3, .ref h4, .ref h5, .ref h6, .int (zI ((w : Nat) : Int)), .int (zI ((n : Nat) : Int))])), (h1, iA D 11 S), (h2, iA D 4 F), (h3, iA D 4 L), (h4, iA D 250 K), (h5, iA D 250 T), (h6, iA D 250 U)]) [0, 1, 2, 3, 4, 5, 6, 7, 8, 9, 10, 11] rfl (fun _ => rfl) (fun u2 hu2 => ?_)
  exact zz_ret hC hQ hr (u1, u2) (fun j hj => hu2 j hj) [0, 1, 2, 3, 4, 5, 6, 7, 8, 9, 10, 11] rfl rfl ⟨Nat.le_refl _, Nat.le_refl _⟩ (dk DX2_judge_0k 24 rfl)
set_option maxHeartbeats 4000000 in
set_option maxRecDepth 100000 in
theorem c_X2_look (l : Launch) (D : zG) (r0 : Nat) (r1 : Nat) (r2 : Nat) (r3 : Nat) (r4 : Nat) (g : Nat → Int) (st : Nat → Int) (ch : Nat → Int) (bo : Nat → Int) (bn : Int) (h0 : Nat) (h1 : Nat) (h2 : Nat) (h3 : Nat) (h4 : Nat) (h5 : Nat) (h6 : Nat) (S : Nat → Int) (F : Nat → Int) (L : Nat → Int) (K : Nat → Int) (T : Nat → Int) (U : Nat → Int) (w : Nat) (n : Nat) (hg : zLog n K T U) (hs : zSet S) (hw : zWin w F L) : CV (S := (Nat → Int) × (Nat → Int) × (Nat → Int) × (Nat → Int)) l yX2_look cX2_look 1 (none) ({ frames := 5, cells := 0, slots := 0, locals := 129 } : Room) D [.ref r0] [(r0, .inr (2, [.ref h0, .ref r1, .ref r2, .ref r3, .ref r4, .int (zI bn)])), (r1, bA D 250 g), (r2, iA D 250 st), (r3, lA D 250 ch), (r4, iA D 250 bo), (h0, .inr (3, [.ref h1, .ref h2, .ref h3, .ref h4, .ref h5, .ref h6, .int (zI ((w : Nat) : Int)), .int (zI ((n : Nat) : Int))])), (h1, iA D 11 S), (h2, iA D 4 F), (h3, iA D 4 L), (h4, iA D 250 K), (h5, iA D 250 T), (h6, iA D 250 U)] (fun u => zLk n K T U S F L w u.2.1 u.2.2.1 u.2.2.2)  (fun u => [(r0, .inr (2, [.ref h0, .ref r1, .ref r2, .ref r3, .ref r4, .int (zI (zBn (zSN n K T U S F L w) T (S 7) n))])), (r1, bA D 250 u.1), (r2, iA D 250 u.2.1), (r3, lA D 250 u.2.2.1), (r4, iA D 250 u.2.2.2), (h0, .inr (3, [.ref h1, .ref h2, .ref h3, .ref h4, .ref h5, .ref h6, .int (zI ((w : Nat) : Int)), .int (zI ((n : Nat) : Int))])), (h1, iA D 11 S), (h2, iA D 4 F), (h3, iA D 4 L), (h4, iA D 250 K), (h5, iA D 250 T), (h6, iA D 250 U)]) := by
  refine CV_of (by decide) (Nat.le_of_ble_eq_true rfl) ?_
  intro p e s m args below meth cd A Q hQ hC hr hnm
  have hC : ZC p s m args meth cd A D 1 cX2_look RX2 := hC
  have hg0 := hg
  obtain ⟨hn, hK, hT, hU, hM⟩ := hg0
  show Z p l e ({ frames := 5, cells := 0, slots := 0, locals := 129 } : Room) s m args below meth cd A D Q 1 0 0 [(r0, .inr (2, [.ref h0, .ref r1, .ref r2, .ref r3, .ref r4, .int (zI bn)])), (r1, bA D 250 g), (r2, iA D 250 st), (r3, lA D 250 ch), (r4, iA D 250 bo), (h0, .inr (3, [.ref h1, .ref h2, .ref h3, .ref h4, .ref h5, .ref h6, .int (zI ((w : Nat) : Int)), .int (zI ((n : Nat) : Int))])), (h1, iA D 11 S), (h2, iA D 4 F), (h3, iA D 4 L), (h4, iA D 250 K), (h5, iA D 250 T), (h6, iA D 250 U)] [(0, .ref r0)] [] 0
  refine zz_aload_n hC 0 (dk DX2_look_0k 0 rfl) rfl rfl ?_
  refine zz_callVv hC (wr := []) (c_X2_judge l D r0 r1 r2 r3 r4 g st ch bo bn h0 h1 h2 h3 h4 h5 h6 S F L K T U w n hg hs hw) G_X2_37 H_X2_judge ⟨Nat.le_of_ble_eq_true rfl, Nat.le_of_ble_eq_true rfl⟩ rfl [0, 1, 2, 3, 4, 5, 6, 7, 8, 9, 10, 11] [] rfl rfl ⟨rfl, rfl, by decide⟩ 0 2 ⟨rfl, rfl, rfl⟩ (As := []) (rest := []) (Nat.le_of_ble_eq_true rfl) rfl ⟨Nat.le_of_ble_eq_true rfl, Nat.le_of_ble_eq_true rfl⟩ (dk DX2_look_0k 1 rfl) ⟨rfl, rfl⟩ (wb := fun u1 => [(r0, .inr (2, [.ref h0, .ref r1, .ref r2, .ref r3, .ref r4, .int (zI bn)])), (r1, bA D 250 u1.1), (r2, iA D 250 u1.2), (r3, lA D 250 ch), (r4, iA D 250 bo), (h0, .inr (3, [.ref h1, .ref h2, .ref h3, .ref h4, .ref h5, .ref h6, .int (zI ((w : Nat) : Int)), .int (zI ((n : Nat) : Int))])), (h1, iA D 11 S), (h2, iA D 4 F), (h3, iA D 4 L), (h4, iA D 250 K), (h5, iA D 250 T), (h6, iA D 250 U)]) [0, 1, 2, 3, 4, 5, 6, 7, 8, 9, 10, 11] rfl (fun _ => rfl) (fun u1 hu1 => ?_)
  refine zz_aload_n hC 0 (dk DX2_look_0k 2 rfl) rfl rfl ?_
  refine zz_callVv hC (wr := []) (c_X2_weigh l D r0 r1 r2 r3 r4 u1.1 u1.2 ch bo bn h0 h1 h2 h3 h4 h5 h6 S F L K T U w n hg hs) G_X2_40 H_X2_weigh ⟨Nat.le_of_ble_eq_true rfl, Nat.le_of_ble_eq_true rfl⟩ rfl [0, 1, 2, 3, 4, 5, 6, 7, 8, 9, 10, 11] [] rfl rfl ⟨rfl, rfl, by decide⟩ 0 2 ⟨rfl, rfl, rfl⟩ (As := []) (rest := []) (Nat.le_of_ble_eq_true rfl) rfl ⟨Nat.le_of_ble_eq_true rfl, Nat.le_of_ble_eq_true rfl⟩ (dk DX2_look_0k 3 rfl) ⟨rfl, rfl⟩ (wb := fun u2 => [(r0, .inr (2, [.ref h0, .ref r1, .ref r2, .ref r3, .ref r4, .int (zI bn)])), (r1, bA D 250 u1.1), (r2, iA D 250 u1.2), (r3, lA D 250 u2), (r4, iA D 250 bo), (h0, .inr (3, [.ref h1, .ref h2, .ref h3, .ref h4, .ref h5, .ref h6, .int (zI ((w : Nat) : Int)), .int (zI ((n : Nat) : Int))])), (h1, iA D 11 S), (h2, iA D 4 F), (h3, iA D 4 L), (h4, iA D 250 K), (h5, iA D 250 T), (h6, iA D 250 U)]) [0, 1, 2, 3, 4, 5, 6, 7, 8, 9, 10, 11] rfl (fun _ => rfl) (fun u2 hu2 => ?_)
  refine zz_aload_n hC 0 (dk DX2_look_0k 4 rfl) rfl rfl ?_
  refine zz_callVv hC (wr := []) (c_X2_group l D r0 r1 r2 r3 r4 u1.1 u1.2 u2 bo bn h0 h1 h2 h3 h4 h5 h6 S F L K T U w n hg hs (fun j hj => by rw [hu1 j hj]; exact zSN_in hK hj)) G_X2_43 H_X2_group ⟨Nat.le_of_ble_eq_true rfl, Nat.le_of_ble_eq_true rfl⟩ rfl [0, 1, 2, 3, 4, 5, 6, 7, 8, 9, 10, 11] [] rfl rfl ⟨rfl, rfl, by decide⟩ 0 2 ⟨rfl, rfl, rfl⟩ (As := []) (rest := []) (Nat.le_of_ble_eq_true rfl) rfl ⟨Nat.le_of_ble_eq_true rfl, Nat.le_of_ble_eq_true rfl⟩ (dk DX2_look_0k 5 rfl) ⟨rfl, rfl⟩ (wb := fun u3 => [(r0, .inr (2, [.ref h0, .ref r1, .ref r2, .ref r3, .ref r4, .int (zI (zBn u1.2 T (S 7) n))])), (r1, bA D 250 u1.1), (r2, iA D 250 u1.2), (r3, lA D 250 u2), (r4, iA D 250 u3), (h0, .inr (3, [.ref h1, .ref h2, .ref h3, .ref h4, .ref h5, .ref h6, .int (zI ((w : Nat) : Int)), .int (zI ((n : Nat) : Int))])), (h1, iA D 11 S), (h2, iA D 4 F), (h3, iA D 4 L), (h4, iA D 250 K), (h5, iA D 250 T), (h6, iA D 250 U)]) [0, 1, 2, 3, 4, 5, 6, 7, 8, 9, 10, 11] rfl (fun _ => rfl) (fun u3 hu3 => ?_)
  rw [zBn_cg (T := T) (gap := S 7) hu1]
  exact zz_ret hC hQ hr (u1.1, u1.2, u2, u3) (fun j hj => ⟨hu1 j hj, hu2 j hj, (hu3 j hj).trans (zBo_cg hu1 hj)⟩) [0, 1, 2, 3, 4, 5, 6, 7, 8, 9, 10, 11] rfl rfl ⟨Nat.le_refl _, Nat.le_refl _⟩ (dk DX2_look_0k 6 rfl)
