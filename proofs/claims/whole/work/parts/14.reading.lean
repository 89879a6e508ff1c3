set_option maxHeartbeats 4000000 in
set_option maxRecDepth 100000 in
theorem c_X2_opensGate (l : Launch) (D : zG) (r0 : Nat) (r1 : Nat) (r2 : Nat) (r3 : Nat) (r4 : Nat) (g : Nat → Int) (st : Nat → Int) (ch : Nat → Int) (bo : Nat → Int) (bn : Int) (h0 : Nat) (h1 : Nat) (h2 : Nat) (h3 : Nat) (h4 : Nat) (h5 : Nat) (h6 : Nat) (S : Nat → Int) (F : Nat → Int) (L : Nat → Int) (K : Nat → Int) (T : Nat → Int) (U : Nat → Int) (w : Nat) (n : Nat) (k : Nat) (gl : Int) (hg : zLog n K T U) (hk : k < n) (hgl : 0 ≤ gl ∧ gl ≤ 2000) : CI (S := Unit) l yX2_opensGate cX2_opensGate 3 ((some .boolean)) ({ frames := 2, cells := 0, slots := 0, locals := 61 } : Room) D [.ref r0, .int (zI ((k : Nat) : Int)), .int (zI gl)] [(r0, .inr (2, [.ref h0, .ref r1, .ref r2, .ref r3, .ref r4, .int (zI bn)])), (r1, bA D 250 g), (r2, iA D 250 st), (r3, lA D 250 ch), (r4, iA D 250 bo), (h0, .inr (3, [.ref h1, .ref h2, .ref h3, .ref h4, .ref h5, .ref h6, .int (zI ((w : Nat) : Int)), .int (zI ((n : Nat) : Int))])), (h1, iA D 11 S), (h2, iA D 4 F), (h3, iA D 4 L), (h4, iA D 250 K), (h5, iA D 250 T), (h6, iA D 250 U)] (fun _ => True) (fun _ => zB (zOp K U gl k = true)) (fun _ => [(r0, .inr (2, [.ref h0, .ref r1, .ref r2, .ref r3, .ref r4, .int (zI bn)])), (r1, bA D 250 g), (r2, iA D 250 st), (r3, lA D 250 ch), (r4, iA D 250 bo), (h0, .inr (3, [.ref h1, .ref h2, .ref h3, .ref h4, .ref h5, .ref h6, .int (zI ((w : Nat) : Int)), .int (zI ((n : Nat) : Int))])), (h1, iA D 11 S), (h2, iA D 4 F), (h3, iA D 4 L), (h4, iA D 250 K), (h5, iA D 250 T), (h6, iA D 250 U)]) := by
  refine CI_of (by decide) (Nat.le_of_ble_eq_true rfl) ?_
  intro p e s m args below meth cd A Q hQ hC hr hnm
  have hC : ZC p s m args meth cd A D 3 cX2_opensGate RX2 := hC
  have hg0 := hg
  obtain ⟨hn, hK, hT, hU, hM⟩ := hg0
  have hUk := hU k hk
  show Z p l e ({ frames := 2, cells := 0, slots := 0, locals := 61 } : Room) s m args below meth cd A D Q 3 0 0 [(r0, .inr (2, [.ref h0, .ref r1, .ref r2, .ref r3, .ref r4, .int (zI bn)])), (r1, bA D 250 g), (r2, iA D 250 st), (r3, lA D 250 ch), (r4, iA D 250 bo), (h0, .inr (3, [.ref h1, .ref h2, .ref h3, .ref h4, .ref h5, .ref h6, .int (zI ((w : Nat) : Int)), .int (zI ((n : Nat) : Int))])), (h1, iA D 11 S), (h2, iA D 4 F), (h3, iA D 4 L), (h4, iA D 250 K), (h5, iA D 250 T), (h6, iA D 250 U)] [(0, .ref r0), (1, .int (zI ((k : Nat) : Int))), (2, .int (zI gl))] [] 0
  refine zz_aload_n hC 0 (dk DX2_opensGate_0k 0 rfl) rfl rfl ?_
  refine zz_get hC F_X2_12 0 rfl rfl (dk DX2_opensGate_0k 1 rfl) ?_
  refine zz_getN hC F_X2_67 5 rfl rfl (dk DX2_opensGate_0k 2 rfl) ?_
  refine zz_iload_n hC 1 (dk DX2_opensGate_0k 3 rfl) rfl rfl ?_
  refine zz_iald hC k 9 rfl rfl (by omega) (dk DX2_opensGate_0k 4 rfl) ?_
  have hf1 := hK k (by omega)
  refine zz_iconst hC (dk DX2_opensGate_0k 5 rfl) ?_
  refine zz_icmp_ne hC 29 (dk DX2_opensGate_0k 6 rfl) (by decide) ⟨⟨by omega, by omega⟩, (by decide)⟩ (fun c2 => ?_) (fun c2 => ?_)
  · refine zz_iconst hC (dk DX2_opensGate_0k 15 rfl) ?_
    exact zz_zret hC hQ hr () trivial (zB_f (by unfold zOp; simp only [decide_eq_true_eq]; omega)).symm (by decide) [0, 1, 2, 3, 4, 5, 6, 7, 8, 9, 10, 11] rfl rfl ⟨Nat.le_refl _, Nat.le_refl _⟩ (dk DX2_opensGate_0k 16 rfl)
  · refine zz_aload_n hC 0 (dk DX2_opensGate_0k 7 rfl) rfl rfl ?_
    refine zz_get hC F_X2_12 0 rfl rfl (dk DX2_opensGate_0k 8 rfl) ?_
    refine zz_iload_n hC 1 (dk DX2_opensGate_0k 9 rfl) rfl rfl ?_
    refine zz_pureNi hC (c_X3_absolute l D h0 h1 h2 h3 h4 h5 h6 S F L K T U w n k hg (by omega)) G_X2_70 H_X3_absolute ⟨Nat.le_of_ble_eq_true rfl, Nat.le_of_ble_eq_true rfl⟩ rfl [5, 6, 7, 8, 9, 10, 11] rfl rfl 0 3 ⟨rfl, rfl, rfl⟩ (As := [.int (zI ((k : Nat) : Int))]) (rest := []) (Nat.le_of_ble_eq_true rfl) rfl ⟨Nat.le_of_ble_eq_true rfl, Nat.le_of_ble_eq_true rfl⟩ (dk DX2_opensGate_0k 10 rfl) ⟨rfl, rfl⟩ ?_
    refine zz_iload_n hC 2 (dk DX2_opensGate_0k 11 rfl) rfl rfl ?_
    refine zz_icmp_lt hC 29 (dk DX2_opensGate_0k 12 rfl) (by decide) ⟨⟨by omega, by omega⟩, ⟨by omega, by omega⟩⟩ (fun c3 => ?_) (fun c3 => ?_)
    · refine zz_iconst hC (dk DX2_opensGate_0k 15 rfl) ?_
      exact zz_zret hC hQ hr () trivial (zB_f (by unfold zOp; simp only [decide_eq_true_eq]; omega)).symm (by decide) [0, 1, 2, 3, 4, 5, 6, 7, 8, 9, 10, 11] rfl rfl ⟨Nat.le_refl _, Nat.le_refl _⟩ (dk DX2_opensGate_0k 16 rfl)
    · refine zz_iconst hC (dk DX2_opensGate_0k 13 rfl) ?_
      refine zz_goto hC 30 (dk DX2_opensGate_0k 14 rfl) (by decide) ?_
      exact zz_zret hC hQ hr () trivial (zB_t (by unfold zOp; exact decide_eq_true ⟨by omega, by omega⟩)).symm (by decide) [0, 1, 2, 3, 4, 5, 6, 7, 8, 9, 10, 11] rfl rfl ⟨Nat.le_refl _, Nat.le_refl _⟩ (dk DX2_opensGate_0k 16 rfl)
set_option maxHeartbeats 4000000 in
set_option maxRecDepth 100000 in
theorem c_X2_gate (l : Launch) (D : zG) (r0 : Nat) (r1 : Nat) (r2 : Nat) (r3 : Nat) (r4 : Nat) (g : Nat → Int) (st : Nat → Int) (ch : Nat → Int) (bo : Nat → Int) (bn : Int) (h0 : Nat) (h1 : Nat) (h2 : Nat) (h3 : Nat) (h4 : Nat) (h5 : Nat) (h6 : Nat) (S : Nat → Int) (F : Nat → Int) (L : Nat → Int) (K : Nat → Int) (T : Nat → Int) (U : Nat → Int) (w : Nat) (n : Nat) (gl : Int) (gw : Int) (hg : zLog n K T U) (hgl : 0 ≤ gl ∧ gl ≤ 2000) (hgw : 0 ≤ gw ∧ gw ≤ 100) : CV (S := Nat → Int) l yX2_gate cX2_gate 7 (none) ({ frames := 3, cells := 0, slots := 0, locals := 83 } : Room) D [.ref r0, .int (zI gl), .int (zI gw)] [(r0, .inr (2, [.ref h0, .ref r1, .ref r2, .ref r3, .ref r4, .int (zI bn)])), (r1, bA D 250 g), (r2, iA D 250 st), (r3, lA D 250 ch), (r4, iA D 250 bo), (h0, .inr (3, [.ref h1, .ref h2, .ref h3, .ref h4, .ref h5, .ref h6, .int (zI ((w : Nat) : Int)), .int (zI ((n : Nat) : Int))])), (h1, iA D 11 S), (h2, iA D 4 F), (h3, iA D 4 L), (h4, iA D 250 K), (h5, iA D 250 T), (h6, iA D 250 U)] (fun u => ∀ j, j < n → u j = zB (zGat n K T U gl gw j = true))  (fun u => [(r0, .inr (2, [.ref h0, .ref r1, .ref r2, .ref r3, .ref r4, .int (zI bn)])), (r1, bA D 250 u), (r2, iA D 250 st), (r3, lA D 250 ch), (r4, iA D 250 bo), (h0, .inr (3, [.ref h1, .ref h2, .ref h3, .ref h4, .ref h5, .ref h6, .int (zI ((w : Nat) : Int)), .int (zI ((n : Nat) : Int))])), (h1, iA D 11 S), (h2, iA D 4 F), (h3, iA D 4 L), (h4, iA D 250 K), (h5, iA D 250 T), (h6, iA D 250 U)]) := by
  refine CV_of (by decide) (Nat.le_of_ble_eq_true rfl) ?_
  intro p e s m args below meth cd A Q hQ hC hr hnm
  have hC : ZC p s m args meth cd A D 7 cX2_gate RX2 := hC
  have hg0 := hg
  obtain ⟨hn, hK, hT, hU, hM⟩ := hg0
  show Z p l e ({ frames := 3, cells := 0, slots := 0, locals := 83 } : Room) s m args below meth cd A D Q 7 0 0 [(r0, .inr (2, [.ref h0, .ref r1, .ref r2, .ref r3, .ref r4, .int (zI bn)])), (r1, bA D 250 g), (r2, iA D 250 st), (r3, lA D 250 ch), (r4, iA D 250 bo), (h0, .inr (3, [.ref h1, .ref h2, .ref h3, .ref h4, .ref h5, .ref h6, .int (zI ((w : Nat) : Int)), .int (zI ((n : Nat) : Int))])), (h1, iA D 11 S), (h2, iA D 4 F), (h3, iA D 4 L), (h4, iA D 250 K), (h5, iA D 250 T), (h6, iA D 250 U)] [(0, .ref r0), (1, .int (zI gl)), (2, .int (zI gw))] [] 0
  refine zz_ldc hC 2000000 K_X2_56 (by decide) (dk DX2_gate_0k 0 rfl) ?_
  refine zz_istore_n hC (ls' := [(0, .ref r0), (1, .int (zI gl)), (2, .int (zI gw)), (3, .int (zI 2000000))]) [1, 2, 3, 0] (dk DX2_gate_0k 1 rfl) rfl (by decide) rfl ?_
  refine zz_iload_n hC 3 (dk DX2_gate_0k 2 rfl) rfl rfl ?_
  refine zz_ineg hC (dk DX2_gate_0k 3 rfl) ?_
  refine zz_istore hC (ls' := [(0, .ref r0), (1, .int (zI gl)), (2, .int (zI gw)), (3, .int (zI 2000000)), (4, .int (zI (-2000000)))]) [1, 2, 3, 4, 0] (dk DX2_gate_0k 4 rfl) (by decide) rfl ?_
  refine zz_iconst hC (dk DX2_gate_0k 5 rfl) ?_
  refine zz_istore hC (ls' := [(0, .ref r0), (1, .int (zI gl)), (2, .int (zI gw)), (3, .int (zI 2000000)), (4, .int (zI (-2000000))), (5, .int (zI 0))]) [1, 2, 3, 4, 5, 0] (dk DX2_gate_0k 6 rfl) (by decide) rfl ?_
  have LP10 : ∀ (fuel10 : Nat) (i : Nat) (b : Int) (g1 : Nat → Int), (i ≤ n) → (∀ a, a < i → zOp K U gl a = true → T a ≤ b) → (b = -2000000 ∨ ∃ a, a < i ∧ zOp K U gl a = true ∧ b = T a) → (∀ j, j < i → zGp K T U gl gw g1 j) → (-2000000 ≤ b ∧ b ≤ 1000000) → n - i < fuel10 → Z p l e ({ frames := 3, cells := 0, slots := 0, locals := 83 } : Room) s m args below meth cd A D Q 7 0 0 [(r0, .inr (2, [.ref h0, .ref r1, .ref r2, .ref r3, .ref r4, .int (zI bn)])), (r1, bA D 250 g1), (r2, iA D 250 st), (r3, lA D 250 ch), (r4, iA D 250 bo), (h0, .inr (3, [.ref h1, .ref h2, .ref h3, .ref h4, .ref h5, .ref h6, .int (zI ((w : Nat) : Int)), .int (zI ((n : Nat) : Int))])), (h1, iA D 11 S), (h2, iA D 4 F), (h3, iA D 4 L), (h4, iA D 250 K), (h5, iA D 250 T), (h6, iA D 250 U)] [(0, .ref r0), (1, .int (zI gl)), (2, .int (zI gw)), (3, .int (zI 2000000)), (4, .int (zI b)), (5, .int (zI ((i : Nat) : Int)))] [] 10 := by
    intro fuel10
    induction fuel10 with
    | zero => intro i b g1 hi hb1 hb2 hg1 hbr hfu; exact absurd hfu (Nat.not_lt_zero _)
    | succ fuel10 ih10 =>
      intro i b g1 hi hb1 hb2 hg1 hbr hfu10
      refine zz_iload hC 5 (dk DX2_gate_0k 7 rfl) rfl ?_
      refine zz_aload_n hC 0 (dk DX2_gate_0k 8 rfl) rfl rfl ?_
      refine zz_get hC F_X2_12 0 rfl rfl (dk DX2_gate_0k 9 rfl) ?_
      refine zz_getN hC F_X2_57 5 rfl rfl (dk DX2_gate_0k 10 rfl) ?_
      refine zz_icmp_ge hC 79 (dk DX2_gate_0k 11 rfl) (by decide) ⟨⟨by omega, by omega⟩, ⟨by omega, by omega⟩⟩ (fun c1 => ?_) (fun c1 => ?_)
      · refine zz_iload_n hC 3 (dk DX2_gate_0k 41 rfl) rfl rfl ?_
        refine zz_istore hC (ls' := [(0, .ref r0), (1, .int (zI gl)), (2, .int (zI gw)), (3, .int (zI 2000000)), (4, .int (zI b)), (5, .int (zI 2000000))]) [1, 2, 3, 4, 5, 0] (dk DX2_gate_0k 42 rfl) (by decide) rfl ?_
        refine zz_aload_n hC 0 (dk DX2_gate_0k 43 rfl) rfl rfl ?_
        refine zz_get hC F_X2_12 0 rfl rfl (dk DX2_gate_0k 44 rfl) ?_
        refine zz_getN hC F_X2_57 5 rfl rfl (dk DX2_gate_0k 45 rfl) ?_
        refine zz_iconst hC (dk DX2_gate_0k 46 rfl) ?_
        refine zz_isub hC (dk DX2_gate_0k 47 rfl) ?_
        refine zz_istore hC (ls' := [(0, .ref r0), (1, .int (zI gl)), (2, .int (zI gw)), (3, .int (zI 2000000)), (4, .int (zI b)), (5, .int (zI 2000000)), (6, .int (zI (((n : Nat) : Int) - 1)))]) [1, 2, 3, 4, 5, 6, 0] (dk DX2_gate_0k 48 rfl) (by decide) rfl ?_
        have LP93 : ∀ (fuel93 : Nat) (i : Int) (b : Int) (g2 : Nat → Int), (-1 ≤ i ∧ i < n) → (∀ a : Nat, i < a → a < n → zOp K U gl a = true → b ≤ T a) → (b = 2000000 ∨ ∃ a : Nat, i < a ∧ a < n ∧ zOp K U gl a = true ∧ b = T a) → (∀ j : Nat, (j : Int) ≤ i → zGp K T U gl gw g2 j) → (∀ j : Nat, i < j → j < n → g2 j = zB (zGat n K T U gl gw j = true)) → (0 ≤ b ∧ b ≤ 2000000) → (i + 1).toNat < fuel93 → Z p l e ({ frames := 3, cells := 0, slots := 0, locals := 83 } : Room) s m args below meth cd A D Q 7 0 0 [(r0, .inr (2, [.ref h0, .ref r1, .ref r2, .ref r3, .ref r4, .int (zI bn)])), (r1, bA D 250 g2), (r2, iA D 250 st), (r3, lA D 250 ch), (r4, iA D 250 bo), (h0, .inr (3, [.ref h1, .ref h2, .ref h3, .ref h4, .ref h5, .ref h6, .int (zI ((w : Nat) : Int)), .int (zI ((n : Nat) : Int))])), (h1, iA D 11 S), (h2, iA D 4 F), (h3, iA D 4 L), (h4, iA D 250 K), (h5, iA D 250 T), (h6, iA D 250 U)] [(0, .ref r0), (1, .int (zI gl)), (2, .int (zI gw)), (5, .int (zI b)), (6, .int (zI i))] [] 93 := by
          intro fuel93
          induction fuel93 with
          | zero => intro i b g2 hi hb1 hb2 hlo hhi hbr hfu; exact absurd hfu (Nat.not_lt_zero _)
          | succ fuel93 ih93 =>
            intro i b g2 hi hb1 hb2 hlo hhi hbr hfu93
            refine zz_iload hC 4 (dk DX2_gate_0k 49 rfl) rfl ?_
            refine zz_if_lt hC 151 (dk DX2_gate_0k 50 rfl) (by decide) ⟨by omega, by omega⟩ (fun c2 => ?_) (fun c2 => ?_)
            · exact zz_ret hC hQ hr g2 (fun j hj => hhi j (by omega) hj) [0, 1, 2, 3, 4, 5, 6, 7, 8, 9, 10, 11] rfl rfl ⟨Nat.le_refl _, Nat.le_refl _⟩ (dk DX2_gate_1k 18 rfl)
            · obtain ⟨k, rfl⟩ : ∃ k : Nat, i = (k : Int) := ⟨i.toNat, by omega⟩
              have hTk := hT k (by omega)
              have hGk := hlo k (Int.le_refl _)
              refine zz_aload_n hC 0 (dk DX2_gate_0k 51 rfl) rfl rfl ?_
              refine zz_iload hC 4 (dk DX2_gate_0k 52 rfl) rfl ?_
              refine zz_iload_n hC 1 (dk DX2_gate_0k 53 rfl) rfl rfl ?_
              refine zz_pureVi hC (c_X2_opensGate l D r0 r1 r2 r3 r4 g2 st ch bo bn h0 h1 h2 h3 h4 h5 h6 S F L K T U w n k gl hg (by omega) (by omega)) G_X2_60 H_X2_opensGate ⟨Nat.le_of_ble_eq_true rfl, Nat.le_of_ble_eq_true rfl⟩ rfl [0, 1, 2, 3, 4, 5, 6, 7, 8, 9, 10, 11] rfl rfl 0 2 ⟨rfl, rfl, rfl⟩ (As := [.int (zI ((k : Nat) : Int)), .int (zI gl)]) (rest := []) (Nat.le_of_ble_eq_true rfl) rfl ⟨Nat.le_of_ble_eq_true rfl, Nat.le_of_ble_eq_true rfl⟩ (dk DX2_gate_0k 54 rfl) ⟨rfl, rfl⟩ ?_
              refine zz_ifb_eq hC 120 (dk DX2_gate_0k 55 rfl) (by decide) (fun c3 => ?_) (fun c3 => ?_)
              · refine zz_iload hC 3 (dk DX2_gate_1k 2 rfl) rfl ?_
                refine zz_aload_n hC 0 (dk DX2_gate_1k 3 rfl) rfl rfl ?_
                refine zz_get hC F_X2_12 0 rfl rfl (dk DX2_gate_1k 4 rfl) ?_
                refine zz_getN hC F_X2_64 5 rfl rfl (dk DX2_gate_1k 5 rfl) ?_
                refine zz_iload hC 4 (dk DX2_gate_1k 6 rfl) rfl ?_
                refine zz_iald hC k 10 rfl rfl (by omega) (dk DX2_gate_1k 7 rfl) ?_
                have hf4 := hT k (by omega)
                refine zz_isub hC (dk DX2_gate_1k 8 rfl) ?_
                refine zz_iload_n hC 2 (dk DX2_gate_1k 9 rfl) rfl rfl ?_
                refine zz_icmp_gt hC 145 (dk DX2_gate_1k 10 rfl) (by decide) ⟨⟨by omega, by omega⟩, ⟨by omega, by omega⟩⟩ (fun c5 => ?_) (fun c5 => ?_)
                · refine zz_iinc hC (((k : Nat) : Int) - 1) (ls' := [(0, .ref r0), (1, .int (zI gl)), (2, .int (zI gw)), (5, .int (zI b)), (6, .int (zI (((k : Nat) : Int) - 1)))]) 4 [1, 2, 3, 4, 0] (dk DX2_gate_1k 16 rfl) rfl (by omega) (by decide) rfl ?_
                  refine zz_goto hC 93 (dk DX2_gate_1k 17 rfl) (by decide) ?_
                  refine zz_ls [0, 1, 2, 3, 4] rfl ?_
                  exact ih93 (((k : Nat) : Int) - 1) b g2 (by omega) (gate_bf (by assumption) hb1) (gate_bf2 hb2) (fun j hj => hlo j (by omega)) (gate_hi2 (V := fun j => zB (zGat n K T U gl gw j = true)) (gate_z hM (by omega) hGk (gate_bf (by assumption) hb1) (gate_bf2 hb2) (by omega) (by omega) (Or.inr ⟨by omega, rfl⟩)) hhi) (by omega) (by omega)
                · refine zz_aload_n hC 0 (dk DX2_gate_1k 11 rfl) rfl rfl ?_
                  refine zz_get hC F_X2_18 0 rfl rfl (dk DX2_gate_1k 12 rfl) ?_
                  refine zz_iload hC 4 (dk DX2_gate_1k 13 rfl) rfl ?_
                  refine zz_iconst hC (dk DX2_gate_1k 14 rfl) ?_
                  refine zz_zast hC (ws' := [(r0, .inr (2, [.ref h0, .ref r1, .ref r2, .ref r3, .ref r4, .int (zI bn)])), (r1, bA D 250 (zU g2 k 1)), (r2, iA D 250 st), (r3, lA D 250 ch), (r4, iA D 250 bo), (h0, .inr (3, [.ref h1, .ref h2, .ref h3, .ref h4, .ref h5, .ref h6, .int (zI ((w : Nat) : Int)), .int (zI ((n : Nat) : Int))])), (h1, iA D 11 S), (h2, iA D 4 F), (h3, iA D 4 L), (h4, iA D 250 K), (h5, iA D 250 T), (h6, iA D 250 U)]) k 1 rfl rfl (by omega) (by omega) rfl (dk DX2_gate_1k 15 rfl) ?_
                  refine zz_iinc hC (((k : Nat) : Int) - 1) (ls' := [(0, .ref r0), (1, .int (zI gl)), (2, .int (zI gw)), (5, .int (zI b)), (6, .int (zI (((k : Nat) : Int) - 1)))]) 4 [1, 2, 3, 4, 0] (dk DX2_gate_1k 16 rfl) rfl (by omega) (by decide) rfl ?_
                  refine zz_goto hC 93 (dk DX2_gate_1k 17 rfl) (by decide) ?_
                  refine zz_ls [0, 1, 2, 3, 4] rfl ?_
                  exact ih93 (((k : Nat) : Int) - 1) b (zU g2 k 1) (by omega) (gate_bf (by assumption) hb1) (gate_bf2 hb2) (gate_lo hlo) (gate_hi (V := fun j => zB (zGat n K T U gl gw j = true)) (gate_z hM (by omega) hGk (gate_bf (by assumption) hb1) (gate_bf2 hb2) (by omega) (by omega) (Or.inl ⟨by omega, rfl⟩)) hhi) (by omega) (by omega)
              · refine zz_aload_n hC 0 (dk DX2_gate_0k 56 rfl) rfl rfl ?_
                refine zz_get hC F_X2_12 0 rfl rfl (dk DX2_gate_0k 57 rfl) ?_
                refine zz_getN hC F_X2_64 5 rfl rfl (dk DX2_gate_0k 58 rfl) ?_
                refine zz_iload hC 4 (dk DX2_gate_0k 59 rfl) rfl ?_
                refine zz_iald hC k 10 rfl rfl (by omega) (dk DX2_gate_1k 0 rfl) ?_
                have hf6 := hT k (by omega)
                refine zz_istore hC (ls' := [(0, .ref r0), (1, .int (zI gl)), (2, .int (zI gw)), (5, .int (zI (T k))), (6, .int (zI ((k : Nat) : Int)))]) [1, 2, 3, 0, 4] (dk DX2_gate_1k 1 rfl) (by decide) rfl ?_
                refine zz_iload hC 3 (dk DX2_gate_1k 2 rfl) rfl ?_
                refine zz_aload_n hC 0 (dk DX2_gate_1k 3 rfl) rfl rfl ?_
                refine zz_get hC F_X2_12 0 rfl rfl (dk DX2_gate_1k 4 rfl) ?_
                refine zz_getN hC F_X2_64 5 rfl rfl (dk DX2_gate_1k 5 rfl) ?_
                refine zz_iload hC 4 (dk DX2_gate_1k 6 rfl) rfl ?_
                refine zz_iald hC k 10 rfl rfl (by omega) (dk DX2_gate_1k 7 rfl) ?_
                have hf7 := hT k (by omega)
                refine zz_isub hC (dk DX2_gate_1k 8 rfl) ?_
                refine zz_iload_n hC 2 (dk DX2_gate_1k 9 rfl) rfl rfl ?_
                refine zz_icmp_gt hC 145 (dk DX2_gate_1k 10 rfl) (by decide) ⟨⟨by omega, by omega⟩, ⟨by omega, by omega⟩⟩ (fun c8 => ?_) (fun c8 => ?_)
                · refine zz_iinc hC (((k : Nat) : Int) - 1) (ls' := [(0, .ref r0), (1, .int (zI gl)), (2, .int (zI gw)), (5, .int (zI (T k))), (6, .int (zI (((k : Nat) : Int) - 1)))]) 4 [1, 2, 3, 4, 0] (dk DX2_gate_1k 16 rfl) rfl (by omega) (by decide) rfl ?_
                  refine zz_goto hC 93 (dk DX2_gate_1k 17 rfl) (by decide) ?_
                  refine zz_ls [0, 1, 2, 3, 4] rfl ?_
                  exact ih93 (((k : Nat) : Int) - 1) (T k) g2 (by omega) (gate_bt hM) (Or.inr ⟨k, by omega, by omega, by assumption, rfl⟩) (fun j hj => hlo j (by omega)) (gate_hi2 (V := fun j => zB (zGat n K T U gl gw j = true)) (gate_z hM (by omega) hGk (gate_bt hM) (Or.inr ⟨k, by omega, by omega, by assumption, rfl⟩) (by omega) (by omega) (Or.inr ⟨by omega, rfl⟩)) hhi) (by omega) (by omega)
                · refine zz_aload_n hC 0 (dk DX2_gate_1k 11 rfl) rfl rfl ?_
                  refine zz_get hC F_X2_18 0 rfl rfl (dk DX2_gate_1k 12 rfl) ?_
                  refine zz_iload hC 4 (dk DX2_gate_1k 13 rfl) rfl ?_
                  refine zz_iconst hC (dk DX2_gate_1k 14 rfl) ?_
                  refine zz_zast hC (ws' := [(r0, .inr (2, [.ref h0, .ref r1, .ref r2, .ref r3, .ref r4, .int (zI bn)])), (r1, bA D 250 (zU g2 k 1)), (r2, iA D 250 st), (r3, lA D 250 ch), (r4, iA D 250 bo), (h0, .inr (3, [.ref h1, .ref h2, .ref h3, .ref h4, .ref h5, .ref h6, .int (zI ((w : Nat) : Int)), .int (zI ((n : Nat) : Int))])), (h1, iA D 11 S), (h2, iA D 4 F), (h3, iA D 4 L), (h4, iA D 250 K), (h5, iA D 250 T), (h6, iA D 250 U)]) k 1 rfl rfl (by omega) (by omega) rfl (dk DX2_gate_1k 15 rfl) ?_
                  refine zz_iinc hC (((k : Nat) : Int) - 1) (ls' := [(0, .ref r0), (1, .int (zI gl)), (2, .int (zI gw)), (5, .int (zI (T k))), (6, .int (zI (((k : Nat) : Int) - 1)))]) 4 [1, 2, 3, 4, 0] (dk DX2_gate_1k 16 rfl) rfl (by omega) (by decide) rfl ?_
                  refine zz_goto hC 93 (dk DX2_gate_1k 17 rfl) (by decide) ?_
                  refine zz_ls [0, 1, 2, 3, 4] rfl ?_
                  exact ih93 (((k : Nat) : Int) - 1) (T k) (zU g2 k 1) (by omega) (gate_bt hM) (Or.inr ⟨k, by omega, by omega, by assumption, rfl⟩) (gate_lo hlo) (gate_hi (V := fun j => zB (zGat n K T U gl gw j = true)) (gate_z hM (by omega) hGk (gate_bt hM) (Or.inr ⟨k, by omega, by omega, by assumption, rfl⟩) (by omega) (by omega) (Or.inl ⟨by omega, rfl⟩)) hhi) (by omega) (by omega)
        refine zz_ls [0, 1, 2, 5, 6] rfl ?_
        exact LP93 _ (((n : Nat) : Int) - 1) 2000000 g1 (by omega) (fun a h1 h2 => absurd h1 (by omega)) (Or.inl rfl) (fun j hj => hg1 j (by omega)) (fun j h1 h2 => absurd h1 (by omega)) (by omega) (Nat.lt_succ_self _)
      · have hTi := hT i (by omega)
        refine zz_aload_n hC 0 (dk DX2_gate_0k 12 rfl) rfl rfl ?_
        refine zz_iload hC 5 (dk DX2_gate_0k 13 rfl) rfl ?_
        refine zz_iload_n hC 1 (dk DX2_gate_0k 14 rfl) rfl rfl ?_
        refine zz_pureVi hC (c_X2_opensGate l D r0 r1 r2 r3 r4 g1 st ch bo bn h0 h1 h2 h3 h4 h5 h6 S F L K T U w n i gl hg (by omega) (by omega)) G_X2_60 H_X2_opensGate ⟨Nat.le_of_ble_eq_true rfl, Nat.le_of_ble_eq_true rfl⟩ rfl [0, 1, 2, 3, 4, 5, 6, 7, 8, 9, 10, 11] rfl rfl 0 2 ⟨rfl, rfl, rfl⟩ (As := [.int (zI ((i : Nat) : Int)), .int (zI gl)]) (rest := []) (Nat.le_of_ble_eq_true rfl) rfl ⟨Nat.le_of_ble_eq_true rfl, Nat.le_of_ble_eq_true rfl⟩ (dk DX2_gate_0k 15 rfl) ⟨rfl, rfl⟩ ?_
        refine zz_ifb_eq hC 44 (dk DX2_gate_0k 16 rfl) (by decide) (fun c9 => ?_) (fun c9 => ?_)
        · refine zz_aload_n hC 0 (dk DX2_gate_0k 23 rfl) rfl rfl ?_
          refine zz_get hC F_X2_18 0 rfl rfl (dk DX2_gate_0k 24 rfl) ?_
          refine zz_iload hC 5 (dk DX2_gate_0k 25 rfl) rfl ?_
          refine zz_aload_n hC 0 (dk DX2_gate_0k 26 rfl) rfl rfl ?_
          refine zz_get hC F_X2_12 0 rfl rfl (dk DX2_gate_0k 27 rfl) ?_
          refine zz_getN hC F_X2_64 5 rfl rfl (dk DX2_gate_0k 28 rfl) ?_
          refine zz_iload hC 5 (dk DX2_gate_0k 29 rfl) rfl ?_
          refine zz_iald hC i 10 rfl rfl (by omega) (dk DX2_gate_0k 30 rfl) ?_
          have hf10 := hT i (by omega)
          refine zz_iload hC 4 (dk DX2_gate_0k 31 rfl) rfl ?_
          refine zz_isub hC (dk DX2_gate_0k 32 rfl) ?_
          refine zz_iload_n hC 2 (dk DX2_gate_0k 33 rfl) rfl rfl ?_
          refine zz_icmp_gt hC 71 (dk DX2_gate_0k 34 rfl) (by decide) ⟨⟨by omega, by omega⟩, ⟨by omega, by omega⟩⟩ (fun c11 => ?_) (fun c11 => ?_)
          · refine zz_iconst hC (dk DX2_gate_0k 37 rfl) ?_
            refine zz_zast hC (ws' := [(r0, .inr (2, [.ref h0, .ref r1, .ref r2, .ref r3, .ref r4, .int (zI bn)])), (r1, bA D 250 (zU g1 i 0)), (r2, iA D 250 st), (r3, lA D 250 ch), (r4, iA D 250 bo), (h0, .inr (3, [.ref h1, .ref h2, .ref h3, .ref h4, .ref h5, .ref h6, .int (zI ((w : Nat) : Int)), .int (zI ((n : Nat) : Int))])), (h1, iA D 11 S), (h2, iA D 4 F), (h3, iA D 4 L), (h4, iA D 250 K), (h5, iA D 250 T), (h6, iA D 250 U)]) i 1 rfl rfl (by omega) (by omega) rfl (dk DX2_gate_0k 38 rfl) ?_
            refine zz_iinc hC ((i + 1 : Nat) : Int) (ls' := [(0, .ref r0), (1, .int (zI gl)), (2, .int (zI gw)), (3, .int (zI 2000000)), (4, .int (zI b)), (5, .int (zI ((i + 1 : Nat) : Int)))]) 5 [1, 2, 3, 4, 5, 0] (dk DX2_gate_0k 39 rfl) rfl (by omega) (by decide) rfl ?_
            refine zz_goto hC 10 (dk DX2_gate_0k 40 rfl) (by decide) ?_
            refine zz_ls [0, 1, 2, 3, 4, 5] rfl ?_
            exact ih10 (i + 1) b (zU g1 i 0) (by omega) (gate_f (by assumption) hb1) (gate_f2 hb2) (gate_g (gate_f (by assumption) hb1) (gate_f2 hb2) (by omega) (by omega) (by omega) (by omega) hg1) (by omega) (by omega)
          · refine zz_iconst hC (dk DX2_gate_0k 35 rfl) ?_
            refine zz_goto hC 72 (dk DX2_gate_0k 36 rfl) (by decide) ?_
            refine zz_zast hC (ws' := [(r0, .inr (2, [.ref h0, .ref r1, .ref r2, .ref r3, .ref r4, .int (zI bn)])), (r1, bA D 250 (zU g1 i 1)), (r2, iA D 250 st), (r3, lA D 250 ch), (r4, iA D 250 bo), (h0, .inr (3, [.ref h1, .ref h2, .ref h3, .ref h4, .ref h5, .ref h6, .int (zI ((w : Nat) : Int)), .int (zI ((n : Nat) : Int))])), (h1, iA D 11 S), (h2, iA D 4 F), (h3, iA D 4 L), (h4, iA D 250 K), (h5, iA D 250 T), (h6, iA D 250 U)]) i 1 rfl rfl (by omega) (by omega) rfl (dk DX2_gate_0k 38 rfl) ?_
            refine zz_iinc hC ((i + 1 : Nat) : Int) (ls' := [(0, .ref r0), (1, .int (zI gl)), (2, .int (zI gw)), (3, .int (zI 2000000)), (4, .int (zI b)), (5, .int (zI ((i + 1 : Nat) : Int)))]) 5 [1, 2, 3, 4, 5, 0] (dk DX2_gate_0k 39 rfl) rfl (by omega) (by decide) rfl ?_
            refine zz_goto hC 10 (dk DX2_gate_0k 40 rfl) (by decide) ?_
            refine zz_ls [0, 1, 2, 3, 4, 5] rfl ?_
            exact ih10 (i + 1) b (zU g1 i 1) (by omega) (gate_f (by assumption) hb1) (gate_f2 hb2) (gate_g (gate_f (by assumption) hb1) (gate_f2 hb2) (by omega) (by omega) (by omega) (by omega) hg1) (by omega) (by omega)
        · refine zz_aload_n hC 0 (dk DX2_gate_0k 17 rfl) rfl rfl ?_
          refine zz_get hC F_X2_12 0 rfl rfl (dk DX2_gate_0k 18 rfl) ?_
          refine zz_getN hC F_X2_64 5 rfl rfl (dk DX2_gate_0k 19 rfl) ?_
          refine zz_iload hC 5 (dk DX2_gate_0k 20 rfl) rfl ?_
          refine zz_iald hC i 10 rfl rfl (by omega) (dk DX2_gate_0k 21 rfl) ?_
          have hf12 := hT i (by omega)
          refine zz_istore hC (ls' := [(0, .ref r0), (1, .int (zI gl)), (2, .int (zI gw)), (3, .int (zI 2000000)), (4, .int (zI (T i))), (5, .int (zI ((i : Nat) : Int)))]) [1, 2, 3, 4, 0, 5] (dk DX2_gate_0k 22 rfl) (by decide) rfl ?_
          refine zz_aload_n hC 0 (dk DX2_gate_0k 23 rfl) rfl rfl ?_
          refine zz_get hC F_X2_18 0 rfl rfl (dk DX2_gate_0k 24 rfl) ?_
          refine zz_iload hC 5 (dk DX2_gate_0k 25 rfl) rfl ?_
          refine zz_aload_n hC 0 (dk DX2_gate_0k 26 rfl) rfl rfl ?_
          refine zz_get hC F_X2_12 0 rfl rfl (dk DX2_gate_0k 27 rfl) ?_
          refine zz_getN hC F_X2_64 5 rfl rfl (dk DX2_gate_0k 28 rfl) ?_
          refine zz_iload hC 5 (dk DX2_gate_0k 29 rfl) rfl ?_
          refine zz_iald hC i 10 rfl rfl (by omega) (dk DX2_gate_0k 30 rfl) ?_
          have hf13 := hT i (by omega)
          refine zz_iload hC 4 (dk DX2_gate_0k 31 rfl) rfl ?_
          refine zz_isub hC (dk DX2_gate_0k 32 rfl) ?_
          refine zz_iload_n hC 2 (dk DX2_gate_0k 33 rfl) rfl rfl ?_
          refine zz_icmp_gt hC 71 (dk DX2_gate_0k 34 rfl) (by decide) ⟨⟨by omega, by omega⟩, ⟨by omega, by omega⟩⟩ (fun c14 => ?_) (fun c14 => ?_)
          · refine zz_iconst hC (dk DX2_gate_0k 37 rfl) ?_
            refine zz_zast hC (ws' := [(r0, .inr (2, [.ref h0, .ref r1, .ref r2, .ref r3, .ref r4, .int (zI bn)])), (r1, bA D 250 (zU g1 i 0)), (r2, iA D 250 st), (r3, lA D 250 ch), (r4, iA D 250 bo), (h0, .inr (3, [.ref h1, .ref h2, .ref h3, .ref h4, .ref h5, .ref h6, .int (zI ((w : Nat) : Int)), .int (zI ((n : Nat) : Int))])), (h1, iA D 11 S), (h2, iA D 4 F), (h3, iA D 4 L), (h4, iA D 250 K), (h5, iA D 250 T), (h6, iA D 250 U)]) i 1 rfl rfl (by omega) (by omega) rfl (dk DX2_gate_0k 38 rfl) ?_
            refine zz_iinc hC ((i + 1 : Nat) : Int) (ls' := [(0, .ref r0), (1, .int (zI gl)), (2, .int (zI gw)), (3, .int (zI 2000000)), (4, .int (zI (T i))), (5, .int (zI ((i + 1 : Nat) : Int)))]) 5 [1, 2, 3, 4, 5, 0] (dk DX2_gate_0k 39 rfl) rfl (by omega) (by decide) rfl ?_
            refine zz_goto hC 10 (dk DX2_gate_0k 40 rfl) (by decide) ?_
            refine zz_ls [0, 1, 2, 3, 4, 5] rfl ?_
            exact ih10 (i + 1) (T i) (zU g1 i 0) (by omega) (gate_t (b := 0) hM (by omega)) (Or.inr ⟨i, by omega, by assumption, rfl⟩) (gate_g (gate_t (b := 0) hM (by omega)) (Or.inr ⟨i, by omega, by assumption, rfl⟩) (by omega) (by omega) (by omega) (by omega) hg1) (by omega) (by omega)
          · refine zz_iconst hC (dk DX2_gate_0k 35 rfl) ?_
            refine zz_goto hC 72 (dk DX2_gate_0k 36 rfl) (by decide) ?_
            refine zz_zast hC (ws' := [(r0, .inr (2, [.ref h0, .ref r1, .ref r2, .ref r3, .ref r4, .int (zI bn)])), (r1, bA D 250 (zU g1 i 1)), (r2, iA D 250 st), (r3, lA D 250 ch), (r4, iA D 250 bo), (h0, .inr (3, [.ref h1, .ref h2, .ref h3, .ref h4, .ref h5, .ref h6, .int (zI ((w : Nat) : Int)), .int (zI ((n : Nat) : Int))])), (h1, iA D 11 S), (h2, iA D 4 F), (h3, iA D 4 L), (h4, iA D 250 K), (h5, iA D 250 T), (h6, iA D 250 U)]) i 1 rfl rfl (by omega) (by omega) rfl (dk DX2_gate_0k 38 rfl) ?_
            refine zz_iinc hC ((i + 1 : Nat) : Int) (ls' := [(0, .ref r0), (1, .int (zI gl)), (2, .int (zI gw)), (3, .int (zI 2000000)), (4, .int (zI (T i))), (5, .int (zI ((i + 1 : Nat) : Int)))]) 5 [1, 2, 3, 4, 5, 0] (dk DX2_gate_0k 39 rfl) rfl (by omega) (by decide) rfl ?_
            refine zz_goto hC 10 (dk DX2_gate_0k 40 rfl) (by decide) ?_
            refine zz_ls [0, 1, 2, 3, 4, 5] rfl ?_
            exact ih10 (i + 1) (T i) (zU g1 i 1) (by omega) (gate_t (b := 0) hM (by omega)) (Or.inr ⟨i, by omega, by assumption, rfl⟩) (gate_g (gate_t (b := 0) hM (by omega)) (Or.inr ⟨i, by omega, by assumption, rfl⟩) (by omega) (by omega) (by omega) (by omega) hg1) (by omega) (by omega)
  refine zz_ls [0, 1, 2, 3, 4, 5] rfl ?_
  exact LP10 _ 0 (-2000000) g (by omega) (fun a ha => absurd ha (by omega)) (Or.inl rfl) (fun a ha => absurd ha (by omega)) (by omega) (Nat.lt_succ_self _)
set_option maxHeartbeats 4000000 in
set_option maxRecDepth 100000 in
theorem c_X2_statusOf (l : Launch) (D : zG) (r0 : Nat) (r1 : Nat) (r2 : Nat) (r3 : Nat) (r4 : Nat) (g : Nat → Int) (st : Nat → Int) (ch : Nat → Int) (bo : Nat → Int) (bn : Int) (h0 : Nat) (h1 : Nat) (h2 : Nat) (h3 : Nat) (h4 : Nat) (h5 : Nat) (h6 : Nat) (S : Nat → Int) (F : Nat → Int) (L : Nat → Int) (K : Nat → Int) (T : Nat → Int) (U : Nat → Int) (w : Nat) (n : Nat) (G : Nat → Bool) (k : Nat) (lv : Int) (du : Int) (hg : zLog n K T U) (hs : zSet S) (hw : zWin w F L) (hk : k < n) (hgat : g k = zB (G k = true)) (hlv : 0 ≤ lv ∧ lv ≤ 2000) (hdu : 0 ≤ du ∧ du ≤ 1001000) : CI (S := Unit) l yX2_statusOf cX2_statusOf 4 ((some .int)) ({ frames := 2, cells := 0, slots := 0, locals := 61 } : Room) D [.ref r0, .int (zI ((k : Nat) : Int)), .int (zI lv), .int (zI du)] [(r0, .inr (2, [.ref h0, .ref r1, .ref r2, .ref r3, .ref r4, .int (zI bn)])), (r1, bA D 250 g), (r2, iA D 250 st), (r3, lA D 250 ch), (r4, iA D 250 bo), (h0, .inr (3, [.ref h1, .ref h2, .ref h3, .ref h4, .ref h5, .ref h6, .int (zI ((w : Nat) : Int)), .int (zI ((n : Nat) : Int))])), (h1, iA D 11 S), (h2, iA D 4 F), (h3, iA D 4 L), (h4, iA D 250 K), (h5, iA D 250 T), (h6, iA D 250 U)] (fun _ => True) (fun _ => (zS0 K T U G (zBl w F L T S) lv du k)) (fun _ => [(r0, .inr (2, [.ref h0, .ref r1, .ref r2, .ref r3, .ref r4, .int (zI bn)])), (r1, bA D 250 g), (r2, iA D 250 st), (r3, lA D 250 ch), (r4, iA D 250 bo), (h0, .inr (3, [.ref h1, .ref h2, .ref h3, .ref h4, .ref h5, .ref h6, .int (zI ((w : Nat) : Int)), .int (zI ((n : Nat) : Int))])), (h1, iA D 11 S), (h2, iA D 4 F), (h3, iA D 4 L), (h4, iA D 250 K), (h5, iA D 250 T), (h6, iA D 250 U)]) := by
  refine CI_of (by decide) (Nat.le_of_ble_eq_true rfl) ?_
  intro p e s m args below meth cd A Q hQ hC hr hnm
  have hC : ZC p s m args meth cd A D 4 cX2_statusOf RX2 := hC
  have hg0 := hg
  obtain ⟨hn, hK, hT, hU, hM⟩ := hg0
  have hUk := hU k hk
  have hph := zPh_in (T := T) (S := S) (k := k)
  show Z p l e ({ frames := 2, cells := 0, slots := 0, locals := 61 } : Room) s m args below meth cd A D Q 4 0 0 [(r0, .inr (2, [.ref h0, .ref r1, .ref r2, .ref r3, .ref r4, .int (zI bn)])), (r1, bA D 250 g), (r2, iA D 250 st), (r3, lA D 250 ch), (r4, iA D 250 bo), (h0, .inr (3, [.ref h1, .ref h2, .ref h3, .ref h4, .ref h5, .ref h6, .int (zI ((w : Nat) : Int)), .int (zI ((n : Nat) : Int))])), (h1, iA D 11 S), (h2, iA D 4 F), (h3, iA D 4 L), (h4, iA D 250 K), (h5, iA D 250 T), (h6, iA D 250 U)] [(0, .ref r0), (1, .int (zI ((k : Nat) : Int))), (2, .int (zI lv)), (3, .int (zI du))] [] 0
  refine zz_aload_n hC 0 (dk DX2_statusOf_0k 0 rfl) rfl rfl ?_
  refine zz_get hC F_X2_12 0 rfl rfl (dk DX2_statusOf_0k 1 rfl) ?_
  refine zz_getN hC F_X2_67 5 rfl rfl (dk DX2_statusOf_0k 2 rfl) ?_
  refine zz_iload_n hC 1 (dk DX2_statusOf_0k 3 rfl) rfl rfl ?_
  refine zz_iald hC k 9 rfl rfl (by omega) (dk DX2_statusOf_0k 4 rfl) ?_
  have hf1 := hK k (by omega)
  refine zz_if_eq hC 32 (dk DX2_statusOf_0k 5 rfl) (by decide) ⟨by omega, by omega⟩ (fun c2 => ?_) (fun c2 => ?_)
  · refine zz_aload_n hC 0 (dk DX2_statusOf_0k 17 rfl) rfl rfl ?_
    refine zz_get hC F_X2_12 0 rfl rfl (dk DX2_statusOf_0k 18 rfl) ?_
    refine zz_iload_n hC 1 (dk DX2_statusOf_0k 19 rfl) rfl rfl ?_
    refine zz_pureNi hC (c_X3_absolute l D h0 h1 h2 h3 h4 h5 h6 S F L K T U w n k hg (by omega)) G_X2_70 H_X3_absolute ⟨Nat.le_of_ble_eq_true rfl, Nat.le_of_ble_eq_true rfl⟩ rfl [5, 6, 7, 8, 9, 10, 11] rfl rfl 0 3 ⟨rfl, rfl, rfl⟩ (As := [.int (zI ((k : Nat) : Int))]) (rest := []) (Nat.le_of_ble_eq_true rfl) rfl ⟨Nat.le_of_ble_eq_true rfl, Nat.le_of_ble_eq_true rfl⟩ (dk DX2_statusOf_0k 20 rfl) ⟨rfl, rfl⟩ ?_
    refine zz_iload_n hC 2 (dk DX2_statusOf_0k 21 rfl) rfl rfl ?_
    refine zz_icmp_ge hC 46 (dk DX2_statusOf_0k 22 rfl) (by decide) ⟨⟨by omega, by omega⟩, ⟨by omega, by omega⟩⟩ (fun c3 => ?_) (fun c3 => ?_)
    · refine zz_aload_n hC 0 (dk DX2_statusOf_0k 25 rfl) rfl rfl ?_
      refine zz_get hC F_X2_18 0 rfl rfl (dk DX2_statusOf_0k 26 rfl) ?_
      refine zz_iload_n hC 1 (dk DX2_statusOf_0k 27 rfl) rfl rfl ?_
      refine zz_zald hC k 1 rfl rfl (by omega) (dk DX2_statusOf_0k 28 rfl) ?_
      rw [hgat]
      refine zz_ifb_eq hC 57 (dk DX2_statusOf_0k 29 rfl) (by decide) (fun c4 => ?_) (fun c4 => ?_)
      · refine zz_aload_n hC 0 (dk DX2_statusOf_0k 32 rfl) rfl rfl ?_
        refine zz_get hC F_X2_12 0 rfl rfl (dk DX2_statusOf_0k 33 rfl) ?_
        refine zz_aload_n hC 0 (dk DX2_statusOf_0k 34 rfl) rfl rfl ?_
        refine zz_get hC F_X2_12 0 rfl rfl (dk DX2_statusOf_0k 35 rfl) ?_
        refine zz_iload_n hC 1 (dk DX2_statusOf_0k 36 rfl) rfl rfl ?_
        refine zz_pureNi hC (c_X3_phase l D h0 h1 h2 h3 h4 h5 h6 S F L K T U w n k hg hs (by omega)) G_X2_78 H_X3_phase ⟨Nat.le_of_ble_eq_true rfl, Nat.le_of_ble_eq_true rfl⟩ rfl [5, 6, 7, 8, 9, 10, 11] rfl rfl 0 3 ⟨rfl, rfl, rfl⟩ (As := [.int (zI ((k : Nat) : Int))]) (rest := [.ref h0]) (Nat.le_of_ble_eq_true rfl) rfl ⟨Nat.le_of_ble_eq_true rfl, Nat.le_of_ble_eq_true rfl⟩ (dk DX2_statusOf_0k 37 rfl) ⟨rfl, rfl⟩ ?_
        refine zz_pureNi hC (c_X3_isBlocked l D h0 h1 h2 h3 h4 h5 h6 S F L K T U w n (zPh T S k) hw (by omega)) G_X2_81 H_X3_isBlocked ⟨Nat.le_of_ble_eq_true rfl, Nat.le_of_ble_eq_true rfl⟩ rfl [5, 6, 7, 8, 9, 10, 11] rfl rfl 0 3 ⟨rfl, rfl, rfl⟩ (As := [.int (zI (zPh T S k))]) (rest := []) (Nat.le_of_ble_eq_true rfl) rfl ⟨Nat.le_of_ble_eq_true rfl, Nat.le_of_ble_eq_true rfl⟩ (dk DX2_statusOf_0k 38 rfl) ⟨rfl, rfl⟩ ?_
        refine zz_ifb_eq hC 77 (dk DX2_statusOf_0k 39 rfl) (by decide) (fun c5 => ?_) (fun c5 => ?_)
        · refine zz_aload_n hC 0 (dk DX2_statusOf_0k 42 rfl) rfl rfl ?_
          refine zz_get hC F_X2_12 0 rfl rfl (dk DX2_statusOf_0k 43 rfl) ?_
          refine zz_getN hC F_X2_64 5 rfl rfl (dk DX2_statusOf_0k 44 rfl) ?_
          refine zz_iload_n hC 1 (dk DX2_statusOf_0k 45 rfl) rfl rfl ?_
          refine zz_iald hC k 10 rfl rfl (by omega) (dk DX2_statusOf_0k 46 rfl) ?_
          have hf6 := hT k (by omega)
          refine zz_iload_n hC 3 (dk DX2_statusOf_0k 47 rfl) rfl rfl ?_
          refine zz_icmp_ge hC 94 (dk DX2_statusOf_0k 48 rfl) (by decide) ⟨⟨by omega, by omega⟩, ⟨by omega, by omega⟩⟩ (fun c7 => ?_) (fun c7 => ?_)
          · refine zz_iconst hC (dk DX2_statusOf_0k 51 rfl) ?_
            exact zz_iret hC hQ hr () trivial (by unfold zS0; rw [if_pos (show K k = 0 by omega), if_neg (by omega), if_neg (show ¬ G k = true by assumption), if_neg (show ¬ zBl w F L T S k = true from (show ¬ zBlk w F L (zPh T S k) = true by assumption)), if_neg (by omega)]) [0, 1, 2, 3, 4, 5, 6, 7, 8, 9, 10, 11] rfl rfl ⟨Nat.le_refl _, Nat.le_refl _⟩ (dk DX2_statusOf_0k 52 rfl)
          · refine zz_iconst hC (dk DX2_statusOf_0k 49 rfl) ?_
            refine zz_goto hC 95 (dk DX2_statusOf_0k 50 rfl) (by decide) ?_
            exact zz_iret hC hQ hr () trivial (by unfold zS0; rw [if_pos (show K k = 0 by omega), if_neg (by omega), if_neg (show ¬ G k = true by assumption), if_neg (show ¬ zBl w F L T S k = true from (show ¬ zBlk w F L (zPh T S k) = true by assumption)), if_pos (by omega)]) [0, 1, 2, 3, 4, 5, 6, 7, 8, 9, 10, 11] rfl rfl ⟨Nat.le_refl _, Nat.le_refl _⟩ (dk DX2_statusOf_0k 52 rfl)
        · refine zz_iconst hC (dk DX2_statusOf_0k 40 rfl) ?_
          exact zz_iret hC hQ hr () trivial (by unfold zS0; rw [if_pos (show K k = 0 by omega), if_neg (by omega), if_neg (show ¬ G k = true by assumption), if_pos (show zBl w F L T S k = true from (show zBlk w F L (zPh T S k) = true by assumption))]) [0, 1, 2, 3, 4, 5, 6, 7, 8, 9, 10, 11] rfl rfl ⟨Nat.le_refl _, Nat.le_refl _⟩ (dk DX2_statusOf_0k 41 rfl)
      · refine zz_iconst hC (dk DX2_statusOf_0k 30 rfl) ?_
        exact zz_iret hC hQ hr () trivial (by unfold zS0; rw [if_pos (show K k = 0 by omega), if_neg (by omega), if_pos (by assumption)]) [0, 1, 2, 3, 4, 5, 6, 7, 8, 9, 10, 11] rfl rfl ⟨Nat.le_refl _, Nat.le_refl _⟩ (dk DX2_statusOf_0k 31 rfl)
    · refine zz_iconst hC (dk DX2_statusOf_0k 23 rfl) ?_
      exact zz_iret hC hQ hr () trivial (by unfold zS0; rw [if_pos (show K k = 0 by omega), if_pos (by omega)]) [0, 1, 2, 3, 4, 5, 6, 7, 8, 9, 10, 11] rfl rfl ⟨Nat.le_refl _, Nat.le_refl _⟩ (dk DX2_statusOf_0k 24 rfl)
  · refine zz_aload_n hC 0 (dk DX2_statusOf_0k 6 rfl) rfl rfl ?_
    refine zz_get hC F_X2_12 0 rfl rfl (dk DX2_statusOf_0k 7 rfl) ?_
    refine zz_getN hC F_X2_67 5 rfl rfl (dk DX2_statusOf_0k 8 rfl) ?_
    refine zz_iload_n hC 1 (dk DX2_statusOf_0k 9 rfl) rfl rfl ?_
    refine zz_iald hC k 9 rfl rfl (by omega) (dk DX2_statusOf_0k 10 rfl) ?_
    have hf8 := hK k (by omega)
    refine zz_iconst hC (dk DX2_statusOf_0k 11 rfl) ?_
    refine zz_icmp_ne hC 29 (dk DX2_statusOf_0k 12 rfl) (by decide) ⟨⟨by omega, by omega⟩, (by decide)⟩ (fun c9 => ?_) (fun c9 => ?_)
    · refine zz_bipush hC (dk DX2_statusOf_0k 15 rfl) (by decide) ?_
      exact zz_iret hC hQ hr () trivial (by unfold zS0; rw [if_neg (by omega)]; omega) [0, 1, 2, 3, 4, 5, 6, 7, 8, 9, 10, 11] rfl rfl ⟨Nat.le_refl _, Nat.le_refl _⟩ (dk DX2_statusOf_0k 16 rfl)
    · refine zz_iconst hC (dk DX2_statusOf_0k 13 rfl) ?_
      refine zz_goto hC 31 (dk DX2_statusOf_0k 14 rfl) (by decide) ?_
      exact zz_iret hC hQ hr () trivial (by unfold zS0; rw [if_neg (by omega)]; omega) [0, 1, 2, 3, 4, 5, 6, 7, 8, 9, 10, 11] rfl rfl ⟨Nat.le_refl _, Nat.le_refl _⟩ (dk DX2_statusOf_0k 16 rfl)
set_option maxHeartbeats 4000000 in
set_option maxRecDepth 100000 in
theorem c_X2_assign (l : Launch) (D : zG) (r0 : Nat) (r1 : Nat) (r2 : Nat) (r3 : Nat) (r4 : Nat) (g : Nat → Int) (st : Nat → Int) (ch : Nat → Int) (bo : Nat → Int) (bn : Int) (h0 : Nat) (h1 : Nat) (h2 : Nat) (h3 : Nat) (h4 : Nat) (h5 : Nat) (h6 : Nat) (S : Nat → Int) (F : Nat → Int) (L : Nat → Int) (K : Nat → Int) (T : Nat → Int) (U : Nat → Int) (w : Nat) (n : Nat) (G : Nat → Bool) (lv : Int) (dt : Int) (hg : zLog n K T U) (hs : zSet S) (hw : zWin w F L) (hgat : ∀ j, j < n → g j = zB (G j = true)) (hlv : 0 ≤ lv ∧ lv ≤ 2000) (hdt : 0 ≤ dt ∧ dt ≤ 1000) : CV (S := Nat → Int) l yX2_assign cX2_assign 5 (none) ({ frames := 3, cells := 0, slots := 0, locals := 84 } : Room) D [.ref r0, .int (zI lv), .int (zI dt)] [(r0, .inr (2, [.ref h0, .ref r1, .ref r2, .ref r3, .ref r4, .int (zI bn)])), (r1, bA D 250 g), (r2, iA D 250 st), (r3, lA D 250 ch), (r4, iA D 250 bo), (h0, .inr (3, [.ref h1, .ref h2, .ref h3, .ref h4, .ref h5, .ref h6, .int (zI ((w : Nat) : Int)), .int (zI ((n : Nat) : Int))])), (h1, iA D 11 S), (h2, iA D 4 F), (h3, iA D 4 L), (h4, iA D 250 K), (h5, iA D 250 T), (h6, iA D 250 U)] (fun u => ∀ j, j < n → u j = zSt K T U G (zBl w F L T S) lv dt j)  (fun u => [(r0, .inr (2, [.ref h0, .ref r1, .ref r2, .ref r3, .ref r4, .int (zI bn)])), (r1, bA D 250 g), (r2, iA D 250 u), (r3, lA D 250 ch), (r4, iA D 250 bo), (h0, .inr (3, [.ref h1, .ref h2, .ref h3, .ref h4, .ref h5, .ref h6, .int (zI ((w : Nat) : Int)), .int (zI ((n : Nat) : Int))])), (h1, iA D 11 S), (h2, iA D 4 F), (h3, iA D 4 L), (h4, iA D 250 K), (h5, iA D 250 T), (h6, iA D 250 U)]) := by
  refine CV_of (by decide) (Nat.le_of_ble_eq_true rfl) ?_
  intro p e s m args below meth cd A Q hQ hC hr hnm
  have hC : ZC p s m args meth cd A D 5 cX2_assign RX2 := hC
  have hg0 := hg
  obtain ⟨hn, hK, hT, hU, hM⟩ := hg0
  show Z p l e ({ frames := 3, cells := 0, slots := 0, locals := 84 } : Room) s m args below meth cd A D Q 5 0 0 [(r0, .inr (2, [.ref h0, .ref r1, .ref r2, .ref r3, .ref r4, .int (zI bn)])), (r1, bA D 250 g), (r2, iA D 250 st), (r3, lA D 250 ch), (r4, iA D 250 bo), (h0, .inr (3, [.ref h1, .ref h2, .ref h3, .ref h4, .ref h5, .ref h6, .int (zI ((w : Nat) : Int)), .int (zI ((n : Nat) : Int))])), (h1, iA D 11 S), (h2, iA D 4 F), (h3, iA D 4 L), (h4, iA D 250 K), (h5, iA D 250 T), (h6, iA D 250 U)] [(0, .ref r0), (1, .int (zI lv)), (2, .int (zI dt))] [] 0
  refine zz_iconst hC (dk DX2_assign_0k 0 rfl) ?_
  refine zz_istore_n hC (ls' := [(0, .ref r0), (1, .int (zI lv)), (2, .int (zI dt)), (3, .int (zI 0))]) [1, 2, 3, 0] (dk DX2_assign_0k 1 rfl) rfl (by decide) rfl ?_
  refine zz_iconst hC (dk DX2_assign_0k 2 rfl) ?_
  refine zz_istore hC (ls' := [(0, .ref r0), (1, .int (zI lv)), (2, .int (zI dt)), (3, .int (zI 0)), (4, .int (zI 0))]) [1, 2, 3, 4, 0] (dk DX2_assign_0k 3 rfl) (by decide) rfl ?_
  have LP5 : ∀ (fuel5 : Nat) (i : Nat) (du : Int) (st1 : Nat → Int), (i ≤ n) → (du = zDu K T U G (zBl w F L T S) lv dt i) → (∀ j, j < i → st1 j = zSt K T U G (zBl w F L T S) lv dt j) → n - i < fuel5 → Z p l e ({ frames := 3, cells := 0, slots := 0, locals := 84 } : Room) s m args below meth cd A D Q 5 0 0 [(r0, .inr (2, [.ref h0, .ref r1, .ref r2, .ref r3, .ref r4, .int (zI bn)])), (r1, bA D 250 g), (r2, iA D 250 st1), (r3, lA D 250 ch), (r4, iA D 250 bo), (h0, .inr (3, [.ref h1, .ref h2, .ref h3, .ref h4, .ref h5, .ref h6, .int (zI ((w : Nat) : Int)), .int (zI ((n : Nat) : Int))])), (h1, iA D 11 S), (h2, iA D 4 F), (h3, iA D 4 L), (h4, iA D 250 K), (h5, iA D 250 T), (h6, iA D 250 U)] [(0, .ref r0), (1, .int (zI lv)), (2, .int (zI dt)), (3, .int (zI du)), (4, .int (zI ((i : Nat) : Int)))] [] 5 := by
    intro fuel5
    induction fuel5 with
    | zero => intro i du st1 hi hdu hst hfu; exact absurd hfu (Nat.not_lt_zero _)
    | succ fuel5 ih5 =>
      intro i du st1 hi hdu hst hfu5
      have hdr := zDu_in (K := K) (U := U) (G := G) (B := zBl w F L T S) (lv := lv) hT hdt i hi
      rw [← hdu] at hdr
      refine zz_iload hC 4 (dk DX2_assign_0k 4 rfl) rfl ?_
      refine zz_aload_n hC 0 (dk DX2_assign_0k 5 rfl) rfl rfl ?_
      refine zz_get hC F_X2_12 0 rfl rfl (dk DX2_assign_0k 6 rfl) ?_
      refine zz_getN hC F_X2_57 5 rfl rfl (dk DX2_assign_0k 7 rfl) ?_
      refine zz_icmp_ge hC 61 (dk DX2_assign_0k 8 rfl) (by decide) ⟨⟨by omega, by omega⟩, ⟨by omega, by omega⟩⟩ (fun c1 => ?_) (fun c1 => ?_)
      · exact zz_ret hC hQ hr st1 (fun j hj => hst j (by omega)) [0, 1, 2, 3, 4, 5, 6, 7, 8, 9, 10, 11] rfl rfl ⟨Nat.le_refl _, Nat.le_refl _⟩ (dk DX2_assign_0k 33 rfl)
      · refine zz_aload_n hC 0 (dk DX2_assign_0k 9 rfl) rfl rfl ?_
        refine zz_get hC F_X2_22 0 rfl rfl (dk DX2_assign_0k 10 rfl) ?_
        refine zz_iload hC 4 (dk DX2_assign_0k 11 rfl) rfl ?_
        refine zz_aload_n hC 0 (dk DX2_assign_0k 12 rfl) rfl rfl ?_
        refine zz_iload hC 4 (dk DX2_assign_0k 13 rfl) rfl ?_
        refine zz_iload_n hC 1 (dk DX2_assign_0k 14 rfl) rfl rfl ?_
        refine zz_iload_n hC 3 (dk DX2_assign_0k 15 rfl) rfl rfl ?_
        refine zz_pureVi hC (c_X2_statusOf l D r0 r1 r2 r3 r4 g st1 ch bo bn h0 h1 h2 h3 h4 h5 h6 S F L K T U w n G i lv du hg hs hw (by omega) (hgat i (by omega)) (by omega) (by omega)) G_X2_74 H_X2_statusOf ⟨Nat.le_of_ble_eq_true rfl, Nat.le_of_ble_eq_true rfl⟩ rfl [0, 1, 2, 3, 4, 5, 6, 7, 8, 9, 10, 11] rfl rfl 0 2 ⟨rfl, rfl, rfl⟩ (As := [.int (zI ((i : Nat) : Int)), .int (zI lv), .int (zI du)]) (rest := [.int (zI ((i : Nat) : Int)), .ref r2]) (Nat.le_of_ble_eq_true rfl) rfl ⟨Nat.le_of_ble_eq_true rfl, Nat.le_of_ble_eq_true rfl⟩ (dk DX2_assign_0k 16 rfl) ⟨rfl, rfl⟩ ?_
        refine zz_iast hC (ws' := [(r0, .inr (2, [.ref h0, .ref r1, .ref r2, .ref r3, .ref r4, .int (zI bn)])), (r1, bA D 250 g), (r2, iA D 250 (zU st1 i (zS0 K T U G (zBl w F L T S) lv du i))), (r3, lA D 250 ch), (r4, iA D 250 bo), (h0, .inr (3, [.ref h1, .ref h2, .ref h3, .ref h4, .ref h5, .ref h6, .int (zI ((w : Nat) : Int)), .int (zI ((n : Nat) : Int))])), (h1, iA D 11 S), (h2, iA D 4 F), (h3, iA D 4 L), (h4, iA D 250 K), (h5, iA D 250 T), (h6, iA D 250 U)]) i 2 rfl rfl (by omega) rfl (dk DX2_assign_0k 17 rfl) ?_
        refine zz_aload_n hC 0 (dk DX2_assign_0k 18 rfl) rfl rfl ?_
        refine zz_get hC F_X2_22 0 rfl rfl (dk DX2_assign_0k 19 rfl) ?_
        refine zz_iload hC 4 (dk DX2_assign_0k 20 rfl) rfl ?_
        refine zz_iald hC i 2 rfl rfl (by omega) (dk DX2_assign_0k 21 rfl) ?_
        rw [zU_s]
        have hs6 := zSt_in (G := G) (B := zBl w F L T S) (lv := lv) (dt := dt) (T := T) (U := U) hK (show i < n by omega)
        have hTi := hT i (by omega)
        rw [show zSt K T U G (zBl w F L T S) lv dt i = zS0 K T U G (zBl w F L T S) lv du i by unfold zSt; rw [← hdu]] at hs6
        refine zz_if_ne hC 55 (dk DX2_assign_0k 22 rfl) (by decide) ⟨by omega, by omega⟩ (fun c2 => ?_) (fun c2 => ?_)
        · refine zz_iinc hC ((i + 1 : Nat) : Int) (ls' := [(0, .ref r0), (1, .int (zI lv)), (2, .int (zI dt)), (3, .int (zI du)), (4, .int (zI ((i + 1 : Nat) : Int)))]) 4 [1, 2, 3, 4, 0] (dk DX2_assign_0k 31 rfl) rfl (by omega) (by decide) rfl ?_
          refine zz_goto hC 5 (dk DX2_assign_0k 32 rfl) (by decide) ?_
          refine zz_ls [0, 1, 2, 3, 4] rfl ?_
          exact ih5 (i + 1) du (zU st1 i (zS0 K T U G (zBl w F L T S) lv du i)) (by omega) (by simp only [zDu]; rw [← hdu]; exact (if_neg (by assumption)).symm) (fill_s (by unfold zSt; rw [← hdu]) hst) (by omega)
        · refine zz_aload_n hC 0 (dk DX2_assign_0k 23 rfl) rfl rfl ?_
          refine zz_get hC F_X2_12 0 rfl rfl (dk DX2_assign_0k 24 rfl) ?_
          refine zz_getN hC F_X2_64 5 rfl rfl (dk DX2_assign_0k 25 rfl) ?_
          refine zz_iload hC 4 (dk DX2_assign_0k 26 rfl) rfl ?_
          refine zz_iald hC i 10 rfl rfl (by omega) (dk DX2_assign_0k 27 rfl) ?_
          have hf3 := hT i (by omega)
          refine zz_iload_n hC 2 (dk DX2_assign_0k 28 rfl) rfl rfl ?_
          refine zz_iadd hC (dk DX2_assign_0k 29 rfl) ?_
          refine zz_istore_n hC (ls' := [(0, .ref r0), (1, .int (zI lv)), (2, .int (zI dt)), (3, .int (zI ((T i) + dt))), (4, .int (zI ((i : Nat) : Int)))]) [1, 2, 3, 0, 4] (dk DX2_assign_0k 30 rfl) rfl (by decide) rfl ?_
          refine zz_iinc hC ((i + 1 : Nat) : Int) (ls' := [(0, .ref r0), (1, .int (zI lv)), (2, .int (zI dt)), (3, .int (zI ((T i) + dt))), (4, .int (zI ((i + 1 : Nat) : Int)))]) 4 [1, 2, 3, 4, 0] (dk DX2_assign_0k 31 rfl) rfl (by omega) (by decide) rfl ?_
          refine zz_goto hC 5 (dk DX2_assign_0k 32 rfl) (by decide) ?_
          refine zz_ls [0, 1, 2, 3, 4] rfl ?_
          exact ih5 (i + 1) ((T i) + dt) (zU st1 i (zS0 K T U G (zBl w F L T S) lv du i)) (by omega) (by simp only [zDu]; rw [← hdu]; exact (if_pos (by assumption)).symm) (fill_s (by unfold zSt; rw [← hdu]) hst) (by omega)
  refine zz_ls [0, 1, 2, 3, 4] rfl ?_
  exact LP5 _ 0 0 st (by omega) rfl (fun j hj => absurd hj (by omega)) (Nat.lt_succ_self _)
set_option maxHeartbeats 4000000 in
set_option maxRecDepth 100000 in
theorem c_X2_weigh (l : Launch) (D : zG) (r0 : Nat) (r1 : Nat) (r2 : Nat) (r3 : Nat) (r4 : Nat) (g : Nat → Int) (st : Nat → Int) (ch : Nat → Int) (bo : Nat → Int) (bn : Int) (h0 : Nat) (h1 : Nat) (h2 : Nat) (h3 : Nat) (h4 : Nat) (h5 : Nat) (h6 : Nat) (S : Nat → Int) (F : Nat → Int) (L : Nat → Int) (K : Nat → Int) (T : Nat → Int) (U : Nat → Int) (w : Nat) (n : Nat) (hg : zLog n K T U) (hs : zSet S) : CV (S := Nat → Int) l yX2_weigh cX2_weigh 10 (none) ({ frames := 2, cells := 0, slots := 0, locals := 61 } : Room) D [.ref r0] [(r0, .inr (2, [.ref h0, .ref r1, .ref r2, .ref r3, .ref r4, .int (zI bn)])), (r1, bA D 250 g), (r2, iA D 250 st), (r3, lA D 250 ch), (r4, iA D 250 bo), (h0, .inr (3, [.ref h1, .ref h2, .ref h3, .ref h4, .ref h5, .ref h6, .int (zI ((w : Nat) : Int)), .int (zI ((n : Nat) : Int))])), (h1, iA D 11 S), (h2, iA D 4 F), (h3, iA D 4 L), (h4, iA D 250 K), (h5, iA D 250 T), (h6, iA D 250 U)] (fun u => ∀ j, j < n → u j = zCh n K U S j)  (fun u => [(r0, .inr (2, [.ref h0, .ref r1, .ref r2, .ref r3, .ref r4, .int (zI bn)])), (r1, bA D 250 g), (r2, iA D 250 st), (r3, lA D 250 u), (r4, iA D 250 bo), (h0, .inr (3, [.ref h1, .ref h2, .ref h3, .ref h4, .ref h5, .ref h6, .int (zI ((w : Nat) : Int)), .int (zI ((n : Nat) : Int))])), (h1, iA D 11 S), (h2, iA D 4 F), (h3, iA D 4 L), (h4, iA D 250 K), (h5, iA D 250 T), (h6, iA D 250 U)]) := by
  refine CV_of (by decide) (Nat.le_of_ble_eq_true rfl) ?_
  intro p e s m args below meth cd A Q hQ hC hr hnm
  have hC : ZC p s m args meth cd A D 10 cX2_weigh RX2 := hC
  have hg0 := hg
  obtain ⟨hn, hK, hT, hU, hM⟩ := hg0
  have hs1 := hs.2.1
  show Z p l e ({ frames := 2, cells := 0, slots := 0, locals := 61 } : Room) s m args below meth cd A D Q 10 0 0 [(r0, .inr (2, [.ref h0, .ref r1, .ref r2, .ref r3, .ref r4, .int (zI bn)])), (r1, bA D 250 g), (r2, iA D 250 st), (r3, lA D 250 ch), (r4, iA D 250 bo), (h0, .inr (3, [.ref h1, .ref h2, .ref h3, .ref h4, .ref h5, .ref h6, .int (zI ((w : Nat) : Int)), .int (zI ((n : Nat) : Int))])), (h1, iA D 11 S), (h2, iA D 4 F), (h3, iA D 4 L), (h4, iA D 250 K), (h5, iA D 250 T), (h6, iA D 250 U)] [(0, .ref r0)] [] 0
  refine zz_lconst hC 0 (dk DX2_weigh_0k 0 rfl) (by decide) ?_
  refine zz_lstore_n hC (ls' := [(0, .ref r0), (1, .long (zL 0))]) [1, 0] (dk DX2_weigh_0k 1 rfl) rfl (by decide) rfl ?_
  refine zz_lconst hC 0 (dk DX2_weigh_0k 2 rfl) (by decide) ?_
  refine zz_lstore_n hC (ls' := [(0, .ref r0), (1, .long (zL 0)), (3, .long (zL 0))]) [1, 2, 0] (dk DX2_weigh_0k 3 rfl) rfl (by decide) rfl ?_
  refine zz_iconst hC (dk DX2_weigh_0k 4 rfl) ?_
  refine zz_istore hC (ls' := [(0, .ref r0), (1, .long (zL 0)), (3, .long (zL 0)), (5, .int (zI 0))]) [1, 2, 3, 0] (dk DX2_weigh_0k 5 rfl) (by decide) rfl ?_
  have LP7 : ∀ (fuel7 : Nat) (i : Nat) (x : Int) (y : Int), (i ≤ n) → (x = zNi K i) → (y = zSi K U i) → n - i < fuel7 → Z p l e ({ frames := 2, cells := 0, slots := 0, locals := 61 } : Room) s m args below meth cd A D Q 10 0 0 [(r0, .inr (2, [.ref h0, .ref r1, .ref r2, .ref r3, .ref r4, .int (zI bn)])), (r1, bA D 250 g), (r2, iA D 250 st), (r3, lA D 250 ch), (r4, iA D 250 bo), (h0, .inr (3, [.ref h1, .ref h2, .ref h3, .ref h4, .ref h5, .ref h6, .int (zI ((w : Nat) : Int)), .int (zI ((n : Nat) : Int))])), (h1, iA D 11 S), (h2, iA D 4 F), (h3, iA D 4 L), (h4, iA D 250 K), (h5, iA D 250 T), (h6, iA D 250 U)] [(0, .ref r0), (1, .long (zL x)), (3, .long (zL y)), (5, .int (zI ((i : Nat) : Int)))] [] 7 := by
    intro fuel7
    induction fuel7 with
    | zero => intro i x y hi hx hy hfu; exact absurd hfu (Nat.not_lt_zero _)
    | succ fuel7 ih7 =>
      intro i x y hi hx hy hfu7
      have hyr := zSi_in (K := K) hn hU hi
      have hxr : 0 ≤ zNi K i ∧ zNi K i ≤ i := zCt_in
      rw [← hy] at hyr
      rw [← hx] at hxr
      refine zz_iload hC 3 (dk DX2_weigh_0k 6 rfl) rfl ?_
      refine zz_aload_n hC 0 (dk DX2_weigh_0k 7 rfl) rfl rfl ?_
      refine zz_get hC F_X2_12 0 rfl rfl (dk DX2_weigh_0k 8 rfl) ?_
      refine zz_getN hC F_X2_57 5 rfl rfl (dk DX2_weigh_0k 9 rfl) ?_
      refine zz_icmp_ge hC 56 (dk DX2_weigh_0k 10 rfl) (by decide) ⟨⟨by omega, by omega⟩, ⟨by omega, by omega⟩⟩ (fun c1 => ?_) (fun c1 => ?_)
      · have hin : i = n := by omega
        have hx9 : x = zNi K n := by rw [← hin]; exact hx
        have hy9 : y = zSi K U n := by rw [← hin]; exact hy
        refine zz_lload_n hC 1 (dk DX2_weigh_0k 32 rfl) rfl rfl ?_
        refine zz_aload_n hC 0 (dk DX2_weigh_0k 33 rfl) rfl rfl ?_
        refine zz_get hC F_X2_12 0 rfl rfl (dk DX2_weigh_0k 34 rfl) ?_
        refine zz_getN hC F_X2_46 5 rfl rfl (dk DX2_weigh_0k 35 rfl) ?_
        refine zz_iconst hC (dk DX2_weigh_0k 36 rfl) ?_
        refine zz_iald hC 1 6 rfl rfl (by omega) (dk DX2_weigh_0k 37 rfl) ?_
        refine zz_i2l hC (dk DX2_weigh_0k 38 rfl) ⟨by omega, by omega⟩ ?_
        refine zz_lmul hC (dk DX2_weigh_0k 39 rfl) ?_
        refine zz_lstore hC (ls' := [(0, .ref r0), (1, .long (zL x)), (3, .long (zL y)), (5, .long (zL (x * (S 1))))]) [1, 2, 3, 0] (dk DX2_weigh_0k 40 rfl) (by decide) rfl ?_
        refine zz_iconst hC (dk DX2_weigh_0k 41 rfl) ?_
        refine zz_istore hC (ls' := [(0, .ref r0), (1, .long (zL x)), (3, .long (zL y)), (5, .long (zL (x * (S 1)))), (7, .int (zI 0))]) [1, 2, 3, 4, 0] (dk DX2_weigh_0k 42 rfl) (by decide) rfl ?_
        have LP73 : ∀ (fuel73 : Nat) (i : Nat) (ch1 : Nat → Int), (i ≤ n) → (∀ j, j < i → ch1 j = zCh n K U S j) → n - i < fuel73 → Z p l e ({ frames := 2, cells := 0, slots := 0, locals := 61 } : Room) s m args below meth cd A D Q 10 0 0 [(r0, .inr (2, [.ref h0, .ref r1, .ref r2, .ref r3, .ref r4, .int (zI bn)])), (r1, bA D 250 g), (r2, iA D 250 st), (r3, lA D 250 ch1), (r4, iA D 250 bo), (h0, .inr (3, [.ref h1, .ref h2, .ref h3, .ref h4, .ref h5, .ref h6, .int (zI ((w : Nat) : Int)), .int (zI ((n : Nat) : Int))])), (h1, iA D 11 S), (h2, iA D 4 F), (h3, iA D 4 L), (h4, iA D 250 K), (h5, iA D 250 T), (h6, iA D 250 U)] [(0, .ref r0), (3, .long (zL y)), (5, .long (zL (x * (S 1)))), (7, .int (zI ((i : Nat) : Int)))] [] 73 := by
          intro fuel73
          induction fuel73 with
          | zero => intro i ch1 hi hch hfu; exact absurd hfu (Nat.not_lt_zero _)
          | succ fuel73 ih73 =>
            intro i ch1 hi hch hfu73
            refine zz_iload hC 3 (dk DX2_weigh_0k 43 rfl) rfl ?_
            refine zz_aload_n hC 0 (dk DX2_weigh_0k 44 rfl) rfl rfl ?_
            refine zz_get hC F_X2_12 0 rfl rfl (dk DX2_weigh_0k 45 rfl) ?_
            refine zz_getN hC F_X2_57 5 rfl rfl (dk DX2_weigh_0k 46 rfl) ?_
            refine zz_icmp_ge hC 128 (dk DX2_weigh_0k 47 rfl) (by decide) ⟨⟨by omega, by omega⟩, ⟨by omega, by omega⟩⟩ (fun c2 => ?_) (fun c2 => ?_)
            · exact zz_ret hC hQ hr ch1 (fun j hj => hch j (by omega)) [0, 1, 2, 3, 4, 5, 6, 7, 8, 9, 10, 11] rfl rfl ⟨Nat.le_refl _, Nat.le_refl _⟩ (dk DX2_weigh_1k 11 rfl)
            · have hUi := hU i (by omega)
              have hwr := weigh_r (u := ((U i).natAbs : Int)) (x := x) (y := S 1) (by omega) (by omega) hs1
              refine zz_aload_n hC 0 (dk DX2_weigh_0k 48 rfl) rfl rfl ?_
              refine zz_get hC F_X2_12 0 rfl rfl (dk DX2_weigh_0k 49 rfl) ?_
              refine zz_iload hC 3 (dk DX2_weigh_0k 50 rfl) rfl ?_
              refine zz_pureNi hC (c_X3_absolute l D h0 h1 h2 h3 h4 h5 h6 S F L K T U w n i hg (by omega)) G_X2_70 H_X3_absolute ⟨Nat.le_of_ble_eq_true rfl, Nat.le_of_ble_eq_true rfl⟩ rfl [5, 6, 7, 8, 9, 10, 11] rfl rfl 0 3 ⟨rfl, rfl, rfl⟩ (As := [.int (zI ((i : Nat) : Int))]) (rest := []) (Nat.le_of_ble_eq_true rfl) rfl ⟨Nat.le_of_ble_eq_true rfl, Nat.le_of_ble_eq_true rfl⟩ (dk DX2_weigh_0k 51 rfl) ⟨rfl, rfl⟩ ?_
              refine zz_i2l hC (dk DX2_weigh_0k 52 rfl) ⟨by omega, by omega⟩ ?_
              refine zz_lstore hC (ls' := [(0, .ref r0), (3, .long (zL y)), (5, .long (zL (x * (S 1)))), (7, .int (zI ((i : Nat) : Int))), (8, .long (zL (((U i).natAbs : Nat) : Int)))]) [1, 2, 3, 4, 0] (dk DX2_weigh_0k 53 rfl) (by decide) rfl ?_
              refine zz_aload_n hC 0 (dk DX2_weigh_0k 54 rfl) rfl rfl ?_
              refine zz_get hC F_X2_26 0 rfl rfl (dk DX2_weigh_0k 55 rfl) ?_
              refine zz_iload hC 3 (dk DX2_weigh_0k 56 rfl) rfl ?_
              refine zz_lload_n hC 1 (dk DX2_weigh_0k 57 rfl) rfl rfl ?_
              refine zz_lconst hC 0 (dk DX2_weigh_0k 58 rfl) (by decide) ?_
              refine zz_lcmp_le hC 119 (dk DX2_weigh_0k 59 rfl) (dk DX2_weigh_1k 0 rfl) (by decide) ⟨⟨by omega, by omega⟩, (by decide)⟩ (fun c3 => ?_) (fun c3 => ?_)
              · refine zz_lload hC 4 (dk DX2_weigh_1k 7 rfl) rfl ?_
                refine zz_last hC (ws' := [(r0, .inr (2, [.ref h0, .ref r1, .ref r2, .ref r3, .ref r4, .int (zI bn)])), (r1, bA D 250 g), (r2, iA D 250 st), (r3, lA D 250 (zU ch1 i (((U i).natAbs : Nat) : Int))), (r4, iA D 250 bo), (h0, .inr (3, [.ref h1, .ref h2, .ref h3, .ref h4, .ref h5, .ref h6, .int (zI ((w : Nat) : Int)), .int (zI ((n : Nat) : Int))])), (h1, iA D 11 S), (h2, iA D 4 F), (h3, iA D 4 L), (h4, iA D 250 K), (h5, iA D 250 T), (h6, iA D 250 U)]) i 3 rfl rfl (by omega) rfl (dk DX2_weigh_1k 8 rfl) ?_
                refine zz_iinc hC ((i + 1 : Nat) : Int) (ls' := [(0, .ref r0), (3, .long (zL y)), (5, .long (zL (x * (S 1)))), (7, .int (zI ((i + 1 : Nat) : Int))), (8, .long (zL (((U i).natAbs : Nat) : Int)))]) 3 [1, 2, 3, 0, 4] (dk DX2_weigh_1k 9 rfl) rfl (by omega) (by decide) rfl ?_
                refine zz_goto hC 73 (dk DX2_weigh_1k 10 rfl) (by decide) ?_
                refine zz_ls [0, 1, 2, 3] rfl ?_
                exact ih73 (i + 1) (zU ch1 i (((U i).natAbs : Nat) : Int)) (by omega) (fill_s (weigh_d hy9 (by omega) (by omega)) hch) (by omega)
              · refine zz_lload hC 4 (dk DX2_weigh_1k 1 rfl) rfl ?_
                refine zz_lload hC 2 (dk DX2_weigh_1k 2 rfl) rfl ?_
                refine zz_lmul hC (dk DX2_weigh_1k 3 rfl) ?_
                refine zz_lload_n hC 1 (dk DX2_weigh_1k 4 rfl) rfl rfl ?_
                refine zz_ldiv hC (dk DX2_weigh_1k 5 rfl) ⟨⟨⟨by omega, by omega⟩, ⟨by omega, by omega⟩⟩, by omega, by omega⟩ ?_
                refine zz_goto hC 121 (dk DX2_weigh_1k 6 rfl) (by decide) ?_
                refine zz_last hC (ws' := [(r0, .inr (2, [.ref h0, .ref r1, .ref r2, .ref r3, .ref r4, .int (zI bn)])), (r1, bA D 250 g), (r2, iA D 250 st), (r3, lA D 250 (zU ch1 i (((((U i).natAbs : Nat) : Int) * (x * (S 1))) / y))), (r4, iA D 250 bo), (h0, .inr (3, [.ref h1, .ref h2, .ref h3, .ref h4, .ref h5, .ref h6, .int (zI ((w : Nat) : Int)), .int (zI ((n : Nat) : Int))])), (h1, iA D 11 S), (h2, iA D 4 F), (h3, iA D 4 L), (h4, iA D 250 K), (h5, iA D 250 T), (h6, iA D 250 U)]) i 3 rfl rfl (by omega) rfl (dk DX2_weigh_1k 8 rfl) ?_
                refine zz_iinc hC ((i + 1 : Nat) : Int) (ls' := [(0, .ref r0), (3, .long (zL y)), (5, .long (zL (x * (S 1)))), (7, .int (zI ((i + 1 : Nat) : Int))), (8, .long (zL (((U i).natAbs : Nat) : Int)))]) 3 [1, 2, 3, 0, 4] (dk DX2_weigh_1k 9 rfl) rfl (by omega) (by decide) rfl ?_
                refine zz_goto hC 73 (dk DX2_weigh_1k 10 rfl) (by decide) ?_
                refine zz_ls [0, 1, 2, 3] rfl ?_
                exact ih73 (i + 1) (zU ch1 i (((((U i).natAbs : Nat) : Int) * (x * (S 1))) / y)) (by omega) (fill_s (weigh_c hx9 hy9 (by omega)) hch) (by omega)
        refine zz_ls [0, 2, 3, 4] rfl ?_
        exact LP73 _ 0 ch (by omega) (fun j hj => absurd hj (by omega)) (Nat.lt_succ_self _)
      · refine zz_aload_n hC 0 (dk DX2_weigh_0k 11 rfl) rfl rfl ?_
        have hUi := hU i (by omega)
        refine zz_get hC F_X2_12 0 rfl rfl (dk DX2_weigh_0k 12 rfl) ?_
        refine zz_getN hC F_X2_67 5 rfl rfl (dk DX2_weigh_0k 13 rfl) ?_
        refine zz_iload hC 3 (dk DX2_weigh_0k 14 rfl) rfl ?_
        refine zz_iald hC i 9 rfl rfl (by omega) (dk DX2_weigh_0k 15 rfl) ?_
        have hf4 := hK i (by omega)
        refine zz_iconst hC (dk DX2_weigh_0k 16 rfl) ?_
        refine zz_icmp_ne hC 50 (dk DX2_weigh_0k 17 rfl) (by decide) ⟨⟨by omega, by omega⟩, (by decide)⟩ (fun c5 => ?_) (fun c5 => ?_)
        · refine zz_iinc hC ((i + 1 : Nat) : Int) (ls' := [(0, .ref r0), (1, .long (zL x)), (3, .long (zL y)), (5, .int (zI ((i + 1 : Nat) : Int)))]) 3 [1, 2, 3, 0] (dk DX2_weigh_0k 30 rfl) rfl (by omega) (by decide) rfl ?_
          refine zz_goto hC 7 (dk DX2_weigh_0k 31 rfl) (by decide) ?_
          refine zz_ls [0, 1, 2, 3] rfl ?_
          exact ih7 (i + 1) x y (by omega) (zNi_k hx (by assumption)) (zSi_k hy (by assumption)) (by omega)
        · refine zz_lload_n hC 1 (dk DX2_weigh_0k 18 rfl) rfl rfl ?_
          refine zz_lconst hC 1 (dk DX2_weigh_0k 19 rfl) (by decide) ?_
          refine zz_ladd hC (dk DX2_weigh_0k 20 rfl) ?_
          refine zz_lstore_n hC (ls' := [(0, .ref r0), (1, .long (zL (x + 1))), (3, .long (zL y)), (5, .int (zI ((i : Nat) : Int)))]) [1, 0, 2, 3] (dk DX2_weigh_0k 21 rfl) rfl (by decide) rfl ?_
          refine zz_lload_n hC 2 (dk DX2_weigh_0k 22 rfl) rfl rfl ?_
          refine zz_aload_n hC 0 (dk DX2_weigh_0k 23 rfl) rfl rfl ?_
          refine zz_get hC F_X2_12 0 rfl rfl (dk DX2_weigh_0k 24 rfl) ?_
          refine zz_iload hC 3 (dk DX2_weigh_0k 25 rfl) rfl ?_
          refine zz_pureNi hC (c_X3_absolute l D h0 h1 h2 h3 h4 h5 h6 S F L K T U w n i hg (by omega)) G_X2_70 H_X3_absolute ⟨Nat.le_of_ble_eq_true rfl, Nat.le_of_ble_eq_true rfl⟩ rfl [5, 6, 7, 8, 9, 10, 11] rfl rfl 0 3 ⟨rfl, rfl, rfl⟩ (As := [.int (zI ((i : Nat) : Int))]) (rest := [.long (zL y)]) (Nat.le_of_ble_eq_true rfl) rfl ⟨Nat.le_of_ble_eq_true rfl, Nat.le_of_ble_eq_true rfl⟩ (dk DX2_weigh_0k 26 rfl) ⟨rfl, rfl⟩ ?_
          refine zz_i2l hC (dk DX2_weigh_0k 27 rfl) ⟨by omega, by omega⟩ ?_
          refine zz_ladd hC (dk DX2_weigh_0k 28 rfl) ?_
          refine zz_lstore_n hC (ls' := [(0, .ref r0), (1, .long (zL (x + 1))), (3, .long (zL (y + (((U i).natAbs : Nat) : Int)))), (5, .int (zI ((i : Nat) : Int)))]) [1, 2, 0, 3] (dk DX2_weigh_0k 29 rfl) rfl (by decide) rfl ?_
          refine zz_iinc hC ((i + 1 : Nat) : Int) (ls' := [(0, .ref r0), (1, .long (zL (x + 1))), (3, .long (zL (y + (((U i).natAbs : Nat) : Int)))), (5, .int (zI ((i + 1 : Nat) : Int)))]) 3 [1, 2, 3, 0] (dk DX2_weigh_0k 30 rfl) rfl (by omega) (by decide) rfl ?_
          refine zz_goto hC 7 (dk DX2_weigh_0k 31 rfl) (by decide) ?_
          refine zz_ls [0, 1, 2, 3] rfl ?_
          exact ih7 (i + 1) (x + 1) (y + (((U i).natAbs : Nat) : Int)) (by omega) (zNi_s hx (by assumption)) (zSi_s hy (by assumption)) (by omega)
  refine zz_ls [0, 1, 2, 3] rfl ?_
  exact LP7 _ 0 0 0 (by omega) rfl rfl (Nat.lt_succ_self _)
set_option maxHeartbeats 4000000 in
set_option maxRecDepth 100000 in
theorem c_X2_group (l : Launch) (D : zG) (r0 : Nat) (r1 : Nat) (r2 : Nat) (r3 : Nat) (r4 : Nat) (g : Nat → Int) (st : Nat → Int) (ch : Nat → Int) (bo : Nat → Int) (bn : Int) (h0 : Nat) (h1 : Nat) (h2 : Nat) (h3 : Nat) (h4 : Nat) (h5 : Nat) (h6 : Nat) (S : Nat → Int) (F : Nat → Int) (L : Nat → Int) (K : Nat → Int) (T : Nat → Int) (U : Nat → Int) (w : Nat) (n : Nat) (hg : zLog n K T U) (hs : zSet S) (hst6 : ∀ j, j < n → 0 ≤ st j ∧ st j ≤ 6) : CV (S := Nat → Int) l yX2_group cX2_group 4 (none) ({ frames := 0, cells := 0, slots := 0, locals := 0 } : Room) D [.ref r0] [(r0, .inr (2, [.ref h0, .ref r1, .ref r2, .ref r3, .ref r4, .int (zI bn)])), (r1, bA D 250 g), (r2, iA D 250 st), (r3, lA D 250 ch), (r4, iA D 250 bo), (h0, .inr (3, [.ref h1, .ref h2, .ref h3, .ref h4, .ref h5, .ref h6, .int (zI ((w : Nat) : Int)), .int (zI ((n : Nat) : Int))])), (h1, iA D 11 S), (h2, iA D 4 F), (h3, iA D 4 L), (h4, iA D 250 K), (h5, iA D 250 T), (h6, iA D 250 U)] (fun u => ∀ j, j < n → u j = zBo st T (S 7) j)  (fun u => [(r0, .inr (2, [.ref h0, .ref r1, .ref r2, .ref r3, .ref r4, .int (zI (zBn st T (S 7) n))])), (r1, bA D 250 g), (r2, iA D 250 st), (r3, lA D 250 ch), (r4, iA D 250 u), (h0, .inr (3, [.ref h1, .ref h2, .ref h3, .ref h4, .ref h5, .ref h6, .int (zI ((w : Nat) : Int)), .int (zI ((n : Nat) : Int))])), (h1, iA D 11 S), (h2, iA D 4 F), (h3, iA D 4 L), (h4, iA D 250 K), (h5, iA D 250 T), (h6, iA D 250 U)]) := by
  refine CV_of (by decide) (Nat.le_of_ble_eq_true rfl) ?_
  intro p e s m args below meth cd A Q hQ hC hr hnm
  have hC : ZC p s m args meth cd A D 4 cX2_group RX2 := hC
  have hg0 := hg
  obtain ⟨hn, hK, hT, hU, hM⟩ := hg0
  have hs7 := hs.2.2.2.2.2.2.2.1
  show Z p l e ({ frames := 0, cells := 0, slots := 0, locals := 0 } : Room) s m args below meth cd A D Q 4 0 0 [(r0, .inr (2, [.ref h0, .ref r1, .ref r2, .ref r3, .ref r4, .int (zI bn)])), (r1, bA D 250 g), (r2, iA D 250 st), (r3, lA D 250 ch), (r4, iA D 250 bo), (h0, .inr (3, [.ref h1, .ref h2, .ref h3, .ref h4, .ref h5, .ref h6, .int (zI ((w : Nat) : Int)), .int (zI ((n : Nat) : Int))])), (h1, iA D 11 S), (h2, iA D 4 F), (h3, iA D 4 L), (h4, iA D 250 K), (h5, iA D 250 T), (h6, iA D 250 U)] [(0, .ref r0)] [] 0
  refine zz_iconst hC (dk DX2_group_0k 0 rfl) ?_
  refine zz_istore_n hC (ls' := [(0, .ref r0), (1, .int (zI 0))]) [1, 0] (dk DX2_group_0k 1 rfl) rfl (by decide) rfl ?_
  refine zz_aload_n hC 0 (dk DX2_group_0k 2 rfl) rfl rfl ?_
  refine zz_iconst hC (dk DX2_group_0k 3 rfl) ?_
  refine zz_put hC F_X2_33 fc_X2 rfl (tyX2_ok 5 (by decide)) 0 (ws' := [(r0, .inr (2, [.ref h0, .ref r1, .ref r2, .ref r3, .ref r4, .int (zI 0)])), (r1, bA D 250 g), (r2, iA D 250 st), (r3, lA D 250 ch), (r4, iA D 250 bo), (h0, .inr (3, [.ref h1, .ref h2, .ref h3, .ref h4, .ref h5, .ref h6, .int (zI ((w : Nat) : Int)), .int (zI ((n : Nat) : Int))])), (h1, iA D 11 S), (h2, iA D 4 F), (h3, iA D 4 L), (h4, iA D 250 K), (h5, iA D 250 T), (h6, iA D 250 U)]) rfl rfl rfl (Nat.le_of_ble_eq_true rfl) rfl (dk DX2_group_0k 4 rfl) ?_
  refine zz_iconst hC (dk DX2_group_0k 5 rfl) ?_
  refine zz_istore_n hC (ls' := [(0, .ref r0), (1, .int (zI 0)), (2, .int (zI 0))]) [1, 2, 0] (dk DX2_group_0k 6 rfl) rfl (by decide) rfl ?_
  have LP9 : ∀ (fuel9 : Nat) (i : Nat) (b : Int) (lt : Int) (bo1 : Nat → Int), (i ≤ n) → (b = zBn st T (S 7) i) → (b = 0 ∨ lt = zLs (zA0 st) T i) → (∀ j, j < i → bo1 j = zBo st T (S 7) j) → (0 ≤ lt ∧ lt ≤ 1000000) → n - i < fuel9 → Z p l e ({ frames := 0, cells := 0, slots := 0, locals := 0 } : Room) s m args below meth cd A D Q 4 0 0 [(r0, .inr (2, [.ref h0, .ref r1, .ref r2, .ref r3, .ref r4, .int (zI b)])), (r1, bA D 250 g), (r2, iA D 250 st), (r3, lA D 250 ch), (r4, iA D 250 bo1), (h0, .inr (3, [.ref h1, .ref h2, .ref h3, .ref h4, .ref h5, .ref h6, .int (zI ((w : Nat) : Int)), .int (zI ((n : Nat) : Int))])), (h1, iA D 11 S), (h2, iA D 4 F), (h3, iA D 4 L), (h4, iA D 250 K), (h5, iA D 250 T), (h6, iA D 250 U)] [(0, .ref r0), (1, .int (zI lt)), (2, .int (zI ((i : Nat) : Int)))] [] 9 := by
    intro fuel9
    induction fuel9 with
    | zero => intro i b lt bo1 hi hb hlt hbo hlr hfu; exact absurd hfu (Nat.not_lt_zero _)
    | succ fuel9 ih9 =>
      intro i b lt bo1 hi hb hlt hbo hlr hfu9
      have hbr := zBn_in (st := st) (T := T) (gap := S 7) (n := i)
      rw [← hb] at hbr
      refine zz_iload_n hC 2 (dk DX2_group_0k 7 rfl) rfl rfl ?_
      refine zz_aload_n hC 0 (dk DX2_group_0k 8 rfl) rfl rfl ?_
      refine zz_get hC F_X2_12 0 rfl rfl (dk DX2_group_0k 9 rfl) ?_
      refine zz_getN hC F_X2_57 5 rfl rfl (dk DX2_group_0k 10 rfl) ?_
      refine zz_icmp_ge hC 115 (dk DX2_group_0k 11 rfl) (by decide) ⟨⟨by omega, by omega⟩, ⟨by omega, by omega⟩⟩ (fun c1 => ?_) (fun c1 => ?_)
      · have hin : i = n := by omega
        rw [hin] at hb
        subst hb
        exact zz_ret hC hQ hr bo1 (fun j hj => hbo j (by omega)) [0, 1, 2, 3, 4, 5, 6, 7, 8, 9, 10, 11] rfl rfl ⟨Nat.le_refl _, Nat.le_refl _⟩ (dk DX2_group_1k 6 rfl)
      · refine zz_aload_n hC 0 (dk DX2_group_0k 12 rfl) rfl rfl ?_
        refine zz_get hC F_X2_30 0 rfl rfl (dk DX2_group_0k 13 rfl) ?_
        refine zz_iload_n hC 2 (dk DX2_group_0k 14 rfl) rfl rfl ?_
        refine zz_iconst hC (dk DX2_group_0k 15 rfl) ?_
        refine zz_iast hC (ws' := [(r0, .inr (2, [.ref h0, .ref r1, .ref r2, .ref r3, .ref r4, .int (zI b)])), (r1, bA D 250 g), (r2, iA D 250 st), (r3, lA D 250 ch), (r4, iA D 250 (zU bo1 i (-1))), (h0, .inr (3, [.ref h1, .ref h2, .ref h3, .ref h4, .ref h5, .ref h6, .int (zI ((w : Nat) : Int)), .int (zI ((n : Nat) : Int))])), (h1, iA D 11 S), (h2, iA D 4 F), (h3, iA D 4 L), (h4, iA D 250 K), (h5, iA D 250 T), (h6, iA D 250 U)]) i 4 rfl rfl (by omega) rfl (dk DX2_group_0k 16 rfl) ?_
        refine zz_aload_n hC 0 (dk DX2_group_0k 17 rfl) rfl rfl ?_
        refine zz_get hC F_X2_22 0 rfl rfl (dk DX2_group_0k 18 rfl) ?_
        refine zz_iload_n hC 2 (dk DX2_group_0k 19 rfl) rfl rfl ?_
        refine zz_iald hC i 2 rfl rfl (by omega) (dk DX2_group_0k 20 rfl) ?_
        have hf2 := hst6 i (by omega)
        refine zz_if_ne hC 109 (dk DX2_group_0k 21 rfl) (by decide) ⟨by omega, by omega⟩ (fun c3 => ?_) (fun c3 => ?_)
        · refine zz_iinc hC ((i + 1 : Nat) : Int) (ls' := [(0, .ref r0), (1, .int (zI lt)), (2, .int (zI ((i + 1 : Nat) : Int)))]) 2 [1, 2, 0] (dk DX2_group_1k 4 rfl) rfl (by omega) (by decide) rfl ?_
          refine zz_goto hC 9 (dk DX2_group_1k 5 rfl) (by decide) ?_
          refine zz_ls [0, 1, 2] rfl ?_
          exact ih9 (i + 1) b lt (zU bo1 i (-1)) (by omega) (zBn_n hb (by assumption)) (hlt.elim Or.inl (fun h9 => Or.inr (zLs_k h9 (by unfold zA0; simp only [decide_eq_true_eq]; assumption)))) (fill_s (zBo_n (by assumption)) hbo) (by omega) (by omega)
        · refine zz_aload_n hC 0 (dk DX2_group_0k 22 rfl) rfl rfl ?_
          refine zz_get hC F_X2_12 0 rfl rfl (dk DX2_group_0k 23 rfl) ?_
          refine zz_getN hC F_X2_64 5 rfl rfl (dk DX2_group_0k 24 rfl) ?_
          refine zz_iload_n hC 2 (dk DX2_group_0k 25 rfl) rfl rfl ?_
          refine zz_iald hC i 10 rfl rfl (by omega) (dk DX2_group_0k 26 rfl) ?_
          have hf4 := hT i (by omega)
          refine zz_iload_n hC 1 (dk DX2_group_0k 27 rfl) rfl rfl ?_
          refine zz_isub hC (dk DX2_group_0k 28 rfl) ?_
          refine zz_aload_n hC 0 (dk DX2_group_0k 29 rfl) rfl rfl ?_
          refine zz_get hC F_X2_12 0 rfl rfl (dk DX2_group_0k 30 rfl) ?_
          refine zz_getN hC F_X2_46 5 rfl rfl (dk DX2_group_0k 31 rfl) ?_
          refine zz_bipush hC (dk DX2_group_0k 32 rfl) (by decide) ?_
          refine zz_iald hC 7 6 rfl rfl (by omega) (dk DX2_group_0k 33 rfl) ?_
          refine zz_icmp_gt hC 64 (dk DX2_group_0k 34 rfl) (by decide) ⟨⟨by omega, by omega⟩, ⟨by omega, by omega⟩⟩ (fun c5 => ?_) (fun c5 => ?_)
          · refine zz_iconst hC (dk DX2_group_0k 37 rfl) ?_
            refine zz_istore_n hC (ls' := [(0, .ref r0), (1, .int (zI lt)), (2, .int (zI ((i : Nat) : Int))), (3, .int (zI 0))]) [1, 2, 3, 0] (dk DX2_group_0k 38 rfl) rfl (by decide) rfl ?_
            refine zz_aload_n hC 0 (dk DX2_group_0k 39 rfl) rfl rfl ?_
            refine zz_get hC F_X2_33 0 rfl rfl (dk DX2_group_0k 40 rfl) ?_
            refine zz_if_eq hC 77 (dk DX2_group_0k 41 rfl) (by decide) ⟨by omega, by omega⟩ (fun c6 => ?_) (fun c6 => ?_)
            · refine zz_aload_n hC 0 (dk DX2_group_0k 44 rfl) rfl rfl ?_
              refine zz_dup hC (dk DX2_group_0k 45 rfl) rfl ?_
              refine zz_get hC F_X2_33 0 rfl rfl (dk DX2_group_0k 46 rfl) ?_
              refine zz_iconst hC (dk DX2_group_0k 47 rfl) ?_
              refine zz_iadd hC (dk DX2_group_0k 48 rfl) ?_
              refine zz_put hC F_X2_33 fc_X2 rfl (tyX2_ok 5 (by decide)) 0 (ws' := [(r0, .inr (2, [.ref h0, .ref r1, .ref r2, .ref r3, .ref r4, .int (zI (b + 1))])), (r1, bA D 250 g), (r2, iA D 250 st), (r3, lA D 250 ch), (r4, iA D 250 (zU bo1 i (-1))), (h0, .inr (3, [.ref h1, .ref h2, .ref h3, .ref h4, .ref h5, .ref h6, .int (zI ((w : Nat) : Int)), .int (zI ((n : Nat) : Int))])), (h1, iA D 11 S), (h2, iA D 4 F), (h3, iA D 4 L), (h4, iA D 250 K), (h5, iA D 250 T), (h6, iA D 250 U)]) rfl rfl rfl (Nat.le_of_ble_eq_true rfl) rfl (dk DX2_group_0k 49 rfl) ?_
              refine zz_aload_n hC 0 (dk DX2_group_0k 50 rfl) rfl rfl ?_
              refine zz_get hC F_X2_30 0 rfl rfl (dk DX2_group_0k 51 rfl) ?_
              refine zz_iload_n hC 2 (dk DX2_group_0k 52 rfl) rfl rfl ?_
              refine zz_aload_n hC 0 (dk DX2_group_0k 53 rfl) rfl rfl ?_
              refine zz_get hC F_X2_33 0 rfl rfl (dk DX2_group_0k 54 rfl) ?_
              refine zz_iconst hC (dk DX2_group_0k 55 rfl) ?_
              refine zz_isub hC (dk DX2_group_0k 56 rfl) ?_
              refine zz_iast hC (ws' := [(r0, .inr (2, [.ref h0, .ref r1, .ref r2, .ref r3, .ref r4, .int (zI (b + 1))])), (r1, bA D 250 g), (r2, iA D 250 st), (r3, lA D 250 ch), (r4, iA D 250 (zU (zU bo1 i (-1)) i ((b + 1) - 1))), (h0, .inr (3, [.ref h1, .ref h2, .ref h3, .ref h4, .ref h5, .ref h6, .int (zI ((w : Nat) : Int)), .int (zI ((n : Nat) : Int))])), (h1, iA D 11 S), (h2, iA D 4 F), (h3, iA D 4 L), (h4, iA D 250 K), (h5, iA D 250 T), (h6, iA D 250 U)]) i 4 rfl rfl (by omega) rfl (dk DX2_group_0k 57 rfl) ?_
              refine zz_aload_n hC 0 (dk DX2_group_0k 58 rfl) rfl rfl ?_
              refine zz_get hC F_X2_12 0 rfl rfl (dk DX2_group_0k 59 rfl) ?_
              refine zz_getN hC F_X2_64 5 rfl rfl (dk DX2_group_1k 0 rfl) ?_
              refine zz_iload_n hC 2 (dk DX2_group_1k 1 rfl) rfl rfl ?_
              refine zz_iald hC i 10 rfl rfl (by omega) (dk DX2_group_1k 2 rfl) ?_
              have hf7 := hT i (by omega)
              refine zz_istore_n hC (ls' := [(0, .ref r0), (1, .int (zI (T i))), (2, .int (zI ((i : Nat) : Int))), (3, .int (zI 0))]) [1, 0, 2, 3] (dk DX2_group_1k 3 rfl) rfl (by decide) rfl ?_
              refine zz_iinc hC ((i + 1 : Nat) : Int) (ls' := [(0, .ref r0), (1, .int (zI (T i))), (2, .int (zI ((i + 1 : Nat) : Int))), (3, .int (zI 0))]) 2 [1, 2, 0, 3] (dk DX2_group_1k 4 rfl) rfl (by omega) (by decide) rfl ?_
              refine zz_goto hC 9 (dk DX2_group_1k 5 rfl) (by decide) ?_
              refine zz_ls [0, 1, 2] rfl ?_
              exact ih9 (i + 1) (b + 1) (T i) (zU (zU bo1 i (-1)) i ((b + 1) - 1)) (by omega) (zBn_s hb (by assumption) (hlt.elim Or.inl (fun h9 => by rw [← h9]; omega))) (Or.inr (zLs_s (by unfold zA0; simp only [decide_eq_true_eq]; assumption))) (fill_t (zBo_y (zBn_s hb (by assumption) (hlt.elim Or.inl (fun h9 => by rw [← h9]; omega))) (by assumption)) hbo) (by omega) (by omega)
            · refine zz_iload_n hC 3 (dk DX2_group_0k 42 rfl) rfl rfl ?_
              refine zz_if_ne hC 87 (dk DX2_group_0k 43 rfl) (by decide) (by decide) (fun c8 => ?_) (fun c8 => ?_)
              · exfalso; omega
              · refine zz_aload_n hC 0 (dk DX2_group_0k 44 rfl) rfl rfl ?_
                refine zz_dup hC (dk DX2_group_0k 45 rfl) rfl ?_
                refine zz_get hC F_X2_33 0 rfl rfl (dk DX2_group_0k 46 rfl) ?_
                refine zz_iconst hC (dk DX2_group_0k 47 rfl) ?_
                refine zz_iadd hC (dk DX2_group_0k 48 rfl) ?_
                refine zz_put hC F_X2_33 fc_X2 rfl (tyX2_ok 5 (by decide)) 0 (ws' := [(r0, .inr (2, [.ref h0, .ref r1, .ref r2, .ref r3, .ref r4, .int (zI (b + 1))])), (r1, bA D 250 g), (r2, iA D 250 st), (r3, lA D 250 ch), (r4, iA D 250 (zU bo1 i (-1))), (h0, .inr (3, [.ref h1, .ref h2, .ref h3, .ref h4, .ref h5, .ref h6, .int (zI ((w : Nat) : Int)), .int (zI ((n : Nat) : Int))])), (h1, iA D 11 S), (h2, iA D 4 F), (h3, iA D 4 L), (h4, iA D 250 K), (h5, iA D 250 T), (h6, iA D 250 U)]) rfl rfl rfl (Nat.le_of_ble_eq_true rfl) rfl (dk DX2_group_0k 49 rfl) ?_
                refine zz_aload_n hC 0 (dk DX2_group_0k 50 rfl) rfl rfl ?_
                refine zz_get hC F_X2_30 0 rfl rfl (dk DX2_group_0k 51 rfl) ?_
                refine zz_iload_n hC 2 (dk DX2_group_0k 52 rfl) rfl rfl ?_
                refine zz_aload_n hC 0 (dk DX2_group_0k 53 rfl) rfl rfl ?_
                refine zz_get hC F_X2_33 0 rfl rfl (dk DX2_group_0k 54 rfl) ?_
                refine zz_iconst hC (dk DX2_group_0k 55 rfl) ?_
                refine zz_isub hC (dk DX2_group_0k 56 rfl) ?_
                refine zz_iast hC (ws' := [(r0, .inr (2, [.ref h0, .ref r1, .ref r2, .ref r3, .ref r4, .int (zI (b + 1))])), (r1, bA D 250 g), (r2, iA D 250 st), (r3, lA D 250 ch), (r4, iA D 250 (zU (zU bo1 i (-1)) i ((b + 1) - 1))), (h0, .inr (3, [.ref h1, .ref h2, .ref h3, .ref h4, .ref h5, .ref h6, .int (zI ((w : Nat) : Int)), .int (zI ((n : Nat) : Int))])), (h1, iA D 11 S), (h2, iA D 4 F), (h3, iA D 4 L), (h4, iA D 250 K), (h5, iA D 250 T), (h6, iA D 250 U)]) i 4 rfl rfl (by omega) rfl (dk DX2_group_0k 57 rfl) ?_
                refine zz_aload_n hC 0 (dk DX2_group_0k 58 rfl) rfl rfl ?_
                refine zz_get hC F_X2_12 0 rfl rfl (dk DX2_group_0k 59 rfl) ?_
                refine zz_getN hC F_X2_64 5 rfl rfl (dk DX2_group_1k 0 rfl) ?_
                refine zz_iload_n hC 2 (dk DX2_group_1k 1 rfl) rfl rfl ?_
                refine zz_iald hC i 10 rfl rfl (by omega) (dk DX2_group_1k 2 rfl) ?_
                have hf9 := hT i (by omega)
                refine zz_istore_n hC (ls' := [(0, .ref r0), (1, .int (zI (T i))), (2, .int (zI ((i : Nat) : Int))), (3, .int (zI 0))]) [1, 0, 2, 3] (dk DX2_group_1k 3 rfl) rfl (by decide) rfl ?_
                refine zz_iinc hC ((i + 1 : Nat) : Int) (ls' := [(0, .ref r0), (1, .int (zI (T i))), (2, .int (zI ((i + 1 : Nat) : Int))), (3, .int (zI 0))]) 2 [1, 2, 0, 3] (dk DX2_group_1k 4 rfl) rfl (by omega) (by decide) rfl ?_
                refine zz_goto hC 9 (dk DX2_group_1k 5 rfl) (by decide) ?_
                refine zz_ls [0, 1, 2] rfl ?_
                exact ih9 (i + 1) (b + 1) (T i) (zU (zU bo1 i (-1)) i ((b + 1) - 1)) (by omega) (zBn_s hb (by assumption) (hlt.elim Or.inl (fun h9 => by rw [← h9]; omega))) (Or.inr (zLs_s (by unfold zA0; simp only [decide_eq_true_eq]; assumption))) (fill_t (zBo_y (zBn_s hb (by assumption) (hlt.elim Or.inl (fun h9 => by rw [← h9]; omega))) (by assumption)) hbo) (by omega) (by omega)
          · refine zz_iconst hC (dk DX2_group_0k 35 rfl) ?_
            refine zz_goto hC 65 (dk DX2_group_0k 36 rfl) (by decide) ?_
            refine zz_istore_n hC (ls' := [(0, .ref r0), (1, .int (zI lt)), (2, .int (zI ((i : Nat) : Int))), (3, .int (zI 1))]) [1, 2, 3, 0] (dk DX2_group_0k 38 rfl) rfl (by decide) rfl ?_
            refine zz_aload_n hC 0 (dk DX2_group_0k 39 rfl) rfl rfl ?_
            refine zz_get hC F_X2_33 0 rfl rfl (dk DX2_group_0k 40 rfl) ?_
            refine zz_if_eq hC 77 (dk DX2_group_0k 41 rfl) (by decide) ⟨by omega, by omega⟩ (fun c10 => ?_) (fun c10 => ?_)
            · refine zz_aload_n hC 0 (dk DX2_group_0k 44 rfl) rfl rfl ?_
              refine zz_dup hC (dk DX2_group_0k 45 rfl) rfl ?_
              refine zz_get hC F_X2_33 0 rfl rfl (dk DX2_group_0k 46 rfl) ?_
              refine zz_iconst hC (dk DX2_group_0k 47 rfl) ?_
              refine zz_iadd hC (dk DX2_group_0k 48 rfl) ?_
              refine zz_put hC F_X2_33 fc_X2 rfl (tyX2_ok 5 (by decide)) 0 (ws' := [(r0, .inr (2, [.ref h0, .ref r1, .ref r2, .ref r3, .ref r4, .int (zI (b + 1))])), (r1, bA D 250 g), (r2, iA D 250 st), (r3, lA D 250 ch), (r4, iA D 250 (zU bo1 i (-1))), (h0, .inr (3, [.ref h1, .ref h2, .ref h3, .ref h4, .ref h5, .ref h6, .int (zI ((w : Nat) : Int)), .int (zI ((n : Nat) : Int))])), (h1, iA D 11 S), (h2, iA D 4 F), (h3, iA D 4 L), (h4, iA D 250 K), (h5, iA D 250 T), (h6, iA D 250 U)]) rfl rfl rfl (Nat.le_of_ble_eq_true rfl) rfl (dk DX2_group_0k 49 rfl) ?_
              refine zz_aload_n hC 0 (dk DX2_group_0k 50 rfl) rfl rfl ?_
              refine zz_get hC F_X2_30 0 rfl rfl (dk DX2_group_0k 51 rfl) ?_
              refine zz_iload_n hC 2 (dk DX2_group_0k 52 rfl) rfl rfl ?_
              refine zz_aload_n hC 0 (dk DX2_group_0k 53 rfl) rfl rfl ?_
              refine zz_get hC F_X2_33 0 rfl rfl (dk DX2_group_0k 54 rfl) ?_
              refine zz_iconst hC (dk DX2_group_0k 55 rfl) ?_
              refine zz_isub hC (dk DX2_group_0k 56 rfl) ?_
              refine zz_iast hC (ws' := [(r0, .inr (2, [.ref h0, .ref r1, .ref r2, .ref r3, .ref r4, .int (zI (b + 1))])), (r1, bA D 250 g), (r2, iA D 250 st), (r3, lA D 250 ch), (r4, iA D 250 (zU (zU bo1 i (-1)) i ((b + 1) - 1))), (h0, .inr (3, [.ref h1, .ref h2, .ref h3, .ref h4, .ref h5, .ref h6, .int (zI ((w : Nat) : Int)), .int (zI ((n : Nat) : Int))])), (h1, iA D 11 S), (h2, iA D 4 F), (h3, iA D 4 L), (h4, iA D 250 K), (h5, iA D 250 T), (h6, iA D 250 U)]) i 4 rfl rfl (by omega) rfl (dk DX2_group_0k 57 rfl) ?_
              refine zz_aload_n hC 0 (dk DX2_group_0k 58 rfl) rfl rfl ?_
              refine zz_get hC F_X2_12 0 rfl rfl (dk DX2_group_0k 59 rfl) ?_
              refine zz_getN hC F_X2_64 5 rfl rfl (dk DX2_group_1k 0 rfl) ?_
              refine zz_iload_n hC 2 (dk DX2_group_1k 1 rfl) rfl rfl ?_
              refine zz_iald hC i 10 rfl rfl (by omega) (dk DX2_group_1k 2 rfl) ?_
              have hf11 := hT i (by omega)
              refine zz_istore_n hC (ls' := [(0, .ref r0), (1, .int (zI (T i))), (2, .int (zI ((i : Nat) : Int))), (3, .int (zI 1))]) [1, 0, 2, 3] (dk DX2_group_1k 3 rfl) rfl (by decide) rfl ?_
              refine zz_iinc hC ((i + 1 : Nat) : Int) (ls' := [(0, .ref r0), (1, .int (zI (T i))), (2, .int (zI ((i + 1 : Nat) : Int))), (3, .int (zI 1))]) 2 [1, 2, 0, 3] (dk DX2_group_1k 4 rfl) rfl (by omega) (by decide) rfl ?_
              refine zz_goto hC 9 (dk DX2_group_1k 5 rfl) (by decide) ?_
              refine zz_ls [0, 1, 2] rfl ?_
              exact ih9 (i + 1) (b + 1) (T i) (zU (zU bo1 i (-1)) i ((b + 1) - 1)) (by omega) (zBn_s hb (by assumption) (hlt.elim Or.inl (fun h9 => by rw [← h9]; omega))) (Or.inr (zLs_s (by unfold zA0; simp only [decide_eq_true_eq]; assumption))) (fill_t (zBo_y (zBn_s hb (by assumption) (hlt.elim Or.inl (fun h9 => by rw [← h9]; omega))) (by assumption)) hbo) (by omega) (by omega)
            · refine zz_iload_n hC 3 (dk DX2_group_0k 42 rfl) rfl rfl ?_
              refine zz_if_ne hC 87 (dk DX2_group_0k 43 rfl) (by decide) (by decide) (fun c12 => ?_) (fun c12 => ?_)
              · refine zz_aload_n hC 0 (dk DX2_group_0k 50 rfl) rfl rfl ?_
                refine zz_get hC F_X2_30 0 rfl rfl (dk DX2_group_0k 51 rfl) ?_
                refine zz_iload_n hC 2 (dk DX2_group_0k 52 rfl) rfl rfl ?_
                refine zz_aload_n hC 0 (dk DX2_group_0k 53 rfl) rfl rfl ?_
                refine zz_get hC F_X2_33 0 rfl rfl (dk DX2_group_0k 54 rfl) ?_
                refine zz_iconst hC (dk DX2_group_0k 55 rfl) ?_
                refine zz_isub hC (dk DX2_group_0k 56 rfl) ?_
                refine zz_iast hC (ws' := [(r0, .inr (2, [.ref h0, .ref r1, .ref r2, .ref r3, .ref r4, .int (zI b)])), (r1, bA D 250 g), (r2, iA D 250 st), (r3, lA D 250 ch), (r4, iA D 250 (zU (zU bo1 i (-1)) i (b - 1))), (h0, .inr (3, [.ref h1, .ref h2, .ref h3, .ref h4, .ref h5, .ref h6, .int (zI ((w : Nat) : Int)), .int (zI ((n : Nat) : Int))])), (h1, iA D 11 S), (h2, iA D 4 F), (h3, iA D 4 L), (h4, iA D 250 K), (h5, iA D 250 T), (h6, iA D 250 U)]) i 4 rfl rfl (by omega) rfl (dk DX2_group_0k 57 rfl) ?_
                refine zz_aload_n hC 0 (dk DX2_group_0k 58 rfl) rfl rfl ?_
                refine zz_get hC F_X2_12 0 rfl rfl (dk DX2_group_0k 59 rfl) ?_
                refine zz_getN hC F_X2_64 5 rfl rfl (dk DX2_group_1k 0 rfl) ?_
                refine zz_iload_n hC 2 (dk DX2_group_1k 1 rfl) rfl rfl ?_
                refine zz_iald hC i 10 rfl rfl (by omega) (dk DX2_group_1k 2 rfl) ?_
                have hf13 := hT i (by omega)
                refine zz_istore_n hC (ls' := [(0, .ref r0), (1, .int (zI (T i))), (2, .int (zI ((i : Nat) : Int))), (3, .int (zI 1))]) [1, 0, 2, 3] (dk DX2_group_1k 3 rfl) rfl (by decide) rfl ?_
                refine zz_iinc hC ((i + 1 : Nat) : Int) (ls' := [(0, .ref r0), (1, .int (zI (T i))), (2, .int (zI ((i + 1 : Nat) : Int))), (3, .int (zI 1))]) 2 [1, 2, 0, 3] (dk DX2_group_1k 4 rfl) rfl (by omega) (by decide) rfl ?_
                refine zz_goto hC 9 (dk DX2_group_1k 5 rfl) (by decide) ?_
                refine zz_ls [0, 1, 2] rfl ?_
                exact ih9 (i + 1) b (T i) (zU (zU bo1 i (-1)) i (b - 1)) (by omega) (zBn_k hb (by assumption) (by omega) (hlt.elim (fun h9 => absurd h9 (by omega)) (fun h9 => by rw [← h9]; omega))) (Or.inr (zLs_s (by unfold zA0; simp only [decide_eq_true_eq]; assumption))) (fill_t (zBo_y (zBn_k hb (by assumption) (by omega) (hlt.elim (fun h9 => absurd h9 (by omega)) (fun h9 => by rw [← h9]; omega))) (by assumption)) hbo) (by omega) (by omega)
              · exfalso; omega
  refine zz_ls [0, 1, 2] rfl ?_
  exact LP9 _ 0 0 0 bo (by omega) rfl (Or.inl rfl) (fun j hj => absurd hj (by omega)) (by omega) (Nat.lt_succ_self _)
