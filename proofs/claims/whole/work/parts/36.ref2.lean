set_option maxHeartbeats 4000000 in
set_option maxRecDepth 100000 in
theorem c_X6_lays (l : Launch) (D : zG) (m0 : Nat) (m1 : Nat) (m2 : Nat) (m3 : Nat) (m4 : Nat) (m5 : Nat) (m6 : Nat) (m7 : Nat) (m8 : Nat) (m9 : Nat) (m10 : Nat) (NW : Nat → Int) (PA : Nat → Int) (AS : Nat → Int) (tb : Nat → Int) (st : Nat → Int) (bo : Nat → Int) (sh : Nat → Int) (f1 : Nat → Int) (f2 : Nat → Int) (pk : Nat → Int) (sv : Nat) (len : Nat) (sp : Nat) (rf : Int) (nu : Int) (rk : Int) (rt : Int) (ra : Int) (bm : Int) (ha : Int) (n : Nat) (w : Nat) (K : Nat → Int) (T : Nat → Int) (U : Nat → Int) (S : Nat → Int) (F : Nat → Int) (L : Nat → Int) (G : Nat → Bool) (lv : Int) (dt : Int) (hN : zRow NW n K T U S F L w) (hg : zLog n K T U) (hs : zSet S) (hw : zWin w F L) (hsh : ∀ j, j < n → sh j = zSh0 K G (zBl w F L T S) j) (hlv : 0 ≤ lv ∧ lv ≤ 2000) (hdt : 0 ≤ dt ∧ dt ≤ 1000) : CV (S := Nat → Int) l yX6_lays cX6_lays 5 (none) ({ frames := 1, cells := 0, slots := 0, locals := 21 } : Room) D [.ref m0, .int (zI lv), .int (zI dt)] [(m0, .inr (6, [.ref m1, .ref m2, .ref m3, .int (zI ((sv : Nat) : Int)), .int (zI rf), .ref m4, .int (zI ((len : Nat) : Int)), .int (zI ((sp : Nat) : Int)), .int (zI nu), .int (zI rk), .int (zI rt), .int (zI ra), .ref m5, .ref m6, .int (zI bm), .ref m7, .ref m8, .ref m9, .ref m10, .long (zL ha)])), (m1, iA D 771 NW), (m2, iA D 3084 PA), (m3, iA D 771 AS), (m4, iA D 150 tb), (m5, iA D 250 st), (m6, iA D 250 bo), (m7, iA D 250 sh), (m8, iA D 36 f1), (m9, iA D 36 f2), (m10, iA D 2778 pk)] (fun u => ∀ j, j < n → u j = zSt K T U G (zBl w F L T S) lv dt j)  (fun u => [(m0, .inr (6, [.ref m1, .ref m2, .ref m3, .int (zI ((sv : Nat) : Int)), .int (zI rf), .ref m4, .int (zI ((len : Nat) : Int)), .int (zI ((sp : Nat) : Int)), .int (zI nu), .int (zI rk), .int (zI rt), .int (zI ra), .ref m5, .ref m6, .int (zI bm), .ref m7, .ref m8, .ref m9, .ref m10, .long (zL ha)])), (m1, iA D 771 NW), (m2, iA D 3084 PA), (m3, iA D 771 AS), (m4, iA D 150 tb), (m5, iA D 250 u), (m6, iA D 250 bo), (m7, iA D 250 sh), (m8, iA D 36 f1), (m9, iA D 36 f2), (m10, iA D 2778 pk)]) := by
  refine CV_of (by decide) (Nat.le_of_ble_eq_true rfl) ?_
  intro p e s m args below meth cd A Q hQ hC hr hnm
  have hC : ZC p s m args meth cd A D 5 cX6_lays RX6 := hC
  have hg0 := hg
  obtain ⟨hn, hK, hT, hU, hM⟩ := hg0
  show Z p l e ({ frames := 1, cells := 0, slots := 0, locals := 21 } : Room) s m args below meth cd A D Q 5 0 0 [(m0, .inr (6, [.ref m1, .ref m2, .ref m3, .int (zI ((sv : Nat) : Int)), .int (zI rf), .ref m4, .int (zI ((len : Nat) : Int)), .int (zI ((sp : Nat) : Int)), .int (zI nu), .int (zI rk), .int (zI rt), .int (zI ra), .ref m5, .ref m6, .int (zI bm), .ref m7, .ref m8, .ref m9, .ref m10, .long (zL ha)])), (m1, iA D 771 NW), (m2, iA D 3084 PA), (m3, iA D 771 AS), (m4, iA D 150 tb), (m5, iA D 250 st), (m6, iA D 250 bo), (m7, iA D 250 sh), (m8, iA D 36 f1), (m9, iA D 36 f2), (m10, iA D 2778 pk)] [(0, .ref m0), (1, .int (zI lv)), (2, .int (zI dt))] [] 0
  refine zz_iconst hC (dk DX6_lays_0k 0 rfl) ?_
  refine zz_istore_n hC (ls' := [(0, .ref m0), (1, .int (zI lv)), (2, .int (zI dt)), (3, .int (zI (-1)))]) [1, 2, 3, 0] (dk DX6_lays_0k 1 rfl) rfl (by decide) rfl ?_
  refine zz_iconst hC (dk DX6_lays_0k 2 rfl) ?_
  refine zz_istore hC (ls' := [(0, .ref m0), (1, .int (zI lv)), (2, .int (zI dt)), (3, .int (zI (-1))), (4, .int (zI 0))]) [1, 2, 3, 4, 0] (dk DX6_lays_0k 3 rfl) (by decide) rfl ?_
  have LP5 : ∀ (fuel5 : Nat) (i : Nat) (b : Int) (st1 : Nat → Int), (i ≤ n) → (zBe K T U G (zBl w F L T S) lv dt i b) → (∀ j, j < i → st1 j = zSt K T U G (zBl w F L T S) lv dt j) → n - i < fuel5 → Z p l e ({ frames := 1, cells := 0, slots := 0, locals := 21 } : Room) s m args below meth cd A D Q 5 0 0 [(m0, .inr (6, [.ref m1, .ref m2, .ref m3, .int (zI ((sv : Nat) : Int)), .int (zI rf), .ref m4, .int (zI ((len : Nat) : Int)), .int (zI ((sp : Nat) : Int)), .int (zI nu), .int (zI rk), .int (zI rt), .int (zI ra), .ref m5, .ref m6, .int (zI bm), .ref m7, .ref m8, .ref m9, .ref m10, .long (zL ha)])), (m1, iA D 771 NW), (m2, iA D 3084 PA), (m3, iA D 771 AS), (m4, iA D 150 tb), (m5, iA D 250 st1), (m6, iA D 250 bo), (m7, iA D 250 sh), (m8, iA D 36 f1), (m9, iA D 36 f2), (m10, iA D 2778 pk)] [(0, .ref m0), (1, .int (zI lv)), (2, .int (zI dt)), (3, .int (zI b)), (4, .int (zI ((i : Nat) : Int)))] [] 5 := by
    intro fuel5
    induction fuel5 with
    | zero => intro i b st1 hi hbe hst hfu; exact absurd hfu (Nat.not_lt_zero _)
    | succ fuel5 ih5 =>
      intro i b st1 hi hbe hst hfu5
      have hbr : -1 ≤ b ∧ b ≤ 250 := by rcases hbe with ⟨h1, h2⟩ | ⟨j, h1, h2, h3⟩ <;> omega
      refine zz_iload hC 4 (dk DX6_lays_0k 4 rfl) rfl ?_
      refine zz_aload_n hC 0 (dk DX6_lays_0k 5 rfl) rfl rfl ?_
      refine zz_get hC F_X6_7 0 rfl rfl (dk DX6_lays_0k 6 rfl) ?_
      refine zz_bipush hC (dk DX6_lays_0k 7 rfl) (by decide) ?_
      refine zz_iald hC 20 1 rfl rfl (by omega) (dk DX6_lays_0k 8 rfl) ?_
      rw [hN.2.2.2.1]
      refine zz_icmp_ge hC 133 (dk DX6_lays_0k 9 rfl) (by decide) ⟨⟨by omega, by omega⟩, ⟨by omega, by omega⟩⟩ (fun c1 => ?_) (fun c1 => ?_)
      · exact zz_ret hC hQ hr st1 (fun j hj => hst j (by omega)) [0, 1, 2, 3, 4, 5, 6, 7, 8, 9, 10] rfl rfl ⟨Nat.le_refl _, Nat.le_refl _⟩ (dk DX6_lays_1k 10 rfl)
      · have hTi := hT i (by omega)
        have hsi := hsh i (by omega)
        have hsr := zSh0_in (K := K) (G := G) (B := zBl w F L T S) (n := n) hK (show i < n by omega)
        rw [← hsi] at hsr
        refine zz_aload_n hC 0 (dk DX6_lays_0k 10 rfl) rfl rfl ?_
        refine zz_get hC F_X6_22 0 rfl rfl (dk DX6_lays_0k 11 rfl) ?_
        refine zz_iload hC 4 (dk DX6_lays_0k 12 rfl) rfl ?_
        refine zz_aload_n hC 0 (dk DX6_lays_0k 13 rfl) rfl rfl ?_
        refine zz_get hC F_X6_28 0 rfl rfl (dk DX6_lays_0k 14 rfl) ?_
        refine zz_iload hC 4 (dk DX6_lays_0k 15 rfl) rfl ?_
        refine zz_iald hC i 7 rfl rfl (by omega) (dk DX6_lays_0k 16 rfl) ?_
        have hf2 := (hsh i (by omega))
        refine zz_iast hC (ws' := [(m0, .inr (6, [.ref m1, .ref m2, .ref m3, .int (zI ((sv : Nat) : Int)), .int (zI rf), .ref m4, .int (zI ((len : Nat) : Int)), .int (zI ((sp : Nat) : Int)), .int (zI nu), .int (zI rk), .int (zI rt), .int (zI ra), .ref m5, .ref m6, .int (zI bm), .ref m7, .ref m8, .ref m9, .ref m10, .long (zL ha)])), (m1, iA D 771 NW), (m2, iA D 3084 PA), (m3, iA D 771 AS), (m4, iA D 150 tb), (m5, iA D 250 (zU st1 i (sh i))), (m6, iA D 250 bo), (m7, iA D 250 sh), (m8, iA D 36 f1), (m9, iA D 36 f2), (m10, iA D 2778 pk)]) i 5 rfl rfl (by omega) rfl (dk DX6_lays_0k 17 rfl) ?_
        refine zz_aload_n hC 0 (dk DX6_lays_0k 18 rfl) rfl rfl ?_
        refine zz_iload hC 4 (dk DX6_lays_0k 19 rfl) rfl ?_
        refine zz_pureVi hC (c_X6_kind l D m0 m1 m2 m3 m4 m5 m6 m7 m8 m9 m10 NW PA AS tb (zU st1 i (sh i)) bo sh f1 f2 pk sv len sp rf nu rk rt ra bm ha n w K T U S F L i hN hg (by omega)) G_X6_116 H_X6_kind ⟨Nat.le_of_ble_eq_true rfl, Nat.le_of_ble_eq_true rfl⟩ rfl [0, 1, 2, 3, 4, 5, 6, 7, 8, 9, 10] rfl rfl 0 6 ⟨rfl, rfl, rfl⟩ (As := [.int (zI ((i : Nat) : Int))]) (rest := []) (Nat.le_of_ble_eq_true rfl) rfl ⟨Nat.le_of_ble_eq_true rfl, Nat.le_of_ble_eq_true rfl⟩ (dk DX6_lays_0k 20 rfl) ⟨rfl, rfl⟩ ?_
        have hf3 := hK i (by omega)
        refine zz_if_ne hC 127 (dk DX6_lays_0k 21 rfl) (by decide) ⟨by omega, by omega⟩ (fun c4 => ?_) (fun c4 => ?_)
        · have hz8 : sh i = zSt K T U G (zBl w F L T S) lv dt i := st_o (by omega) hsi
          have h8b : sh i = 4 + K i := hsi.trans (sh_o (by omega)).symm
          refine zz_iinc hC ((i + 1 : Nat) : Int) (ls' := [(0, .ref m0), (1, .int (zI lv)), (2, .int (zI dt)), (3, .int (zI b)), (4, .int (zI ((i + 1 : Nat) : Int)))]) 4 [1, 2, 3, 4, 0] (dk DX6_lays_1k 8 rfl) rfl (by omega) (by decide) rfl ?_
          refine zz_goto hC 5 (dk DX6_lays_1k 9 rfl) (by decide) ?_
          refine zz_ls [0, 1, 2, 3, 4] rfl ?_
          exact ih5 (i + 1) b (zU st1 i (sh i)) (by omega) (be_k hbe (by rw [← hz8]; omega)) (fill_s hz8 hst) (by omega)
        · refine zz_aload_n hC 0 (dk DX6_lays_0k 22 rfl) rfl rfl ?_
          refine zz_get hC F_X6_22 0 rfl rfl (dk DX6_lays_0k 23 rfl) ?_
          refine zz_iload hC 4 (dk DX6_lays_0k 24 rfl) rfl ?_
          refine zz_aload_n hC 0 (dk DX6_lays_0k 25 rfl) rfl rfl ?_
          refine zz_iload hC 4 (dk DX6_lays_0k 26 rfl) rfl ?_
          refine zz_pureVi hC (c_X6_amplitude l D m0 m1 m2 m3 m4 m5 m6 m7 m8 m9 m10 NW PA AS tb (zU st1 i (sh i)) bo sh f1 f2 pk sv len sp rf nu rk rt ra bm ha n w K T U S F L i hN hg (by omega)) G_X6_119 H_X6_amplitude ⟨Nat.le_of_ble_eq_true rfl, Nat.le_of_ble_eq_true rfl⟩ rfl [0, 1, 2, 3, 4, 5, 6, 7, 8, 9, 10] rfl rfl 0 6 ⟨rfl, rfl, rfl⟩ (As := [.int (zI ((i : Nat) : Int))]) (rest := [.int (zI ((i : Nat) : Int)), .ref m5]) (Nat.le_of_ble_eq_true rfl) rfl ⟨Nat.le_of_ble_eq_true rfl, Nat.le_of_ble_eq_true rfl⟩ (dk DX6_lays_0k 27 rfl) ⟨rfl, rfl⟩ ?_
          have hf5 := hU i (by omega)
          refine zz_pureSi hC (c_X6_size l D (U i) (by omega)) G_X6_122 H_X6_size.2 ⟨Nat.le_of_ble_eq_true rfl, Nat.le_of_ble_eq_true rfl⟩ rfl [] rfl rfl (As := [.int (zI (U i))]) (rest := [.int (zI ((i : Nat) : Int)), .ref m5]) (Nat.le_of_ble_eq_true rfl) rfl ⟨Nat.le_of_ble_eq_true rfl, Nat.le_of_ble_eq_true rfl⟩ (dk DX6_lays_0k 28 rfl) ⟨rfl, rfl⟩ ?_
          refine zz_iload_n hC 1 (dk DX6_lays_0k 29 rfl) rfl rfl ?_
          refine zz_icmp_ge hC 63 (dk DX6_lays_0k 30 rfl) (by decide) ⟨⟨by omega, by omega⟩, ⟨by omega, by omega⟩⟩ (fun c6 => ?_) (fun c6 => ?_)
          · refine zz_aload_n hC 0 (dk DX6_lays_0k 33 rfl) rfl rfl ?_
            refine zz_get hC F_X6_28 0 rfl rfl (dk DX6_lays_0k 34 rfl) ?_
            refine zz_iload hC 4 (dk DX6_lays_0k 35 rfl) rfl ?_
            refine zz_iald hC i 7 rfl rfl (by omega) (dk DX6_lays_0k 36 rfl) ?_
            have hf7 := (hsh i (by omega))
            refine zz_if_eq hC 83 (dk DX6_lays_0k 37 rfl) (by decide) ⟨by omega, by omega⟩ (fun c8 => ?_) (fun c8 => ?_)
            · refine zz_iload_n hC 3 (dk DX6_lays_0k 43 rfl) rfl rfl ?_
              refine zz_iconst hC (dk DX6_lays_0k 44 rfl) ?_
              refine zz_icmp_eq hC 108 (dk DX6_lays_0k 45 rfl) (by decide) ⟨⟨by omega, by omega⟩, (by decide)⟩ (fun c9 => ?_) (fun c9 => ?_)
              · have hd0 : zDu K T U G (zBl w F L T S) lv dt i = 0 := by rcases hbe with ⟨h1, h2⟩ | ⟨j, h1, h2, h3⟩ <;> first | exact h2 | (exfalso; omega)
                refine zz_iconst hC (dk DX6_lays_0k 57 rfl) ?_
                have hz9 : 0 = zSt K T U G (zBl w F L T S) lv dt i := st_a (by omega) (by omega) (hsh i (by omega)) (by omega) (by omega)
                refine zz_iast hC (ws' := [(m0, .inr (6, [.ref m1, .ref m2, .ref m3, .int (zI ((sv : Nat) : Int)), .int (zI rf), .ref m4, .int (zI ((len : Nat) : Int)), .int (zI ((sp : Nat) : Int)), .int (zI nu), .int (zI rk), .int (zI rt), .int (zI ra), .ref m5, .ref m6, .int (zI bm), .ref m7, .ref m8, .ref m9, .ref m10, .long (zL ha)])), (m1, iA D 771 NW), (m2, iA D 3084 PA), (m3, iA D 771 AS), (m4, iA D 150 tb), (m5, iA D 250 (zU (zU st1 i (sh i)) i 0)), (m6, iA D 250 bo), (m7, iA D 250 sh), (m8, iA D 36 f1), (m9, iA D 36 f2), (m10, iA D 2778 pk)]) i 5 rfl rfl (by omega) rfl (dk DX6_lays_0k 58 rfl) ?_
                refine zz_aload_n hC 0 (dk DX6_lays_0k 59 rfl) rfl rfl ?_
                refine zz_get hC F_X6_22 0 rfl rfl (dk DX6_lays_1k 0 rfl) ?_
                refine zz_iload hC 4 (dk DX6_lays_1k 1 rfl) rfl ?_
                refine zz_iald hC i 5 rfl rfl (by omega) (dk DX6_lays_1k 2 rfl) ?_
                rw [zU_s]
                have hs6 := zSt_in (G := G) (B := zBl w F L T S) (lv := lv) (dt := dt) (T := T) (U := U) hK (show i < n by omega)
                refine zz_if_ne hC 125 (dk DX6_lays_1k 3 rfl) (by decide) ⟨by omega, by omega⟩ (fun c10 => ?_) (fun c10 => ?_)
                · refine zz_iload_n hC 3 (dk DX6_lays_1k 6 rfl) rfl rfl ?_
                  refine zz_istore_n hC (ls' := [(0, .ref m0), (1, .int (zI lv)), (2, .int (zI dt)), (3, .int (zI b)), (4, .int (zI ((i : Nat) : Int)))]) [1, 2, 3, 0, 4] (dk DX6_lays_1k 7 rfl) rfl (by decide) rfl ?_
                  refine zz_iinc hC ((i + 1 : Nat) : Int) (ls' := [(0, .ref m0), (1, .int (zI lv)), (2, .int (zI dt)), (3, .int (zI b)), (4, .int (zI ((i + 1 : Nat) : Int)))]) 4 [1, 2, 3, 4, 0] (dk DX6_lays_1k 8 rfl) rfl (by omega) (by decide) rfl ?_
                  refine zz_goto hC 5 (dk DX6_lays_1k 9 rfl) (by decide) ?_
                  refine zz_ls [0, 1, 2, 3, 4] rfl ?_
                  exact ih5 (i + 1) b (zU (zU st1 i (sh i)) i 0) (by omega) (be_k hbe (by rw [← hz9]; omega)) (fill_t hz9 hst) (by omega)
                · refine zz_iload hC 4 (dk DX6_lays_1k 4 rfl) rfl ?_
                  refine zz_goto hC 126 (dk DX6_lays_1k 5 rfl) (by decide) ?_
                  refine zz_istore_n hC (ls' := [(0, .ref m0), (1, .int (zI lv)), (2, .int (zI dt)), (3, .int (zI ((i : Nat) : Int))), (4, .int (zI ((i : Nat) : Int)))]) [1, 2, 3, 0, 4] (dk DX6_lays_1k 7 rfl) rfl (by decide) rfl ?_
                  refine zz_iinc hC ((i + 1 : Nat) : Int) (ls' := [(0, .ref m0), (1, .int (zI lv)), (2, .int (zI dt)), (3, .int (zI ((i : Nat) : Int))), (4, .int (zI ((i + 1 : Nat) : Int)))]) 4 [1, 2, 3, 4, 0] (dk DX6_lays_1k 8 rfl) rfl (by omega) (by decide) rfl ?_
                  refine zz_goto hC 5 (dk DX6_lays_1k 9 rfl) (by decide) ?_
                  refine zz_ls [0, 1, 2, 3, 4] rfl ?_
                  exact ih5 (i + 1) ((i : Nat) : Int) (zU (zU st1 i (sh i)) i 0) (by omega) (be_s (b := 0) (hz9.symm.trans (by omega))) (fill_t hz9 hst) (by omega)
              · refine zz_aload_n hC 0 (dk DX6_lays_0k 46 rfl) rfl rfl ?_
                refine zz_iload hC 4 (dk DX6_lays_0k 47 rfl) rfl ?_
                refine zz_pureVi hC (c_X6_time l D m0 m1 m2 m3 m4 m5 m6 m7 m8 m9 m10 NW PA AS tb (zU st1 i (sh i)) bo sh f1 f2 pk sv len sp rf nu rk rt ra bm ha n w K T U S F L i hN hg (by omega)) G_X6_69 H_X6_time ⟨Nat.le_of_ble_eq_true rfl, Nat.le_of_ble_eq_true rfl⟩ rfl [0, 1, 2, 3, 4, 5, 6, 7, 8, 9, 10] rfl rfl 0 6 ⟨rfl, rfl, rfl⟩ (As := [.int (zI ((i : Nat) : Int))]) (rest := [.int (zI ((i : Nat) : Int)), .ref m5]) (Nat.le_of_ble_eq_true rfl) rfl ⟨Nat.le_of_ble_eq_true rfl, Nat.le_of_ble_eq_true rfl⟩ (dk DX6_lays_0k 48 rfl) ⟨rfl, rfl⟩ ?_
                have hf11 := hT i (by omega)
                obtain ⟨j, hj, rfl, hdj⟩ := hbe.resolve_left (fun h => absurd h.1 (by omega))
                have hbe : zBe K T U G (zBl w F L T S) lv dt i ((j : Nat) : Int) := Or.inr ⟨j, hj, rfl, hdj⟩
                refine zz_aload_n hC 0 (dk DX6_lays_0k 49 rfl) rfl rfl ?_
                refine zz_iload_n hC 3 (dk DX6_lays_0k 50 rfl) rfl rfl ?_
                refine zz_pureVi hC (c_X6_time l D m0 m1 m2 m3 m4 m5 m6 m7 m8 m9 m10 NW PA AS tb (zU st1 i (sh i)) bo sh f1 f2 pk sv len sp rf nu rk rt ra bm ha n w K T U S F L j hN hg (by omega)) G_X6_69 H_X6_time ⟨Nat.le_of_ble_eq_true rfl, Nat.le_of_ble_eq_true rfl⟩ rfl [0, 1, 2, 3, 4, 5, 6, 7, 8, 9, 10] rfl rfl 0 6 ⟨rfl, rfl, rfl⟩ (As := [.int (zI ((j : Nat) : Int))]) (rest := [.int (zI (T i)), .int (zI ((i : Nat) : Int)), .ref m5]) (Nat.le_of_ble_eq_true rfl) rfl ⟨Nat.le_of_ble_eq_true rfl, Nat.le_of_ble_eq_true rfl⟩ (dk DX6_lays_0k 51 rfl) ⟨rfl, rfl⟩ ?_
                have hf12 := hT j (by omega)
                refine zz_isub hC (dk DX6_lays_0k 52 rfl) ?_
                refine zz_iload_n hC 2 (dk DX6_lays_0k 53 rfl) rfl rfl ?_
                refine zz_icmp_ge hC 108 (dk DX6_lays_0k 54 rfl) (by decide) ⟨⟨by omega, by omega⟩, ⟨by omega, by omega⟩⟩ (fun c13 => ?_) (fun c13 => ?_)
                · refine zz_iconst hC (dk DX6_lays_0k 57 rfl) ?_
                  have hz9 : 0 = zSt K T U G (zBl w F L T S) lv dt i := st_a (by omega) (by omega) (hsh i (by omega)) (by omega) (by omega)
                  refine zz_iast hC (ws' := [(m0, .inr (6, [.ref m1, .ref m2, .ref m3, .int (zI ((sv : Nat) : Int)), .int (zI rf), .ref m4, .int (zI ((len : Nat) : Int)), .int (zI ((sp : Nat) : Int)), .int (zI nu), .int (zI rk), .int (zI rt), .int (zI ra), .ref m5, .ref m6, .int (zI bm), .ref m7, .ref m8, .ref m9, .ref m10, .long (zL ha)])), (m1, iA D 771 NW), (m2, iA D 3084 PA), (m3, iA D 771 AS), (m4, iA D 150 tb), (m5, iA D 250 (zU (zU st1 i (sh i)) i 0)), (m6, iA D 250 bo), (m7, iA D 250 sh), (m8, iA D 36 f1), (m9, iA D 36 f2), (m10, iA D 2778 pk)]) i 5 rfl rfl (by omega) rfl (dk DX6_lays_0k 58 rfl) ?_
                  refine zz_aload_n hC 0 (dk DX6_lays_0k 59 rfl) rfl rfl ?_
                  refine zz_get hC F_X6_22 0 rfl rfl (dk DX6_lays_1k 0 rfl) ?_
                  refine zz_iload hC 4 (dk DX6_lays_1k 1 rfl) rfl ?_
                  refine zz_iald hC i 5 rfl rfl (by omega) (dk DX6_lays_1k 2 rfl) ?_
                  rw [zU_s]
                  have hs6 := zSt_in (G := G) (B := zBl w F L T S) (lv := lv) (dt := dt) (T := T) (U := U) hK (show i < n by omega)
                  refine zz_if_ne hC 125 (dk DX6_lays_1k 3 rfl) (by decide) ⟨by omega, by omega⟩ (fun c14 => ?_) (fun c14 => ?_)
                  · refine zz_iload_n hC 3 (dk DX6_lays_1k 6 rfl) rfl rfl ?_
                    refine zz_istore_n hC (ls' := [(0, .ref m0), (1, .int (zI lv)), (2, .int (zI dt)), (3, .int (zI ((j : Nat) : Int))), (4, .int (zI ((i : Nat) : Int)))]) [1, 2, 3, 0, 4] (dk DX6_lays_1k 7 rfl) rfl (by decide) rfl ?_
                    refine zz_iinc hC ((i + 1 : Nat) : Int) (ls' := [(0, .ref m0), (1, .int (zI lv)), (2, .int (zI dt)), (3, .int (zI ((j : Nat) : Int))), (4, .int (zI ((i + 1 : Nat) : Int)))]) 4 [1, 2, 3, 4, 0] (dk DX6_lays_1k 8 rfl) rfl (by omega) (by decide) rfl ?_
                    refine zz_goto hC 5 (dk DX6_lays_1k 9 rfl) (by decide) ?_
                    refine zz_ls [0, 1, 2, 3, 4] rfl ?_
                    exact ih5 (i + 1) ((j : Nat) : Int) (zU (zU st1 i (sh i)) i 0) (by omega) (be_k hbe (by rw [← hz9]; omega)) (fill_t hz9 hst) (by omega)
                  · refine zz_iload hC 4 (dk DX6_lays_1k 4 rfl) rfl ?_
                    refine zz_goto hC 126 (dk DX6_lays_1k 5 rfl) (by decide) ?_
                    refine zz_istore_n hC (ls' := [(0, .ref m0), (1, .int (zI lv)), (2, .int (zI dt)), (3, .int (zI ((i : Nat) : Int))), (4, .int (zI ((i : Nat) : Int)))]) [1, 2, 3, 0, 4] (dk DX6_lays_1k 7 rfl) rfl (by decide) rfl ?_
                    refine zz_iinc hC ((i + 1 : Nat) : Int) (ls' := [(0, .ref m0), (1, .int (zI lv)), (2, .int (zI dt)), (3, .int (zI ((i : Nat) : Int))), (4, .int (zI ((i + 1 : Nat) : Int)))]) 4 [1, 2, 3, 4, 0] (dk DX6_lays_1k 8 rfl) rfl (by omega) (by decide) rfl ?_
                    refine zz_goto hC 5 (dk DX6_lays_1k 9 rfl) (by decide) ?_
                    refine zz_ls [0, 1, 2, 3, 4] rfl ?_
                    exact ih5 (i + 1) ((i : Nat) : Int) (zU (zU st1 i (sh i)) i 0) (by omega) (be_s (b := 0) (hz9.symm.trans (by omega))) (fill_t hz9 hst) (by omega)
                · refine zz_iconst hC (dk DX6_lays_0k 55 rfl) ?_
                  refine zz_goto hC 109 (dk DX6_lays_0k 56 rfl) (by decide) ?_
                  have hz9 : 4 = zSt K T U G (zBl w F L T S) lv dt i := st_d (j := j) (by omega) (by omega) (hsh i (by omega)) (by omega) hdj (by omega)
                  refine zz_iast hC (ws' := [(m0, .inr (6, [.ref m1, .ref m2, .ref m3, .int (zI ((sv : Nat) : Int)), .int (zI rf), .ref m4, .int (zI ((len : Nat) : Int)), .int (zI ((sp : Nat) : Int)), .int (zI nu), .int (zI rk), .int (zI rt), .int (zI ra), .ref m5, .ref m6, .int (zI bm), .ref m7, .ref m8, .ref m9, .ref m10, .long (zL ha)])), (m1, iA D 771 NW), (m2, iA D 3084 PA), (m3, iA D 771 AS), (m4, iA D 150 tb), (m5, iA D 250 (zU (zU st1 i (sh i)) i 4)), (m6, iA D 250 bo), (m7, iA D 250 sh), (m8, iA D 36 f1), (m9, iA D 36 f2), (m10, iA D 2778 pk)]) i 5 rfl rfl (by omega) rfl (dk DX6_lays_0k 58 rfl) ?_
                  refine zz_aload_n hC 0 (dk DX6_lays_0k 59 rfl) rfl rfl ?_
                  refine zz_get hC F_X6_22 0 rfl rfl (dk DX6_lays_1k 0 rfl) ?_
                  refine zz_iload hC 4 (dk DX6_lays_1k 1 rfl) rfl ?_
                  refine zz_iald hC i 5 rfl rfl (by omega) (dk DX6_lays_1k 2 rfl) ?_
                  rw [zU_s]
                  have hs6 := zSt_in (G := G) (B := zBl w F L T S) (lv := lv) (dt := dt) (T := T) (U := U) hK (show i < n by omega)
                  refine zz_if_ne hC 125 (dk DX6_lays_1k 3 rfl) (by decide) ⟨by omega, by omega⟩ (fun c15 => ?_) (fun c15 => ?_)
                  · refine zz_iload_n hC 3 (dk DX6_lays_1k 6 rfl) rfl rfl ?_
                    refine zz_istore_n hC (ls' := [(0, .ref m0), (1, .int (zI lv)), (2, .int (zI dt)), (3, .int (zI ((j : Nat) : Int))), (4, .int (zI ((i : Nat) : Int)))]) [1, 2, 3, 0, 4] (dk DX6_lays_1k 7 rfl) rfl (by decide) rfl ?_
                    refine zz_iinc hC ((i + 1 : Nat) : Int) (ls' := [(0, .ref m0), (1, .int (zI lv)), (2, .int (zI dt)), (3, .int (zI ((j : Nat) : Int))), (4, .int (zI ((i + 1 : Nat) : Int)))]) 4 [1, 2, 3, 4, 0] (dk DX6_lays_1k 8 rfl) rfl (by omega) (by decide) rfl ?_
                    refine zz_goto hC 5 (dk DX6_lays_1k 9 rfl) (by decide) ?_
                    refine zz_ls [0, 1, 2, 3, 4] rfl ?_
                    exact ih5 (i + 1) ((j : Nat) : Int) (zU (zU st1 i (sh i)) i 4) (by omega) (be_k hbe (by rw [← hz9]; omega)) (fill_t hz9 hst) (by omega)
                  · refine zz_iload hC 4 (dk DX6_lays_1k 4 rfl) rfl ?_
                    refine zz_goto hC 126 (dk DX6_lays_1k 5 rfl) (by decide) ?_
                    refine zz_istore_n hC (ls' := [(0, .ref m0), (1, .int (zI lv)), (2, .int (zI dt)), (3, .int (zI ((i : Nat) : Int))), (4, .int (zI ((i : Nat) : Int)))]) [1, 2, 3, 0, 4] (dk DX6_lays_1k 7 rfl) rfl (by decide) rfl ?_
                    refine zz_iinc hC ((i + 1 : Nat) : Int) (ls' := [(0, .ref m0), (1, .int (zI lv)), (2, .int (zI dt)), (3, .int (zI ((i : Nat) : Int))), (4, .int (zI ((i + 1 : Nat) : Int)))]) 4 [1, 2, 3, 4, 0] (dk DX6_lays_1k 8 rfl) rfl (by omega) (by decide) rfl ?_
                    refine zz_goto hC 5 (dk DX6_lays_1k 9 rfl) (by decide) ?_
                    refine zz_ls [0, 1, 2, 3, 4] rfl ?_
                    exact ih5 (i + 1) ((i : Nat) : Int) (zU (zU st1 i (sh i)) i 4) (by omega) (be_s (b := 0) (hz9.symm.trans (by omega))) (fill_t hz9 hst) (by omega)
            · refine zz_aload_n hC 0 (dk DX6_lays_0k 38 rfl) rfl rfl ?_
              refine zz_get hC F_X6_28 0 rfl rfl (dk DX6_lays_0k 39 rfl) ?_
              refine zz_iload hC 4 (dk DX6_lays_0k 40 rfl) rfl ?_
              refine zz_iald hC i 7 rfl rfl (by omega) (dk DX6_lays_0k 41 rfl) ?_
              have hf16 := (hsh i (by omega))
              refine zz_goto hC 109 (dk DX6_lays_0k 42 rfl) (by decide) ?_
              have hz9 : (sh i) = zSt K T U G (zBl w F L T S) lv dt i := st_s (by omega) (by omega) (hsh i (by omega)) (by omega)
              refine zz_iast hC (ws' := [(m0, .inr (6, [.ref m1, .ref m2, .ref m3, .int (zI ((sv : Nat) : Int)), .int (zI rf), .ref m4, .int (zI ((len : Nat) : Int)), .int (zI ((sp : Nat) : Int)), .int (zI nu), .int (zI rk), .int (zI rt), .int (zI ra), .ref m5, .ref m6, .int (zI bm), .ref m7, .ref m8, .ref m9, .ref m10, .long (zL ha)])), (m1, iA D 771 NW), (m2, iA D 3084 PA), (m3, iA D 771 AS), (m4, iA D 150 tb), (m5, iA D 250 (zU (zU st1 i (sh i)) i (sh i))), (m6, iA D 250 bo), (m7, iA D 250 sh), (m8, iA D 36 f1), (m9, iA D 36 f2), (m10, iA D 2778 pk)]) i 5 rfl rfl (by omega) rfl (dk DX6_lays_0k 58 rfl) ?_
              refine zz_aload_n hC 0 (dk DX6_lays_0k 59 rfl) rfl rfl ?_
              refine zz_get hC F_X6_22 0 rfl rfl (dk DX6_lays_1k 0 rfl) ?_
              refine zz_iload hC 4 (dk DX6_lays_1k 1 rfl) rfl ?_
              refine zz_iald hC i 5 rfl rfl (by omega) (dk DX6_lays_1k 2 rfl) ?_
              rw [zU_s]
              have hs6 := zSt_in (G := G) (B := zBl w F L T S) (lv := lv) (dt := dt) (T := T) (U := U) hK (show i < n by omega)
              refine zz_if_ne hC 125 (dk DX6_lays_1k 3 rfl) (by decide) ⟨by omega, by omega⟩ (fun c17 => ?_) (fun c17 => ?_)
              · refine zz_iload_n hC 3 (dk DX6_lays_1k 6 rfl) rfl rfl ?_
                refine zz_istore_n hC (ls' := [(0, .ref m0), (1, .int (zI lv)), (2, .int (zI dt)), (3, .int (zI b)), (4, .int (zI ((i : Nat) : Int)))]) [1, 2, 3, 0, 4] (dk DX6_lays_1k 7 rfl) rfl (by decide) rfl ?_
                refine zz_iinc hC ((i + 1 : Nat) : Int) (ls' := [(0, .ref m0), (1, .int (zI lv)), (2, .int (zI dt)), (3, .int (zI b)), (4, .int (zI ((i + 1 : Nat) : Int)))]) 4 [1, 2, 3, 4, 0] (dk DX6_lays_1k 8 rfl) rfl (by omega) (by decide) rfl ?_
                refine zz_goto hC 5 (dk DX6_lays_1k 9 rfl) (by decide) ?_
                refine zz_ls [0, 1, 2, 3, 4] rfl ?_
                exact ih5 (i + 1) b (zU (zU st1 i (sh i)) i (sh i)) (by omega) (be_k hbe (by rw [← hz9]; omega)) (fill_t hz9 hst) (by omega)
              · refine zz_iload hC 4 (dk DX6_lays_1k 4 rfl) rfl ?_
                refine zz_goto hC 126 (dk DX6_lays_1k 5 rfl) (by decide) ?_
                refine zz_istore_n hC (ls' := [(0, .ref m0), (1, .int (zI lv)), (2, .int (zI dt)), (3, .int (zI ((i : Nat) : Int))), (4, .int (zI ((i : Nat) : Int)))]) [1, 2, 3, 0, 4] (dk DX6_lays_1k 7 rfl) rfl (by decide) rfl ?_
                refine zz_iinc hC ((i + 1 : Nat) : Int) (ls' := [(0, .ref m0), (1, .int (zI lv)), (2, .int (zI dt)), (3, .int (zI ((i : Nat) : Int))), (4, .int (zI ((i + 1 : Nat) : Int)))]) 4 [1, 2, 3, 4, 0] (dk DX6_lays_1k 8 rfl) rfl (by omega) (by decide) rfl ?_
                refine zz_goto hC 5 (dk DX6_lays_1k 9 rfl) (by decide) ?_
                refine zz_ls [0, 1, 2, 3, 4] rfl ?_
                exact ih5 (i + 1) ((i : Nat) : Int) (zU (zU st1 i (sh i)) i (sh i)) (by omega) (be_s (b := 0) (hz9.symm.trans (by omega))) (fill_t hz9 hst) (by omega)
          · refine zz_iconst hC (dk DX6_lays_0k 31 rfl) ?_
            refine zz_goto hC 109 (dk DX6_lays_0k 32 rfl) (by decide) ?_
            have hz9 : 1 = zSt K T U G (zBl w F L T S) lv dt i := st_q (by omega) (by omega)
            refine zz_iast hC (ws' := [(m0, .inr (6, [.ref m1, .ref m2, .ref m3, .int (zI ((sv : Nat) : Int)), .int (zI rf), .ref m4, .int (zI ((len : Nat) : Int)), .int (zI ((sp : Nat) : Int)), .int (zI nu), .int (zI rk), .int (zI rt), .int (zI ra), .ref m5, .ref m6, .int (zI bm), .ref m7, .ref m8, .ref m9, .ref m10, .long (zL ha)])), (m1, iA D 771 NW), (m2, iA D 3084 PA), (m3, iA D 771 AS), (m4, iA D 150 tb), (m5, iA D 250 (zU (zU st1 i (sh i)) i 1)), (m6, iA D 250 bo), (m7, iA D 250 sh), (m8, iA D 36 f1), (m9, iA D 36 f2), (m10, iA D 2778 pk)]) i 5 rfl rfl (by omega) rfl (dk DX6_lays_0k 58 rfl) ?_
            refine zz_aload_n hC 0 (dk DX6_lays_0k 59 rfl) rfl rfl ?_
            refine zz_get hC F_X6_22 0 rfl rfl (dk DX6_lays_1k 0 rfl) ?_
            refine zz_iload hC 4 (dk DX6_lays_1k 1 rfl) rfl ?_
            refine zz_iald hC i 5 rfl rfl (by omega) (dk DX6_lays_1k 2 rfl) ?_
            rw [zU_s]
            have hs6 := zSt_in (G := G) (B := zBl w F L T S) (lv := lv) (dt := dt) (T := T) (U := U) hK (show i < n by omega)
            refine zz_if_ne hC 125 (dk DX6_lays_1k 3 rfl) (by decide) ⟨by omega, by omega⟩ (fun c18 => ?_) (fun c18 => ?_)
            · refine zz_iload_n hC 3 (dk DX6_lays_1k 6 rfl) rfl rfl ?_
              refine zz_istore_n hC (ls' := [(0, .ref m0), (1, .int (zI lv)), (2, .int (zI dt)), (3, .int (zI b)), (4, .int (zI ((i : Nat) : Int)))]) [1, 2, 3, 0, 4] (dk DX6_lays_1k 7 rfl) rfl (by decide) rfl ?_
              refine zz_iinc hC ((i + 1 : Nat) : Int) (ls' := [(0, .ref m0), (1, .int (zI lv)), (2, .int (zI dt)), (3, .int (zI b)), (4, .int (zI ((i + 1 : Nat) : Int)))]) 4 [1, 2, 3, 4, 0] (dk DX6_lays_1k 8 rfl) rfl (by omega) (by decide) rfl ?_
              refine zz_goto hC 5 (dk DX6_lays_1k 9 rfl) (by decide) ?_
              refine zz_ls [0, 1, 2, 3, 4] rfl ?_
              exact ih5 (i + 1) b (zU (zU st1 i (sh i)) i 1) (by omega) (be_k hbe (by rw [← hz9]; omega)) (fill_t hz9 hst) (by omega)
            · refine zz_iload hC 4 (dk DX6_lays_1k 4 rfl) rfl ?_
              refine zz_goto hC 126 (dk DX6_lays_1k 5 rfl) (by decide) ?_
              refine zz_istore_n hC (ls' := [(0, .ref m0), (1, .int (zI lv)), (2, .int (zI dt)), (3, .int (zI ((i : Nat) : Int))), (4, .int (zI ((i : Nat) : Int)))]) [1, 2, 3, 0, 4] (dk DX6_lays_1k 7 rfl) rfl (by decide) rfl ?_
              refine zz_iinc hC ((i + 1 : Nat) : Int) (ls' := [(0, .ref m0), (1, .int (zI lv)), (2, .int (zI dt)), (3, .int (zI ((i : Nat) : Int))), (4, .int (zI ((i + 1 : Nat) : Int)))]) 4 [1, 2, 3, 4, 0] (dk DX6_lays_1k 8 rfl) rfl (by omega) (by decide) rfl ?_
              refine zz_goto hC 5 (dk DX6_lays_1k 9 rfl) (by decide) ?_
              refine zz_ls [0, 1, 2, 3, 4] rfl ?_
              exact ih5 (i + 1) ((i : Nat) : Int) (zU (zU st1 i (sh i)) i 1) (by omega) (be_s (b := 0) (hz9.symm.trans (by omega))) (fill_t hz9 hst) (by omega)
  refine zz_ls [0, 1, 2, 3, 4] rfl ?_
  exact LP5 _ 0 (-1) st (by omega) (Or.inl ⟨rfl, rfl⟩) (fun j hj => absurd hj (by omega)) (Nat.lt_succ_self _)
set_option maxHeartbeats 4000000 in
set_option maxRecDepth 100000 in
theorem c_X6_laysNow (l : Launch) (D : zG) (m0 : Nat) (m1 : Nat) (m2 : Nat) (m3 : Nat) (m4 : Nat) (m5 : Nat) (m6 : Nat) (m7 : Nat) (m8 : Nat) (m9 : Nat) (m10 : Nat) (NW : Nat → Int) (PA : Nat → Int) (AS : Nat → Int) (tb : Nat → Int) (st : Nat → Int) (bo : Nat → Int) (sh : Nat → Int) (f1 : Nat → Int) (f2 : Nat → Int) (pk : Nat → Int) (sv : Nat) (len : Nat) (sp : Nat) (rf : Int) (nu : Int) (rk : Int) (rt : Int) (ra : Int) (bm : Int) (ha : Int) (n : Nat) (w : Nat) (K : Nat → Int) (T : Nat → Int) (U : Nat → Int) (S : Nat → Int) (F : Nat → Int) (L : Nat → Int) (hN : zRow NW n K T U S F L w) (hg : zLog n K T U) (hs : zSet S) (hw : zWin w F L) : CV (S := (Nat → Int) × (Nat → Int) × (Nat → Int)) l yX6_laysNow cX6_laysNow 3 (none) ({ frames := 4, cells := 0, slots := 0, locals := 91 } : Room) D [.ref m0] [(m0, .inr (6, [.ref m1, .ref m2, .ref m3, .int (zI ((sv : Nat) : Int)), .int (zI rf), .ref m4, .int (zI ((len : Nat) : Int)), .int (zI ((sp : Nat) : Int)), .int (zI nu), .int (zI rk), .int (zI rt), .int (zI ra), .ref m5, .ref m6, .int (zI bm), .ref m7, .ref m8, .ref m9, .ref m10, .long (zL ha)])), (m1, iA D 771 NW), (m2, iA D 3084 PA), (m3, iA D 771 AS), (m4, iA D 150 tb), (m5, iA D 250 st), (m6, iA D 250 bo), (m7, iA D 250 sh), (m8, iA D 36 f1), (m9, iA D 36 f2), (m10, iA D 2778 pk)] (fun u => zMk n K T U S F L w u.1 u.2.1)  (fun u => [(m0, .inr (6, [.ref m1, .ref m2, .ref m3, .int (zI ((sv : Nat) : Int)), .int (zI rf), .ref m4, .int (zI ((len : Nat) : Int)), .int (zI ((sp : Nat) : Int)), .int (zI nu), .int (zI rk), .int (zI rt), .int (zI ra), .ref m5, .ref m6, .int (zI (zBN n K T U S F L w)), .ref m7, .ref m8, .ref m9, .ref m10, .long (zL ha)])), (m1, iA D 771 NW), (m2, iA D 3084 PA), (m3, iA D 771 AS), (m4, iA D 150 tb), (m5, iA D 250 u.1), (m6, iA D 250 u.2.1), (m7, iA D 250 u.2.2), (m8, iA D 36 f1), (m9, iA D 36 f2), (m10, iA D 2778 pk)]) := by
  refine CV_of (by decide) (Nat.le_of_ble_eq_true rfl) ?_
  intro p e s m args below meth cd A Q hQ hC hr hnm
  have hC : ZC p s m args meth cd A D 3 cX6_laysNow RX6 := hC
  have hg0 := hg
  obtain ⟨hn, hK, hT, hU, hM⟩ := hg0
  have hgp := zSet_in hs 7 (by omega)
  have hs2 := hs.2.2.1
  have hs3 := hs.2.2.2.1
  have hs4 := hs.2.2.2.2.1
  have hs5 := hs.2.2.2.2.2.1
  show Z p l e ({ frames := 4, cells := 0, slots := 0, locals := 91 } : Room) s m args below meth cd A D Q 3 0 0 [(m0, .inr (6, [.ref m1, .ref m2, .ref m3, .int (zI ((sv : Nat) : Int)), .int (zI rf), .ref m4, .int (zI ((len : Nat) : Int)), .int (zI ((sp : Nat) : Int)), .int (zI nu), .int (zI rk), .int (zI rt), .int (zI ra), .ref m5, .ref m6, .int (zI bm), .ref m7, .ref m8, .ref m9, .ref m10, .long (zL ha)])), (m1, iA D 771 NW), (m2, iA D 3084 PA), (m3, iA D 771 AS), (m4, iA D 150 tb), (m5, iA D 250 st), (m6, iA D 250 bo), (m7, iA D 250 sh), (m8, iA D 36 f1), (m9, iA D 36 f2), (m10, iA D 2778 pk)] [(0, .ref m0)] [] 0
  refine zz_aload_n hC 0 (dk DX6_laysNow_0k 0 rfl) rfl rfl ?_
  refine zz_aload_n hC 0 (dk DX6_laysNow_0k 1 rfl) rfl rfl ?_
  refine zz_get hC F_X6_7 0 rfl rfl (dk DX6_laysNow_0k 2 rfl) ?_
  refine zz_iconst hC (dk DX6_laysNow_0k 3 rfl) ?_
  refine zz_iald hC 3 1 rfl rfl (by omega) (dk DX6_laysNow_0k 4 rfl) ?_
  rw [hN.1 3 (by omega)]
  have hf1 := zSet_in hs 3 (by omega)
  refine zz_aload_n hC 0 (dk DX6_laysNow_0k 5 rfl) rfl rfl ?_
  refine zz_get hC F_X6_7 0 rfl rfl (dk DX6_laysNow_0k 6 rfl) ?_
  refine zz_iconst hC (dk DX6_laysNow_0k 7 rfl) ?_
  refine zz_iald hC 4 1 rfl rfl (by omega) (dk DX6_laysNow_0k 8 rfl) ?_
  rw [hN.1 4 (by omega)]
  have hf2 := zSet_in hs 4 (by omega)
  refine zz_callVv hC (wr := []) (c_X6_shuts l D m0 m1 m2 m3 m4 m5 m6 m7 m8 m9 m10 NW PA AS tb st bo sh f1 f2 pk sv len sp rf nu rk rt ra bm ha n w K T U S F L (S 3) (S 4) hN hg hs hw (by omega) (by omega)) G_X6_131 H_X6_shuts ⟨Nat.le_of_ble_eq_true rfl, Nat.le_of_ble_eq_true rfl⟩ rfl [0, 1, 2, 3, 4, 5, 6, 7, 8, 9, 10] [] rfl rfl ⟨rfl, rfl, by decide⟩ 0 6 ⟨rfl, rfl, rfl⟩ (As := [.int (zI (S 3)), .int (zI (S 4))]) (rest := []) (Nat.le_of_ble_eq_true rfl) rfl ⟨Nat.le_of_ble_eq_true rfl, Nat.le_of_ble_eq_true rfl⟩ (dk DX6_laysNow_0k 9 rfl) ⟨rfl, rfl⟩ (wb := fun u3 => [(m0, .inr (6, [.ref m1, .ref m2, .ref m3, .int (zI ((sv : Nat) : Int)), .int (zI rf), .ref m4, .int (zI ((len : Nat) : Int)), .int (zI ((sp : Nat) : Int)), .int (zI nu), .int (zI rk), .int (zI rt), .int (zI ra), .ref m5, .ref m6, .int (zI bm), .ref m7, .ref m8, .ref m9, .ref m10, .long (zL ha)])), (m1, iA D 771 NW), (m2, iA D 3084 PA), (m3, iA D 771 AS), (m4, iA D 150 tb), (m5, iA D 250 st), (m6, iA D 250 bo), (m7, iA D 250 u3), (m8, iA D 36 f1), (m9, iA D 36 f2), (m10, iA D 2778 pk)]) [0, 1, 2, 3, 4, 5, 6, 7, 8, 9, 10] rfl (fun _ => rfl) (fun u3 hu3 => ?_)
  refine zz_aload_n hC 0 (dk DX6_laysNow_0k 10 rfl) rfl rfl ?_
  refine zz_aload_n hC 0 (dk DX6_laysNow_0k 11 rfl) rfl rfl ?_
  refine zz_get hC F_X6_7 0 rfl rfl (dk DX6_laysNow_0k 12 rfl) ?_
  refine zz_iconst hC (dk DX6_laysNow_0k 13 rfl) ?_
  refine zz_iald hC 2 1 rfl rfl (by omega) (dk DX6_laysNow_0k 14 rfl) ?_
  rw [hN.1 2 (by omega)]
  have hf4 := zSet_in hs 2 (by omega)
  refine zz_aload_n hC 0 (dk DX6_laysNow_0k 15 rfl) rfl rfl ?_
  refine zz_get hC F_X6_7 0 rfl rfl (dk DX6_laysNow_0k 16 rfl) ?_
  refine zz_iconst hC (dk DX6_laysNow_0k 17 rfl) ?_
  refine zz_iald hC 5 1 rfl rfl (by omega) (dk DX6_laysNow_0k 18 rfl) ?_
  rw [hN.1 5 (by omega)]
  have hf5 := zSet_in hs 5 (by omega)
  refine zz_callVv hC (wr := []) (c_X6_lays l D m0 m1 m2 m3 m4 m5 m6 m7 m8 m9 m10 NW PA AS tb st bo u3 f1 f2 pk sv len sp rf nu rk rt ra bm ha n w K T U S F L (zGat n K T U (S 3) (S 4)) (S 2) (S 5) hN hg hs hw hu3 (by omega) (by omega)) G_X6_135 H_X6_lays ⟨Nat.le_of_ble_eq_true rfl, Nat.le_of_ble_eq_true rfl⟩ rfl [0, 1, 2, 3, 4, 5, 6, 7, 8, 9, 10] [] rfl rfl ⟨rfl, rfl, by decide⟩ 0 6 ⟨rfl, rfl, rfl⟩ (As := [.int (zI (S 2)), .int (zI (S 5))]) (rest := []) (Nat.le_of_ble_eq_true rfl) rfl ⟨Nat.le_of_ble_eq_true rfl, Nat.le_of_ble_eq_true rfl⟩ (dk DX6_laysNow_0k 19 rfl) ⟨rfl, rfl⟩ (wb := fun u6 => [(m0, .inr (6, [.ref m1, .ref m2, .ref m3, .int (zI ((sv : Nat) : Int)), .int (zI rf), .ref m4, .int (zI ((len : Nat) : Int)), .int (zI ((sp : Nat) : Int)), .int (zI nu), .int (zI rk), .int (zI rt), .int (zI ra), .ref m5, .ref m6, .int (zI bm), .ref m7, .ref m8, .ref m9, .ref m10, .long (zL ha)])), (m1, iA D 771 NW), (m2, iA D 3084 PA), (m3, iA D 771 AS), (m4, iA D 150 tb), (m5, iA D 250 u6), (m6, iA D 250 bo), (m7, iA D 250 u3), (m8, iA D 36 f1), (m9, iA D 36 f2), (m10, iA D 2778 pk)]) [0, 1, 2, 3, 4, 5, 6, 7, 8, 9, 10] rfl (fun _ => rfl) (fun u6 hu6 => ?_)
  refine zz_aload_n hC 0 (dk DX6_laysNow_0k 20 rfl) rfl rfl ?_
  refine zz_iconst hC (dk DX6_laysNow_0k 21 rfl) ?_
  refine zz_put hC F_X6_138 fc_X6 rfl (tyX6_ok 14 (by decide)) 0 (ws' := [(m0, .inr (6, [.ref m1, .ref m2, .ref m3, .int (zI ((sv : Nat) : Int)), .int (zI rf), .ref m4, .int (zI ((len : Nat) : Int)), .int (zI ((sp : Nat) : Int)), .int (zI nu), .int (zI rk), .int (zI rt), .int (zI ra), .ref m5, .ref m6, .int (zI 0), .ref m7, .ref m8, .ref m9, .ref m10, .long (zL ha)])), (m1, iA D 771 NW), (m2, iA D 3084 PA), (m3, iA D 771 AS), (m4, iA D 150 tb), (m5, iA D 250 u6), (m6, iA D 250 bo), (m7, iA D 250 u3), (m8, iA D 36 f1), (m9, iA D 36 f2), (m10, iA D 2778 pk)]) rfl rfl rfl (Nat.le_of_ble_eq_true rfl) rfl (dk DX6_laysNow_0k 22 rfl) ?_
  refine zz_iconst hC (dk DX6_laysNow_0k 23 rfl) ?_
  refine zz_istore_n hC (ls' := [(0, .ref m0), (1, .int (zI (-1)))]) [1, 0] (dk DX6_laysNow_0k 24 rfl) rfl (by decide) rfl ?_
  refine zz_iconst hC (dk DX6_laysNow_0k 25 rfl) ?_
  refine zz_istore_n hC (ls' := [(0, .ref m0), (1, .int (zI (-1))), (2, .int (zI 0))]) [1, 2, 0] (dk DX6_laysNow_0k 26 rfl) rfl (by decide) rfl ?_
  have LP41 : ∀ (fuel41 : Nat) (i : Nat) (b : Int) (c : Int) (bo1 : Nat → Int), (i ≤ n) → (b = zBn (zSN n K T U S F L w) T (S 7) i) → (zBg (zSN n K T U S F L w) T (S 7) i b c) → (∀ j, j < i → bo1 j = zBo (zSN n K T U S F L w) T (S 7) j) → (∀ j, j < n → u6 j = (zSN n K T U S F L w) j) → n - i < fuel41 → Z p l e ({ frames := 4, cells := 0, slots := 0, locals := 91 } : Room) s m args below meth cd A D Q 3 0 0 [(m0, .inr (6, [.ref m1, .ref m2, .ref m3, .int (zI ((sv : Nat) : Int)), .int (zI rf), .ref m4, .int (zI ((len : Nat) : Int)), .int (zI ((sp : Nat) : Int)), .int (zI nu), .int (zI rk), .int (zI rt), .int (zI ra), .ref m5, .ref m6, .int (zI b), .ref m7, .ref m8, .ref m9, .ref m10, .long (zL ha)])), (m1, iA D 771 NW), (m2, iA D 3084 PA), (m3, iA D 771 AS), (m4, iA D 150 tb), (m5, iA D 250 u6), (m6, iA D 250 bo1), (m7, iA D 250 u3), (m8, iA D 36 f1), (m9, iA D 36 f2), (m10, iA D 2778 pk)] [(0, .ref m0), (1, .int (zI c)), (2, .int (zI ((i : Nat) : Int)))] [] 41 := by
    intro fuel41
    induction fuel41 with
    | zero => intro i b c bo1 hi hb hbg hbo hu2 hfu; exact absurd hfu (Nat.not_lt_zero _)
    | succ fuel41 ih41 =>
      intro i b c bo1 hi hb hbg hbo hu2 hfu41
      have hcr : -1 ≤ c ∧ c ≤ 250 := by rcases hbg with ⟨h1, h2⟩ | ⟨j, h1, h2, h3⟩ <;> omega
      have hbr := zBn_in (st := (zSN n K T U S F L w)) (T := T) (gap := S 7) (n := i)
      rw [← hb] at hbr
      refine zz_iload_n hC 2 (dk DX6_laysNow_0k 27 rfl) rfl rfl ?_
      refine zz_aload_n hC 0 (dk DX6_laysNow_0k 28 rfl) rfl rfl ?_
      refine zz_get hC F_X6_7 0 rfl rfl (dk DX6_laysNow_0k 29 rfl) ?_
      refine zz_bipush hC (dk DX6_laysNow_0k 30 rfl) (by decide) ?_
      refine zz_iald hC 20 1 rfl rfl (by omega) (dk DX6_laysNow_0k 31 rfl) ?_
      rw [hN.2.2.2.1]
      refine zz_icmp_ge hC 128 (dk DX6_laysNow_0k 32 rfl) (by decide) ⟨⟨by omega, by omega⟩, ⟨by omega, by omega⟩⟩ (fun c7 => ?_) (fun c7 => ?_)
      · have hin : i = n := by omega
        rw [hin] at hb
        subst hb
        exact zz_ret hC hQ hr (u6, bo1, u3) (fun j hj => ⟨hu2 j hj, hbo j (by omega)⟩) [0, 1, 2, 3, 4, 5, 6, 7, 8, 9, 10] rfl rfl ⟨Nat.le_refl _, Nat.le_refl _⟩ (dk DX6_laysNow_1k 18 rfl)
      · refine zz_aload_n hC 0 (dk DX6_laysNow_0k 33 rfl) rfl rfl ?_
        refine zz_get hC F_X6_25 0 rfl rfl (dk DX6_laysNow_0k 34 rfl) ?_
        refine zz_iload_n hC 2 (dk DX6_laysNow_0k 35 rfl) rfl rfl ?_
        refine zz_iconst hC (dk DX6_laysNow_0k 36 rfl) ?_
        refine zz_iast hC (ws' := [(m0, .inr (6, [.ref m1, .ref m2, .ref m3, .int (zI ((sv : Nat) : Int)), .int (zI rf), .ref m4, .int (zI ((len : Nat) : Int)), .int (zI ((sp : Nat) : Int)), .int (zI nu), .int (zI rk), .int (zI rt), .int (zI ra), .ref m5, .ref m6, .int (zI b), .ref m7, .ref m8, .ref m9, .ref m10, .long (zL ha)])), (m1, iA D 771 NW), (m2, iA D 3084 PA), (m3, iA D 771 AS), (m4, iA D 150 tb), (m5, iA D 250 u6), (m6, iA D 250 (zU bo1 i (-1))), (m7, iA D 250 u3), (m8, iA D 36 f1), (m9, iA D 36 f2), (m10, iA D 2778 pk)]) i 6 rfl rfl (by omega) rfl (dk DX6_laysNow_0k 37 rfl) ?_
        refine zz_aload_n hC 0 (dk DX6_laysNow_0k 38 rfl) rfl rfl ?_
        refine zz_get hC F_X6_22 0 rfl rfl (dk DX6_laysNow_0k 39 rfl) ?_
        refine zz_iload_n hC 2 (dk DX6_laysNow_0k 40 rfl) rfl rfl ?_
        refine zz_iald hC i 5 rfl rfl (by omega) (dk DX6_laysNow_0k 41 rfl) ?_
        have hsr := zSN_in (T := T) (U := U) (S := S) (F := F) (L := L) (w := w) hK (show i < n by omega)
        rw [← hu2 i (by omega)] at hsr
        refine zz_if_ne hC 122 (dk DX6_laysNow_0k 42 rfl) (by decide) ⟨by omega, by omega⟩ (fun c8 => ?_) (fun c8 => ?_)
        · have hsi := hu2 i (by omega)
          have hz : ¬ (zSN n K T U S F L w) i = 0 := fun h => absurd (hsi.trans h) (by omega)
          refine zz_iinc hC ((i + 1 : Nat) : Int) (ls' := [(0, .ref m0), (1, .int (zI c)), (2, .int (zI ((i + 1 : Nat) : Int)))]) 2 [1, 2, 0] (dk DX6_laysNow_1k 16 rfl) rfl (by omega) (by decide) rfl ?_
          refine zz_goto hC 41 (dk DX6_laysNow_1k 17 rfl) (by decide) ?_
          refine zz_ls [0, 1, 2] rfl ?_
          exact ih41 (i + 1) b c (zU bo1 i (-1)) (by omega) (zBn_n hb hz) (bg_k hbg hz) (fill_s (zBo_n hz) hbo) hu2 (by omega)
        · refine zz_aload_n hC 0 (dk DX6_laysNow_0k 43 rfl) rfl rfl ?_
          refine zz_dup hC (dk DX6_laysNow_0k 44 rfl) rfl ?_
          refine zz_get hC F_X6_138 0 rfl rfl (dk DX6_laysNow_0k 45 rfl) ?_
          refine zz_iload_n hC 1 (dk DX6_laysNow_0k 46 rfl) rfl rfl ?_
          refine zz_iconst hC (dk DX6_laysNow_0k 47 rfl) ?_
          refine zz_icmp_eq hC 99 (dk DX6_laysNow_0k 48 rfl) (by decide) ⟨⟨by omega, by omega⟩, (by decide)⟩ (fun c9 => ?_) (fun c9 => ?_)
          · refine zz_iconst hC (dk DX6_laysNow_1k 1 rfl) ?_
            refine zz_goto hC 104 (dk DX6_laysNow_1k 2 rfl) (by decide) ?_
            refine zz_iadd hC (dk DX6_laysNow_1k 4 rfl) ?_
            refine zz_put hC F_X6_138 fc_X6 rfl (tyX6_ok 14 (by decide)) 0 (ws' := [(m0, .inr (6, [.ref m1, .ref m2, .ref m3, .int (zI ((sv : Nat) : Int)), .int (zI rf), .ref m4, .int (zI ((len : Nat) : Int)), .int (zI ((sp : Nat) : Int)), .int (zI nu), .int (zI rk), .int (zI rt), .int (zI ra), .ref m5, .ref m6, .int (zI (b + 1)), .ref m7, .ref m8, .ref m9, .ref m10, .long (zL ha)])), (m1, iA D 771 NW), (m2, iA D 3084 PA), (m3, iA D 771 AS), (m4, iA D 150 tb), (m5, iA D 250 u6), (m6, iA D 250 (zU bo1 i (-1))), (m7, iA D 250 u3), (m8, iA D 36 f1), (m9, iA D 36 f2), (m10, iA D 2778 pk)]) rfl rfl rfl (Nat.le_of_ble_eq_true rfl) rfl (dk DX6_laysNow_1k 5 rfl) ?_
            refine zz_aload_n hC 0 (dk DX6_laysNow_1k 6 rfl) rfl rfl ?_
            refine zz_get hC F_X6_25 0 rfl rfl (dk DX6_laysNow_1k 7 rfl) ?_
            refine zz_iload_n hC 2 (dk DX6_laysNow_1k 8 rfl) rfl rfl ?_
            refine zz_aload_n hC 0 (dk DX6_laysNow_1k 9 rfl) rfl rfl ?_
            refine zz_get hC F_X6_138 0 rfl rfl (dk DX6_laysNow_1k 10 rfl) ?_
            refine zz_iconst hC (dk DX6_laysNow_1k 11 rfl) ?_
            refine zz_isub hC (dk DX6_laysNow_1k 12 rfl) ?_
            refine zz_iast hC (ws' := [(m0, .inr (6, [.ref m1, .ref m2, .ref m3, .int (zI ((sv : Nat) : Int)), .int (zI rf), .ref m4, .int (zI ((len : Nat) : Int)), .int (zI ((sp : Nat) : Int)), .int (zI nu), .int (zI rk), .int (zI rt), .int (zI ra), .ref m5, .ref m6, .int (zI (b + 1)), .ref m7, .ref m8, .ref m9, .ref m10, .long (zL ha)])), (m1, iA D 771 NW), (m2, iA D 3084 PA), (m3, iA D 771 AS), (m4, iA D 150 tb), (m5, iA D 250 u6), (m6, iA D 250 (zU (zU bo1 i (-1)) i ((b + 1) - 1))), (m7, iA D 250 u3), (m8, iA D 36 f1), (m9, iA D 36 f2), (m10, iA D 2778 pk)]) i 6 rfl rfl (by omega) rfl (dk DX6_laysNow_1k 13 rfl) ?_
            refine zz_iload_n hC 2 (dk DX6_laysNow_1k 14 rfl) rfl rfl ?_
            refine zz_istore_n hC (ls' := [(0, .ref m0), (1, .int (zI ((i : Nat) : Int))), (2, .int (zI ((i : Nat) : Int)))]) [1, 0, 2] (dk DX6_laysNow_1k 15 rfl) rfl (by decide) rfl ?_
            have hsi := hu2 i (by omega)
            have hz : (zSN n K T U S F L w) i = 0 := hsi.symm.trans (by omega)
            refine zz_iinc hC ((i + 1 : Nat) : Int) (ls' := [(0, .ref m0), (1, .int (zI ((i : Nat) : Int))), (2, .int (zI ((i + 1 : Nat) : Int)))]) 2 [1, 2, 0] (dk DX6_laysNow_1k 16 rfl) rfl (by omega) (by decide) rfl ?_
            refine zz_goto hC 41 (dk DX6_laysNow_1k 17 rfl) (by decide) ?_
            refine zz_ls [0, 1, 2] rfl ?_
            exact ih41 (i + 1) (b + 1) ((i : Nat) : Int) (zU (zU bo1 i (-1)) i ((b + 1) - 1)) (by omega) (zBn_s hb hz (Or.inl (by rcases hbg with ⟨h1, h2⟩ | ⟨j, h1, h2, h3⟩ <;> omega))) (bg_s hz (by omega)) (fill_t (zBo_y (zBn_s hb hz (Or.inl (by rcases hbg with ⟨h1, h2⟩ | ⟨j, h1, h2, h3⟩ <;> omega))) hz) hbo) hu2 (by omega)
          · refine zz_aload_n hC 0 (dk DX6_laysNow_0k 49 rfl) rfl rfl ?_
            refine zz_iload_n hC 2 (dk DX6_laysNow_0k 50 rfl) rfl rfl ?_
            refine zz_pureVi hC (c_X6_time l D m0 m1 m2 m3 m4 m5 m6 m7 m8 m9 m10 NW PA AS tb u6 (zU bo1 i (-1)) u3 f1 f2 pk sv len sp rf nu rk rt ra b ha n w K T U S F L i hN hg (by omega)) G_X6_69 H_X6_time ⟨Nat.le_of_ble_eq_true rfl, Nat.le_of_ble_eq_true rfl⟩ rfl [0, 1, 2, 3, 4, 5, 6, 7, 8, 9, 10] rfl rfl 0 6 ⟨rfl, rfl, rfl⟩ (As := [.int (zI ((i : Nat) : Int))]) (rest := [.int (zI b), .ref m0]) (Nat.le_of_ble_eq_true rfl) rfl ⟨Nat.le_of_ble_eq_true rfl, Nat.le_of_ble_eq_true rfl⟩ (dk DX6_laysNow_0k 51 rfl) ⟨rfl, rfl⟩ ?_
            have hf10 := hT i (by omega)
            obtain ⟨j, hj, rfl, hlj, hb1⟩ := hbg.resolve_left (fun h => absurd h.1 (by omega))
            refine zz_aload_n hC 0 (dk DX6_laysNow_0k 52 rfl) rfl rfl ?_
            refine zz_iload_n hC 1 (dk DX6_laysNow_0k 53 rfl) rfl rfl ?_
            refine zz_pureVi hC (c_X6_time l D m0 m1 m2 m3 m4 m5 m6 m7 m8 m9 m10 NW PA AS tb u6 (zU bo1 i (-1)) u3 f1 f2 pk sv len sp rf nu rk rt ra b ha n w K T U S F L j hN hg (by omega)) G_X6_69 H_X6_time ⟨Nat.le_of_ble_eq_true rfl, Nat.le_of_ble_eq_true rfl⟩ rfl [0, 1, 2, 3, 4, 5, 6, 7, 8, 9, 10] rfl rfl 0 6 ⟨rfl, rfl, rfl⟩ (As := [.int (zI ((j : Nat) : Int))]) (rest := [.int (zI (T i)), .int (zI b), .ref m0]) (Nat.le_of_ble_eq_true rfl) rfl ⟨Nat.le_of_ble_eq_true rfl, Nat.le_of_ble_eq_true rfl⟩ (dk DX6_laysNow_0k 54 rfl) ⟨rfl, rfl⟩ ?_
            have hf11 := hT j (by omega)
            refine zz_isub hC (dk DX6_laysNow_0k 55 rfl) ?_
            refine zz_aload_n hC 0 (dk DX6_laysNow_0k 56 rfl) rfl rfl ?_
            refine zz_get hC F_X6_7 0 rfl rfl (dk DX6_laysNow_0k 57 rfl) ?_
            refine zz_bipush hC (dk DX6_laysNow_0k 58 rfl) (by decide) ?_
            refine zz_iald hC 7 1 rfl rfl (by omega) (dk DX6_laysNow_0k 59 rfl) ?_
            rw [hN.1 7 (by omega)]
            have hf12 := zSet_in hs 7 (by omega)
            refine zz_icmp_le hC 103 (dk DX6_laysNow_1k 0 rfl) (by decide) ⟨⟨by omega, by omega⟩, ⟨by omega, by omega⟩⟩ (fun c13 => ?_) (fun c13 => ?_)
            · refine zz_iconst hC (dk DX6_laysNow_1k 3 rfl) ?_
              refine zz_iadd hC (dk DX6_laysNow_1k 4 rfl) ?_
              refine zz_put hC F_X6_138 fc_X6 rfl (tyX6_ok 14 (by decide)) 0 (ws' := [(m0, .inr (6, [.ref m1, .ref m2, .ref m3, .int (zI ((sv : Nat) : Int)), .int (zI rf), .ref m4, .int (zI ((len : Nat) : Int)), .int (zI ((sp : Nat) : Int)), .int (zI nu), .int (zI rk), .int (zI rt), .int (zI ra), .ref m5, .ref m6, .int (zI (b + 0)), .ref m7, .ref m8, .ref m9, .ref m10, .long (zL ha)])), (m1, iA D 771 NW), (m2, iA D 3084 PA), (m3, iA D 771 AS), (m4, iA D 150 tb), (m5, iA D 250 u6), (m6, iA D 250 (zU bo1 i (-1))), (m7, iA D 250 u3), (m8, iA D 36 f1), (m9, iA D 36 f2), (m10, iA D 2778 pk)]) rfl rfl rfl (Nat.le_of_ble_eq_true rfl) rfl (dk DX6_laysNow_1k 5 rfl) ?_
              refine zz_aload_n hC 0 (dk DX6_laysNow_1k 6 rfl) rfl rfl ?_
              refine zz_get hC F_X6_25 0 rfl rfl (dk DX6_laysNow_1k 7 rfl) ?_
              refine zz_iload_n hC 2 (dk DX6_laysNow_1k 8 rfl) rfl rfl ?_
              refine zz_aload_n hC 0 (dk DX6_laysNow_1k 9 rfl) rfl rfl ?_
              refine zz_get hC F_X6_138 0 rfl rfl (dk DX6_laysNow_1k 10 rfl) ?_
              refine zz_iconst hC (dk DX6_laysNow_1k 11 rfl) ?_
              refine zz_isub hC (dk DX6_laysNow_1k 12 rfl) ?_
              refine zz_iast hC (ws' := [(m0, .inr (6, [.ref m1, .ref m2, .ref m3, .int (zI ((sv : Nat) : Int)), .int (zI rf), .ref m4, .int (zI ((len : Nat) : Int)), .int (zI ((sp : Nat) : Int)), .int (zI nu), .int (zI rk), .int (zI rt), .int (zI ra), .ref m5, .ref m6, .int (zI (b + 0)), .ref m7, .ref m8, .ref m9, .ref m10, .long (zL ha)])), (m1, iA D 771 NW), (m2, iA D 3084 PA), (m3, iA D 771 AS), (m4, iA D 150 tb), (m5, iA D 250 u6), (m6, iA D 250 (zU (zU bo1 i (-1)) i ((b + 0) - 1))), (m7, iA D 250 u3), (m8, iA D 36 f1), (m9, iA D 36 f2), (m10, iA D 2778 pk)]) i 6 rfl rfl (by omega) rfl (dk DX6_laysNow_1k 13 rfl) ?_
              refine zz_iload_n hC 2 (dk DX6_laysNow_1k 14 rfl) rfl rfl ?_
              refine zz_istore_n hC (ls' := [(0, .ref m0), (1, .int (zI ((i : Nat) : Int))), (2, .int (zI ((i : Nat) : Int)))]) [1, 0, 2] (dk DX6_laysNow_1k 15 rfl) rfl (by decide) rfl ?_
              have hsi := hu2 i (by omega)
              have hz : (zSN n K T U S F L w) i = 0 := hsi.symm.trans (by omega)
              refine zz_iinc hC ((i + 1 : Nat) : Int) (ls' := [(0, .ref m0), (1, .int (zI ((i : Nat) : Int))), (2, .int (zI ((i + 1 : Nat) : Int)))]) 2 [1, 2, 0] (dk DX6_laysNow_1k 16 rfl) rfl (by omega) (by decide) rfl ?_
              refine zz_goto hC 41 (dk DX6_laysNow_1k 17 rfl) (by decide) ?_
              refine zz_ls [0, 1, 2] rfl ?_
              exact ih41 (i + 1) (b + 0) ((i : Nat) : Int) (zU (zU bo1 i (-1)) i ((b + 0) - 1)) (by omega) ((by omega : b + 0 = b).trans (zBn_k hb hz (by omega) (by omega))) (bg_s hz (by omega)) (fill_t (zBo_y ((by omega : b + 0 = b).trans (zBn_k hb hz (by omega) (by omega))) hz) hbo) hu2 (by omega)
            · refine zz_iconst hC (dk DX6_laysNow_1k 1 rfl) ?_
              refine zz_goto hC 104 (dk DX6_laysNow_1k 2 rfl) (by decide) ?_
              refine zz_iadd hC (dk DX6_laysNow_1k 4 rfl) ?_
              refine zz_put hC F_X6_138 fc_X6 rfl (tyX6_ok 14 (by decide)) 0 (ws' := [(m0, .inr (6, [.ref m1, .ref m2, .ref m3, .int (zI ((sv : Nat) : Int)), .int (zI rf), .ref m4, .int (zI ((len : Nat) : Int)), .int (zI ((sp : Nat) : Int)), .int (zI nu), .int (zI rk), .int (zI rt), .int (zI ra), .ref m5, .ref m6, .int (zI (b + 1)), .ref m7, .ref m8, .ref m9, .ref m10, .long (zL ha)])), (m1, iA D 771 NW), (m2, iA D 3084 PA), (m3, iA D 771 AS), (m4, iA D 150 tb), (m5, iA D 250 u6), (m6, iA D 250 (zU bo1 i (-1))), (m7, iA D 250 u3), (m8, iA D 36 f1), (m9, iA D 36 f2), (m10, iA D 2778 pk)]) rfl rfl rfl (Nat.le_of_ble_eq_true rfl) rfl (dk DX6_laysNow_1k 5 rfl) ?_
              refine zz_aload_n hC 0 (dk DX6_laysNow_1k 6 rfl) rfl rfl ?_
              refine zz_get hC F_X6_25 0 rfl rfl (dk DX6_laysNow_1k 7 rfl) ?_
              refine zz_iload_n hC 2 (dk DX6_laysNow_1k 8 rfl) rfl rfl ?_
              refine zz_aload_n hC 0 (dk DX6_laysNow_1k 9 rfl) rfl rfl ?_
              refine zz_get hC F_X6_138 0 rfl rfl (dk DX6_laysNow_1k 10 rfl) ?_
              refine zz_iconst hC (dk DX6_laysNow_1k 11 rfl) ?_
              refine zz_isub hC (dk DX6_laysNow_1k 12 rfl) ?_
              refine zz_iast hC (ws' := [(m0, .inr (6, [.ref m1, .ref m2, .ref m3, .int (zI ((sv : Nat) : Int)), .int (zI rf), .ref m4, .int (zI ((len : Nat) : Int)), .int (zI ((sp : Nat) : Int)), .int (zI nu), .int (zI rk), .int (zI rt), .int (zI ra), .ref m5, .ref m6, .int (zI (b + 1)), .ref m7, .ref m8, .ref m9, .ref m10, .long (zL ha)])), (m1, iA D 771 NW), (m2, iA D 3084 PA), (m3, iA D 771 AS), (m4, iA D 150 tb), (m5, iA D 250 u6), (m6, iA D 250 (zU (zU bo1 i (-1)) i ((b + 1) - 1))), (m7, iA D 250 u3), (m8, iA D 36 f1), (m9, iA D 36 f2), (m10, iA D 2778 pk)]) i 6 rfl rfl (by omega) rfl (dk DX6_laysNow_1k 13 rfl) ?_
              refine zz_iload_n hC 2 (dk DX6_laysNow_1k 14 rfl) rfl rfl ?_
              refine zz_istore_n hC (ls' := [(0, .ref m0), (1, .int (zI ((i : Nat) : Int))), (2, .int (zI ((i : Nat) : Int)))]) [1, 0, 2] (dk DX6_laysNow_1k 15 rfl) rfl (by decide) rfl ?_
              have hsi := hu2 i (by omega)
              have hz : (zSN n K T U S F L w) i = 0 := hsi.symm.trans (by omega)
              refine zz_iinc hC ((i + 1 : Nat) : Int) (ls' := [(0, .ref m0), (1, .int (zI ((i : Nat) : Int))), (2, .int (zI ((i + 1 : Nat) : Int)))]) 2 [1, 2, 0] (dk DX6_laysNow_1k 16 rfl) rfl (by omega) (by decide) rfl ?_
              refine zz_goto hC 41 (dk DX6_laysNow_1k 17 rfl) (by decide) ?_
              refine zz_ls [0, 1, 2] rfl ?_
              exact ih41 (i + 1) (b + 1) ((i : Nat) : Int) (zU (zU bo1 i (-1)) i ((b + 1) - 1)) (by omega) (zBn_s hb hz (Or.inr (by omega))) (bg_s hz (by omega)) (fill_t (zBo_y (zBn_s hb hz (Or.inr (by omega))) hz) hbo) hu2 (by omega)
  refine zz_ls [0, 1, 2] rfl ?_
  exact LP41 _ 0 0 (-1) bo (by omega) rfl (Or.inl ⟨rfl, rfl⟩) (fun j hj => absurd hj (by omega)) hu6 (Nat.lt_succ_self _)
set_option maxHeartbeats 4000000 in
set_option maxRecDepth 100000 in
theorem c_X6_manyOf (l : Launch) (D : zG) (m0 : Nat) (m1 : Nat) (m2 : Nat) (m3 : Nat) (m4 : Nat) (m5 : Nat) (m6 : Nat) (m7 : Nat) (m8 : Nat) (m9 : Nat) (m10 : Nat) (NW : Nat → Int) (PA : Nat → Int) (AS : Nat → Int) (tb : Nat → Int) (st : Nat → Int) (bo : Nat → Int) (sh : Nat → Int) (f1 : Nat → Int) (f2 : Nat → Int) (pk : Nat → Int) (sv : Nat) (len : Nat) (sp : Nat) (rf : Int) (nu : Int) (rk : Int) (rt : Int) (ra : Int) (bm : Int) (ha : Int) (n : Nat) (w : Nat) (K : Nat → Int) (T : Nat → Int) (U : Nat → Int) (S : Nat → Int) (F : Nat → Int) (L : Nat → Int) (x : Int) (hN : zRow NW n K T U S F L w) (hg : zLog n K T U) (hst6 : ∀ j, j < n → 0 ≤ st j ∧ st j ≤ 6) (hx6 : 0 ≤ x ∧ x ≤ 6) : CI (S := Unit) l yX6_manyOf cX6_manyOf 4 ((some .int)) ({ frames := 0, cells := 0, slots := 0, locals := 0 } : Room) D [.ref m0, .int (zI x)] [(m0, .inr (6, [.ref m1, .ref m2, .ref m3, .int (zI ((sv : Nat) : Int)), .int (zI rf), .ref m4, .int (zI ((len : Nat) : Int)), .int (zI ((sp : Nat) : Int)), .int (zI nu), .int (zI rk), .int (zI rt), .int (zI ra), .ref m5, .ref m6, .int (zI bm), .ref m7, .ref m8, .ref m9, .ref m10, .long (zL ha)])), (m1, iA D 771 NW), (m2, iA D 3084 PA), (m3, iA D 771 AS), (m4, iA D 150 tb), (m5, iA D 250 st), (m6, iA D 250 bo), (m7, iA D 250 sh), (m8, iA D 36 f1), (m9, iA D 36 f2), (m10, iA D 2778 pk)] (fun _ => True) (fun _ => (zCt (fun a => decide (st a = x)) n)) (fun _ => [(m0, .inr (6, [.ref m1, .ref m2, .ref m3, .int (zI ((sv : Nat) : Int)), .int (zI rf), .ref m4, .int (zI ((len : Nat) : Int)), .int (zI ((sp : Nat) : Int)), .int (zI nu), .int (zI rk), .int (zI rt), .int (zI ra), .ref m5, .ref m6, .int (zI bm), .ref m7, .ref m8, .ref m9, .ref m10, .long (zL ha)])), (m1, iA D 771 NW), (m2, iA D 3084 PA), (m3, iA D 771 AS), (m4, iA D 150 tb), (m5, iA D 250 st), (m6, iA D 250 bo), (m7, iA D 250 sh), (m8, iA D 36 f1), (m9, iA D 36 f2), (m10, iA D 2778 pk)]) := by
  refine CI_of (by decide) (Nat.le_of_ble_eq_true rfl) ?_
  intro p e s m args below meth cd A Q hQ hC hr hnm
  have hC : ZC p s m args meth cd A D 4 cX6_manyOf RX6 := hC
  have hg0 := hg
  obtain ⟨hn, hK, hT, hU, hM⟩ := hg0
  show Z p l e ({ frames := 0, cells := 0, slots := 0, locals := 0 } : Room) s m args below meth cd A D Q 4 0 0 [(m0, .inr (6, [.ref m1, .ref m2, .ref m3, .int (zI ((sv : Nat) : Int)), .int (zI rf), .ref m4, .int (zI ((len : Nat) : Int)), .int (zI ((sp : Nat) : Int)), .int (zI nu), .int (zI rk), .int (zI rt), .int (zI ra), .ref m5, .ref m6, .int (zI bm), .ref m7, .ref m8, .ref m9, .ref m10, .long (zL ha)])), (m1, iA D 771 NW), (m2, iA D 3084 PA), (m3, iA D 771 AS), (m4, iA D 150 tb), (m5, iA D 250 st), (m6, iA D 250 bo), (m7, iA D 250 sh), (m8, iA D 36 f1), (m9, iA D 36 f2), (m10, iA D 2778 pk)] [(0, .ref m0), (1, .int (zI x))] [] 0
  refine zz_iconst hC (dk DX6_manyOf_0k 0 rfl) ?_
  refine zz_istore_n hC (ls' := [(0, .ref m0), (1, .int (zI x)), (2, .int (zI 0))]) [1, 2, 0] (dk DX6_manyOf_0k 1 rfl) rfl (by decide) rfl ?_
  refine zz_iconst hC (dk DX6_manyOf_0k 2 rfl) ?_
  refine zz_istore_n hC (ls' := [(0, .ref m0), (1, .int (zI x)), (2, .int (zI 0)), (3, .int (zI 0))]) [1, 2, 3, 0] (dk DX6_manyOf_0k 3 rfl) rfl (by decide) rfl ?_
  have LP4 : ∀ (fuel4 : Nat) (i : Nat) (c : Int), (i ≤ n) → (c = zCt (fun a => decide (st a = x)) i) → (0 ≤ c ∧ c ≤ i) → n - i < fuel4 → Z p l e ({ frames := 0, cells := 0, slots := 0, locals := 0 } : Room) s m args below meth cd A D Q 4 0 0 [(m0, .inr (6, [.ref m1, .ref m2, .ref m3, .int (zI ((sv : Nat) : Int)), .int (zI rf), .ref m4, .int (zI ((len : Nat) : Int)), .int (zI ((sp : Nat) : Int)), .int (zI nu), .int (zI rk), .int (zI rt), .int (zI ra), .ref m5, .ref m6, .int (zI bm), .ref m7, .ref m8, .ref m9, .ref m10, .long (zL ha)])), (m1, iA D 771 NW), (m2, iA D 3084 PA), (m3, iA D 771 AS), (m4, iA D 150 tb), (m5, iA D 250 st), (m6, iA D 250 bo), (m7, iA D 250 sh), (m8, iA D 36 f1), (m9, iA D 36 f2), (m10, iA D 2778 pk)] [(0, .ref m0), (1, .int (zI x)), (2, .int (zI c)), (3, .int (zI ((i : Nat) : Int)))] [] 4 := by
    intro fuel4
    induction fuel4 with
    | zero => intro i c hi hc hcr hfu; exact absurd hfu (Nat.not_lt_zero _)
    | succ fuel4 ih4 =>
      intro i c hi hc hcr hfu4
      refine zz_iload_n hC 3 (dk DX6_manyOf_0k 4 rfl) rfl rfl ?_
      refine zz_aload_n hC 0 (dk DX6_manyOf_0k 5 rfl) rfl rfl ?_
      refine zz_get hC F_X6_7 0 rfl rfl (dk DX6_manyOf_0k 6 rfl) ?_
      refine zz_bipush hC (dk DX6_manyOf_0k 7 rfl) (by decide) ?_
      refine zz_iald hC 20 1 rfl rfl (by omega) (dk DX6_manyOf_0k 8 rfl) ?_
      rw [hN.2.2.2.1]
      refine zz_icmp_ge hC 39 (dk DX6_manyOf_0k 9 rfl) (by decide) ⟨⟨by omega, by omega⟩, ⟨by omega, by omega⟩⟩ (fun c1 => ?_) (fun c1 => ?_)
      · refine zz_iload_n hC 2 (dk DX6_manyOf_0k 24 rfl) rfl rfl ?_
        exact zz_iret hC hQ hr () trivial (by have e : n = i := (by omega); rw [e]; exact hc) [0, 1, 2, 3, 4, 5, 6, 7, 8, 9, 10] rfl rfl ⟨Nat.le_refl _, Nat.le_refl _⟩ (dk DX6_manyOf_0k 25 rfl)
      · refine zz_iload_n hC 2 (dk DX6_manyOf_0k 10 rfl) rfl rfl ?_
        refine zz_aload_n hC 0 (dk DX6_manyOf_0k 11 rfl) rfl rfl ?_
        refine zz_get hC F_X6_22 0 rfl rfl (dk DX6_manyOf_0k 12 rfl) ?_
        refine zz_iload_n hC 3 (dk DX6_manyOf_0k 13 rfl) rfl rfl ?_
        refine zz_iald hC i 5 rfl rfl (by omega) (dk DX6_manyOf_0k 14 rfl) ?_
        have hf2 := hst6 i (by omega)
        refine zz_iload_n hC 1 (dk DX6_manyOf_0k 15 rfl) rfl rfl ?_
        refine zz_icmp_ne hC 30 (dk DX6_manyOf_0k 16 rfl) (by decide) ⟨⟨by omega, by omega⟩, ⟨by omega, by omega⟩⟩ (fun c3 => ?_) (fun c3 => ?_)
        · refine zz_iconst hC (dk DX6_manyOf_0k 19 rfl) ?_
          refine zz_iadd hC (dk DX6_manyOf_0k 20 rfl) ?_
          refine zz_istore_n hC (ls' := [(0, .ref m0), (1, .int (zI x)), (2, .int (zI (c + 0))), (3, .int (zI ((i : Nat) : Int)))]) [1, 2, 0, 3] (dk DX6_manyOf_0k 21 rfl) rfl (by decide) rfl ?_
          refine zz_iinc hC ((i + 1 : Nat) : Int) (ls' := [(0, .ref m0), (1, .int (zI x)), (2, .int (zI (c + 0))), (3, .int (zI ((i + 1 : Nat) : Int)))]) 3 [1, 2, 3, 0] (dk DX6_manyOf_0k 22 rfl) rfl (by omega) (by decide) rfl ?_
          refine zz_goto hC 4 (dk DX6_manyOf_0k 23 rfl) (by decide) ?_
          refine zz_ls [0, 1, 2, 3] rfl ?_
          exact ih4 (i + 1) (c + 0) (by omega) ((by omega : c + 0 = c).trans (zCt_k hc (by rw [decide_eq_true_eq]; omega))) (by omega) (by omega)
        · refine zz_iconst hC (dk DX6_manyOf_0k 17 rfl) ?_
          refine zz_goto hC 31 (dk DX6_manyOf_0k 18 rfl) (by decide) ?_
          refine zz_iadd hC (dk DX6_manyOf_0k 20 rfl) ?_
          refine zz_istore_n hC (ls' := [(0, .ref m0), (1, .int (zI x)), (2, .int (zI (c + 1))), (3, .int (zI ((i : Nat) : Int)))]) [1, 2, 0, 3] (dk DX6_manyOf_0k 21 rfl) rfl (by decide) rfl ?_
          refine zz_iinc hC ((i + 1 : Nat) : Int) (ls' := [(0, .ref m0), (1, .int (zI x)), (2, .int (zI (c + 1))), (3, .int (zI ((i + 1 : Nat) : Int)))]) 3 [1, 2, 3, 0] (dk DX6_manyOf_0k 22 rfl) rfl (by omega) (by decide) rfl ?_
          refine zz_goto hC 4 (dk DX6_manyOf_0k 23 rfl) (by decide) ?_
          refine zz_ls [0, 1, 2, 3] rfl ?_
          exact ih4 (i + 1) (c + 1) (by omega) (zCt_s hc (decide_eq_true (by omega))) (by omega) (by omega)
  refine zz_ls [0, 1, 2, 3] rfl ?_
  exact LP4 _ 0 0 (by omega) rfl (by omega) (Nat.lt_succ_self _)
set_option maxHeartbeats 4000000 in
set_option maxRecDepth 100000 in
theorem c_X6_charge (l : Launch) (D : zG) (m0 : Nat) (m1 : Nat) (m2 : Nat) (m3 : Nat) (m4 : Nat) (m5 : Nat) (m6 : Nat) (m7 : Nat) (m8 : Nat) (m9 : Nat) (m10 : Nat) (NW : Nat → Int) (PA : Nat → Int) (AS : Nat → Int) (tb : Nat → Int) (st : Nat → Int) (bo : Nat → Int) (sh : Nat → Int) (f1 : Nat → Int) (f2 : Nat → Int) (pk : Nat → Int) (sv : Nat) (len : Nat) (sp : Nat) (rf : Int) (nu : Int) (rk : Int) (rt : Int) (ra : Int) (bm : Int) (ha : Int) (n : Nat) (w : Nat) (K : Nat → Int) (T : Nat → Int) (U : Nat → Int) (S : Nat → Int) (F : Nat → Int) (L : Nat → Int) (k : Nat) (hN : zRow NW n K T U S F L w) (hg : zLog n K T U) (hs : zSet S) (hk : k < n) : CI (S := Unit) l yX6_charge cX6_charge 5 ((some .int)) ({ frames := 1, cells := 0, slots := 0, locals := 21 } : Room) D [.ref m0, .int (zI ((k : Nat) : Int))] [(m0, .inr (6, [.ref m1, .ref m2, .ref m3, .int (zI ((sv : Nat) : Int)), .int (zI rf), .ref m4, .int (zI ((len : Nat) : Int)), .int (zI ((sp : Nat) : Int)), .int (zI nu), .int (zI rk), .int (zI rt), .int (zI ra), .ref m5, .ref m6, .int (zI bm), .ref m7, .ref m8, .ref m9, .ref m10, .long (zL ha)])), (m1, iA D 771 NW), (m2, iA D 3084 PA), (m3, iA D 771 AS), (m4, iA D 150 tb), (m5, iA D 250 st), (m6, iA D 250 bo), (m7, iA D 250 sh), (m8, iA D 36 f1), (m9, iA D 36 f2), (m10, iA D 2778 pk)] (fun _ => True) (fun _ => (zCh n K U S k)) (fun _ => [(m0, .inr (6, [.ref m1, .ref m2, .ref m3, .int (zI ((sv : Nat) : Int)), .int (zI rf), .ref m4, .int (zI ((len : Nat) : Int)), .int (zI ((sp : Nat) : Int)), .int (zI nu), .int (zI rk), .int (zI rt), .int (zI ra), .ref m5, .ref m6, .int (zI bm), .ref m7, .ref m8, .ref m9, .ref m10, .long (zL ha)])), (m1, iA D 771 NW), (m2, iA D 3084 PA), (m3, iA D 771 AS), (m4, iA D 150 tb), (m5, iA D 250 st), (m6, iA D 250 bo), (m7, iA D 250 sh), (m8, iA D 36 f1), (m9, iA D 36 f2), (m10, iA D 2778 pk)]) := by
  refine CI_of (by decide) (Nat.le_of_ble_eq_true rfl) ?_
  intro p e s m args below meth cd A Q hQ hC hr hnm
  have hC : ZC p s m args meth cd A D 5 cX6_charge RX6 := hC
  have hg0 := hg
  obtain ⟨hn, hK, hT, hU, hM⟩ := hg0
  have hs1 := hs.2.1
  show Z p l e ({ frames := 1, cells := 0, slots := 0, locals := 21 } : Room) s m args below meth cd A D Q 5 0 0 [(m0, .inr (6, [.ref m1, .ref m2, .ref m3, .int (zI ((sv : Nat) : Int)), .int (zI rf), .ref m4, .int (zI ((len : Nat) : Int)), .int (zI ((sp : Nat) : Int)), .int (zI nu), .int (zI rk), .int (zI rt), .int (zI ra), .ref m5, .ref m6, .int (zI bm), .ref m7, .ref m8, .ref m9, .ref m10, .long (zL ha)])), (m1, iA D 771 NW), (m2, iA D 3084 PA), (m3, iA D 771 AS), (m4, iA D 150 tb), (m5, iA D 250 st), (m6, iA D 250 bo), (m7, iA D 250 sh), (m8, iA D 36 f1), (m9, iA D 36 f2), (m10, iA D 2778 pk)] [(0, .ref m0), (1, .int (zI ((k : Nat) : Int)))] [] 0
  refine zz_iconst hC (dk DX6_charge_0k 0 rfl) ?_
  refine zz_istore_n hC (ls' := [(0, .ref m0), (1, .int (zI ((k : Nat) : Int))), (2, .int (zI 0))]) [1, 2, 0] (dk DX6_charge_0k 1 rfl) rfl (by decide) rfl ?_
  refine zz_iconst hC (dk DX6_charge_0k 2 rfl) ?_
  refine zz_istore_n hC (ls' := [(0, .ref m0), (1, .int (zI ((k : Nat) : Int))), (2, .int (zI 0)), (3, .int (zI 0))]) [1, 2, 3, 0] (dk DX6_charge_0k 3 rfl) rfl (by decide) rfl ?_
  refine zz_iconst hC (dk DX6_charge_0k 4 rfl) ?_
  refine zz_istore hC (ls' := [(0, .ref m0), (1, .int (zI ((k : Nat) : Int))), (2, .int (zI 0)), (3, .int (zI 0)), (4, .int (zI 0))]) [1, 2, 3, 4, 0] (dk DX6_charge_0k 5 rfl) (by decide) rfl ?_
  have LP7 : ∀ (fuel7 : Nat) (i : Nat) (x : Int) (y : Int), (i ≤ n) → (x = zNi K i) → (y = zSi K U i) → n - i < fuel7 → Z p l e ({ frames := 1, cells := 0, slots := 0, locals := 21 } : Room) s m args below meth cd A D Q 5 0 0 [(m0, .inr (6, [.ref m1, .ref m2, .ref m3, .int (zI ((sv : Nat) : Int)), .int (zI rf), .ref m4, .int (zI ((len : Nat) : Int)), .int (zI ((sp : Nat) : Int)), .int (zI nu), .int (zI rk), .int (zI rt), .int (zI ra), .ref m5, .ref m6, .int (zI bm), .ref m7, .ref m8, .ref m9, .ref m10, .long (zL ha)])), (m1, iA D 771 NW), (m2, iA D 3084 PA), (m3, iA D 771 AS), (m4, iA D 150 tb), (m5, iA D 250 st), (m6, iA D 250 bo), (m7, iA D 250 sh), (m8, iA D 36 f1), (m9, iA D 36 f2), (m10, iA D 2778 pk)] [(0, .ref m0), (1, .int (zI ((k : Nat) : Int))), (2, .int (zI x)), (3, .int (zI y)), (4, .int (zI ((i : Nat) : Int)))] [] 7 := by
    intro fuel7
    induction fuel7 with
    | zero => intro i x y hi hx hy hfu; exact absurd hfu (Nat.not_lt_zero _)
    | succ fuel7 ih7 =>
      intro i x y hi hx hy hfu7
      have hyr := zSi_in (K := K) hn hU hi
      have hxr : 0 ≤ zNi K i ∧ zNi K i ≤ i := zCt_in
      rw [← hy] at hyr
      rw [← hx] at hxr
      refine zz_iload hC 4 (dk DX6_charge_0k 6 rfl) rfl ?_
      refine zz_aload_n hC 0 (dk DX6_charge_0k 7 rfl) rfl rfl ?_
      refine zz_get hC F_X6_7 0 rfl rfl (dk DX6_charge_0k 8 rfl) ?_
      refine zz_bipush hC (dk DX6_charge_0k 9 rfl) (by decide) ?_
      refine zz_iald hC 20 1 rfl rfl (by omega) (dk DX6_charge_0k 10 rfl) ?_
      rw [hN.2.2.2.1]
      refine zz_icmp_ge hC 69 (dk DX6_charge_0k 11 rfl) (by decide) ⟨⟨by omega, by omega⟩, ⟨by omega, by omega⟩⟩ (fun c1 => ?_) (fun c1 => ?_)
      · have hin : i = n := by omega
        have hx9 : x = zNi K n := by rw [← hin]; exact hx
        have hy9 : y = zSi K U n := by rw [← hin]; exact hy
        have hUk := hU k hk
        have hwr := ch_r (u := ((U k).natAbs : Int)) (x := x) (y := S 1) (by omega) (by omega) hs1
        refine zz_iload_n hC 3 (dk DX6_charge_0k 39 rfl) rfl rfl ?_
        refine zz_if_ne hC 84 (dk DX6_charge_0k 40 rfl) (by decide) ⟨by omega, by omega⟩ (fun c2 => ?_) (fun c2 => ?_)
        · refine zz_aload_n hC 0 (dk DX6_charge_0k 46 rfl) rfl rfl ?_
          refine zz_iload_n hC 1 (dk DX6_charge_0k 47 rfl) rfl rfl ?_
          refine zz_pureVi hC (c_X6_amplitude l D m0 m1 m2 m3 m4 m5 m6 m7 m8 m9 m10 NW PA AS tb st bo sh f1 f2 pk sv len sp rf nu rk rt ra bm ha n w K T U S F L k hN hg (by omega)) G_X6_119 H_X6_amplitude ⟨Nat.le_of_ble_eq_true rfl, Nat.le_of_ble_eq_true rfl⟩ rfl [0, 1, 2, 3, 4, 5, 6, 7, 8, 9, 10] rfl rfl 0 6 ⟨rfl, rfl, rfl⟩ (As := [.int (zI ((k : Nat) : Int))]) (rest := []) (Nat.le_of_ble_eq_true rfl) rfl ⟨Nat.le_of_ble_eq_true rfl, Nat.le_of_ble_eq_true rfl⟩ (dk DX6_charge_0k 48 rfl) ⟨rfl, rfl⟩ ?_
          have hf3 := hU k (by omega)
          refine zz_pureSi hC (c_X6_size l D (U k) (by omega)) G_X6_122 H_X6_size.2 ⟨Nat.le_of_ble_eq_true rfl, Nat.le_of_ble_eq_true rfl⟩ rfl [] rfl rfl (As := [.int (zI (U k))]) (rest := []) (Nat.le_of_ble_eq_true rfl) rfl ⟨Nat.le_of_ble_eq_true rfl, Nat.le_of_ble_eq_true rfl⟩ (dk DX6_charge_0k 49 rfl) ⟨rfl, rfl⟩ ?_
          refine zz_i2l hC (dk DX6_charge_0k 50 rfl) ⟨by omega, by omega⟩ ?_
          refine zz_aload_n hC 0 (dk DX6_charge_0k 51 rfl) rfl rfl ?_
          refine zz_get hC F_X6_7 0 rfl rfl (dk DX6_charge_0k 52 rfl) ?_
          refine zz_iconst hC (dk DX6_charge_0k 53 rfl) ?_
          refine zz_iald hC 1 1 rfl rfl (by omega) (dk DX6_charge_0k 54 rfl) ?_
          rw [hN.1 1 (by omega)]
          have hf4 := zSet_in hs 1 (by omega)
          refine zz_i2l hC (dk DX6_charge_0k 55 rfl) ⟨by omega, by omega⟩ ?_
          refine zz_lmul hC (dk DX6_charge_0k 56 rfl) ?_
          refine zz_iload_n hC 2 (dk DX6_charge_0k 57 rfl) rfl rfl ?_
          refine zz_i2l hC (dk DX6_charge_0k 58 rfl) ⟨by omega, by omega⟩ ?_
          refine zz_lmul hC (dk DX6_charge_0k 59 rfl) ?_
          refine zz_iload_n hC 3 (dk DX6_charge_1k 0 rfl) rfl rfl ?_
          refine zz_i2l hC (dk DX6_charge_1k 1 rfl) ⟨by omega, by omega⟩ ?_
          refine zz_ldiv hC (dk DX6_charge_1k 2 rfl) ⟨⟨⟨by omega, by omega⟩, ⟨by omega, by omega⟩⟩, by omega, by omega⟩ ?_
          refine zz_l2i hC (dk DX6_charge_1k 3 rfl) ?_
          exact zz_iret hC hQ hr () trivial (ch_c hx9 hy9 (by omega)) [0, 1, 2, 3, 4, 5, 6, 7, 8, 9, 10] rfl rfl ⟨Nat.le_refl _, Nat.le_refl _⟩ (dk DX6_charge_1k 4 rfl)
        · refine zz_aload_n hC 0 (dk DX6_charge_0k 41 rfl) rfl rfl ?_
          refine zz_iload_n hC 1 (dk DX6_charge_0k 42 rfl) rfl rfl ?_
          refine zz_pureVi hC (c_X6_amplitude l D m0 m1 m2 m3 m4 m5 m6 m7 m8 m9 m10 NW PA AS tb st bo sh f1 f2 pk sv len sp rf nu rk rt ra bm ha n w K T U S F L k hN hg (by omega)) G_X6_119 H_X6_amplitude ⟨Nat.le_of_ble_eq_true rfl, Nat.le_of_ble_eq_true rfl⟩ rfl [0, 1, 2, 3, 4, 5, 6, 7, 8, 9, 10] rfl rfl 0 6 ⟨rfl, rfl, rfl⟩ (As := [.int (zI ((k : Nat) : Int))]) (rest := []) (Nat.le_of_ble_eq_true rfl) rfl ⟨Nat.le_of_ble_eq_true rfl, Nat.le_of_ble_eq_true rfl⟩ (dk DX6_charge_0k 43 rfl) ⟨rfl, rfl⟩ ?_
          have hf5 := hU k (by omega)
          refine zz_pureSi hC (c_X6_size l D (U k) (by omega)) G_X6_122 H_X6_size.2 ⟨Nat.le_of_ble_eq_true rfl, Nat.le_of_ble_eq_true rfl⟩ rfl [] rfl rfl (As := [.int (zI (U k))]) (rest := []) (Nat.le_of_ble_eq_true rfl) rfl ⟨Nat.le_of_ble_eq_true rfl, Nat.le_of_ble_eq_true rfl⟩ (dk DX6_charge_0k 44 rfl) ⟨rfl, rfl⟩ ?_
          refine zz_goto hC 108 (dk DX6_charge_0k 45 rfl) (by decide) ?_
          exact zz_iret hC hQ hr () trivial (ch_d hy9 (by omega)) [0, 1, 2, 3, 4, 5, 6, 7, 8, 9, 10] rfl rfl ⟨Nat.le_refl _, Nat.le_refl _⟩ (dk DX6_charge_1k 4 rfl)
      · refine zz_iload_n hC 2 (dk DX6_charge_0k 12 rfl) rfl rfl ?_
        refine zz_aload_n hC 0 (dk DX6_charge_0k 13 rfl) rfl rfl ?_
        refine zz_iload hC 4 (dk DX6_charge_0k 14 rfl) rfl ?_
        refine zz_pureVi hC (c_X6_kind l D m0 m1 m2 m3 m4 m5 m6 m7 m8 m9 m10 NW PA AS tb st bo sh f1 f2 pk sv len sp rf nu rk rt ra bm ha n w K T U S F L i hN hg (by omega)) G_X6_116 H_X6_kind ⟨Nat.le_of_ble_eq_true rfl, Nat.le_of_ble_eq_true rfl⟩ rfl [0, 1, 2, 3, 4, 5, 6, 7, 8, 9, 10] rfl rfl 0 6 ⟨rfl, rfl, rfl⟩ (As := [.int (zI ((i : Nat) : Int))]) (rest := [.int (zI x)]) (Nat.le_of_ble_eq_true rfl) rfl ⟨Nat.le_of_ble_eq_true rfl, Nat.le_of_ble_eq_true rfl⟩ (dk DX6_charge_0k 15 rfl) ⟨rfl, rfl⟩ ?_
        have hf6 := hK i (by omega)
        refine zz_iconst hC (dk DX6_charge_0k 16 rfl) ?_
        refine zz_icmp_ne hC 34 (dk DX6_charge_0k 17 rfl) (by decide) ⟨⟨by omega, by omega⟩, (by decide)⟩ (fun c7 => ?_) (fun c7 => ?_)
        · refine zz_iconst hC (dk DX6_charge_0k 20 rfl) ?_
          refine zz_iadd hC (dk DX6_charge_0k 21 rfl) ?_
          refine zz_istore_n hC (ls' := [(0, .ref m0), (1, .int (zI ((k : Nat) : Int))), (2, .int (zI (x + 0))), (3, .int (zI y)), (4, .int (zI ((i : Nat) : Int)))]) [1, 2, 0, 3, 4] (dk DX6_charge_0k 22 rfl) rfl (by decide) rfl ?_
          refine zz_iload_n hC 3 (dk DX6_charge_0k 23 rfl) rfl rfl ?_
          refine zz_aload_n hC 0 (dk DX6_charge_0k 24 rfl) rfl rfl ?_
          refine zz_iload hC 4 (dk DX6_charge_0k 25 rfl) rfl ?_
          refine zz_pureVi hC (c_X6_kind l D m0 m1 m2 m3 m4 m5 m6 m7 m8 m9 m10 NW PA AS tb st bo sh f1 f2 pk sv len sp rf nu rk rt ra bm ha n w K T U S F L i hN hg (by omega)) G_X6_116 H_X6_kind ⟨Nat.le_of_ble_eq_true rfl, Nat.le_of_ble_eq_true rfl⟩ rfl [0, 1, 2, 3, 4, 5, 6, 7, 8, 9, 10] rfl rfl 0 6 ⟨rfl, rfl, rfl⟩ (As := [.int (zI ((i : Nat) : Int))]) (rest := [.int (zI y)]) (Nat.le_of_ble_eq_true rfl) rfl ⟨Nat.le_of_ble_eq_true rfl, Nat.le_of_ble_eq_true rfl⟩ (dk DX6_charge_0k 26 rfl) ⟨rfl, rfl⟩ ?_
          have hf8 := hK i (by omega)
          refine zz_iconst hC (dk DX6_charge_0k 27 rfl) ?_
          refine zz_icmp_ne hC 60 (dk DX6_charge_0k 28 rfl) (by decide) ⟨⟨by omega, by omega⟩, (by decide)⟩ (fun c9 => ?_) (fun c9 => ?_)
          · refine zz_iconst hC (dk DX6_charge_0k 34 rfl) ?_
            refine zz_iadd hC (dk DX6_charge_0k 35 rfl) ?_
            refine zz_istore_n hC (ls' := [(0, .ref m0), (1, .int (zI ((k : Nat) : Int))), (2, .int (zI (x + 0))), (3, .int (zI (y + 0))), (4, .int (zI ((i : Nat) : Int)))]) [1, 2, 3, 0, 4] (dk DX6_charge_0k 36 rfl) rfl (by decide) rfl ?_
            refine zz_iinc hC ((i + 1 : Nat) : Int) (ls' := [(0, .ref m0), (1, .int (zI ((k : Nat) : Int))), (2, .int (zI (x + 0))), (3, .int (zI (y + 0))), (4, .int (zI ((i + 1 : Nat) : Int)))]) 4 [1, 2, 3, 4, 0] (dk DX6_charge_0k 37 rfl) rfl (by omega) (by decide) rfl ?_
            refine zz_goto hC 7 (dk DX6_charge_0k 38 rfl) (by decide) ?_
            refine zz_ls [0, 1, 2, 3, 4] rfl ?_
            exact ih7 (i + 1) (x + 0) (y + 0) (by omega) ((by omega : x + 0 = x).trans (zNi_k hx (by omega))) ((by omega : y + 0 = y).trans (zSi_k hy (by omega))) (by omega)
          · refine zz_aload_n hC 0 (dk DX6_charge_0k 29 rfl) rfl rfl ?_
            refine zz_iload hC 4 (dk DX6_charge_0k 30 rfl) rfl ?_
            refine zz_pureVi hC (c_X6_amplitude l D m0 m1 m2 m3 m4 m5 m6 m7 m8 m9 m10 NW PA AS tb st bo sh f1 f2 pk sv len sp rf nu rk rt ra bm ha n w K T U S F L i hN hg (by omega)) G_X6_119 H_X6_amplitude ⟨Nat.le_of_ble_eq_true rfl, Nat.le_of_ble_eq_true rfl⟩ rfl [0, 1, 2, 3, 4, 5, 6, 7, 8, 9, 10] rfl rfl 0 6 ⟨rfl, rfl, rfl⟩ (As := [.int (zI ((i : Nat) : Int))]) (rest := [.int (zI y)]) (Nat.le_of_ble_eq_true rfl) rfl ⟨Nat.le_of_ble_eq_true rfl, Nat.le_of_ble_eq_true rfl⟩ (dk DX6_charge_0k 31 rfl) ⟨rfl, rfl⟩ ?_
            have hf10 := hU i (by omega)
            refine zz_pureSi hC (c_X6_size l D (U i) (by omega)) G_X6_122 H_X6_size.2 ⟨Nat.le_of_ble_eq_true rfl, Nat.le_of_ble_eq_true rfl⟩ rfl [] rfl rfl (As := [.int (zI (U i))]) (rest := [.int (zI y)]) (Nat.le_of_ble_eq_true rfl) rfl ⟨Nat.le_of_ble_eq_true rfl, Nat.le_of_ble_eq_true rfl⟩ (dk DX6_charge_0k 32 rfl) ⟨rfl, rfl⟩ ?_
            refine zz_goto hC 61 (dk DX6_charge_0k 33 rfl) (by decide) ?_
            refine zz_iadd hC (dk DX6_charge_0k 35 rfl) ?_
            refine zz_istore_n hC (ls' := [(0, .ref m0), (1, .int (zI ((k : Nat) : Int))), (2, .int (zI (x + 0))), (3, .int (zI (y + (((U i).natAbs : Nat) : Int)))), (4, .int (zI ((i : Nat) : Int)))]) [1, 2, 3, 0, 4] (dk DX6_charge_0k 36 rfl) rfl (by decide) rfl ?_
            refine zz_iinc hC ((i + 1 : Nat) : Int) (ls' := [(0, .ref m0), (1, .int (zI ((k : Nat) : Int))), (2, .int (zI (x + 0))), (3, .int (zI (y + (((U i).natAbs : Nat) : Int)))), (4, .int (zI ((i + 1 : Nat) : Int)))]) 4 [1, 2, 3, 4, 0] (dk DX6_charge_0k 37 rfl) rfl (by omega) (by decide) rfl ?_
            refine zz_goto hC 7 (dk DX6_charge_0k 38 rfl) (by decide) ?_
            refine zz_ls [0, 1, 2, 3, 4] rfl ?_
            exact ih7 (i + 1) (x + 0) (y + (((U i).natAbs : Nat) : Int)) (by omega) ((by omega : x + 0 = x).trans (zNi_k hx (by omega))) (zSi_s hy (by omega)) (by omega)
        · refine zz_iconst hC (dk DX6_charge_0k 18 rfl) ?_
          refine zz_goto hC 35 (dk DX6_charge_0k 19 rfl) (by decide) ?_
          refine zz_iadd hC (dk DX6_charge_0k 21 rfl) ?_
          refine zz_istore_n hC (ls' := [(0, .ref m0), (1, .int (zI ((k : Nat) : Int))), (2, .int (zI (x + 1))), (3, .int (zI y)), (4, .int (zI ((i : Nat) : Int)))]) [1, 2, 0, 3, 4] (dk DX6_charge_0k 22 rfl) rfl (by decide) rfl ?_
          refine zz_iload_n hC 3 (dk DX6_charge_0k 23 rfl) rfl rfl ?_
          refine zz_aload_n hC 0 (dk DX6_charge_0k 24 rfl) rfl rfl ?_
          refine zz_iload hC 4 (dk DX6_charge_0k 25 rfl) rfl ?_
          refine zz_pureVi hC (c_X6_kind l D m0 m1 m2 m3 m4 m5 m6 m7 m8 m9 m10 NW PA AS tb st bo sh f1 f2 pk sv len sp rf nu rk rt ra bm ha n w K T U S F L i hN hg (by omega)) G_X6_116 H_X6_kind ⟨Nat.le_of_ble_eq_true rfl, Nat.le_of_ble_eq_true rfl⟩ rfl [0, 1, 2, 3, 4, 5, 6, 7, 8, 9, 10] rfl rfl 0 6 ⟨rfl, rfl, rfl⟩ (As := [.int (zI ((i : Nat) : Int))]) (rest := [.int (zI y)]) (Nat.le_of_ble_eq_true rfl) rfl ⟨Nat.le_of_ble_eq_true rfl, Nat.le_of_ble_eq_true rfl⟩ (dk DX6_charge_0k 26 rfl) ⟨rfl, rfl⟩ ?_
          have hf11 := hK i (by omega)
          refine zz_iconst hC (dk DX6_charge_0k 27 rfl) ?_
          refine zz_icmp_ne hC 60 (dk DX6_charge_0k 28 rfl) (by decide) ⟨⟨by omega, by omega⟩, (by decide)⟩ (fun c12 => ?_) (fun c12 => ?_)
          · refine zz_iconst hC (dk DX6_charge_0k 34 rfl) ?_
            refine zz_iadd hC (dk DX6_charge_0k 35 rfl) ?_
            refine zz_istore_n hC (ls' := [(0, .ref m0), (1, .int (zI ((k : Nat) : Int))), (2, .int (zI (x + 1))), (3, .int (zI (y + 0))), (4, .int (zI ((i : Nat) : Int)))]) [1, 2, 3, 0, 4] (dk DX6_charge_0k 36 rfl) rfl (by decide) rfl ?_
            refine zz_iinc hC ((i + 1 : Nat) : Int) (ls' := [(0, .ref m0), (1, .int (zI ((k : Nat) : Int))), (2, .int (zI (x + 1))), (3, .int (zI (y + 0))), (4, .int (zI ((i + 1 : Nat) : Int)))]) 4 [1, 2, 3, 4, 0] (dk DX6_charge_0k 37 rfl) rfl (by omega) (by decide) rfl ?_
            refine zz_goto hC 7 (dk DX6_charge_0k 38 rfl) (by decide) ?_
            refine zz_ls [0, 1, 2, 3, 4] rfl ?_
            exact ih7 (i + 1) (x + 1) (y + 0) (by omega) (zNi_s hx (by omega)) ((by omega : y + 0 = y).trans (zSi_k hy (by omega))) (by omega)
          · refine zz_aload_n hC 0 (dk DX6_charge_0k 29 rfl) rfl rfl ?_
            refine zz_iload hC 4 (dk DX6_charge_0k 30 rfl) rfl ?_
            refine zz_pureVi hC (c_X6_amplitude l D m0 m1 m2 m3 m4 m5 m6 m7 m8 m9 m10 NW PA AS tb st bo sh f1 f2 pk sv len sp rf nu rk rt ra bm ha n w K T U S F L i hN hg (by omega)) G_X6_119 H_X6_amplitude ⟨Nat.le_of_ble_eq_true rfl, Nat.le_of_ble_eq_true rfl⟩ rfl [0, 1, 2, 3, 4, 5, 6, 7, 8, 9, 10] rfl rfl 0 6 ⟨rfl, rfl, rfl⟩ (As := [.int (zI ((i : Nat) : Int))]) (rest := [.int (zI y)]) (Nat.le_of_ble_eq_true rfl) rfl ⟨Nat.le_of_ble_eq_true rfl, Nat.le_of_ble_eq_true rfl⟩ (dk DX6_charge_0k 31 rfl) ⟨rfl, rfl⟩ ?_
            have hf13 := hU i (by omega)
            refine zz_pureSi hC (c_X6_size l D (U i) (by omega)) G_X6_122 H_X6_size.2 ⟨Nat.le_of_ble_eq_true rfl, Nat.le_of_ble_eq_true rfl⟩ rfl [] rfl rfl (As := [.int (zI (U i))]) (rest := [.int (zI y)]) (Nat.le_of_ble_eq_true rfl) rfl ⟨Nat.le_of_ble_eq_true rfl, Nat.le_of_ble_eq_true rfl⟩ (dk DX6_charge_0k 32 rfl) ⟨rfl, rfl⟩ ?_
            refine zz_goto hC 61 (dk DX6_charge_0k 33 rfl) (by decide) ?_
            refine zz_iadd hC (dk DX6_charge_0k 35 rfl) ?_
            refine zz_istore_n hC (ls' := [(0, .ref m0), (1, .int (zI ((k : Nat) : Int))), (2, .int (zI (x + 1))), (3, .int (zI (y + (((U i).natAbs : Nat) : Int)))), (4, .int (zI ((i : Nat) : Int)))]) [1, 2, 3, 0, 4] (dk DX6_charge_0k 36 rfl) rfl (by decide) rfl ?_
            refine zz_iinc hC ((i + 1 : Nat) : Int) (ls' := [(0, .ref m0), (1, .int (zI ((k : Nat) : Int))), (2, .int (zI (x + 1))), (3, .int (zI (y + (((U i).natAbs : Nat) : Int)))), (4, .int (zI ((i + 1 : Nat) : Int)))]) 4 [1, 2, 3, 4, 0] (dk DX6_charge_0k 37 rfl) rfl (by omega) (by decide) rfl ?_
            refine zz_goto hC 7 (dk DX6_charge_0k 38 rfl) (by decide) ?_
            refine zz_ls [0, 1, 2, 3, 4] rfl ?_
            exact ih7 (i + 1) (x + 1) (y + (((U i).natAbs : Nat) : Int)) (by omega) (zNi_s hx (by omega)) (zSi_s hy (by omega)) (by omega)
  refine zz_ls [0, 1, 2, 3, 4] rfl ?_
  exact LP7 _ 0 0 0 (by omega) rfl rfl (Nat.lt_succ_self _)
