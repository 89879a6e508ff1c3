set_option maxHeartbeats 4000000 in
set_option maxRecDepth 100000 in
theorem c_X6_similarity (l : Launch) (D : zG) (m0 : Nat) (m1 : Nat) (m2 : Nat) (m3 : Nat) (m4 : Nat) (m5 : Nat) (m6 : Nat) (m7 : Nat) (m8 : Nat) (m9 : Nat) (m10 : Nat) (NW : Nat → Int) (PA : Nat → Int) (AS : Nat → Int) (tb : Nat → Int) (st : Nat → Int) (bo : Nat → Int) (sh : Nat → Int) (f1 : Nat → Int) (f2 : Nat → Int) (pk : Nat → Int) (sv : Nat) (len : Nat) (sp : Nat) (rf : Int) (nu : Int) (rk : Int) (rt : Int) (ra : Int) (bm : Int) (ha : Int) (n : Nat) (w : Nat) (K : Nat → Int) (T : Nat → Int) (U : Nat → Int) (S : Nat → Int) (F : Nat → Int) (L : Nat → Int) (x : Int) (y : Int) (x2 : Int) (y2 : Int) (hN : zRow NW n K T U S F L w) (hg : zLog n K T U) (hs : zSet S) (hw : zWin w F L) (hri : (-2147483648 ≤ x ∧ x ≤ 2147483647) ∧ (-2147483648 ≤ y ∧ y ≤ 2147483647) ∧ (-2147483648 ≤ x2 ∧ x2 ≤ 2147483647) ∧ (-2147483648 ≤ y2 ∧ y2 ≤ 2147483647)) : CI (S := (Nat → Int) × (Nat → Int) × (Nat → Int) × (Nat → Int) × (Nat → Int) × (Nat → Int) × Int × Int × Int × Int) l yX6_similarity cX6_similarity 14 ((some .int)) ({ frames := 5, cells := 0, slots := 0, locals := 113 } : Room) D [.ref m0, .int (zI x), .int (zI y), .int (zI x2), .int (zI y2)] [(m0, .inr (6, [.ref m1, .ref m2, .ref m3, .int (zI ((sv : Nat) : Int)), .int (zI rf), .ref m4, .int (zI ((len : Nat) : Int)), .int (zI ((sp : Nat) : Int)), .int (zI nu), .int (zI rk), .int (zI rt), .int (zI ra), .ref m5, .ref m6, .int (zI bm), .ref m7, .ref m8, .ref m9, .ref m10, .long (zL ha)])), (m1, iA D 771 NW), (m2, iA D 3084 PA), (m3, iA D 771 AS), (m4, iA D 150 tb), (m5, iA D 250 st), (m6, iA D 250 bo), (m7, iA D 250 sh), (m8, iA D 36 f1), (m9, iA D 36 f2), (m10, iA D 2778 pk)] (fun u => zO1 (zRg x y ∧ zRg x2 y2) (u.2.2.2.2.2.2.2.1) (u.2.2.2.2.2.2.2.2.2 = zSimilar n K T U S F L w x y x2 y2)) (fun u => u.2.2.2.2.2.2.2.2.2) (fun u => [(m0, .inr (6, [.ref m1, .ref m2, .ref m3, .int (zI ((sv : Nat) : Int)), .int (zI u.2.2.2.2.2.2.2.1), .ref m4, .int (zI ((len : Nat) : Int)), .int (zI ((sp : Nat) : Int)), .int (zI nu), .int (zI rk), .int (zI rt), .int (zI ra), .ref m5, .ref m6, .int (zI u.2.2.2.2.2.2.1), .ref m7, .ref m8, .ref m9, .ref m10, .long (zL u.2.2.2.2.2.2.2.2.1)])), (m1, iA D 771 NW), (m2, iA D 3084 PA), (m3, iA D 771 AS), (m4, iA D 150 tb), (m5, iA D 250 u.1), (m6, iA D 250 u.2.1), (m7, iA D 250 u.2.2.1), (m8, iA D 36 u.2.2.2.1), (m9, iA D 36 u.2.2.2.2.1), (m10, iA D 2778 u.2.2.2.2.2.1)]) := by
  refine CI_of (by decide) (Nat.le_of_ble_eq_true rfl) ?_
  intro p e s m args below meth cd A Q hQ hC hr hnm
  have hC : ZC p s m args meth cd A D 14 cX6_similarity RX6 := hC
  have hg0 := hg
  obtain ⟨hn, hK, hT, hU, hM⟩ := hg0
  show Z p l e ({ frames := 5, cells := 0, slots := 0, locals := 113 } : Room) s m args below meth cd A D Q 14 0 0 [(m0, .inr (6, [.ref m1, .ref m2, .ref m3, .int (zI ((sv : Nat) : Int)), .int (zI rf), .ref m4, .int (zI ((len : Nat) : Int)), .int (zI ((sp : Nat) : Int)), .int (zI nu), .int (zI rk), .int (zI rt), .int (zI ra), .ref m5, .ref m6, .int (zI bm), .ref m7, .ref m8, .ref m9, .ref m10, .long (zL ha)])), (m1, iA D 771 NW), (m2, iA D 3084 PA), (m3, iA D 771 AS), (m4, iA D 150 tb), (m5, iA D 250 st), (m6, iA D 250 bo), (m7, iA D 250 sh), (m8, iA D 36 f1), (m9, iA D 36 f2), (m10, iA D 2778 pk)] [(0, .ref m0), (1, .int (zI x)), (2, .int (zI y)), (3, .int (zI x2)), (4, .int (zI y2))] [] 0
  refine zz_aload_n hC 0 (dk DX6_similarity_0k 0 rfl) rfl rfl ?_
  refine zz_iload_n hC 1 (dk DX6_similarity_0k 1 rfl) rfl rfl ?_
  refine zz_iload_n hC 2 (dk DX6_similarity_0k 2 rfl) rfl rfl ?_
  refine zz_pureSi hC (c_X6_isRange l D x y (by omega)) G_X6_160 H_X6_isRange.2 ⟨Nat.le_of_ble_eq_true rfl, Nat.le_of_ble_eq_true rfl⟩ rfl [] rfl rfl (As := [.int (zI x), .int (zI y)]) (rest := [.ref m0]) (Nat.le_of_ble_eq_true rfl) rfl ⟨Nat.le_of_ble_eq_true rfl, Nat.le_of_ble_eq_true rfl⟩ (dk DX6_similarity_0k 3 rfl) ⟨rfl, rfl⟩ ?_
  refine zz_ifb_eq hC 22 (dk DX6_similarity_0k 4 rfl) (by decide) (fun c1 => ?_) (fun c1 => ?_)
  · refine zz_iconst hC (dk DX6_similarity_0k 11 rfl) ?_
    refine zz_callVi hC (wr := []) (c_X6_refused l D m0 m1 m2 m3 m4 m5 m6 m7 m8 m9 m10 NW PA AS tb st bo sh f1 f2 pk sv len sp rf nu rk rt ra bm ha n w K T U S F L 1 (by omega)) G_X6_47 H_X6_refused ⟨Nat.le_of_ble_eq_true rfl, Nat.le_of_ble_eq_true rfl⟩ rfl [0, 1, 2, 3, 4, 5, 6, 7, 8, 9, 10] [] rfl rfl ⟨rfl, rfl, by decide⟩ 0 6 ⟨rfl, rfl, rfl⟩ (As := [.int (zI 1)]) (rest := []) (Nat.le_of_ble_eq_true rfl) rfl ⟨Nat.le_of_ble_eq_true rfl, Nat.le_of_ble_eq_true rfl⟩ (dk DX6_similarity_0k 12 rfl) ⟨rfl, rfl⟩ (wb := fun u2 => [(m0, .inr (6, [.ref m1, .ref m2, .ref m3, .int (zI ((sv : Nat) : Int)), .int (zI 1), .ref m4, .int (zI ((len : Nat) : Int)), .int (zI ((sp : Nat) : Int)), .int (zI nu), .int (zI rk), .int (zI rt), .int (zI ra), .ref m5, .ref m6, .int (zI bm), .ref m7, .ref m8, .ref m9, .ref m10, .long (zL ha)])), (m1, iA D 771 NW), (m2, iA D 3084 PA), (m3, iA D 771 AS), (m4, iA D 150 tb), (m5, iA D 250 st), (m6, iA D 250 bo), (m7, iA D 250 sh), (m8, iA D 36 f1), (m9, iA D 36 f2), (m10, iA D 2778 pk)]) [0, 1, 2, 3, 4, 5, 6, 7, 8, 9, 10] rfl (fun _ => rfl) (fun u2 hu2 => ?_)
    refine zz_ifb_eq hC 31 (dk DX6_similarity_0k 13 rfl) (by decide) (fun c3 => ?_) (fun c3 => ?_)
    · exfalso; omega
    · refine zz_iconst hC (dk DX6_similarity_0k 14 rfl) ?_
      exact zz_iret hC hQ hr (st, bo, sh, f1, f2, pk, bm, 1, ha, 0) (Or.inr ⟨(by unfold zRg; omega), rfl⟩) rfl [0, 1, 2, 3, 4, 5, 6, 7, 8, 9, 10] rfl rfl ⟨Nat.le_refl _, Nat.le_refl _⟩ (dk DX6_similarity_0k 15 rfl)
  · refine zz_iload_n hC 3 (dk DX6_similarity_0k 5 rfl) rfl rfl ?_
    refine zz_iload hC 4 (dk DX6_similarity_0k 6 rfl) rfl ?_
    refine zz_pureSi hC (c_X6_isRange l D x2 y2 (by omega)) G_X6_160 H_X6_isRange.2 ⟨Nat.le_of_ble_eq_true rfl, Nat.le_of_ble_eq_true rfl⟩ rfl [] rfl rfl (As := [.int (zI x2), .int (zI y2)]) (rest := [.ref m0]) (Nat.le_of_ble_eq_true rfl) rfl ⟨Nat.le_of_ble_eq_true rfl, Nat.le_of_ble_eq_true rfl⟩ (dk DX6_similarity_0k 7 rfl) ⟨rfl, rfl⟩ ?_
    refine zz_ifb_eq hC 22 (dk DX6_similarity_0k 8 rfl) (by decide) (fun c4 => ?_) (fun c4 => ?_)
    · refine zz_iconst hC (dk DX6_similarity_0k 11 rfl) ?_
      refine zz_callVi hC (wr := []) (c_X6_refused l D m0 m1 m2 m3 m4 m5 m6 m7 m8 m9 m10 NW PA AS tb st bo sh f1 f2 pk sv len sp rf nu rk rt ra bm ha n w K T U S F L 1 (by omega)) G_X6_47 H_X6_refused ⟨Nat.le_of_ble_eq_true rfl, Nat.le_of_ble_eq_true rfl⟩ rfl [0, 1, 2, 3, 4, 5, 6, 7, 8, 9, 10] [] rfl rfl ⟨rfl, rfl, by decide⟩ 0 6 ⟨rfl, rfl, rfl⟩ (As := [.int (zI 1)]) (rest := []) (Nat.le_of_ble_eq_true rfl) rfl ⟨Nat.le_of_ble_eq_true rfl, Nat.le_of_ble_eq_true rfl⟩ (dk DX6_similarity_0k 12 rfl) ⟨rfl, rfl⟩ (wb := fun u5 => [(m0, .inr (6, [.ref m1, .ref m2, .ref m3, .int (zI ((sv : Nat) : Int)), .int (zI 1), .ref m4, .int (zI ((len : Nat) : Int)), .int (zI ((sp : Nat) : Int)), .int (zI nu), .int (zI rk), .int (zI rt), .int (zI ra), .ref m5, .ref m6, .int (zI bm), .ref m7, .ref m8, .ref m9, .ref m10, .long (zL ha)])), (m1, iA D 771 NW), (m2, iA D 3084 PA), (m3, iA D 771 AS), (m4, iA D 150 tb), (m5, iA D 250 st), (m6, iA D 250 bo), (m7, iA D 250 sh), (m8, iA D 36 f1), (m9, iA D 36 f2), (m10, iA D 2778 pk)]) [0, 1, 2, 3, 4, 5, 6, 7, 8, 9, 10] rfl (fun _ => rfl) (fun u5 hu5 => ?_)
      refine zz_ifb_eq hC 31 (dk DX6_similarity_0k 13 rfl) (by decide) (fun c6 => ?_) (fun c6 => ?_)
      · exfalso; omega
      · refine zz_iconst hC (dk DX6_similarity_0k 14 rfl) ?_
        exact zz_iret hC hQ hr (st, bo, sh, f1, f2, pk, bm, 1, ha, 0) (Or.inr ⟨(by unfold zRg; omega), rfl⟩) rfl [0, 1, 2, 3, 4, 5, 6, 7, 8, 9, 10] rfl rfl ⟨Nat.le_refl _, Nat.le_refl _⟩ (dk DX6_similarity_0k 15 rfl)
    · refine zz_iconst hC (dk DX6_similarity_0k 9 rfl) ?_
      refine zz_goto hC 23 (dk DX6_similarity_0k 10 rfl) (by decide) ?_
      refine zz_callVi hC (wr := []) (c_X6_refused l D m0 m1 m2 m3 m4 m5 m6 m7 m8 m9 m10 NW PA AS tb st bo sh f1 f2 pk sv len sp rf nu rk rt ra bm ha n w K T U S F L 0 (by omega)) G_X6_47 H_X6_refused ⟨Nat.le_of_ble_eq_true rfl, Nat.le_of_ble_eq_true rfl⟩ rfl [0, 1, 2, 3, 4, 5, 6, 7, 8, 9, 10] [] rfl rfl ⟨rfl, rfl, by decide⟩ 0 6 ⟨rfl, rfl, rfl⟩ (As := [.int (zI 0)]) (rest := []) (Nat.le_of_ble_eq_true rfl) rfl ⟨Nat.le_of_ble_eq_true rfl, Nat.le_of_ble_eq_true rfl⟩ (dk DX6_similarity_0k 12 rfl) ⟨rfl, rfl⟩ (wb := fun u7 => [(m0, .inr (6, [.ref m1, .ref m2, .ref m3, .int (zI ((sv : Nat) : Int)), .int (zI 0), .ref m4, .int (zI ((len : Nat) : Int)), .int (zI ((sp : Nat) : Int)), .int (zI nu), .int (zI rk), .int (zI rt), .int (zI ra), .ref m5, .ref m6, .int (zI bm), .ref m7, .ref m8, .ref m9, .ref m10, .long (zL ha)])), (m1, iA D 771 NW), (m2, iA D 3084 PA), (m3, iA D 771 AS), (m4, iA D 150 tb), (m5, iA D 250 st), (m6, iA D 250 bo), (m7, iA D 250 sh), (m8, iA D 36 f1), (m9, iA D 36 f2), (m10, iA D 2778 pk)]) [0, 1, 2, 3, 4, 5, 6, 7, 8, 9, 10] rfl (fun _ => rfl) (fun u7 hu7 => ?_)
      refine zz_ifb_eq hC 31 (dk DX6_similarity_0k 13 rfl) (by decide) (fun c8 => ?_) (fun c8 => ?_)
      · refine zz_aload_n hC 0 (dk DX6_similarity_0k 16 rfl) rfl rfl ?_
        refine zz_callVv hC (wr := []) (c_X6_laysNow l D m0 m1 m2 m3 m4 m5 m6 m7 m8 m9 m10 NW PA AS tb st bo sh f1 f2 pk sv len sp 0 nu rk rt ra bm ha n w K T U S F L hN hg hs hw) G_X6_144 H_X6_laysNow ⟨Nat.le_of_ble_eq_true rfl, Nat.le_of_ble_eq_true rfl⟩ rfl [0, 1, 2, 3, 4, 5, 6, 7, 8, 9, 10] [] rfl rfl ⟨rfl, rfl, by decide⟩ 0 6 ⟨rfl, rfl, rfl⟩ (As := []) (rest := []) (Nat.le_of_ble_eq_true rfl) rfl ⟨Nat.le_of_ble_eq_true rfl, Nat.le_of_ble_eq_true rfl⟩ (dk DX6_similarity_0k 17 rfl) ⟨rfl, rfl⟩ (wb := fun u9 => [(m0, .inr (6, [.ref m1, .ref m2, .ref m3, .int (zI ((sv : Nat) : Int)), .int (zI 0), .ref m4, .int (zI ((len : Nat) : Int)), .int (zI ((sp : Nat) : Int)), .int (zI nu), .int (zI rk), .int (zI rt), .int (zI ra), .ref m5, .ref m6, .int (zI (zBN n K T U S F L w)), .ref m7, .ref m8, .ref m9, .ref m10, .long (zL ha)])), (m1, iA D 771 NW), (m2, iA D 3084 PA), (m3, iA D 771 AS), (m4, iA D 150 tb), (m5, iA D 250 u9.1), (m6, iA D 250 u9.2.1), (m7, iA D 250 u9.2.2), (m8, iA D 36 f1), (m9, iA D 36 f2), (m10, iA D 2778 pk)]) [0, 1, 2, 3, 4, 5, 6, 7, 8, 9, 10] rfl (fun _ => rfl) (fun u9 hu9 => ?_)
        have hu9r := mk_r hK hn hu9
        have hu9s := mk_st hu9
        refine zz_aload_n hC 0 (dk DX6_similarity_0k 18 rfl) rfl rfl ?_
        refine zz_aload_n hC 0 (dk DX6_similarity_0k 19 rfl) rfl rfl ?_
        refine zz_get hC F_X6_31 0 rfl rfl (dk DX6_similarity_0k 20 rfl) ?_
        refine zz_iload_n hC 1 (dk DX6_similarity_0k 21 rfl) rfl rfl ?_
        refine zz_iload_n hC 2 (dk DX6_similarity_0k 22 rfl) rfl rfl ?_
        refine zz_callVi hC (wr := []) (c_X6_fills_m8 l D m0 m1 m2 m3 m4 m5 m6 m7 m8 m9 m10 NW PA AS tb u9.1 u9.2.1 u9.2.2 f1 f2 pk sv len sp 0 nu rk rt ra (zBN n K T U S F L w) ha n w K T U S F L x y hN hg hs hu9r.1 (by omega)) G_X6_163 H_X6_fills ⟨Nat.le_of_ble_eq_true rfl, Nat.le_of_ble_eq_true rfl⟩ rfl [0, 1, 2, 3, 4, 5, 6, 7, 8, 9, 10] [] rfl rfl ⟨rfl, rfl, by decide⟩ 0 6 ⟨rfl, rfl, rfl⟩ (As := [.ref m8, .int (zI x), .int (zI y)]) (rest := []) (Nat.le_of_ble_eq_true rfl) rfl ⟨Nat.le_of_ble_eq_true rfl, Nat.le_of_ble_eq_true rfl⟩ (dk DX6_similarity_0k 23 rfl) ⟨rfl, rfl⟩ (wb := fun u10 => [(m0, .inr (6, [.ref m1, .ref m2, .ref m3, .int (zI ((sv : Nat) : Int)), .int (zI 0), .ref m4, .int (zI ((len : Nat) : Int)), .int (zI ((sp : Nat) : Int)), .int (zI nu), .int (zI rk), .int (zI rt), .int (zI ra), .ref m5, .ref m6, .int (zI (zBN n K T U S F L w)), .ref m7, .ref m8, .ref m9, .ref m10, .long (zL ha)])), (m1, iA D 771 NW), (m2, iA D 3084 PA), (m3, iA D 771 AS), (m4, iA D 150 tb), (m5, iA D 250 u9.1), (m6, iA D 250 u9.2.1), (m7, iA D 250 u9.2.2), (m8, iA D 36 u10), (m9, iA D 36 f2), (m10, iA D 2778 pk)]) [0, 1, 2, 3, 4, 5, 6, 7, 8, 9, 10] rfl (fun _ => rfl) (fun u10 hu10 => ?_)
        have ht9 : zCt (zAr u9.1 T x y) n = zTo n K T U S F L w x y := zTo_lk hu9s
        rw [ht9]
        have hb9 : ∀ b : Nat, b < 36 → u10 b = zBi n K T U S F L w x y b := fun b hb => (hu10 b hb).trans (zBi_lk hu9s b)
        have hr9 : ∀ b : Nat, b < 36 → 0 ≤ u10 b ∧ u10 b ≤ 250 := fun b hb => by rw [hb9 b hb]; have h8 : 0 ≤ zBi n K T U S F L w x y b ∧ zBi n K T U S F L w x y b ≤ n := zCt_in; omega
        have hto : 0 ≤ zTo n K T U S F L w x y ∧ zTo n K T U S F L w x y ≤ n := zCt_in
        refine zz_istore hC (ls' := [(0, .ref m0), (1, .int (zI x)), (2, .int (zI y)), (3, .int (zI x2)), (4, .int (zI y2)), (5, .int (zI (zTo n K T U S F L w x y)))]) [1, 2, 3, 4, 5, 0] (dk DX6_similarity_0k 24 rfl) (by decide) rfl ?_
        refine zz_aload_n hC 0 (dk DX6_similarity_0k 25 rfl) rfl rfl ?_
        refine zz_aload_n hC 0 (dk DX6_similarity_0k 26 rfl) rfl rfl ?_
        refine zz_get hC F_X6_34 0 rfl rfl (dk DX6_similarity_0k 27 rfl) ?_
        refine zz_iload_n hC 3 (dk DX6_similarity_0k 28 rfl) rfl rfl ?_
        refine zz_iload hC 4 (dk DX6_similarity_0k 29 rfl) rfl ?_
        refine zz_callVi hC (wr := []) (c_X6_fills_m9 l D m0 m1 m2 m3 m4 m5 m6 m7 m8 m9 m10 NW PA AS tb u9.1 u9.2.1 u9.2.2 u10 f2 pk sv len sp 0 nu rk rt ra (zBN n K T U S F L w) ha n w K T U S F L x2 y2 hN hg hs hu9r.1 (by omega)) G_X6_163 H_X6_fills ⟨Nat.le_of_ble_eq_true rfl, Nat.le_of_ble_eq_true rfl⟩ rfl [0, 1, 2, 3, 4, 5, 6, 7, 8, 9, 10] [] rfl rfl ⟨rfl, rfl, by decide⟩ 0 6 ⟨rfl, rfl, rfl⟩ (As := [.ref m9, .int (zI x2), .int (zI y2)]) (rest := []) (Nat.le_of_ble_eq_true rfl) rfl ⟨Nat.le_of_ble_eq_true rfl, Nat.le_of_ble_eq_true rfl⟩ (dk DX6_similarity_0k 30 rfl) ⟨rfl, rfl⟩ (wb := fun u11 => [(m0, .inr (6, [.ref m1, .ref m2, .ref m3, .int (zI ((sv : Nat) : Int)), .int (zI 0), .ref m4, .int (zI ((len : Nat) : Int)), .int (zI ((sp : Nat) : Int)), .int (zI nu), .int (zI rk), .int (zI rt), .int (zI ra), .ref m5, .ref m6, .int (zI (zBN n K T U S F L w)), .ref m7, .ref m8, .ref m9, .ref m10, .long (zL ha)])), (m1, iA D 771 NW), (m2, iA D 3084 PA), (m3, iA D 771 AS), (m4, iA D 150 tb), (m5, iA D 250 u9.1), (m6, iA D 250 u9.2.1), (m7, iA D 250 u9.2.2), (m8, iA D 36 u10), (m9, iA D 36 u11), (m10, iA D 2778 pk)]) [0, 1, 2, 3, 4, 5, 6, 7, 8, 9, 10] rfl (fun _ => rfl) (fun u11 hu11 => ?_)
        have ht8 : zCt (zAr u9.1 T x2 y2) n = zTo n K T U S F L w x2 y2 := zTo_lk hu9s
        rw [ht8]
        have hb8 : ∀ b : Nat, b < 36 → u11 b = zBi n K T U S F L w x2 y2 b := fun b hb => (hu11 b hb).trans (zBi_lk hu9s b)
        have hr8 : ∀ b : Nat, b < 36 → 0 ≤ u11 b ∧ u11 b ≤ 250 := fun b hb => by rw [hb8 b hb]; have h8 : 0 ≤ zBi n K T U S F L w x2 y2 b ∧ zBi n K T U S F L w x2 y2 b ≤ n := zCt_in; omega
        have hto2 : 0 ≤ zTo n K T U S F L w x2 y2 ∧ zTo n K T U S F L w x2 y2 ≤ n := zCt_in
        refine zz_istore hC (ls' := [(0, .ref m0), (1, .int (zI x)), (2, .int (zI y)), (3, .int (zI x2)), (4, .int (zI y2)), (5, .int (zI (zTo n K T U S F L w x y))), (6, .int (zI (zTo n K T U S F L w x2 y2)))]) [1, 2, 3, 4, 5, 6, 0] (dk DX6_similarity_0k 31 rfl) (by decide) rfl ?_
        refine zz_lconst hC 0 (dk DX6_similarity_0k 32 rfl) (by decide) ?_
        refine zz_lstore hC (ls' := [(0, .ref m0), (1, .int (zI x)), (2, .int (zI y)), (3, .int (zI x2)), (4, .int (zI y2)), (5, .int (zI (zTo n K T U S F L w x y))), (6, .int (zI (zTo n K T U S F L w x2 y2))), (7, .long (zL 0))]) [1, 2, 3, 4, 5, 6, 7, 0] (dk DX6_similarity_0k 33 rfl) (by decide) rfl ?_
        refine zz_iconst hC (dk DX6_similarity_0k 34 rfl) ?_
        refine zz_istore hC (ls' := [(0, .ref m0), (1, .int (zI x)), (2, .int (zI y)), (3, .int (zI x2)), (4, .int (zI y2)), (5, .int (zI (zTo n K T U S F L w x y))), (6, .int (zI (zTo n K T U S F L w x2 y2))), (7, .long (zL 0)), (9, .int (zI 0))]) [1, 2, 3, 4, 5, 6, 7, 8, 0] (dk DX6_similarity_0k 35 rfl) (by decide) rfl ?_
        have LP66 : ∀ (fuel66 : Nat) (i : Nat) (z : Int), (i ≤ 36) → (z = zSs u10 u11 (zTo n K T U S F L w x y) (zTo n K T U S F L w x2 y2) i) → (0 ≤ z ∧ z ≤ 62500 * i) → 36 - i < fuel66 → Z p l e ({ frames := 5, cells := 0, slots := 0, locals := 113 } : Room) s m args below meth cd A D Q 14 0 0 [(m0, .inr (6, [.ref m1, .ref m2, .ref m3, .int (zI ((sv : Nat) : Int)), .int (zI 0), .ref m4, .int (zI ((len : Nat) : Int)), .int (zI ((sp : Nat) : Int)), .int (zI nu), .int (zI rk), .int (zI rt), .int (zI ra), .ref m5, .ref m6, .int (zI (zBN n K T U S F L w)), .ref m7, .ref m8, .ref m9, .ref m10, .long (zL ha)])), (m1, iA D 771 NW), (m2, iA D 3084 PA), (m3, iA D 771 AS), (m4, iA D 150 tb), (m5, iA D 250 u9.1), (m6, iA D 250 u9.2.1), (m7, iA D 250 u9.2.2), (m8, iA D 36 u10), (m9, iA D 36 u11), (m10, iA D 2778 pk)] [(0, .ref m0), (1, .int (zI x)), (2, .int (zI y)), (3, .int (zI x2)), (4, .int (zI y2)), (5, .int (zI (zTo n K T U S F L w x y))), (6, .int (zI (zTo n K T U S F L w x2 y2))), (7, .long (zL z)), (9, .int (zI ((i : Nat) : Int)))] [] 66 := by
          intro fuel66
          induction fuel66 with
          | zero => intro i z hi hz hzr hfu; exact absurd hfu (Nat.not_lt_zero _)
          | succ fuel66 ih66 =>
            intro i z hi hz hzr hfu66
            refine zz_iload hC 8 (dk DX6_similarity_0k 36 rfl) rfl ?_
            refine zz_bipush hC (dk DX6_similarity_0k 37 rfl) (by decide) ?_
            refine zz_icmp_ge hC 127 (dk DX6_similarity_0k 38 rfl) (by decide) ⟨⟨by omega, by omega⟩, (by decide)⟩ (fun c12 => ?_) (fun c12 => ?_)
            · refine zz_iload hC 5 (dk DX6_similarity_1k 9 rfl) rfl ?_
              refine zz_if_eq hC 137 (dk DX6_similarity_1k 10 rfl) (by decide) ⟨by omega, by omega⟩ (fun c13 => ?_) (fun c13 => ?_)
              · refine zz_iconst hC (dk DX6_similarity_1k 13 rfl) ?_
                refine zz_goto hC 156 (dk DX6_similarity_1k 14 rfl) (by decide) ?_
                exact zz_iret hC hQ hr (u9.1, u9.2.1, u9.2.2, u10, u11, pk, (zBN n K T U S F L w), 0, ha, 0) (Or.inl ⟨(by unfold zRg; omega), rfl, (by unfold zSimilar zSim; rw [if_pos (by omega)])⟩) rfl [0, 1, 2, 3, 4, 5, 6, 7, 8, 9, 10] rfl rfl ⟨Nat.le_refl _, Nat.le_refl _⟩ (dk DX6_similarity_1k 25 rfl)
              · refine zz_iload hC 6 (dk DX6_similarity_1k 11 rfl) rfl ?_
                refine zz_if_ne hC 141 (dk DX6_similarity_1k 12 rfl) (by decide) ⟨by omega, by omega⟩ (fun c14 => ?_) (fun c14 => ?_)
                · have gc := mul_r (a := zTo n K T U S F L w x y) (b := zTo n K T U S F L w x2 y2) (x := 250) (y := 250) (by omega) (by omega)
                  have ge : 0 < zTo n K T U S F L w x y * zTo n K T U S F L w x2 y2 := Int.mul_pos (by omega) (by omega)
                  refine zz_ldc2 hC 1000 K_X6_174 (by decide) (dk DX6_similarity_1k 15 rfl) ?_
                  refine zz_lload hC 7 (dk DX6_similarity_1k 16 rfl) rfl ?_
                  refine zz_lmul hC (dk DX6_similarity_1k 17 rfl) ?_
                  refine zz_iload hC 5 (dk DX6_similarity_1k 18 rfl) rfl ?_
                  refine zz_i2l hC (dk DX6_similarity_1k 19 rfl) ⟨by omega, by omega⟩ ?_
                  refine zz_iload hC 6 (dk DX6_similarity_1k 20 rfl) rfl ?_
                  refine zz_i2l hC (dk DX6_similarity_1k 21 rfl) ⟨by omega, by omega⟩ ?_
                  refine zz_lmul hC (dk DX6_similarity_1k 22 rfl) ?_
                  refine zz_ldiv hC (dk DX6_similarity_1k 23 rfl) ⟨⟨⟨by omega, by omega⟩, ⟨by omega, by omega⟩⟩, by omega, by omega⟩ ?_
                  refine zz_l2i hC (dk DX6_similarity_1k 24 rfl) ?_
                  exact zz_iret hC hQ hr (u9.1, u9.2.1, u9.2.2, u10, u11, pk, (zBN n K T U S F L w), 0, ha, ((1000 * z) / ((zTo n K T U S F L w x y) * (zTo n K T U S F L w x2 y2)))) (Or.inl ⟨(by unfold zRg; omega), rfl, (by unfold zSimilar zSim; rw [if_neg (by omega)]; show 1000 * z / _ = _; rw [hz, show i = 36 by omega, zSs_cg (Nat.le_refl 36) hb9 hb8])⟩) rfl [0, 1, 2, 3, 4, 5, 6, 7, 8, 9, 10] rfl rfl ⟨Nat.le_refl _, Nat.le_refl _⟩ (dk DX6_similarity_1k 25 rfl)
                · refine zz_iconst hC (dk DX6_similarity_1k 13 rfl) ?_
                  refine zz_goto hC 156 (dk DX6_similarity_1k 14 rfl) (by decide) ?_
                  exact zz_iret hC hQ hr (u9.1, u9.2.1, u9.2.2, u10, u11, pk, (zBN n K T U S F L w), 0, ha, 0) (Or.inl ⟨(by unfold zRg; omega), rfl, (by unfold zSimilar zSim; rw [if_pos (by omega)])⟩) rfl [0, 1, 2, 3, 4, 5, 6, 7, 8, 9, 10] rfl rfl ⟨Nat.le_refl _, Nat.le_refl _⟩ (dk DX6_similarity_1k 25 rfl)
            · have ga := hr9 i (by omega)
              have gb := hr8 i (by omega)
              have gc := mul_r (a := u10 i) (b := zTo n K T U S F L w x2 y2) (x := 250) (y := 250) (by omega) (by omega)
              have gd := mul_r (a := u11 i) (b := zTo n K T U S F L w x y) (x := 250) (y := 250) (by omega) (by omega)
              refine zz_aload_n hC 0 (dk DX6_similarity_0k 39 rfl) rfl rfl ?_
              refine zz_get hC F_X6_31 0 rfl rfl (dk DX6_similarity_0k 40 rfl) ?_
              refine zz_iload hC 8 (dk DX6_similarity_0k 41 rfl) rfl ?_
              refine zz_iald hC i 8 rfl rfl (by omega) (dk DX6_similarity_0k 42 rfl) ?_
              refine zz_i2l hC (dk DX6_similarity_0k 43 rfl) ⟨by omega, by omega⟩ ?_
              refine zz_iload hC 6 (dk DX6_similarity_0k 44 rfl) rfl ?_
              refine zz_i2l hC (dk DX6_similarity_0k 45 rfl) ⟨by omega, by omega⟩ ?_
              refine zz_lmul hC (dk DX6_similarity_0k 46 rfl) ?_
              refine zz_lstore hC (ls' := [(0, .ref m0), (1, .int (zI x)), (2, .int (zI y)), (3, .int (zI x2)), (4, .int (zI y2)), (5, .int (zI (zTo n K T U S F L w x y))), (6, .int (zI (zTo n K T U S F L w x2 y2))), (7, .long (zL z)), (9, .int (zI ((i : Nat) : Int))), (10, .long (zL ((u10 i) * (zTo n K T U S F L w x2 y2))))]) [1, 2, 3, 4, 5, 6, 7, 8, 9, 0] (dk DX6_similarity_0k 47 rfl) (by decide) rfl ?_
              refine zz_aload_n hC 0 (dk DX6_similarity_0k 48 rfl) rfl rfl ?_
              refine zz_get hC F_X6_34 0 rfl rfl (dk DX6_similarity_0k 49 rfl) ?_
              refine zz_iload hC 8 (dk DX6_similarity_0k 50 rfl) rfl ?_
              refine zz_iald hC i 9 rfl rfl (by omega) (dk DX6_similarity_0k 51 rfl) ?_
              refine zz_i2l hC (dk DX6_similarity_0k 52 rfl) ⟨by omega, by omega⟩ ?_
              refine zz_iload hC 5 (dk DX6_similarity_0k 53 rfl) rfl ?_
              refine zz_i2l hC (dk DX6_similarity_0k 54 rfl) ⟨by omega, by omega⟩ ?_
              refine zz_lmul hC (dk DX6_similarity_0k 55 rfl) ?_
              refine zz_lstore hC (ls' := [(0, .ref m0), (1, .int (zI x)), (2, .int (zI y)), (3, .int (zI x2)), (4, .int (zI y2)), (5, .int (zI (zTo n K T U S F L w x y))), (6, .int (zI (zTo n K T U S F L w x2 y2))), (7, .long (zL z)), (9, .int (zI ((i : Nat) : Int))), (10, .long (zL ((u10 i) * (zTo n K T U S F L w x2 y2)))), (12, .long (zL ((u11 i) * (zTo n K T U S F L w x y))))]) [1, 2, 3, 4, 5, 6, 7, 8, 9, 10, 0] (dk DX6_similarity_0k 56 rfl) (by decide) rfl ?_
              refine zz_lload hC 7 (dk DX6_similarity_0k 57 rfl) rfl ?_
              refine zz_lload hC 9 (dk DX6_similarity_0k 58 rfl) rfl ?_
              refine zz_lload hC 10 (dk DX6_similarity_0k 59 rfl) rfl ?_
              refine zz_lcmp_ge hC 116 (dk DX6_similarity_1k 0 rfl) (dk DX6_similarity_1k 1 rfl) (by decide) ⟨⟨by omega, by omega⟩, ⟨by omega, by omega⟩⟩ (fun c15 => ?_) (fun c15 => ?_)
              · refine zz_lload hC 10 (dk DX6_similarity_1k 4 rfl) rfl ?_
                refine zz_ladd hC (dk DX6_similarity_1k 5 rfl) ?_
                refine zz_lstore hC (ls' := [(0, .ref m0), (1, .int (zI x)), (2, .int (zI y)), (3, .int (zI x2)), (4, .int (zI y2)), (5, .int (zI (zTo n K T U S F L w x y))), (6, .int (zI (zTo n K T U S F L w x2 y2))), (7, .long (zL (z + ((u11 i) * (zTo n K T U S F L w x y))))), (9, .int (zI ((i : Nat) : Int))), (10, .long (zL ((u10 i) * (zTo n K T U S F L w x2 y2)))), (12, .long (zL ((u11 i) * (zTo n K T U S F L w x y))))]) [1, 2, 3, 4, 5, 6, 7, 0, 8, 9, 10] (dk DX6_similarity_1k 6 rfl) (by decide) rfl ?_
                refine zz_iinc hC ((i + 1 : Nat) : Int) (ls' := [(0, .ref m0), (1, .int (zI x)), (2, .int (zI y)), (3, .int (zI x2)), (4, .int (zI y2)), (5, .int (zI (zTo n K T U S F L w x y))), (6, .int (zI (zTo n K T U S F L w x2 y2))), (7, .long (zL (z + ((u11 i) * (zTo n K T U S F L w x y))))), (9, .int (zI ((i + 1 : Nat) : Int))), (10, .long (zL ((u10 i) * (zTo n K T U S F L w x2 y2)))), (12, .long (zL ((u11 i) * (zTo n K T U S F L w x y))))]) 8 [1, 2, 3, 4, 5, 6, 7, 8, 0, 9, 10] (dk DX6_similarity_1k 7 rfl) rfl (by omega) (by decide) rfl ?_
                refine zz_goto hC 66 (dk DX6_similarity_1k 8 rfl) (by decide) ?_
                refine zz_ls [0, 1, 2, 3, 4, 5, 6, 7, 8] rfl ?_
                exact ih66 (i + 1) (z + ((u11 i) * (zTo n K T U S F L w x y))) (by omega) (ss_s hz (by omega)) (by omega) (by omega)
              · refine zz_lload hC 9 (dk DX6_similarity_1k 2 rfl) rfl ?_
                refine zz_goto hC 118 (dk DX6_similarity_1k 3 rfl) (by decide) ?_
                refine zz_ladd hC (dk DX6_similarity_1k 5 rfl) ?_
                refine zz_lstore hC (ls' := [(0, .ref m0), (1, .int (zI x)), (2, .int (zI y)), (3, .int (zI x2)), (4, .int (zI y2)), (5, .int (zI (zTo n K T U S F L w x y))), (6, .int (zI (zTo n K T U S F L w x2 y2))), (7, .long (zL (z + ((u10 i) * (zTo n K T U S F L w x2 y2))))), (9, .int (zI ((i : Nat) : Int))), (10, .long (zL ((u10 i) * (zTo n K T U S F L w x2 y2)))), (12, .long (zL ((u11 i) * (zTo n K T U S F L w x y))))]) [1, 2, 3, 4, 5, 6, 7, 0, 8, 9, 10] (dk DX6_similarity_1k 6 rfl) (by decide) rfl ?_
                refine zz_iinc hC ((i + 1 : Nat) : Int) (ls' := [(0, .ref m0), (1, .int (zI x)), (2, .int (zI y)), (3, .int (zI x2)), (4, .int (zI y2)), (5, .int (zI (zTo n K T U S F L w x y))), (6, .int (zI (zTo n K T U S F L w x2 y2))), (7, .long (zL (z + ((u10 i) * (zTo n K T U S F L w x2 y2))))), (9, .int (zI ((i + 1 : Nat) : Int))), (10, .long (zL ((u10 i) * (zTo n K T U S F L w x2 y2)))), (12, .long (zL ((u11 i) * (zTo n K T U S F L w x y))))]) 8 [1, 2, 3, 4, 5, 6, 7, 8, 0, 9, 10] (dk DX6_similarity_1k 7 rfl) rfl (by omega) (by decide) rfl ?_
                refine zz_goto hC 66 (dk DX6_similarity_1k 8 rfl) (by decide) ?_
                refine zz_ls [0, 1, 2, 3, 4, 5, 6, 7, 8] rfl ?_
                exact ih66 (i + 1) (z + ((u10 i) * (zTo n K T U S F L w x2 y2))) (by omega) (ss_s hz (by omega)) (by omega) (by omega)
        refine zz_ls [0, 1, 2, 3, 4, 5, 6, 7, 8] rfl ?_
        exact LP66 _ 0 0 (by omega) rfl (by omega) (Nat.lt_succ_self _)
      · exfalso; omega
set_option maxHeartbeats 4000000 in
set_option maxRecDepth 100000 in
theorem c_X6_intervalOf (l : Launch) (D : zG) (m0 : Nat) (m1 : Nat) (m2 : Nat) (m3 : Nat) (m4 : Nat) (m5 : Nat) (m6 : Nat) (m7 : Nat) (m8 : Nat) (m9 : Nat) (m10 : Nat) (NW : Nat → Int) (PA : Nat → Int) (AS : Nat → Int) (tb : Nat → Int) (st : Nat → Int) (bo : Nat → Int) (sh : Nat → Int) (f1 : Nat → Int) (f2 : Nat → Int) (pk : Nat → Int) (sv : Nat) (len : Nat) (sp : Nat) (rf : Int) (nu : Int) (rk : Int) (rt : Int) (ra : Int) (bm : Int) (ha : Int) (n : Nat) (w : Nat) (K : Nat → Int) (T : Nat → Int) (U : Nat → Int) (S : Nat → Int) (F : Nat → Int) (L : Nat → Int) (k : Nat) (hN : zRow NW n K T U S F L w) (hg : zLog n K T U) (hs : zSet S) (hk : k < n) : CI (S := Unit) l yX6_intervalOf cX6_intervalOf 2 ((some .int)) ({ frames := 1, cells := 0, slots := 0, locals := 21 } : Room) D [.ref m0, .int (zI ((k : Nat) : Int))] [(m0, .inr (6, [.ref m1, .ref m2, .ref m3, .int (zI ((sv : Nat) : Int)), .int (zI rf), .ref m4, .int (zI ((len : Nat) : Int)), .int (zI ((sp : Nat) : Int)), .int (zI nu), .int (zI rk), .int (zI rt), .int (zI ra), .ref m5, .ref m6, .int (zI bm), .ref m7, .ref m8, .ref m9, .ref m10, .long (zL ha)])), (m1, iA D 771 NW), (m2, iA D 3084 PA), (m3, iA D 771 AS), (m4, iA D 150 tb), (m5, iA D 250 st), (m6, iA D 250 bo), (m7, iA D 250 sh), (m8, iA D 36 f1), (m9, iA D 36 f2), (m10, iA D 2778 pk)] (fun _ => True) (fun _ => (T k / (360 * S 8))) (fun _ => [(m0, .inr (6, [.ref m1, .ref m2, .ref m3, .int (zI ((sv : Nat) : Int)), .int (zI rf), .ref m4, .int (zI ((len : Nat) : Int)), .int (zI ((sp : Nat) : Int)), .int (zI nu), .int (zI rk), .int (zI rt), .int (zI ra), .ref m5, .ref m6, .int (zI bm), .ref m7, .ref m8, .ref m9, .ref m10, .long (zL ha)])), (m1, iA D 771 NW), (m2, iA D 3084 PA), (m3, iA D 771 AS), (m4, iA D 150 tb), (m5, iA D 250 st), (m6, iA D 250 bo), (m7, iA D 250 sh), (m8, iA D 36 f1), (m9, iA D 36 f2), (m10, iA D 2778 pk)]) := by
  refine CI_of (by decide) (Nat.le_of_ble_eq_true rfl) ?_
  intro p e s m args below meth cd A Q hQ hC hr hnm
  have hC : ZC p s m args meth cd A D 2 cX6_intervalOf RX6 := hC
  have hg0 := hg
  obtain ⟨hn, hK, hT, hU, hM⟩ := hg0
  have hs8 := hs.2.2.2.2.2.2.2.2.1
  show Z p l e ({ frames := 1, cells := 0, slots := 0, locals := 21 } : Room) s m args below meth cd A D Q 2 0 0 [(m0, .inr (6, [.ref m1, .ref m2, .ref m3, .int (zI ((sv : Nat) : Int)), .int (zI rf), .ref m4, .int (zI ((len : Nat) : Int)), .int (zI ((sp : Nat) : Int)), .int (zI nu), .int (zI rk), .int (zI rt), .int (zI ra), .ref m5, .ref m6, .int (zI bm), .ref m7, .ref m8, .ref m9, .ref m10, .long (zL ha)])), (m1, iA D 771 NW), (m2, iA D 3084 PA), (m3, iA D 771 AS), (m4, iA D 150 tb), (m5, iA D 250 st), (m6, iA D 250 bo), (m7, iA D 250 sh), (m8, iA D 36 f1), (m9, iA D 36 f2), (m10, iA D 2778 pk)] [(0, .ref m0), (1, .int (zI ((k : Nat) : Int)))] [] 0
  refine zz_aload_n hC 0 (dk DX6_intervalOf_0k 0 rfl) rfl rfl ?_
  refine zz_iload_n hC 1 (dk DX6_intervalOf_0k 1 rfl) rfl rfl ?_
  refine zz_pureVi hC (c_X6_time l D m0 m1 m2 m3 m4 m5 m6 m7 m8 m9 m10 NW PA AS tb st bo sh f1 f2 pk sv len sp rf nu rk rt ra bm ha n w K T U S F L k hN hg (by omega)) G_X6_69 H_X6_time ⟨Nat.le_of_ble_eq_true rfl, Nat.le_of_ble_eq_true rfl⟩ rfl [0, 1, 2, 3, 4, 5, 6, 7, 8, 9, 10] rfl rfl 0 6 ⟨rfl, rfl, rfl⟩ (As := [.int (zI ((k : Nat) : Int))]) (rest := []) (Nat.le_of_ble_eq_true rfl) rfl ⟨Nat.le_of_ble_eq_true rfl, Nat.le_of_ble_eq_true rfl⟩ (dk DX6_intervalOf_0k 2 rfl) ⟨rfl, rfl⟩ ?_
  have hf1 := hT k (by omega)
  refine zz_sipush hC (dk DX6_intervalOf_0k 3 rfl) (by decide) ?_
  refine zz_aload_n hC 0 (dk DX6_intervalOf_0k 4 rfl) rfl rfl ?_
  refine zz_get hC F_X6_7 0 rfl rfl (dk DX6_intervalOf_0k 5 rfl) ?_
  refine zz_bipush hC (dk DX6_intervalOf_0k 6 rfl) (by decide) ?_
  refine zz_iald hC 8 1 rfl rfl (by omega) (dk DX6_intervalOf_0k 7 rfl) ?_
  rw [hN.1 8 (by omega)]
  have hf2 := zSet_in hs 8 (by omega)
  refine zz_imul hC (dk DX6_intervalOf_0k 8 rfl) ?_
  refine zz_idiv hC (dk DX6_intervalOf_0k 9 rfl) ⟨⟨⟨by omega, by omega⟩, ⟨by omega, by omega⟩⟩, by omega, by omega⟩ ?_
  exact zz_iret hC hQ hr () trivial rfl [0, 1, 2, 3, 4, 5, 6, 7, 8, 9, 10] rfl rfl ⟨Nat.le_refl _, Nat.le_refl _⟩ (dk DX6_intervalOf_0k 10 rfl)
set_option maxHeartbeats 4000000 in
set_option maxRecDepth 100000 in
theorem c_X6_laysPeaks (l : Launch) (D : zG) (m0 : Nat) (m1 : Nat) (m2 : Nat) (m3 : Nat) (m4 : Nat) (m5 : Nat) (m6 : Nat) (m7 : Nat) (m8 : Nat) (m9 : Nat) (m10 : Nat) (NW : Nat → Int) (PA : Nat → Int) (AS : Nat → Int) (tb : Nat → Int) (st : Nat → Int) (bo : Nat → Int) (sh : Nat → Int) (f1 : Nat → Int) (f2 : Nat → Int) (pk : Nat → Int) (sv : Nat) (len : Nat) (sp : Nat) (rf : Int) (nu : Int) (rk : Int) (rt : Int) (ra : Int) (bm : Int) (ha : Int) (n : Nat) (w : Nat) (K : Nat → Int) (T : Nat → Int) (U : Nat → Int) (S : Nat → Int) (F : Nat → Int) (L : Nat → Int) (hN : zRow NW n K T U S F L w) (hg : zLog n K T U) (hs : zSet S) (hw : zWin w F L) : CV (S := (Nat → Int) × (Nat → Int) × (Nat → Int) × (Nat → Int)) l yX6_laysPeaks cX6_laysPeaks 4 (none) ({ frames := 5, cells := 0, slots := 0, locals := 113 } : Room) D [.ref m0] [(m0, .inr (6, [.ref m1, .ref m2, .ref m3, .int (zI ((sv : Nat) : Int)), .int (zI rf), .ref m4, .int (zI ((len : Nat) : Int)), .int (zI ((sp : Nat) : Int)), .int (zI nu), .int (zI rk), .int (zI rt), .int (zI ra), .ref m5, .ref m6, .int (zI bm), .ref m7, .ref m8, .ref m9, .ref m10, .long (zL ha)])), (m1, iA D 771 NW), (m2, iA D 3084 PA), (m3, iA D 771 AS), (m4, iA D 150 tb), (m5, iA D 250 st), (m6, iA D 250 bo), (m7, iA D 250 sh), (m8, iA D 36 f1), (m9, iA D 36 f2), (m10, iA D 2778 pk)] (fun u => zMk n K T U S F L w u.1 u.2.1 ∧ ∀ b : Nat, b < 2778 → u.2.2.2 b = zPks n K T U S F L w b)  (fun u => [(m0, .inr (6, [.ref m1, .ref m2, .ref m3, .int (zI ((sv : Nat) : Int)), .int (zI rf), .ref m4, .int (zI ((len : Nat) : Int)), .int (zI ((sp : Nat) : Int)), .int (zI nu), .int (zI rk), .int (zI rt), .int (zI ra), .ref m5, .ref m6, .int (zI (zBN n K T U S F L w)), .ref m7, .ref m8, .ref m9, .ref m10, .long (zL ha)])), (m1, iA D 771 NW), (m2, iA D 3084 PA), (m3, iA D 771 AS), (m4, iA D 150 tb), (m5, iA D 250 u.1), (m6, iA D 250 u.2.1), (m7, iA D 250 u.2.2.1), (m8, iA D 36 f1), (m9, iA D 36 f2), (m10, iA D 2778 u.2.2.2)]) := by
  refine CV_of (by decide) (Nat.le_of_ble_eq_true rfl) ?_
  intro p e s m args below meth cd A Q hQ hC hr hnm
  have hC : ZC p s m args meth cd A D 4 cX6_laysPeaks RX6 := hC
  have hg0 := hg
  obtain ⟨hn, hK, hT, hU, hM⟩ := hg0
  have hs8 := hs.2.2.2.2.2.2.2.2.1
  show Z p l e ({ frames := 5, cells := 0, slots := 0, locals := 113 } : Room) s m args below meth cd A D Q 4 0 0 [(m0, .inr (6, [.ref m1, .ref m2, .ref m3, .int (zI ((sv : Nat) : Int)), .int (zI rf), .ref m4, .int (zI ((len : Nat) : Int)), .int (zI ((sp : Nat) : Int)), .int (zI nu), .int (zI rk), .int (zI rt), .int (zI ra), .ref m5, .ref m6, .int (zI bm), .ref m7, .ref m8, .ref m9, .ref m10, .long (zL ha)])), (m1, iA D 771 NW), (m2, iA D 3084 PA), (m3, iA D 771 AS), (m4, iA D 150 tb), (m5, iA D 250 st), (m6, iA D 250 bo), (m7, iA D 250 sh), (m8, iA D 36 f1), (m9, iA D 36 f2), (m10, iA D 2778 pk)] [(0, .ref m0)] [] 0
  refine zz_aload_n hC 0 (dk DX6_laysPeaks_0k 0 rfl) rfl rfl ?_
  refine zz_callVv hC (wr := []) (c_X6_laysNow l D m0 m1 m2 m3 m4 m5 m6 m7 m8 m9 m10 NW PA AS tb st bo sh f1 f2 pk sv len sp rf nu rk rt ra bm ha n w K T U S F L hN hg hs hw) G_X6_144 H_X6_laysNow ⟨Nat.le_of_ble_eq_true rfl, Nat.le_of_ble_eq_true rfl⟩ rfl [0, 1, 2, 3, 4, 5, 6, 7, 8, 9, 10] [] rfl rfl ⟨rfl, rfl, by decide⟩ 0 6 ⟨rfl, rfl, rfl⟩ (As := []) (rest := []) (Nat.le_of_ble_eq_true rfl) rfl ⟨Nat.le_of_ble_eq_true rfl, Nat.le_of_ble_eq_true rfl⟩ (dk DX6_laysPeaks_0k 1 rfl) ⟨rfl, rfl⟩ (wb := fun u1 => [(m0, .inr (6, [.ref m1, .ref m2, .ref m3, .int (zI ((sv : Nat) : Int)), .int (zI rf), .ref m4, .int (zI ((len : Nat) : Int)), .int (zI ((sp : Nat) : Int)), .int (zI nu), .int (zI rk), .int (zI rt), .int (zI ra), .ref m5, .ref m6, .int (zI (zBN n K T U S F L w)), .ref m7, .ref m8, .ref m9, .ref m10, .long (zL ha)])), (m1, iA D 771 NW), (m2, iA D 3084 PA), (m3, iA D 771 AS), (m4, iA D 150 tb), (m5, iA D 250 u1.1), (m6, iA D 250 u1.2.1), (m7, iA D 250 u1.2.2), (m8, iA D 36 f1), (m9, iA D 36 f2), (m10, iA D 2778 pk)]) [0, 1, 2, 3, 4, 5, 6, 7, 8, 9, 10] rfl (fun _ => rfl) (fun u1 hu1 => ?_)
  have hu1r := mk_r hK hn hu1
  have hu1s := mk_st hu1
  refine zz_iconst hC (dk DX6_laysPeaks_0k 2 rfl) ?_
  refine zz_istore_n hC (ls' := [(0, .ref m0), (1, .int (zI 0))]) [1, 0] (dk DX6_laysPeaks_0k 3 rfl) rfl (by decide) rfl ?_
  have LP6 : ∀ (fuel6 : Nat) (i : Nat) (p8 : Nat → Int), (i ≤ 2778) → (∀ j, j < i → p8 j = 0) → 2778 - i < fuel6 → Z p l e ({ frames := 5, cells := 0, slots := 0, locals := 113 } : Room) s m args below meth cd A D Q 4 0 0 [(m0, .inr (6, [.ref m1, .ref m2, .ref m3, .int (zI ((sv : Nat) : Int)), .int (zI rf), .ref m4, .int (zI ((len : Nat) : Int)), .int (zI ((sp : Nat) : Int)), .int (zI nu), .int (zI rk), .int (zI rt), .int (zI ra), .ref m5, .ref m6, .int (zI (zBN n K T U S F L w)), .ref m7, .ref m8, .ref m9, .ref m10, .long (zL ha)])), (m1, iA D 771 NW), (m2, iA D 3084 PA), (m3, iA D 771 AS), (m4, iA D 150 tb), (m5, iA D 250 u1.1), (m6, iA D 250 u1.2.1), (m7, iA D 250 u1.2.2), (m8, iA D 36 f1), (m9, iA D 36 f2), (m10, iA D 2778 p8)] [(0, .ref m0), (1, .int (zI ((i : Nat) : Int)))] [] 6 := by
    intro fuel6
    induction fuel6 with
    | zero => intro i p8 hi hf8 hfu; exact absurd hfu (Nat.not_lt_zero _)
    | succ fuel6 ih6 =>
      intro i p8 hi hf8 hfu6
      refine zz_iload_n hC 1 (dk DX6_laysPeaks_0k 4 rfl) rfl rfl ?_
      refine zz_sipush hC (dk DX6_laysPeaks_0k 5 rfl) (by decide) ?_
      refine zz_icmp_ge hC 26 (dk DX6_laysPeaks_0k 6 rfl) (by decide) ⟨⟨by omega, by omega⟩, (by decide)⟩ (fun c2 => ?_) (fun c2 => ?_)
      · refine zz_iconst hC (dk DX6_laysPeaks_0k 14 rfl) ?_
        refine zz_istore_n hC (ls' := [(0, .ref m0), (1, .int (zI 0))]) [1, 0] (dk DX6_laysPeaks_0k 15 rfl) rfl (by decide) rfl ?_
        have LP28 : ∀ (fuel28 : Nat) (i : Nat) (p9 : Nat → Int), (i ≤ n) → (∀ b : Nat, b < 2778 → p9 b = zMx 0 (zPq T (u1.1) (360 * S 8) b) (zCh n K U S) i) → n - i < fuel28 → Z p l e ({ frames := 5, cells := 0, slots := 0, locals := 113 } : Room) s m args below meth cd A D Q 4 0 0 [(m0, .inr (6, [.ref m1, .ref m2, .ref m3, .int (zI ((sv : Nat) : Int)), .int (zI rf), .ref m4, .int (zI ((len : Nat) : Int)), .int (zI ((sp : Nat) : Int)), .int (zI nu), .int (zI rk), .int (zI rt), .int (zI ra), .ref m5, .ref m6, .int (zI (zBN n K T U S F L w)), .ref m7, .ref m8, .ref m9, .ref m10, .long (zL ha)])), (m1, iA D 771 NW), (m2, iA D 3084 PA), (m3, iA D 771 AS), (m4, iA D 150 tb), (m5, iA D 250 u1.1), (m6, iA D 250 u1.2.1), (m7, iA D 250 u1.2.2), (m8, iA D 36 f1), (m9, iA D 36 f2), (m10, iA D 2778 p9)] [(0, .ref m0), (1, .int (zI ((i : Nat) : Int)))] [] 28 := by
          intro fuel28
          induction fuel28 with
          | zero => intro i p9 hi hf hfu; exact absurd hfu (Nat.not_lt_zero _)
          | succ fuel28 ih28 =>
            intro i p9 hi hf hfu28
            have hpr : ∀ b : Nat, b < 2778 → 0 ≤ p9 b ∧ p9 b ≤ 500000000 := fun b hb => by rw [hf b hb]; exact zMx_in (by omega) (fun j hj => zCh_in (K := K) (U := U) (S := S) hn hU hs.2.1 (show j < n by omega))
            refine zz_iload_n hC 1 (dk DX6_laysPeaks_0k 16 rfl) rfl rfl ?_
            refine zz_aload_n hC 0 (dk DX6_laysPeaks_0k 17 rfl) rfl rfl ?_
            refine zz_get hC F_X6_7 0 rfl rfl (dk DX6_laysPeaks_0k 18 rfl) ?_
            refine zz_bipush hC (dk DX6_laysPeaks_0k 19 rfl) (by decide) ?_
            refine zz_iald hC 20 1 rfl rfl (by omega) (dk DX6_laysPeaks_0k 20 rfl) ?_
            rw [hN.2.2.2.1]
            refine zz_icmp_ge hC 92 (dk DX6_laysPeaks_0k 21 rfl) (by decide) ⟨⟨by omega, by omega⟩, ⟨by omega, by omega⟩⟩ (fun c3 => ?_) (fun c3 => ?_)
            · exact zz_ret hC hQ hr (u1.1, u1.2.1, u1.2.2, p9) ⟨hu1, fun b hb => (by show p9 b = _; rw [hf b hb, show i = n by omega]; exact zPks_lk (mk_lk hu1) b)⟩ [0, 1, 2, 3, 4, 5, 6, 7, 8, 9, 10] rfl rfl ⟨Nat.le_refl _, Nat.le_refl _⟩ (dk DX6_laysPeaks_0k 53 rfl)
            · have hsti := hu1r.1 i (by omega)
              have htq := trend_q (hT i (by omega)) hs8
              refine zz_aload_n hC 0 (dk DX6_laysPeaks_0k 22 rfl) rfl rfl ?_
              refine zz_get hC F_X6_22 0 rfl rfl (dk DX6_laysPeaks_0k 23 rfl) ?_
              refine zz_iload_n hC 1 (dk DX6_laysPeaks_0k 24 rfl) rfl rfl ?_
              refine zz_iald hC i 5 rfl rfl (by omega) (dk DX6_laysPeaks_0k 25 rfl) ?_
              refine zz_if_ne hC 86 (dk DX6_laysPeaks_0k 26 rfl) (by decide) ⟨by omega, by omega⟩ (fun c4 => ?_) (fun c4 => ?_)
              · refine zz_iinc hC ((i + 1 : Nat) : Int) (ls' := [(0, .ref m0), (1, .int (zI ((i + 1 : Nat) : Int)))]) 1 [1, 0] (dk DX6_laysPeaks_0k 51 rfl) rfl (by omega) (by decide) rfl ?_
                refine zz_goto hC 28 (dk DX6_laysPeaks_0k 52 rfl) (by decide) ?_
                refine zz_ls [0, 1] rfl ?_
                exact ih28 (i + 1) p9 (by omega) (pk_k hf (by assumption)) (by omega)
              · refine zz_aload_n hC 0 (dk DX6_laysPeaks_0k 27 rfl) rfl rfl ?_
                refine zz_iload_n hC 1 (dk DX6_laysPeaks_0k 28 rfl) rfl rfl ?_
                refine zz_pureVi hC (c_X6_charge l D m0 m1 m2 m3 m4 m5 m6 m7 m8 m9 m10 NW PA AS tb u1.1 u1.2.1 u1.2.2 f1 f2 p9 sv len sp rf nu rk rt ra (zBN n K T U S F L w) ha n w K T U S F L i hN hg hs (by omega)) G_X6_141 H_X6_charge ⟨Nat.le_of_ble_eq_true rfl, Nat.le_of_ble_eq_true rfl⟩ rfl [0, 1, 2, 3, 4, 5, 6, 7, 8, 9, 10] rfl rfl 0 6 ⟨rfl, rfl, rfl⟩ (As := [.int (zI ((i : Nat) : Int))]) (rest := []) (Nat.le_of_ble_eq_true rfl) rfl ⟨Nat.le_of_ble_eq_true rfl, Nat.le_of_ble_eq_true rfl⟩ (dk DX6_laysPeaks_0k 29 rfl) ⟨rfl, rfl⟩ ?_
                have hf5 := zCh_in (K := K) (U := U) (S := S) hn hU hs.2.1 (show i < n by omega)
                refine zz_istore_n hC (ls' := [(0, .ref m0), (1, .int (zI ((i : Nat) : Int))), (2, .int (zI (zCh n K U S i)))]) [1, 2, 0] (dk DX6_laysPeaks_0k 30 rfl) rfl (by decide) rfl ?_
                refine zz_aload_n hC 0 (dk DX6_laysPeaks_0k 31 rfl) rfl rfl ?_
                refine zz_iload_n hC 1 (dk DX6_laysPeaks_0k 32 rfl) rfl rfl ?_
                refine zz_pureVi hC (c_X6_intervalOf l D m0 m1 m2 m3 m4 m5 m6 m7 m8 m9 m10 NW PA AS tb u1.1 u1.2.1 u1.2.2 f1 f2 p9 sv len sp rf nu rk rt ra (zBN n K T U S F L w) ha n w K T U S F L i hN hg hs (by omega)) G_X6_180 H_X6_intervalOf ⟨Nat.le_of_ble_eq_true rfl, Nat.le_of_ble_eq_true rfl⟩ rfl [0, 1, 2, 3, 4, 5, 6, 7, 8, 9, 10] rfl rfl 0 6 ⟨rfl, rfl, rfl⟩ (As := [.int (zI ((i : Nat) : Int))]) (rest := []) (Nat.le_of_ble_eq_true rfl) rfl ⟨Nat.le_of_ble_eq_true rfl, Nat.le_of_ble_eq_true rfl⟩ (dk DX6_laysPeaks_0k 33 rfl) ⟨rfl, rfl⟩ ?_
                have hf6 := trend_q (hT i (by omega)) hs.2.2.2.2.2.2.2.2.1
                refine zz_istore_n hC (ls' := [(0, .ref m0), (1, .int (zI ((i : Nat) : Int))), (2, .int (zI (zCh n K U S i))), (3, .int (zI (T i / (360 * S 8))))]) [1, 2, 3, 0] (dk DX6_laysPeaks_0k 34 rfl) rfl (by decide) rfl ?_
                refine zz_aload_n hC 0 (dk DX6_laysPeaks_0k 35 rfl) rfl rfl ?_
                refine zz_get hC F_X6_37 0 rfl rfl (dk DX6_laysPeaks_0k 36 rfl) ?_
                refine zz_iload_n hC 3 (dk DX6_laysPeaks_0k 37 rfl) rfl rfl ?_
                refine zz_iload_n hC 2 (dk DX6_laysPeaks_0k 38 rfl) rfl rfl ?_
                refine zz_aload_n hC 0 (dk DX6_laysPeaks_0k 39 rfl) rfl rfl ?_
                refine zz_get hC F_X6_37 0 rfl rfl (dk DX6_laysPeaks_0k 40 rfl) ?_
                refine zz_iload_n hC 3 (dk DX6_laysPeaks_0k 41 rfl) rfl rfl ?_
                refine zz_iald hC ((T i / (360 * S 8))).toNat 10 rfl (by omega) (by omega) (dk DX6_laysPeaks_0k 42 rfl) ?_
                have hf7 := hpr (((T i / (360 * S 8))).toNat) (by omega)
                refine zz_icmp_le hC 79 (dk DX6_laysPeaks_0k 43 rfl) (by decide) ⟨⟨by omega, by omega⟩, ⟨by omega, by omega⟩⟩ (fun c8 => ?_) (fun c8 => ?_)
                · refine zz_aload_n hC 0 (dk DX6_laysPeaks_0k 46 rfl) rfl rfl ?_
                  refine zz_get hC F_X6_37 0 rfl rfl (dk DX6_laysPeaks_0k 47 rfl) ?_
                  refine zz_iload_n hC 3 (dk DX6_laysPeaks_0k 48 rfl) rfl rfl ?_
                  refine zz_iald hC ((T i / (360 * S 8))).toNat 10 rfl (by omega) (by omega) (dk DX6_laysPeaks_0k 49 rfl) ?_
                  have hf9 := hpr (((T i / (360 * S 8))).toNat) (by omega)
                  refine zz_iast hC (ws' := [(m0, .inr (6, [.ref m1, .ref m2, .ref m3, .int (zI ((sv : Nat) : Int)), .int (zI rf), .ref m4, .int (zI ((len : Nat) : Int)), .int (zI ((sp : Nat) : Int)), .int (zI nu), .int (zI rk), .int (zI rt), .int (zI ra), .ref m5, .ref m6, .int (zI (zBN n K T U S F L w)), .ref m7, .ref m8, .ref m9, .ref m10, .long (zL ha)])), (m1, iA D 771 NW), (m2, iA D 3084 PA), (m3, iA D 771 AS), (m4, iA D 150 tb), (m5, iA D 250 u1.1), (m6, iA D 250 u1.2.1), (m7, iA D 250 u1.2.2), (m8, iA D 36 f1), (m9, iA D 36 f2), (m10, iA D 2778 (zU p9 (((T i / (360 * S 8))).toNat) (p9 (((T i / (360 * S 8))).toNat))))]) ((T i / (360 * S 8))).toNat 10 rfl (by omega) (by omega) rfl (dk DX6_laysPeaks_0k 50 rfl) ?_
                  refine zz_iinc hC ((i + 1 : Nat) : Int) (ls' := [(0, .ref m0), (1, .int (zI ((i + 1 : Nat) : Int))), (2, .int (zI (zCh n K U S i))), (3, .int (zI (T i / (360 * S 8))))]) 1 [1, 0, 2, 3] (dk DX6_laysPeaks_0k 51 rfl) rfl (by omega) (by decide) rfl ?_
                  refine zz_goto hC 28 (dk DX6_laysPeaks_0k 52 rfl) (by decide) ?_
                  refine zz_ls [0, 1] rfl ?_
                  exact ih28 (i + 1) (zU p9 (((T i / (360 * S 8))).toNat) (p9 (((T i / (360 * S 8))).toNat))) (by omega) (pk_u hf (by omega) (by omega) (by omega)) (by omega)
                · refine zz_iload_n hC 2 (dk DX6_laysPeaks_0k 44 rfl) rfl rfl ?_
                  refine zz_goto hC 85 (dk DX6_laysPeaks_0k 45 rfl) (by decide) ?_
                  refine zz_iast hC (ws' := [(m0, .inr (6, [.ref m1, .ref m2, .ref m3, .int (zI ((sv : Nat) : Int)), .int (zI rf), .ref m4, .int (zI ((len : Nat) : Int)), .int (zI ((sp : Nat) : Int)), .int (zI nu), .int (zI rk), .int (zI rt), .int (zI ra), .ref m5, .ref m6, .int (zI (zBN n K T U S F L w)), .ref m7, .ref m8, .ref m9, .ref m10, .long (zL ha)])), (m1, iA D 771 NW), (m2, iA D 3084 PA), (m3, iA D 771 AS), (m4, iA D 150 tb), (m5, iA D 250 u1.1), (m6, iA D 250 u1.2.1), (m7, iA D 250 u1.2.2), (m8, iA D 36 f1), (m9, iA D 36 f2), (m10, iA D 2778 (zU p9 (((T i / (360 * S 8))).toNat) (zCh n K U S i)))]) ((T i / (360 * S 8))).toNat 10 rfl (by omega) (by omega) rfl (dk DX6_laysPeaks_0k 50 rfl) ?_
                  refine zz_iinc hC ((i + 1 : Nat) : Int) (ls' := [(0, .ref m0), (1, .int (zI ((i + 1 : Nat) : Int))), (2, .int (zI (zCh n K U S i))), (3, .int (zI (T i / (360 * S 8))))]) 1 [1, 0, 2, 3] (dk DX6_laysPeaks_0k 51 rfl) rfl (by omega) (by decide) rfl ?_
                  refine zz_goto hC 28 (dk DX6_laysPeaks_0k 52 rfl) (by decide) ?_
                  refine zz_ls [0, 1] rfl ?_
                  exact ih28 (i + 1) (zU p9 (((T i / (360 * S 8))).toNat) (zCh n K U S i)) (by omega) (pk_u hf (by omega) (by omega) (by omega)) (by omega)
        refine zz_ls [0, 1] rfl ?_
        exact LP28 _ 0 p8 (by omega) (fun b hb => hf8 b (by omega)) (Nat.lt_succ_self _)
      · refine zz_aload_n hC 0 (dk DX6_laysPeaks_0k 7 rfl) rfl rfl ?_
        refine zz_get hC F_X6_37 0 rfl rfl (dk DX6_laysPeaks_0k 8 rfl) ?_
        refine zz_iload_n hC 1 (dk DX6_laysPeaks_0k 9 rfl) rfl rfl ?_
        refine zz_iconst hC (dk DX6_laysPeaks_0k 10 rfl) ?_
        refine zz_iast hC (ws' := [(m0, .inr (6, [.ref m1, .ref m2, .ref m3, .int (zI ((sv : Nat) : Int)), .int (zI rf), .ref m4, .int (zI ((len : Nat) : Int)), .int (zI ((sp : Nat) : Int)), .int (zI nu), .int (zI rk), .int (zI rt), .int (zI ra), .ref m5, .ref m6, .int (zI (zBN n K T U S F L w)), .ref m7, .ref m8, .ref m9, .ref m10, .long (zL ha)])), (m1, iA D 771 NW), (m2, iA D 3084 PA), (m3, iA D 771 AS), (m4, iA D 150 tb), (m5, iA D 250 u1.1), (m6, iA D 250 u1.2.1), (m7, iA D 250 u1.2.2), (m8, iA D 36 f1), (m9, iA D 36 f2), (m10, iA D 2778 (zU p8 i 0))]) i 10 rfl rfl (by omega) rfl (dk DX6_laysPeaks_0k 11 rfl) ?_
        refine zz_iinc hC ((i + 1 : Nat) : Int) (ls' := [(0, .ref m0), (1, .int (zI ((i + 1 : Nat) : Int)))]) 1 [1, 0] (dk DX6_laysPeaks_0k 12 rfl) rfl (by omega) (by decide) rfl ?_
        refine zz_goto hC 6 (dk DX6_laysPeaks_0k 13 rfl) (by decide) ?_
        refine zz_ls [0, 1] rfl ?_
        exact ih6 (i + 1) (zU p8 i 0) (by omega) (fill_s (V := fun _ => 0) rfl hf8) (by omega)
  refine zz_ls [0, 1] rfl ?_
  exact LP6 _ 0 pk (by omega) (fun j hj => absurd hj (by omega)) (Nat.lt_succ_self _)
set_option maxHeartbeats 4000000 in
set_option maxRecDepth 100000 in
theorem c_X6_isLimit (l : Launch) (D : zG) (m0 : Nat) (m1 : Nat) (m2 : Nat) (m3 : Nat) (m4 : Nat) (m5 : Nat) (m6 : Nat) (m7 : Nat) (m8 : Nat) (m9 : Nat) (m10 : Nat) (NW : Nat → Int) (PA : Nat → Int) (AS : Nat → Int) (tb : Nat → Int) (st : Nat → Int) (bo : Nat → Int) (sh : Nat → Int) (f1 : Nat → Int) (f2 : Nat → Int) (pk : Nat → Int) (sv : Nat) (len : Nat) (sp : Nat) (rf : Int) (nu : Int) (rk : Int) (rt : Int) (ra : Int) (bm : Int) (ha : Int) (n : Nat) (w : Nat) (K : Nat → Int) (T : Nat → Int) (U : Nat → Int) (S : Nat → Int) (F : Nat → Int) (L : Nat → Int) (k : Nat) (hN : zRow NW n K T U S F L w) (hs : zSet S) (hpk : ∀ b : Nat, b < 2778 → 0 ≤ pk b ∧ pk b ≤ 500000000) (hk : k < 2778) : CI (S := Unit) l yX6_isLimit cX6_isLimit 4 ((some .boolean)) ({ frames := 0, cells := 0, slots := 0, locals := 0 } : Room) D [.ref m0, .int (zI ((k : Nat) : Int))] [(m0, .inr (6, [.ref m1, .ref m2, .ref m3, .int (zI ((sv : Nat) : Int)), .int (zI rf), .ref m4, .int (zI ((len : Nat) : Int)), .int (zI ((sp : Nat) : Int)), .int (zI nu), .int (zI rk), .int (zI rt), .int (zI ra), .ref m5, .ref m6, .int (zI bm), .ref m7, .ref m8, .ref m9, .ref m10, .long (zL ha)])), (m1, iA D 771 NW), (m2, iA D 3084 PA), (m3, iA D 771 AS), (m4, iA D 150 tb), (m5, iA D 250 st), (m6, iA D 250 bo), (m7, iA D 250 sh), (m8, iA D 36 f1), (m9, iA D 36 f2), (m10, iA D 2778 pk)] (fun _ => True) (fun _ => zB (zLim pk (S 9) (S 10) k = true)) (fun _ => [(m0, .inr (6, [.ref m1, .ref m2, .ref m3, .int (zI ((sv : Nat) : Int)), .int (zI rf), .ref m4, .int (zI ((len : Nat) : Int)), .int (zI ((sp : Nat) : Int)), .int (zI nu), .int (zI rk), .int (zI rt), .int (zI ra), .ref m5, .ref m6, .int (zI bm), .ref m7, .ref m8, .ref m9, .ref m10, .long (zL ha)])), (m1, iA D 771 NW), (m2, iA D 3084 PA), (m3, iA D 771 AS), (m4, iA D 150 tb), (m5, iA D 250 st), (m6, iA D 250 bo), (m7, iA D 250 sh), (m8, iA D 36 f1), (m9, iA D 36 f2), (m10, iA D 2778 pk)]) := by
  refine CI_of (by decide) (Nat.le_of_ble_eq_true rfl) ?_
  intro p e s m args below meth cd A Q hQ hC hr hnm
  have hC : ZC p s m args meth cd A D 4 cX6_isLimit RX6 := hC
  have hs9 := hs.2.2.2.2.2.2.2.2.2.1
  have hs10 := hs.2.2.2.2.2.2.2.2.2.2
  show Z p l e ({ frames := 0, cells := 0, slots := 0, locals := 0 } : Room) s m args below meth cd A D Q 4 0 0 [(m0, .inr (6, [.ref m1, .ref m2, .ref m3, .int (zI ((sv : Nat) : Int)), .int (zI rf), .ref m4, .int (zI ((len : Nat) : Int)), .int (zI ((sp : Nat) : Int)), .int (zI nu), .int (zI rk), .int (zI rt), .int (zI ra), .ref m5, .ref m6, .int (zI bm), .ref m7, .ref m8, .ref m9, .ref m10, .long (zL ha)])), (m1, iA D 771 NW), (m2, iA D 3084 PA), (m3, iA D 771 AS), (m4, iA D 150 tb), (m5, iA D 250 st), (m6, iA D 250 bo), (m7, iA D 250 sh), (m8, iA D 36 f1), (m9, iA D 36 f2), (m10, iA D 2778 pk)] [(0, .ref m0), (1, .int (zI ((k : Nat) : Int)))] [] 0
  refine zz_iload_n hC 1 (dk DX6_isLimit_0k 0 rfl) rfl rfl ?_
  refine zz_iconst hC (dk DX6_isLimit_0k 1 rfl) ?_
  refine zz_iadd hC (dk DX6_isLimit_0k 2 rfl) ?_
  refine zz_aload_n hC 0 (dk DX6_isLimit_0k 3 rfl) rfl rfl ?_
  refine zz_get hC F_X6_7 0 rfl rfl (dk DX6_isLimit_0k 4 rfl) ?_
  refine zz_bipush hC (dk DX6_isLimit_0k 5 rfl) (by decide) ?_
  refine zz_iald hC 9 1 rfl rfl (by omega) (dk DX6_isLimit_0k 6 rfl) ?_
  rw [hN.1 9 (by omega)]
  have hf1 := zSet_in hs 9 (by omega)
  refine zz_icmp_lt hC 17 (dk DX6_isLimit_0k 7 rfl) (by decide) ⟨⟨by omega, by omega⟩, ⟨by omega, by omega⟩⟩ (fun c2 => ?_) (fun c2 => ?_)
  · refine zz_iconst hC (dk DX6_isLimit_0k 10 rfl) ?_
    refine zz_istore_n hC (ls' := [(0, .ref m0), (1, .int (zI ((k : Nat) : Int))), (2, .int (zI 0))]) [1, 2, 0] (dk DX6_isLimit_0k 11 rfl) rfl (by decide) rfl ?_
    refine zz_iconst hC (dk DX6_isLimit_0k 12 rfl) ?_
    refine zz_istore_n hC (ls' := [(0, .ref m0), (1, .int (zI ((k : Nat) : Int))), (2, .int (zI 0)), (3, .int (zI 0))]) [1, 2, 3, 0] (dk DX6_isLimit_0k 13 rfl) rfl (by decide) rfl ?_
    have LP21 : ∀ (fuel21 : Nat) (j : Nat) (b : Int), (zLi pk (S 9) (S 10) k j b) → (b = 0 ∨ b = 1) → (j ≤ 10) → 10 - j < fuel21 → Z p l e ({ frames := 0, cells := 0, slots := 0, locals := 0 } : Room) s m args below meth cd A D Q 4 0 0 [(m0, .inr (6, [.ref m1, .ref m2, .ref m3, .int (zI ((sv : Nat) : Int)), .int (zI rf), .ref m4, .int (zI ((len : Nat) : Int)), .int (zI ((sp : Nat) : Int)), .int (zI nu), .int (zI rk), .int (zI rt), .int (zI ra), .ref m5, .ref m6, .int (zI bm), .ref m7, .ref m8, .ref m9, .ref m10, .long (zL ha)])), (m1, iA D 771 NW), (m2, iA D 3084 PA), (m3, iA D 771 AS), (m4, iA D 150 tb), (m5, iA D 250 st), (m6, iA D 250 bo), (m7, iA D 250 sh), (m8, iA D 36 f1), (m9, iA D 36 f2), (m10, iA D 2778 pk)] [(0, .ref m0), (1, .int (zI ((k : Nat) : Int))), (2, .int (zI b)), (3, .int (zI ((j : Nat) : Int)))] [] 21 := by
      intro fuel21
      induction fuel21 with
      | zero => intro j b hli hbr hjr hfu; exact absurd hfu (Nat.not_lt_zero _)
      | succ fuel21 ih21 =>
        intro j b hli hbr hjr hfu21
        refine zz_iload_n hC 3 (dk DX6_isLimit_0k 14 rfl) rfl rfl ?_
        refine zz_aload_n hC 0 (dk DX6_isLimit_0k 15 rfl) rfl rfl ?_
        refine zz_get hC F_X6_7 0 rfl rfl (dk DX6_isLimit_0k 16 rfl) ?_
        refine zz_bipush hC (dk DX6_isLimit_0k 17 rfl) (by decide) ?_
        refine zz_iald hC 9 1 rfl rfl (by omega) (dk DX6_isLimit_0k 18 rfl) ?_
        rw [hN.1 9 (by omega)]
        have hf3 := zSet_in hs 9 (by omega)
        refine zz_icmp_ge hC 66 (dk DX6_isLimit_0k 19 rfl) (by decide) ⟨⟨by omega, by omega⟩, ⟨by omega, by omega⟩⟩ (fun c4 => ?_) (fun c4 => ?_)
        · refine zz_iload_n hC 2 (dk DX6_isLimit_0k 39 rfl) rfl rfl ?_
          exact zz_zret hC hQ hr () trivial (li_e hli (by omega)) (by omega) [0, 1, 2, 3, 4, 5, 6, 7, 8, 9, 10] rfl rfl ⟨Nat.le_refl _, Nat.le_refl _⟩ (dk DX6_isLimit_0k 40 rfl)
        · refine zz_iload_n hC 2 (dk DX6_isLimit_0k 20 rfl) rfl rfl ?_
          refine zz_if_eq hC 66 (dk DX6_isLimit_0k 21 rfl) (by decide) ⟨by omega, by omega⟩ (fun c5 => ?_) (fun c5 => ?_)
          · refine zz_iload_n hC 2 (dk DX6_isLimit_0k 39 rfl) rfl rfl ?_
            exact zz_zret hC hQ hr () trivial (li_e hli (by omega)) (by omega) [0, 1, 2, 3, 4, 5, 6, 7, 8, 9, 10] rfl rfl ⟨Nat.le_refl _, Nat.le_refl _⟩ (dk DX6_isLimit_0k 40 rfl)
          · have hpe : S 9 ≤ (k : Int) + 1 := by rcases hli with h | h <;> first | omega | exact h.2.1
            refine zz_aload_n hC 0 (dk DX6_isLimit_0k 22 rfl) rfl rfl ?_
            refine zz_get hC F_X6_37 0 rfl rfl (dk DX6_isLimit_0k 23 rfl) ?_
            refine zz_iload_n hC 1 (dk DX6_isLimit_0k 24 rfl) rfl rfl ?_
            refine zz_iload_n hC 3 (dk DX6_isLimit_0k 25 rfl) rfl rfl ?_
            refine zz_isub hC (dk DX6_isLimit_0k 26 rfl) ?_
            refine zz_iald hC (k - j) 10 rfl (by omega) (by omega) (dk DX6_isLimit_0k 27 rfl) ?_
            have hf6 := hpk (k - j) (by omega)
            refine zz_aload_n hC 0 (dk DX6_isLimit_0k 28 rfl) rfl rfl ?_
            refine zz_get hC F_X6_7 0 rfl rfl (dk DX6_isLimit_0k 29 rfl) ?_
            refine zz_bipush hC (dk DX6_isLimit_0k 30 rfl) (by decide) ?_
            refine zz_iald hC 10 1 rfl rfl (by omega) (dk DX6_isLimit_0k 31 rfl) ?_
            rw [hN.1 10 (by omega)]
            have hf7 := zSet_in hs 10 (by omega)
            refine zz_icmp_lt hC 58 (dk DX6_isLimit_0k 32 rfl) (by decide) ⟨⟨by omega, by omega⟩, ⟨by omega, by omega⟩⟩ (fun c8 => ?_) (fun c8 => ?_)
            · refine zz_iconst hC (dk DX6_isLimit_0k 35 rfl) ?_
              refine zz_istore_n hC (ls' := [(0, .ref m0), (1, .int (zI ((k : Nat) : Int))), (2, .int (zI 0)), (3, .int (zI ((j : Nat) : Int)))]) [1, 2, 0, 3] (dk DX6_isLimit_0k 36 rfl) rfl (by decide) rfl ?_
              refine zz_iinc hC ((j + 1 : Nat) : Int) (ls' := [(0, .ref m0), (1, .int (zI ((k : Nat) : Int))), (2, .int (zI 0)), (3, .int (zI ((j + 1 : Nat) : Int)))]) 3 [1, 2, 3, 0] (dk DX6_isLimit_0k 37 rfl) rfl (by omega) (by decide) rfl ?_
              refine zz_goto hC 21 (dk DX6_isLimit_0k 38 rfl) (by decide) ?_
              refine zz_ls [0, 1, 2, 3] rfl ?_
              exact ih21 (j + 1) 0 (li_s hli (by omega) (by omega) (by omega)) (by omega) (by omega) (by omega)
            · refine zz_iconst hC (dk DX6_isLimit_0k 33 rfl) ?_
              refine zz_goto hC 59 (dk DX6_isLimit_0k 34 rfl) (by decide) ?_
              refine zz_istore_n hC (ls' := [(0, .ref m0), (1, .int (zI ((k : Nat) : Int))), (2, .int (zI 1)), (3, .int (zI ((j : Nat) : Int)))]) [1, 2, 0, 3] (dk DX6_isLimit_0k 36 rfl) rfl (by decide) rfl ?_
              refine zz_iinc hC ((j + 1 : Nat) : Int) (ls' := [(0, .ref m0), (1, .int (zI ((k : Nat) : Int))), (2, .int (zI 1)), (3, .int (zI ((j + 1 : Nat) : Int)))]) 3 [1, 2, 3, 0] (dk DX6_isLimit_0k 37 rfl) rfl (by omega) (by decide) rfl ?_
              refine zz_goto hC 21 (dk DX6_isLimit_0k 38 rfl) (by decide) ?_
              refine zz_ls [0, 1, 2, 3] rfl ?_
              exact ih21 (j + 1) 1 (li_s hli (by omega) (by omega) (by omega)) (by omega) (by omega) (by omega)
    refine zz_ls [0, 1, 2, 3] rfl ?_
    exact LP21 _ 0 0 (li_0 (by omega)) (by omega) (by omega) (Nat.lt_succ_self _)
  · refine zz_iconst hC (dk DX6_isLimit_0k 8 rfl) ?_
    refine zz_goto hC 18 (dk DX6_isLimit_0k 9 rfl) (by decide) ?_
    refine zz_istore_n hC (ls' := [(0, .ref m0), (1, .int (zI ((k : Nat) : Int))), (2, .int (zI 1))]) [1, 2, 0] (dk DX6_isLimit_0k 11 rfl) rfl (by decide) rfl ?_
    refine zz_iconst hC (dk DX6_isLimit_0k 12 rfl) ?_
    refine zz_istore_n hC (ls' := [(0, .ref m0), (1, .int (zI ((k : Nat) : Int))), (2, .int (zI 1)), (3, .int (zI 0))]) [1, 2, 3, 0] (dk DX6_isLimit_0k 13 rfl) rfl (by decide) rfl ?_
    have LP21 : ∀ (fuel21 : Nat) (j : Nat) (b : Int), (zLi pk (S 9) (S 10) k j b) → (b = 0 ∨ b = 1) → (j ≤ 10) → 10 - j < fuel21 → Z p l e ({ frames := 0, cells := 0, slots := 0, locals := 0 } : Room) s m args below meth cd A D Q 4 0 0 [(m0, .inr (6, [.ref m1, .ref m2, .ref m3, .int (zI ((sv : Nat) : Int)), .int (zI rf), .ref m4, .int (zI ((len : Nat) : Int)), .int (zI ((sp : Nat) : Int)), .int (zI nu), .int (zI rk), .int (zI rt), .int (zI ra), .ref m5, .ref m6, .int (zI bm), .ref m7, .ref m8, .ref m9, .ref m10, .long (zL ha)])), (m1, iA D 771 NW), (m2, iA D 3084 PA), (m3, iA D 771 AS), (m4, iA D 150 tb), (m5, iA D 250 st), (m6, iA D 250 bo), (m7, iA D 250 sh), (m8, iA D 36 f1), (m9, iA D 36 f2), (m10, iA D 2778 pk)] [(0, .ref m0), (1, .int (zI ((k : Nat) : Int))), (2, .int (zI b)), (3, .int (zI ((j : Nat) : Int)))] [] 21 := by
      intro fuel21
      induction fuel21 with
      | zero => intro j b hli hbr hjr hfu; exact absurd hfu (Nat.not_lt_zero _)
      | succ fuel21 ih21 =>
        intro j b hli hbr hjr hfu21
        refine zz_iload_n hC 3 (dk DX6_isLimit_0k 14 rfl) rfl rfl ?_
        refine zz_aload_n hC 0 (dk DX6_isLimit_0k 15 rfl) rfl rfl ?_
        refine zz_get hC F_X6_7 0 rfl rfl (dk DX6_isLimit_0k 16 rfl) ?_
        refine zz_bipush hC (dk DX6_isLimit_0k 17 rfl) (by decide) ?_
        refine zz_iald hC 9 1 rfl rfl (by omega) (dk DX6_isLimit_0k 18 rfl) ?_
        rw [hN.1 9 (by omega)]
        have hf9 := zSet_in hs 9 (by omega)
        refine zz_icmp_ge hC 66 (dk DX6_isLimit_0k 19 rfl) (by decide) ⟨⟨by omega, by omega⟩, ⟨by omega, by omega⟩⟩ (fun c10 => ?_) (fun c10 => ?_)
        · refine zz_iload_n hC 2 (dk DX6_isLimit_0k 39 rfl) rfl rfl ?_
          exact zz_zret hC hQ hr () trivial (li_e hli (by omega)) (by omega) [0, 1, 2, 3, 4, 5, 6, 7, 8, 9, 10] rfl rfl ⟨Nat.le_refl _, Nat.le_refl _⟩ (dk DX6_isLimit_0k 40 rfl)
        · refine zz_iload_n hC 2 (dk DX6_isLimit_0k 20 rfl) rfl rfl ?_
          refine zz_if_eq hC 66 (dk DX6_isLimit_0k 21 rfl) (by decide) ⟨by omega, by omega⟩ (fun c11 => ?_) (fun c11 => ?_)
          · refine zz_iload_n hC 2 (dk DX6_isLimit_0k 39 rfl) rfl rfl ?_
            exact zz_zret hC hQ hr () trivial (li_e hli (by omega)) (by omega) [0, 1, 2, 3, 4, 5, 6, 7, 8, 9, 10] rfl rfl ⟨Nat.le_refl _, Nat.le_refl _⟩ (dk DX6_isLimit_0k 40 rfl)
          · have hpe : S 9 ≤ (k : Int) + 1 := by rcases hli with h | h <;> first | omega | exact h.2.1
            refine zz_aload_n hC 0 (dk DX6_isLimit_0k 22 rfl) rfl rfl ?_
            refine zz_get hC F_X6_37 0 rfl rfl (dk DX6_isLimit_0k 23 rfl) ?_
            refine zz_iload_n hC 1 (dk DX6_isLimit_0k 24 rfl) rfl rfl ?_
            refine zz_iload_n hC 3 (dk DX6_isLimit_0k 25 rfl) rfl rfl ?_
            refine zz_isub hC (dk DX6_isLimit_0k 26 rfl) ?_
            refine zz_iald hC (k - j) 10 rfl (by omega) (by omega) (dk DX6_isLimit_0k 27 rfl) ?_
            have hf12 := hpk (k - j) (by omega)
            refine zz_aload_n hC 0 (dk DX6_isLimit_0k 28 rfl) rfl rfl ?_
            refine zz_get hC F_X6_7 0 rfl rfl (dk DX6_isLimit_0k 29 rfl) ?_
            refine zz_bipush hC (dk DX6_isLimit_0k 30 rfl) (by decide) ?_
            refine zz_iald hC 10 1 rfl rfl (by omega) (dk DX6_isLimit_0k 31 rfl) ?_
            rw [hN.1 10 (by omega)]
            have hf13 := zSet_in hs 10 (by omega)
            refine zz_icmp_lt hC 58 (dk DX6_isLimit_0k 32 rfl) (by decide) ⟨⟨by omega, by omega⟩, ⟨by omega, by omega⟩⟩ (fun c14 => ?_) (fun c14 => ?_)
            · refine zz_iconst hC (dk DX6_isLimit_0k 35 rfl) ?_
              refine zz_istore_n hC (ls' := [(0, .ref m0), (1, .int (zI ((k : Nat) : Int))), (2, .int (zI 0)), (3, .int (zI ((j : Nat) : Int)))]) [1, 2, 0, 3] (dk DX6_isLimit_0k 36 rfl) rfl (by decide) rfl ?_
              refine zz_iinc hC ((j + 1 : Nat) : Int) (ls' := [(0, .ref m0), (1, .int (zI ((k : Nat) : Int))), (2, .int (zI 0)), (3, .int (zI ((j + 1 : Nat) : Int)))]) 3 [1, 2, 3, 0] (dk DX6_isLimit_0k 37 rfl) rfl (by omega) (by decide) rfl ?_
              refine zz_goto hC 21 (dk DX6_isLimit_0k 38 rfl) (by decide) ?_
              refine zz_ls [0, 1, 2, 3] rfl ?_
              exact ih21 (j + 1) 0 (li_s hli (by omega) (by omega) (by omega)) (by omega) (by omega) (by omega)
            · refine zz_iconst hC (dk DX6_isLimit_0k 33 rfl) ?_
              refine zz_goto hC 59 (dk DX6_isLimit_0k 34 rfl) (by decide) ?_
              refine zz_istore_n hC (ls' := [(0, .ref m0), (1, .int (zI ((k : Nat) : Int))), (2, .int (zI 1)), (3, .int (zI ((j : Nat) : Int)))]) [1, 2, 0, 3] (dk DX6_isLimit_0k 36 rfl) rfl (by decide) rfl ?_
              refine zz_iinc hC ((j + 1 : Nat) : Int) (ls' := [(0, .ref m0), (1, .int (zI ((k : Nat) : Int))), (2, .int (zI 1)), (3, .int (zI ((j + 1 : Nat) : Int)))]) 3 [1, 2, 3, 0] (dk DX6_isLimit_0k 37 rfl) rfl (by omega) (by decide) rfl ?_
              refine zz_goto hC 21 (dk DX6_isLimit_0k 38 rfl) (by decide) ?_
              refine zz_ls [0, 1, 2, 3] rfl ?_
              exact ih21 (j + 1) 1 (li_s hli (by omega) (by omega) (by omega)) (by omega) (by omega) (by omega)
    refine zz_ls [0, 1, 2, 3] rfl ?_
    exact LP21 _ 0 1 (li_0 (by omega)) (by omega) (by omega) (Nat.lt_succ_self _)
set_option maxHeartbeats 4000000 in
set_option maxRecDepth 100000 in
theorem c_X6_isGrowth (l : Launch) (D : zG) (m0 : Nat) (m1 : Nat) (m2 : Nat) (m3 : Nat) (m4 : Nat) (m5 : Nat) (m6 : Nat) (m7 : Nat) (m8 : Nat) (m9 : Nat) (m10 : Nat) (NW : Nat → Int) (PA : Nat → Int) (AS : Nat → Int) (tb : Nat → Int) (st : Nat → Int) (bo : Nat → Int) (sh : Nat → Int) (f1 : Nat → Int) (f2 : Nat → Int) (pk : Nat → Int) (sv : Nat) (len : Nat) (sp : Nat) (rf : Int) (nu : Int) (rk : Int) (rt : Int) (ra : Int) (bm : Int) (ha : Int) (n : Nat) (w : Nat) (K : Nat → Int) (T : Nat → Int) (U : Nat → Int) (S : Nat → Int) (F : Nat → Int) (L : Nat → Int) (k : Nat) (hpk : ∀ b : Nat, b < 2778 → 0 ≤ pk b ∧ pk b ≤ 500000000) (hk : k < 2778) : CI (S := Unit) l yX6_isGrowth cX6_isGrowth 2 ((some .boolean)) ({ frames := 0, cells := 0, slots := 0, locals := 0 } : Room) D [.ref m0, .int (zI ((k : Nat) : Int))] [(m0, .inr (6, [.ref m1, .ref m2, .ref m3, .int (zI ((sv : Nat) : Int)), .int (zI rf), .ref m4, .int (zI ((len : Nat) : Int)), .int (zI ((sp : Nat) : Int)), .int (zI nu), .int (zI rk), .int (zI rt), .int (zI ra), .ref m5, .ref m6, .int (zI bm), .ref m7, .ref m8, .ref m9, .ref m10, .long (zL ha)])), (m1, iA D 771 NW), (m2, iA D 3084 PA), (m3, iA D 771 AS), (m4, iA D 150 tb), (m5, iA D 250 st), (m6, iA D 250 bo), (m7, iA D 250 sh), (m8, iA D 36 f1), (m9, iA D 36 f2), (m10, iA D 2778 pk)] (fun _ => True) (fun _ => zB (zGro pk k = true)) (fun _ => [(m0, .inr (6, [.ref m1, .ref m2, .ref m3, .int (zI ((sv : Nat) : Int)), .int (zI rf), .ref m4, .int (zI ((len : Nat) : Int)), .int (zI ((sp : Nat) : Int)), .int (zI nu), .int (zI rk), .int (zI rt), .int (zI ra), .ref m5, .ref m6, .int (zI bm), .ref m7, .ref m8, .ref m9, .ref m10, .long (zL ha)])), (m1, iA D 771 NW), (m2, iA D 3084 PA), (m3, iA D 771 AS), (m4, iA D 150 tb), (m5, iA D 250 st), (m6, iA D 250 bo), (m7, iA D 250 sh), (m8, iA D 36 f1), (m9, iA D 36 f2), (m10, iA D 2778 pk)]) := by
  refine CI_of (by decide) (Nat.le_of_ble_eq_true rfl) ?_
  intro p e s m args below meth cd A Q hQ hC hr hnm
  have hC : ZC p s m args meth cd A D 2 cX6_isGrowth RX6 := hC
  show Z p l e ({ frames := 0, cells := 0, slots := 0, locals := 0 } : Room) s m args below meth cd A D Q 2 0 0 [(m0, .inr (6, [.ref m1, .ref m2, .ref m3, .int (zI ((sv : Nat) : Int)), .int (zI rf), .ref m4, .int (zI ((len : Nat) : Int)), .int (zI ((sp : Nat) : Int)), .int (zI nu), .int (zI rk), .int (zI rt), .int (zI ra), .ref m5, .ref m6, .int (zI bm), .ref m7, .ref m8, .ref m9, .ref m10, .long (zL ha)])), (m1, iA D 771 NW), (m2, iA D 3084 PA), (m3, iA D 771 AS), (m4, iA D 150 tb), (m5, iA D 250 st), (m6, iA D 250 bo), (m7, iA D 250 sh), (m8, iA D 36 f1), (m9, iA D 36 f2), (m10, iA D 2778 pk)] [(0, .ref m0), (1, .int (zI ((k : Nat) : Int)))] [] 0
  refine zz_iload_n hC 1 (dk DX6_isGrowth_0k 0 rfl) rfl rfl ?_
  refine zz_iconst hC (dk DX6_isGrowth_0k 1 rfl) ?_
  refine zz_icmp_lt hC 66 (dk DX6_isGrowth_0k 2 rfl) (by decide) ⟨⟨by omega, by omega⟩, (by decide)⟩ (fun c1 => ?_) (fun c1 => ?_)
  · refine zz_iconst hC (dk DX6_isGrowth_0k 44 rfl) ?_
    exact zz_zret hC hQ hr () trivial (zB_f (gro_f (by omega))).symm (by decide) [0, 1, 2, 3, 4, 5, 6, 7, 8, 9, 10] rfl rfl ⟨Nat.le_refl _, Nat.le_refl _⟩ (dk DX6_isGrowth_0k 45 rfl)
  · refine zz_aload_n hC 0 (dk DX6_isGrowth_0k 3 rfl) rfl rfl ?_
    refine zz_get hC F_X6_37 0 rfl rfl (dk DX6_isGrowth_0k 4 rfl) ?_
    refine zz_iload_n hC 1 (dk DX6_isGrowth_0k 5 rfl) rfl rfl ?_
    refine zz_iald hC k 10 rfl rfl (by omega) (dk DX6_isGrowth_0k 6 rfl) ?_
    have hf2 := hpk k (by omega)
    refine zz_if_le hC 66 (dk DX6_isGrowth_0k 7 rfl) (by decide) ⟨by omega, by omega⟩ (fun c3 => ?_) (fun c3 => ?_)
    · refine zz_iconst hC (dk DX6_isGrowth_0k 44 rfl) ?_
      exact zz_zret hC hQ hr () trivial (zB_f (gro_f (by omega))).symm (by decide) [0, 1, 2, 3, 4, 5, 6, 7, 8, 9, 10] rfl rfl ⟨Nat.le_refl _, Nat.le_refl _⟩ (dk DX6_isGrowth_0k 45 rfl)
    · refine zz_ldc2 hC 3 K_X6_183 (by decide) (dk DX6_isGrowth_0k 8 rfl) ?_
      refine zz_aload_n hC 0 (dk DX6_isGrowth_0k 9 rfl) rfl rfl ?_
      refine zz_get hC F_X6_37 0 rfl rfl (dk DX6_isGrowth_0k 10 rfl) ?_
      refine zz_iload_n hC 1 (dk DX6_isGrowth_0k 11 rfl) rfl rfl ?_
      refine zz_iald hC k 10 rfl rfl (by omega) (dk DX6_isGrowth_0k 12 rfl) ?_
      have hf4 := hpk k (by omega)
      refine zz_i2l hC (dk DX6_isGrowth_0k 13 rfl) ⟨by omega, by omega⟩ ?_
      refine zz_lmul hC (dk DX6_isGrowth_0k 14 rfl) ?_
      refine zz_ldc2 hC 2 K_X6_185 (by decide) (dk DX6_isGrowth_0k 15 rfl) ?_
      refine zz_aload_n hC 0 (dk DX6_isGrowth_0k 16 rfl) rfl rfl ?_
      refine zz_get hC F_X6_37 0 rfl rfl (dk DX6_isGrowth_0k 17 rfl) ?_
      refine zz_iload_n hC 1 (dk DX6_isGrowth_0k 18 rfl) rfl rfl ?_
      refine zz_iconst hC (dk DX6_isGrowth_0k 19 rfl) ?_
      refine zz_isub hC (dk DX6_isGrowth_0k 20 rfl) ?_
      refine zz_iald hC (k - 1) 10 rfl (by omega) (by omega) (dk DX6_isGrowth_0k 21 rfl) ?_
      have hf5 := hpk (k - 1) (by omega)
      refine zz_i2l hC (dk DX6_isGrowth_0k 22 rfl) ⟨by omega, by omega⟩ ?_
      refine zz_aload_n hC 0 (dk DX6_isGrowth_0k 23 rfl) rfl rfl ?_
      refine zz_get hC F_X6_37 0 rfl rfl (dk DX6_isGrowth_0k 24 rfl) ?_
      refine zz_iload_n hC 1 (dk DX6_isGrowth_0k 25 rfl) rfl rfl ?_
      refine zz_iconst hC (dk DX6_isGrowth_0k 26 rfl) ?_
      refine zz_isub hC (dk DX6_isGrowth_0k 27 rfl) ?_
      refine zz_iald hC (k - 2) 10 rfl (by omega) (by omega) (dk DX6_isGrowth_0k 28 rfl) ?_
      have hf6 := hpk (k - 2) (by omega)
      refine zz_i2l hC (dk DX6_isGrowth_0k 29 rfl) ⟨by omega, by omega⟩ ?_
      refine zz_ladd hC (dk DX6_isGrowth_0k 30 rfl) ?_
      refine zz_aload_n hC 0 (dk DX6_isGrowth_0k 31 rfl) rfl rfl ?_
      refine zz_get hC F_X6_37 0 rfl rfl (dk DX6_isGrowth_0k 32 rfl) ?_
      refine zz_iload_n hC 1 (dk DX6_isGrowth_0k 33 rfl) rfl rfl ?_
      refine zz_iconst hC (dk DX6_isGrowth_0k 34 rfl) ?_
      refine zz_isub hC (dk DX6_isGrowth_0k 35 rfl) ?_
      refine zz_iald hC (k - 3) 10 rfl (by omega) (by omega) (dk DX6_isGrowth_0k 36 rfl) ?_
      have hf7 := hpk (k - 3) (by omega)
      refine zz_i2l hC (dk DX6_isGrowth_0k 37 rfl) ⟨by omega, by omega⟩ ?_
      refine zz_ladd hC (dk DX6_isGrowth_0k 38 rfl) ?_
      refine zz_lmul hC (dk DX6_isGrowth_0k 39 rfl) ?_
      refine zz_lcmp_lt hC 66 (dk DX6_isGrowth_0k 40 rfl) (dk DX6_isGrowth_0k 41 rfl) (by decide) ⟨⟨by omega, by omega⟩, ⟨by omega, by omega⟩⟩ (fun c8 => ?_) (fun c8 => ?_)
      · refine zz_iconst hC (dk DX6_isGrowth_0k 44 rfl) ?_
        exact zz_zret hC hQ hr () trivial (zB_f (gro_f (by omega))).symm (by decide) [0, 1, 2, 3, 4, 5, 6, 7, 8, 9, 10] rfl rfl ⟨Nat.le_refl _, Nat.le_refl _⟩ (dk DX6_isGrowth_0k 45 rfl)
      · refine zz_iconst hC (dk DX6_isGrowth_0k 42 rfl) ?_
        refine zz_goto hC 67 (dk DX6_isGrowth_0k 43 rfl) (by decide) ?_
        exact zz_zret hC hQ hr () trivial (zB_t (gro_t (by omega))).symm (by decide) [0, 1, 2, 3, 4, 5, 6, 7, 8, 9, 10] rfl rfl ⟨Nat.le_refl _, Nat.le_refl _⟩ (dk DX6_isGrowth_0k 45 rfl)
set_option maxHeartbeats 4000000 in
set_option maxRecDepth 100000 in
theorem c_X6_tellInterval (l : Launch) (D : zG) (m0 : Nat) (m1 : Nat) (m2 : Nat) (m3 : Nat) (m4 : Nat) (m5 : Nat) (m6 : Nat) (m7 : Nat) (m8 : Nat) (m9 : Nat) (m10 : Nat) (NW : Nat → Int) (PA : Nat → Int) (AS : Nat → Int) (tb : Nat → Int) (st : Nat → Int) (bo : Nat → Int) (sh : Nat → Int) (f1 : Nat → Int) (f2 : Nat → Int) (pk : Nat → Int) (sv : Nat) (len : Nat) (sp : Nat) (rf : Int) (nu : Int) (rk : Int) (rt : Int) (ra : Int) (bm : Int) (ha : Int) (n : Nat) (w : Nat) (K : Nat → Int) (T : Nat → Int) (U : Nat → Int) (S : Nat → Int) (F : Nat → Int) (L : Nat → Int) (k : Nat) (v : Int) (hN : zRow NW n K T U S F L w) (hg : zLog n K T U) (hs : zSet S) (hst6 : ∀ j, j < n → 0 ≤ st j ∧ st j ≤ 6) (hpk : ∀ b : Nat, b < 2778 → 0 ≤ pk b ∧ pk b ≤ 500000000) (hk : k < 2778) (hv : 0 ≤ v ∧ v ≤ 4) : CL (S := Unit) l yX6_tellInterval cX6_tellInterval 7 ((some .long)) ({ frames := 2, cells := 0, slots := 0, locals := 45 } : Room) D [.ref m0, .int (zI ((k : Nat) : Int)), .int (zI v)] [(m0, .inr (6, [.ref m1, .ref m2, .ref m3, .int (zI ((sv : Nat) : Int)), .int (zI rf), .ref m4, .int (zI ((len : Nat) : Int)), .int (zI ((sp : Nat) : Int)), .int (zI nu), .int (zI rk), .int (zI rt), .int (zI ra), .ref m5, .ref m6, .int (zI bm), .ref m7, .ref m8, .ref m9, .ref m10, .long (zL ha)])), (m1, iA D 771 NW), (m2, iA D 3084 PA), (m3, iA D 771 AS), (m4, iA D 150 tb), (m5, iA D 250 st), (m6, iA D 250 bo), (m7, iA D 250 sh), (m8, iA D 36 f1), (m9, iA D 36 f2), (m10, iA D 2778 pk)] (fun _ => True) (fun _ => (zTi n T st (zCh n K U S) S pk k v)) (fun _ => [(m0, .inr (6, [.ref m1, .ref m2, .ref m3, .int (zI ((sv : Nat) : Int)), .int (zI rf), .ref m4, .int (zI ((len : Nat) : Int)), .int (zI ((sp : Nat) : Int)), .int (zI nu), .int (zI rk), .int (zI rt), .int (zI ra), .ref m5, .ref m6, .int (zI bm), .ref m7, .ref m8, .ref m9, .ref m10, .long (zL ha)])), (m1, iA D 771 NW), (m2, iA D 3084 PA), (m3, iA D 771 AS), (m4, iA D 150 tb), (m5, iA D 250 st), (m6, iA D 250 bo), (m7, iA D 250 sh), (m8, iA D 36 f1), (m9, iA D 36 f2), (m10, iA D 2778 pk)]) := by
  refine CL_of (by decide) (Nat.le_of_ble_eq_true rfl) ?_
  intro p e s m args below meth cd A Q hQ hC hr hnm
  have hC : ZC p s m args meth cd A D 7 cX6_tellInterval RX6 := hC
  have hg0 := hg
  obtain ⟨hn, hK, hT, hU, hM⟩ := hg0
  have hs8 := hs.2.2.2.2.2.2.2.2.1
  show Z p l e ({ frames := 2, cells := 0, slots := 0, locals := 45 } : Room) s m args below meth cd A D Q 7 0 0 [(m0, .inr (6, [.ref m1, .ref m2, .ref m3, .int (zI ((sv : Nat) : Int)), .int (zI rf), .ref m4, .int (zI ((len : Nat) : Int)), .int (zI ((sp : Nat) : Int)), .int (zI nu), .int (zI rk), .int (zI rt), .int (zI ra), .ref m5, .ref m6, .int (zI bm), .ref m7, .ref m8, .ref m9, .ref m10, .long (zL ha)])), (m1, iA D 771 NW), (m2, iA D 3084 PA), (m3, iA D 771 AS), (m4, iA D 150 tb), (m5, iA D 250 st), (m6, iA D 250 bo), (m7, iA D 250 sh), (m8, iA D 36 f1), (m9, iA D 36 f2), (m10, iA D 2778 pk)] [(0, .ref m0), (1, .int (zI ((k : Nat) : Int))), (2, .int (zI v))] [] 0
  refine zz_iconst hC (dk DX6_tellInterval_0k 0 rfl) ?_
  refine zz_istore_n hC (ls' := [(0, .ref m0), (1, .int (zI ((k : Nat) : Int))), (2, .int (zI v)), (3, .int (zI 0))]) [1, 2, 3, 0] (dk DX6_tellInterval_0k 1 rfl) rfl (by decide) rfl ?_
  refine zz_lconst hC 0 (dk DX6_tellInterval_0k 2 rfl) (by decide) ?_
  refine zz_lstore hC (ls' := [(0, .ref m0), (1, .int (zI ((k : Nat) : Int))), (2, .int (zI v)), (3, .int (zI 0)), (4, .long (zL 0))]) [1, 2, 3, 4, 0] (dk DX6_tellInterval_0k 3 rfl) (by decide) rfl ?_
  refine zz_iconst hC (dk DX6_tellInterval_0k 4 rfl) ?_
  refine zz_istore hC (ls' := [(0, .ref m0), (1, .int (zI ((k : Nat) : Int))), (2, .int (zI v)), (3, .int (zI 0)), (4, .long (zL 0)), (6, .int (zI 0))]) [1, 2, 3, 4, 5, 0] (dk DX6_tellInterval_0k 5 rfl) (by decide) rfl ?_
  have LP8 : ∀ (fuel8 : Nat) (i : Nat) (a1 : Int) (a2 : Int), (i ≤ n) → (a1 = zCt (zPq T st (360 * S 8) ((k : Nat) : Int)) i) → (a2 = zSm (zPq T st (360 * S 8) ((k : Nat) : Int)) (zCh n K U S) i) → n - i < fuel8 → Z p l e ({ frames := 2, cells := 0, slots := 0, locals := 45 } : Room) s m args below meth cd A D Q 7 0 0 [(m0, .inr (6, [.ref m1, .ref m2, .ref m3, .int (zI ((sv : Nat) : Int)), .int (zI rf), .ref m4, .int (zI ((len : Nat) : Int)), .int (zI ((sp : Nat) : Int)), .int (zI nu), .int (zI rk), .int (zI rt), .int (zI ra), .ref m5, .ref m6, .int (zI bm), .ref m7, .ref m8, .ref m9, .ref m10, .long (zL ha)])), (m1, iA D 771 NW), (m2, iA D 3084 PA), (m3, iA D 771 AS), (m4, iA D 150 tb), (m5, iA D 250 st), (m6, iA D 250 bo), (m7, iA D 250 sh), (m8, iA D 36 f1), (m9, iA D 36 f2), (m10, iA D 2778 pk)] [(0, .ref m0), (1, .int (zI ((k : Nat) : Int))), (2, .int (zI v)), (3, .int (zI a1)), (4, .long (zL a2)), (6, .int (zI ((i : Nat) : Int)))] [] 8 := by
    intro fuel8
    induction fuel8 with
    | zero => intro i a1 a2 hi e1 e2 hfu; exact absurd hfu (Nat.not_lt_zero _)
    | succ fuel8 ih8 =>
      intro i a1 a2 hi e1 e2 hfu8
      have rr1 := zCt_in (P := zPq T st (360 * S 8) ((k : Nat) : Int)) (n := i)
      rw [← e1] at rr1
      refine zz_iload hC 5 (dk DX6_tellInterval_0k 6 rfl) rfl ?_
      refine zz_aload_n hC 0 (dk DX6_tellInterval_0k 7 rfl) rfl rfl ?_
      refine zz_get hC F_X6_7 0 rfl rfl (dk DX6_tellInterval_0k 8 rfl) ?_
      refine zz_bipush hC (dk DX6_tellInterval_0k 9 rfl) (by decide) ?_
      refine zz_iald hC 20 1 rfl rfl (by omega) (dk DX6_tellInterval_0k 10 rfl) ?_
      rw [hN.2.2.2.1]
      refine zz_icmp_ge hC 61 (dk DX6_tellInterval_0k 11 rfl) (by decide) ⟨⟨by omega, by omega⟩, ⟨by omega, by omega⟩⟩ (fun c1 => ?_) (fun c1 => ?_)
      · have hin : i = n := by omega
        rw [hin] at e1 e2
        refine zz_iload_n hC 2 (dk DX6_tellInterval_0k 32 rfl) rfl rfl ?_
        rcases (show v = 0 ∨ v = 1 ∨ v = 2 ∨ v = 3 ∨ (v < 0 ∨ 3 < v) by omega) with sw2 | sw2 | sw2 | sw2 | sw2
        · refine zz_tabIn hC 92 (dk DX6_tellInterval_0k 33 rfl) 0 rfl sw2 rfl (by decide) ?_
          refine zz_iload_n hC 3 (dk DX6_tellInterval_0k 34 rfl) rfl rfl ?_
          refine zz_i2l hC (dk DX6_tellInterval_0k 35 rfl) ⟨by omega, by omega⟩ ?_
          exact zz_lret hC hQ hr () trivial (by unfold zTi; rw [if_pos (by omega)]; exact e1) [0, 1, 2, 3, 4, 5, 6, 7, 8, 9, 10] rfl rfl ⟨Nat.le_refl _, Nat.le_refl _⟩ (dk DX6_tellInterval_0k 36 rfl)
        · refine zz_tabIn hC 95 (dk DX6_tellInterval_0k 33 rfl) 1 rfl sw2 rfl (by decide) ?_
          refine zz_aload_n hC 0 (dk DX6_tellInterval_0k 37 rfl) rfl rfl ?_
          refine zz_get hC F_X6_37 0 rfl rfl (dk DX6_tellInterval_0k 38 rfl) ?_
          refine zz_iload_n hC 1 (dk DX6_tellInterval_0k 39 rfl) rfl rfl ?_
          refine zz_iald hC k 10 rfl rfl (by omega) (dk DX6_tellInterval_0k 40 rfl) ?_
          have hf3 := hpk k (by omega)
          refine zz_i2l hC (dk DX6_tellInterval_0k 41 rfl) ⟨by omega, by omega⟩ ?_
          exact zz_lret hC hQ hr () trivial (by unfold zTi; rw [if_neg (by omega), if_pos (by omega)]) [0, 1, 2, 3, 4, 5, 6, 7, 8, 9, 10] rfl rfl ⟨Nat.le_refl _, Nat.le_refl _⟩ (dk DX6_tellInterval_0k 42 rfl)
        · refine zz_tabIn hC 103 (dk DX6_tellInterval_0k 33 rfl) 2 rfl sw2 rfl (by decide) ?_
          refine zz_lload hC 4 (dk DX6_tellInterval_0k 43 rfl) rfl ?_
          exact zz_lret hC hQ hr () trivial (by unfold zTi; rw [if_neg (by omega), if_neg (by omega), if_pos (by omega)]; exact e2) [0, 1, 2, 3, 4, 5, 6, 7, 8, 9, 10] rfl rfl ⟨Nat.le_refl _, Nat.le_refl _⟩ (dk DX6_tellInterval_0k 44 rfl)
        · refine zz_tabIn hC 106 (dk DX6_tellInterval_0k 33 rfl) 3 rfl sw2 rfl (by decide) ?_
          refine zz_aload_n hC 0 (dk DX6_tellInterval_0k 45 rfl) rfl rfl ?_
          refine zz_iload_n hC 1 (dk DX6_tellInterval_0k 46 rfl) rfl rfl ?_
          refine zz_pureVi hC (c_X6_isLimit l D m0 m1 m2 m3 m4 m5 m6 m7 m8 m9 m10 NW PA AS tb st bo sh f1 f2 pk sv len sp rf nu rk rt ra bm ha n w K T U S F L k hN hs hpk (by omega)) G_X6_187 H_X6_isLimit ⟨Nat.le_of_ble_eq_true rfl, Nat.le_of_ble_eq_true rfl⟩ rfl [0, 1, 2, 3, 4, 5, 6, 7, 8, 9, 10] rfl rfl 0 6 ⟨rfl, rfl, rfl⟩ (As := [.int (zI ((k : Nat) : Int))]) (rest := []) (Nat.le_of_ble_eq_true rfl) rfl ⟨Nat.le_of_ble_eq_true rfl, Nat.le_of_ble_eq_true rfl⟩ (dk DX6_tellInterval_0k 47 rfl) ⟨rfl, rfl⟩ ?_
          refine zz_ifb_eq hC 118 (dk DX6_tellInterval_0k 48 rfl) (by decide) (fun c4 => ?_) (fun c4 => ?_)
          · refine zz_lconst hC 0 (dk DX6_tellInterval_0k 51 rfl) (by decide) ?_
            exact zz_lret hC hQ hr () trivial (by unfold zTi; rw [if_neg (by omega), if_neg (by omega), if_neg (by omega), if_pos (by omega)]; exact (zB_f (by assumption)).symm) [0, 1, 2, 3, 4, 5, 6, 7, 8, 9, 10] rfl rfl ⟨Nat.le_refl _, Nat.le_refl _⟩ (dk DX6_tellInterval_0k 52 rfl)
          · refine zz_lconst hC 1 (dk DX6_tellInterval_0k 49 rfl) (by decide) ?_
            refine zz_goto hC 119 (dk DX6_tellInterval_0k 50 rfl) (by decide) ?_
            exact zz_lret hC hQ hr () trivial (by unfold zTi; rw [if_neg (by omega), if_neg (by omega), if_neg (by omega), if_pos (by omega)]; exact (zB_t (by assumption)).symm) [0, 1, 2, 3, 4, 5, 6, 7, 8, 9, 10] rfl rfl ⟨Nat.le_refl _, Nat.le_refl _⟩ (dk DX6_tellInterval_0k 52 rfl)
        · refine zz_tabOut hC 120 (dk DX6_tellInterval_0k 33 rfl) ⟨by omega, by omega⟩ sw2 (by decide) ?_
          refine zz_aload_n hC 0 (dk DX6_tellInterval_0k 53 rfl) rfl rfl ?_
          refine zz_iload_n hC 1 (dk DX6_tellInterval_0k 54 rfl) rfl rfl ?_
          refine zz_pureVi hC (c_X6_isGrowth l D m0 m1 m2 m3 m4 m5 m6 m7 m8 m9 m10 NW PA AS tb st bo sh f1 f2 pk sv len sp rf nu rk rt ra bm ha n w K T U S F L k hpk (by omega)) G_X6_190 H_X6_isGrowth ⟨Nat.le_of_ble_eq_true rfl, Nat.le_of_ble_eq_true rfl⟩ rfl [0, 1, 2, 3, 4, 5, 6, 7, 8, 9, 10] rfl rfl 0 6 ⟨rfl, rfl, rfl⟩ (As := [.int (zI ((k : Nat) : Int))]) (rest := []) (Nat.le_of_ble_eq_true rfl) rfl ⟨Nat.le_of_ble_eq_true rfl, Nat.le_of_ble_eq_true rfl⟩ (dk DX6_tellInterval_0k 55 rfl) ⟨rfl, rfl⟩ ?_
          refine zz_ifb_eq hC 132 (dk DX6_tellInterval_0k 56 rfl) (by decide) (fun c5 => ?_) (fun c5 => ?_)
          · refine zz_lconst hC 0 (dk DX6_tellInterval_0k 59 rfl) (by decide) ?_
            exact zz_lret hC hQ hr () trivial (by unfold zTi; rw [if_neg (by omega), if_neg (by omega), if_neg (by omega), if_neg (by omega)]; exact (zB_f (by assumption)).symm) [0, 1, 2, 3, 4, 5, 6, 7, 8, 9, 10] rfl rfl ⟨Nat.le_refl _, Nat.le_refl _⟩ (dk DX6_tellInterval_1k 0 rfl)
          · refine zz_lconst hC 1 (dk DX6_tellInterval_0k 57 rfl) (by decide) ?_
            refine zz_goto hC 133 (dk DX6_tellInterval_0k 58 rfl) (by decide) ?_
            exact zz_lret hC hQ hr () trivial (by unfold zTi; rw [if_neg (by omega), if_neg (by omega), if_neg (by omega), if_neg (by omega)]; exact (zB_t (by assumption)).symm) [0, 1, 2, 3, 4, 5, 6, 7, 8, 9, 10] rfl rfl ⟨Nat.le_refl _, Nat.le_refl _⟩ (dk DX6_tellInterval_1k 0 rfl)
      · refine zz_aload_n hC 0 (dk DX6_tellInterval_0k 12 rfl) rfl rfl ?_
        refine zz_get hC F_X6_22 0 rfl rfl (dk DX6_tellInterval_0k 13 rfl) ?_
        refine zz_iload hC 5 (dk DX6_tellInterval_0k 14 rfl) rfl ?_
        refine zz_iald hC i 5 rfl rfl (by omega) (dk DX6_tellInterval_0k 15 rfl) ?_
        have hf6 := hst6 i (by omega)
        refine zz_if_ne hC 55 (dk DX6_tellInterval_0k 16 rfl) (by decide) ⟨by omega, by omega⟩ (fun c7 => ?_) (fun c7 => ?_)
        · refine zz_iinc hC ((i + 1 : Nat) : Int) (ls' := [(0, .ref m0), (1, .int (zI ((k : Nat) : Int))), (2, .int (zI v)), (3, .int (zI a1)), (4, .long (zL a2)), (6, .int (zI ((i + 1 : Nat) : Int)))]) 5 [1, 2, 3, 4, 5, 0] (dk DX6_tellInterval_0k 30 rfl) rfl (by omega) (by decide) rfl ?_
          refine zz_goto hC 8 (dk DX6_tellInterval_0k 31 rfl) (by decide) ?_
          refine zz_ls [0, 1, 2, 3, 4, 5] rfl ?_
          exact ih8 (i + 1) a1 a2 (by omega) (zCt_k e1 (by unfold zPq; rw [decide_eq_true_eq]; omega)) (zSm_k e2 (by unfold zPq; rw [decide_eq_true_eq]; omega)) (by omega)
        · refine zz_aload_n hC 0 (dk DX6_tellInterval_0k 17 rfl) rfl rfl ?_
          refine zz_iload hC 5 (dk DX6_tellInterval_0k 18 rfl) rfl ?_
          refine zz_pureVi hC (c_X6_intervalOf l D m0 m1 m2 m3 m4 m5 m6 m7 m8 m9 m10 NW PA AS tb st bo sh f1 f2 pk sv len sp rf nu rk rt ra bm ha n w K T U S F L i hN hg hs (by omega)) G_X6_180 H_X6_intervalOf ⟨Nat.le_of_ble_eq_true rfl, Nat.le_of_ble_eq_true rfl⟩ rfl [0, 1, 2, 3, 4, 5, 6, 7, 8, 9, 10] rfl rfl 0 6 ⟨rfl, rfl, rfl⟩ (As := [.int (zI ((i : Nat) : Int))]) (rest := []) (Nat.le_of_ble_eq_true rfl) rfl ⟨Nat.le_of_ble_eq_true rfl, Nat.le_of_ble_eq_true rfl⟩ (dk DX6_tellInterval_0k 19 rfl) ⟨rfl, rfl⟩ ?_
          have hf8 := trend_q (hT i (by omega)) hs.2.2.2.2.2.2.2.2.1
          refine zz_iload_n hC 1 (dk DX6_tellInterval_0k 20 rfl) rfl rfl ?_
          refine zz_icmp_ne hC 55 (dk DX6_tellInterval_0k 21 rfl) (by decide) ⟨⟨by omega, by omega⟩, ⟨by omega, by omega⟩⟩ (fun c9 => ?_) (fun c9 => ?_)
          · refine zz_iinc hC ((i + 1 : Nat) : Int) (ls' := [(0, .ref m0), (1, .int (zI ((k : Nat) : Int))), (2, .int (zI v)), (3, .int (zI a1)), (4, .long (zL a2)), (6, .int (zI ((i + 1 : Nat) : Int)))]) 5 [1, 2, 3, 4, 5, 0] (dk DX6_tellInterval_0k 30 rfl) rfl (by omega) (by decide) rfl ?_
            refine zz_goto hC 8 (dk DX6_tellInterval_0k 31 rfl) (by decide) ?_
            refine zz_ls [0, 1, 2, 3, 4, 5] rfl ?_
            exact ih8 (i + 1) a1 a2 (by omega) (zCt_k e1 (by unfold zPq; rw [decide_eq_true_eq]; omega)) (zSm_k e2 (by unfold zPq; rw [decide_eq_true_eq]; omega)) (by omega)
          · refine zz_iinc hC (a1 + 1) (ls' := [(0, .ref m0), (1, .int (zI ((k : Nat) : Int))), (2, .int (zI v)), (3, .int (zI (a1 + 1))), (4, .long (zL a2)), (6, .int (zI ((i : Nat) : Int)))]) 3 [1, 2, 3, 0, 4, 5] (dk DX6_tellInterval_0k 22 rfl) rfl (by omega) (by decide) rfl ?_
            refine zz_lload hC 4 (dk DX6_tellInterval_0k 23 rfl) rfl ?_
            refine zz_aload_n hC 0 (dk DX6_tellInterval_0k 24 rfl) rfl rfl ?_
            refine zz_iload hC 5 (dk DX6_tellInterval_0k 25 rfl) rfl ?_
            refine zz_pureVi hC (c_X6_charge l D m0 m1 m2 m3 m4 m5 m6 m7 m8 m9 m10 NW PA AS tb st bo sh f1 f2 pk sv len sp rf nu rk rt ra bm ha n w K T U S F L i hN hg hs (by omega)) G_X6_141 H_X6_charge ⟨Nat.le_of_ble_eq_true rfl, Nat.le_of_ble_eq_true rfl⟩ rfl [0, 1, 2, 3, 4, 5, 6, 7, 8, 9, 10] rfl rfl 0 6 ⟨rfl, rfl, rfl⟩ (As := [.int (zI ((i : Nat) : Int))]) (rest := [.long (zL a2)]) (Nat.le_of_ble_eq_true rfl) rfl ⟨Nat.le_of_ble_eq_true rfl, Nat.le_of_ble_eq_true rfl⟩ (dk DX6_tellInterval_0k 26 rfl) ⟨rfl, rfl⟩ ?_
            have hf10 := zCh_in (K := K) (U := U) (S := S) hn hU hs.2.1 (show i < n by omega)
            refine zz_i2l hC (dk DX6_tellInterval_0k 27 rfl) ⟨by omega, by omega⟩ ?_
            refine zz_ladd hC (dk DX6_tellInterval_0k 28 rfl) ?_
            refine zz_lstore hC (ls' := [(0, .ref m0), (1, .int (zI ((k : Nat) : Int))), (2, .int (zI v)), (3, .int (zI (a1 + 1))), (4, .long (zL (a2 + (zCh n K U S i)))), (6, .int (zI ((i : Nat) : Int)))]) [1, 2, 3, 4, 0, 5] (dk DX6_tellInterval_0k 29 rfl) (by decide) rfl ?_
            refine zz_iinc hC ((i + 1 : Nat) : Int) (ls' := [(0, .ref m0), (1, .int (zI ((k : Nat) : Int))), (2, .int (zI v)), (3, .int (zI (a1 + 1))), (4, .long (zL (a2 + (zCh n K U S i)))), (6, .int (zI ((i + 1 : Nat) : Int)))]) 5 [1, 2, 3, 4, 5, 0] (dk DX6_tellInterval_0k 30 rfl) rfl (by omega) (by decide) rfl ?_
            refine zz_goto hC 8 (dk DX6_tellInterval_0k 31 rfl) (by decide) ?_
            refine zz_ls [0, 1, 2, 3, 4, 5] rfl ?_
            exact ih8 (i + 1) (a1 + 1) (a2 + (zCh n K U S i)) (by omega) (zCt_s e1 (by unfold zPq; exact decide_eq_true ⟨by omega, by omega⟩)) (zSm_s e2 (by unfold zPq; exact decide_eq_true ⟨by omega, by omega⟩)) (by omega)
  refine zz_ls [0, 1, 2, 3, 4, 5] rfl ?_
  exact LP8 _ 0 0 0 (by omega) rfl rfl (Nat.lt_succ_self _)
set_option maxHeartbeats 4000000 in
set_option maxRecDepth 100000 in
theorem c_X6_interval (l : Launch) (D : zG) (m0 : Nat) (m1 : Nat) (m2 : Nat) (m3 : Nat) (m4 : Nat) (m5 : Nat) (m6 : Nat) (m7 : Nat) (m8 : Nat) (m9 : Nat) (m10 : Nat) (NW : Nat → Int) (PA : Nat → Int) (AS : Nat → Int) (tb : Nat → Int) (st : Nat → Int) (bo : Nat → Int) (sh : Nat → Int) (f1 : Nat → Int) (f2 : Nat → Int) (pk : Nat → Int) (sv : Nat) (len : Nat) (sp : Nat) (rf : Int) (nu : Int) (rk : Int) (rt : Int) (ra : Int) (bm : Int) (ha : Int) (n : Nat) (w : Nat) (K : Nat → Int) (T : Nat → Int) (U : Nat → Int) (S : Nat → Int) (F : Nat → Int) (L : Nat → Int) (x : Int) (v : Int) (hN : zRow NW n K T U S F L w) (hg : zLog n K T U) (hs : zSet S) (hw : zWin w F L) (hri : (-2147483648 ≤ x ∧ x ≤ 2147483647) ∧ (-2147483648 ≤ v ∧ v ≤ 2147483647)) : CL (S := (Nat → Int) × (Nat → Int) × (Nat → Int) × (Nat → Int) × (Nat → Int) × (Nat → Int) × Int × Int × Int × Int) l yX6_interval cX6_interval 3 ((some .long)) ({ frames := 6, cells := 0, slots := 0, locals := 136 } : Room) D [.ref m0, .int (zI x), .int (zI v)] [(m0, .inr (6, [.ref m1, .ref m2, .ref m3, .int (zI ((sv : Nat) : Int)), .int (zI rf), .ref m4, .int (zI ((len : Nat) : Int)), .int (zI ((sp : Nat) : Int)), .int (zI nu), .int (zI rk), .int (zI rt), .int (zI ra), .ref m5, .ref m6, .int (zI bm), .ref m7, .ref m8, .ref m9, .ref m10, .long (zL ha)])), (m1, iA D 771 NW), (m2, iA D 3084 PA), (m3, iA D 771 AS), (m4, iA D 150 tb), (m5, iA D 250 st), (m6, iA D 250 bo), (m7, iA D 250 sh), (m8, iA D 36 f1), (m9, iA D 36 f2), (m10, iA D 2778 pk)] (fun u => zO2 (0 ≤ x ∧ x ≤ 2777) (0 ≤ v ∧ v ≤ 4) (u.2.2.2.2.2.2.2.1) (u.2.2.2.2.2.2.2.2.2 = zIn n K T U S F L w x.toNat v)) (fun u => u.2.2.2.2.2.2.2.2.2) (fun u => [(m0, .inr (6, [.ref m1, .ref m2, .ref m3, .int (zI ((sv : Nat) : Int)), .int (zI u.2.2.2.2.2.2.2.1), .ref m4, .int (zI ((len : Nat) : Int)), .int (zI ((sp : Nat) : Int)), .int (zI nu), .int (zI rk), .int (zI rt), .int (zI ra), .ref m5, .ref m6, .int (zI u.2.2.2.2.2.2.1), .ref m7, .ref m8, .ref m9, .ref m10, .long (zL u.2.2.2.2.2.2.2.2.1)])), (m1, iA D 771 NW), (m2, iA D 3084 PA), (m3, iA D 771 AS), (m4, iA D 150 tb), (m5, iA D 250 u.1), (m6, iA D 250 u.2.1), (m7, iA D 250 u.2.2.1), (m8, iA D 36 u.2.2.2.1), (m9, iA D 36 u.2.2.2.2.1), (m10, iA D 2778 u.2.2.2.2.2.1)]) := by
  refine CL_of (by decide) (Nat.le_of_ble_eq_true rfl) ?_
  intro p e s m args below meth cd A Q hQ hC hr hnm
  have hC : ZC p s m args meth cd A D 3 cX6_interval RX6 := hC
  have hg0 := hg
  obtain ⟨hn, hK, hT, hU, hM⟩ := hg0
  show Z p l e ({ frames := 6, cells := 0, slots := 0, locals := 136 } : Room) s m args below meth cd A D Q 3 0 0 [(m0, .inr (6, [.ref m1, .ref m2, .ref m3, .int (zI ((sv : Nat) : Int)), .int (zI rf), .ref m4, .int (zI ((len : Nat) : Int)), .int (zI ((sp : Nat) : Int)), .int (zI nu), .int (zI rk), .int (zI rt), .int (zI ra), .ref m5, .ref m6, .int (zI bm), .ref m7, .ref m8, .ref m9, .ref m10, .long (zL ha)])), (m1, iA D 771 NW), (m2, iA D 3084 PA), (m3, iA D 771 AS), (m4, iA D 150 tb), (m5, iA D 250 st), (m6, iA D 250 bo), (m7, iA D 250 sh), (m8, iA D 36 f1), (m9, iA D 36 f2), (m10, iA D 2778 pk)] [(0, .ref m0), (1, .int (zI x)), (2, .int (zI v))] [] 0
  refine zz_aload_n hC 0 (dk DX6_interval_0k 0 rfl) rfl rfl ?_
  refine zz_iload_n hC 1 (dk DX6_interval_0k 1 rfl) rfl rfl ?_
  refine zz_iconst hC (dk DX6_interval_0k 2 rfl) ?_
  refine zz_sipush hC (dk DX6_interval_0k 3 rfl) (by decide) ?_
  refine zz_pureSi hC (c_X6_within l D x 0 2777 (by omega)) G_X6_52 H_X6_within.2 ⟨Nat.le_of_ble_eq_true rfl, Nat.le_of_ble_eq_true rfl⟩ rfl [] rfl rfl (As := [.int (zI x), .int (zI 0), .int (zI 2777)]) (rest := [.ref m0]) (Nat.le_of_ble_eq_true rfl) rfl ⟨Nat.le_of_ble_eq_true rfl, Nat.le_of_ble_eq_true rfl⟩ (dk DX6_interval_0k 4 rfl) ⟨rfl, rfl⟩ ?_
  refine zz_ifb_ne hC 16 (dk DX6_interval_0k 5 rfl) (by decide) (fun c1 => ?_) (fun c1 => ?_)
  · refine zz_iload_n hC 2 (dk DX6_interval_0k 8 rfl) rfl rfl ?_
    refine zz_iconst hC (dk DX6_interval_0k 9 rfl) ?_
    refine zz_iconst hC (dk DX6_interval_0k 10 rfl) ?_
    refine zz_pureSi hC (c_X6_within l D v 0 4 (by omega)) G_X6_52 H_X6_within.2 ⟨Nat.le_of_ble_eq_true rfl, Nat.le_of_ble_eq_true rfl⟩ rfl [] rfl rfl (As := [.int (zI v), .int (zI 0), .int (zI 4)]) (rest := [.ref m0]) (Nat.le_of_ble_eq_true rfl) rfl ⟨Nat.le_of_ble_eq_true rfl, Nat.le_of_ble_eq_true rfl⟩ (dk DX6_interval_0k 11 rfl) ⟨rfl, rfl⟩ ?_
    refine zz_ifb_eq hC 29 (dk DX6_interval_0k 12 rfl) (by decide) (fun c2 => ?_) (fun c2 => ?_)
    · refine zz_iconst hC (dk DX6_interval_0k 15 rfl) ?_
      refine zz_callVi hC (wr := []) (c_X6_refused l D m0 m1 m2 m3 m4 m5 m6 m7 m8 m9 m10 NW PA AS tb st bo sh f1 f2 pk sv len sp rf nu rk rt ra bm ha n w K T U S F L 2 (by omega)) G_X6_47 H_X6_refused ⟨Nat.le_of_ble_eq_true rfl, Nat.le_of_ble_eq_true rfl⟩ rfl [0, 1, 2, 3, 4, 5, 6, 7, 8, 9, 10] [] rfl rfl ⟨rfl, rfl, by decide⟩ 0 6 ⟨rfl, rfl, rfl⟩ (As := [.int (zI 2)]) (rest := []) (Nat.le_of_ble_eq_true rfl) rfl ⟨Nat.le_of_ble_eq_true rfl, Nat.le_of_ble_eq_true rfl⟩ (dk DX6_interval_0k 16 rfl) ⟨rfl, rfl⟩ (wb := fun u3 => [(m0, .inr (6, [.ref m1, .ref m2, .ref m3, .int (zI ((sv : Nat) : Int)), .int (zI 2), .ref m4, .int (zI ((len : Nat) : Int)), .int (zI ((sp : Nat) : Int)), .int (zI nu), .int (zI rk), .int (zI rt), .int (zI ra), .ref m5, .ref m6, .int (zI bm), .ref m7, .ref m8, .ref m9, .ref m10, .long (zL ha)])), (m1, iA D 771 NW), (m2, iA D 3084 PA), (m3, iA D 771 AS), (m4, iA D 150 tb), (m5, iA D 250 st), (m6, iA D 250 bo), (m7, iA D 250 sh), (m8, iA D 36 f1), (m9, iA D 36 f2), (m10, iA D 2778 pk)]) [0, 1, 2, 3, 4, 5, 6, 7, 8, 9, 10] rfl (fun _ => rfl) (fun u3 hu3 => ?_)
      refine zz_ifb_eq hC 38 (dk DX6_interval_0k 17 rfl) (by decide) (fun c4 => ?_) (fun c4 => ?_)
      · exfalso; omega
      · refine zz_lconst hC 0 (dk DX6_interval_0k 18 rfl) (by decide) ?_
        exact zz_lret hC hQ hr (st, bo, sh, f1, f2, pk, bm, 2, ha, 0) (Or.inr (Or.inr ⟨(by omega), (by omega), rfl⟩)) rfl [0, 1, 2, 3, 4, 5, 6, 7, 8, 9, 10] rfl rfl ⟨Nat.le_refl _, Nat.le_refl _⟩ (dk DX6_interval_0k 19 rfl)
    · refine zz_iconst hC (dk DX6_interval_0k 13 rfl) ?_
      refine zz_goto hC 30 (dk DX6_interval_0k 14 rfl) (by decide) ?_
      refine zz_callVi hC (wr := []) (c_X6_refused l D m0 m1 m2 m3 m4 m5 m6 m7 m8 m9 m10 NW PA AS tb st bo sh f1 f2 pk sv len sp rf nu rk rt ra bm ha n w K T U S F L 0 (by omega)) G_X6_47 H_X6_refused ⟨Nat.le_of_ble_eq_true rfl, Nat.le_of_ble_eq_true rfl⟩ rfl [0, 1, 2, 3, 4, 5, 6, 7, 8, 9, 10] [] rfl rfl ⟨rfl, rfl, by decide⟩ 0 6 ⟨rfl, rfl, rfl⟩ (As := [.int (zI 0)]) (rest := []) (Nat.le_of_ble_eq_true rfl) rfl ⟨Nat.le_of_ble_eq_true rfl, Nat.le_of_ble_eq_true rfl⟩ (dk DX6_interval_0k 16 rfl) ⟨rfl, rfl⟩ (wb := fun u5 => [(m0, .inr (6, [.ref m1, .ref m2, .ref m3, .int (zI ((sv : Nat) : Int)), .int (zI 0), .ref m4, .int (zI ((len : Nat) : Int)), .int (zI ((sp : Nat) : Int)), .int (zI nu), .int (zI rk), .int (zI rt), .int (zI ra), .ref m5, .ref m6, .int (zI bm), .ref m7, .ref m8, .ref m9, .ref m10, .long (zL ha)])), (m1, iA D 771 NW), (m2, iA D 3084 PA), (m3, iA D 771 AS), (m4, iA D 150 tb), (m5, iA D 250 st), (m6, iA D 250 bo), (m7, iA D 250 sh), (m8, iA D 36 f1), (m9, iA D 36 f2), (m10, iA D 2778 pk)]) [0, 1, 2, 3, 4, 5, 6, 7, 8, 9, 10] rfl (fun _ => rfl) (fun u5 hu5 => ?_)
      refine zz_ifb_eq hC 38 (dk DX6_interval_0k 17 rfl) (by decide) (fun c6 => ?_) (fun c6 => ?_)
      · obtain ⟨k9, rfl⟩ : ∃ k : Nat, x = (k : Int) := ⟨x.toNat, by omega⟩
        refine zz_aload_n hC 0 (dk DX6_interval_0k 20 rfl) rfl rfl ?_
        refine zz_callVv hC (wr := []) (c_X6_laysPeaks l D m0 m1 m2 m3 m4 m5 m6 m7 m8 m9 m10 NW PA AS tb st bo sh f1 f2 pk sv len sp 0 nu rk rt ra bm ha n w K T U S F L hN hg hs hw) G_X6_193 H_X6_laysPeaks ⟨Nat.le_of_ble_eq_true rfl, Nat.le_of_ble_eq_true rfl⟩ rfl [0, 1, 2, 3, 4, 5, 6, 7, 8, 9, 10] [] rfl rfl ⟨rfl, rfl, by decide⟩ 0 6 ⟨rfl, rfl, rfl⟩ (As := []) (rest := []) (Nat.le_of_ble_eq_true rfl) rfl ⟨Nat.le_of_ble_eq_true rfl, Nat.le_of_ble_eq_true rfl⟩ (dk DX6_interval_0k 21 rfl) ⟨rfl, rfl⟩ (wb := fun u7 => [(m0, .inr (6, [.ref m1, .ref m2, .ref m3, .int (zI ((sv : Nat) : Int)), .int (zI 0), .ref m4, .int (zI ((len : Nat) : Int)), .int (zI ((sp : Nat) : Int)), .int (zI nu), .int (zI rk), .int (zI rt), .int (zI ra), .ref m5, .ref m6, .int (zI (zBN n K T U S F L w)), .ref m7, .ref m8, .ref m9, .ref m10, .long (zL ha)])), (m1, iA D 771 NW), (m2, iA D 3084 PA), (m3, iA D 771 AS), (m4, iA D 150 tb), (m5, iA D 250 u7.1), (m6, iA D 250 u7.2.1), (m7, iA D 250 u7.2.2.1), (m8, iA D 36 f1), (m9, iA D 36 f2), (m10, iA D 2778 u7.2.2.2)]) [0, 1, 2, 3, 4, 5, 6, 7, 8, 9, 10] rfl (fun _ => rfl) (fun u7 hu7 => ?_)
        have hu7r := mk_r hK hn hu7.1
        have hu7p : ∀ b : Nat, b < 2778 → 0 ≤ u7.2.2.2 b ∧ u7.2.2.2 b ≤ 500000000 := fun b hb => by rw [hu7.2 b hb]; exact zPk_in (fun j hj => zCh_in (K := K) (U := U) (S := S) hn hU hs.2.1 (show j < n by omega))
        refine zz_aload_n hC 0 (dk DX6_interval_0k 22 rfl) rfl rfl ?_
        refine zz_iload_n hC 1 (dk DX6_interval_0k 23 rfl) rfl rfl ?_
        refine zz_iload_n hC 2 (dk DX6_interval_0k 24 rfl) rfl rfl ?_
        refine zz_pureVl hC (c_X6_tellInterval l D m0 m1 m2 m3 m4 m5 m6 m7 m8 m9 m10 NW PA AS tb u7.1 u7.2.1 u7.2.2.1 f1 f2 u7.2.2.2 sv len sp 0 nu rk rt ra (zBN n K T U S F L w) ha n w K T U S F L k9 v hN hg hs hu7r.1 hu7p (by omega) (by omega)) G_X6_196 H_X6_tellInterval ⟨Nat.le_of_ble_eq_true rfl, Nat.le_of_ble_eq_true rfl⟩ rfl [0, 1, 2, 3, 4, 5, 6, 7, 8, 9, 10] rfl rfl 0 6 ⟨rfl, rfl, rfl⟩ (As := [.int (zI ((k9 : Nat) : Int)), .int (zI v)]) (rest := []) (Nat.le_of_ble_eq_true rfl) rfl ⟨Nat.le_of_ble_eq_true rfl, Nat.le_of_ble_eq_true rfl⟩ (dk DX6_interval_0k 25 rfl) ⟨rfl, rfl⟩ ?_
        exact zz_lret hC hQ hr (u7.1, u7.2.1, u7.2.2.1, f1, f2, u7.2.2.2, (zBN n K T U S F L w), 0, ha, (zTi n T u7.1 (zCh n K U S) S u7.2.2.2 k9 v)) (Or.inl ⟨(by omega), (by omega), rfl, (zTi_lk hu7.1 hu7.2 (by omega))⟩) rfl [0, 1, 2, 3, 4, 5, 6, 7, 8, 9, 10] rfl rfl ⟨Nat.le_refl _, Nat.le_refl _⟩ (dk DX6_interval_0k 26 rfl)
      · exfalso; omega
  · refine zz_iconst hC (dk DX6_interval_0k 6 rfl) ?_
    refine zz_goto hC 30 (dk DX6_interval_0k 7 rfl) (by decide) ?_
    refine zz_callVi hC (wr := []) (c_X6_refused l D m0 m1 m2 m3 m4 m5 m6 m7 m8 m9 m10 NW PA AS tb st bo sh f1 f2 pk sv len sp rf nu rk rt ra bm ha n w K T U S F L 1 (by omega)) G_X6_47 H_X6_refused ⟨Nat.le_of_ble_eq_true rfl, Nat.le_of_ble_eq_true rfl⟩ rfl [0, 1, 2, 3, 4, 5, 6, 7, 8, 9, 10] [] rfl rfl ⟨rfl, rfl, by decide⟩ 0 6 ⟨rfl, rfl, rfl⟩ (As := [.int (zI 1)]) (rest := []) (Nat.le_of_ble_eq_true rfl) rfl ⟨Nat.le_of_ble_eq_true rfl, Nat.le_of_ble_eq_true rfl⟩ (dk DX6_interval_0k 16 rfl) ⟨rfl, rfl⟩ (wb := fun u8 => [(m0, .inr (6, [.ref m1, .ref m2, .ref m3, .int (zI ((sv : Nat) : Int)), .int (zI 1), .ref m4, .int (zI ((len : Nat) : Int)), .int (zI ((sp : Nat) : Int)), .int (zI nu), .int (zI rk), .int (zI rt), .int (zI ra), .ref m5, .ref m6, .int (zI bm), .ref m7, .ref m8, .ref m9, .ref m10, .long (zL ha)])), (m1, iA D 771 NW), (m2, iA D 3084 PA), (m3, iA D 771 AS), (m4, iA D 150 tb), (m5, iA D 250 st), (m6, iA D 250 bo), (m7, iA D 250 sh), (m8, iA D 36 f1), (m9, iA D 36 f2), (m10, iA D 2778 pk)]) [0, 1, 2, 3, 4, 5, 6, 7, 8, 9, 10] rfl (fun _ => rfl) (fun u8 hu8 => ?_)
    refine zz_ifb_eq hC 38 (dk DX6_interval_0k 17 rfl) (by decide) (fun c9 => ?_) (fun c9 => ?_)
    · exfalso; omega
    · refine zz_lconst hC 0 (dk DX6_interval_0k 18 rfl) (by decide) ?_
      exact zz_lret hC hQ hr (st, bo, sh, f1, f2, pk, bm, 1, ha, 0) (Or.inr (Or.inl ⟨(by omega), rfl⟩)) rfl [0, 1, 2, 3, 4, 5, 6, 7, 8, 9, 10] rfl rfl ⟨Nat.le_refl _, Nat.le_refl _⟩ (dk DX6_interval_0k 19 rfl)
set_option maxHeartbeats 4000000 in
set_option maxRecDepth 100000 in
theorem c_X6_firstAlarm (l : Launch) (D : zG) (m0 : Nat) (m1 : Nat) (m2 : Nat) (m3 : Nat) (m4 : Nat) (m5 : Nat) (m6 : Nat) (m7 : Nat) (m8 : Nat) (m9 : Nat) (m10 : Nat) (NW : Nat → Int) (PA : Nat → Int) (AS : Nat → Int) (tb : Nat → Int) (st : Nat → Int) (bo : Nat → Int) (sh : Nat → Int) (f1 : Nat → Int) (f2 : Nat → Int) (pk : Nat → Int) (sv : Nat) (len : Nat) (sp : Nat) (rf : Int) (nu : Int) (rk : Int) (rt : Int) (ra : Int) (bm : Int) (ha : Int) (n : Nat) (w : Nat) (K : Nat → Int) (T : Nat → Int) (U : Nat → Int) (S : Nat → Int) (F : Nat → Int) (L : Nat → Int) (gb : Int) (hN : zRow NW n K T U S F L w) (hg : zLog n K T U) (hs : zSet S) (hw : zWin w F L) (hgb : 0 ≤ gb ∧ gb ≤ 1) : CI (S := (Nat → Int) × (Nat → Int) × (Nat → Int) × (Nat → Int) × (Nat → Int) × (Nat → Int) × Int × Int × Int × Int) l yX6_firstAlarm cX6_firstAlarm 3 ((some .int)) ({ frames := 6, cells := 0, slots := 0, locals := 136 } : Room) D [.ref m0, .int (zI gb)] [(m0, .inr (6, [.ref m1, .ref m2, .ref m3, .int (zI ((sv : Nat) : Int)), .int (zI rf), .ref m4, .int (zI ((len : Nat) : Int)), .int (zI ((sp : Nat) : Int)), .int (zI nu), .int (zI rk), .int (zI rt), .int (zI ra), .ref m5, .ref m6, .int (zI bm), .ref m7, .ref m8, .ref m9, .ref m10, .long (zL ha)])), (m1, iA D 771 NW), (m2, iA D 3084 PA), (m3, iA D 771 AS), (m4, iA D 150 tb), (m5, iA D 250 st), (m6, iA D 250 bo), (m7, iA D 250 sh), (m8, iA D 36 f1), (m9, iA D 36 f2), (m10, iA D 2778 pk)] (fun u => u.2.2.2.2.2.2.2.1 = 0 ∧ u.2.2.2.2.2.2.2.2.2 = zFa n K T U S F L w gb) (fun u => u.2.2.2.2.2.2.2.2.2) (fun u => [(m0, .inr (6, [.ref m1, .ref m2, .ref m3, .int (zI ((sv : Nat) : Int)), .int (zI u.2.2.2.2.2.2.2.1), .ref m4, .int (zI ((len : Nat) : Int)), .int (zI ((sp : Nat) : Int)), .int (zI nu), .int (zI rk), .int (zI rt), .int (zI ra), .ref m5, .ref m6, .int (zI u.2.2.2.2.2.2.1), .ref m7, .ref m8, .ref m9, .ref m10, .long (zL u.2.2.2.2.2.2.2.2.1)])), (m1, iA D 771 NW), (m2, iA D 3084 PA), (m3, iA D 771 AS), (m4, iA D 150 tb), (m5, iA D 250 u.1), (m6, iA D 250 u.2.1), (m7, iA D 250 u.2.2.1), (m8, iA D 36 u.2.2.2.1), (m9, iA D 36 u.2.2.2.2.1), (m10, iA D 2778 u.2.2.2.2.2.1)]) := by
  refine CI_of (by decide) (Nat.le_of_ble_eq_true rfl) ?_
  intro p e s m args below meth cd A Q hQ hC hr hnm
  have hC : ZC p s m args meth cd A D 3 cX6_firstAlarm RX6 := hC
  have hg0 := hg
  obtain ⟨hn, hK, hT, hU, hM⟩ := hg0
  show Z p l e ({ frames := 6, cells := 0, slots := 0, locals := 136 } : Room) s m args below meth cd A D Q 3 0 0 [(m0, .inr (6, [.ref m1, .ref m2, .ref m3, .int (zI ((sv : Nat) : Int)), .int (zI rf), .ref m4, .int (zI ((len : Nat) : Int)), .int (zI ((sp : Nat) : Int)), .int (zI nu), .int (zI rk), .int (zI rt), .int (zI ra), .ref m5, .ref m6, .int (zI bm), .ref m7, .ref m8, .ref m9, .ref m10, .long (zL ha)])), (m1, iA D 771 NW), (m2, iA D 3084 PA), (m3, iA D 771 AS), (m4, iA D 150 tb), (m5, iA D 250 st), (m6, iA D 250 bo), (m7, iA D 250 sh), (m8, iA D 36 f1), (m9, iA D 36 f2), (m10, iA D 2778 pk)] [(0, .ref m0), (1, .int (zI gb))] [] 0
  refine zz_aload_n hC 0 (dk DX6_firstAlarm_0k 0 rfl) rfl rfl ?_
  refine zz_iconst hC (dk DX6_firstAlarm_0k 1 rfl) ?_
  refine zz_put hC F_X6_40 fc_X6 rfl (tyX6_ok 4 (by decide)) 0 (ws' := [(m0, .inr (6, [.ref m1, .ref m2, .ref m3, .int (zI ((sv : Nat) : Int)), .int (zI 0), .ref m4, .int (zI ((len : Nat) : Int)), .int (zI ((sp : Nat) : Int)), .int (zI nu), .int (zI rk), .int (zI rt), .int (zI ra), .ref m5, .ref m6, .int (zI bm), .ref m7, .ref m8, .ref m9, .ref m10, .long (zL ha)])), (m1, iA D 771 NW), (m2, iA D 3084 PA), (m3, iA D 771 AS), (m4, iA D 150 tb), (m5, iA D 250 st), (m6, iA D 250 bo), (m7, iA D 250 sh), (m8, iA D 36 f1), (m9, iA D 36 f2), (m10, iA D 2778 pk)]) rfl rfl rfl (Nat.le_of_ble_eq_true rfl) rfl (dk DX6_firstAlarm_0k 2 rfl) ?_
  refine zz_aload_n hC 0 (dk DX6_firstAlarm_0k 3 rfl) rfl rfl ?_
  refine zz_callVv hC (wr := []) (c_X6_laysPeaks l D m0 m1 m2 m3 m4 m5 m6 m7 m8 m9 m10 NW PA AS tb st bo sh f1 f2 pk sv len sp 0 nu rk rt ra bm ha n w K T U S F L hN hg hs hw) G_X6_193 H_X6_laysPeaks ⟨Nat.le_of_ble_eq_true rfl, Nat.le_of_ble_eq_true rfl⟩ rfl [0, 1, 2, 3, 4, 5, 6, 7, 8, 9, 10] [] rfl rfl ⟨rfl, rfl, by decide⟩ 0 6 ⟨rfl, rfl, rfl⟩ (As := []) (rest := []) (Nat.le_of_ble_eq_true rfl) rfl ⟨Nat.le_of_ble_eq_true rfl, Nat.le_of_ble_eq_true rfl⟩ (dk DX6_firstAlarm_0k 4 rfl) ⟨rfl, rfl⟩ (wb := fun u1 => [(m0, .inr (6, [.ref m1, .ref m2, .ref m3, .int (zI ((sv : Nat) : Int)), .int (zI 0), .ref m4, .int (zI ((len : Nat) : Int)), .int (zI ((sp : Nat) : Int)), .int (zI nu), .int (zI rk), .int (zI rt), .int (zI ra), .ref m5, .ref m6, .int (zI (zBN n K T U S F L w)), .ref m7, .ref m8, .ref m9, .ref m10, .long (zL ha)])), (m1, iA D 771 NW), (m2, iA D 3084 PA), (m3, iA D 771 AS), (m4, iA D 150 tb), (m5, iA D 250 u1.1), (m6, iA D 250 u1.2.1), (m7, iA D 250 u1.2.2.1), (m8, iA D 36 f1), (m9, iA D 36 f2), (m10, iA D 2778 u1.2.2.2)]) [0, 1, 2, 3, 4, 5, 6, 7, 8, 9, 10] rfl (fun _ => rfl) (fun u1 hu1 => ?_)
  have hu1r := mk_r hK hn hu1.1
  have hu1p : ∀ b : Nat, b < 2778 → 0 ≤ u1.2.2.2 b ∧ u1.2.2.2 b ≤ 500000000 := fun b hb => by rw [hu1.2 b hb]; exact zPk_in (fun j hj => zCh_in (K := K) (U := U) (S := S) hn hU hs.2.1 (show j < n by omega))
  refine zz_iconst hC (dk DX6_firstAlarm_0k 5 rfl) ?_
  refine zz_istore_n hC (ls' := [(0, .ref m0), (1, .int (zI gb)), (2, .int (zI 0))]) [1, 2, 0] (dk DX6_firstAlarm_0k 6 rfl) rfl (by decide) rfl ?_
  have LP11 : ∀ (fuel11 : Nat) (i : Nat), (i ≤ 2778) → (∀ j, j < i → (fun i => if gb = 0 then zLim (zPks n K T U S F L w) (S 9) (S 10) i else zGro (zPks n K T U S F L w) i) j = false) → 2778 - i < fuel11 → Z p l e ({ frames := 6, cells := 0, slots := 0, locals := 136 } : Room) s m args below meth cd A D Q 3 0 0 [(m0, .inr (6, [.ref m1, .ref m2, .ref m3, .int (zI ((sv : Nat) : Int)), .int (zI 0), .ref m4, .int (zI ((len : Nat) : Int)), .int (zI ((sp : Nat) : Int)), .int (zI nu), .int (zI rk), .int (zI rt), .int (zI ra), .ref m5, .ref m6, .int (zI (zBN n K T U S F L w)), .ref m7, .ref m8, .ref m9, .ref m10, .long (zL ha)])), (m1, iA D 771 NW), (m2, iA D 3084 PA), (m3, iA D 771 AS), (m4, iA D 150 tb), (m5, iA D 250 u1.1), (m6, iA D 250 u1.2.1), (m7, iA D 250 u1.2.2.1), (m8, iA D 36 f1), (m9, iA D 36 f2), (m10, iA D 2778 u1.2.2.2)] [(0, .ref m0), (1, .int (zI gb)), (2, .int (zI ((i : Nat) : Int)))] [] 11 := by
    intro fuel11
    induction fuel11 with
    | zero => intro i hi hno hfu; exact absurd hfu (Nat.not_lt_zero _)
    | succ fuel11 ih11 =>
      intro i hi hno hfu11
      refine zz_iload_n hC 2 (dk DX6_firstAlarm_0k 7 rfl) rfl rfl ?_
      refine zz_sipush hC (dk DX6_firstAlarm_0k 8 rfl) (by decide) ?_
      refine zz_icmp_ge hC 49 (dk DX6_firstAlarm_0k 9 rfl) (by decide) ⟨⟨by omega, by omega⟩, (by decide)⟩ (fun c2 => ?_) (fun c2 => ?_)
      · refine zz_iconst hC (dk DX6_firstAlarm_0k 25 rfl) ?_
        exact zz_iret hC hQ hr (u1.1, u1.2.1, u1.2.2.1, f1, f2, u1.2.2.2, (zBN n K T U S F L w), 0, ha, (-1)) ⟨rfl, (by unfold zFa; rw [zFst_no (fun j hj => hno j (by omega))])⟩ rfl [0, 1, 2, 3, 4, 5, 6, 7, 8, 9, 10] rfl rfl ⟨Nat.le_refl _, Nat.le_refl _⟩ (dk DX6_firstAlarm_0k 26 rfl)
      · refine zz_iload_n hC 1 (dk DX6_firstAlarm_0k 10 rfl) rfl rfl ?_
        refine zz_if_eq hC 33 (dk DX6_firstAlarm_0k 11 rfl) (by decide) ⟨by omega, by omega⟩ (fun c3 => ?_) (fun c3 => ?_)
        · refine zz_aload_n hC 0 (dk DX6_firstAlarm_0k 17 rfl) rfl rfl ?_
          refine zz_iload_n hC 2 (dk DX6_firstAlarm_0k 18 rfl) rfl rfl ?_
          refine zz_pureVi hC (c_X6_isLimit l D m0 m1 m2 m3 m4 m5 m6 m7 m8 m9 m10 NW PA AS tb u1.1 u1.2.1 u1.2.2.1 f1 f2 u1.2.2.2 sv len sp 0 nu rk rt ra (zBN n K T U S F L w) ha n w K T U S F L i hN hs hu1p (by omega)) G_X6_187 H_X6_isLimit ⟨Nat.le_of_ble_eq_true rfl, Nat.le_of_ble_eq_true rfl⟩ rfl [0, 1, 2, 3, 4, 5, 6, 7, 8, 9, 10] rfl rfl 0 6 ⟨rfl, rfl, rfl⟩ (As := [.int (zI ((i : Nat) : Int))]) (rest := []) (Nat.le_of_ble_eq_true rfl) rfl ⟨Nat.le_of_ble_eq_true rfl, Nat.le_of_ble_eq_true rfl⟩ (dk DX6_firstAlarm_0k 19 rfl) ⟨rfl, rfl⟩ ?_
          refine zz_ifb_eq hC 43 (dk DX6_firstAlarm_0k 20 rfl) (by decide) (fun c4 => ?_) (fun c4 => ?_)
          · refine zz_iinc hC ((i + 1 : Nat) : Int) (ls' := [(0, .ref m0), (1, .int (zI gb)), (2, .int (zI ((i + 1 : Nat) : Int)))]) 2 [1, 2, 0] (dk DX6_firstAlarm_0k 23 rfl) rfl (by omega) (by decide) rfl ?_
            refine zz_goto hC 11 (dk DX6_firstAlarm_0k 24 rfl) (by decide) ?_
            refine zz_ls [0, 1, 2] rfl ?_
            exact ih11 (i + 1) (by omega) (fun j hj => by by_cases e : j = i; (subst e; show (if gb = 0 then zLim (zPks n K T U S F L w) (S 9) (S 10) j else zGro (zPks n K T U S F L w) j) = false; rw [if_pos (by omega)]; rw [← zLim_cg (by omega) hu1.2]; exact Bool.eq_false_iff.mpr (by assumption)); exact hno j (by omega)) (by omega)
          · refine zz_iload_n hC 2 (dk DX6_firstAlarm_0k 21 rfl) rfl rfl ?_
            exact zz_iret hC hQ hr (u1.1, u1.2.1, u1.2.2.1, f1, f2, u1.2.2.2, (zBN n K T U S F L w), 0, ha, ((i : Nat) : Int)) ⟨rfl, (by unfold zFa; exact (zFst_at (k := i) (by show (if gb = 0 then zLim (zPks n K T U S F L w) (S 9) (S 10) i else zGro (zPks n K T U S F L w) i) = true; rw [if_pos (by omega)]; rw [← zLim_cg (by omega) hu1.2]; assumption) hno (by omega)).symm)⟩ rfl [0, 1, 2, 3, 4, 5, 6, 7, 8, 9, 10] rfl rfl ⟨Nat.le_refl _, Nat.le_refl _⟩ (dk DX6_firstAlarm_0k 22 rfl)
        · refine zz_aload_n hC 0 (dk DX6_firstAlarm_0k 12 rfl) rfl rfl ?_
          refine zz_iload_n hC 2 (dk DX6_firstAlarm_0k 13 rfl) rfl rfl ?_
          refine zz_pureVi hC (c_X6_isGrowth l D m0 m1 m2 m3 m4 m5 m6 m7 m8 m9 m10 NW PA AS tb u1.1 u1.2.1 u1.2.2.1 f1 f2 u1.2.2.2 sv len sp 0 nu rk rt ra (zBN n K T U S F L w) ha n w K T U S F L i hu1p (by omega)) G_X6_190 H_X6_isGrowth ⟨Nat.le_of_ble_eq_true rfl, Nat.le_of_ble_eq_true rfl⟩ rfl [0, 1, 2, 3, 4, 5, 6, 7, 8, 9, 10] rfl rfl 0 6 ⟨rfl, rfl, rfl⟩ (As := [.int (zI ((i : Nat) : Int))]) (rest := []) (Nat.le_of_ble_eq_true rfl) rfl ⟨Nat.le_of_ble_eq_true rfl, Nat.le_of_ble_eq_true rfl⟩ (dk DX6_firstAlarm_0k 14 rfl) ⟨rfl, rfl⟩ ?_
          refine zz_ifb_eq hC 43 (dk DX6_firstAlarm_0k 15 rfl) (by decide) (fun c5 => ?_) (fun c5 => ?_)
          · refine zz_iinc hC ((i + 1 : Nat) : Int) (ls' := [(0, .ref m0), (1, .int (zI gb)), (2, .int (zI ((i + 1 : Nat) : Int)))]) 2 [1, 2, 0] (dk DX6_firstAlarm_0k 23 rfl) rfl (by omega) (by decide) rfl ?_
            refine zz_goto hC 11 (dk DX6_firstAlarm_0k 24 rfl) (by decide) ?_
            refine zz_ls [0, 1, 2] rfl ?_
            exact ih11 (i + 1) (by omega) (fun j hj => by by_cases e : j = i; (subst e; show (if gb = 0 then zLim (zPks n K T U S F L w) (S 9) (S 10) j else zGro (zPks n K T U S F L w) j) = false; rw [if_neg (by omega)]; rw [← zGro_cg (by omega) hu1.2]; exact Bool.eq_false_iff.mpr (by assumption)); exact hno j (by omega)) (by omega)
          · refine zz_goto hC 41 (dk DX6_firstAlarm_0k 16 rfl) (by decide) ?_
            refine zz_iload_n hC 2 (dk DX6_firstAlarm_0k 21 rfl) rfl rfl ?_
            exact zz_iret hC hQ hr (u1.1, u1.2.1, u1.2.2.1, f1, f2, u1.2.2.2, (zBN n K T U S F L w), 0, ha, ((i : Nat) : Int)) ⟨rfl, (by unfold zFa; exact (zFst_at (k := i) (by show (if gb = 0 then zLim (zPks n K T U S F L w) (S 9) (S 10) i else zGro (zPks n K T U S F L w) i) = true; rw [if_neg (by omega)]; rw [← zGro_cg (by omega) hu1.2]; assumption) hno (by omega)).symm)⟩ rfl [0, 1, 2, 3, 4, 5, 6, 7, 8, 9, 10] rfl rfl ⟨Nat.le_refl _, Nat.le_refl _⟩ (dk DX6_firstAlarm_0k 22 rfl)
  refine zz_ls [0, 1, 2] rfl ?_
  exact LP11 _ 0 (by omega) (fun j hj => absurd hj (by omega)) (Nat.lt_succ_self _)
set_option maxHeartbeats 4000000 in
set_option maxRecDepth 100000 in
theorem c_X6_levelFor (l : Launch) (D : zG) (m0 : Nat) (m1 : Nat) (m2 : Nat) (m3 : Nat) (m4 : Nat) (m5 : Nat) (m6 : Nat) (m7 : Nat) (m8 : Nat) (m9 : Nat) (m10 : Nat) (NW : Nat → Int) (PA : Nat → Int) (AS : Nat → Int) (tb : Nat → Int) (st : Nat → Int) (bo : Nat → Int) (sh : Nat → Int) (f1 : Nat → Int) (f2 : Nat → Int) (pk : Nat → Int) (sv : Nat) (len : Nat) (sp : Nat) (rf : Int) (nu : Int) (rk : Int) (rt : Int) (ra : Int) (bm : Int) (ha : Int) (n : Nat) (w : Nat) (K : Nat → Int) (T : Nat → Int) (U : Nat → Int) (S : Nat → Int) (F : Nat → Int) (L : Nat → Int) (x : Int) (hN : zRow NW n K T U S F L w) (hg : zLog n K T U) (hs : zSet S) (hw : zWin w F L) (hri : (-2147483648 ≤ x ∧ x ≤ 2147483647)) : CI (S := (Nat → Int) × (Nat → Int) × (Nat → Int) × (Nat → Int) × (Nat → Int) × (Nat → Int) × Int × Int × Int × Int) l yX6_levelFor cX6_levelFor 3 ((some .int)) ({ frames := 4, cells := 0, slots := 0, locals := 91 } : Room) D [.ref m0, .int (zI x)] [(m0, .inr (6, [.ref m1, .ref m2, .ref m3, .int (zI ((sv : Nat) : Int)), .int (zI rf), .ref m4, .int (zI ((len : Nat) : Int)), .int (zI ((sp : Nat) : Int)), .int (zI nu), .int (zI rk), .int (zI rt), .int (zI ra), .ref m5, .ref m6, .int (zI bm), .ref m7, .ref m8, .ref m9, .ref m10, .long (zL ha)])), (m1, iA D 771 NW), (m2, iA D 3084 PA), (m3, iA D 771 AS), (m4, iA D 150 tb), (m5, iA D 250 st), (m6, iA D 250 bo), (m7, iA D 250 sh), (m8, iA D 36 f1), (m9, iA D 36 f2), (m10, iA D 2778 pk)] (fun u => zO1 (0 ≤ x ∧ x ≤ 250) (u.2.2.2.2.2.2.2.1) (u.2.2.2.2.2.2.2.2.2 = zLf n K T U S F L w x)) (fun u => u.2.2.2.2.2.2.2.2.2) (fun u => [(m0, .inr (6, [.ref m1, .ref m2, .ref m3, .int (zI ((sv : Nat) : Int)), .int (zI u.2.2.2.2.2.2.2.1), .ref m4, .int (zI ((len : Nat) : Int)), .int (zI ((sp : Nat) : Int)), .int (zI nu), .int (zI rk), .int (zI rt), .int (zI ra), .ref m5, .ref m6, .int (zI u.2.2.2.2.2.2.1), .ref m7, .ref m8, .ref m9, .ref m10, .long (zL u.2.2.2.2.2.2.2.2.1)])), (m1, iA D 771 NW), (m2, iA D 3084 PA), (m3, iA D 771 AS), (m4, iA D 150 tb), (m5, iA D 250 u.1), (m6, iA D 250 u.2.1), (m7, iA D 250 u.2.2.1), (m8, iA D 36 u.2.2.2.1), (m9, iA D 36 u.2.2.2.2.1), (m10, iA D 2778 u.2.2.2.2.2.1)]) := by
  refine CI_of (by decide) (Nat.le_of_ble_eq_true rfl) ?_
  intro p e s m args below meth cd A Q hQ hC hr hnm
  have hC : ZC p s m args meth cd A D 3 cX6_levelFor RX6 := hC
  have hg0 := hg
  obtain ⟨hn, hK, hT, hU, hM⟩ := hg0
  have hs3 := hs.2.2.2.1
  have hs4 := hs.2.2.2.2.1
  have hs5 := hs.2.2.2.2.2.1
  show Z p l e ({ frames := 4, cells := 0, slots := 0, locals := 91 } : Room) s m args below meth cd A D Q 3 0 0 [(m0, .inr (6, [.ref m1, .ref m2, .ref m3, .int (zI ((sv : Nat) : Int)), .int (zI rf), .ref m4, .int (zI ((len : Nat) : Int)), .int (zI ((sp : Nat) : Int)), .int (zI nu), .int (zI rk), .int (zI rt), .int (zI ra), .ref m5, .ref m6, .int (zI bm), .ref m7, .ref m8, .ref m9, .ref m10, .long (zL ha)])), (m1, iA D 771 NW), (m2, iA D 3084 PA), (m3, iA D 771 AS), (m4, iA D 150 tb), (m5, iA D 250 st), (m6, iA D 250 bo), (m7, iA D 250 sh), (m8, iA D 36 f1), (m9, iA D 36 f2), (m10, iA D 2778 pk)] [(0, .ref m0), (1, .int (zI x))] [] 0
  refine zz_aload_n hC 0 (dk DX6_levelFor_0k 0 rfl) rfl rfl ?_
  refine zz_iload_n hC 1 (dk DX6_levelFor_0k 1 rfl) rfl rfl ?_
  refine zz_iconst hC (dk DX6_levelFor_0k 2 rfl) ?_
  refine zz_sipush hC (dk DX6_levelFor_0k 3 rfl) (by decide) ?_
  refine zz_pureSi hC (c_X6_within l D x 0 250 (by omega)) G_X6_52 H_X6_within.2 ⟨Nat.le_of_ble_eq_true rfl, Nat.le_of_ble_eq_true rfl⟩ rfl [] rfl rfl (As := [.int (zI x), .int (zI 0), .int (zI 250)]) (rest := [.ref m0]) (Nat.le_of_ble_eq_true rfl) rfl ⟨Nat.le_of_ble_eq_true rfl, Nat.le_of_ble_eq_true rfl⟩ (dk DX6_levelFor_0k 4 rfl) ⟨rfl, rfl⟩ ?_
  refine zz_ifb_eq hC 16 (dk DX6_levelFor_0k 5 rfl) (by decide) (fun c1 => ?_) (fun c1 => ?_)
  · refine zz_iconst hC (dk DX6_levelFor_0k 8 rfl) ?_
    refine zz_callVi hC (wr := []) (c_X6_refused l D m0 m1 m2 m3 m4 m5 m6 m7 m8 m9 m10 NW PA AS tb st bo sh f1 f2 pk sv len sp rf nu rk rt ra bm ha n w K T U S F L 1 (by omega)) G_X6_47 H_X6_refused ⟨Nat.le_of_ble_eq_true rfl, Nat.le_of_ble_eq_true rfl⟩ rfl [0, 1, 2, 3, 4, 5, 6, 7, 8, 9, 10] [] rfl rfl ⟨rfl, rfl, by decide⟩ 0 6 ⟨rfl, rfl, rfl⟩ (As := [.int (zI 1)]) (rest := []) (Nat.le_of_ble_eq_true rfl) rfl ⟨Nat.le_of_ble_eq_true rfl, Nat.le_of_ble_eq_true rfl⟩ (dk DX6_levelFor_0k 9 rfl) ⟨rfl, rfl⟩ (wb := fun u2 => [(m0, .inr (6, [.ref m1, .ref m2, .ref m3, .int (zI ((sv : Nat) : Int)), .int (zI 1), .ref m4, .int (zI ((len : Nat) : Int)), .int (zI ((sp : Nat) : Int)), .int (zI nu), .int (zI rk), .int (zI rt), .int (zI ra), .ref m5, .ref m6, .int (zI bm), .ref m7, .ref m8, .ref m9, .ref m10, .long (zL ha)])), (m1, iA D 771 NW), (m2, iA D 3084 PA), (m3, iA D 771 AS), (m4, iA D 150 tb), (m5, iA D 250 st), (m6, iA D 250 bo), (m7, iA D 250 sh), (m8, iA D 36 f1), (m9, iA D 36 f2), (m10, iA D 2778 pk)]) [0, 1, 2, 3, 4, 5, 6, 7, 8, 9, 10] rfl (fun _ => rfl) (fun u2 hu2 => ?_)
    refine zz_ifb_eq hC 25 (dk DX6_levelFor_0k 10 rfl) (by decide) (fun c3 => ?_) (fun c3 => ?_)
    · exfalso; omega
    · refine zz_iconst hC (dk DX6_levelFor_0k 11 rfl) ?_
      exact zz_iret hC hQ hr (st, bo, sh, f1, f2, pk, bm, 1, ha, 0) (Or.inr ⟨(by omega), rfl⟩) rfl [0, 1, 2, 3, 4, 5, 6, 7, 8, 9, 10] rfl rfl ⟨Nat.le_refl _, Nat.le_refl _⟩ (dk DX6_levelFor_0k 12 rfl)
  · refine zz_iconst hC (dk DX6_levelFor_0k 6 rfl) ?_
    refine zz_goto hC 17 (dk DX6_levelFor_0k 7 rfl) (by decide) ?_
    refine zz_callVi hC (wr := []) (c_X6_refused l D m0 m1 m2 m3 m4 m5 m6 m7 m8 m9 m10 NW PA AS tb st bo sh f1 f2 pk sv len sp rf nu rk rt ra bm ha n w K T U S F L 0 (by omega)) G_X6_47 H_X6_refused ⟨Nat.le_of_ble_eq_true rfl, Nat.le_of_ble_eq_true rfl⟩ rfl [0, 1, 2, 3, 4, 5, 6, 7, 8, 9, 10] [] rfl rfl ⟨rfl, rfl, by decide⟩ 0 6 ⟨rfl, rfl, rfl⟩ (As := [.int (zI 0)]) (rest := []) (Nat.le_of_ble_eq_true rfl) rfl ⟨Nat.le_of_ble_eq_true rfl, Nat.le_of_ble_eq_true rfl⟩ (dk DX6_levelFor_0k 9 rfl) ⟨rfl, rfl⟩ (wb := fun u4 => [(m0, .inr (6, [.ref m1, .ref m2, .ref m3, .int (zI ((sv : Nat) : Int)), .int (zI 0), .ref m4, .int (zI ((len : Nat) : Int)), .int (zI ((sp : Nat) : Int)), .int (zI nu), .int (zI rk), .int (zI rt), .int (zI ra), .ref m5, .ref m6, .int (zI bm), .ref m7, .ref m8, .ref m9, .ref m10, .long (zL ha)])), (m1, iA D 771 NW), (m2, iA D 3084 PA), (m3, iA D 771 AS), (m4, iA D 150 tb), (m5, iA D 250 st), (m6, iA D 250 bo), (m7, iA D 250 sh), (m8, iA D 36 f1), (m9, iA D 36 f2), (m10, iA D 2778 pk)]) [0, 1, 2, 3, 4, 5, 6, 7, 8, 9, 10] rfl (fun _ => rfl) (fun u4 hu4 => ?_)
    refine zz_ifb_eq hC 25 (dk DX6_levelFor_0k 10 rfl) (by decide) (fun c5 => ?_) (fun c5 => ?_)
    · refine zz_aload_n hC 0 (dk DX6_levelFor_0k 13 rfl) rfl rfl ?_
      refine zz_aload_n hC 0 (dk DX6_levelFor_0k 14 rfl) rfl rfl ?_
      refine zz_get hC F_X6_7 0 rfl rfl (dk DX6_levelFor_0k 15 rfl) ?_
      refine zz_iconst hC (dk DX6_levelFor_0k 16 rfl) ?_
      refine zz_iald hC 3 1 rfl rfl (by omega) (dk DX6_levelFor_0k 17 rfl) ?_
      rw [hN.1 3 (by omega)]
      have hf6 := zSet_in hs 3 (by omega)
      refine zz_aload_n hC 0 (dk DX6_levelFor_0k 18 rfl) rfl rfl ?_
      refine zz_get hC F_X6_7 0 rfl rfl (dk DX6_levelFor_0k 19 rfl) ?_
      refine zz_iconst hC (dk DX6_levelFor_0k 20 rfl) ?_
      refine zz_iald hC 4 1 rfl rfl (by omega) (dk DX6_levelFor_0k 21 rfl) ?_
      rw [hN.1 4 (by omega)]
      have hf7 := zSet_in hs 4 (by omega)
      refine zz_callVv hC (wr := []) (c_X6_shuts l D m0 m1 m2 m3 m4 m5 m6 m7 m8 m9 m10 NW PA AS tb st bo sh f1 f2 pk sv len sp 0 nu rk rt ra bm ha n w K T U S F L (S 3) (S 4) hN hg hs hw (by omega) (by omega)) G_X6_131 H_X6_shuts ⟨Nat.le_of_ble_eq_true rfl, Nat.le_of_ble_eq_true rfl⟩ rfl [0, 1, 2, 3, 4, 5, 6, 7, 8, 9, 10] [] rfl rfl ⟨rfl, rfl, by decide⟩ 0 6 ⟨rfl, rfl, rfl⟩ (As := [.int (zI (S 3)), .int (zI (S 4))]) (rest := []) (Nat.le_of_ble_eq_true rfl) rfl ⟨Nat.le_of_ble_eq_true rfl, Nat.le_of_ble_eq_true rfl⟩ (dk DX6_levelFor_0k 22 rfl) ⟨rfl, rfl⟩ (wb := fun u8 => [(m0, .inr (6, [.ref m1, .ref m2, .ref m3, .int (zI ((sv : Nat) : Int)), .int (zI 0), .ref m4, .int (zI ((len : Nat) : Int)), .int (zI ((sp : Nat) : Int)), .int (zI nu), .int (zI rk), .int (zI rt), .int (zI ra), .ref m5, .ref m6, .int (zI bm), .ref m7, .ref m8, .ref m9, .ref m10, .long (zL ha)])), (m1, iA D 771 NW), (m2, iA D 3084 PA), (m3, iA D 771 AS), (m4, iA D 150 tb), (m5, iA D 250 st), (m6, iA D 250 bo), (m7, iA D 250 u8), (m8, iA D 36 f1), (m9, iA D 36 f2), (m10, iA D 2778 pk)]) [0, 1, 2, 3, 4, 5, 6, 7, 8, 9, 10] rfl (fun _ => rfl) (fun u8 hu8 => ?_)
      refine zz_iconst hC (dk DX6_levelFor_0k 23 rfl) ?_
      refine zz_istore_n hC (ls' := [(0, .ref m0), (1, .int (zI x)), (2, .int (zI 0))]) [1, 2, 0] (dk DX6_levelFor_0k 24 rfl) rfl (by decide) rfl ?_
      have LP43 : ∀ (fuel43 : Nat) (i : Nat) (st9 : Nat → Int), (i ≤ 2001) → (∀ j, j < i → (fun l : Nat => decide (zAw n K T U S F L w (l : Int) ≤ x)) j = false) → 2001 - i < fuel43 → Z p l e ({ frames := 4, cells := 0, slots := 0, locals := 91 } : Room) s m args below meth cd A D Q 3 0 0 [(m0, .inr (6, [.ref m1, .ref m2, .ref m3, .int (zI ((sv : Nat) : Int)), .int (zI 0), .ref m4, .int (zI ((len : Nat) : Int)), .int (zI ((sp : Nat) : Int)), .int (zI nu), .int (zI rk), .int (zI rt), .int (zI ra), .ref m5, .ref m6, .int (zI bm), .ref m7, .ref m8, .ref m9, .ref m10, .long (zL ha)])), (m1, iA D 771 NW), (m2, iA D 3084 PA), (m3, iA D 771 AS), (m4, iA D 150 tb), (m5, iA D 250 st9), (m6, iA D 250 bo), (m7, iA D 250 u8), (m8, iA D 36 f1), (m9, iA D 36 f2), (m10, iA D 2778 pk)] [(0, .ref m0), (1, .int (zI x)), (2, .int (zI ((i : Nat) : Int)))] [] 43 := by
        intro fuel43
        induction fuel43 with
        | zero => intro i st9 hi hno hfu; exact absurd hfu (Nat.not_lt_zero _)
        | succ fuel43 ih43 =>
          intro i st9 hi hno hfu43
          refine zz_iload_n hC 2 (dk DX6_levelFor_0k 25 rfl) rfl rfl ?_
          refine zz_sipush hC (dk DX6_levelFor_0k 26 rfl) (by decide) ?_
          refine zz_icmp_gt hC 78 (dk DX6_levelFor_0k 27 rfl) (by decide) ⟨⟨by omega, by omega⟩, (by decide)⟩ (fun c9 => ?_) (fun c9 => ?_)
          · refine zz_iconst hC (dk DX6_levelFor_0k 44 rfl) ?_
            exact zz_iret hC hQ hr (st9, bo, u8, f1, f2, pk, bm, 0, ha, (-1)) (Or.inl ⟨(by omega), rfl, (by unfold zLf; rw [zFst_no (fun j hj => hno j (by omega))])⟩) rfl [0, 1, 2, 3, 4, 5, 6, 7, 8, 9, 10] rfl rfl ⟨Nat.le_refl _, Nat.le_refl _⟩ (dk DX6_levelFor_0k 45 rfl)
          · refine zz_aload_n hC 0 (dk DX6_levelFor_0k 28 rfl) rfl rfl ?_
            refine zz_iload_n hC 2 (dk DX6_levelFor_0k 29 rfl) rfl rfl ?_
            refine zz_aload_n hC 0 (dk DX6_levelFor_0k 30 rfl) rfl rfl ?_
            refine zz_get hC F_X6_7 0 rfl rfl (dk DX6_levelFor_0k 31 rfl) ?_
            refine zz_iconst hC (dk DX6_levelFor_0k 32 rfl) ?_
            refine zz_iald hC 5 1 rfl rfl (by omega) (dk DX6_levelFor_0k 33 rfl) ?_
            rw [hN.1 5 (by omega)]
            have hf10 := zSet_in hs 5 (by omega)
            refine zz_callVv hC (wr := []) (c_X6_lays l D m0 m1 m2 m3 m4 m5 m6 m7 m8 m9 m10 NW PA AS tb st9 bo u8 f1 f2 pk sv len sp 0 nu rk rt ra bm ha n w K T U S F L (zGat n K T U (S 3) (S 4)) ((i : Nat) : Int) (S 5) hN hg hs hw hu8 (by omega) (by omega)) G_X6_135 H_X6_lays ⟨Nat.le_of_ble_eq_true rfl, Nat.le_of_ble_eq_true rfl⟩ rfl [0, 1, 2, 3, 4, 5, 6, 7, 8, 9, 10] [] rfl rfl ⟨rfl, rfl, by decide⟩ 0 6 ⟨rfl, rfl, rfl⟩ (As := [.int (zI ((i : Nat) : Int)), .int (zI (S 5))]) (rest := []) (Nat.le_of_ble_eq_true rfl) rfl ⟨Nat.le_of_ble_eq_true rfl, Nat.le_of_ble_eq_true rfl⟩ (dk DX6_levelFor_0k 34 rfl) ⟨rfl, rfl⟩ (wb := fun u11 => [(m0, .inr (6, [.ref m1, .ref m2, .ref m3, .int (zI ((sv : Nat) : Int)), .int (zI 0), .ref m4, .int (zI ((len : Nat) : Int)), .int (zI ((sp : Nat) : Int)), .int (zI nu), .int (zI rk), .int (zI rt), .int (zI ra), .ref m5, .ref m6, .int (zI bm), .ref m7, .ref m8, .ref m9, .ref m10, .long (zL ha)])), (m1, iA D 771 NW), (m2, iA D 3084 PA), (m3, iA D 771 AS), (m4, iA D 150 tb), (m5, iA D 250 u11), (m6, iA D 250 bo), (m7, iA D 250 u8), (m8, iA D 36 f1), (m9, iA D 36 f2), (m10, iA D 2778 pk)]) [0, 1, 2, 3, 4, 5, 6, 7, 8, 9, 10] rfl (fun _ => rfl) (fun u11 hu11 => ?_)
            refine zz_aload_n hC 0 (dk DX6_levelFor_0k 35 rfl) rfl rfl ?_
            refine zz_iconst hC (dk DX6_levelFor_0k 36 rfl) ?_
            refine zz_pureVi hC (c_X6_manyOf l D m0 m1 m2 m3 m4 m5 m6 m7 m8 m9 m10 NW PA AS tb u11 bo u8 f1 f2 pk sv len sp 0 nu rk rt ra bm ha n w K T U S F L 0 hN hg (fun j hj => by rw [hu11 j hj]; exact zSt_in hK hj) (by omega)) G_X6_151 H_X6_manyOf ⟨Nat.le_of_ble_eq_true rfl, Nat.le_of_ble_eq_true rfl⟩ rfl [0, 1, 2, 3, 4, 5, 6, 7, 8, 9, 10] rfl rfl 0 6 ⟨rfl, rfl, rfl⟩ (As := [.int (zI 0)]) (rest := []) (Nat.le_of_ble_eq_true rfl) rfl ⟨Nat.le_of_ble_eq_true rfl, Nat.le_of_ble_eq_true rfl⟩ (dk DX6_levelFor_0k 37 rfl) ⟨rfl, rfl⟩ ?_
            have hf12 := zCt_in (P := fun a => decide (u11 a = 0)) (n := n)
            have hawi : zCt (fun a => decide (u11 a = 0)) n = zAw n K T U S F L w (i : Int) := zCt_cg (fun j hj => by show decide _ = decide _; rw [hu11 j hj])
            refine zz_iload_n hC 1 (dk DX6_levelFor_0k 38 rfl) rfl rfl ?_
            refine zz_icmp_gt hC 72 (dk DX6_levelFor_0k 39 rfl) (by decide) ⟨⟨by omega, by omega⟩, ⟨by omega, by omega⟩⟩ (fun c13 => ?_) (fun c13 => ?_)
            · refine zz_iinc hC ((i + 1 : Nat) : Int) (ls' := [(0, .ref m0), (1, .int (zI x)), (2, .int (zI ((i + 1 : Nat) : Int)))]) 2 [1, 2, 0] (dk DX6_levelFor_0k 42 rfl) rfl (by omega) (by decide) rfl ?_
              refine zz_goto hC 43 (dk DX6_levelFor_0k 43 rfl) (by decide) ?_
              refine zz_ls [0, 1, 2] rfl ?_
              exact ih43 (i + 1) u11 (by omega) (fun j hj => by by_cases e : j = i; (subst e; exact decide_eq_false (by rw [← hawi]; omega)); exact hno j (by omega)) (by omega)
            · refine zz_iload_n hC 2 (dk DX6_levelFor_0k 40 rfl) rfl rfl ?_
              exact zz_iret hC hQ hr (u11, bo, u8, f1, f2, pk, bm, 0, ha, ((i : Nat) : Int)) (Or.inl ⟨(by omega), rfl, (by unfold zLf; exact (zFst_at (k := i) (decide_eq_true (by rw [← hawi]; omega)) hno (by omega)).symm)⟩) rfl [0, 1, 2, 3, 4, 5, 6, 7, 8, 9, 10] rfl rfl ⟨Nat.le_refl _, Nat.le_refl _⟩ (dk DX6_levelFor_0k 41 rfl)
      refine zz_ls [0, 1, 2] rfl ?_
      exact LP43 _ 0 st (by omega) (fun j hj => absurd hj (by omega)) (Nat.lt_succ_self _)
    · exfalso; omega
set_option maxHeartbeats 4000000 in
set_option maxRecDepth 100000 in
theorem c_X6_mix (l : Launch) (D : zG) (m0 : Nat) (m1 : Nat) (m2 : Nat) (m3 : Nat) (m4 : Nat) (m5 : Nat) (m6 : Nat) (m7 : Nat) (m8 : Nat) (m9 : Nat) (m10 : Nat) (NW : Nat → Int) (PA : Nat → Int) (AS : Nat → Int) (tb : Nat → Int) (st : Nat → Int) (bo : Nat → Int) (sh : Nat → Int) (f1 : Nat → Int) (f2 : Nat → Int) (pk : Nat → Int) (sv : Nat) (len : Nat) (sp : Nat) (rf : Int) (nu : Int) (rk : Int) (rt : Int) (ra : Int) (bm : Int) (ha : Int) (n : Nat) (w : Nat) (K : Nat → Int) (T : Nat → Int) (U : Nat → Int) (S : Nat → Int) (F : Nat → Int) (L : Nat → Int) (x : Int) (hri : (-2147483648 ≤ x ∧ x ≤ 2147483647)) : CV (S := Unit) l yX6_mix cX6_mix 2 (none) ({ frames := 0, cells := 0, slots := 0, locals := 0 } : Room) D [.ref m0, .int (zI x)] [(m0, .inr (6, [.ref m1, .ref m2, .ref m3, .int (zI ((sv : Nat) : Int)), .int (zI rf), .ref m4, .int (zI ((len : Nat) : Int)), .int (zI ((sp : Nat) : Int)), .int (zI nu), .int (zI rk), .int (zI rt), .int (zI ra), .ref m5, .ref m6, .int (zI bm), .ref m7, .ref m8, .ref m9, .ref m10, .long (zL ha)])), (m1, iA D 771 NW), (m2, iA D 3084 PA), (m3, iA D 771 AS), (m4, iA D 150 tb), (m5, iA D 250 st), (m6, iA D 250 bo), (m7, iA D 250 sh), (m8, iA D 36 f1), (m9, iA D 36 f2), (m10, iA D 2778 pk)] (fun u => True)  (fun u => [(m0, .inr (6, [.ref m1, .ref m2, .ref m3, .int (zI ((sv : Nat) : Int)), .int (zI rf), .ref m4, .int (zI ((len : Nat) : Int)), .int (zI ((sp : Nat) : Int)), .int (zI nu), .int (zI rk), .int (zI rt), .int (zI ra), .ref m5, .ref m6, .int (zI bm), .ref m7, .ref m8, .ref m9, .ref m10, .long (zL (31 * ha + x))])), (m1, iA D 771 NW), (m2, iA D 3084 PA), (m3, iA D 771 AS), (m4, iA D 150 tb), (m5, iA D 250 st), (m6, iA D 250 bo), (m7, iA D 250 sh), (m8, iA D 36 f1), (m9, iA D 36 f2), (m10, iA D 2778 pk)]) := by
  refine CV_of (by decide) (Nat.le_of_ble_eq_true rfl) ?_
  intro p e s m args below meth cd A Q hQ hC hr hnm
  have hC : ZC p s m args meth cd A D 2 cX6_mix RX6 := hC
  show Z p l e ({ frames := 0, cells := 0, slots := 0, locals := 0 } : Room) s m args below meth cd A D Q 2 0 0 [(m0, .inr (6, [.ref m1, .ref m2, .ref m3, .int (zI ((sv : Nat) : Int)), .int (zI rf), .ref m4, .int (zI ((len : Nat) : Int)), .int (zI ((sp : Nat) : Int)), .int (zI nu), .int (zI rk), .int (zI rt), .int (zI ra), .ref m5, .ref m6, .int (zI bm), .ref m7, .ref m8, .ref m9, .ref m10, .long (zL ha)])), (m1, iA D 771 NW), (m2, iA D 3084 PA), (m3, iA D 771 AS), (m4, iA D 150 tb), (m5, iA D 250 st), (m6, iA D 250 bo), (m7, iA D 250 sh), (m8, iA D 36 f1), (m9, iA D 36 f2), (m10, iA D 2778 pk)] [(0, .ref m0), (1, .int (zI x))] [] 0
  refine zz_aload_n hC 0 (dk DX6_mix_0k 0 rfl) rfl rfl ?_
  refine zz_ldc2 hC 31 K_X6_199 (by decide) (dk DX6_mix_0k 1 rfl) ?_
  refine zz_aload_n hC 0 (dk DX6_mix_0k 2 rfl) rfl rfl ?_
  refine zz_get hC F_X6_201 0 rfl rfl (dk DX6_mix_0k 3 rfl) ?_
  refine zz_lmul hC (dk DX6_mix_0k 4 rfl) ?_
  refine zz_iload_n hC 1 (dk DX6_mix_0k 5 rfl) rfl rfl ?_
  refine zz_i2l hC (dk DX6_mix_0k 6 rfl) ⟨by omega, by omega⟩ ?_
  refine zz_ladd hC (dk DX6_mix_0k 7 rfl) ?_
  refine zz_put hC F_X6_201 fc_X6 rfl (tyX6_ok 19 (by decide)) 0 (ws' := [(m0, .inr (6, [.ref m1, .ref m2, .ref m3, .int (zI ((sv : Nat) : Int)), .int (zI rf), .ref m4, .int (zI ((len : Nat) : Int)), .int (zI ((sp : Nat) : Int)), .int (zI nu), .int (zI rk), .int (zI rt), .int (zI ra), .ref m5, .ref m6, .int (zI bm), .ref m7, .ref m8, .ref m9, .ref m10, .long (zL ((31 * ha) + x))])), (m1, iA D 771 NW), (m2, iA D 3084 PA), (m3, iA D 771 AS), (m4, iA D 150 tb), (m5, iA D 250 st), (m6, iA D 250 bo), (m7, iA D 250 sh), (m8, iA D 36 f1), (m9, iA D 36 f2), (m10, iA D 2778 pk)]) rfl rfl rfl (Nat.le_of_ble_eq_true rfl) rfl (dk DX6_mix_0k 8 rfl) ?_
  exact zz_ret hC hQ hr () trivial [0, 1, 2, 3, 4, 5, 6, 7, 8, 9, 10] rfl rfl ⟨Nat.le_refl _, Nat.le_refl _⟩ (dk DX6_mix_0k 9 rfl)
set_option maxHeartbeats 4000000 in
set_option maxRecDepth 100000 in
theorem c_X6_mixAll (l : Launch) (D : zG) (m0 : Nat) (m1 : Nat) (m2 : Nat) (m3 : Nat) (m4 : Nat) (m5 : Nat) (m6 : Nat) (m7 : Nat) (m8 : Nat) (m9 : Nat) (m10 : Nat) (NW : Nat → Int) (PA : Nat → Int) (AS : Nat → Int) (tb : Nat → Int) (st : Nat → Int) (bo : Nat → Int) (sh : Nat → Int) (f1 : Nat → Int) (f2 : Nat → Int) (pk : Nat → Int) (sv : Nat) (len : Nat) (sp : Nat) (rf : Int) (nu : Int) (rk : Int) (rt : Int) (ra : Int) (bm : Int) (ha : Int) (n : Nat) (w : Nat) (K : Nat → Int) (T : Nat → Int) (U : Nat → Int) (S : Nat → Int) (F : Nat → Int) (L : Nat → Int) (x : Nat) (k : Nat) (hxk : x + k ≤ 771) (hnr : ∀ j, j < k → -2147483648 ≤ NW (x + j) ∧ NW (x + j) ≤ 2147483647) : CV (S := Unit) l yX6_mixAll cX6_mixAll 4 (none) ({ frames := 1, cells := 0, slots := 0, locals := 21 } : Room) D [.ref m0, .int (zI ((x : Nat) : Int)), .int (zI ((k : Nat) : Int))] [(m0, .inr (6, [.ref m1, .ref m2, .ref m3, .int (zI ((sv : Nat) : Int)), .int (zI rf), .ref m4, .int (zI ((len : Nat) : Int)), .int (zI ((sp : Nat) : Int)), .int (zI nu), .int (zI rk), .int (zI rt), .int (zI ra), .ref m5, .ref m6, .int (zI bm), .ref m7, .ref m8, .ref m9, .ref m10, .long (zL ha)])), (m1, iA D 771 NW), (m2, iA D 3084 PA), (m3, iA D 771 AS), (m4, iA D 150 tb), (m5, iA D 250 st), (m6, iA D 250 bo), (m7, iA D 250 sh), (m8, iA D 36 f1), (m9, iA D 36 f2), (m10, iA D 2778 pk)] (fun u => True)  (fun u => [(m0, .inr (6, [.ref m1, .ref m2, .ref m3, .int (zI ((sv : Nat) : Int)), .int (zI rf), .ref m4, .int (zI ((len : Nat) : Int)), .int (zI ((sp : Nat) : Int)), .int (zI nu), .int (zI rk), .int (zI rt), .int (zI ra), .ref m5, .ref m6, .int (zI bm), .ref m7, .ref m8, .ref m9, .ref m10, .long (zL (zHs ha (fun j => NW (x + j)) k))])), (m1, iA D 771 NW), (m2, iA D 3084 PA), (m3, iA D 771 AS), (m4, iA D 150 tb), (m5, iA D 250 st), (m6, iA D 250 bo), (m7, iA D 250 sh), (m8, iA D 36 f1), (m9, iA D 36 f2), (m10, iA D 2778 pk)]) := by
  refine CV_of (by decide) (Nat.le_of_ble_eq_true rfl) ?_
  intro p e s m args below meth cd A Q hQ hC hr hnm
  have hC : ZC p s m args meth cd A D 4 cX6_mixAll RX6 := hC
  show Z p l e ({ frames := 1, cells := 0, slots := 0, locals := 21 } : Room) s m args below meth cd A D Q 4 0 0 [(m0, .inr (6, [.ref m1, .ref m2, .ref m3, .int (zI ((sv : Nat) : Int)), .int (zI rf), .ref m4, .int (zI ((len : Nat) : Int)), .int (zI ((sp : Nat) : Int)), .int (zI nu), .int (zI rk), .int (zI rt), .int (zI ra), .ref m5, .ref m6, .int (zI bm), .ref m7, .ref m8, .ref m9, .ref m10, .long (zL ha)])), (m1, iA D 771 NW), (m2, iA D 3084 PA), (m3, iA D 771 AS), (m4, iA D 150 tb), (m5, iA D 250 st), (m6, iA D 250 bo), (m7, iA D 250 sh), (m8, iA D 36 f1), (m9, iA D 36 f2), (m10, iA D 2778 pk)] [(0, .ref m0), (1, .int (zI ((x : Nat) : Int))), (2, .int (zI ((k : Nat) : Int)))] [] 0
  refine zz_iload_n hC 1 (dk DX6_mixAll_0k 0 rfl) rfl rfl ?_
  refine zz_istore_n hC (ls' := [(0, .ref m0), (1, .int (zI ((x : Nat) : Int))), (2, .int (zI ((k : Nat) : Int))), (3, .int (zI ((x : Nat) : Int)))]) [1, 2, 3, 0] (dk DX6_mixAll_0k 1 rfl) rfl (by decide) rfl ?_
  have LP2 : ∀ (fuel2 : Nat) (j : Nat) (h9 : Int), (j ≤ k) → (h9 = zHs ha (fun j => NW (x + j)) j) → k - j < fuel2 → Z p l e ({ frames := 1, cells := 0, slots := 0, locals := 21 } : Room) s m args below meth cd A D Q 4 0 0 [(m0, .inr (6, [.ref m1, .ref m2, .ref m3, .int (zI ((sv : Nat) : Int)), .int (zI rf), .ref m4, .int (zI ((len : Nat) : Int)), .int (zI ((sp : Nat) : Int)), .int (zI nu), .int (zI rk), .int (zI rt), .int (zI ra), .ref m5, .ref m6, .int (zI bm), .ref m7, .ref m8, .ref m9, .ref m10, .long (zL h9)])), (m1, iA D 771 NW), (m2, iA D 3084 PA), (m3, iA D 771 AS), (m4, iA D 150 tb), (m5, iA D 250 st), (m6, iA D 250 bo), (m7, iA D 250 sh), (m8, iA D 36 f1), (m9, iA D 36 f2), (m10, iA D 2778 pk)] [(0, .ref m0), (1, .int (zI ((x : Nat) : Int))), (2, .int (zI ((k : Nat) : Int))), (3, .int (zI ((x + j : Nat) : Int)))] [] 2 := by
    intro fuel2
    induction fuel2 with
    | zero => intro j h9 hj hh9 hfu; exact absurd hfu (Nat.not_lt_zero _)
    | succ fuel2 ih2 =>
      intro j h9 hj hh9 hfu2
      refine zz_iload_n hC 3 (dk DX6_mixAll_0k 2 rfl) rfl rfl ?_
      refine zz_iload_n hC 1 (dk DX6_mixAll_0k 3 rfl) rfl rfl ?_
      refine zz_iload_n hC 2 (dk DX6_mixAll_0k 4 rfl) rfl rfl ?_
      refine zz_iadd hC (dk DX6_mixAll_0k 5 rfl) ?_
      refine zz_icmp_ge hC 25 (dk DX6_mixAll_0k 6 rfl) (by decide) ⟨⟨by omega, by omega⟩, ⟨by omega, by omega⟩⟩ (fun c1 => ?_) (fun c1 => ?_)
      · rw [show h9 = zHs ha (fun j => NW (x + j)) k by rw [hh9, show j = k by omega]]
        exact zz_ret hC hQ hr () trivial [0, 1, 2, 3, 4, 5, 6, 7, 8, 9, 10] rfl rfl ⟨Nat.le_refl _, Nat.le_refl _⟩ (dk DX6_mixAll_0k 15 rfl)
      · have hnj := hnr j (by omega)
        refine zz_aload_n hC 0 (dk DX6_mixAll_0k 7 rfl) rfl rfl ?_
        refine zz_aload_n hC 0 (dk DX6_mixAll_0k 8 rfl) rfl rfl ?_
        refine zz_get hC F_X6_7 0 rfl rfl (dk DX6_mixAll_0k 9 rfl) ?_
        refine zz_iload_n hC 3 (dk DX6_mixAll_0k 10 rfl) rfl rfl ?_
        refine zz_iald hC (x + j) 1 rfl rfl (by omega) (dk DX6_mixAll_0k 11 rfl) ?_
        refine zz_callVv hC (wr := []) (c_X6_mix l D m0 m1 m2 m3 m4 m5 m6 m7 m8 m9 m10 NW PA AS tb st bo sh f1 f2 pk sv len sp rf nu rk rt ra bm h9 n w K T U S F L (NW (x + j)) (by omega)) G_X6_205 H_X6_mix ⟨Nat.le_of_ble_eq_true rfl, Nat.le_of_ble_eq_true rfl⟩ rfl [0, 1, 2, 3, 4, 5, 6, 7, 8, 9, 10] [] rfl rfl ⟨rfl, rfl, by decide⟩ 0 6 ⟨rfl, rfl, rfl⟩ (As := [.int (zI (NW (x + j)))]) (rest := []) (Nat.le_of_ble_eq_true rfl) rfl ⟨Nat.le_of_ble_eq_true rfl, Nat.le_of_ble_eq_true rfl⟩ (dk DX6_mixAll_0k 12 rfl) ⟨rfl, rfl⟩ (wb := fun u2 => [(m0, .inr (6, [.ref m1, .ref m2, .ref m3, .int (zI ((sv : Nat) : Int)), .int (zI rf), .ref m4, .int (zI ((len : Nat) : Int)), .int (zI ((sp : Nat) : Int)), .int (zI nu), .int (zI rk), .int (zI rt), .int (zI ra), .ref m5, .ref m6, .int (zI bm), .ref m7, .ref m8, .ref m9, .ref m10, .long (zL (31 * h9 + (NW (x + j))))])), (m1, iA D 771 NW), (m2, iA D 3084 PA), (m3, iA D 771 AS), (m4, iA D 150 tb), (m5, iA D 250 st), (m6, iA D 250 bo), (m7, iA D 250 sh), (m8, iA D 36 f1), (m9, iA D 36 f2), (m10, iA D 2778 pk)]) [0, 1, 2, 3, 4, 5, 6, 7, 8, 9, 10] rfl (fun _ => rfl) (fun u2 hu2 => ?_)
        refine zz_iinc hC ((x + j + 1 : Nat) : Int) (ls' := [(0, .ref m0), (1, .int (zI ((x : Nat) : Int))), (2, .int (zI ((k : Nat) : Int))), (3, .int (zI ((x + j + 1 : Nat) : Int)))]) 3 [1, 2, 3, 0] (dk DX6_mixAll_0k 13 rfl) rfl (by omega) (by decide) rfl ?_
        refine zz_goto hC 2 (dk DX6_mixAll_0k 14 rfl) (by decide) ?_
        refine zz_ls [0, 1, 2, 3] rfl ?_
        exact ih2 (j + 1) (31 * h9 + (NW (x + j))) (by omega) (by simp only [zHs]; rw [← hh9]) (by omega)
  refine zz_ls [0, 1, 2, 3] rfl ?_
  exact LP2 _ 0 ha (by omega) rfl (Nat.lt_succ_self _)
set_option maxHeartbeats 4000000 in
set_option maxRecDepth 100000 in
theorem c_X6_digest (l : Launch) (D : zG) (m0 : Nat) (m1 : Nat) (m2 : Nat) (m3 : Nat) (m4 : Nat) (m5 : Nat) (m6 : Nat) (m7 : Nat) (m8 : Nat) (m9 : Nat) (m10 : Nat) (NW : Nat → Int) (PA : Nat → Int) (AS : Nat → Int) (tb : Nat → Int) (st : Nat → Int) (bo : Nat → Int) (sh : Nat → Int) (f1 : Nat → Int) (f2 : Nat → Int) (pk : Nat → Int) (sv : Nat) (len : Nat) (sp : Nat) (rf : Int) (nu : Int) (rk : Int) (rt : Int) (ra : Int) (bm : Int) (ha : Int) (n : Nat) (w : Nat) (K : Nat → Int) (T : Nat → Int) (U : Nat → Int) (S : Nat → Int) (F : Nat → Int) (L : Nat → Int) (hN : zRow NW n K T U S F L w) (hg : zLog n K T U) (hs : zSet S) (hw : zWin w F L) (hlen : len ≤ 150) (hsv : sv ≤ 4) : CL (S := (Nat → Int) × (Nat → Int) × (Nat → Int) × (Nat → Int) × (Nat → Int) × (Nat → Int) × Int × Int × Int × Int) l yX6_digest cX6_digest 3 ((some .long)) ({ frames := 5, cells := 0, slots := 0, locals := 113 } : Room) D [.ref m0] [(m0, .inr (6, [.ref m1, .ref m2, .ref m3, .int (zI ((sv : Nat) : Int)), .int (zI rf), .ref m4, .int (zI ((len : Nat) : Int)), .int (zI ((sp : Nat) : Int)), .int (zI nu), .int (zI rk), .int (zI rt), .int (zI ra), .ref m5, .ref m6, .int (zI bm), .ref m7, .ref m8, .ref m9, .ref m10, .long (zL ha)])), (m1, iA D 771 NW), (m2, iA D 3084 PA), (m3, iA D 771 AS), (m4, iA D 150 tb), (m5, iA D 250 st), (m6, iA D 250 bo), (m7, iA D 250 sh), (m8, iA D 36 f1), (m9, iA D 36 f2), (m10, iA D 2778 pk)] (fun u => u.2.2.2.2.2.2.2.1 = 0 ∧ u.2.2.2.2.2.2.2.2.2 = zHash len n K T U S F L w sv) (fun u => u.2.2.2.2.2.2.2.2.2) (fun u => [(m0, .inr (6, [.ref m1, .ref m2, .ref m3, .int (zI ((sv : Nat) : Int)), .int (zI u.2.2.2.2.2.2.2.1), .ref m4, .int (zI ((len : Nat) : Int)), .int (zI ((sp : Nat) : Int)), .int (zI nu), .int (zI rk), .int (zI rt), .int (zI ra), .ref m5, .ref m6, .int (zI u.2.2.2.2.2.2.1), .ref m7, .ref m8, .ref m9, .ref m10, .long (zL u.2.2.2.2.2.2.2.2.1)])), (m1, iA D 771 NW), (m2, iA D 3084 PA), (m3, iA D 771 AS), (m4, iA D 150 tb), (m5, iA D 250 u.1), (m6, iA D 250 u.2.1), (m7, iA D 250 u.2.2.1), (m8, iA D 36 u.2.2.2.1), (m9, iA D 36 u.2.2.2.2.1), (m10, iA D 2778 u.2.2.2.2.2.1)]) := by
  refine CL_of (by decide) (Nat.le_of_ble_eq_true rfl) ?_
  intro p e s m args below meth cd A Q hQ hC hr hnm
  have hC : ZC p s m args meth cd A D 3 cX6_digest RX6 := hC
  have hg0 := hg
  obtain ⟨hn, hK, hT, hU, hM⟩ := hg0
  have hw4 := hw.1
  have hbn : 0 ≤ zBN n K T U S F L w ∧ zBN n K T U S F L w ≤ n := zBn_in
  show Z p l e ({ frames := 5, cells := 0, slots := 0, locals := 113 } : Room) s m args below meth cd A D Q 3 0 0 [(m0, .inr (6, [.ref m1, .ref m2, .ref m3, .int (zI ((sv : Nat) : Int)), .int (zI rf), .ref m4, .int (zI ((len : Nat) : Int)), .int (zI ((sp : Nat) : Int)), .int (zI nu), .int (zI rk), .int (zI rt), .int (zI ra), .ref m5, .ref m6, .int (zI bm), .ref m7, .ref m8, .ref m9, .ref m10, .long (zL ha)])), (m1, iA D 771 NW), (m2, iA D 3084 PA), (m3, iA D 771 AS), (m4, iA D 150 tb), (m5, iA D 250 st), (m6, iA D 250 bo), (m7, iA D 250 sh), (m8, iA D 36 f1), (m9, iA D 36 f2), (m10, iA D 2778 pk)] [(0, .ref m0)] [] 0
  refine zz_aload_n hC 0 (dk DX6_digest_0k 0 rfl) rfl rfl ?_
  refine zz_iconst hC (dk DX6_digest_0k 1 rfl) ?_
  refine zz_put hC F_X6_40 fc_X6 rfl (tyX6_ok 4 (by decide)) 0 (ws' := [(m0, .inr (6, [.ref m1, .ref m2, .ref m3, .int (zI ((sv : Nat) : Int)), .int (zI 0), .ref m4, .int (zI ((len : Nat) : Int)), .int (zI ((sp : Nat) : Int)), .int (zI nu), .int (zI rk), .int (zI rt), .int (zI ra), .ref m5, .ref m6, .int (zI bm), .ref m7, .ref m8, .ref m9, .ref m10, .long (zL ha)])), (m1, iA D 771 NW), (m2, iA D 3084 PA), (m3, iA D 771 AS), (m4, iA D 150 tb), (m5, iA D 250 st), (m6, iA D 250 bo), (m7, iA D 250 sh), (m8, iA D 36 f1), (m9, iA D 36 f2), (m10, iA D 2778 pk)]) rfl rfl rfl (Nat.le_of_ble_eq_true rfl) rfl (dk DX6_digest_0k 2 rfl) ?_
  refine zz_aload_n hC 0 (dk DX6_digest_0k 3 rfl) rfl rfl ?_
  refine zz_callVv hC (wr := []) (c_X6_laysNow l D m0 m1 m2 m3 m4 m5 m6 m7 m8 m9 m10 NW PA AS tb st bo sh f1 f2 pk sv len sp 0 nu rk rt ra bm ha n w K T U S F L hN hg hs hw) G_X6_144 H_X6_laysNow ⟨Nat.le_of_ble_eq_true rfl, Nat.le_of_ble_eq_true rfl⟩ rfl [0, 1, 2, 3, 4, 5, 6, 7, 8, 9, 10] [] rfl rfl ⟨rfl, rfl, by decide⟩ 0 6 ⟨rfl, rfl, rfl⟩ (As := []) (rest := []) (Nat.le_of_ble_eq_true rfl) rfl ⟨Nat.le_of_ble_eq_true rfl, Nat.le_of_ble_eq_true rfl⟩ (dk DX6_digest_0k 4 rfl) ⟨rfl, rfl⟩ (wb := fun u1 => [(m0, .inr (6, [.ref m1, .ref m2, .ref m3, .int (zI ((sv : Nat) : Int)), .int (zI 0), .ref m4, .int (zI ((len : Nat) : Int)), .int (zI ((sp : Nat) : Int)), .int (zI nu), .int (zI rk), .int (zI rt), .int (zI ra), .ref m5, .ref m6, .int (zI (zBN n K T U S F L w)), .ref m7, .ref m8, .ref m9, .ref m10, .long (zL ha)])), (m1, iA D 771 NW), (m2, iA D 3084 PA), (m3, iA D 771 AS), (m4, iA D 150 tb), (m5, iA D 250 u1.1), (m6, iA D 250 u1.2.1), (m7, iA D 250 u1.2.2), (m8, iA D 36 f1), (m9, iA D 36 f2), (m10, iA D 2778 pk)]) [0, 1, 2, 3, 4, 5, 6, 7, 8, 9, 10] rfl (fun _ => rfl) (fun u1 hu1 => ?_)
  have hu1r := mk_r hK hn hu1
  have hu1s := mk_st hu1
  refine zz_aload_n hC 0 (dk DX6_digest_0k 5 rfl) rfl rfl ?_
  refine zz_ldc2 hC 2957 K_X6_209 (by decide) (dk DX6_digest_0k 6 rfl) ?_
  refine zz_put hC F_X6_201 fc_X6 rfl (tyX6_ok 19 (by decide)) 0 (ws' := [(m0, .inr (6, [.ref m1, .ref m2, .ref m3, .int (zI ((sv : Nat) : Int)), .int (zI 0), .ref m4, .int (zI ((len : Nat) : Int)), .int (zI ((sp : Nat) : Int)), .int (zI nu), .int (zI rk), .int (zI rt), .int (zI ra), .ref m5, .ref m6, .int (zI (zBN n K T U S F L w)), .ref m7, .ref m8, .ref m9, .ref m10, .long (zL 2957)])), (m1, iA D 771 NW), (m2, iA D 3084 PA), (m3, iA D 771 AS), (m4, iA D 150 tb), (m5, iA D 250 u1.1), (m6, iA D 250 u1.2.1), (m7, iA D 250 u1.2.2), (m8, iA D 36 f1), (m9, iA D 36 f2), (m10, iA D 2778 pk)]) rfl rfl rfl (Nat.le_of_ble_eq_true rfl) rfl (dk DX6_digest_0k 7 rfl) ?_
  refine zz_aload_n hC 0 (dk DX6_digest_0k 8 rfl) rfl rfl ?_
  refine zz_aload_n hC 0 (dk DX6_digest_0k 9 rfl) rfl rfl ?_
  refine zz_get hC F_X6_81 0 rfl rfl (dk DX6_digest_0k 10 rfl) ?_
  refine zz_callVv hC (wr := []) (c_X6_mix l D m0 m1 m2 m3 m4 m5 m6 m7 m8 m9 m10 NW PA AS tb u1.1 u1.2.1 u1.2.2 f1 f2 pk sv len sp 0 nu rk rt ra (zBN n K T U S F L w) 2957 n w K T U S F L ((len : Nat) : Int) (by omega)) G_X6_205 H_X6_mix ⟨Nat.le_of_ble_eq_true rfl, Nat.le_of_ble_eq_true rfl⟩ rfl [0, 1, 2, 3, 4, 5, 6, 7, 8, 9, 10] [] rfl rfl ⟨rfl, rfl, by decide⟩ 0 6 ⟨rfl, rfl, rfl⟩ (As := [.int (zI ((len : Nat) : Int))]) (rest := []) (Nat.le_of_ble_eq_true rfl) rfl ⟨Nat.le_of_ble_eq_true rfl, Nat.le_of_ble_eq_true rfl⟩ (dk DX6_digest_0k 11 rfl) ⟨rfl, rfl⟩ (wb := fun u2 => [(m0, .inr (6, [.ref m1, .ref m2, .ref m3, .int (zI ((sv : Nat) : Int)), .int (zI 0), .ref m4, .int (zI ((len : Nat) : Int)), .int (zI ((sp : Nat) : Int)), .int (zI nu), .int (zI rk), .int (zI rt), .int (zI ra), .ref m5, .ref m6, .int (zI (zBN n K T U S F L w)), .ref m7, .ref m8, .ref m9, .ref m10, .long (zL (31 * 2957 + ((len : Nat) : Int)))])), (m1, iA D 771 NW), (m2, iA D 3084 PA), (m3, iA D 771 AS), (m4, iA D 150 tb), (m5, iA D 250 u1.1), (m6, iA D 250 u1.2.1), (m7, iA D 250 u1.2.2), (m8, iA D 36 f1), (m9, iA D 36 f2), (m10, iA D 2778 pk)]) [0, 1, 2, 3, 4, 5, 6, 7, 8, 9, 10] rfl (fun _ => rfl) (fun u2 hu2 => ?_)
  refine zz_aload_n hC 0 (dk DX6_digest_0k 12 rfl) rfl rfl ?_
  refine zz_iconst hC (dk DX6_digest_0k 13 rfl) ?_
  refine zz_bipush hC (dk DX6_digest_0k 14 rfl) (by decide) ?_
  refine zz_callVv hC (wr := []) (c_X6_mixAll l D m0 m1 m2 m3 m4 m5 m6 m7 m8 m9 m10 NW PA AS tb u1.1 u1.2.1 u1.2.2 f1 f2 pk sv len sp 0 nu rk rt ra (zBN n K T U S F L w) (31 * 2957 + ((len : Nat) : Int)) n w K T U S F L 0 11 (by omega) (row_r0 hN hs)) G_X6_211 H_X6_mixAll ⟨Nat.le_of_ble_eq_true rfl, Nat.le_of_ble_eq_true rfl⟩ rfl [0, 1, 2, 3, 4, 5, 6, 7, 8, 9, 10] [] rfl rfl ⟨rfl, rfl, by decide⟩ 0 6 ⟨rfl, rfl, rfl⟩ (As := [.int (zI 0), .int (zI 11)]) (rest := []) (Nat.le_of_ble_eq_true rfl) rfl ⟨Nat.le_of_ble_eq_true rfl, Nat.le_of_ble_eq_true rfl⟩ (dk DX6_digest_0k 15 rfl) ⟨rfl, rfl⟩ (wb := fun u3 => [(m0, .inr (6, [.ref m1, .ref m2, .ref m3, .int (zI ((sv : Nat) : Int)), .int (zI 0), .ref m4, .int (zI ((len : Nat) : Int)), .int (zI ((sp : Nat) : Int)), .int (zI nu), .int (zI rk), .int (zI rt), .int (zI ra), .ref m5, .ref m6, .int (zI (zBN n K T U S F L w)), .ref m7, .ref m8, .ref m9, .ref m10, .long (zL (zHs (31 * 2957 + ((len : Nat) : Int)) (fun j => NW (0 + j)) 11))])), (m1, iA D 771 NW), (m2, iA D 3084 PA), (m3, iA D 771 AS), (m4, iA D 150 tb), (m5, iA D 250 u1.1), (m6, iA D 250 u1.2.1), (m7, iA D 250 u1.2.2), (m8, iA D 36 f1), (m9, iA D 36 f2), (m10, iA D 2778 pk)]) [0, 1, 2, 3, 4, 5, 6, 7, 8, 9, 10] rfl (fun _ => rfl) (fun u3 hu3 => ?_)
  rw [row_h hN]
  refine zz_aload_n hC 0 (dk DX6_digest_0k 16 rfl) rfl rfl ?_
  refine zz_bipush hC (dk DX6_digest_0k 17 rfl) (by decide) ?_
  refine zz_iconst hC (dk DX6_digest_0k 18 rfl) ?_
  refine zz_iconst hC (dk DX6_digest_0k 19 rfl) ?_
  refine zz_aload_n hC 0 (dk DX6_digest_0k 20 rfl) rfl rfl ?_
  refine zz_get hC F_X6_7 0 rfl rfl (dk DX6_digest_0k 21 rfl) ?_
  refine zz_bipush hC (dk DX6_digest_0k 22 rfl) (by decide) ?_
  refine zz_iald hC 11 1 rfl rfl (by omega) (dk DX6_digest_0k 23 rfl) ?_
  rw [hN.2.1]
  refine zz_imul hC (dk DX6_digest_0k 24 rfl) ?_
  refine zz_iadd hC (dk DX6_digest_0k 25 rfl) ?_
  refine zz_callVv hC (wr := []) (c_X6_mixAll l D m0 m1 m2 m3 m4 m5 m6 m7 m8 m9 m10 NW PA AS tb u1.1 u1.2.1 u1.2.2 f1 f2 pk sv len sp 0 nu rk rt ra (zBN n K T U S F L w) (zHs (31 * 2957 + ((len : Nat) : Int)) S 11) n w K T U S F L 11 (1 + (2 * w)) (by omega) (row_r hN hw)) G_X6_211 H_X6_mixAll ⟨Nat.le_of_ble_eq_true rfl, Nat.le_of_ble_eq_true rfl⟩ rfl [0, 1, 2, 3, 4, 5, 6, 7, 8, 9, 10] [] rfl rfl ⟨rfl, rfl, by decide⟩ 0 6 ⟨rfl, rfl, rfl⟩ (As := [.int (zI 11), .int (zI (1 + (2 * ((w : Nat) : Int))))]) (rest := []) (Nat.le_of_ble_eq_true rfl) rfl ⟨Nat.le_of_ble_eq_true rfl, Nat.le_of_ble_eq_true rfl⟩ (dk DX6_digest_0k 26 rfl) ⟨rfl, rfl⟩ (wb := fun u4 => [(m0, .inr (6, [.ref m1, .ref m2, .ref m3, .int (zI ((sv : Nat) : Int)), .int (zI 0), .ref m4, .int (zI ((len : Nat) : Int)), .int (zI ((sp : Nat) : Int)), .int (zI nu), .int (zI rk), .int (zI rt), .int (zI ra), .ref m5, .ref m6, .int (zI (zBN n K T U S F L w)), .ref m7, .ref m8, .ref m9, .ref m10, .long (zL (zHs (zHs (31 * 2957 + ((len : Nat) : Int)) S 11) (fun j => NW (11 + j)) (1 + (2 * w))))])), (m1, iA D 771 NW), (m2, iA D 3084 PA), (m3, iA D 771 AS), (m4, iA D 150 tb), (m5, iA D 250 u1.1), (m6, iA D 250 u1.2.1), (m7, iA D 250 u1.2.2), (m8, iA D 36 f1), (m9, iA D 36 f2), (m10, iA D 2778 pk)]) [0, 1, 2, 3, 4, 5, 6, 7, 8, 9, 10] rfl (fun _ => rfl) (fun u4 hu4 => ?_)
  rw [row_w hN]
  refine zz_aload_n hC 0 (dk DX6_digest_0k 27 rfl) rfl rfl ?_
  refine zz_aload_n hC 0 (dk DX6_digest_0k 28 rfl) rfl rfl ?_
  refine zz_get hC F_X6_7 0 rfl rfl (dk DX6_digest_0k 29 rfl) ?_
  refine zz_bipush hC (dk DX6_digest_0k 30 rfl) (by decide) ?_
  refine zz_iald hC 20 1 rfl rfl (by omega) (dk DX6_digest_0k 31 rfl) ?_
  rw [hN.2.2.2.1]
  refine zz_callVv hC (wr := []) (c_X6_mix l D m0 m1 m2 m3 m4 m5 m6 m7 m8 m9 m10 NW PA AS tb u1.1 u1.2.1 u1.2.2 f1 f2 pk sv len sp 0 nu rk rt ra (zBN n K T U S F L w) (zHw (31 * (zHs (31 * 2957 + ((len : Nat) : Int)) S 11) + ((w : Nat) : Int)) F L w) n w K T U S F L ((n : Nat) : Int) (by omega)) G_X6_205 H_X6_mix ⟨Nat.le_of_ble_eq_true rfl, Nat.le_of_ble_eq_true rfl⟩ rfl [0, 1, 2, 3, 4, 5, 6, 7, 8, 9, 10] [] rfl rfl ⟨rfl, rfl, by decide⟩ 0 6 ⟨rfl, rfl, rfl⟩ (As := [.int (zI ((n : Nat) : Int))]) (rest := []) (Nat.le_of_ble_eq_true rfl) rfl ⟨Nat.le_of_ble_eq_true rfl, Nat.le_of_ble_eq_true rfl⟩ (dk DX6_digest_0k 32 rfl) ⟨rfl, rfl⟩ (wb := fun u5 => [(m0, .inr (6, [.ref m1, .ref m2, .ref m3, .int (zI ((sv : Nat) : Int)), .int (zI 0), .ref m4, .int (zI ((len : Nat) : Int)), .int (zI ((sp : Nat) : Int)), .int (zI nu), .int (zI rk), .int (zI rt), .int (zI ra), .ref m5, .ref m6, .int (zI (zBN n K T U S F L w)), .ref m7, .ref m8, .ref m9, .ref m10, .long (zL (31 * (zHw (31 * (zHs (31 * 2957 + ((len : Nat) : Int)) S 11) + ((w : Nat) : Int)) F L w) + ((n : Nat) : Int)))])), (m1, iA D 771 NW), (m2, iA D 3084 PA), (m3, iA D 771 AS), (m4, iA D 150 tb), (m5, iA D 250 u1.1), (m6, iA D 250 u1.2.1), (m7, iA D 250 u1.2.2), (m8, iA D 36 f1), (m9, iA D 36 f2), (m10, iA D 2778 pk)]) [0, 1, 2, 3, 4, 5, 6, 7, 8, 9, 10] rfl (fun _ => rfl) (fun u5 hu5 => ?_)
  refine zz_iconst hC (dk DX6_digest_0k 33 rfl) ?_
  refine zz_istore_n hC (ls' := [(0, .ref m0), (1, .int (zI 0))]) [1, 0] (dk DX6_digest_0k 34 rfl) rfl (by decide) rfl ?_
  have LP61 : ∀ (fuel61 : Nat) (i : Nat) (zc : Int), (i ≤ n) → (zc = zHp (31 * (zHw (31 * (zHs (31 * 2957 + ((len : Nat) : Int)) S 11) + ((w : Nat) : Int)) F L w) + ((n : Nat) : Int)) (fun k v => zPu n K T U S F L w v k) i) → n - i < fuel61 → Z p l e ({ frames := 5, cells := 0, slots := 0, locals := 113 } : Room) s m args below meth cd A D Q 3 0 0 [(m0, .inr (6, [.ref m1, .ref m2, .ref m3, .int (zI ((sv : Nat) : Int)), .int (zI 0), .ref m4, .int (zI ((len : Nat) : Int)), .int (zI ((sp : Nat) : Int)), .int (zI nu), .int (zI rk), .int (zI rt), .int (zI ra), .ref m5, .ref m6, .int (zI (zBN n K T U S F L w)), .ref m7, .ref m8, .ref m9, .ref m10, .long (zL zc)])), (m1, iA D 771 NW), (m2, iA D 3084 PA), (m3, iA D 771 AS), (m4, iA D 150 tb), (m5, iA D 250 u1.1), (m6, iA D 250 u1.2.1), (m7, iA D 250 u1.2.2), (m8, iA D 36 f1), (m9, iA D 36 f2), (m10, iA D 2778 pk)] [(0, .ref m0), (1, .int (zI ((i : Nat) : Int)))] [] 61 := by
    intro fuel61
    induction fuel61 with
    | zero => intro i zc hi hzc hfu; exact absurd hfu (Nat.not_lt_zero _)
    | succ fuel61 ih61 =>
      intro i zc hi hzc hfu61
      refine zz_iload_n hC 1 (dk DX6_digest_0k 35 rfl) rfl rfl ?_
      refine zz_aload_n hC 0 (dk DX6_digest_0k 36 rfl) rfl rfl ?_
      refine zz_get hC F_X6_7 0 rfl rfl (dk DX6_digest_0k 37 rfl) ?_
      refine zz_bipush hC (dk DX6_digest_0k 38 rfl) (by decide) ?_
      refine zz_iald hC 20 1 rfl rfl (by omega) (dk DX6_digest_0k 39 rfl) ?_
      rw [hN.2.2.2.1]
      refine zz_icmp_ge hC 102 (dk DX6_digest_0k 40 rfl) (by decide) ⟨⟨by omega, by omega⟩, ⟨by omega, by omega⟩⟩ (fun c6 => ?_) (fun c6 => ?_)
      · refine zz_aload_n hC 0 (dk DX6_digest_0k 56 rfl) rfl rfl ?_
        refine zz_aload_n hC 0 (dk DX6_digest_0k 57 rfl) rfl rfl ?_
        refine zz_get hC F_X6_138 0 rfl rfl (dk DX6_digest_0k 58 rfl) ?_
        refine zz_callVv hC (wr := []) (c_X6_mix l D m0 m1 m2 m3 m4 m5 m6 m7 m8 m9 m10 NW PA AS tb u1.1 u1.2.1 u1.2.2 f1 f2 pk sv len sp 0 nu rk rt ra (zBN n K T U S F L w) zc n w K T U S F L (zBN n K T U S F L w) (by omega)) G_X6_205 H_X6_mix ⟨Nat.le_of_ble_eq_true rfl, Nat.le_of_ble_eq_true rfl⟩ rfl [0, 1, 2, 3, 4, 5, 6, 7, 8, 9, 10] [] rfl rfl ⟨rfl, rfl, by decide⟩ 0 6 ⟨rfl, rfl, rfl⟩ (As := [.int (zI (zBN n K T U S F L w))]) (rest := []) (Nat.le_of_ble_eq_true rfl) rfl ⟨Nat.le_of_ble_eq_true rfl, Nat.le_of_ble_eq_true rfl⟩ (dk DX6_digest_0k 59 rfl) ⟨rfl, rfl⟩ (wb := fun u7 => [(m0, .inr (6, [.ref m1, .ref m2, .ref m3, .int (zI ((sv : Nat) : Int)), .int (zI 0), .ref m4, .int (zI ((len : Nat) : Int)), .int (zI ((sp : Nat) : Int)), .int (zI nu), .int (zI rk), .int (zI rt), .int (zI ra), .ref m5, .ref m6, .int (zI (zBN n K T U S F L w)), .ref m7, .ref m8, .ref m9, .ref m10, .long (zL (31 * zc + (zBN n K T U S F L w)))])), (m1, iA D 771 NW), (m2, iA D 3084 PA), (m3, iA D 771 AS), (m4, iA D 150 tb), (m5, iA D 250 u1.1), (m6, iA D 250 u1.2.1), (m7, iA D 250 u1.2.2), (m8, iA D 36 f1), (m9, iA D 36 f2), (m10, iA D 2778 pk)]) [0, 1, 2, 3, 4, 5, 6, 7, 8, 9, 10] rfl (fun _ => rfl) (fun u7 hu7 => ?_)
        refine zz_aload_n hC 0 (dk DX6_digest_1k 0 rfl) rfl rfl ?_
        refine zz_aload_n hC 0 (dk DX6_digest_1k 1 rfl) rfl rfl ?_
        refine zz_get hC F_X6_44 0 rfl rfl (dk DX6_digest_1k 2 rfl) ?_
        refine zz_callVv hC (wr := []) (c_X6_mix l D m0 m1 m2 m3 m4 m5 m6 m7 m8 m9 m10 NW PA AS tb u1.1 u1.2.1 u1.2.2 f1 f2 pk sv len sp 0 nu rk rt ra (zBN n K T U S F L w) (31 * zc + (zBN n K T U S F L w)) n w K T U S F L ((sv : Nat) : Int) (by omega)) G_X6_205 H_X6_mix ⟨Nat.le_of_ble_eq_true rfl, Nat.le_of_ble_eq_true rfl⟩ rfl [0, 1, 2, 3, 4, 5, 6, 7, 8, 9, 10] [] rfl rfl ⟨rfl, rfl, by decide⟩ 0 6 ⟨rfl, rfl, rfl⟩ (As := [.int (zI ((sv : Nat) : Int))]) (rest := []) (Nat.le_of_ble_eq_true rfl) rfl ⟨Nat.le_of_ble_eq_true rfl, Nat.le_of_ble_eq_true rfl⟩ (dk DX6_digest_1k 3 rfl) ⟨rfl, rfl⟩ (wb := fun u8 => [(m0, .inr (6, [.ref m1, .ref m2, .ref m3, .int (zI ((sv : Nat) : Int)), .int (zI 0), .ref m4, .int (zI ((len : Nat) : Int)), .int (zI ((sp : Nat) : Int)), .int (zI nu), .int (zI rk), .int (zI rt), .int (zI ra), .ref m5, .ref m6, .int (zI (zBN n K T U S F L w)), .ref m7, .ref m8, .ref m9, .ref m10, .long (zL (31 * (31 * zc + (zBN n K T U S F L w)) + ((sv : Nat) : Int)))])), (m1, iA D 771 NW), (m2, iA D 3084 PA), (m3, iA D 771 AS), (m4, iA D 150 tb), (m5, iA D 250 u1.1), (m6, iA D 250 u1.2.1), (m7, iA D 250 u1.2.2), (m8, iA D 36 f1), (m9, iA D 36 f2), (m10, iA D 2778 pk)]) [0, 1, 2, 3, 4, 5, 6, 7, 8, 9, 10] rfl (fun _ => rfl) (fun u8 hu8 => ?_)
        refine zz_aload_n hC 0 (dk DX6_digest_1k 4 rfl) rfl rfl ?_
        refine zz_get hC F_X6_201 0 rfl rfl (dk DX6_digest_1k 5 rfl) ?_
        exact zz_lret hC hQ hr (u1.1, u1.2.1, u1.2.2, f1, f2, pk, (zBN n K T U S F L w), 0, (31 * (31 * zc + (zBN n K T U S F L w)) + ((sv : Nat) : Int)), (31 * (31 * zc + (zBN n K T U S F L w)) + ((sv : Nat) : Int))) ⟨rfl, (by unfold zHash; show 31 * (31 * zc + zBN n K T U S F L w) + _ = _; rw [hzc, show i = n by omega])⟩ rfl [0, 1, 2, 3, 4, 5, 6, 7, 8, 9, 10] rfl rfl ⟨Nat.le_refl _, Nat.le_refl _⟩ (dk DX6_digest_1k 6 rfl)
      · refine zz_iconst hC (dk DX6_digest_0k 41 rfl) ?_
        refine zz_istore_n hC (ls' := [(0, .ref m0), (1, .int (zI ((i : Nat) : Int))), (2, .int (zI 0))]) [1, 2, 0] (dk DX6_digest_0k 42 rfl) rfl (by decide) rfl ?_
        have LP74 : ∀ (fuel74 : Nat) (j : Nat) (zd : Int), (j ≤ 7) → (zd = zHs zc (fun v => zPu n K T U S F L w ((v : Nat) : Int) i) j) → 7 - j < fuel74 → Z p l e ({ frames := 5, cells := 0, slots := 0, locals := 113 } : Room) s m args below meth cd A D Q 3 0 0 [(m0, .inr (6, [.ref m1, .ref m2, .ref m3, .int (zI ((sv : Nat) : Int)), .int (zI 0), .ref m4, .int (zI ((len : Nat) : Int)), .int (zI ((sp : Nat) : Int)), .int (zI nu), .int (zI rk), .int (zI rt), .int (zI ra), .ref m5, .ref m6, .int (zI (zBN n K T U S F L w)), .ref m7, .ref m8, .ref m9, .ref m10, .long (zL zd)])), (m1, iA D 771 NW), (m2, iA D 3084 PA), (m3, iA D 771 AS), (m4, iA D 150 tb), (m5, iA D 250 u1.1), (m6, iA D 250 u1.2.1), (m7, iA D 250 u1.2.2), (m8, iA D 36 f1), (m9, iA D 36 f2), (m10, iA D 2778 pk)] [(0, .ref m0), (1, .int (zI ((i : Nat) : Int))), (2, .int (zI ((j : Nat) : Int)))] [] 74 := by
          intro fuel74
          induction fuel74 with
          | zero => intro j zd hj hzd hfu; exact absurd hfu (Nat.not_lt_zero _)
          | succ fuel74 ih74 =>
            intro j zd hj hzd hfu74
            refine zz_iload_n hC 2 (dk DX6_digest_0k 43 rfl) rfl rfl ?_
            refine zz_bipush hC (dk DX6_digest_0k 44 rfl) (by decide) ?_
            refine zz_icmp_ge hC 96 (dk DX6_digest_0k 45 rfl) (by decide) ⟨⟨by omega, by omega⟩, (by decide)⟩ (fun c9 => ?_) (fun c9 => ?_)
            · refine zz_iinc hC ((i + 1 : Nat) : Int) (ls' := [(0, .ref m0), (1, .int (zI ((i + 1 : Nat) : Int))), (2, .int (zI ((j : Nat) : Int)))]) 1 [1, 0, 2] (dk DX6_digest_0k 54 rfl) rfl (by omega) (by decide) rfl ?_
              refine zz_goto hC 61 (dk DX6_digest_0k 55 rfl) (by decide) ?_
              refine zz_ls [0, 1] rfl ?_
              exact ih61 (i + 1) zd (by omega) (by simp only [zHp]; rw [hzd, show j = 7 by omega, hzc]) (by omega)
            · refine zz_aload_n hC 0 (dk DX6_digest_0k 46 rfl) rfl rfl ?_
              refine zz_aload_n hC 0 (dk DX6_digest_0k 47 rfl) rfl rfl ?_
              refine zz_iload_n hC 1 (dk DX6_digest_0k 48 rfl) rfl rfl ?_
              refine zz_iload_n hC 2 (dk DX6_digest_0k 49 rfl) rfl rfl ?_
              refine zz_pureVi hC (c_X6_tellPulse l D m0 m1 m2 m3 m4 m5 m6 m7 m8 m9 m10 NW PA AS tb u1.1 u1.2.1 u1.2.2 f1 f2 pk sv len sp 0 nu rk rt ra (zBN n K T U S F L w) zd n w K T U S F L i ((j : Nat) : Int) hN hg hs (by omega) (by omega)) G_X6_147 H_X6_tellPulse ⟨Nat.le_of_ble_eq_true rfl, Nat.le_of_ble_eq_true rfl⟩ rfl [0, 1, 2, 3, 4, 5, 6, 7, 8, 9, 10] rfl rfl 0 6 ⟨rfl, rfl, rfl⟩ (As := [.int (zI ((i : Nat) : Int)), .int (zI ((j : Nat) : Int))]) (rest := [.ref m0]) (Nat.le_of_ble_eq_true rfl) rfl ⟨Nat.le_of_ble_eq_true rfl, Nat.le_of_ble_eq_true rfl⟩ (dk DX6_digest_0k 50 rfl) ⟨rfl, rfl⟩ ?_
              rw [zPu_lk (mk_lk hu1) (show i < n by omega)]
              have hpr := zPu_in (v := ((j : Nat) : Int)) (L := L) (F := F) (w := w) hg hs (show i < n by omega)
              refine zz_callVv hC (wr := []) (c_X6_mix l D m0 m1 m2 m3 m4 m5 m6 m7 m8 m9 m10 NW PA AS tb u1.1 u1.2.1 u1.2.2 f1 f2 pk sv len sp 0 nu rk rt ra (zBN n K T U S F L w) zd n w K T U S F L (zPu n K T U S F L w ((j : Nat) : Int) i) (by omega)) G_X6_205 H_X6_mix ⟨Nat.le_of_ble_eq_true rfl, Nat.le_of_ble_eq_true rfl⟩ rfl [0, 1, 2, 3, 4, 5, 6, 7, 8, 9, 10] [] rfl rfl ⟨rfl, rfl, by decide⟩ 0 6 ⟨rfl, rfl, rfl⟩ (As := [.int (zI (zPu n K T U S F L w ((j : Nat) : Int) i))]) (rest := []) (Nat.le_of_ble_eq_true rfl) rfl ⟨Nat.le_of_ble_eq_true rfl, Nat.le_of_ble_eq_true rfl⟩ (dk DX6_digest_0k 51 rfl) ⟨rfl, rfl⟩ (wb := fun u10 => [(m0, .inr (6, [.ref m1, .ref m2, .ref m3, .int (zI ((sv : Nat) : Int)), .int (zI 0), .ref m4, .int (zI ((len : Nat) : Int)), .int (zI ((sp : Nat) : Int)), .int (zI nu), .int (zI rk), .int (zI rt), .int (zI ra), .ref m5, .ref m6, .int (zI (zBN n K T U S F L w)), .ref m7, .ref m8, .ref m9, .ref m10, .long (zL (31 * zd + (zPu n K T U S F L w ((j : Nat) : Int) i)))])), (m1, iA D 771 NW), (m2, iA D 3084 PA), (m3, iA D 771 AS), (m4, iA D 150 tb), (m5, iA D 250 u1.1), (m6, iA D 250 u1.2.1), (m7, iA D 250 u1.2.2), (m8, iA D 36 f1), (m9, iA D 36 f2), (m10, iA D 2778 pk)]) [0, 1, 2, 3, 4, 5, 6, 7, 8, 9, 10] rfl (fun _ => rfl) (fun u10 hu10 => ?_)
              refine zz_iinc hC ((j + 1 : Nat) : Int) (ls' := [(0, .ref m0), (1, .int (zI ((i : Nat) : Int))), (2, .int (zI ((j + 1 : Nat) : Int)))]) 2 [1, 2, 0] (dk DX6_digest_0k 52 rfl) rfl (by omega) (by decide) rfl ?_
              refine zz_goto hC 74 (dk DX6_digest_0k 53 rfl) (by decide) ?_
              refine zz_ls [0, 1, 2] rfl ?_
              exact ih74 (j + 1) (31 * zd + (zPu n K T U S F L w ((j : Nat) : Int) i)) (by omega) (by simp only [zHs]; rw [← hzd]) (by omega)
        refine zz_ls [0, 1, 2] rfl ?_
        exact LP74 _ 0 zc (by omega) rfl (Nat.lt_succ_self _)
  refine zz_ls [0, 1] rfl ?_
  exact LP61 _ 0 (31 * (zHw (31 * (zHs (31 * 2957 + ((len : Nat) : Int)) S 11) + ((w : Nat) : Int)) F L w) + ((n : Nat) : Int)) (by omega) rfl (Nat.lt_succ_self _)
