set_option maxHeartbeats 4000000 in
set_option maxRecDepth 100000 in
theorem c_X6_isAt (l : Launch) (D : zG) (m0 : Nat) (m1 : Nat) (m2 : Nat) (m3 : Nat) (m4 : Nat) (m5 : Nat) (m6 : Nat) (m7 : Nat) (m8 : Nat) (m9 : Nat) (m10 : Nat) (NW : Nat → Int) (PA : Nat → Int) (AS : Nat → Int) (tb : Nat → Int) (st : Nat → Int) (bo : Nat → Int) (sh : Nat → Int) (f1 : Nat → Int) (f2 : Nat → Int) (pk : Nat → Int) (sv : Nat) (len : Nat) (sp : Nat) (rf : Int) (nu : Int) (rk : Int) (rt : Int) (ra : Int) (bm : Int) (ha : Int) (n : Nat) (w : Nat) (K : Nat → Int) (T : Nat → Int) (U : Nat → Int) (S : Nat → Int) (F : Nat → Int) (L : Nat → Int) (x : Int) (y : Int) (hlen : len ≤ 150) (hbt : ∀ j, j < len → 0 ≤ tb j ∧ tb j ≤ 127) (hxy9 : 0 ≤ x ∧ x ≤ 127 ∧ 0 ≤ y ∧ y ≤ 127) (hsp : sp ≤ 160) : CI (S := Unit) l yX6_isAt cX6_isAt 3 ((some .boolean)) ({ frames := 1, cells := 0, slots := 0, locals := 22 } : Room) D [.ref m0, .int (zI x), .int (zI y)] [(m0, .inr (6, [.ref m1, .ref m2, .ref m3, .int (zI ((sv : Nat) : Int)), .int (zI rf), .ref m4, .int (zI ((len : Nat) : Int)), .int (zI ((sp : Nat) : Int)), .int (zI nu), .int (zI rk), .int (zI rt), .int (zI ra), .ref m5, .ref m6, .int (zI bm), .ref m7, .ref m8, .ref m9, .ref m10, .long (zL ha)])), (m1, iA D 771 NW), (m2, iA D 3084 PA), (m3, iA D 771 AS), (m4, iA D 150 tb), (m5, iA D 250 st), (m6, iA D 250 bo), (m7, iA D 250 sh), (m8, iA D 36 f1), (m9, iA D 36 f2), (m10, iA D 2778 pk)] (fun _ => True) (fun _ => zB (x ≤ zNx tb len sp ∧ zNx tb len sp ≤ y)) (fun _ => [(m0, .inr (6, [.ref m1, .ref m2, .ref m3, .int (zI ((sv : Nat) : Int)), .int (zI rf), .ref m4, .int (zI ((len : Nat) : Int)), .int (zI ((sp : Nat) : Int)), .int (zI nu), .int (zI rk), .int (zI rt), .int (zI ra), .ref m5, .ref m6, .int (zI bm), .ref m7, .ref m8, .ref m9, .ref m10, .long (zL ha)])), (m1, iA D 771 NW), (m2, iA D 3084 PA), (m3, iA D 771 AS), (m4, iA D 150 tb), (m5, iA D 250 st), (m6, iA D 250 bo), (m7, iA D 250 sh), (m8, iA D 36 f1), (m9, iA D 36 f2), (m10, iA D 2778 pk)]) := by
  refine CI_of (by decide) (Nat.le_of_ble_eq_true rfl) ?_
  intro p e s m args below meth cd A Q hQ hC hr hnm
  have hC : ZC p s m args meth cd A D 3 cX6_isAt RX6 := hC
  show Z p l e ({ frames := 1, cells := 0, slots := 0, locals := 22 } : Room) s m args below meth cd A D Q 3 0 0 [(m0, .inr (6, [.ref m1, .ref m2, .ref m3, .int (zI ((sv : Nat) : Int)), .int (zI rf), .ref m4, .int (zI ((len : Nat) : Int)), .int (zI ((sp : Nat) : Int)), .int (zI nu), .int (zI rk), .int (zI rt), .int (zI ra), .ref m5, .ref m6, .int (zI bm), .ref m7, .ref m8, .ref m9, .ref m10, .long (zL ha)])), (m1, iA D 771 NW), (m2, iA D 3084 PA), (m3, iA D 771 AS), (m4, iA D 150 tb), (m5, iA D 250 st), (m6, iA D 250 bo), (m7, iA D 250 sh), (m8, iA D 36 f1), (m9, iA D 36 f2), (m10, iA D 2778 pk)] [(0, .ref m0), (1, .int (zI x)), (2, .int (zI y))] [] 0
  refine zz_aload_n hC 0 (dk DX6_isAt_0k 0 rfl) rfl rfl ?_
  refine zz_get hC F_X6_84 0 rfl rfl (dk DX6_isAt_0k 1 rfl) ?_
  refine zz_aload_n hC 0 (dk DX6_isAt_0k 2 rfl) rfl rfl ?_
  refine zz_get hC F_X6_81 0 rfl rfl (dk DX6_isAt_0k 3 rfl) ?_
  refine zz_icmp_ge hC 32 (dk DX6_isAt_0k 4 rfl) (by decide) ⟨⟨by omega, by omega⟩, ⟨by omega, by omega⟩⟩ (fun c1 => ?_) (fun c1 => ?_)
  · refine zz_iconst hC (dk DX6_isAt_0k 16 rfl) ?_
    exact zz_zret hC hQ hr () trivial (zB_f (by unfold zNx; split <;> omega)).symm (by decide) [0, 1, 2, 3, 4, 5, 6, 7, 8, 9, 10] rfl rfl ⟨Nat.le_refl _, Nat.le_refl _⟩ (dk DX6_isAt_0k 17 rfl)
  · refine zz_aload_n hC 0 (dk DX6_isAt_0k 5 rfl) rfl rfl ?_
    refine zz_get hC F_X6_19 0 rfl rfl (dk DX6_isAt_0k 6 rfl) ?_
    refine zz_aload_n hC 0 (dk DX6_isAt_0k 7 rfl) rfl rfl ?_
    refine zz_get hC F_X6_84 0 rfl rfl (dk DX6_isAt_0k 8 rfl) ?_
    refine zz_iald hC sp 4 rfl rfl (by omega) (dk DX6_isAt_0k 9 rfl) ?_
    have hf2 := hbt sp (by omega)
    refine zz_iload_n hC 1 (dk DX6_isAt_0k 10 rfl) rfl rfl ?_
    refine zz_iload_n hC 2 (dk DX6_isAt_0k 11 rfl) rfl rfl ?_
    refine zz_pureSi hC (c_X6_within l D (tb sp) x y (by omega)) G_X6_52 H_X6_within.2 ⟨Nat.le_of_ble_eq_true rfl, Nat.le_of_ble_eq_true rfl⟩ rfl [] rfl rfl (As := [.int (zI (tb sp)), .int (zI x), .int (zI y)]) (rest := []) (Nat.le_of_ble_eq_true rfl) rfl ⟨Nat.le_of_ble_eq_true rfl, Nat.le_of_ble_eq_true rfl⟩ (dk DX6_isAt_0k 12 rfl) ⟨rfl, rfl⟩ ?_
    refine zz_ifb_eq hC 32 (dk DX6_isAt_0k 13 rfl) (by decide) (fun c3 => ?_) (fun c3 => ?_)
    · refine zz_iconst hC (dk DX6_isAt_0k 16 rfl) ?_
      exact zz_zret hC hQ hr () trivial (zB_f (by unfold zNx; split <;> omega)).symm (by decide) [0, 1, 2, 3, 4, 5, 6, 7, 8, 9, 10] rfl rfl ⟨Nat.le_refl _, Nat.le_refl _⟩ (dk DX6_isAt_0k 17 rfl)
    · refine zz_iconst hC (dk DX6_isAt_0k 14 rfl) ?_
      refine zz_goto hC 33 (dk DX6_isAt_0k 15 rfl) (by decide) ?_
      exact zz_zret hC hQ hr () trivial (zB_t (by unfold zNx; split <;> omega)).symm (by decide) [0, 1, 2, 3, 4, 5, 6, 7, 8, 9, 10] rfl rfl ⟨Nat.le_refl _, Nat.le_refl _⟩ (dk DX6_isAt_0k 17 rfl)
set_option maxHeartbeats 4000000 in
set_option maxRecDepth 100000 in
theorem c_X6_reads (l : Launch) (D : zG) (m0 : Nat) (m1 : Nat) (m2 : Nat) (m3 : Nat) (m4 : Nat) (m5 : Nat) (m6 : Nat) (m7 : Nat) (m8 : Nat) (m9 : Nat) (m10 : Nat) (NW : Nat → Int) (PA : Nat → Int) (AS : Nat → Int) (tb : Nat → Int) (st : Nat → Int) (bo : Nat → Int) (sh : Nat → Int) (f1 : Nat → Int) (f2 : Nat → Int) (pk : Nat → Int) (sv : Nat) (len : Nat) (sp : Nat) (rf : Int) (nu : Int) (rk : Int) (rt : Int) (ra : Int) (bm : Int) (ha : Int) (n : Nat) (w : Nat) (K : Nat → Int) (T : Nat → Int) (U : Nat → Int) (S : Nat → Int) (F : Nat → Int) (L : Nat → Int) (hlen : len ≤ 150) (hbt : ∀ j, j < len → 0 ≤ tb j ∧ tb j ≤ 127) (hsp : sp ≤ 151) : CI (S := Int) l yX6_reads cX6_reads 2 ((some .boolean)) ({ frames := 2, cells := 0, slots := 0, locals := 44 } : Room) D [.ref m0] [(m0, .inr (6, [.ref m1, .ref m2, .ref m3, .int (zI ((sv : Nat) : Int)), .int (zI rf), .ref m4, .int (zI ((len : Nat) : Int)), .int (zI ((sp : Nat) : Int)), .int (zI nu), .int (zI rk), .int (zI rt), .int (zI ra), .ref m5, .ref m6, .int (zI bm), .ref m7, .ref m8, .ref m9, .ref m10, .long (zL ha)])), (m1, iA D 771 NW), (m2, iA D 3084 PA), (m3, iA D 771 AS), (m4, iA D 150 tb), (m5, iA D 250 st), (m6, iA D 250 bo), (m7, iA D 250 sh), (m8, iA D 36 f1), (m9, iA D 36 f2), (m10, iA D 2778 pk)] (fun u => zDg tb len sp = true → u = zNv tb len sp) (fun u => zB (zOkN tb len sp)) (fun u => [(m0, .inr (6, [.ref m1, .ref m2, .ref m3, .int (zI ((sv : Nat) : Int)), .int (zI rf), .ref m4, .int (zI ((len : Nat) : Int)), .int (zI (((zNe tb len sp) : Nat) : Int)), .int (zI u), .int (zI rk), .int (zI rt), .int (zI ra), .ref m5, .ref m6, .int (zI bm), .ref m7, .ref m8, .ref m9, .ref m10, .long (zL ha)])), (m1, iA D 771 NW), (m2, iA D 3084 PA), (m3, iA D 771 AS), (m4, iA D 150 tb), (m5, iA D 250 st), (m6, iA D 250 bo), (m7, iA D 250 sh), (m8, iA D 36 f1), (m9, iA D 36 f2), (m10, iA D 2778 pk)]) := by
  refine CI_of (by decide) (Nat.le_of_ble_eq_true rfl) ?_
  intro p e s m args below meth cd A Q hQ hC hr hnm
  have hC : ZC p s m args meth cd A D 2 cX6_reads RX6 := hC
  show Z p l e ({ frames := 2, cells := 0, slots := 0, locals := 44 } : Room) s m args below meth cd A D Q 2 0 0 [(m0, .inr (6, [.ref m1, .ref m2, .ref m3, .int (zI ((sv : Nat) : Int)), .int (zI rf), .ref m4, .int (zI ((len : Nat) : Int)), .int (zI ((sp : Nat) : Int)), .int (zI nu), .int (zI rk), .int (zI rt), .int (zI ra), .ref m5, .ref m6, .int (zI bm), .ref m7, .ref m8, .ref m9, .ref m10, .long (zL ha)])), (m1, iA D 771 NW), (m2, iA D 3084 PA), (m3, iA D 771 AS), (m4, iA D 150 tb), (m5, iA D 250 st), (m6, iA D 250 bo), (m7, iA D 250 sh), (m8, iA D 36 f1), (m9, iA D 36 f2), (m10, iA D 2778 pk)] [(0, .ref m0)] [] 0
  refine zz_aload_n hC 0 (dk DX6_reads_0k 0 rfl) rfl rfl ?_
  refine zz_get hC F_X6_84 0 rfl rfl (dk DX6_reads_0k 1 rfl) ?_
  refine zz_istore_n hC (ls' := [(0, .ref m0), (1, .int (zI ((sp : Nat) : Int)))]) [1, 0] (dk DX6_reads_0k 2 rfl) rfl (by decide) rfl ?_
  refine zz_aload_n hC 0 (dk DX6_reads_0k 3 rfl) rfl rfl ?_
  refine zz_iconst hC (dk DX6_reads_0k 4 rfl) ?_
  refine zz_put hC F_X6_87 fc_X6 rfl (tyX6_ok 8 (by decide)) 0 (ws' := [(m0, .inr (6, [.ref m1, .ref m2, .ref m3, .int (zI ((sv : Nat) : Int)), .int (zI rf), .ref m4, .int (zI ((len : Nat) : Int)), .int (zI ((sp : Nat) : Int)), .int (zI 0), .int (zI rk), .int (zI rt), .int (zI ra), .ref m5, .ref m6, .int (zI bm), .ref m7, .ref m8, .ref m9, .ref m10, .long (zL ha)])), (m1, iA D 771 NW), (m2, iA D 3084 PA), (m3, iA D 771 AS), (m4, iA D 150 tb), (m5, iA D 250 st), (m6, iA D 250 bo), (m7, iA D 250 sh), (m8, iA D 36 f1), (m9, iA D 36 f2), (m10, iA D 2778 pk)]) rfl rfl rfl (Nat.le_of_ble_eq_true rfl) rfl (dk DX6_reads_0k 5 rfl) ?_
  have LP10 : ∀ (fuel10 : Nat) (i : Nat) (h : Int), (i ≤ 4) → (∀ j, j < i → zDg tb len (sp + j) = true) → (h = zDn tb len sp i) → 4 - i < fuel10 → Z p l e ({ frames := 2, cells := 0, slots := 0, locals := 44 } : Room) s m args below meth cd A D Q 2 0 0 [(m0, .inr (6, [.ref m1, .ref m2, .ref m3, .int (zI ((sv : Nat) : Int)), .int (zI rf), .ref m4, .int (zI ((len : Nat) : Int)), .int (zI ((sp + i : Nat) : Int)), .int (zI h), .int (zI rk), .int (zI rt), .int (zI ra), .ref m5, .ref m6, .int (zI bm), .ref m7, .ref m8, .ref m9, .ref m10, .long (zL ha)])), (m1, iA D 771 NW), (m2, iA D 3084 PA), (m3, iA D 771 AS), (m4, iA D 150 tb), (m5, iA D 250 st), (m6, iA D 250 bo), (m7, iA D 250 sh), (m8, iA D 36 f1), (m9, iA D 36 f2), (m10, iA D 2778 pk)] [(0, .ref m0), (1, .int (zI ((sp : Nat) : Int)))] [] 10 := by
    intro fuel10
    induction fuel10 with
    | zero => intro i h hi hd hh hfu; exact absurd hfu (Nat.not_lt_zero _)
    | succ fuel10 ih10 =>
      intro i h hi hd hh hfu10
      refine zz_aload_n hC 0 (dk DX6_reads_0k 6 rfl) rfl rfl ?_
      refine zz_get hC F_X6_84 0 rfl rfl (dk DX6_reads_0k 7 rfl) ?_
      refine zz_iload_n hC 1 (dk DX6_reads_0k 8 rfl) rfl rfl ?_
      refine zz_isub hC (dk DX6_reads_0k 9 rfl) ?_
      refine zz_iconst hC (dk DX6_reads_0k 10 rfl) ?_
      refine zz_icmp_ge hC 68 (dk DX6_reads_0k 11 rfl) (by decide) ⟨⟨by omega, by omega⟩, (by decide)⟩ (fun c1 => ?_) (fun c1 => ?_)
      · have hrd := rd_e (i := i) hi hd (by first | exact Or.inl (by omega) | exact Or.inr (fun q => absurd (zDg_iff.mp q) (by assumption)))
        have hne := zNe_in (tb := tb) (len := len) (q := sp)
        rw [← hrd.1]
        refine zz_aload_n hC 0 (dk DX6_reads_0k 38 rfl) rfl rfl ?_
        refine zz_get hC F_X6_84 0 rfl rfl (dk DX6_reads_0k 39 rfl) ?_
        refine zz_iload_n hC 1 (dk DX6_reads_0k 40 rfl) rfl rfl ?_
        refine zz_icmp_le hC 91 (dk DX6_reads_0k 41 rfl) (by decide) ⟨⟨by omega, by omega⟩, ⟨by omega, by omega⟩⟩ (fun c2 => ?_) (fun c2 => ?_)
        · refine zz_iconst hC (dk DX6_reads_0k 49 rfl) ?_
          exact zz_zret hC hQ hr h (fun q => hh.trans (hrd.2.2 (hrd.2.1.mp q))) (zB_f (by first | exact (fun q : zOkN tb len sp => absurd (hrd.2.1.mp q.1) (by omega)) | exact (fun q : zOkN tb len sp => q.2 (zDg_iff.mpr (by assumption))))).symm (by decide) [0, 1, 2, 3, 4, 5, 6, 7, 8, 9, 10] rfl rfl ⟨Nat.le_refl _, Nat.le_refl _⟩ (dk DX6_reads_0k 50 rfl)
        · refine zz_aload_n hC 0 (dk DX6_reads_0k 42 rfl) rfl rfl ?_
          refine zz_bipush hC (dk DX6_reads_0k 43 rfl) (by decide) ?_
          refine zz_bipush hC (dk DX6_reads_0k 44 rfl) (by decide) ?_
          refine zz_pureVi hC (c_X6_isAt l D m0 m1 m2 m3 m4 m5 m6 m7 m8 m9 m10 NW PA AS tb st bo sh f1 f2 pk sv len ((zNe tb len sp)) rf h rk rt ra bm ha n w K T U S F L 48 57 hlen hbt (by omega) (by omega)) G_X6_90 H_X6_isAt ⟨Nat.le_of_ble_eq_true rfl, Nat.le_of_ble_eq_true rfl⟩ rfl [0, 1, 2, 3, 4, 5, 6, 7, 8, 9, 10] rfl rfl 0 6 ⟨rfl, rfl, rfl⟩ (As := [.int (zI 48), .int (zI 57)]) (rest := []) (Nat.le_of_ble_eq_true rfl) rfl ⟨Nat.le_of_ble_eq_true rfl, Nat.le_of_ble_eq_true rfl⟩ (dk DX6_reads_0k 45 rfl) ⟨rfl, rfl⟩ ?_
          refine zz_ifb_ne hC 91 (dk DX6_reads_0k 46 rfl) (by decide) (fun c3 => ?_) (fun c3 => ?_)
          · refine zz_iconst hC (dk DX6_reads_0k 49 rfl) ?_
            exact zz_zret hC hQ hr h (fun q => hh.trans (hrd.2.2 (hrd.2.1.mp q))) (zB_f (by first | exact (fun q : zOkN tb len sp => absurd (hrd.2.1.mp q.1) (by omega)) | exact (fun q : zOkN tb len sp => q.2 (zDg_iff.mpr (by assumption))))).symm (by decide) [0, 1, 2, 3, 4, 5, 6, 7, 8, 9, 10] rfl rfl ⟨Nat.le_refl _, Nat.le_refl _⟩ (dk DX6_reads_0k 50 rfl)
          · refine zz_iconst hC (dk DX6_reads_0k 47 rfl) ?_
            refine zz_goto hC 92 (dk DX6_reads_0k 48 rfl) (by decide) ?_
            exact zz_zret hC hQ hr h (fun q => hh.trans (hrd.2.2 (hrd.2.1.mp q))) (zB_t (show zOkN tb len sp from ⟨hrd.2.1.mpr (by omega), fun q => absurd (zDg_iff.mp q) (by assumption)⟩)).symm (by decide) [0, 1, 2, 3, 4, 5, 6, 7, 8, 9, 10] rfl rfl ⟨Nat.le_refl _, Nat.le_refl _⟩ (dk DX6_reads_0k 50 rfl)
      · refine zz_aload_n hC 0 (dk DX6_reads_0k 12 rfl) rfl rfl ?_
        refine zz_bipush hC (dk DX6_reads_0k 13 rfl) (by decide) ?_
        refine zz_bipush hC (dk DX6_reads_0k 14 rfl) (by decide) ?_
        refine zz_pureVi hC (c_X6_isAt l D m0 m1 m2 m3 m4 m5 m6 m7 m8 m9 m10 NW PA AS tb st bo sh f1 f2 pk sv len (sp + i) rf h rk rt ra bm ha n w K T U S F L 48 57 hlen hbt (by omega) (by omega)) G_X6_90 H_X6_isAt ⟨Nat.le_of_ble_eq_true rfl, Nat.le_of_ble_eq_true rfl⟩ rfl [0, 1, 2, 3, 4, 5, 6, 7, 8, 9, 10] rfl rfl 0 6 ⟨rfl, rfl, rfl⟩ (As := [.int (zI 48), .int (zI 57)]) (rest := []) (Nat.le_of_ble_eq_true rfl) rfl ⟨Nat.le_of_ble_eq_true rfl, Nat.le_of_ble_eq_true rfl⟩ (dk DX6_reads_0k 15 rfl) ⟨rfl, rfl⟩ ?_
        refine zz_ifb_eq hC 68 (dk DX6_reads_0k 16 rfl) (by decide) (fun c4 => ?_) (fun c4 => ?_)
        · have hrd := rd_e (i := i) hi hd (by first | exact Or.inl (by omega) | exact Or.inr (fun q => absurd (zDg_iff.mp q) (by assumption)))
          have hne := zNe_in (tb := tb) (len := len) (q := sp)
          rw [← hrd.1]
          refine zz_aload_n hC 0 (dk DX6_reads_0k 38 rfl) rfl rfl ?_
          refine zz_get hC F_X6_84 0 rfl rfl (dk DX6_reads_0k 39 rfl) ?_
          refine zz_iload_n hC 1 (dk DX6_reads_0k 40 rfl) rfl rfl ?_
          refine zz_icmp_le hC 91 (dk DX6_reads_0k 41 rfl) (by decide) ⟨⟨by omega, by omega⟩, ⟨by omega, by omega⟩⟩ (fun c5 => ?_) (fun c5 => ?_)
          · refine zz_iconst hC (dk DX6_reads_0k 49 rfl) ?_
            exact zz_zret hC hQ hr h (fun q => hh.trans (hrd.2.2 (hrd.2.1.mp q))) (zB_f (by first | exact (fun q : zOkN tb len sp => absurd (hrd.2.1.mp q.1) (by omega)) | exact (fun q : zOkN tb len sp => q.2 (zDg_iff.mpr (by assumption))))).symm (by decide) [0, 1, 2, 3, 4, 5, 6, 7, 8, 9, 10] rfl rfl ⟨Nat.le_refl _, Nat.le_refl _⟩ (dk DX6_reads_0k 50 rfl)
          · refine zz_aload_n hC 0 (dk DX6_reads_0k 42 rfl) rfl rfl ?_
            refine zz_bipush hC (dk DX6_reads_0k 43 rfl) (by decide) ?_
            refine zz_bipush hC (dk DX6_reads_0k 44 rfl) (by decide) ?_
            refine zz_pureVi hC (c_X6_isAt l D m0 m1 m2 m3 m4 m5 m6 m7 m8 m9 m10 NW PA AS tb st bo sh f1 f2 pk sv len ((zNe tb len sp)) rf h rk rt ra bm ha n w K T U S F L 48 57 hlen hbt (by omega) (by omega)) G_X6_90 H_X6_isAt ⟨Nat.le_of_ble_eq_true rfl, Nat.le_of_ble_eq_true rfl⟩ rfl [0, 1, 2, 3, 4, 5, 6, 7, 8, 9, 10] rfl rfl 0 6 ⟨rfl, rfl, rfl⟩ (As := [.int (zI 48), .int (zI 57)]) (rest := []) (Nat.le_of_ble_eq_true rfl) rfl ⟨Nat.le_of_ble_eq_true rfl, Nat.le_of_ble_eq_true rfl⟩ (dk DX6_reads_0k 45 rfl) ⟨rfl, rfl⟩ ?_
            refine zz_ifb_ne hC 91 (dk DX6_reads_0k 46 rfl) (by decide) (fun c6 => ?_) (fun c6 => ?_)
            · refine zz_iconst hC (dk DX6_reads_0k 49 rfl) ?_
              exact zz_zret hC hQ hr h (fun q => hh.trans (hrd.2.2 (hrd.2.1.mp q))) (zB_f (by first | exact (fun q : zOkN tb len sp => absurd (hrd.2.1.mp q.1) (by omega)) | exact (fun q : zOkN tb len sp => q.2 (zDg_iff.mpr (by assumption))))).symm (by decide) [0, 1, 2, 3, 4, 5, 6, 7, 8, 9, 10] rfl rfl ⟨Nat.le_refl _, Nat.le_refl _⟩ (dk DX6_reads_0k 50 rfl)
            · refine zz_iconst hC (dk DX6_reads_0k 47 rfl) ?_
              refine zz_goto hC 92 (dk DX6_reads_0k 48 rfl) (by decide) ?_
              exact zz_zret hC hQ hr h (fun q => hh.trans (hrd.2.2 (hrd.2.1.mp q))) (zB_t (show zOkN tb len sp from ⟨hrd.2.1.mpr (by omega), fun q => absurd (zDg_iff.mp q) (by assumption)⟩)).symm (by decide) [0, 1, 2, 3, 4, 5, 6, 7, 8, 9, 10] rfl rfl ⟨Nat.le_refl _, Nat.le_refl _⟩ (dk DX6_reads_0k 50 rfl)
        · have hdg : zDg tb len (sp + i) = true := zDg_iff.mpr (by assumption)
          have hlt := zDg_lt hdg
          have hnx : zNx tb len (sp + i) = tb (sp + i) := by unfold zNx; exact if_pos hlt
          refine zz_aload_n hC 0 (dk DX6_reads_0k 17 rfl) rfl rfl ?_
          refine zz_bipush hC (dk DX6_reads_0k 18 rfl) (by decide) ?_
          refine zz_aload_n hC 0 (dk DX6_reads_0k 19 rfl) rfl rfl ?_
          refine zz_get hC F_X6_87 0 rfl rfl (dk DX6_reads_0k 20 rfl) ?_
          refine zz_imul hC (dk DX6_reads_0k 21 rfl) ?_
          refine zz_aload_n hC 0 (dk DX6_reads_0k 22 rfl) rfl rfl ?_
          refine zz_get hC F_X6_19 0 rfl rfl (dk DX6_reads_0k 23 rfl) ?_
          refine zz_aload_n hC 0 (dk DX6_reads_0k 24 rfl) rfl rfl ?_
          refine zz_get hC F_X6_84 0 rfl rfl (dk DX6_reads_0k 25 rfl) ?_
          refine zz_iald hC (sp + i) 4 rfl rfl (by omega) (dk DX6_reads_0k 26 rfl) ?_
          refine zz_iadd hC (dk DX6_reads_0k 27 rfl) ?_
          refine zz_bipush hC (dk DX6_reads_0k 28 rfl) (by decide) ?_
          refine zz_isub hC (dk DX6_reads_0k 29 rfl) ?_
          refine zz_put hC F_X6_87 fc_X6 rfl (tyX6_ok 8 (by decide)) 0 (ws' := [(m0, .inr (6, [.ref m1, .ref m2, .ref m3, .int (zI ((sv : Nat) : Int)), .int (zI rf), .ref m4, .int (zI ((len : Nat) : Int)), .int (zI ((sp + i : Nat) : Int)), .int (zI (((10 * h) + (tb (sp + i))) - 48)), .int (zI rk), .int (zI rt), .int (zI ra), .ref m5, .ref m6, .int (zI bm), .ref m7, .ref m8, .ref m9, .ref m10, .long (zL ha)])), (m1, iA D 771 NW), (m2, iA D 3084 PA), (m3, iA D 771 AS), (m4, iA D 150 tb), (m5, iA D 250 st), (m6, iA D 250 bo), (m7, iA D 250 sh), (m8, iA D 36 f1), (m9, iA D 36 f2), (m10, iA D 2778 pk)]) rfl rfl rfl (Nat.le_of_ble_eq_true rfl) rfl (dk DX6_reads_0k 30 rfl) ?_
          refine zz_aload_n hC 0 (dk DX6_reads_0k 31 rfl) rfl rfl ?_
          refine zz_dup hC (dk DX6_reads_0k 32 rfl) rfl ?_
          refine zz_get hC F_X6_84 0 rfl rfl (dk DX6_reads_0k 33 rfl) ?_
          refine zz_iconst hC (dk DX6_reads_0k 34 rfl) ?_
          refine zz_iadd hC (dk DX6_reads_0k 35 rfl) ?_
          refine zz_put hC F_X6_84 fc_X6 rfl (tyX6_ok 7 (by decide)) 0 (ws' := [(m0, .inr (6, [.ref m1, .ref m2, .ref m3, .int (zI ((sv : Nat) : Int)), .int (zI rf), .ref m4, .int (zI ((len : Nat) : Int)), .int (zI ((sp + i + 1 : Nat) : Int)), .int (zI (((10 * h) + (tb (sp + i))) - 48)), .int (zI rk), .int (zI rt), .int (zI ra), .ref m5, .ref m6, .int (zI bm), .ref m7, .ref m8, .ref m9, .ref m10, .long (zL ha)])), (m1, iA D 771 NW), (m2, iA D 3084 PA), (m3, iA D 771 AS), (m4, iA D 150 tb), (m5, iA D 250 st), (m6, iA D 250 bo), (m7, iA D 250 sh), (m8, iA D 36 f1), (m9, iA D 36 f2), (m10, iA D 2778 pk)]) rfl rfl rfl (Nat.le_of_ble_eq_true rfl) rfl (dk DX6_reads_0k 36 rfl) ?_
          refine zz_goto hC 10 (dk DX6_reads_0k 37 rfl) (by decide) ?_
          refine zz_ls [0, 1] rfl ?_
          exact ih10 (i + 1) (((10 * h) + (tb (sp + i))) - 48) (by omega) (dg_a hd hdg) (dg_s hh hnx) (by omega)
  refine zz_ls [0, 1] rfl ?_
  exact LP10 _ 0 0 (by omega) (fun j hj => absurd hj (by omega)) rfl (Nat.lt_succ_self _)
set_option maxHeartbeats 4000000 in
set_option maxRecDepth 100000 in
theorem c_X6_passes (l : Launch) (D : zG) (m0 : Nat) (m1 : Nat) (m2 : Nat) (m3 : Nat) (m4 : Nat) (m5 : Nat) (m6 : Nat) (m7 : Nat) (m8 : Nat) (m9 : Nat) (m10 : Nat) (NW : Nat → Int) (PA : Nat → Int) (AS : Nat → Int) (tb : Nat → Int) (st : Nat → Int) (bo : Nat → Int) (sh : Nat → Int) (f1 : Nat → Int) (f2 : Nat → Int) (pk : Nat → Int) (sv : Nat) (len : Nat) (sp : Nat) (rf : Int) (nu : Int) (rk : Int) (rt : Int) (ra : Int) (bm : Int) (ha : Int) (n : Nat) (w : Nat) (K : Nat → Int) (T : Nat → Int) (U : Nat → Int) (S : Nat → Int) (F : Nat → Int) (L : Nat → Int) (x : Int) (hlen : len ≤ 150) (hbt : ∀ j, j < len → 0 ≤ tb j ∧ tb j ≤ 127) (hx9 : 0 ≤ x ∧ x ≤ 127) (hsp : sp ≤ 160) : CI (S := Nat) l yX6_passes cX6_passes 3 ((some .boolean)) ({ frames := 2, cells := 0, slots := 0, locals := 44 } : Room) D [.ref m0, .int (zI x)] [(m0, .inr (6, [.ref m1, .ref m2, .ref m3, .int (zI ((sv : Nat) : Int)), .int (zI rf), .ref m4, .int (zI ((len : Nat) : Int)), .int (zI ((sp : Nat) : Int)), .int (zI nu), .int (zI rk), .int (zI rt), .int (zI ra), .ref m5, .ref m6, .int (zI bm), .ref m7, .ref m8, .ref m9, .ref m10, .long (zL ha)])), (m1, iA D 771 NW), (m2, iA D 3084 PA), (m3, iA D 771 AS), (m4, iA D 150 tb), (m5, iA D 250 st), (m6, iA D 250 bo), (m7, iA D 250 sh), (m8, iA D 36 f1), (m9, iA D 36 f2), (m10, iA D 2778 pk)] (fun u => (zNx tb len sp = x → u = sp + 1) ∧ (¬ zNx tb len sp = x → u = sp)) (fun u => zB (x ≤ zNx tb len sp ∧ zNx tb len sp ≤ x)) (fun u => [(m0, .inr (6, [.ref m1, .ref m2, .ref m3, .int (zI ((sv : Nat) : Int)), .int (zI rf), .ref m4, .int (zI ((len : Nat) : Int)), .int (zI ((u : Nat) : Int)), .int (zI nu), .int (zI rk), .int (zI rt), .int (zI ra), .ref m5, .ref m6, .int (zI bm), .ref m7, .ref m8, .ref m9, .ref m10, .long (zL ha)])), (m1, iA D 771 NW), (m2, iA D 3084 PA), (m3, iA D 771 AS), (m4, iA D 150 tb), (m5, iA D 250 st), (m6, iA D 250 bo), (m7, iA D 250 sh), (m8, iA D 36 f1), (m9, iA D 36 f2), (m10, iA D 2778 pk)]) := by
  refine CI_of (by decide) (Nat.le_of_ble_eq_true rfl) ?_
  intro p e s m args below meth cd A Q hQ hC hr hnm
  have hC : ZC p s m args meth cd A D 3 cX6_passes RX6 := hC
  show Z p l e ({ frames := 2, cells := 0, slots := 0, locals := 44 } : Room) s m args below meth cd A D Q 3 0 0 [(m0, .inr (6, [.ref m1, .ref m2, .ref m3, .int (zI ((sv : Nat) : Int)), .int (zI rf), .ref m4, .int (zI ((len : Nat) : Int)), .int (zI ((sp : Nat) : Int)), .int (zI nu), .int (zI rk), .int (zI rt), .int (zI ra), .ref m5, .ref m6, .int (zI bm), .ref m7, .ref m8, .ref m9, .ref m10, .long (zL ha)])), (m1, iA D 771 NW), (m2, iA D 3084 PA), (m3, iA D 771 AS), (m4, iA D 150 tb), (m5, iA D 250 st), (m6, iA D 250 bo), (m7, iA D 250 sh), (m8, iA D 36 f1), (m9, iA D 36 f2), (m10, iA D 2778 pk)] [(0, .ref m0), (1, .int (zI x))] [] 0
  refine zz_aload_n hC 0 (dk DX6_passes_0k 0 rfl) rfl rfl ?_
  refine zz_iload_n hC 1 (dk DX6_passes_0k 1 rfl) rfl rfl ?_
  refine zz_iload_n hC 1 (dk DX6_passes_0k 2 rfl) rfl rfl ?_
  refine zz_pureVi hC (c_X6_isAt l D m0 m1 m2 m3 m4 m5 m6 m7 m8 m9 m10 NW PA AS tb st bo sh f1 f2 pk sv len sp rf nu rk rt ra bm ha n w K T U S F L x x hlen hbt (by omega) (by omega)) G_X6_90 H_X6_isAt ⟨Nat.le_of_ble_eq_true rfl, Nat.le_of_ble_eq_true rfl⟩ rfl [0, 1, 2, 3, 4, 5, 6, 7, 8, 9, 10] rfl rfl 0 6 ⟨rfl, rfl, rfl⟩ (As := [.int (zI x), .int (zI x)]) (rest := []) (Nat.le_of_ble_eq_true rfl) rfl ⟨Nat.le_of_ble_eq_true rfl, Nat.le_of_ble_eq_true rfl⟩ (dk DX6_passes_0k 3 rfl) ⟨rfl, rfl⟩ ?_
  refine zz_istore_n hC (ls' := [(0, .ref m0), (1, .int (zI x)), (2, .int (zI (zB (x ≤ zNx tb len sp ∧ zNx tb len sp ≤ x))))]) [1, 2, 0] (dk DX6_passes_0k 4 rfl) rfl (by decide) rfl ?_
  refine zz_aload_n hC 0 (dk DX6_passes_0k 5 rfl) rfl rfl ?_
  refine zz_dup hC (dk DX6_passes_0k 6 rfl) rfl ?_
  refine zz_get hC F_X6_84 0 rfl rfl (dk DX6_passes_0k 7 rfl) ?_
  refine zz_iload_n hC 2 (dk DX6_passes_0k 8 rfl) rfl rfl ?_
  refine zz_ifb_eq hC 20 (dk DX6_passes_0k 9 rfl) (by decide) (fun c1 => ?_) (fun c1 => ?_)
  · refine zz_iconst hC (dk DX6_passes_0k 12 rfl) ?_
    refine zz_iadd hC (dk DX6_passes_0k 13 rfl) ?_
    rw [show ((sp : Nat) : Int) + 0 = ((sp : Nat) : Int) by omega]
    refine zz_put hC F_X6_84 fc_X6 rfl (tyX6_ok 7 (by decide)) 0 (ws' := [(m0, .inr (6, [.ref m1, .ref m2, .ref m3, .int (zI ((sv : Nat) : Int)), .int (zI rf), .ref m4, .int (zI ((len : Nat) : Int)), .int (zI ((sp : Nat) : Int)), .int (zI nu), .int (zI rk), .int (zI rt), .int (zI ra), .ref m5, .ref m6, .int (zI bm), .ref m7, .ref m8, .ref m9, .ref m10, .long (zL ha)])), (m1, iA D 771 NW), (m2, iA D 3084 PA), (m3, iA D 771 AS), (m4, iA D 150 tb), (m5, iA D 250 st), (m6, iA D 250 bo), (m7, iA D 250 sh), (m8, iA D 36 f1), (m9, iA D 36 f2), (m10, iA D 2778 pk)]) rfl rfl rfl (Nat.le_of_ble_eq_true rfl) rfl (dk DX6_passes_0k 14 rfl) ?_
    refine zz_iload_n hC 2 (dk DX6_passes_0k 15 rfl) rfl rfl ?_
    exact zz_zret hC hQ hr sp ⟨fun q => by omega, fun q => by omega⟩ rfl (zB_01) [0, 1, 2, 3, 4, 5, 6, 7, 8, 9, 10] rfl rfl ⟨Nat.le_refl _, Nat.le_refl _⟩ (dk DX6_passes_0k 16 rfl)
  · refine zz_iconst hC (dk DX6_passes_0k 10 rfl) ?_
    refine zz_goto hC 21 (dk DX6_passes_0k 11 rfl) (by decide) ?_
    refine zz_iadd hC (dk DX6_passes_0k 13 rfl) ?_
    refine zz_put hC F_X6_84 fc_X6 rfl (tyX6_ok 7 (by decide)) 0 (ws' := [(m0, .inr (6, [.ref m1, .ref m2, .ref m3, .int (zI ((sv : Nat) : Int)), .int (zI rf), .ref m4, .int (zI ((len : Nat) : Int)), .int (zI ((sp + 1 : Nat) : Int)), .int (zI nu), .int (zI rk), .int (zI rt), .int (zI ra), .ref m5, .ref m6, .int (zI bm), .ref m7, .ref m8, .ref m9, .ref m10, .long (zL ha)])), (m1, iA D 771 NW), (m2, iA D 3084 PA), (m3, iA D 771 AS), (m4, iA D 150 tb), (m5, iA D 250 st), (m6, iA D 250 bo), (m7, iA D 250 sh), (m8, iA D 36 f1), (m9, iA D 36 f2), (m10, iA D 2778 pk)]) rfl rfl rfl (Nat.le_of_ble_eq_true rfl) rfl (dk DX6_passes_0k 14 rfl) ?_
    refine zz_iload_n hC 2 (dk DX6_passes_0k 15 rfl) rfl rfl ?_
    exact zz_zret hC hQ hr (sp + 1) ⟨fun q => by omega, fun q => by omega⟩ rfl (zB_01) [0, 1, 2, 3, 4, 5, 6, 7, 8, 9, 10] rfl rfl ⟨Nat.le_refl _, Nat.le_refl _⟩ (dk DX6_passes_0k 16 rfl)
set_option maxHeartbeats 4000000 in
set_option maxRecDepth 100000 in
theorem c_X6_readsPulse (l : Launch) (D : zG) (m0 : Nat) (m1 : Nat) (m2 : Nat) (m3 : Nat) (m4 : Nat) (m5 : Nat) (m6 : Nat) (m7 : Nat) (m8 : Nat) (m9 : Nat) (m10 : Nat) (NW : Nat → Int) (PA : Nat → Int) (AS : Nat → Int) (tb : Nat → Int) (st : Nat → Int) (bo : Nat → Int) (sh : Nat → Int) (f1 : Nat → Int) (f2 : Nat → Int) (pk : Nat → Int) (sv : Nat) (len : Nat) (sp : Nat) (rf : Int) (nu : Int) (rk : Int) (rt : Int) (ra : Int) (bm : Int) (ha : Int) (n : Nat) (w : Nat) (K : Nat → Int) (T : Nat → Int) (U : Nat → Int) (S : Nat → Int) (F : Nat → Int) (L : Nat → Int) (hlen : len ≤ 150) (hbt : ∀ j, j < len → 0 ≤ tb j ∧ tb j ≤ 127) (hsp : sp ≤ 150) : CI (S := Nat × Int × Int × Int × Int) l yX6_readsPulse cX6_readsPulse 3 ((some .boolean)) ({ frames := 3, cells := 0, slots := 0, locals := 66 } : Room) D [.ref m0] [(m0, .inr (6, [.ref m1, .ref m2, .ref m3, .int (zI ((sv : Nat) : Int)), .int (zI rf), .ref m4, .int (zI ((len : Nat) : Int)), .int (zI ((sp : Nat) : Int)), .int (zI nu), .int (zI rk), .int (zI rt), .int (zI ra), .ref m5, .ref m6, .int (zI bm), .ref m7, .ref m8, .ref m9, .ref m10, .long (zL ha)])), (m1, iA D 771 NW), (m2, iA D 3084 PA), (m3, iA D 771 AS), (m4, iA D 150 tb), (m5, iA D 250 st), (m6, iA D 250 bo), (m7, iA D 250 sh), (m8, iA D 36 f1), (m9, iA D 36 f2), (m10, iA D 2778 pk)] (fun u => zRr tb len sp u) (fun u => zB (zPe tb len sp = -1)) (fun u => [(m0, .inr (6, [.ref m1, .ref m2, .ref m3, .int (zI ((sv : Nat) : Int)), .int (zI rf), .ref m4, .int (zI ((len : Nat) : Int)), .int (zI ((u.1 : Nat) : Int)), .int (zI u.2.1), .int (zI u.2.2.1), .int (zI u.2.2.2.1), .int (zI u.2.2.2.2), .ref m5, .ref m6, .int (zI bm), .ref m7, .ref m8, .ref m9, .ref m10, .long (zL ha)])), (m1, iA D 771 NW), (m2, iA D 3084 PA), (m3, iA D 771 AS), (m4, iA D 150 tb), (m5, iA D 250 st), (m6, iA D 250 bo), (m7, iA D 250 sh), (m8, iA D 36 f1), (m9, iA D 36 f2), (m10, iA D 2778 pk)]) := by
  refine CI_of (by decide) (Nat.le_of_ble_eq_true rfl) ?_
  intro p e s m args below meth cd A Q hQ hC hr hnm
  have hC : ZC p s m args meth cd A D 3 cX6_readsPulse RX6 := hC
  show Z p l e ({ frames := 3, cells := 0, slots := 0, locals := 66 } : Room) s m args below meth cd A D Q 3 0 0 [(m0, .inr (6, [.ref m1, .ref m2, .ref m3, .int (zI ((sv : Nat) : Int)), .int (zI rf), .ref m4, .int (zI ((len : Nat) : Int)), .int (zI ((sp : Nat) : Int)), .int (zI nu), .int (zI rk), .int (zI rt), .int (zI ra), .ref m5, .ref m6, .int (zI bm), .ref m7, .ref m8, .ref m9, .ref m10, .long (zL ha)])), (m1, iA D 771 NW), (m2, iA D 3084 PA), (m3, iA D 771 AS), (m4, iA D 150 tb), (m5, iA D 250 st), (m6, iA D 250 bo), (m7, iA D 250 sh), (m8, iA D 36 f1), (m9, iA D 36 f2), (m10, iA D 2778 pk)] [(0, .ref m0)] [] 0
  refine zz_aload_n hC 0 (dk DX6_readsPulse_0k 0 rfl) rfl rfl ?_
  refine zz_aload_n hC 0 (dk DX6_readsPulse_0k 1 rfl) rfl rfl ?_
  refine zz_bipush hC (dk DX6_readsPulse_0k 2 rfl) (by decide) ?_
  refine zz_bipush hC (dk DX6_readsPulse_0k 3 rfl) (by decide) ?_
  refine zz_pureVi hC (c_X6_isAt l D m0 m1 m2 m3 m4 m5 m6 m7 m8 m9 m10 NW PA AS tb st bo sh f1 f2 pk sv len sp rf nu rk rt ra bm ha n w K T U S F L 109 109 hlen hbt (by omega) (by omega)) G_X6_90 H_X6_isAt ⟨Nat.le_of_ble_eq_true rfl, Nat.le_of_ble_eq_true rfl⟩ rfl [0, 1, 2, 3, 4, 5, 6, 7, 8, 9, 10] rfl rfl 0 6 ⟨rfl, rfl, rfl⟩ (As := [.int (zI 109), .int (zI 109)]) (rest := [.ref m0]) (Nat.le_of_ble_eq_true rfl) rfl ⟨Nat.le_of_ble_eq_true rfl, Nat.le_of_ble_eq_true rfl⟩ (dk DX6_readsPulse_0k 4 rfl) ⟨rfl, rfl⟩ ?_
  refine zz_ifb_eq hC 16 (dk DX6_readsPulse_0k 5 rfl) (by decide) (fun c1 => ?_) (fun c1 => ?_)
  · refine zz_aload_n hC 0 (dk DX6_readsPulse_0k 8 rfl) rfl rfl ?_
    refine zz_bipush hC (dk DX6_readsPulse_0k 9 rfl) (by decide) ?_
    refine zz_bipush hC (dk DX6_readsPulse_0k 10 rfl) (by decide) ?_
    refine zz_pureVi hC (c_X6_isAt l D m0 m1 m2 m3 m4 m5 m6 m7 m8 m9 m10 NW PA AS tb st bo sh f1 f2 pk sv len sp rf nu rk rt ra bm ha n w K T U S F L 110 110 hlen hbt (by omega) (by omega)) G_X6_90 H_X6_isAt ⟨Nat.le_of_ble_eq_true rfl, Nat.le_of_ble_eq_true rfl⟩ rfl [0, 1, 2, 3, 4, 5, 6, 7, 8, 9, 10] rfl rfl 0 6 ⟨rfl, rfl, rfl⟩ (As := [.int (zI 110), .int (zI 110)]) (rest := [.ref m0]) (Nat.le_of_ble_eq_true rfl) rfl ⟨Nat.le_of_ble_eq_true rfl, Nat.le_of_ble_eq_true rfl⟩ (dk DX6_readsPulse_0k 11 rfl) ⟨rfl, rfl⟩ ?_
    refine zz_ifb_eq hC 31 (dk DX6_readsPulse_0k 12 rfl) (by decide) (fun c2 => ?_) (fun c2 => ?_)
    · refine zz_aload_n hC 0 (dk DX6_readsPulse_0k 15 rfl) rfl rfl ?_
      refine zz_bipush hC (dk DX6_readsPulse_0k 16 rfl) (by decide) ?_
      refine zz_bipush hC (dk DX6_readsPulse_0k 17 rfl) (by decide) ?_
      refine zz_pureVi hC (c_X6_isAt l D m0 m1 m2 m3 m4 m5 m6 m7 m8 m9 m10 NW PA AS tb st bo sh f1 f2 pk sv len sp rf nu rk rt ra bm ha n w K T U S F L 105 105 hlen hbt (by omega) (by omega)) G_X6_90 H_X6_isAt ⟨Nat.le_of_ble_eq_true rfl, Nat.le_of_ble_eq_true rfl⟩ rfl [0, 1, 2, 3, 4, 5, 6, 7, 8, 9, 10] rfl rfl 0 6 ⟨rfl, rfl, rfl⟩ (As := [.int (zI 105), .int (zI 105)]) (rest := [.ref m0]) (Nat.le_of_ble_eq_true rfl) rfl ⟨Nat.le_of_ble_eq_true rfl, Nat.le_of_ble_eq_true rfl⟩ (dk DX6_readsPulse_0k 18 rfl) ⟨rfl, rfl⟩ ?_
      refine zz_ifb_eq hC 46 (dk DX6_readsPulse_0k 19 rfl) (by decide) (fun c3 => ?_) (fun c3 => ?_)
      · refine zz_iconst hC (dk DX6_readsPulse_0k 22 rfl) ?_
        refine zz_put hC F_X6_94 fc_X6 rfl (tyX6_ok 9 (by decide)) 0 (ws' := [(m0, .inr (6, [.ref m1, .ref m2, .ref m3, .int (zI ((sv : Nat) : Int)), .int (zI rf), .ref m4, .int (zI ((len : Nat) : Int)), .int (zI ((sp : Nat) : Int)), .int (zI nu), .int (zI (-1)), .int (zI rt), .int (zI ra), .ref m5, .ref m6, .int (zI bm), .ref m7, .ref m8, .ref m9, .ref m10, .long (zL ha)])), (m1, iA D 771 NW), (m2, iA D 3084 PA), (m3, iA D 771 AS), (m4, iA D 150 tb), (m5, iA D 250 st), (m6, iA D 250 bo), (m7, iA D 250 sh), (m8, iA D 36 f1), (m9, iA D 36 f2), (m10, iA D 2778 pk)]) rfl rfl rfl (Nat.le_of_ble_eq_true rfl) rfl (dk DX6_readsPulse_0k 23 rfl) ?_
        refine zz_aload_n hC 0 (dk DX6_readsPulse_0k 24 rfl) rfl rfl ?_
        refine zz_get hC F_X6_94 0 rfl rfl (dk DX6_readsPulse_0k 25 rfl) ?_
        refine zz_iconst hC (dk DX6_readsPulse_0k 26 rfl) ?_
        refine zz_icmp_ne hC 60 (dk DX6_readsPulse_0k 27 rfl) (by decide) ⟨(by decide), (by decide)⟩ (fun c4 => ?_) (fun c4 => ?_)
        · exfalso; omega
        · refine zz_iconst hC (dk DX6_readsPulse_0k 28 rfl) ?_
          have hpe := pe_1 (show ¬ (zNx tb len sp = 109 ∨ zNx tb len sp = 110 ∨ zNx tb len sp = 105) by omega)
          exact zz_zret hC hQ hr (sp, nu, (-1), rt, ra) (rr_n hpe) (zB_f (by rw [hpe]; omega)).symm (by decide) [0, 1, 2, 3, 4, 5, 6, 7, 8, 9, 10] rfl rfl ⟨Nat.le_refl _, Nat.le_refl _⟩ (dk DX6_readsPulse_0k 29 rfl)
      · refine zz_iconst hC (dk DX6_readsPulse_0k 20 rfl) ?_
        refine zz_goto hC 47 (dk DX6_readsPulse_0k 21 rfl) (by decide) ?_
        refine zz_put hC F_X6_94 fc_X6 rfl (tyX6_ok 9 (by decide)) 0 (ws' := [(m0, .inr (6, [.ref m1, .ref m2, .ref m3, .int (zI ((sv : Nat) : Int)), .int (zI rf), .ref m4, .int (zI ((len : Nat) : Int)), .int (zI ((sp : Nat) : Int)), .int (zI nu), .int (zI 2), .int (zI rt), .int (zI ra), .ref m5, .ref m6, .int (zI bm), .ref m7, .ref m8, .ref m9, .ref m10, .long (zL ha)])), (m1, iA D 771 NW), (m2, iA D 3084 PA), (m3, iA D 771 AS), (m4, iA D 150 tb), (m5, iA D 250 st), (m6, iA D 250 bo), (m7, iA D 250 sh), (m8, iA D 36 f1), (m9, iA D 36 f2), (m10, iA D 2778 pk)]) rfl rfl rfl (Nat.le_of_ble_eq_true rfl) rfl (dk DX6_readsPulse_0k 23 rfl) ?_
        refine zz_aload_n hC 0 (dk DX6_readsPulse_0k 24 rfl) rfl rfl ?_
        refine zz_get hC F_X6_94 0 rfl rfl (dk DX6_readsPulse_0k 25 rfl) ?_
        refine zz_iconst hC (dk DX6_readsPulse_0k 26 rfl) ?_
        refine zz_icmp_ne hC 60 (dk DX6_readsPulse_0k 27 rfl) (by decide) ⟨(by decide), (by decide)⟩ (fun c5 => ?_) (fun c5 => ?_)
        · have hk9 : zNx tb len sp = 109 ∨ zNx tb len sp = 110 ∨ zNx tb len sp = 105 := by omega
          refine zz_aload_n hC 0 (dk DX6_readsPulse_0k 30 rfl) rfl rfl ?_
          refine zz_dup hC (dk DX6_readsPulse_0k 31 rfl) rfl ?_
          refine zz_get hC F_X6_84 0 rfl rfl (dk DX6_readsPulse_0k 32 rfl) ?_
          refine zz_iconst hC (dk DX6_readsPulse_0k 33 rfl) ?_
          refine zz_iadd hC (dk DX6_readsPulse_0k 34 rfl) ?_
          refine zz_put hC F_X6_84 fc_X6 rfl (tyX6_ok 7 (by decide)) 0 (ws' := [(m0, .inr (6, [.ref m1, .ref m2, .ref m3, .int (zI ((sv : Nat) : Int)), .int (zI rf), .ref m4, .int (zI ((len : Nat) : Int)), .int (zI ((sp + 1 : Nat) : Int)), .int (zI nu), .int (zI 2), .int (zI rt), .int (zI ra), .ref m5, .ref m6, .int (zI bm), .ref m7, .ref m8, .ref m9, .ref m10, .long (zL ha)])), (m1, iA D 771 NW), (m2, iA D 3084 PA), (m3, iA D 771 AS), (m4, iA D 150 tb), (m5, iA D 250 st), (m6, iA D 250 bo), (m7, iA D 250 sh), (m8, iA D 36 f1), (m9, iA D 36 f2), (m10, iA D 2778 pk)]) rfl rfl rfl (Nat.le_of_ble_eq_true rfl) rfl (dk DX6_readsPulse_0k 35 rfl) ?_
          refine zz_aload_n hC 0 (dk DX6_readsPulse_0k 36 rfl) rfl rfl ?_
          refine zz_callVi hC (wr := []) (c_X6_reads l D m0 m1 m2 m3 m4 m5 m6 m7 m8 m9 m10 NW PA AS tb st bo sh f1 f2 pk sv len (sp + 1) rf nu 2 rt ra bm ha n w K T U S F L hlen hbt (by omega)) G_X6_97 H_X6_reads ⟨Nat.le_of_ble_eq_true rfl, Nat.le_of_ble_eq_true rfl⟩ rfl [0, 1, 2, 3, 4, 5, 6, 7, 8, 9, 10] [] rfl rfl ⟨rfl, rfl, by decide⟩ 0 6 ⟨rfl, rfl, rfl⟩ (As := []) (rest := []) (Nat.le_of_ble_eq_true rfl) rfl ⟨Nat.le_of_ble_eq_true rfl, Nat.le_of_ble_eq_true rfl⟩ (dk DX6_readsPulse_0k 37 rfl) ⟨rfl, rfl⟩ (wb := fun u6 => [(m0, .inr (6, [.ref m1, .ref m2, .ref m3, .int (zI ((sv : Nat) : Int)), .int (zI rf), .ref m4, .int (zI ((len : Nat) : Int)), .int (zI (((zNe tb len (sp + 1)) : Nat) : Int)), .int (zI u6), .int (zI 2), .int (zI rt), .int (zI ra), .ref m5, .ref m6, .int (zI bm), .ref m7, .ref m8, .ref m9, .ref m10, .long (zL ha)])), (m1, iA D 771 NW), (m2, iA D 3084 PA), (m3, iA D 771 AS), (m4, iA D 150 tb), (m5, iA D 250 st), (m6, iA D 250 bo), (m7, iA D 250 sh), (m8, iA D 36 f1), (m9, iA D 36 f2), (m10, iA D 2778 pk)]) [0, 1, 2, 3, 4, 5, 6, 7, 8, 9, 10] rfl (fun _ => rfl) (fun u6 hu6 => ?_)
          have hne1 := zNe_in (tb := tb) (len := len) (q := sp + 1)
          refine zz_ifb_ne hC 79 (dk DX6_readsPulse_0k 38 rfl) (by decide) (fun c7 => ?_) (fun c7 => ?_)
          · have hv1 := hu6 (show zOkN tb len (sp + 1) by assumption).1
            have hl1 := zNe_len (show zOkN tb len (sp + 1) by assumption).1
            refine zz_aload_n hC 0 (dk DX6_readsPulse_0k 41 rfl) rfl rfl ?_
            refine zz_aload_n hC 0 (dk DX6_readsPulse_0k 42 rfl) rfl rfl ?_
            refine zz_get hC F_X6_87 0 rfl rfl (dk DX6_readsPulse_0k 43 rfl) ?_
            refine zz_put hC F_X6_101 fc_X6 rfl (tyX6_ok 10 (by decide)) 0 (ws' := [(m0, .inr (6, [.ref m1, .ref m2, .ref m3, .int (zI ((sv : Nat) : Int)), .int (zI rf), .ref m4, .int (zI ((len : Nat) : Int)), .int (zI (((zNe tb len (sp + 1)) : Nat) : Int)), .int (zI u6), .int (zI 2), .int (zI u6), .int (zI ra), .ref m5, .ref m6, .int (zI bm), .ref m7, .ref m8, .ref m9, .ref m10, .long (zL ha)])), (m1, iA D 771 NW), (m2, iA D 3084 PA), (m3, iA D 771 AS), (m4, iA D 150 tb), (m5, iA D 250 st), (m6, iA D 250 bo), (m7, iA D 250 sh), (m8, iA D 36 f1), (m9, iA D 36 f2), (m10, iA D 2778 pk)]) rfl rfl rfl (Nat.le_of_ble_eq_true rfl) rfl (dk DX6_readsPulse_0k 44 rfl) ?_
            refine zz_aload_n hC 0 (dk DX6_readsPulse_0k 45 rfl) rfl rfl ?_
            refine zz_bipush hC (dk DX6_readsPulse_0k 46 rfl) (by decide) ?_
            refine zz_bipush hC (dk DX6_readsPulse_0k 47 rfl) (by decide) ?_
            refine zz_pureVi hC (c_X6_isAt l D m0 m1 m2 m3 m4 m5 m6 m7 m8 m9 m10 NW PA AS tb st bo sh f1 f2 pk sv len ((zNe tb len (sp + 1))) rf u6 2 u6 ra bm ha n w K T U S F L 45 45 hlen hbt (by omega) (by omega)) G_X6_90 H_X6_isAt ⟨Nat.le_of_ble_eq_true rfl, Nat.le_of_ble_eq_true rfl⟩ rfl [0, 1, 2, 3, 4, 5, 6, 7, 8, 9, 10] rfl rfl 0 6 ⟨rfl, rfl, rfl⟩ (As := [.int (zI 45), .int (zI 45)]) (rest := []) (Nat.le_of_ble_eq_true rfl) rfl ⟨Nat.le_of_ble_eq_true rfl, Nat.le_of_ble_eq_true rfl⟩ (dk DX6_readsPulse_0k 48 rfl) ⟨rfl, rfl⟩ ?_
            refine zz_istore_n hC (ls' := [(0, .ref m0), (1, .int (zI (zB (45 ≤ zNx tb len ((zNe tb len (sp + 1))) ∧ zNx tb len ((zNe tb len (sp + 1))) ≤ 45))))]) [1, 0] (dk DX6_readsPulse_0k 49 rfl) rfl (by decide) rfl ?_
            refine zz_iload_n hC 1 (dk DX6_readsPulse_0k 50 rfl) rfl rfl ?_
            refine zz_ifb_ne hC 113 (dk DX6_readsPulse_0k 51 rfl) (by decide) (fun c8 => ?_) (fun c8 => ?_)
            · have hsg : zNx tb len (zNe tb len (sp + 1)) = 43 ∨ zNx tb len (zNe tb len (sp + 1)) = 45 := by omega
              refine zz_aload_n hC 0 (dk DX6_readsPulse_0k 59 rfl) rfl rfl ?_
              refine zz_dup hC (dk DX6_readsPulse_1k 0 rfl) rfl ?_
              refine zz_get hC F_X6_84 0 rfl rfl (dk DX6_readsPulse_1k 1 rfl) ?_
              refine zz_iconst hC (dk DX6_readsPulse_1k 2 rfl) ?_
              refine zz_iadd hC (dk DX6_readsPulse_1k 3 rfl) ?_
              refine zz_put hC F_X6_84 fc_X6 rfl (tyX6_ok 7 (by decide)) 0 (ws' := [(m0, .inr (6, [.ref m1, .ref m2, .ref m3, .int (zI ((sv : Nat) : Int)), .int (zI rf), .ref m4, .int (zI ((len : Nat) : Int)), .int (zI (((zNe tb len (sp + 1)) + 1 : Nat) : Int)), .int (zI u6), .int (zI 2), .int (zI u6), .int (zI ra), .ref m5, .ref m6, .int (zI bm), .ref m7, .ref m8, .ref m9, .ref m10, .long (zL ha)])), (m1, iA D 771 NW), (m2, iA D 3084 PA), (m3, iA D 771 AS), (m4, iA D 150 tb), (m5, iA D 250 st), (m6, iA D 250 bo), (m7, iA D 250 sh), (m8, iA D 36 f1), (m9, iA D 36 f2), (m10, iA D 2778 pk)]) rfl rfl rfl (Nat.le_of_ble_eq_true rfl) rfl (dk DX6_readsPulse_1k 4 rfl) ?_
              refine zz_aload_n hC 0 (dk DX6_readsPulse_1k 5 rfl) rfl rfl ?_
              refine zz_get hC F_X6_84 0 rfl rfl (dk DX6_readsPulse_1k 6 rfl) ?_
              refine zz_istore_n hC (ls' := [(0, .ref m0), (1, .int (zI (zB (45 ≤ zNx tb len ((zNe tb len (sp + 1))) ∧ zNx tb len ((zNe tb len (sp + 1))) ≤ 45)))), (2, .int (zI (((zNe tb len (sp + 1)) + 1 : Nat) : Int)))]) [1, 2, 0] (dk DX6_readsPulse_1k 7 rfl) rfl (by decide) rfl ?_
              refine zz_aload_n hC 0 (dk DX6_readsPulse_1k 8 rfl) rfl rfl ?_
              refine zz_callVi hC (wr := []) (c_X6_reads l D m0 m1 m2 m3 m4 m5 m6 m7 m8 m9 m10 NW PA AS tb st bo sh f1 f2 pk sv len ((zNe tb len (sp + 1)) + 1) rf u6 2 u6 ra bm ha n w K T U S F L hlen hbt (by omega)) G_X6_97 H_X6_reads ⟨Nat.le_of_ble_eq_true rfl, Nat.le_of_ble_eq_true rfl⟩ rfl [0, 1, 2, 3, 4, 5, 6, 7, 8, 9, 10] [] rfl rfl ⟨rfl, rfl, by decide⟩ 0 6 ⟨rfl, rfl, rfl⟩ (As := []) (rest := []) (Nat.le_of_ble_eq_true rfl) rfl ⟨Nat.le_of_ble_eq_true rfl, Nat.le_of_ble_eq_true rfl⟩ (dk DX6_readsPulse_1k 9 rfl) ⟨rfl, rfl⟩ (wb := fun u9 => [(m0, .inr (6, [.ref m1, .ref m2, .ref m3, .int (zI ((sv : Nat) : Int)), .int (zI rf), .ref m4, .int (zI ((len : Nat) : Int)), .int (zI (((zNe tb len ((zNe tb len (sp + 1)) + 1)) : Nat) : Int)), .int (zI u9), .int (zI 2), .int (zI u6), .int (zI ra), .ref m5, .ref m6, .int (zI bm), .ref m7, .ref m8, .ref m9, .ref m10, .long (zL ha)])), (m1, iA D 771 NW), (m2, iA D 3084 PA), (m3, iA D 771 AS), (m4, iA D 150 tb), (m5, iA D 250 st), (m6, iA D 250 bo), (m7, iA D 250 sh), (m8, iA D 36 f1), (m9, iA D 36 f2), (m10, iA D 2778 pk)]) [0, 1, 2, 3, 4, 5, 6, 7, 8, 9, 10] rfl (fun _ => rfl) (fun u9 hu9 => ?_)
              have hne2 := zNe_in (tb := tb) (len := len) (q := (zNe tb len (sp + 1) + 1))
              refine zz_ifb_ne hC 137 (dk DX6_readsPulse_1k 10 rfl) (by decide) (fun c10 => ?_) (fun c10 => ?_)
              · have hv2 := hu9 (show zOkN tb len (zNe tb len (sp + 1) + 1) by assumption).1
                have hl2 := zNe_len (show zOkN tb len (zNe tb len (sp + 1) + 1) by assumption).1
                have hvr := zNv_in (show zOkN tb len (zNe tb len (sp + 1) + 1) by assumption).1
                refine zz_aload_n hC 0 (dk DX6_readsPulse_1k 13 rfl) rfl rfl ?_
                refine zz_get hC F_X6_87 0 rfl rfl (dk DX6_readsPulse_1k 14 rfl) ?_
                refine zz_sipush hC (dk DX6_readsPulse_1k 15 rfl) (by decide) ?_
                refine zz_icmp_le hC 154 (dk DX6_readsPulse_1k 16 rfl) (by decide) ⟨⟨by omega, by omega⟩, (by decide)⟩ (fun c11 => ?_) (fun c11 => ?_)
                · refine zz_aload_n hC 0 (dk DX6_readsPulse_1k 22 rfl) rfl rfl ?_
                  refine zz_iload_n hC 1 (dk DX6_readsPulse_1k 23 rfl) rfl rfl ?_
                  refine zz_ifb_eq hC 167 (dk DX6_readsPulse_1k 24 rfl) (by decide) (fun c12 => ?_) (fun c12 => ?_)
                  · refine zz_aload_n hC 0 (dk DX6_readsPulse_1k 29 rfl) rfl rfl ?_
                    refine zz_get hC F_X6_87 0 rfl rfl (dk DX6_readsPulse_1k 30 rfl) ?_
                    refine zz_put hC F_X6_104 fc_X6 rfl (tyX6_ok 11 (by decide)) 0 (ws' := [(m0, .inr (6, [.ref m1, .ref m2, .ref m3, .int (zI ((sv : Nat) : Int)), .int (zI rf), .ref m4, .int (zI ((len : Nat) : Int)), .int (zI (((zNe tb len ((zNe tb len (sp + 1)) + 1)) : Nat) : Int)), .int (zI u9), .int (zI 2), .int (zI u6), .int (zI u9), .ref m5, .ref m6, .int (zI bm), .ref m7, .ref m8, .ref m9, .ref m10, .long (zL ha)])), (m1, iA D 771 NW), (m2, iA D 3084 PA), (m3, iA D 771 AS), (m4, iA D 150 tb), (m5, iA D 250 st), (m6, iA D 250 bo), (m7, iA D 250 sh), (m8, iA D 36 f1), (m9, iA D 36 f2), (m10, iA D 2778 pk)]) rfl rfl rfl (Nat.le_of_ble_eq_true rfl) rfl (dk DX6_readsPulse_1k 31 rfl) ?_
                    have hpe7 := pe_7 hk9 (by assumption) hsg (by assumption) (by omega)
                    have hpa : u9 = zPa tb len sp := pa_v (by omega)
                    have hpk : 2 = zPk0 tb len sp := pk0_v (by omega)
                    refine zz_aload_n hC 0 (dk DX6_readsPulse_1k 32 rfl) rfl rfl ?_
                    refine zz_bipush hC (dk DX6_readsPulse_1k 33 rfl) (by decide) ?_
                    refine zz_callVi hC (wr := []) (c_X6_passes l D m0 m1 m2 m3 m4 m5 m6 m7 m8 m9 m10 NW PA AS tb st bo sh f1 f2 pk sv len ((zNe tb len ((zNe tb len (sp + 1)) + 1))) rf u9 2 u6 u9 bm ha n w K T U S F L 59 hlen hbt (by omega) (by omega)) G_X6_107 H_X6_passes ⟨Nat.le_of_ble_eq_true rfl, Nat.le_of_ble_eq_true rfl⟩ rfl [0, 1, 2, 3, 4, 5, 6, 7, 8, 9, 10] [] rfl rfl ⟨rfl, rfl, by decide⟩ 0 6 ⟨rfl, rfl, rfl⟩ (As := [.int (zI 59)]) (rest := []) (Nat.le_of_ble_eq_true rfl) rfl ⟨Nat.le_of_ble_eq_true rfl, Nat.le_of_ble_eq_true rfl⟩ (dk DX6_readsPulse_1k 34 rfl) ⟨rfl, rfl⟩ (wb := fun u13 => [(m0, .inr (6, [.ref m1, .ref m2, .ref m3, .int (zI ((sv : Nat) : Int)), .int (zI rf), .ref m4, .int (zI ((len : Nat) : Int)), .int (zI ((u13 : Nat) : Int)), .int (zI u9), .int (zI 2), .int (zI u6), .int (zI u9), .ref m5, .ref m6, .int (zI bm), .ref m7, .ref m8, .ref m9, .ref m10, .long (zL ha)])), (m1, iA D 771 NW), (m2, iA D 3084 PA), (m3, iA D 771 AS), (m4, iA D 150 tb), (m5, iA D 250 st), (m6, iA D 250 bo), (m7, iA D 250 sh), (m8, iA D 36 f1), (m9, iA D 36 f2), (m10, iA D 2778 pk)]) [0, 1, 2, 3, 4, 5, 6, 7, 8, 9, 10] rfl (fun _ => rfl) (fun u13 hu13 => ?_)
                    exact zz_zret hC hQ hr (u13, u9, 2, u6, u9) (by by_cases e : zNx tb len (zNe tb len (zNe tb len (sp + 1) + 1)) = 59; exact rr_y (by rw [hpe7, if_neg (fun g => g e)]) (hu13.1 e) hpk hv1 hpa; exact rr_n (by rw [hpe7, if_pos e, hu13.2 e])) (by by_cases e : zNx tb len (zNe tb len (zNe tb len (sp + 1) + 1)) = 59; rw [zB_t (show 59 ≤ zNx tb len (zNe tb len (zNe tb len (sp + 1) + 1)) ∧ zNx tb len (zNe tb len (zNe tb len (sp + 1) + 1)) ≤ 59 by omega), zB_t (by rw [hpe7, if_neg (fun g => g e)])]; rw [zB_f (show ¬ (59 ≤ zNx tb len (zNe tb len (zNe tb len (sp + 1) + 1)) ∧ zNx tb len (zNe tb len (zNe tb len (sp + 1) + 1)) ≤ 59) by omega), zB_f (by rw [hpe7, if_pos e]; omega)]) (zB_01) [0, 1, 2, 3, 4, 5, 6, 7, 8, 9, 10] rfl rfl ⟨Nat.le_refl _, Nat.le_refl _⟩ (dk DX6_readsPulse_1k 35 rfl)
                  · refine zz_aload_n hC 0 (dk DX6_readsPulse_1k 25 rfl) rfl rfl ?_
                    refine zz_get hC F_X6_87 0 rfl rfl (dk DX6_readsPulse_1k 26 rfl) ?_
                    refine zz_ineg hC (dk DX6_readsPulse_1k 27 rfl) ?_
                    refine zz_goto hC 171 (dk DX6_readsPulse_1k 28 rfl) (by decide) ?_
                    refine zz_put hC F_X6_104 fc_X6 rfl (tyX6_ok 11 (by decide)) 0 (ws' := [(m0, .inr (6, [.ref m1, .ref m2, .ref m3, .int (zI ((sv : Nat) : Int)), .int (zI rf), .ref m4, .int (zI ((len : Nat) : Int)), .int (zI (((zNe tb len ((zNe tb len (sp + 1)) + 1)) : Nat) : Int)), .int (zI u9), .int (zI 2), .int (zI u6), .int (zI (-u9)), .ref m5, .ref m6, .int (zI bm), .ref m7, .ref m8, .ref m9, .ref m10, .long (zL ha)])), (m1, iA D 771 NW), (m2, iA D 3084 PA), (m3, iA D 771 AS), (m4, iA D 150 tb), (m5, iA D 250 st), (m6, iA D 250 bo), (m7, iA D 250 sh), (m8, iA D 36 f1), (m9, iA D 36 f2), (m10, iA D 2778 pk)]) rfl rfl rfl (Nat.le_of_ble_eq_true rfl) rfl (dk DX6_readsPulse_1k 31 rfl) ?_
                    have hpe7 := pe_7 hk9 (by assumption) hsg (by assumption) (by omega)
                    have hpa : (-u9) = zPa tb len sp := pa_v (by omega)
                    have hpk : 2 = zPk0 tb len sp := pk0_v (by omega)
                    refine zz_aload_n hC 0 (dk DX6_readsPulse_1k 32 rfl) rfl rfl ?_
                    refine zz_bipush hC (dk DX6_readsPulse_1k 33 rfl) (by decide) ?_
                    refine zz_callVi hC (wr := []) (c_X6_passes l D m0 m1 m2 m3 m4 m5 m6 m7 m8 m9 m10 NW PA AS tb st bo sh f1 f2 pk sv len ((zNe tb len ((zNe tb len (sp + 1)) + 1))) rf u9 2 u6 (-u9) bm ha n w K T U S F L 59 hlen hbt (by omega) (by omega)) G_X6_107 H_X6_passes ⟨Nat.le_of_ble_eq_true rfl, Nat.le_of_ble_eq_true rfl⟩ rfl [0, 1, 2, 3, 4, 5, 6, 7, 8, 9, 10] [] rfl rfl ⟨rfl, rfl, by decide⟩ 0 6 ⟨rfl, rfl, rfl⟩ (As := [.int (zI 59)]) (rest := []) (Nat.le_of_ble_eq_true rfl) rfl ⟨Nat.le_of_ble_eq_true rfl, Nat.le_of_ble_eq_true rfl⟩ (dk DX6_readsPulse_1k 34 rfl) ⟨rfl, rfl⟩ (wb := fun u14 => [(m0, .inr (6, [.ref m1, .ref m2, .ref m3, .int (zI ((sv : Nat) : Int)), .int (zI rf), .ref m4, .int (zI ((len : Nat) : Int)), .int (zI ((u14 : Nat) : Int)), .int (zI u9), .int (zI 2), .int (zI u6), .int (zI (-u9)), .ref m5, .ref m6, .int (zI bm), .ref m7, .ref m8, .ref m9, .ref m10, .long (zL ha)])), (m1, iA D 771 NW), (m2, iA D 3084 PA), (m3, iA D 771 AS), (m4, iA D 150 tb), (m5, iA D 250 st), (m6, iA D 250 bo), (m7, iA D 250 sh), (m8, iA D 36 f1), (m9, iA D 36 f2), (m10, iA D 2778 pk)]) [0, 1, 2, 3, 4, 5, 6, 7, 8, 9, 10] rfl (fun _ => rfl) (fun u14 hu14 => ?_)
                    exact zz_zret hC hQ hr (u14, u9, 2, u6, (-u9)) (by by_cases e : zNx tb len (zNe tb len (zNe tb len (sp + 1) + 1)) = 59; exact rr_y (by rw [hpe7, if_neg (fun g => g e)]) (hu14.1 e) hpk hv1 hpa; exact rr_n (by rw [hpe7, if_pos e, hu14.2 e])) (by by_cases e : zNx tb len (zNe tb len (zNe tb len (sp + 1) + 1)) = 59; rw [zB_t (show 59 ≤ zNx tb len (zNe tb len (zNe tb len (sp + 1) + 1)) ∧ zNx tb len (zNe tb len (zNe tb len (sp + 1) + 1)) ≤ 59 by omega), zB_t (by rw [hpe7, if_neg (fun g => g e)])]; rw [zB_f (show ¬ (59 ≤ zNx tb len (zNe tb len (zNe tb len (sp + 1) + 1)) ∧ zNx tb len (zNe tb len (zNe tb len (sp + 1) + 1)) ≤ 59) by omega), zB_f (by rw [hpe7, if_pos e]; omega)]) (zB_01) [0, 1, 2, 3, 4, 5, 6, 7, 8, 9, 10] rfl rfl ⟨Nat.le_refl _, Nat.le_refl _⟩ (dk DX6_readsPulse_1k 35 rfl)
                · refine zz_aload_n hC 0 (dk DX6_readsPulse_1k 17 rfl) rfl rfl ?_
                  refine zz_iload_n hC 2 (dk DX6_readsPulse_1k 18 rfl) rfl rfl ?_
                  refine zz_put hC F_X6_84 fc_X6 rfl (tyX6_ok 7 (by decide)) 0 (ws' := [(m0, .inr (6, [.ref m1, .ref m2, .ref m3, .int (zI ((sv : Nat) : Int)), .int (zI rf), .ref m4, .int (zI ((len : Nat) : Int)), .int (zI (((zNe tb len (sp + 1)) + 1 : Nat) : Int)), .int (zI u9), .int (zI 2), .int (zI u6), .int (zI ra), .ref m5, .ref m6, .int (zI bm), .ref m7, .ref m8, .ref m9, .ref m10, .long (zL ha)])), (m1, iA D 771 NW), (m2, iA D 3084 PA), (m3, iA D 771 AS), (m4, iA D 150 tb), (m5, iA D 250 st), (m6, iA D 250 bo), (m7, iA D 250 sh), (m8, iA D 36 f1), (m9, iA D 36 f2), (m10, iA D 2778 pk)]) rfl rfl rfl (Nat.le_of_ble_eq_true rfl) rfl (dk DX6_readsPulse_1k 19 rfl) ?_
                  refine zz_iconst hC (dk DX6_readsPulse_1k 20 rfl) ?_
                  have hpe := pe_6 hk9 (by assumption) hsg (by assumption) (by omega)
                  exact zz_zret hC hQ hr (((zNe tb len (sp + 1)) + 1), u9, 2, u6, ra) (rr_n hpe) (zB_f (by rw [hpe]; omega)).symm (by decide) [0, 1, 2, 3, 4, 5, 6, 7, 8, 9, 10] rfl rfl ⟨Nat.le_refl _, Nat.le_refl _⟩ (dk DX6_readsPulse_1k 21 rfl)
              · refine zz_iconst hC (dk DX6_readsPulse_1k 11 rfl) ?_
                have hpe := pe_5 hk9 (by assumption) hsg (by assumption)
                exact zz_zret hC hQ hr (((zNe tb len ((zNe tb len (sp + 1)) + 1))), u9, 2, u6, ra) (rr_n hpe) (zB_f (by rw [hpe]; omega)).symm (by decide) [0, 1, 2, 3, 4, 5, 6, 7, 8, 9, 10] rfl rfl ⟨Nat.le_refl _, Nat.le_refl _⟩ (dk DX6_readsPulse_1k 12 rfl)
            · refine zz_aload_n hC 0 (dk DX6_readsPulse_0k 52 rfl) rfl rfl ?_
              refine zz_bipush hC (dk DX6_readsPulse_0k 53 rfl) (by decide) ?_
              refine zz_bipush hC (dk DX6_readsPulse_0k 54 rfl) (by decide) ?_
              refine zz_pureVi hC (c_X6_isAt l D m0 m1 m2 m3 m4 m5 m6 m7 m8 m9 m10 NW PA AS tb st bo sh f1 f2 pk sv len ((zNe tb len (sp + 1))) rf u6 2 u6 ra bm ha n w K T U S F L 43 43 hlen hbt (by omega) (by omega)) G_X6_90 H_X6_isAt ⟨Nat.le_of_ble_eq_true rfl, Nat.le_of_ble_eq_true rfl⟩ rfl [0, 1, 2, 3, 4, 5, 6, 7, 8, 9, 10] rfl rfl 0 6 ⟨rfl, rfl, rfl⟩ (As := [.int (zI 43), .int (zI 43)]) (rest := []) (Nat.le_of_ble_eq_true rfl) rfl ⟨Nat.le_of_ble_eq_true rfl, Nat.le_of_ble_eq_true rfl⟩ (dk DX6_readsPulse_0k 55 rfl) ⟨rfl, rfl⟩ ?_
              refine zz_ifb_ne hC 113 (dk DX6_readsPulse_0k 56 rfl) (by decide) (fun c15 => ?_) (fun c15 => ?_)
              · have hsg : zNx tb len (zNe tb len (sp + 1)) = 43 ∨ zNx tb len (zNe tb len (sp + 1)) = 45 := by omega
                refine zz_aload_n hC 0 (dk DX6_readsPulse_0k 59 rfl) rfl rfl ?_
                refine zz_dup hC (dk DX6_readsPulse_1k 0 rfl) rfl ?_
                refine zz_get hC F_X6_84 0 rfl rfl (dk DX6_readsPulse_1k 1 rfl) ?_
                refine zz_iconst hC (dk DX6_readsPulse_1k 2 rfl) ?_
                refine zz_iadd hC (dk DX6_readsPulse_1k 3 rfl) ?_
                refine zz_put hC F_X6_84 fc_X6 rfl (tyX6_ok 7 (by decide)) 0 (ws' := [(m0, .inr (6, [.ref m1, .ref m2, .ref m3, .int (zI ((sv : Nat) : Int)), .int (zI rf), .ref m4, .int (zI ((len : Nat) : Int)), .int (zI (((zNe tb len (sp + 1)) + 1 : Nat) : Int)), .int (zI u6), .int (zI 2), .int (zI u6), .int (zI ra), .ref m5, .ref m6, .int (zI bm), .ref m7, .ref m8, .ref m9, .ref m10, .long (zL ha)])), (m1, iA D 771 NW), (m2, iA D 3084 PA), (m3, iA D 771 AS), (m4, iA D 150 tb), (m5, iA D 250 st), (m6, iA D 250 bo), (m7, iA D 250 sh), (m8, iA D 36 f1), (m9, iA D 36 f2), (m10, iA D 2778 pk)]) rfl rfl rfl (Nat.le_of_ble_eq_true rfl) rfl (dk DX6_readsPulse_1k 4 rfl) ?_
                refine zz_aload_n hC 0 (dk DX6_readsPulse_1k 5 rfl) rfl rfl ?_
                refine zz_get hC F_X6_84 0 rfl rfl (dk DX6_readsPulse_1k 6 rfl) ?_
                refine zz_istore_n hC (ls' := [(0, .ref m0), (1, .int (zI (zB (45 ≤ zNx tb len ((zNe tb len (sp + 1))) ∧ zNx tb len ((zNe tb len (sp + 1))) ≤ 45)))), (2, .int (zI (((zNe tb len (sp + 1)) + 1 : Nat) : Int)))]) [1, 2, 0] (dk DX6_readsPulse_1k 7 rfl) rfl (by decide) rfl ?_
                refine zz_aload_n hC 0 (dk DX6_readsPulse_1k 8 rfl) rfl rfl ?_
                refine zz_callVi hC (wr := []) (c_X6_reads l D m0 m1 m2 m3 m4 m5 m6 m7 m8 m9 m10 NW PA AS tb st bo sh f1 f2 pk sv len ((zNe tb len (sp + 1)) + 1) rf u6 2 u6 ra bm ha n w K T U S F L hlen hbt (by omega)) G_X6_97 H_X6_reads ⟨Nat.le_of_ble_eq_true rfl, Nat.le_of_ble_eq_true rfl⟩ rfl [0, 1, 2, 3, 4, 5, 6, 7, 8, 9, 10] [] rfl rfl ⟨rfl, rfl, by decide⟩ 0 6 ⟨rfl, rfl, rfl⟩ (As := []) (rest := []) (Nat.le_of_ble_eq_true rfl) rfl ⟨Nat.le_of_ble_eq_true rfl, Nat.le_of_ble_eq_true rfl⟩ (dk DX6_readsPulse_1k 9 rfl) ⟨rfl, rfl⟩ (wb := fun u16 => [(m0, .inr (6, [.ref m1, .ref m2, .ref m3, .int (zI ((sv : Nat) : Int)), .int (zI rf), .ref m4, .int (zI ((len : Nat) : Int)), .int (zI (((zNe tb len ((zNe tb len (sp + 1)) + 1)) : Nat) : Int)), .int (zI u16), .int (zI 2), .int (zI u6), .int (zI ra), .ref m5, .ref m6, .int (zI bm), .ref m7, .ref m8, .ref m9, .ref m10, .long (zL ha)])), (m1, iA D 771 NW), (m2, iA D 3084 PA), (m3, iA D 771 AS), (m4, iA D 150 tb), (m5, iA D 250 st), (m6, iA D 250 bo), (m7, iA D 250 sh), (m8, iA D 36 f1), (m9, iA D 36 f2), (m10, iA D 2778 pk)]) [0, 1, 2, 3, 4, 5, 6, 7, 8, 9, 10] rfl (fun _ => rfl) (fun u16 hu16 => ?_)
                have hne2 := zNe_in (tb := tb) (len := len) (q := (zNe tb len (sp + 1) + 1))
                refine zz_ifb_ne hC 137 (dk DX6_readsPulse_1k 10 rfl) (by decide) (fun c17 => ?_) (fun c17 => ?_)
                · have hv2 := hu16 (show zOkN tb len (zNe tb len (sp + 1) + 1) by assumption).1
                  have hl2 := zNe_len (show zOkN tb len (zNe tb len (sp + 1) + 1) by assumption).1
                  have hvr := zNv_in (show zOkN tb len (zNe tb len (sp + 1) + 1) by assumption).1
                  refine zz_aload_n hC 0 (dk DX6_readsPulse_1k 13 rfl) rfl rfl ?_
                  refine zz_get hC F_X6_87 0 rfl rfl (dk DX6_readsPulse_1k 14 rfl) ?_
                  refine zz_sipush hC (dk DX6_readsPulse_1k 15 rfl) (by decide) ?_
                  refine zz_icmp_le hC 154 (dk DX6_readsPulse_1k 16 rfl) (by decide) ⟨⟨by omega, by omega⟩, (by decide)⟩ (fun c18 => ?_) (fun c18 => ?_)
                  · refine zz_aload_n hC 0 (dk DX6_readsPulse_1k 22 rfl) rfl rfl ?_
                    refine zz_iload_n hC 1 (dk DX6_readsPulse_1k 23 rfl) rfl rfl ?_
                    refine zz_ifb_eq hC 167 (dk DX6_readsPulse_1k 24 rfl) (by decide) (fun c19 => ?_) (fun c19 => ?_)
                    · refine zz_aload_n hC 0 (dk DX6_readsPulse_1k 29 rfl) rfl rfl ?_
                      refine zz_get hC F_X6_87 0 rfl rfl (dk DX6_readsPulse_1k 30 rfl) ?_
                      refine zz_put hC F_X6_104 fc_X6 rfl (tyX6_ok 11 (by decide)) 0 (ws' := [(m0, .inr (6, [.ref m1, .ref m2, .ref m3, .int (zI ((sv : Nat) : Int)), .int (zI rf), .ref m4, .int (zI ((len : Nat) : Int)), .int (zI (((zNe tb len ((zNe tb len (sp + 1)) + 1)) : Nat) : Int)), .int (zI u16), .int (zI 2), .int (zI u6), .int (zI u16), .ref m5, .ref m6, .int (zI bm), .ref m7, .ref m8, .ref m9, .ref m10, .long (zL ha)])), (m1, iA D 771 NW), (m2, iA D 3084 PA), (m3, iA D 771 AS), (m4, iA D 150 tb), (m5, iA D 250 st), (m6, iA D 250 bo), (m7, iA D 250 sh), (m8, iA D 36 f1), (m9, iA D 36 f2), (m10, iA D 2778 pk)]) rfl rfl rfl (Nat.le_of_ble_eq_true rfl) rfl (dk DX6_readsPulse_1k 31 rfl) ?_
                      have hpe7 := pe_7 hk9 (by assumption) hsg (by assumption) (by omega)
                      have hpa : u16 = zPa tb len sp := pa_v (by omega)
                      have hpk : 2 = zPk0 tb len sp := pk0_v (by omega)
                      refine zz_aload_n hC 0 (dk DX6_readsPulse_1k 32 rfl) rfl rfl ?_
                      refine zz_bipush hC (dk DX6_readsPulse_1k 33 rfl) (by decide) ?_
                      refine zz_callVi hC (wr := []) (c_X6_passes l D m0 m1 m2 m3 m4 m5 m6 m7 m8 m9 m10 NW PA AS tb st bo sh f1 f2 pk sv len ((zNe tb len ((zNe tb len (sp + 1)) + 1))) rf u16 2 u6 u16 bm ha n w K T U S F L 59 hlen hbt (by omega) (by omega)) G_X6_107 H_X6_passes ⟨Nat.le_of_ble_eq_true rfl, Nat.le_of_ble_eq_true rfl⟩ rfl [0, 1, 2, 3, 4, 5, 6, 7, 8, 9, 10] [] rfl rfl ⟨rfl, rfl, by decide⟩ 0 6 ⟨rfl, rfl, rfl⟩ (As := [.int (zI 59)]) (rest := []) (Nat.le_of_ble_eq_true rfl) rfl ⟨Nat.le_of_ble_eq_true rfl, Nat.le_of_ble_eq_true rfl⟩ (dk DX6_readsPulse_1k 34 rfl) ⟨rfl, rfl⟩ (wb := fun u20 => [(m0, .inr (6, [.ref m1, .ref m2, .ref m3, .int (zI ((sv : Nat) : Int)), .int (zI rf), .ref m4, .int (zI ((len : Nat) : Int)), .int (zI ((u20 : Nat) : Int)), .int (zI u16), .int (zI 2), .int (zI u6), .int (zI u16), .ref m5, .ref m6, .int (zI bm), .ref m7, .ref m8, .ref m9, .ref m10, .long (zL ha)])), (m1, iA D 771 NW), (m2, iA D 3084 PA), (m3, iA D 771 AS), (m4, iA D 150 tb), (m5, iA D 250 st), (m6, iA D 250 bo), (m7, iA D 250 sh), (m8, iA D 36 f1), (m9, iA D 36 f2), (m10, iA D 2778 pk)]) [0, 1, 2, 3, 4, 5, 6, 7, 8, 9, 10] rfl (fun _ => rfl) (fun u20 hu20 => ?_)
                      exact zz_zret hC hQ hr (u20, u16, 2, u6, u16) (by by_cases e : zNx tb len (zNe tb len (zNe tb len (sp + 1) + 1)) = 59; exact rr_y (by rw [hpe7, if_neg (fun g => g e)]) (hu20.1 e) hpk hv1 hpa; exact rr_n (by rw [hpe7, if_pos e, hu20.2 e])) (by by_cases e : zNx tb len (zNe tb len (zNe tb len (sp + 1) + 1)) = 59; rw [zB_t (show 59 ≤ zNx tb len (zNe tb len (zNe tb len (sp + 1) + 1)) ∧ zNx tb len (zNe tb len (zNe tb len (sp + 1) + 1)) ≤ 59 by omega), zB_t (by rw [hpe7, if_neg (fun g => g e)])]; rw [zB_f (show ¬ (59 ≤ zNx tb len (zNe tb len (zNe tb len (sp + 1) + 1)) ∧ zNx tb len (zNe tb len (zNe tb len (sp + 1) + 1)) ≤ 59) by omega), zB_f (by rw [hpe7, if_pos e]; omega)]) (zB_01) [0, 1, 2, 3, 4, 5, 6, 7, 8, 9, 10] rfl rfl ⟨Nat.le_refl _, Nat.le_refl _⟩ (dk DX6_readsPulse_1k 35 rfl)
                    · refine zz_aload_n hC 0 (dk DX6_readsPulse_1k 25 rfl) rfl rfl ?_
                      refine zz_get hC F_X6_87 0 rfl rfl (dk DX6_readsPulse_1k 26 rfl) ?_
                      refine zz_ineg hC (dk DX6_readsPulse_1k 27 rfl) ?_
                      refine zz_goto hC 171 (dk DX6_readsPulse_1k 28 rfl) (by decide) ?_
                      refine zz_put hC F_X6_104 fc_X6 rfl (tyX6_ok 11 (by decide)) 0 (ws' := [(m0, .inr (6, [.ref m1, .ref m2, .ref m3, .int (zI ((sv : Nat) : Int)), .int (zI rf), .ref m4, .int (zI ((len : Nat) : Int)), .int (zI (((zNe tb len ((zNe tb len (sp + 1)) + 1)) : Nat) : Int)), .int (zI u16), .int (zI 2), .int (zI u6), .int (zI (-u16)), .ref m5, .ref m6, .int (zI bm), .ref m7, .ref m8, .ref m9, .ref m10, .long (zL ha)])), (m1, iA D 771 NW), (m2, iA D 3084 PA), (m3, iA D 771 AS), (m4, iA D 150 tb), (m5, iA D 250 st), (m6, iA D 250 bo), (m7, iA D 250 sh), (m8, iA D 36 f1), (m9, iA D 36 f2), (m10, iA D 2778 pk)]) rfl rfl rfl (Nat.le_of_ble_eq_true rfl) rfl (dk DX6_readsPulse_1k 31 rfl) ?_
                      have hpe7 := pe_7 hk9 (by assumption) hsg (by assumption) (by omega)
                      have hpa : (-u16) = zPa tb len sp := pa_v (by omega)
                      have hpk : 2 = zPk0 tb len sp := pk0_v (by omega)
                      refine zz_aload_n hC 0 (dk DX6_readsPulse_1k 32 rfl) rfl rfl ?_
                      refine zz_bipush hC (dk DX6_readsPulse_1k 33 rfl) (by decide) ?_
                      refine zz_callVi hC (wr := []) (c_X6_passes l D m0 m1 m2 m3 m4 m5 m6 m7 m8 m9 m10 NW PA AS tb st bo sh f1 f2 pk sv len ((zNe tb len ((zNe tb len (sp + 1)) + 1))) rf u16 2 u6 (-u16) bm ha n w K T U S F L 59 hlen hbt (by omega) (by omega)) G_X6_107 H_X6_passes ⟨Nat.le_of_ble_eq_true rfl, Nat.le_of_ble_eq_true rfl⟩ rfl [0, 1, 2, 3, 4, 5, 6, 7, 8, 9, 10] [] rfl rfl ⟨rfl, rfl, by decide⟩ 0 6 ⟨rfl, rfl, rfl⟩ (As := [.int (zI 59)]) (rest := []) (Nat.le_of_ble_eq_true rfl) rfl ⟨Nat.le_of_ble_eq_true rfl, Nat.le_of_ble_eq_true rfl⟩ (dk DX6_readsPulse_1k 34 rfl) ⟨rfl, rfl⟩ (wb := fun u21 => [(m0, .inr (6, [.ref m1, .ref m2, .ref m3, .int (zI ((sv : Nat) : Int)), .int (zI rf), .ref m4, .int (zI ((len : Nat) : Int)), .int (zI ((u21 : Nat) : Int)), .int (zI u16), .int (zI 2), .int (zI u6), .int (zI (-u16)), .ref m5, .ref m6, .int (zI bm), .ref m7, .ref m8, .ref m9, .ref m10, .long (zL ha)])), (m1, iA D 771 NW), (m2, iA D 3084 PA), (m3, iA D 771 AS), (m4, iA D 150 tb), (m5, iA D 250 st), (m6, iA D 250 bo), (m7, iA D 250 sh), (m8, iA D 36 f1), (m9, iA D 36 f2), (m10, iA D 2778 pk)]) [0, 1, 2, 3, 4, 5, 6, 7, 8, 9, 10] rfl (fun _ => rfl) (fun u21 hu21 => ?_)
                      exact zz_zret hC hQ hr (u21, u16, 2, u6, (-u16)) (by by_cases e : zNx tb len (zNe tb len (zNe tb len (sp + 1) + 1)) = 59; exact rr_y (by rw [hpe7, if_neg (fun g => g e)]) (hu21.1 e) hpk hv1 hpa; exact rr_n (by rw [hpe7, if_pos e, hu21.2 e])) (by by_cases e : zNx tb len (zNe tb len (zNe tb len (sp + 1) + 1)) = 59; rw [zB_t (show 59 ≤ zNx tb len (zNe tb len (zNe tb len (sp + 1) + 1)) ∧ zNx tb len (zNe tb len (zNe tb len (sp + 1) + 1)) ≤ 59 by omega), zB_t (by rw [hpe7, if_neg (fun g => g e)])]; rw [zB_f (show ¬ (59 ≤ zNx tb len (zNe tb len (zNe tb len (sp + 1) + 1)) ∧ zNx tb len (zNe tb len (zNe tb len (sp + 1) + 1)) ≤ 59) by omega), zB_f (by rw [hpe7, if_pos e]; omega)]) (zB_01) [0, 1, 2, 3, 4, 5, 6, 7, 8, 9, 10] rfl rfl ⟨Nat.le_refl _, Nat.le_refl _⟩ (dk DX6_readsPulse_1k 35 rfl)
                  · refine zz_aload_n hC 0 (dk DX6_readsPulse_1k 17 rfl) rfl rfl ?_
                    refine zz_iload_n hC 2 (dk DX6_readsPulse_1k 18 rfl) rfl rfl ?_
                    refine zz_put hC F_X6_84 fc_X6 rfl (tyX6_ok 7 (by decide)) 0 (ws' := [(m0, .inr (6, [.ref m1, .ref m2, .ref m3, .int (zI ((sv : Nat) : Int)), .int (zI rf), .ref m4, .int (zI ((len : Nat) : Int)), .int (zI (((zNe tb len (sp + 1)) + 1 : Nat) : Int)), .int (zI u16), .int (zI 2), .int (zI u6), .int (zI ra), .ref m5, .ref m6, .int (zI bm), .ref m7, .ref m8, .ref m9, .ref m10, .long (zL ha)])), (m1, iA D 771 NW), (m2, iA D 3084 PA), (m3, iA D 771 AS), (m4, iA D 150 tb), (m5, iA D 250 st), (m6, iA D 250 bo), (m7, iA D 250 sh), (m8, iA D 36 f1), (m9, iA D 36 f2), (m10, iA D 2778 pk)]) rfl rfl rfl (Nat.le_of_ble_eq_true rfl) rfl (dk DX6_readsPulse_1k 19 rfl) ?_
                    refine zz_iconst hC (dk DX6_readsPulse_1k 20 rfl) ?_
                    have hpe := pe_6 hk9 (by assumption) hsg (by assumption) (by omega)
                    exact zz_zret hC hQ hr (((zNe tb len (sp + 1)) + 1), u16, 2, u6, ra) (rr_n hpe) (zB_f (by rw [hpe]; omega)).symm (by decide) [0, 1, 2, 3, 4, 5, 6, 7, 8, 9, 10] rfl rfl ⟨Nat.le_refl _, Nat.le_refl _⟩ (dk DX6_readsPulse_1k 21 rfl)
                · refine zz_iconst hC (dk DX6_readsPulse_1k 11 rfl) ?_
                  have hpe := pe_5 hk9 (by assumption) hsg (by assumption)
                  exact zz_zret hC hQ hr (((zNe tb len ((zNe tb len (sp + 1)) + 1))), u16, 2, u6, ra) (rr_n hpe) (zB_f (by rw [hpe]; omega)).symm (by decide) [0, 1, 2, 3, 4, 5, 6, 7, 8, 9, 10] rfl rfl ⟨Nat.le_refl _, Nat.le_refl _⟩ (dk DX6_readsPulse_1k 12 rfl)
              · refine zz_iconst hC (dk DX6_readsPulse_0k 57 rfl) ?_
                have hpe := pe_4 hk9 (by assumption) (by omega)
                exact zz_zret hC hQ hr (((zNe tb len (sp + 1))), u6, 2, u6, ra) (rr_n hpe) (zB_f (by rw [hpe]; omega)).symm (by decide) [0, 1, 2, 3, 4, 5, 6, 7, 8, 9, 10] rfl rfl ⟨Nat.le_refl _, Nat.le_refl _⟩ (dk DX6_readsPulse_0k 58 rfl)
          · refine zz_iconst hC (dk DX6_readsPulse_0k 39 rfl) ?_
            have hpe := pe_2 hk9 (by assumption)
            exact zz_zret hC hQ hr (((zNe tb len (sp + 1))), u6, 2, rt, ra) (rr_n hpe) (zB_f (by rw [hpe]; omega)).symm (by decide) [0, 1, 2, 3, 4, 5, 6, 7, 8, 9, 10] rfl rfl ⟨Nat.le_refl _, Nat.le_refl _⟩ (dk DX6_readsPulse_0k 40 rfl)
        · exfalso; omega
    · refine zz_iconst hC (dk DX6_readsPulse_0k 13 rfl) ?_
      refine zz_goto hC 47 (dk DX6_readsPulse_0k 14 rfl) (by decide) ?_
      refine zz_put hC F_X6_94 fc_X6 rfl (tyX6_ok 9 (by decide)) 0 (ws' := [(m0, .inr (6, [.ref m1, .ref m2, .ref m3, .int (zI ((sv : Nat) : Int)), .int (zI rf), .ref m4, .int (zI ((len : Nat) : Int)), .int (zI ((sp : Nat) : Int)), .int (zI nu), .int (zI 1), .int (zI rt), .int (zI ra), .ref m5, .ref m6, .int (zI bm), .ref m7, .ref m8, .ref m9, .ref m10, .long (zL ha)])), (m1, iA D 771 NW), (m2, iA D 3084 PA), (m3, iA D 771 AS), (m4, iA D 150 tb), (m5, iA D 250 st), (m6, iA D 250 bo), (m7, iA D 250 sh), (m8, iA D 36 f1), (m9, iA D 36 f2), (m10, iA D 2778 pk)]) rfl rfl rfl (Nat.le_of_ble_eq_true rfl) rfl (dk DX6_readsPulse_0k 23 rfl) ?_
      refine zz_aload_n hC 0 (dk DX6_readsPulse_0k 24 rfl) rfl rfl ?_
      refine zz_get hC F_X6_94 0 rfl rfl (dk DX6_readsPulse_0k 25 rfl) ?_
      refine zz_iconst hC (dk DX6_readsPulse_0k 26 rfl) ?_
      refine zz_icmp_ne hC 60 (dk DX6_readsPulse_0k 27 rfl) (by decide) ⟨(by decide), (by decide)⟩ (fun c22 => ?_) (fun c22 => ?_)
      · have hk9 : zNx tb len sp = 109 ∨ zNx tb len sp = 110 ∨ zNx tb len sp = 105 := by omega
        refine zz_aload_n hC 0 (dk DX6_readsPulse_0k 30 rfl) rfl rfl ?_
        refine zz_dup hC (dk DX6_readsPulse_0k 31 rfl) rfl ?_
        refine zz_get hC F_X6_84 0 rfl rfl (dk DX6_readsPulse_0k 32 rfl) ?_
        refine zz_iconst hC (dk DX6_readsPulse_0k 33 rfl) ?_
        refine zz_iadd hC (dk DX6_readsPulse_0k 34 rfl) ?_
        refine zz_put hC F_X6_84 fc_X6 rfl (tyX6_ok 7 (by decide)) 0 (ws' := [(m0, .inr (6, [.ref m1, .ref m2, .ref m3, .int (zI ((sv : Nat) : Int)), .int (zI rf), .ref m4, .int (zI ((len : Nat) : Int)), .int (zI ((sp + 1 : Nat) : Int)), .int (zI nu), .int (zI 1), .int (zI rt), .int (zI ra), .ref m5, .ref m6, .int (zI bm), .ref m7, .ref m8, .ref m9, .ref m10, .long (zL ha)])), (m1, iA D 771 NW), (m2, iA D 3084 PA), (m3, iA D 771 AS), (m4, iA D 150 tb), (m5, iA D 250 st), (m6, iA D 250 bo), (m7, iA D 250 sh), (m8, iA D 36 f1), (m9, iA D 36 f2), (m10, iA D 2778 pk)]) rfl rfl rfl (Nat.le_of_ble_eq_true rfl) rfl (dk DX6_readsPulse_0k 35 rfl) ?_
        refine zz_aload_n hC 0 (dk DX6_readsPulse_0k 36 rfl) rfl rfl ?_
        refine zz_callVi hC (wr := []) (c_X6_reads l D m0 m1 m2 m3 m4 m5 m6 m7 m8 m9 m10 NW PA AS tb st bo sh f1 f2 pk sv len (sp + 1) rf nu 1 rt ra bm ha n w K T U S F L hlen hbt (by omega)) G_X6_97 H_X6_reads ⟨Nat.le_of_ble_eq_true rfl, Nat.le_of_ble_eq_true rfl⟩ rfl [0, 1, 2, 3, 4, 5, 6, 7, 8, 9, 10] [] rfl rfl ⟨rfl, rfl, by decide⟩ 0 6 ⟨rfl, rfl, rfl⟩ (As := []) (rest := []) (Nat.le_of_ble_eq_true rfl) rfl ⟨Nat.le_of_ble_eq_true rfl, Nat.le_of_ble_eq_true rfl⟩ (dk DX6_readsPulse_0k 37 rfl) ⟨rfl, rfl⟩ (wb := fun u23 => [(m0, .inr (6, [.ref m1, .ref m2, .ref m3, .int (zI ((sv : Nat) : Int)), .int (zI rf), .ref m4, .int (zI ((len : Nat) : Int)), .int (zI (((zNe tb len (sp + 1)) : Nat) : Int)), .int (zI u23), .int (zI 1), .int (zI rt), .int (zI ra), .ref m5, .ref m6, .int (zI bm), .ref m7, .ref m8, .ref m9, .ref m10, .long (zL ha)])), (m1, iA D 771 NW), (m2, iA D 3084 PA), (m3, iA D 771 AS), (m4, iA D 150 tb), (m5, iA D 250 st), (m6, iA D 250 bo), (m7, iA D 250 sh), (m8, iA D 36 f1), (m9, iA D 36 f2), (m10, iA D 2778 pk)]) [0, 1, 2, 3, 4, 5, 6, 7, 8, 9, 10] rfl (fun _ => rfl) (fun u23 hu23 => ?_)
        have hne1 := zNe_in (tb := tb) (len := len) (q := sp + 1)
        refine zz_ifb_ne hC 79 (dk DX6_readsPulse_0k 38 rfl) (by decide) (fun c24 => ?_) (fun c24 => ?_)
        · have hv1 := hu23 (show zOkN tb len (sp + 1) by assumption).1
          have hl1 := zNe_len (show zOkN tb len (sp + 1) by assumption).1
          refine zz_aload_n hC 0 (dk DX6_readsPulse_0k 41 rfl) rfl rfl ?_
          refine zz_aload_n hC 0 (dk DX6_readsPulse_0k 42 rfl) rfl rfl ?_
          refine zz_get hC F_X6_87 0 rfl rfl (dk DX6_readsPulse_0k 43 rfl) ?_
          refine zz_put hC F_X6_101 fc_X6 rfl (tyX6_ok 10 (by decide)) 0 (ws' := [(m0, .inr (6, [.ref m1, .ref m2, .ref m3, .int (zI ((sv : Nat) : Int)), .int (zI rf), .ref m4, .int (zI ((len : Nat) : Int)), .int (zI (((zNe tb len (sp + 1)) : Nat) : Int)), .int (zI u23), .int (zI 1), .int (zI u23), .int (zI ra), .ref m5, .ref m6, .int (zI bm), .ref m7, .ref m8, .ref m9, .ref m10, .long (zL ha)])), (m1, iA D 771 NW), (m2, iA D 3084 PA), (m3, iA D 771 AS), (m4, iA D 150 tb), (m5, iA D 250 st), (m6, iA D 250 bo), (m7, iA D 250 sh), (m8, iA D 36 f1), (m9, iA D 36 f2), (m10, iA D 2778 pk)]) rfl rfl rfl (Nat.le_of_ble_eq_true rfl) rfl (dk DX6_readsPulse_0k 44 rfl) ?_
          refine zz_aload_n hC 0 (dk DX6_readsPulse_0k 45 rfl) rfl rfl ?_
          refine zz_bipush hC (dk DX6_readsPulse_0k 46 rfl) (by decide) ?_
          refine zz_bipush hC (dk DX6_readsPulse_0k 47 rfl) (by decide) ?_
          refine zz_pureVi hC (c_X6_isAt l D m0 m1 m2 m3 m4 m5 m6 m7 m8 m9 m10 NW PA AS tb st bo sh f1 f2 pk sv len ((zNe tb len (sp + 1))) rf u23 1 u23 ra bm ha n w K T U S F L 45 45 hlen hbt (by omega) (by omega)) G_X6_90 H_X6_isAt ⟨Nat.le_of_ble_eq_true rfl, Nat.le_of_ble_eq_true rfl⟩ rfl [0, 1, 2, 3, 4, 5, 6, 7, 8, 9, 10] rfl rfl 0 6 ⟨rfl, rfl, rfl⟩ (As := [.int (zI 45), .int (zI 45)]) (rest := []) (Nat.le_of_ble_eq_true rfl) rfl ⟨Nat.le_of_ble_eq_true rfl, Nat.le_of_ble_eq_true rfl⟩ (dk DX6_readsPulse_0k 48 rfl) ⟨rfl, rfl⟩ ?_
          refine zz_istore_n hC (ls' := [(0, .ref m0), (1, .int (zI (zB (45 ≤ zNx tb len ((zNe tb len (sp + 1))) ∧ zNx tb len ((zNe tb len (sp + 1))) ≤ 45))))]) [1, 0] (dk DX6_readsPulse_0k 49 rfl) rfl (by decide) rfl ?_
          refine zz_iload_n hC 1 (dk DX6_readsPulse_0k 50 rfl) rfl rfl ?_
          refine zz_ifb_ne hC 113 (dk DX6_readsPulse_0k 51 rfl) (by decide) (fun c25 => ?_) (fun c25 => ?_)
          · have hsg : zNx tb len (zNe tb len (sp + 1)) = 43 ∨ zNx tb len (zNe tb len (sp + 1)) = 45 := by omega
            refine zz_aload_n hC 0 (dk DX6_readsPulse_0k 59 rfl) rfl rfl ?_
            refine zz_dup hC (dk DX6_readsPulse_1k 0 rfl) rfl ?_
            refine zz_get hC F_X6_84 0 rfl rfl (dk DX6_readsPulse_1k 1 rfl) ?_
            refine zz_iconst hC (dk DX6_readsPulse_1k 2 rfl) ?_
            refine zz_iadd hC (dk DX6_readsPulse_1k 3 rfl) ?_
            refine zz_put hC F_X6_84 fc_X6 rfl (tyX6_ok 7 (by decide)) 0 (ws' := [(m0, .inr (6, [.ref m1, .ref m2, .ref m3, .int (zI ((sv : Nat) : Int)), .int (zI rf), .ref m4, .int (zI ((len : Nat) : Int)), .int (zI (((zNe tb len (sp + 1)) + 1 : Nat) : Int)), .int (zI u23), .int (zI 1), .int (zI u23), .int (zI ra), .ref m5, .ref m6, .int (zI bm), .ref m7, .ref m8, .ref m9, .ref m10, .long (zL ha)])), (m1, iA D 771 NW), (m2, iA D 3084 PA), (m3, iA D 771 AS), (m4, iA D 150 tb), (m5, iA D 250 st), (m6, iA D 250 bo), (m7, iA D 250 sh), (m8, iA D 36 f1), (m9, iA D 36 f2), (m10, iA D 2778 pk)]) rfl rfl rfl (Nat.le_of_ble_eq_true rfl) rfl (dk DX6_readsPulse_1k 4 rfl) ?_
            refine zz_aload_n hC 0 (dk DX6_readsPulse_1k 5 rfl) rfl rfl ?_
            refine zz_get hC F_X6_84 0 rfl rfl (dk DX6_readsPulse_1k 6 rfl) ?_
            refine zz_istore_n hC (ls' := [(0, .ref m0), (1, .int (zI (zB (45 ≤ zNx tb len ((zNe tb len (sp + 1))) ∧ zNx tb len ((zNe tb len (sp + 1))) ≤ 45)))), (2, .int (zI (((zNe tb len (sp + 1)) + 1 : Nat) : Int)))]) [1, 2, 0] (dk DX6_readsPulse_1k 7 rfl) rfl (by decide) rfl ?_
            refine zz_aload_n hC 0 (dk DX6_readsPulse_1k 8 rfl) rfl rfl ?_
            refine zz_callVi hC (wr := []) (c_X6_reads l D m0 m1 m2 m3 m4 m5 m6 m7 m8 m9 m10 NW PA AS tb st bo sh f1 f2 pk sv len ((zNe tb len (sp + 1)) + 1) rf u23 1 u23 ra bm ha n w K T U S F L hlen hbt (by omega)) G_X6_97 H_X6_reads ⟨Nat.le_of_ble_eq_true rfl, Nat.le_of_ble_eq_true rfl⟩ rfl [0, 1, 2, 3, 4, 5, 6, 7, 8, 9, 10] [] rfl rfl ⟨rfl, rfl, by decide⟩ 0 6 ⟨rfl, rfl, rfl⟩ (As := []) (rest := []) (Nat.le_of_ble_eq_true rfl) rfl ⟨Nat.le_of_ble_eq_true rfl, Nat.le_of_ble_eq_true rfl⟩ (dk DX6_readsPulse_1k 9 rfl) ⟨rfl, rfl⟩ (wb := fun u26 => [(m0, .inr (6, [.ref m1, .ref m2, .ref m3, .int (zI ((sv : Nat) : Int)), .int (zI rf), .ref m4, .int (zI ((len : Nat) : Int)), .int (zI (((zNe tb len ((zNe tb len (sp + 1)) + 1)) : Nat) : Int)), .int (zI u26), .int (zI 1), .int (zI u23), .int (zI ra), .ref m5, .ref m6, .int (zI bm), .ref m7, .ref m8, .ref m9, .ref m10, .long (zL ha)])), (m1, iA D 771 NW), (m2, iA D 3084 PA), (m3, iA D 771 AS), (m4, iA D 150 tb), (m5, iA D 250 st), (m6, iA D 250 bo), (m7, iA D 250 sh), (m8, iA D 36 f1), (m9, iA D 36 f2), (m10, iA D 2778 pk)]) [0, 1, 2, 3, 4, 5, 6, 7, 8, 9, 10] rfl (fun _ => rfl) (fun u26 hu26 => ?_)
            have hne2 := zNe_in (tb := tb) (len := len) (q := (zNe tb len (sp + 1) + 1))
            refine zz_ifb_ne hC 137 (dk DX6_readsPulse_1k 10 rfl) (by decide) (fun c27 => ?_) (fun c27 => ?_)
            · have hv2 := hu26 (show zOkN tb len (zNe tb len (sp + 1) + 1) by assumption).1
              have hl2 := zNe_len (show zOkN tb len (zNe tb len (sp + 1) + 1) by assumption).1
              have hvr := zNv_in (show zOkN tb len (zNe tb len (sp + 1) + 1) by assumption).1
              refine zz_aload_n hC 0 (dk DX6_readsPulse_1k 13 rfl) rfl rfl ?_
              refine zz_get hC F_X6_87 0 rfl rfl (dk DX6_readsPulse_1k 14 rfl) ?_
              refine zz_sipush hC (dk DX6_readsPulse_1k 15 rfl) (by decide) ?_
              refine zz_icmp_le hC 154 (dk DX6_readsPulse_1k 16 rfl) (by decide) ⟨⟨by omega, by omega⟩, (by decide)⟩ (fun c28 => ?_) (fun c28 => ?_)
              · refine zz_aload_n hC 0 (dk DX6_readsPulse_1k 22 rfl) rfl rfl ?_
                refine zz_iload_n hC 1 (dk DX6_readsPulse_1k 23 rfl) rfl rfl ?_
                refine zz_ifb_eq hC 167 (dk DX6_readsPulse_1k 24 rfl) (by decide) (fun c29 => ?_) (fun c29 => ?_)
                · refine zz_aload_n hC 0 (dk DX6_readsPulse_1k 29 rfl) rfl rfl ?_
                  refine zz_get hC F_X6_87 0 rfl rfl (dk DX6_readsPulse_1k 30 rfl) ?_
                  refine zz_put hC F_X6_104 fc_X6 rfl (tyX6_ok 11 (by decide)) 0 (ws' := [(m0, .inr (6, [.ref m1, .ref m2, .ref m3, .int (zI ((sv : Nat) : Int)), .int (zI rf), .ref m4, .int (zI ((len : Nat) : Int)), .int (zI (((zNe tb len ((zNe tb len (sp + 1)) + 1)) : Nat) : Int)), .int (zI u26), .int (zI 1), .int (zI u23), .int (zI u26), .ref m5, .ref m6, .int (zI bm), .ref m7, .ref m8, .ref m9, .ref m10, .long (zL ha)])), (m1, iA D 771 NW), (m2, iA D 3084 PA), (m3, iA D 771 AS), (m4, iA D 150 tb), (m5, iA D 250 st), (m6, iA D 250 bo), (m7, iA D 250 sh), (m8, iA D 36 f1), (m9, iA D 36 f2), (m10, iA D 2778 pk)]) rfl rfl rfl (Nat.le_of_ble_eq_true rfl) rfl (dk DX6_readsPulse_1k 31 rfl) ?_
                  have hpe7 := pe_7 hk9 (by assumption) hsg (by assumption) (by omega)
                  have hpa : u26 = zPa tb len sp := pa_v (by omega)
                  have hpk : 1 = zPk0 tb len sp := pk0_v (by omega)
                  refine zz_aload_n hC 0 (dk DX6_readsPulse_1k 32 rfl) rfl rfl ?_
                  refine zz_bipush hC (dk DX6_readsPulse_1k 33 rfl) (by decide) ?_
                  refine zz_callVi hC (wr := []) (c_X6_passes l D m0 m1 m2 m3 m4 m5 m6 m7 m8 m9 m10 NW PA AS tb st bo sh f1 f2 pk sv len ((zNe tb len ((zNe tb len (sp + 1)) + 1))) rf u26 1 u23 u26 bm ha n w K T U S F L 59 hlen hbt (by omega) (by omega)) G_X6_107 H_X6_passes ⟨Nat.le_of_ble_eq_true rfl, Nat.le_of_ble_eq_true rfl⟩ rfl [0, 1, 2, 3, 4, 5, 6, 7, 8, 9, 10] [] rfl rfl ⟨rfl, rfl, by decide⟩ 0 6 ⟨rfl, rfl, rfl⟩ (As := [.int (zI 59)]) (rest := []) (Nat.le_of_ble_eq_true rfl) rfl ⟨Nat.le_of_ble_eq_true rfl, Nat.le_of_ble_eq_true rfl⟩ (dk DX6_readsPulse_1k 34 rfl) ⟨rfl, rfl⟩ (wb := fun u30 => [(m0, .inr (6, [.ref m1, .ref m2, .ref m3, .int (zI ((sv : Nat) : Int)), .int (zI rf), .ref m4, .int (zI ((len : Nat) : Int)), .int (zI ((u30 : Nat) : Int)), .int (zI u26), .int (zI 1), .int (zI u23), .int (zI u26), .ref m5, .ref m6, .int (zI bm), .ref m7, .ref m8, .ref m9, .ref m10, .long (zL ha)])), (m1, iA D 771 NW), (m2, iA D 3084 PA), (m3, iA D 771 AS), (m4, iA D 150 tb), (m5, iA D 250 st), (m6, iA D 250 bo), (m7, iA D 250 sh), (m8, iA D 36 f1), (m9, iA D 36 f2), (m10, iA D 2778 pk)]) [0, 1, 2, 3, 4, 5, 6, 7, 8, 9, 10] rfl (fun _ => rfl) (fun u30 hu30 => ?_)
                  exact zz_zret hC hQ hr (u30, u26, 1, u23, u26) (by by_cases e : zNx tb len (zNe tb len (zNe tb len (sp + 1) + 1)) = 59; exact rr_y (by rw [hpe7, if_neg (fun g => g e)]) (hu30.1 e) hpk hv1 hpa; exact rr_n (by rw [hpe7, if_pos e, hu30.2 e])) (by by_cases e : zNx tb len (zNe tb len (zNe tb len (sp + 1) + 1)) = 59; rw [zB_t (show 59 ≤ zNx tb len (zNe tb len (zNe tb len (sp + 1) + 1)) ∧ zNx tb len (zNe tb len (zNe tb len (sp + 1) + 1)) ≤ 59 by omega), zB_t (by rw [hpe7, if_neg (fun g => g e)])]; rw [zB_f (show ¬ (59 ≤ zNx tb len (zNe tb len (zNe tb len (sp + 1) + 1)) ∧ zNx tb len (zNe tb len (zNe tb len (sp + 1) + 1)) ≤ 59) by omega), zB_f (by rw [hpe7, if_pos e]; omega)]) (zB_01) [0, 1, 2, 3, 4, 5, 6, 7, 8, 9, 10] rfl rfl ⟨Nat.le_refl _, Nat.le_refl _⟩ (dk DX6_readsPulse_1k 35 rfl)
                · refine zz_aload_n hC 0 (dk DX6_readsPulse_1k 25 rfl) rfl rfl ?_
                  refine zz_get hC F_X6_87 0 rfl rfl (dk DX6_readsPulse_1k 26 rfl) ?_
                  refine zz_ineg hC (dk DX6_readsPulse_1k 27 rfl) ?_
                  refine zz_goto hC 171 (dk DX6_readsPulse_1k 28 rfl) (by decide) ?_
                  refine zz_put hC F_X6_104 fc_X6 rfl (tyX6_ok 11 (by decide)) 0 (ws' := [(m0, .inr (6, [.ref m1, .ref m2, .ref m3, .int (zI ((sv : Nat) : Int)), .int (zI rf), .ref m4, .int (zI ((len : Nat) : Int)), .int (zI (((zNe tb len ((zNe tb len (sp + 1)) + 1)) : Nat) : Int)), .int (zI u26), .int (zI 1), .int (zI u23), .int (zI (-u26)), .ref m5, .ref m6, .int (zI bm), .ref m7, .ref m8, .ref m9, .ref m10, .long (zL ha)])), (m1, iA D 771 NW), (m2, iA D 3084 PA), (m3, iA D 771 AS), (m4, iA D 150 tb), (m5, iA D 250 st), (m6, iA D 250 bo), (m7, iA D 250 sh), (m8, iA D 36 f1), (m9, iA D 36 f2), (m10, iA D 2778 pk)]) rfl rfl rfl (Nat.le_of_ble_eq_true rfl) rfl (dk DX6_readsPulse_1k 31 rfl) ?_
                  have hpe7 := pe_7 hk9 (by assumption) hsg (by assumption) (by omega)
                  have hpa : (-u26) = zPa tb len sp := pa_v (by omega)
                  have hpk : 1 = zPk0 tb len sp := pk0_v (by omega)
                  refine zz_aload_n hC 0 (dk DX6_readsPulse_1k 32 rfl) rfl rfl ?_
                  refine zz_bipush hC (dk DX6_readsPulse_1k 33 rfl) (by decide) ?_
                  refine zz_callVi hC (wr := []) (c_X6_passes l D m0 m1 m2 m3 m4 m5 m6 m7 m8 m9 m10 NW PA AS tb st bo sh f1 f2 pk sv len ((zNe tb len ((zNe tb len (sp + 1)) + 1))) rf u26 1 u23 (-u26) bm ha n w K T U S F L 59 hlen hbt (by omega) (by omega)) G_X6_107 H_X6_passes ⟨Nat.le_of_ble_eq_true rfl, Nat.le_of_ble_eq_true rfl⟩ rfl [0, 1, 2, 3, 4, 5, 6, 7, 8, 9, 10] [] rfl rfl ⟨rfl, rfl, by decide⟩ 0 6 ⟨rfl, rfl, rfl⟩ (As := [.int (zI 59)]) (rest := []) (Nat.le_of_ble_eq_true rfl) rfl ⟨Nat.le_of_ble_eq_true rfl, Nat.le_of_ble_eq_true rfl⟩ (dk DX6_readsPulse_1k 34 rfl) ⟨rfl, rfl⟩ (wb := fun u31 => [(m0, .inr (6, [.ref m1, .ref m2, .ref m3, .int (zI ((sv : Nat) : Int)), .int (zI rf), .ref m4, .int (zI ((len : Nat) : Int)), .int (zI ((u31 : Nat) : Int)), .int (zI u26), .int (zI 1), .int (zI u23), .int (zI (-u26)), .ref m5, .ref m6, .int (zI bm), .ref m7, .ref m8, .ref m9, .ref m10, .long (zL ha)])), (m1, iA D 771 NW), (m2, iA D 3084 PA), (m3, iA D 771 AS), (m4, iA D 150 tb), (m5, iA D 250 st), (m6, iA D 250 bo), (m7, iA D 250 sh), (m8, iA D 36 f1), (m9, iA D 36 f2), (m10, iA D 2778 pk)]) [0, 1, 2, 3, 4, 5, 6, 7, 8, 9, 10] rfl (fun _ => rfl) (fun u31 hu31 => ?_)
                  exact zz_zret hC hQ hr (u31, u26, 1, u23, (-u26)) (by by_cases e : zNx tb len (zNe tb len (zNe tb len (sp + 1) + 1)) = 59; exact rr_y (by rw [hpe7, if_neg (fun g => g e)]) (hu31.1 e) hpk hv1 hpa; exact rr_n (by rw [hpe7, if_pos e, hu31.2 e])) (by by_cases e : zNx tb len (zNe tb len (zNe tb len (sp + 1) + 1)) = 59; rw [zB_t (show 59 ≤ zNx tb len (zNe tb len (zNe tb len (sp + 1) + 1)) ∧ zNx tb len (zNe tb len (zNe tb len (sp + 1) + 1)) ≤ 59 by omega), zB_t (by rw [hpe7, if_neg (fun g => g e)])]; rw [zB_f (show ¬ (59 ≤ zNx tb len (zNe tb len (zNe tb len (sp + 1) + 1)) ∧ zNx tb len (zNe tb len (zNe tb len (sp + 1) + 1)) ≤ 59) by omega), zB_f (by rw [hpe7, if_pos e]; omega)]) (zB_01) [0, 1, 2, 3, 4, 5, 6, 7, 8, 9, 10] rfl rfl ⟨Nat.le_refl _, Nat.le_refl _⟩ (dk DX6_readsPulse_1k 35 rfl)
              · refine zz_aload_n hC 0 (dk DX6_readsPulse_1k 17 rfl) rfl rfl ?_
                refine zz_iload_n hC 2 (dk DX6_readsPulse_1k 18 rfl) rfl rfl ?_
                refine zz_put hC F_X6_84 fc_X6 rfl (tyX6_ok 7 (by decide)) 0 (ws' := [(m0, .inr (6, [.ref m1, .ref m2, .ref m3, .int (zI ((sv : Nat) : Int)), .int (zI rf), .ref m4, .int (zI ((len : Nat) : Int)), .int (zI (((zNe tb len (sp + 1)) + 1 : Nat) : Int)), .int (zI u26), .int (zI 1), .int (zI u23), .int (zI ra), .ref m5, .ref m6, .int (zI bm), .ref m7, .ref m8, .ref m9, .ref m10, .long (zL ha)])), (m1, iA D 771 NW), (m2, iA D 3084 PA), (m3, iA D 771 AS), (m4, iA D 150 tb), (m5, iA D 250 st), (m6, iA D 250 bo), (m7, iA D 250 sh), (m8, iA D 36 f1), (m9, iA D 36 f2), (m10, iA D 2778 pk)]) rfl rfl rfl (Nat.le_of_ble_eq_true rfl) rfl (dk DX6_readsPulse_1k 19 rfl) ?_
                refine zz_iconst hC (dk DX6_readsPulse_1k 20 rfl) ?_
                have hpe := pe_6 hk9 (by assumption) hsg (by assumption) (by omega)
                exact zz_zret hC hQ hr (((zNe tb len (sp + 1)) + 1), u26, 1, u23, ra) (rr_n hpe) (zB_f (by rw [hpe]; omega)).symm (by decide) [0, 1, 2, 3, 4, 5, 6, 7, 8, 9, 10] rfl rfl ⟨Nat.le_refl _, Nat.le_refl _⟩ (dk DX6_readsPulse_1k 21 rfl)
            · refine zz_iconst hC (dk DX6_readsPulse_1k 11 rfl) ?_
              have hpe := pe_5 hk9 (by assumption) hsg (by assumption)
              exact zz_zret hC hQ hr (((zNe tb len ((zNe tb len (sp + 1)) + 1))), u26, 1, u23, ra) (rr_n hpe) (zB_f (by rw [hpe]; omega)).symm (by decide) [0, 1, 2, 3, 4, 5, 6, 7, 8, 9, 10] rfl rfl ⟨Nat.le_refl _, Nat.le_refl _⟩ (dk DX6_readsPulse_1k 12 rfl)
          · refine zz_aload_n hC 0 (dk DX6_readsPulse_0k 52 rfl) rfl rfl ?_
            refine zz_bipush hC (dk DX6_readsPulse_0k 53 rfl) (by decide) ?_
            refine zz_bipush hC (dk DX6_readsPulse_0k 54 rfl) (by decide) ?_
            refine zz_pureVi hC (c_X6_isAt l D m0 m1 m2 m3 m4 m5 m6 m7 m8 m9 m10 NW PA AS tb st bo sh f1 f2 pk sv len ((zNe tb len (sp + 1))) rf u23 1 u23 ra bm ha n w K T U S F L 43 43 hlen hbt (by omega) (by omega)) G_X6_90 H_X6_isAt ⟨Nat.le_of_ble_eq_true rfl, Nat.le_of_ble_eq_true rfl⟩ rfl [0, 1, 2, 3, 4, 5, 6, 7, 8, 9, 10] rfl rfl 0 6 ⟨rfl, rfl, rfl⟩ (As := [.int (zI 43), .int (zI 43)]) (rest := []) (Nat.le_of_ble_eq_true rfl) rfl ⟨Nat.le_of_ble_eq_true rfl, Nat.le_of_ble_eq_true rfl⟩ (dk DX6_readsPulse_0k 55 rfl) ⟨rfl, rfl⟩ ?_
            refine zz_ifb_ne hC 113 (dk DX6_readsPulse_0k 56 rfl) (by decide) (fun c32 => ?_) (fun c32 => ?_)
            · have hsg : zNx tb len (zNe tb len (sp + 1)) = 43 ∨ zNx tb len (zNe tb len (sp + 1)) = 45 := by omega
              refine zz_aload_n hC 0 (dk DX6_readsPulse_0k 59 rfl) rfl rfl ?_
              refine zz_dup hC (dk DX6_readsPulse_1k 0 rfl) rfl ?_
              refine zz_get hC F_X6_84 0 rfl rfl (dk DX6_readsPulse_1k 1 rfl) ?_
              refine zz_iconst hC (dk DX6_readsPulse_1k 2 rfl) ?_
              refine zz_iadd hC (dk DX6_readsPulse_1k 3 rfl) ?_
              refine zz_put hC F_X6_84 fc_X6 rfl (tyX6_ok 7 (by decide)) 0 (ws' := [(m0, .inr (6, [.ref m1, .ref m2, .ref m3, .int (zI ((sv : Nat) : Int)), .int (zI rf), .ref m4, .int (zI ((len : Nat) : Int)), .int (zI (((zNe tb len (sp + 1)) + 1 : Nat) : Int)), .int (zI u23), .int (zI 1), .int (zI u23), .int (zI ra), .ref m5, .ref m6, .int (zI bm), .ref m7, .ref m8, .ref m9, .ref m10, .long (zL ha)])), (m1, iA D 771 NW), (m2, iA D 3084 PA), (m3, iA D 771 AS), (m4, iA D 150 tb), (m5, iA D 250 st), (m6, iA D 250 bo), (m7, iA D 250 sh), (m8, iA D 36 f1), (m9, iA D 36 f2), (m10, iA D 2778 pk)]) rfl rfl rfl (Nat.le_of_ble_eq_true rfl) rfl (dk DX6_readsPulse_1k 4 rfl) ?_
              refine zz_aload_n hC 0 (dk DX6_readsPulse_1k 5 rfl) rfl rfl ?_
              refine zz_get hC F_X6_84 0 rfl rfl (dk DX6_readsPulse_1k 6 rfl) ?_
              refine zz_istore_n hC (ls' := [(0, .ref m0), (1, .int (zI (zB (45 ≤ zNx tb len ((zNe tb len (sp + 1))) ∧ zNx tb len ((zNe tb len (sp + 1))) ≤ 45)))), (2, .int (zI (((zNe tb len (sp + 1)) + 1 : Nat) : Int)))]) [1, 2, 0] (dk DX6_readsPulse_1k 7 rfl) rfl (by decide) rfl ?_
              refine zz_aload_n hC 0 (dk DX6_readsPulse_1k 8 rfl) rfl rfl ?_
              refine zz_callVi hC (wr := []) (c_X6_reads l D m0 m1 m2 m3 m4 m5 m6 m7 m8 m9 m10 NW PA AS tb st bo sh f1 f2 pk sv len ((zNe tb len (sp + 1)) + 1) rf u23 1 u23 ra bm ha n w K T U S F L hlen hbt (by omega)) G_X6_97 H_X6_reads ⟨Nat.le_of_ble_eq_true rfl, Nat.le_of_ble_eq_true rfl⟩ rfl [0, 1, 2, 3, 4, 5, 6, 7, 8, 9, 10] [] rfl rfl ⟨rfl, rfl, by decide⟩ 0 6 ⟨rfl, rfl, rfl⟩ (As := []) (rest := []) (Nat.le_of_ble_eq_true rfl) rfl ⟨Nat.le_of_ble_eq_true rfl, Nat.le_of_ble_eq_true rfl⟩ (dk DX6_readsPulse_1k 9 rfl) ⟨rfl, rfl⟩ (wb := fun u33 => [(m0, .inr (6, [.ref m1, .ref m2, .ref m3, .int (zI ((sv : Nat) : Int)), .int (zI rf), .ref m4, .int (zI ((len : Nat) : Int)), .int (zI (((zNe tb len ((zNe tb len (sp + 1)) + 1)) : Nat) : Int)), .int (zI u33), .int (zI 1), .int (zI u23), .int (zI ra), .ref m5, .ref m6, .int (zI bm), .ref m7, .ref m8, .ref m9, .ref m10, .long (zL ha)])), (m1, iA D 771 NW), (m2, iA D 3084 PA), (m3, iA D 771 AS), (m4, iA D 150 tb), (m5, iA D 250 st), (m6, iA D 250 bo), (m7, iA D 250 sh), (m8, iA D 36 f1), (m9, iA D 36 f2), (m10, iA D 2778 pk)]) [0, 1, 2, 3, 4, 5, 6, 7, 8, 9, 10] rfl (fun _ => rfl) (fun u33 hu33 => ?_)
              have hne2 := zNe_in (tb := tb) (len := len) (q := (zNe tb len (sp + 1) + 1))
              refine zz_ifb_ne hC 137 (dk DX6_readsPulse_1k 10 rfl) (by decide) (fun c34 => ?_) (fun c34 => ?_)
              · have hv2 := hu33 (show zOkN tb len (zNe tb len (sp + 1) + 1) by assumption).1
                have hl2 := zNe_len (show zOkN tb len (zNe tb len (sp + 1) + 1) by assumption).1
                have hvr := zNv_in (show zOkN tb len (zNe tb len (sp + 1) + 1) by assumption).1
                refine zz_aload_n hC 0 (dk DX6_readsPulse_1k 13 rfl) rfl rfl ?_
                refine zz_get hC F_X6_87 0 rfl rfl (dk DX6_readsPulse_1k 14 rfl) ?_
                refine zz_sipush hC (dk DX6_readsPulse_1k 15 rfl) (by decide) ?_
                refine zz_icmp_le hC 154 (dk DX6_readsPulse_1k 16 rfl) (by decide) ⟨⟨by omega, by omega⟩, (by decide)⟩ (fun c35 => ?_) (fun c35 => ?_)
                · refine zz_aload_n hC 0 (dk DX6_readsPulse_1k 22 rfl) rfl rfl ?_
                  refine zz_iload_n hC 1 (dk DX6_readsPulse_1k 23 rfl) rfl rfl ?_
                  refine zz_ifb_eq hC 167 (dk DX6_readsPulse_1k 24 rfl) (by decide) (fun c36 => ?_) (fun c36 => ?_)
                  · refine zz_aload_n hC 0 (dk DX6_readsPulse_1k 29 rfl) rfl rfl ?_
                    refine zz_get hC F_X6_87 0 rfl rfl (dk DX6_readsPulse_1k 30 rfl) ?_
                    refine zz_put hC F_X6_104 fc_X6 rfl (tyX6_ok 11 (by decide)) 0 (ws' := [(m0, .inr (6, [.ref m1, .ref m2, .ref m3, .int (zI ((sv : Nat) : Int)), .int (zI rf), .ref m4, .int (zI ((len : Nat) : Int)), .int (zI (((zNe tb len ((zNe tb len (sp + 1)) + 1)) : Nat) : Int)), .int (zI u33), .int (zI 1), .int (zI u23), .int (zI u33), .ref m5, .ref m6, .int (zI bm), .ref m7, .ref m8, .ref m9, .ref m10, .long (zL ha)])), (m1, iA D 771 NW), (m2, iA D 3084 PA), (m3, iA D 771 AS), (m4, iA D 150 tb), (m5, iA D 250 st), (m6, iA D 250 bo), (m7, iA D 250 sh), (m8, iA D 36 f1), (m9, iA D 36 f2), (m10, iA D 2778 pk)]) rfl rfl rfl (Nat.le_of_ble_eq_true rfl) rfl (dk DX6_readsPulse_1k 31 rfl) ?_
                    have hpe7 := pe_7 hk9 (by assumption) hsg (by assumption) (by omega)
                    have hpa : u33 = zPa tb len sp := pa_v (by omega)
                    have hpk : 1 = zPk0 tb len sp := pk0_v (by omega)
                    refine zz_aload_n hC 0 (dk DX6_readsPulse_1k 32 rfl) rfl rfl ?_
                    refine zz_bipush hC (dk DX6_readsPulse_1k 33 rfl) (by decide) ?_
                    refine zz_callVi hC (wr := []) (c_X6_passes l D m0 m1 m2 m3 m4 m5 m6 m7 m8 m9 m10 NW PA AS tb st bo sh f1 f2 pk sv len ((zNe tb len ((zNe tb len (sp + 1)) + 1))) rf u33 1 u23 u33 bm ha n w K T U S F L 59 hlen hbt (by omega) (by omega)) G_X6_107 H_X6_passes ⟨Nat.le_of_ble_eq_true rfl, Nat.le_of_ble_eq_true rfl⟩ rfl [0, 1, 2, 3, 4, 5, 6, 7, 8, 9, 10] [] rfl rfl ⟨rfl, rfl, by decide⟩ 0 6 ⟨rfl, rfl, rfl⟩ (As := [.int (zI 59)]) (rest := []) (Nat.le_of_ble_eq_true rfl) rfl ⟨Nat.le_of_ble_eq_true rfl, Nat.le_of_ble_eq_true rfl⟩ (dk DX6_readsPulse_1k 34 rfl) ⟨rfl, rfl⟩ (wb := fun u37 => [(m0, .inr (6, [.ref m1, .ref m2, .ref m3, .int (zI ((sv : Nat) : Int)), .int (zI rf), .ref m4, .int (zI ((len : Nat) : Int)), .int (zI ((u37 : Nat) : Int)), .int (zI u33), .int (zI 1), .int (zI u23), .int (zI u33), .ref m5, .ref m6, .int (zI bm), .ref m7, .ref m8, .ref m9, .ref m10, .long (zL ha)])), (m1, iA D 771 NW), (m2, iA D 3084 PA), (m3, iA D 771 AS), (m4, iA D 150 tb), (m5, iA D 250 st), (m6, iA D 250 bo), (m7, iA D 250 sh), (m8, iA D 36 f1), (m9, iA D 36 f2), (m10, iA D 2778 pk)]) [0, 1, 2, 3, 4, 5, 6, 7, 8, 9, 10] rfl (fun _ => rfl) (fun u37 hu37 => ?_)
                    exact zz_zret hC hQ hr (u37, u33, 1, u23, u33) (by by_cases e : zNx tb len (zNe tb len (zNe tb len (sp + 1) + 1)) = 59; exact rr_y (by rw [hpe7, if_neg (fun g => g e)]) (hu37.1 e) hpk hv1 hpa; exact rr_n (by rw [hpe7, if_pos e, hu37.2 e])) (by by_cases e : zNx tb len (zNe tb len (zNe tb len (sp + 1) + 1)) = 59; rw [zB_t (show 59 ≤ zNx tb len (zNe tb len (zNe tb len (sp + 1) + 1)) ∧ zNx tb len (zNe tb len (zNe tb len (sp + 1) + 1)) ≤ 59 by omega), zB_t (by rw [hpe7, if_neg (fun g => g e)])]; rw [zB_f (show ¬ (59 ≤ zNx tb len (zNe tb len (zNe tb len (sp + 1) + 1)) ∧ zNx tb len (zNe tb len (zNe tb len (sp + 1) + 1)) ≤ 59) by omega), zB_f (by rw [hpe7, if_pos e]; omega)]) (zB_01) [0, 1, 2, 3, 4, 5, 6, 7, 8, 9, 10] rfl rfl ⟨Nat.le_refl _, Nat.le_refl _⟩ (dk DX6_readsPulse_1k 35 rfl)
                  · refine zz_aload_n hC 0 (dk DX6_readsPulse_1k 25 rfl) rfl rfl ?_
                    refine zz_get hC F_X6_87 0 rfl rfl (dk DX6_readsPulse_1k 26 rfl) ?_
                    refine zz_ineg hC (dk DX6_readsPulse_1k 27 rfl) ?_
                    refine zz_goto hC 171 (dk DX6_readsPulse_1k 28 rfl) (by decide) ?_
                    refine zz_put hC F_X6_104 fc_X6 rfl (tyX6_ok 11 (by decide)) 0 (ws' := [(m0, .inr (6, [.ref m1, .ref m2, .ref m3, .int (zI ((sv : Nat) : Int)), .int (zI rf), .ref m4, .int (zI ((len : Nat) : Int)), .int (zI (((zNe tb len ((zNe tb len (sp + 1)) + 1)) : Nat) : Int)), .int (zI u33), .int (zI 1), .int (zI u23), .int (zI (-u33)), .ref m5, .ref m6, .int (zI bm), .ref m7, .ref m8, .ref m9, .ref m10, .long (zL ha)])), (m1, iA D 771 NW), (m2, iA D 3084 PA), (m3, iA D 771 AS), (m4, iA D 150 tb), (m5, iA D 250 st), (m6, iA D 250 bo), (m7, iA D 250 sh), (m8, iA D 36 f1), (m9, iA D 36 f2), (m10, iA D 2778 pk)]) rfl rfl rfl (Nat.le_of_ble_eq_true rfl) rfl (dk DX6_readsPulse_1k 31 rfl) ?_
                    have hpe7 := pe_7 hk9 (by assumption) hsg (by assumption) (by omega)
                    have hpa : (-u33) = zPa tb len sp := pa_v (by omega)
                    have hpk : 1 = zPk0 tb len sp := pk0_v (by omega)
                    refine zz_aload_n hC 0 (dk DX6_readsPulse_1k 32 rfl) rfl rfl ?_
                    refine zz_bipush hC (dk DX6_readsPulse_1k 33 rfl) (by decide) ?_
                    refine zz_callVi hC (wr := []) (c_X6_passes l D m0 m1 m2 m3 m4 m5 m6 m7 m8 m9 m10 NW PA AS tb st bo sh f1 f2 pk sv len ((zNe tb len ((zNe tb len (sp + 1)) + 1))) rf u33 1 u23 (-u33) bm ha n w K T U S F L 59 hlen hbt (by omega) (by omega)) G_X6_107 H_X6_passes ⟨Nat.le_of_ble_eq_true rfl, Nat.le_of_ble_eq_true rfl⟩ rfl [0, 1, 2, 3, 4, 5, 6, 7, 8, 9, 10] [] rfl rfl ⟨rfl, rfl, by decide⟩ 0 6 ⟨rfl, rfl, rfl⟩ (As := [.int (zI 59)]) (rest := []) (Nat.le_of_ble_eq_true rfl) rfl ⟨Nat.le_of_ble_eq_true rfl, Nat.le_of_ble_eq_true rfl⟩ (dk DX6_readsPulse_1k 34 rfl) ⟨rfl, rfl⟩ (wb := fun u38 => [(m0, .inr (6, [.ref m1, .ref m2, .ref m3, .int (zI ((sv : Nat) : Int)), .int (zI rf), .ref m4, .int (zI ((len : Nat) : Int)), .int (zI ((u38 : Nat) : Int)), .int (zI u33), .int (zI 1), .int (zI u23), .int (zI (-u33)), .ref m5, .ref m6, .int (zI bm), .ref m7, .ref m8, .ref m9, .ref m10, .long (zL ha)])), (m1, iA D 771 NW), (m2, iA D 3084 PA), (m3, iA D 771 AS), (m4, iA D 150 tb), (m5, iA D 250 st), (m6, iA D 250 bo), (m7, iA D 250 sh), (m8, iA D 36 f1), (m9, iA D 36 f2), (m10, iA D 2778 pk)]) [0, 1, 2, 3, 4, 5, 6, 7, 8, 9, 10] rfl (fun _ => rfl) (fun u38 hu38 => ?_)
                    exact zz_zret hC hQ hr (u38, u33, 1, u23, (-u33)) (by by_cases e : zNx tb len (zNe tb len (zNe tb len (sp + 1) + 1)) = 59; exact rr_y (by rw [hpe7, if_neg (fun g => g e)]) (hu38.1 e) hpk hv1 hpa; exact rr_n (by rw [hpe7, if_pos e, hu38.2 e])) (by by_cases e : zNx tb len (zNe tb len (zNe tb len (sp + 1) + 1)) = 59; rw [zB_t (show 59 ≤ zNx tb len (zNe tb len (zNe tb len (sp + 1) + 1)) ∧ zNx tb len (zNe tb len (zNe tb len (sp + 1) + 1)) ≤ 59 by omega), zB_t (by rw [hpe7, if_neg (fun g => g e)])]; rw [zB_f (show ¬ (59 ≤ zNx tb len (zNe tb len (zNe tb len (sp + 1) + 1)) ∧ zNx tb len (zNe tb len (zNe tb len (sp + 1) + 1)) ≤ 59) by omega), zB_f (by rw [hpe7, if_pos e]; omega)]) (zB_01) [0, 1, 2, 3, 4, 5, 6, 7, 8, 9, 10] rfl rfl ⟨Nat.le_refl _, Nat.le_refl _⟩ (dk DX6_readsPulse_1k 35 rfl)
                · refine zz_aload_n hC 0 (dk DX6_readsPulse_1k 17 rfl) rfl rfl ?_
                  refine zz_iload_n hC 2 (dk DX6_readsPulse_1k 18 rfl) rfl rfl ?_
                  refine zz_put hC F_X6_84 fc_X6 rfl (tyX6_ok 7 (by decide)) 0 (ws' := [(m0, .inr (6, [.ref m1, .ref m2, .ref m3, .int (zI ((sv : Nat) : Int)), .int (zI rf), .ref m4, .int (zI ((len : Nat) : Int)), .int (zI (((zNe tb len (sp + 1)) + 1 : Nat) : Int)), .int (zI u33), .int (zI 1), .int (zI u23), .int (zI ra), .ref m5, .ref m6, .int (zI bm), .ref m7, .ref m8, .ref m9, .ref m10, .long (zL ha)])), (m1, iA D 771 NW), (m2, iA D 3084 PA), (m3, iA D 771 AS), (m4, iA D 150 tb), (m5, iA D 250 st), (m6, iA D 250 bo), (m7, iA D 250 sh), (m8, iA D 36 f1), (m9, iA D 36 f2), (m10, iA D 2778 pk)]) rfl rfl rfl (Nat.le_of_ble_eq_true rfl) rfl (dk DX6_readsPulse_1k 19 rfl) ?_
                  refine zz_iconst hC (dk DX6_readsPulse_1k 20 rfl) ?_
                  have hpe := pe_6 hk9 (by assumption) hsg (by assumption) (by omega)
                  exact zz_zret hC hQ hr (((zNe tb len (sp + 1)) + 1), u33, 1, u23, ra) (rr_n hpe) (zB_f (by rw [hpe]; omega)).symm (by decide) [0, 1, 2, 3, 4, 5, 6, 7, 8, 9, 10] rfl rfl ⟨Nat.le_refl _, Nat.le_refl _⟩ (dk DX6_readsPulse_1k 21 rfl)
              · refine zz_iconst hC (dk DX6_readsPulse_1k 11 rfl) ?_
                have hpe := pe_5 hk9 (by assumption) hsg (by assumption)
                exact zz_zret hC hQ hr (((zNe tb len ((zNe tb len (sp + 1)) + 1))), u33, 1, u23, ra) (rr_n hpe) (zB_f (by rw [hpe]; omega)).symm (by decide) [0, 1, 2, 3, 4, 5, 6, 7, 8, 9, 10] rfl rfl ⟨Nat.le_refl _, Nat.le_refl _⟩ (dk DX6_readsPulse_1k 12 rfl)
            · refine zz_iconst hC (dk DX6_readsPulse_0k 57 rfl) ?_
              have hpe := pe_4 hk9 (by assumption) (by omega)
              exact zz_zret hC hQ hr (((zNe tb len (sp + 1))), u23, 1, u23, ra) (rr_n hpe) (zB_f (by rw [hpe]; omega)).symm (by decide) [0, 1, 2, 3, 4, 5, 6, 7, 8, 9, 10] rfl rfl ⟨Nat.le_refl _, Nat.le_refl _⟩ (dk DX6_readsPulse_0k 58 rfl)
        · refine zz_iconst hC (dk DX6_readsPulse_0k 39 rfl) ?_
          have hpe := pe_2 hk9 (by assumption)
          exact zz_zret hC hQ hr (((zNe tb len (sp + 1))), u23, 1, rt, ra) (rr_n hpe) (zB_f (by rw [hpe]; omega)).symm (by decide) [0, 1, 2, 3, 4, 5, 6, 7, 8, 9, 10] rfl rfl ⟨Nat.le_refl _, Nat.le_refl _⟩ (dk DX6_readsPulse_0k 40 rfl)
      · exfalso; omega
  · refine zz_iconst hC (dk DX6_readsPulse_0k 6 rfl) ?_
    refine zz_goto hC 47 (dk DX6_readsPulse_0k 7 rfl) (by decide) ?_
    refine zz_put hC F_X6_94 fc_X6 rfl (tyX6_ok 9 (by decide)) 0 (ws' := [(m0, .inr (6, [.ref m1, .ref m2, .ref m3, .int (zI ((sv : Nat) : Int)), .int (zI rf), .ref m4, .int (zI ((len : Nat) : Int)), .int (zI ((sp : Nat) : Int)), .int (zI nu), .int (zI 0), .int (zI rt), .int (zI ra), .ref m5, .ref m6, .int (zI bm), .ref m7, .ref m8, .ref m9, .ref m10, .long (zL ha)])), (m1, iA D 771 NW), (m2, iA D 3084 PA), (m3, iA D 771 AS), (m4, iA D 150 tb), (m5, iA D 250 st), (m6, iA D 250 bo), (m7, iA D 250 sh), (m8, iA D 36 f1), (m9, iA D 36 f2), (m10, iA D 2778 pk)]) rfl rfl rfl (Nat.le_of_ble_eq_true rfl) rfl (dk DX6_readsPulse_0k 23 rfl) ?_
    refine zz_aload_n hC 0 (dk DX6_readsPulse_0k 24 rfl) rfl rfl ?_
    refine zz_get hC F_X6_94 0 rfl rfl (dk DX6_readsPulse_0k 25 rfl) ?_
    refine zz_iconst hC (dk DX6_readsPulse_0k 26 rfl) ?_
    refine zz_icmp_ne hC 60 (dk DX6_readsPulse_0k 27 rfl) (by decide) ⟨(by decide), (by decide)⟩ (fun c39 => ?_) (fun c39 => ?_)
    · have hk9 : zNx tb len sp = 109 ∨ zNx tb len sp = 110 ∨ zNx tb len sp = 105 := by omega
      refine zz_aload_n hC 0 (dk DX6_readsPulse_0k 30 rfl) rfl rfl ?_
      refine zz_dup hC (dk DX6_readsPulse_0k 31 rfl) rfl ?_
      refine zz_get hC F_X6_84 0 rfl rfl (dk DX6_readsPulse_0k 32 rfl) ?_
      refine zz_iconst hC (dk DX6_readsPulse_0k 33 rfl) ?_
      refine zz_iadd hC (dk DX6_readsPulse_0k 34 rfl) ?_
      refine zz_put hC F_X6_84 fc_X6 rfl (tyX6_ok 7 (by decide)) 0 (ws' := [(m0, .inr (6, [.ref m1, .ref m2, .ref m3, .int (zI ((sv : Nat) : Int)), .int (zI rf), .ref m4, .int (zI ((len : Nat) : Int)), .int (zI ((sp + 1 : Nat) : Int)), .int (zI nu), .int (zI 0), .int (zI rt), .int (zI ra), .ref m5, .ref m6, .int (zI bm), .ref m7, .ref m8, .ref m9, .ref m10, .long (zL ha)])), (m1, iA D 771 NW), (m2, iA D 3084 PA), (m3, iA D 771 AS), (m4, iA D 150 tb), (m5, iA D 250 st), (m6, iA D 250 bo), (m7, iA D 250 sh), (m8, iA D 36 f1), (m9, iA D 36 f2), (m10, iA D 2778 pk)]) rfl rfl rfl (Nat.le_of_ble_eq_true rfl) rfl (dk DX6_readsPulse_0k 35 rfl) ?_
      refine zz_aload_n hC 0 (dk DX6_readsPulse_0k 36 rfl) rfl rfl ?_
      refine zz_callVi hC (wr := []) (c_X6_reads l D m0 m1 m2 m3 m4 m5 m6 m7 m8 m9 m10 NW PA AS tb st bo sh f1 f2 pk sv len (sp + 1) rf nu 0 rt ra bm ha n w K T U S F L hlen hbt (by omega)) G_X6_97 H_X6_reads ⟨Nat.le_of_ble_eq_true rfl, Nat.le_of_ble_eq_true rfl⟩ rfl [0, 1, 2, 3, 4, 5, 6, 7, 8, 9, 10] [] rfl rfl ⟨rfl, rfl, by decide⟩ 0 6 ⟨rfl, rfl, rfl⟩ (As := []) (rest := []) (Nat.le_of_ble_eq_true rfl) rfl ⟨Nat.le_of_ble_eq_true rfl, Nat.le_of_ble_eq_true rfl⟩ (dk DX6_readsPulse_0k 37 rfl) ⟨rfl, rfl⟩ (wb := fun u40 => [(m0, .inr (6, [.ref m1, .ref m2, .ref m3, .int (zI ((sv : Nat) : Int)), .int (zI rf), .ref m4, .int (zI ((len : Nat) : Int)), .int (zI (((zNe tb len (sp + 1)) : Nat) : Int)), .int (zI u40), .int (zI 0), .int (zI rt), .int (zI ra), .ref m5, .ref m6, .int (zI bm), .ref m7, .ref m8, .ref m9, .ref m10, .long (zL ha)])), (m1, iA D 771 NW), (m2, iA D 3084 PA), (m3, iA D 771 AS), (m4, iA D 150 tb), (m5, iA D 250 st), (m6, iA D 250 bo), (m7, iA D 250 sh), (m8, iA D 36 f1), (m9, iA D 36 f2), (m10, iA D 2778 pk)]) [0, 1, 2, 3, 4, 5, 6, 7, 8, 9, 10] rfl (fun _ => rfl) (fun u40 hu40 => ?_)
      have hne1 := zNe_in (tb := tb) (len := len) (q := sp + 1)
      refine zz_ifb_ne hC 79 (dk DX6_readsPulse_0k 38 rfl) (by decide) (fun c41 => ?_) (fun c41 => ?_)
      · have hv1 := hu40 (show zOkN tb len (sp + 1) by assumption).1
        have hl1 := zNe_len (show zOkN tb len (sp + 1) by assumption).1
        refine zz_aload_n hC 0 (dk DX6_readsPulse_0k 41 rfl) rfl rfl ?_
        refine zz_aload_n hC 0 (dk DX6_readsPulse_0k 42 rfl) rfl rfl ?_
        refine zz_get hC F_X6_87 0 rfl rfl (dk DX6_readsPulse_0k 43 rfl) ?_
        refine zz_put hC F_X6_101 fc_X6 rfl (tyX6_ok 10 (by decide)) 0 (ws' := [(m0, .inr (6, [.ref m1, .ref m2, .ref m3, .int (zI ((sv : Nat) : Int)), .int (zI rf), .ref m4, .int (zI ((len : Nat) : Int)), .int (zI (((zNe tb len (sp + 1)) : Nat) : Int)), .int (zI u40), .int (zI 0), .int (zI u40), .int (zI ra), .ref m5, .ref m6, .int (zI bm), .ref m7, .ref m8, .ref m9, .ref m10, .long (zL ha)])), (m1, iA D 771 NW), (m2, iA D 3084 PA), (m3, iA D 771 AS), (m4, iA D 150 tb), (m5, iA D 250 st), (m6, iA D 250 bo), (m7, iA D 250 sh), (m8, iA D 36 f1), (m9, iA D 36 f2), (m10, iA D 2778 pk)]) rfl rfl rfl (Nat.le_of_ble_eq_true rfl) rfl (dk DX6_readsPulse_0k 44 rfl) ?_
        refine zz_aload_n hC 0 (dk DX6_readsPulse_0k 45 rfl) rfl rfl ?_
        refine zz_bipush hC (dk DX6_readsPulse_0k 46 rfl) (by decide) ?_
        refine zz_bipush hC (dk DX6_readsPulse_0k 47 rfl) (by decide) ?_
        refine zz_pureVi hC (c_X6_isAt l D m0 m1 m2 m3 m4 m5 m6 m7 m8 m9 m10 NW PA AS tb st bo sh f1 f2 pk sv len ((zNe tb len (sp + 1))) rf u40 0 u40 ra bm ha n w K T U S F L 45 45 hlen hbt (by omega) (by omega)) G_X6_90 H_X6_isAt ⟨Nat.le_of_ble_eq_true rfl, Nat.le_of_ble_eq_true rfl⟩ rfl [0, 1, 2, 3, 4, 5, 6, 7, 8, 9, 10] rfl rfl 0 6 ⟨rfl, rfl, rfl⟩ (As := [.int (zI 45), .int (zI 45)]) (rest := []) (Nat.le_of_ble_eq_true rfl) rfl ⟨Nat.le_of_ble_eq_true rfl, Nat.le_of_ble_eq_true rfl⟩ (dk DX6_readsPulse_0k 48 rfl) ⟨rfl, rfl⟩ ?_
        refine zz_istore_n hC (ls' := [(0, .ref m0), (1, .int (zI (zB (45 ≤ zNx tb len ((zNe tb len (sp + 1))) ∧ zNx tb len ((zNe tb len (sp + 1))) ≤ 45))))]) [1, 0] (dk DX6_readsPulse_0k 49 rfl) rfl (by decide) rfl ?_
        refine zz_iload_n hC 1 (dk DX6_readsPulse_0k 50 rfl) rfl rfl ?_
        refine zz_ifb_ne hC 113 (dk DX6_readsPulse_0k 51 rfl) (by decide) (fun c42 => ?_) (fun c42 => ?_)
        · have hsg : zNx tb len (zNe tb len (sp + 1)) = 43 ∨ zNx tb len (zNe tb len (sp + 1)) = 45 := by omega
          refine zz_aload_n hC 0 (dk DX6_readsPulse_0k 59 rfl) rfl rfl ?_
          refine zz_dup hC (dk DX6_readsPulse_1k 0 rfl) rfl ?_
          refine zz_get hC F_X6_84 0 rfl rfl (dk DX6_readsPulse_1k 1 rfl) ?_
          refine zz_iconst hC (dk DX6_readsPulse_1k 2 rfl) ?_
          refine zz_iadd hC (dk DX6_readsPulse_1k 3 rfl) ?_
          refine zz_put hC F_X6_84 fc_X6 rfl (tyX6_ok 7 (by decide)) 0 (ws' := [(m0, .inr (6, [.ref m1, .ref m2, .ref m3, .int (zI ((sv : Nat) : Int)), .int (zI rf), .ref m4, .int (zI ((len : Nat) : Int)), .int (zI (((zNe tb len (sp + 1)) + 1 : Nat) : Int)), .int (zI u40), .int (zI 0), .int (zI u40), .int (zI ra), .ref m5, .ref m6, .int (zI bm), .ref m7, .ref m8, .ref m9, .ref m10, .long (zL ha)])), (m1, iA D 771 NW), (m2, iA D 3084 PA), (m3, iA D 771 AS), (m4, iA D 150 tb), (m5, iA D 250 st), (m6, iA D 250 bo), (m7, iA D 250 sh), (m8, iA D 36 f1), (m9, iA D 36 f2), (m10, iA D 2778 pk)]) rfl rfl rfl (Nat.le_of_ble_eq_true rfl) rfl (dk DX6_readsPulse_1k 4 rfl) ?_
          refine zz_aload_n hC 0 (dk DX6_readsPulse_1k 5 rfl) rfl rfl ?_
          refine zz_get hC F_X6_84 0 rfl rfl (dk DX6_readsPulse_1k 6 rfl) ?_
          refine zz_istore_n hC (ls' := [(0, .ref m0), (1, .int (zI (zB (45 ≤ zNx tb len ((zNe tb len (sp + 1))) ∧ zNx tb len ((zNe tb len (sp + 1))) ≤ 45)))), (2, .int (zI (((zNe tb len (sp + 1)) + 1 : Nat) : Int)))]) [1, 2, 0] (dk DX6_readsPulse_1k 7 rfl) rfl (by decide) rfl ?_
          refine zz_aload_n hC 0 (dk DX6_readsPulse_1k 8 rfl) rfl rfl ?_
          refine zz_callVi hC (wr := []) (c_X6_reads l D m0 m1 m2 m3 m4 m5 m6 m7 m8 m9 m10 NW PA AS tb st bo sh f1 f2 pk sv len ((zNe tb len (sp + 1)) + 1) rf u40 0 u40 ra bm ha n w K T U S F L hlen hbt (by omega)) G_X6_97 H_X6_reads ⟨Nat.le_of_ble_eq_true rfl, Nat.le_of_ble_eq_true rfl⟩ rfl [0, 1, 2, 3, 4, 5, 6, 7, 8, 9, 10] [] rfl rfl ⟨rfl, rfl, by decide⟩ 0 6 ⟨rfl, rfl, rfl⟩ (As := []) (rest := []) (Nat.le_of_ble_eq_true rfl) rfl ⟨Nat.le_of_ble_eq_true rfl, Nat.le_of_ble_eq_true rfl⟩ (dk DX6_readsPulse_1k 9 rfl) ⟨rfl, rfl⟩ (wb := fun u43 => [(m0, .inr (6, [.ref m1, .ref m2, .ref m3, .int (zI ((sv : Nat) : Int)), .int (zI rf), .ref m4, .int (zI ((len : Nat) : Int)), .int (zI (((zNe tb len ((zNe tb len (sp + 1)) + 1)) : Nat) : Int)), .int (zI u43), .int (zI 0), .int (zI u40), .int (zI ra), .ref m5, .ref m6, .int (zI bm), .ref m7, .ref m8, .ref m9, .ref m10, .long (zL ha)])), (m1, iA D 771 NW), (m2, iA D 3084 PA), (m3, iA D 771 AS), (m4, iA D 150 tb), (m5, iA D 250 st), (m6, iA D 250 bo), (m7, iA D 250 sh), (m8, iA D 36 f1), (m9, iA D 36 f2), (m10, iA D 2778 pk)]) [0, 1, 2, 3, 4, 5, 6, 7, 8, 9, 10] rfl (fun _ => rfl) (fun u43 hu43 => ?_)
          have hne2 := zNe_in (tb := tb) (len := len) (q := (zNe tb len (sp + 1) + 1))
          refine zz_ifb_ne hC 137 (dk DX6_readsPulse_1k 10 rfl) (by decide) (fun c44 => ?_) (fun c44 => ?_)
          · have hv2 := hu43 (show zOkN tb len (zNe tb len (sp + 1) + 1) by assumption).1
            have hl2 := zNe_len (show zOkN tb len (zNe tb len (sp + 1) + 1) by assumption).1
            have hvr := zNv_in (show zOkN tb len (zNe tb len (sp + 1) + 1) by assumption).1
            refine zz_aload_n hC 0 (dk DX6_readsPulse_1k 13 rfl) rfl rfl ?_
            refine zz_get hC F_X6_87 0 rfl rfl (dk DX6_readsPulse_1k 14 rfl) ?_
            refine zz_sipush hC (dk DX6_readsPulse_1k 15 rfl) (by decide) ?_
            refine zz_icmp_le hC 154 (dk DX6_readsPulse_1k 16 rfl) (by decide) ⟨⟨by omega, by omega⟩, (by decide)⟩ (fun c45 => ?_) (fun c45 => ?_)
            · refine zz_aload_n hC 0 (dk DX6_readsPulse_1k 22 rfl) rfl rfl ?_
              refine zz_iload_n hC 1 (dk DX6_readsPulse_1k 23 rfl) rfl rfl ?_
              refine zz_ifb_eq hC 167 (dk DX6_readsPulse_1k 24 rfl) (by decide) (fun c46 => ?_) (fun c46 => ?_)
              · refine zz_aload_n hC 0 (dk DX6_readsPulse_1k 29 rfl) rfl rfl ?_
                refine zz_get hC F_X6_87 0 rfl rfl (dk DX6_readsPulse_1k 30 rfl) ?_
                refine zz_put hC F_X6_104 fc_X6 rfl (tyX6_ok 11 (by decide)) 0 (ws' := [(m0, .inr (6, [.ref m1, .ref m2, .ref m3, .int (zI ((sv : Nat) : Int)), .int (zI rf), .ref m4, .int (zI ((len : Nat) : Int)), .int (zI (((zNe tb len ((zNe tb len (sp + 1)) + 1)) : Nat) : Int)), .int (zI u43), .int (zI 0), .int (zI u40), .int (zI u43), .ref m5, .ref m6, .int (zI bm), .ref m7, .ref m8, .ref m9, .ref m10, .long (zL ha)])), (m1, iA D 771 NW), (m2, iA D 3084 PA), (m3, iA D 771 AS), (m4, iA D 150 tb), (m5, iA D 250 st), (m6, iA D 250 bo), (m7, iA D 250 sh), (m8, iA D 36 f1), (m9, iA D 36 f2), (m10, iA D 2778 pk)]) rfl rfl rfl (Nat.le_of_ble_eq_true rfl) rfl (dk DX6_readsPulse_1k 31 rfl) ?_
                have hpe7 := pe_7 hk9 (by assumption) hsg (by assumption) (by omega)
                have hpa : u43 = zPa tb len sp := pa_v (by omega)
                have hpk : 0 = zPk0 tb len sp := pk0_v (by omega)
                refine zz_aload_n hC 0 (dk DX6_readsPulse_1k 32 rfl) rfl rfl ?_
                refine zz_bipush hC (dk DX6_readsPulse_1k 33 rfl) (by decide) ?_
                refine zz_callVi hC (wr := []) (c_X6_passes l D m0 m1 m2 m3 m4 m5 m6 m7 m8 m9 m10 NW PA AS tb st bo sh f1 f2 pk sv len ((zNe tb len ((zNe tb len (sp + 1)) + 1))) rf u43 0 u40 u43 bm ha n w K T U S F L 59 hlen hbt (by omega) (by omega)) G_X6_107 H_X6_passes ⟨Nat.le_of_ble_eq_true rfl, Nat.le_of_ble_eq_true rfl⟩ rfl [0, 1, 2, 3, 4, 5, 6, 7, 8, 9, 10] [] rfl rfl ⟨rfl, rfl, by decide⟩ 0 6 ⟨rfl, rfl, rfl⟩ (As := [.int (zI 59)]) (rest := []) (Nat.le_of_ble_eq_true rfl) rfl ⟨Nat.le_of_ble_eq_true rfl, Nat.le_of_ble_eq_true rfl⟩ (dk DX6_readsPulse_1k 34 rfl) ⟨rfl, rfl⟩ (wb := fun u47 => [(m0, .inr (6, [.ref m1, .ref m2, .ref m3, .int (zI ((sv : Nat) : Int)), .int (zI rf), .ref m4, .int (zI ((len : Nat) : Int)), .int (zI ((u47 : Nat) : Int)), .int (zI u43), .int (zI 0), .int (zI u40), .int (zI u43), .ref m5, .ref m6, .int (zI bm), .ref m7, .ref m8, .ref m9, .ref m10, .long (zL ha)])), (m1, iA D 771 NW), (m2, iA D 3084 PA), (m3, iA D 771 AS), (m4, iA D 150 tb), (m5, iA D 250 st), (m6, iA D 250 bo), (m7, iA D 250 sh), (m8, iA D 36 f1), (m9, iA D 36 f2), (m10, iA D 2778 pk)]) [0, 1, 2, 3, 4, 5, 6, 7, 8, 9, 10] rfl (fun _ => rfl) (fun u47 hu47 => ?_)
                exact zz_zret hC hQ hr (u47, u43, 0, u40, u43) (by by_cases e : zNx tb len (zNe tb len (zNe tb len (sp + 1) + 1)) = 59; exact rr_y (by rw [hpe7, if_neg (fun g => g e)]) (hu47.1 e) hpk hv1 hpa; exact rr_n (by rw [hpe7, if_pos e, hu47.2 e])) (by by_cases e : zNx tb len (zNe tb len (zNe tb len (sp + 1) + 1)) = 59; rw [zB_t (show 59 ≤ zNx tb len (zNe tb len (zNe tb len (sp + 1) + 1)) ∧ zNx tb len (zNe tb len (zNe tb len (sp + 1) + 1)) ≤ 59 by omega), zB_t (by rw [hpe7, if_neg (fun g => g e)])]; rw [zB_f (show ¬ (59 ≤ zNx tb len (zNe tb len (zNe tb len (sp + 1) + 1)) ∧ zNx tb len (zNe tb len (zNe tb len (sp + 1) + 1)) ≤ 59) by omega), zB_f (by rw [hpe7, if_pos e]; omega)]) (zB_01) [0, 1, 2, 3, 4, 5, 6, 7, 8, 9, 10] rfl rfl ⟨Nat.le_refl _, Nat.le_refl _⟩ (dk DX6_readsPulse_1k 35 rfl)
              · refine zz_aload_n hC 0 (dk DX6_readsPulse_1k 25 rfl) rfl rfl ?_
                refine zz_get hC F_X6_87 0 rfl rfl (dk DX6_readsPulse_1k 26 rfl) ?_
                refine zz_ineg hC (dk DX6_readsPulse_1k 27 rfl) ?_
                refine zz_goto hC 171 (dk DX6_readsPulse_1k 28 rfl) (by decide) ?_
                refine zz_put hC F_X6_104 fc_X6 rfl (tyX6_ok 11 (by decide)) 0 (ws' := [(m0, .inr (6, [.ref m1, .ref m2, .ref m3, .int (zI ((sv : Nat) : Int)), .int (zI rf), .ref m4, .int (zI ((len : Nat) : Int)), .int (zI (((zNe tb len ((zNe tb len (sp + 1)) + 1)) : Nat) : Int)), .int (zI u43), .int (zI 0), .int (zI u40), .int (zI (-u43)), .ref m5, .ref m6, .int (zI bm), .ref m7, .ref m8, .ref m9, .ref m10, .long (zL ha)])), (m1, iA D 771 NW), (m2, iA D 3084 PA), (m3, iA D 771 AS), (m4, iA D 150 tb), (m5, iA D 250 st), (m6, iA D 250 bo), (m7, iA D 250 sh), (m8, iA D 36 f1), (m9, iA D 36 f2), (m10, iA D 2778 pk)]) rfl rfl rfl (Nat.le_of_ble_eq_true rfl) rfl (dk DX6_readsPulse_1k 31 rfl) ?_
                have hpe7 := pe_7 hk9 (by assumption) hsg (by assumption) (by omega)
                have hpa : (-u43) = zPa tb len sp := pa_v (by omega)
                have hpk : 0 = zPk0 tb len sp := pk0_v (by omega)
                refine zz_aload_n hC 0 (dk DX6_readsPulse_1k 32 rfl) rfl rfl ?_
                refine zz_bipush hC (dk DX6_readsPulse_1k 33 rfl) (by decide) ?_
                refine zz_callVi hC (wr := []) (c_X6_passes l D m0 m1 m2 m3 m4 m5 m6 m7 m8 m9 m10 NW PA AS tb st bo sh f1 f2 pk sv len ((zNe tb len ((zNe tb len (sp + 1)) + 1))) rf u43 0 u40 (-u43) bm ha n w K T U S F L 59 hlen hbt (by omega) (by omega)) G_X6_107 H_X6_passes ⟨Nat.le_of_ble_eq_true rfl, Nat.le_of_ble_eq_true rfl⟩ rfl [0, 1, 2, 3, 4, 5, 6, 7, 8, 9, 10] [] rfl rfl ⟨rfl, rfl, by decide⟩ 0 6 ⟨rfl, rfl, rfl⟩ (As := [.int (zI 59)]) (rest := []) (Nat.le_of_ble_eq_true rfl) rfl ⟨Nat.le_of_ble_eq_true rfl, Nat.le_of_ble_eq_true rfl⟩ (dk DX6_readsPulse_1k 34 rfl) ⟨rfl, rfl⟩ (wb := fun u48 => [(m0, .inr (6, [.ref m1, .ref m2, .ref m3, .int (zI ((sv : Nat) : Int)), .int (zI rf), .ref m4, .int (zI ((len : Nat) : Int)), .int (zI ((u48 : Nat) : Int)), .int (zI u43), .int (zI 0), .int (zI u40), .int (zI (-u43)), .ref m5, .ref m6, .int (zI bm), .ref m7, .ref m8, .ref m9, .ref m10, .long (zL ha)])), (m1, iA D 771 NW), (m2, iA D 3084 PA), (m3, iA D 771 AS), (m4, iA D 150 tb), (m5, iA D 250 st), (m6, iA D 250 bo), (m7, iA D 250 sh), (m8, iA D 36 f1), (m9, iA D 36 f2), (m10, iA D 2778 pk)]) [0, 1, 2, 3, 4, 5, 6, 7, 8, 9, 10] rfl (fun _ => rfl) (fun u48 hu48 => ?_)
                exact zz_zret hC hQ hr (u48, u43, 0, u40, (-u43)) (by by_cases e : zNx tb len (zNe tb len (zNe tb len (sp + 1) + 1)) = 59; exact rr_y (by rw [hpe7, if_neg (fun g => g e)]) (hu48.1 e) hpk hv1 hpa; exact rr_n (by rw [hpe7, if_pos e, hu48.2 e])) (by by_cases e : zNx tb len (zNe tb len (zNe tb len (sp + 1) + 1)) = 59; rw [zB_t (show 59 ≤ zNx tb len (zNe tb len (zNe tb len (sp + 1) + 1)) ∧ zNx tb len (zNe tb len (zNe tb len (sp + 1) + 1)) ≤ 59 by omega), zB_t (by rw [hpe7, if_neg (fun g => g e)])]; rw [zB_f (show ¬ (59 ≤ zNx tb len (zNe tb len (zNe tb len (sp + 1) + 1)) ∧ zNx tb len (zNe tb len (zNe tb len (sp + 1) + 1)) ≤ 59) by omega), zB_f (by rw [hpe7, if_pos e]; omega)]) (zB_01) [0, 1, 2, 3, 4, 5, 6, 7, 8, 9, 10] rfl rfl ⟨Nat.le_refl _, Nat.le_refl _⟩ (dk DX6_readsPulse_1k 35 rfl)
            · refine zz_aload_n hC 0 (dk DX6_readsPulse_1k 17 rfl) rfl rfl ?_
              refine zz_iload_n hC 2 (dk DX6_readsPulse_1k 18 rfl) rfl rfl ?_
              refine zz_put hC F_X6_84 fc_X6 rfl (tyX6_ok 7 (by decide)) 0 (ws' := [(m0, .inr (6, [.ref m1, .ref m2, .ref m3, .int (zI ((sv : Nat) : Int)), .int (zI rf), .ref m4, .int (zI ((len : Nat) : Int)), .int (zI (((zNe tb len (sp + 1)) + 1 : Nat) : Int)), .int (zI u43), .int (zI 0), .int (zI u40), .int (zI ra), .ref m5, .ref m6, .int (zI bm), .ref m7, .ref m8, .ref m9, .ref m10, .long (zL ha)])), (m1, iA D 771 NW), (m2, iA D 3084 PA), (m3, iA D 771 AS), (m4, iA D 150 tb), (m5, iA D 250 st), (m6, iA D 250 bo), (m7, iA D 250 sh), (m8, iA D 36 f1), (m9, iA D 36 f2), (m10, iA D 2778 pk)]) rfl rfl rfl (Nat.le_of_ble_eq_true rfl) rfl (dk DX6_readsPulse_1k 19 rfl) ?_
              refine zz_iconst hC (dk DX6_readsPulse_1k 20 rfl) ?_
              have hpe := pe_6 hk9 (by assumption) hsg (by assumption) (by omega)
              exact zz_zret hC hQ hr (((zNe tb len (sp + 1)) + 1), u43, 0, u40, ra) (rr_n hpe) (zB_f (by rw [hpe]; omega)).symm (by decide) [0, 1, 2, 3, 4, 5, 6, 7, 8, 9, 10] rfl rfl ⟨Nat.le_refl _, Nat.le_refl _⟩ (dk DX6_readsPulse_1k 21 rfl)
          · refine zz_iconst hC (dk DX6_readsPulse_1k 11 rfl) ?_
            have hpe := pe_5 hk9 (by assumption) hsg (by assumption)
            exact zz_zret hC hQ hr (((zNe tb len ((zNe tb len (sp + 1)) + 1))), u43, 0, u40, ra) (rr_n hpe) (zB_f (by rw [hpe]; omega)).symm (by decide) [0, 1, 2, 3, 4, 5, 6, 7, 8, 9, 10] rfl rfl ⟨Nat.le_refl _, Nat.le_refl _⟩ (dk DX6_readsPulse_1k 12 rfl)
        · refine zz_aload_n hC 0 (dk DX6_readsPulse_0k 52 rfl) rfl rfl ?_
          refine zz_bipush hC (dk DX6_readsPulse_0k 53 rfl) (by decide) ?_
          refine zz_bipush hC (dk DX6_readsPulse_0k 54 rfl) (by decide) ?_
          refine zz_pureVi hC (c_X6_isAt l D m0 m1 m2 m3 m4 m5 m6 m7 m8 m9 m10 NW PA AS tb st bo sh f1 f2 pk sv len ((zNe tb len (sp + 1))) rf u40 0 u40 ra bm ha n w K T U S F L 43 43 hlen hbt (by omega) (by omega)) G_X6_90 H_X6_isAt ⟨Nat.le_of_ble_eq_true rfl, Nat.le_of_ble_eq_true rfl⟩ rfl [0, 1, 2, 3, 4, 5, 6, 7, 8, 9, 10] rfl rfl 0 6 ⟨rfl, rfl, rfl⟩ (As := [.int (zI 43), .int (zI 43)]) (rest := []) (Nat.le_of_ble_eq_true rfl) rfl ⟨Nat.le_of_ble_eq_true rfl, Nat.le_of_ble_eq_true rfl⟩ (dk DX6_readsPulse_0k 55 rfl) ⟨rfl, rfl⟩ ?_
          refine zz_ifb_ne hC 113 (dk DX6_readsPulse_0k 56 rfl) (by decide) (fun c49 => ?_) (fun c49 => ?_)
          · have hsg : zNx tb len (zNe tb len (sp + 1)) = 43 ∨ zNx tb len (zNe tb len (sp + 1)) = 45 := by omega
            refine zz_aload_n hC 0 (dk DX6_readsPulse_0k 59 rfl) rfl rfl ?_
            refine zz_dup hC (dk DX6_readsPulse_1k 0 rfl) rfl ?_
            refine zz_get hC F_X6_84 0 rfl rfl (dk DX6_readsPulse_1k 1 rfl) ?_
            refine zz_iconst hC (dk DX6_readsPulse_1k 2 rfl) ?_
            refine zz_iadd hC (dk DX6_readsPulse_1k 3 rfl) ?_
            refine zz_put hC F_X6_84 fc_X6 rfl (tyX6_ok 7 (by decide)) 0 (ws' := [(m0, .inr (6, [.ref m1, .ref m2, .ref m3, .int (zI ((sv : Nat) : Int)), .int (zI rf), .ref m4, .int (zI ((len : Nat) : Int)), .int (zI (((zNe tb len (sp + 1)) + 1 : Nat) : Int)), .int (zI u40), .int (zI 0), .int (zI u40), .int (zI ra), .ref m5, .ref m6, .int (zI bm), .ref m7, .ref m8, .ref m9, .ref m10, .long (zL ha)])), (m1, iA D 771 NW), (m2, iA D 3084 PA), (m3, iA D 771 AS), (m4, iA D 150 tb), (m5, iA D 250 st), (m6, iA D 250 bo), (m7, iA D 250 sh), (m8, iA D 36 f1), (m9, iA D 36 f2), (m10, iA D 2778 pk)]) rfl rfl rfl (Nat.le_of_ble_eq_true rfl) rfl (dk DX6_readsPulse_1k 4 rfl) ?_
            refine zz_aload_n hC 0 (dk DX6_readsPulse_1k 5 rfl) rfl rfl ?_
            refine zz_get hC F_X6_84 0 rfl rfl (dk DX6_readsPulse_1k 6 rfl) ?_
            refine zz_istore_n hC (ls' := [(0, .ref m0), (1, .int (zI (zB (45 ≤ zNx tb len ((zNe tb len (sp + 1))) ∧ zNx tb len ((zNe tb len (sp + 1))) ≤ 45)))), (2, .int (zI (((zNe tb len (sp + 1)) + 1 : Nat) : Int)))]) [1, 2, 0] (dk DX6_readsPulse_1k 7 rfl) rfl (by decide) rfl ?_
            refine zz_aload_n hC 0 (dk DX6_readsPulse_1k 8 rfl) rfl rfl ?_
            refine zz_callVi hC (wr := []) (c_X6_reads l D m0 m1 m2 m3 m4 m5 m6 m7 m8 m9 m10 NW PA AS tb st bo sh f1 f2 pk sv len ((zNe tb len (sp + 1)) + 1) rf u40 0 u40 ra bm ha n w K T U S F L hlen hbt (by omega)) G_X6_97 H_X6_reads ⟨Nat.le_of_ble_eq_true rfl, Nat.le_of_ble_eq_true rfl⟩ rfl [0, 1, 2, 3, 4, 5, 6, 7, 8, 9, 10] [] rfl rfl ⟨rfl, rfl, by decide⟩ 0 6 ⟨rfl, rfl, rfl⟩ (As := []) (rest := []) (Nat.le_of_ble_eq_true rfl) rfl ⟨Nat.le_of_ble_eq_true rfl, Nat.le_of_ble_eq_true rfl⟩ (dk DX6_readsPulse_1k 9 rfl) ⟨rfl, rfl⟩ (wb := fun u50 => [(m0, .inr (6, [.ref m1, .ref m2, .ref m3, .int (zI ((sv : Nat) : Int)), .int (zI rf), .ref m4, .int (zI ((len : Nat) : Int)), .int (zI (((zNe tb len ((zNe tb len (sp + 1)) + 1)) : Nat) : Int)), .int (zI u50), .int (zI 0), .int (zI u40), .int (zI ra), .ref m5, .ref m6, .int (zI bm), .ref m7, .ref m8, .ref m9, .ref m10, .long (zL ha)])), (m1, iA D 771 NW), (m2, iA D 3084 PA), (m3, iA D 771 AS), (m4, iA D 150 tb), (m5, iA D 250 st), (m6, iA D 250 bo), (m7, iA D 250 sh), (m8, iA D 36 f1), (m9, iA D 36 f2), (m10, iA D 2778 pk)]) [0, 1, 2, 3, 4, 5, 6, 7, 8, 9, 10] rfl (fun _ => rfl) (fun u50 hu50 => ?_)
            have hne2 := zNe_in (tb := tb) (len := len) (q := (zNe tb len (sp + 1) + 1))
            refine zz_ifb_ne hC 137 (dk DX6_readsPulse_1k 10 rfl) (by decide) (fun c51 => ?_) (fun c51 => ?_)
            · have hv2 := hu50 (show zOkN tb len (zNe tb len (sp + 1) + 1) by assumption).1
              have hl2 := zNe_len (show zOkN tb len (zNe tb len (sp + 1) + 1) by assumption).1
              have hvr := zNv_in (show zOkN tb len (zNe tb len (sp + 1) + 1) by assumption).1
              refine zz_aload_n hC 0 (dk DX6_readsPulse_1k 13 rfl) rfl rfl ?_
              refine zz_get hC F_X6_87 0 rfl rfl (dk DX6_readsPulse_1k 14 rfl) ?_
              refine zz_sipush hC (dk DX6_readsPulse_1k 15 rfl) (by decide) ?_
              refine zz_icmp_le hC 154 (dk DX6_readsPulse_1k 16 rfl) (by decide) ⟨⟨by omega, by omega⟩, (by decide)⟩ (fun c52 => ?_) (fun c52 => ?_)
              · refine zz_aload_n hC 0 (dk DX6_readsPulse_1k 22 rfl) rfl rfl ?_
                refine zz_iload_n hC 1 (dk DX6_readsPulse_1k 23 rfl) rfl rfl ?_
                refine zz_ifb_eq hC 167 (dk DX6_readsPulse_1k 24 rfl) (by decide) (fun c53 => ?_) (fun c53 => ?_)
                · refine zz_aload_n hC 0 (dk DX6_readsPulse_1k 29 rfl) rfl rfl ?_
                  refine zz_get hC F_X6_87 0 rfl rfl (dk DX6_readsPulse_1k 30 rfl) ?_
                  refine zz_put hC F_X6_104 fc_X6 rfl (tyX6_ok 11 (by decide)) 0 (ws' := [(m0, .inr (6, [.ref m1, .ref m2, .ref m3, .int (zI ((sv : Nat) : Int)), .int (zI rf), .ref m4, .int (zI ((len : Nat) : Int)), .int (zI (((zNe tb len ((zNe tb len (sp + 1)) + 1)) : Nat) : Int)), .int (zI u50), .int (zI 0), .int (zI u40), .int (zI u50), .ref m5, .ref m6, .int (zI bm), .ref m7, .ref m8, .ref m9, .ref m10, .long (zL ha)])), (m1, iA D 771 NW), (m2, iA D 3084 PA), (m3, iA D 771 AS), (m4, iA D 150 tb), (m5, iA D 250 st), (m6, iA D 250 bo), (m7, iA D 250 sh), (m8, iA D 36 f1), (m9, iA D 36 f2), (m10, iA D 2778 pk)]) rfl rfl rfl (Nat.le_of_ble_eq_true rfl) rfl (dk DX6_readsPulse_1k 31 rfl) ?_
                  have hpe7 := pe_7 hk9 (by assumption) hsg (by assumption) (by omega)
                  have hpa : u50 = zPa tb len sp := pa_v (by omega)
                  have hpk : 0 = zPk0 tb len sp := pk0_v (by omega)
                  refine zz_aload_n hC 0 (dk DX6_readsPulse_1k 32 rfl) rfl rfl ?_
                  refine zz_bipush hC (dk DX6_readsPulse_1k 33 rfl) (by decide) ?_
                  refine zz_callVi hC (wr := []) (c_X6_passes l D m0 m1 m2 m3 m4 m5 m6 m7 m8 m9 m10 NW PA AS tb st bo sh f1 f2 pk sv len ((zNe tb len ((zNe tb len (sp + 1)) + 1))) rf u50 0 u40 u50 bm ha n w K T U S F L 59 hlen hbt (by omega) (by omega)) G_X6_107 H_X6_passes ⟨Nat.le_of_ble_eq_true rfl, Nat.le_of_ble_eq_true rfl⟩ rfl [0, 1, 2, 3, 4, 5, 6, 7, 8, 9, 10] [] rfl rfl ⟨rfl, rfl, by decide⟩ 0 6 ⟨rfl, rfl, rfl⟩ (As := [.int (zI 59)]) (rest := []) (Nat.le_of_ble_eq_true rfl) rfl ⟨Nat.le_of_ble_eq_true rfl, Nat.le_of_ble_eq_true rfl⟩ (dk DX6_readsPulse_1k 34 rfl) ⟨rfl, rfl⟩ (wb := fun u54 => [(m0, .inr (6, [.ref m1, .ref m2, .ref m3, .int (zI ((sv : Nat) : Int)), .int (zI rf), .ref m4, .int (zI ((len : Nat) : Int)), .int (zI ((u54 : Nat) : Int)), .int (zI u50), .int (zI 0), .int (zI u40), .int (zI u50), .ref m5, .ref m6, .int (zI bm), .ref m7, .ref m8, .ref m9, .ref m10, .long (zL ha)])), (m1, iA D 771 NW), (m2, iA D 3084 PA), (m3, iA D 771 AS), (m4, iA D 150 tb), (m5, iA D 250 st), (m6, iA D 250 bo), (m7, iA D 250 sh), (m8, iA D 36 f1), (m9, iA D 36 f2), (m10, iA D 2778 pk)]) [0, 1, 2, 3, 4, 5, 6, 7, 8, 9, 10] rfl (fun _ => rfl) (fun u54 hu54 => ?_)
                  exact zz_zret hC hQ hr (u54, u50, 0, u40, u50) (by by_cases e : zNx tb len (zNe tb len (zNe tb len (sp + 1) + 1)) = 59; exact rr_y (by rw [hpe7, if_neg (fun g => g e)]) (hu54.1 e) hpk hv1 hpa; exact rr_n (by rw [hpe7, if_pos e, hu54.2 e])) (by by_cases e : zNx tb len (zNe tb len (zNe tb len (sp + 1) + 1)) = 59; rw [zB_t (show 59 ≤ zNx tb len (zNe tb len (zNe tb len (sp + 1) + 1)) ∧ zNx tb len (zNe tb len (zNe tb len (sp + 1) + 1)) ≤ 59 by omega), zB_t (by rw [hpe7, if_neg (fun g => g e)])]; rw [zB_f (show ¬ (59 ≤ zNx tb len (zNe tb len (zNe tb len (sp + 1) + 1)) ∧ zNx tb len (zNe tb len (zNe tb len (sp + 1) + 1)) ≤ 59) by omega), zB_f (by rw [hpe7, if_pos e]; omega)]) (zB_01) [0, 1, 2, 3, 4, 5, 6, 7, 8, 9, 10] rfl rfl ⟨Nat.le_refl _, Nat.le_refl _⟩ (dk DX6_readsPulse_1k 35 rfl)
                · refine zz_aload_n hC 0 (dk DX6_readsPulse_1k 25 rfl) rfl rfl ?_
                  refine zz_get hC F_X6_87 0 rfl rfl (dk DX6_readsPulse_1k 26 rfl) ?_
                  refine zz_ineg hC (dk DX6_readsPulse_1k 27 rfl) ?_
                  refine zz_goto hC 171 (dk DX6_readsPulse_1k 28 rfl) (by decide) ?_
                  refine zz_put hC F_X6_104 fc_X6 rfl (tyX6_ok 11 (by decide)) 0 (ws' := [(m0, .inr (6, [.ref m1, .ref m2, .ref m3, .int (zI ((sv : Nat) : Int)), .int (zI rf), .ref m4, .int (zI ((len : Nat) : Int)), .int (zI (((zNe tb len ((zNe tb len (sp + 1)) + 1)) : Nat) : Int)), .int (zI u50), .int (zI 0), .int (zI u40), .int (zI (-u50)), .ref m5, .ref m6, .int (zI bm), .ref m7, .ref m8, .ref m9, .ref m10, .long (zL ha)])), (m1, iA D 771 NW), (m2, iA D 3084 PA), (m3, iA D 771 AS), (m4, iA D 150 tb), (m5, iA D 250 st), (m6, iA D 250 bo), (m7, iA D 250 sh), (m8, iA D 36 f1), (m9, iA D 36 f2), (m10, iA D 2778 pk)]) rfl rfl rfl (Nat.le_of_ble_eq_true rfl) rfl (dk DX6_readsPulse_1k 31 rfl) ?_
                  have hpe7 := pe_7 hk9 (by assumption) hsg (by assumption) (by omega)
                  have hpa : (-u50) = zPa tb len sp := pa_v (by omega)
                  have hpk : 0 = zPk0 tb len sp := pk0_v (by omega)
                  refine zz_aload_n hC 0 (dk DX6_readsPulse_1k 32 rfl) rfl rfl ?_
                  refine zz_bipush hC (dk DX6_readsPulse_1k 33 rfl) (by decide) ?_
                  refine zz_callVi hC (wr := []) (c_X6_passes l D m0 m1 m2 m3 m4 m5 m6 m7 m8 m9 m10 NW PA AS tb st bo sh f1 f2 pk sv len ((zNe tb len ((zNe tb len (sp + 1)) + 1))) rf u50 0 u40 (-u50) bm ha n w K T U S F L 59 hlen hbt (by omega) (by omega)) G_X6_107 H_X6_passes ⟨Nat.le_of_ble_eq_true rfl, Nat.le_of_ble_eq_true rfl⟩ rfl [0, 1, 2, 3, 4, 5, 6, 7, 8, 9, 10] [] rfl rfl ⟨rfl, rfl, by decide⟩ 0 6 ⟨rfl, rfl, rfl⟩ (As := [.int (zI 59)]) (rest := []) (Nat.le_of_ble_eq_true rfl) rfl ⟨Nat.le_of_ble_eq_true rfl, Nat.le_of_ble_eq_true rfl⟩ (dk DX6_readsPulse_1k 34 rfl) ⟨rfl, rfl⟩ (wb := fun u55 => [(m0, .inr (6, [.ref m1, .ref m2, .ref m3, .int (zI ((sv : Nat) : Int)), .int (zI rf), .ref m4, .int (zI ((len : Nat) : Int)), .int (zI ((u55 : Nat) : Int)), .int (zI u50), .int (zI 0), .int (zI u40), .int (zI (-u50)), .ref m5, .ref m6, .int (zI bm), .ref m7, .ref m8, .ref m9, .ref m10, .long (zL ha)])), (m1, iA D 771 NW), (m2, iA D 3084 PA), (m3, iA D 771 AS), (m4, iA D 150 tb), (m5, iA D 250 st), (m6, iA D 250 bo), (m7, iA D 250 sh), (m8, iA D 36 f1), (m9, iA D 36 f2), (m10, iA D 2778 pk)]) [0, 1, 2, 3, 4, 5, 6, 7, 8, 9, 10] rfl (fun _ => rfl) (fun u55 hu55 => ?_)
                  exact zz_zret hC hQ hr (u55, u50, 0, u40, (-u50)) (by by_cases e : zNx tb len (zNe tb len (zNe tb len (sp + 1) + 1)) = 59; exact rr_y (by rw [hpe7, if_neg (fun g => g e)]) (hu55.1 e) hpk hv1 hpa; exact rr_n (by rw [hpe7, if_pos e, hu55.2 e])) (by by_cases e : zNx tb len (zNe tb len (zNe tb len (sp + 1) + 1)) = 59; rw [zB_t (show 59 ≤ zNx tb len (zNe tb len (zNe tb len (sp + 1) + 1)) ∧ zNx tb len (zNe tb len (zNe tb len (sp + 1) + 1)) ≤ 59 by omega), zB_t (by rw [hpe7, if_neg (fun g => g e)])]; rw [zB_f (show ¬ (59 ≤ zNx tb len (zNe tb len (zNe tb len (sp + 1) + 1)) ∧ zNx tb len (zNe tb len (zNe tb len (sp + 1) + 1)) ≤ 59) by omega), zB_f (by rw [hpe7, if_pos e]; omega)]) (zB_01) [0, 1, 2, 3, 4, 5, 6, 7, 8, 9, 10] rfl rfl ⟨Nat.le_refl _, Nat.le_refl _⟩ (dk DX6_readsPulse_1k 35 rfl)
              · refine zz_aload_n hC 0 (dk DX6_readsPulse_1k 17 rfl) rfl rfl ?_
                refine zz_iload_n hC 2 (dk DX6_readsPulse_1k 18 rfl) rfl rfl ?_
                refine zz_put hC F_X6_84 fc_X6 rfl (tyX6_ok 7 (by decide)) 0 (ws' := [(m0, .inr (6, [.ref m1, .ref m2, .ref m3, .int (zI ((sv : Nat) : Int)), .int (zI rf), .ref m4, .int (zI ((len : Nat) : Int)), .int (zI (((zNe tb len (sp + 1)) + 1 : Nat) : Int)), .int (zI u50), .int (zI 0), .int (zI u40), .int (zI ra), .ref m5, .ref m6, .int (zI bm), .ref m7, .ref m8, .ref m9, .ref m10, .long (zL ha)])), (m1, iA D 771 NW), (m2, iA D 3084 PA), (m3, iA D 771 AS), (m4, iA D 150 tb), (m5, iA D 250 st), (m6, iA D 250 bo), (m7, iA D 250 sh), (m8, iA D 36 f1), (m9, iA D 36 f2), (m10, iA D 2778 pk)]) rfl rfl rfl (Nat.le_of_ble_eq_true rfl) rfl (dk DX6_readsPulse_1k 19 rfl) ?_
                refine zz_iconst hC (dk DX6_readsPulse_1k 20 rfl) ?_
                have hpe := pe_6 hk9 (by assumption) hsg (by assumption) (by omega)
                exact zz_zret hC hQ hr (((zNe tb len (sp + 1)) + 1), u50, 0, u40, ra) (rr_n hpe) (zB_f (by rw [hpe]; omega)).symm (by decide) [0, 1, 2, 3, 4, 5, 6, 7, 8, 9, 10] rfl rfl ⟨Nat.le_refl _, Nat.le_refl _⟩ (dk DX6_readsPulse_1k 21 rfl)
            · refine zz_iconst hC (dk DX6_readsPulse_1k 11 rfl) ?_
              have hpe := pe_5 hk9 (by assumption) hsg (by assumption)
              exact zz_zret hC hQ hr (((zNe tb len ((zNe tb len (sp + 1)) + 1))), u50, 0, u40, ra) (rr_n hpe) (zB_f (by rw [hpe]; omega)).symm (by decide) [0, 1, 2, 3, 4, 5, 6, 7, 8, 9, 10] rfl rfl ⟨Nat.le_refl _, Nat.le_refl _⟩ (dk DX6_readsPulse_1k 12 rfl)
          · refine zz_iconst hC (dk DX6_readsPulse_0k 57 rfl) ?_
            have hpe := pe_4 hk9 (by assumption) (by omega)
            exact zz_zret hC hQ hr (((zNe tb len (sp + 1))), u40, 0, u40, ra) (rr_n hpe) (zB_f (by rw [hpe]; omega)).symm (by decide) [0, 1, 2, 3, 4, 5, 6, 7, 8, 9, 10] rfl rfl ⟨Nat.le_refl _, Nat.le_refl _⟩ (dk DX6_readsPulse_0k 58 rfl)
      · refine zz_iconst hC (dk DX6_readsPulse_0k 39 rfl) ?_
        have hpe := pe_2 hk9 (by assumption)
        exact zz_zret hC hQ hr (((zNe tb len (sp + 1))), u40, 0, rt, ra) (rr_n hpe) (zB_f (by rw [hpe]; omega)).symm (by decide) [0, 1, 2, 3, 4, 5, 6, 7, 8, 9, 10] rfl rfl ⟨Nat.le_refl _, Nat.le_refl _⟩ (dk DX6_readsPulse_0k 40 rfl)
    · exfalso; omega
