set_option maxHeartbeats 4000000 in
set_option maxRecDepth 100000 in
theorem c_X6_saves (l : Launch) (D : zG) (m0 : Nat) (m1 : Nat) (m2 : Nat) (m3 : Nat) (m4 : Nat) (m5 : Nat) (m6 : Nat) (m7 : Nat) (m8 : Nat) (m9 : Nat) (m10 : Nat) (NW : Nat → Int) (PA : Nat → Int) (AS : Nat → Int) (tb : Nat → Int) (st : Nat → Int) (bo : Nat → Int) (sh : Nat → Int) (f1 : Nat → Int) (f2 : Nat → Int) (pk : Nat → Int) (sv : Nat) (len : Nat) (sp : Nat) (rf : Int) (nu : Int) (rk : Int) (rt : Int) (ra : Int) (bm : Int) (ha : Int) (n : Nat) (w : Nat) (K : Nat → Int) (T : Nat → Int) (U : Nat → Int) (S : Nat → Int) (F : Nat → Int) (L : Nat → Int) (hsv : sv ≤ 4) : CV (S := Nat → Int) l yX6_saves cX6_saves 2 (none) ({ frames := 0, cells := 0, slots := 0, locals := 0 } : Room) D [.ref m0] [(m0, .inr (6, [.ref m1, .ref m2, .ref m3, .int (zI ((sv : Nat) : Int)), .int (zI rf), .ref m4, .int (zI ((len : Nat) : Int)), .int (zI ((sp : Nat) : Int)), .int (zI nu), .int (zI rk), .int (zI rt), .int (zI ra), .ref m5, .ref m6, .int (zI bm), .ref m7, .ref m8, .ref m9, .ref m10, .long (zL ha)])), (m1, iA D 771 NW), (m2, iA D 3084 PA), (m3, iA D 771 AS), (m4, iA D 150 tb), (m5, iA D 250 st), (m6, iA D 250 bo), (m7, iA D 250 sh), (m8, iA D 36 f1), (m9, iA D 36 f2), (m10, iA D 2778 pk)] (fun u => zSv NW PA sv u)  (fun u => [(m0, .inr (6, [.ref m1, .ref m2, .ref m3, .int (zI ((zMs sv : Nat) : Int)), .int (zI rf), .ref m4, .int (zI ((len : Nat) : Int)), .int (zI ((sp : Nat) : Int)), .int (zI nu), .int (zI rk), .int (zI rt), .int (zI ra), .ref m5, .ref m6, .int (zI bm), .ref m7, .ref m8, .ref m9, .ref m10, .long (zL ha)])), (m1, iA D 771 NW), (m2, iA D 3084 u), (m3, iA D 771 AS), (m4, iA D 150 tb), (m5, iA D 250 st), (m6, iA D 250 bo), (m7, iA D 250 sh), (m8, iA D 36 f1), (m9, iA D 36 f2), (m10, iA D 2778 pk)]) := by
  refine CV_of (by decide) (Nat.le_of_ble_eq_true rfl) ?_
  intro p e s m args below meth cd A Q hQ hC hr hnm
  have hC : ZC p s m args meth cd A D 2 cX6_saves RX6 := hC
  show Z p l e ({ frames := 0, cells := 0, slots := 0, locals := 0 } : Room) s m args below meth cd A D Q 2 0 0 [(m0, .inr (6, [.ref m1, .ref m2, .ref m3, .int (zI ((sv : Nat) : Int)), .int (zI rf), .ref m4, .int (zI ((len : Nat) : Int)), .int (zI ((sp : Nat) : Int)), .int (zI nu), .int (zI rk), .int (zI rt), .int (zI ra), .ref m5, .ref m6, .int (zI bm), .ref m7, .ref m8, .ref m9, .ref m10, .long (zL ha)])), (m1, iA D 771 NW), (m2, iA D 3084 PA), (m3, iA D 771 AS), (m4, iA D 150 tb), (m5, iA D 250 st), (m6, iA D 250 bo), (m7, iA D 250 sh), (m8, iA D 36 f1), (m9, iA D 36 f2), (m10, iA D 2778 pk)] [(0, .ref m0)] [] 0
  refine zz_aload_n hC 0 (dk DX6_saves_0k 0 rfl) rfl rfl ?_
  refine zz_get hC F_X6_44 0 rfl rfl (dk DX6_saves_0k 1 rfl) ?_
  refine zz_iconst hC (dk DX6_saves_0k 2 rfl) ?_
  refine zz_icmp_ne hC 49 (dk DX6_saves_0k 3 rfl) (by decide) ⟨⟨by omega, by omega⟩, (by decide)⟩ (fun c1 => ?_) (fun c1 => ?_)
  · refine zz_iconst hC (dk DX6_saves_0k 27 rfl) ?_
    refine zz_istore_n hC (ls' := [(0, .ref m0), (1, .int (zI 0))]) [1, 0] (dk DX6_saves_0k 28 rfl) rfl (by decide) rfl ?_
    have LP51 : ∀ (fuel51 : Nat) (i : Nat) (P2 : Nat → Int), (i ≤ 771) → (∀ k, P2 k = if (771 * sv) ≤ k ∧ k < (771 * sv) + i then NW (k - (771 * sv)) else PA k) → 771 - i < fuel51 → Z p l e ({ frames := 0, cells := 0, slots := 0, locals := 0 } : Room) s m args below meth cd A D Q 2 0 0 [(m0, .inr (6, [.ref m1, .ref m2, .ref m3, .int (zI ((sv : Nat) : Int)), .int (zI rf), .ref m4, .int (zI ((len : Nat) : Int)), .int (zI ((sp : Nat) : Int)), .int (zI nu), .int (zI rk), .int (zI rt), .int (zI ra), .ref m5, .ref m6, .int (zI bm), .ref m7, .ref m8, .ref m9, .ref m10, .long (zL ha)])), (m1, iA D 771 NW), (m2, iA D 3084 P2), (m3, iA D 771 AS), (m4, iA D 150 tb), (m5, iA D 250 st), (m6, iA D 250 bo), (m7, iA D 250 sh), (m8, iA D 36 f1), (m9, iA D 36 f2), (m10, iA D 2778 pk)] [(0, .ref m0), (1, .int (zI ((i : Nat) : Int)))] [] 51 := by
      intro fuel51
      induction fuel51 with
      | zero => intro i P2 hi hp2 hfu; exact absurd hfu (Nat.not_lt_zero _)
      | succ fuel51 ih51 =>
        intro i P2 hi hp2 hfu51
        refine zz_iload_n hC 1 (dk DX6_saves_0k 29 rfl) rfl rfl ?_
        refine zz_sipush hC (dk DX6_saves_0k 30 rfl) (by decide) ?_
        refine zz_icmp_ge hC 85 (dk DX6_saves_0k 31 rfl) (by decide) ⟨⟨by omega, by omega⟩, (by decide)⟩ (fun c2 => ?_) (fun c2 => ?_)
        · refine zz_aload_n hC 0 (dk DX6_saves_0k 47 rfl) rfl rfl ?_
          refine zz_dup hC (dk DX6_saves_0k 48 rfl) rfl ?_
          refine zz_get hC F_X6_44 0 rfl rfl (dk DX6_saves_0k 49 rfl) ?_
          refine zz_iconst hC (dk DX6_saves_0k 50 rfl) ?_
          refine zz_iadd hC (dk DX6_saves_0k 51 rfl) ?_
          refine zz_put hC F_X6_44 fc_X6 rfl (tyX6_ok 3 (by decide)) 0 (ws' := [(m0, .inr (6, [.ref m1, .ref m2, .ref m3, .int (zI ((sv + 1 : Nat) : Int)), .int (zI rf), .ref m4, .int (zI ((len : Nat) : Int)), .int (zI ((sp : Nat) : Int)), .int (zI nu), .int (zI rk), .int (zI rt), .int (zI ra), .ref m5, .ref m6, .int (zI bm), .ref m7, .ref m8, .ref m9, .ref m10, .long (zL ha)])), (m1, iA D 771 NW), (m2, iA D 3084 P2), (m3, iA D 771 AS), (m4, iA D 150 tb), (m5, iA D 250 st), (m6, iA D 250 bo), (m7, iA D 250 sh), (m8, iA D 36 f1), (m9, iA D 36 f2), (m10, iA D 2778 pk)]) rfl rfl rfl (Nat.le_of_ble_eq_true rfl) rfl (dk DX6_saves_0k 52 rfl) ?_
          rw [show ((sv + 1 : Nat) : Int) = ((zMs sv : Nat) : Int) by unfold zMs; split <;> omega]
          exact zz_ret hC hQ hr P2 (sv_lo (by omega) (by rw [show i = 771 by omega] at hp2; exact hp2)) [0, 1, 2, 3, 4, 5, 6, 7, 8, 9, 10] rfl rfl ⟨Nat.le_refl _, Nat.le_refl _⟩ (dk DX6_saves_0k 53 rfl)
        · refine zz_aload_n hC 0 (dk DX6_saves_0k 32 rfl) rfl rfl ?_
          refine zz_get hC F_X6_13 0 rfl rfl (dk DX6_saves_0k 33 rfl) ?_
          refine zz_sipush hC (dk DX6_saves_0k 34 rfl) (by decide) ?_
          refine zz_aload_n hC 0 (dk DX6_saves_0k 35 rfl) rfl rfl ?_
          refine zz_get hC F_X6_44 0 rfl rfl (dk DX6_saves_0k 36 rfl) ?_
          refine zz_imul hC (dk DX6_saves_0k 37 rfl) ?_
          refine zz_iload_n hC 1 (dk DX6_saves_0k 38 rfl) rfl rfl ?_
          refine zz_iadd hC (dk DX6_saves_0k 39 rfl) ?_
          refine zz_aload_n hC 0 (dk DX6_saves_0k 40 rfl) rfl rfl ?_
          refine zz_get hC F_X6_7 0 rfl rfl (dk DX6_saves_0k 41 rfl) ?_
          refine zz_iload_n hC 1 (dk DX6_saves_0k 42 rfl) rfl rfl ?_
          refine zz_iald hC i 1 rfl rfl (by omega) (dk DX6_saves_0k 43 rfl) ?_
          refine zz_iast hC (ws' := [(m0, .inr (6, [.ref m1, .ref m2, .ref m3, .int (zI ((sv : Nat) : Int)), .int (zI rf), .ref m4, .int (zI ((len : Nat) : Int)), .int (zI ((sp : Nat) : Int)), .int (zI nu), .int (zI rk), .int (zI rt), .int (zI ra), .ref m5, .ref m6, .int (zI bm), .ref m7, .ref m8, .ref m9, .ref m10, .long (zL ha)])), (m1, iA D 771 NW), (m2, iA D 3084 (zU P2 ((771 * sv) + i) (NW i))), (m3, iA D 771 AS), (m4, iA D 150 tb), (m5, iA D 250 st), (m6, iA D 250 bo), (m7, iA D 250 sh), (m8, iA D 36 f1), (m9, iA D 36 f2), (m10, iA D 2778 pk)]) ((771 * sv) + i) 2 rfl (by omega) (by omega) rfl (dk DX6_saves_0k 44 rfl) ?_
          refine zz_iinc hC ((i + 1 : Nat) : Int) (ls' := [(0, .ref m0), (1, .int (zI ((i + 1 : Nat) : Int)))]) 1 [1, 0] (dk DX6_saves_0k 45 rfl) rfl (by omega) (by decide) rfl ?_
          refine zz_goto hC 51 (dk DX6_saves_0k 46 rfl) (by decide) ?_
          refine zz_ls [0, 1] rfl ?_
          exact ih51 (i + 1) (zU P2 ((771 * sv) + i) (NW i)) (by omega) (cp_b hp2) (by omega)
    refine zz_ls [0, 1] rfl ?_
    exact LP51 _ 0 PA (by omega) (fun k => by rw [if_neg (by omega)]) (Nat.lt_succ_self _)
  · refine zz_iconst hC (dk DX6_saves_0k 4 rfl) ?_
    refine zz_istore_n hC (ls' := [(0, .ref m0), (1, .int (zI 0))]) [1, 0] (dk DX6_saves_0k 5 rfl) rfl (by decide) rfl ?_
    have LP10 : ∀ (fuel10 : Nat) (i : Nat) (P1 : Nat → Int), (i ≤ 2313) → (∀ k, P1 k = if k < i then PA (k + 771) else PA k) → 2313 - i < fuel10 → Z p l e ({ frames := 0, cells := 0, slots := 0, locals := 0 } : Room) s m args below meth cd A D Q 2 0 0 [(m0, .inr (6, [.ref m1, .ref m2, .ref m3, .int (zI ((sv : Nat) : Int)), .int (zI rf), .ref m4, .int (zI ((len : Nat) : Int)), .int (zI ((sp : Nat) : Int)), .int (zI nu), .int (zI rk), .int (zI rt), .int (zI ra), .ref m5, .ref m6, .int (zI bm), .ref m7, .ref m8, .ref m9, .ref m10, .long (zL ha)])), (m1, iA D 771 NW), (m2, iA D 3084 P1), (m3, iA D 771 AS), (m4, iA D 150 tb), (m5, iA D 250 st), (m6, iA D 250 bo), (m7, iA D 250 sh), (m8, iA D 36 f1), (m9, iA D 36 f2), (m10, iA D 2778 pk)] [(0, .ref m0), (1, .int (zI ((i : Nat) : Int)))] [] 10 := by
      intro fuel10
      induction fuel10 with
      | zero => intro i P1 hi hp1 hfu; exact absurd hfu (Nat.not_lt_zero _)
      | succ fuel10 ih10 =>
        intro i P1 hi hp1 hfu10
        refine zz_iload_n hC 1 (dk DX6_saves_0k 6 rfl) rfl rfl ?_
        refine zz_sipush hC (dk DX6_saves_0k 7 rfl) (by decide) ?_
        refine zz_icmp_ge hC 39 (dk DX6_saves_0k 8 rfl) (by decide) ⟨⟨by omega, by omega⟩, (by decide)⟩ (fun c3 => ?_) (fun c3 => ?_)
        · have hp19 : ∀ k, P1 k = if k < 2313 then PA (k + 771) else PA k := by rw [show i = 2313 by omega] at hp1; exact hp1
          refine zz_aload_n hC 0 (dk DX6_saves_0k 21 rfl) rfl rfl ?_
          refine zz_dup hC (dk DX6_saves_0k 22 rfl) rfl ?_
          refine zz_get hC F_X6_44 0 rfl rfl (dk DX6_saves_0k 23 rfl) ?_
          refine zz_iconst hC (dk DX6_saves_0k 24 rfl) ?_
          refine zz_isub hC (dk DX6_saves_0k 25 rfl) ?_
          refine zz_put hC F_X6_44 fc_X6 rfl (tyX6_ok 3 (by decide)) 0 (ws' := [(m0, .inr (6, [.ref m1, .ref m2, .ref m3, .int (zI (((sv : Nat) : Int) - 1)), .int (zI rf), .ref m4, .int (zI ((len : Nat) : Int)), .int (zI ((sp : Nat) : Int)), .int (zI nu), .int (zI rk), .int (zI rt), .int (zI ra), .ref m5, .ref m6, .int (zI bm), .ref m7, .ref m8, .ref m9, .ref m10, .long (zL ha)])), (m1, iA D 771 NW), (m2, iA D 3084 P1), (m3, iA D 771 AS), (m4, iA D 150 tb), (m5, iA D 250 st), (m6, iA D 250 bo), (m7, iA D 250 sh), (m8, iA D 36 f1), (m9, iA D 36 f2), (m10, iA D 2778 pk)]) rfl rfl rfl (Nat.le_of_ble_eq_true rfl) rfl (dk DX6_saves_0k 26 rfl) ?_
          rw [show ((sv : Nat) : Int) - 1 = 3 by omega]
          refine zz_iconst hC (dk DX6_saves_0k 27 rfl) ?_
          refine zz_istore_n hC (ls' := [(0, .ref m0), (1, .int (zI 0))]) [1, 0] (dk DX6_saves_0k 28 rfl) rfl (by decide) rfl ?_
          have LP51 : ∀ (fuel51 : Nat) (i : Nat) (P2 : Nat → Int), (i ≤ 771) → (∀ k, P2 k = if (771 * 3) ≤ k ∧ k < (771 * 3) + i then NW (k - (771 * 3)) else P1 k) → 771 - i < fuel51 → Z p l e ({ frames := 0, cells := 0, slots := 0, locals := 0 } : Room) s m args below meth cd A D Q 2 0 0 [(m0, .inr (6, [.ref m1, .ref m2, .ref m3, .int (zI 3), .int (zI rf), .ref m4, .int (zI ((len : Nat) : Int)), .int (zI ((sp : Nat) : Int)), .int (zI nu), .int (zI rk), .int (zI rt), .int (zI ra), .ref m5, .ref m6, .int (zI bm), .ref m7, .ref m8, .ref m9, .ref m10, .long (zL ha)])), (m1, iA D 771 NW), (m2, iA D 3084 P2), (m3, iA D 771 AS), (m4, iA D 150 tb), (m5, iA D 250 st), (m6, iA D 250 bo), (m7, iA D 250 sh), (m8, iA D 36 f1), (m9, iA D 36 f2), (m10, iA D 2778 pk)] [(0, .ref m0), (1, .int (zI ((i : Nat) : Int)))] [] 51 := by
            intro fuel51
            induction fuel51 with
            | zero => intro i P2 hi hp2 hfu; exact absurd hfu (Nat.not_lt_zero _)
            | succ fuel51 ih51 =>
              intro i P2 hi hp2 hfu51
              refine zz_iload_n hC 1 (dk DX6_saves_0k 29 rfl) rfl rfl ?_
              refine zz_sipush hC (dk DX6_saves_0k 30 rfl) (by decide) ?_
              refine zz_icmp_ge hC 85 (dk DX6_saves_0k 31 rfl) (by decide) ⟨⟨by omega, by omega⟩, (by decide)⟩ (fun c4 => ?_) (fun c4 => ?_)
              · refine zz_aload_n hC 0 (dk DX6_saves_0k 47 rfl) rfl rfl ?_
                refine zz_dup hC (dk DX6_saves_0k 48 rfl) rfl ?_
                refine zz_get hC F_X6_44 0 rfl rfl (dk DX6_saves_0k 49 rfl) ?_
                refine zz_iconst hC (dk DX6_saves_0k 50 rfl) ?_
                refine zz_iadd hC (dk DX6_saves_0k 51 rfl) ?_
                refine zz_put hC F_X6_44 fc_X6 rfl (tyX6_ok 3 (by decide)) 0 (ws' := [(m0, .inr (6, [.ref m1, .ref m2, .ref m3, .int (zI (3 + 1)), .int (zI rf), .ref m4, .int (zI ((len : Nat) : Int)), .int (zI ((sp : Nat) : Int)), .int (zI nu), .int (zI rk), .int (zI rt), .int (zI ra), .ref m5, .ref m6, .int (zI bm), .ref m7, .ref m8, .ref m9, .ref m10, .long (zL ha)])), (m1, iA D 771 NW), (m2, iA D 3084 P2), (m3, iA D 771 AS), (m4, iA D 150 tb), (m5, iA D 250 st), (m6, iA D 250 bo), (m7, iA D 250 sh), (m8, iA D 36 f1), (m9, iA D 36 f2), (m10, iA D 2778 pk)]) rfl rfl rfl (Nat.le_of_ble_eq_true rfl) rfl (dk DX6_saves_0k 52 rfl) ?_
                rw [show (3 + 1) = ((zMs sv : Nat) : Int) by unfold zMs; split <;> omega]
                exact zz_ret hC hQ hr P2 (sv_hi (by omega) hp19 (by rw [show i = 771 by omega] at hp2; exact hp2)) [0, 1, 2, 3, 4, 5, 6, 7, 8, 9, 10] rfl rfl ⟨Nat.le_refl _, Nat.le_refl _⟩ (dk DX6_saves_0k 53 rfl)
              · refine zz_aload_n hC 0 (dk DX6_saves_0k 32 rfl) rfl rfl ?_
                refine zz_get hC F_X6_13 0 rfl rfl (dk DX6_saves_0k 33 rfl) ?_
                refine zz_sipush hC (dk DX6_saves_0k 34 rfl) (by decide) ?_
                refine zz_aload_n hC 0 (dk DX6_saves_0k 35 rfl) rfl rfl ?_
                refine zz_get hC F_X6_44 0 rfl rfl (dk DX6_saves_0k 36 rfl) ?_
                refine zz_imul hC (dk DX6_saves_0k 37 rfl) ?_
                refine zz_iload_n hC 1 (dk DX6_saves_0k 38 rfl) rfl rfl ?_
                refine zz_iadd hC (dk DX6_saves_0k 39 rfl) ?_
                refine zz_aload_n hC 0 (dk DX6_saves_0k 40 rfl) rfl rfl ?_
                refine zz_get hC F_X6_7 0 rfl rfl (dk DX6_saves_0k 41 rfl) ?_
                refine zz_iload_n hC 1 (dk DX6_saves_0k 42 rfl) rfl rfl ?_
                refine zz_iald hC i 1 rfl rfl (by omega) (dk DX6_saves_0k 43 rfl) ?_
                refine zz_iast hC (ws' := [(m0, .inr (6, [.ref m1, .ref m2, .ref m3, .int (zI 3), .int (zI rf), .ref m4, .int (zI ((len : Nat) : Int)), .int (zI ((sp : Nat) : Int)), .int (zI nu), .int (zI rk), .int (zI rt), .int (zI ra), .ref m5, .ref m6, .int (zI bm), .ref m7, .ref m8, .ref m9, .ref m10, .long (zL ha)])), (m1, iA D 771 NW), (m2, iA D 3084 (zU P2 ((771 * 3) + i) (NW i))), (m3, iA D 771 AS), (m4, iA D 150 tb), (m5, iA D 250 st), (m6, iA D 250 bo), (m7, iA D 250 sh), (m8, iA D 36 f1), (m9, iA D 36 f2), (m10, iA D 2778 pk)]) ((771 * 3) + i) 2 rfl (by omega) (by omega) rfl (dk DX6_saves_0k 44 rfl) ?_
                refine zz_iinc hC ((i + 1 : Nat) : Int) (ls' := [(0, .ref m0), (1, .int (zI ((i + 1 : Nat) : Int)))]) 1 [1, 0] (dk DX6_saves_0k 45 rfl) rfl (by omega) (by decide) rfl ?_
                refine zz_goto hC 51 (dk DX6_saves_0k 46 rfl) (by decide) ?_
                refine zz_ls [0, 1] rfl ?_
                exact ih51 (i + 1) (zU P2 ((771 * 3) + i) (NW i)) (by omega) (cp_b hp2) (by omega)
          refine zz_ls [0, 1] rfl ?_
          exact LP51 _ 0 P1 (by omega) (fun k => by rw [if_neg (by omega)]) (Nat.lt_succ_self _)
        · refine zz_aload_n hC 0 (dk DX6_saves_0k 9 rfl) rfl rfl ?_
          refine zz_get hC F_X6_13 0 rfl rfl (dk DX6_saves_0k 10 rfl) ?_
          refine zz_iload_n hC 1 (dk DX6_saves_0k 11 rfl) rfl rfl ?_
          refine zz_aload_n hC 0 (dk DX6_saves_0k 12 rfl) rfl rfl ?_
          refine zz_get hC F_X6_13 0 rfl rfl (dk DX6_saves_0k 13 rfl) ?_
          refine zz_iload_n hC 1 (dk DX6_saves_0k 14 rfl) rfl rfl ?_
          refine zz_sipush hC (dk DX6_saves_0k 15 rfl) (by decide) ?_
          refine zz_iadd hC (dk DX6_saves_0k 16 rfl) ?_
          refine zz_iald hC (i + 771) 2 rfl rfl (by omega) (dk DX6_saves_0k 17 rfl) ?_
          refine zz_iast hC (ws' := [(m0, .inr (6, [.ref m1, .ref m2, .ref m3, .int (zI ((sv : Nat) : Int)), .int (zI rf), .ref m4, .int (zI ((len : Nat) : Int)), .int (zI ((sp : Nat) : Int)), .int (zI nu), .int (zI rk), .int (zI rt), .int (zI ra), .ref m5, .ref m6, .int (zI bm), .ref m7, .ref m8, .ref m9, .ref m10, .long (zL ha)])), (m1, iA D 771 NW), (m2, iA D 3084 (zU P1 i (P1 (i + 771)))), (m3, iA D 771 AS), (m4, iA D 150 tb), (m5, iA D 250 st), (m6, iA D 250 bo), (m7, iA D 250 sh), (m8, iA D 36 f1), (m9, iA D 36 f2), (m10, iA D 2778 pk)]) i 2 rfl rfl (by omega) rfl (dk DX6_saves_0k 18 rfl) ?_
          refine zz_iinc hC ((i + 1 : Nat) : Int) (ls' := [(0, .ref m0), (1, .int (zI ((i + 1 : Nat) : Int)))]) 1 [1, 0] (dk DX6_saves_0k 19 rfl) rfl (by omega) (by decide) rfl ?_
          refine zz_goto hC 10 (dk DX6_saves_0k 20 rfl) (by decide) ?_
          refine zz_ls [0, 1] rfl ?_
          exact ih10 (i + 1) (zU P1 i (P1 (i + 771))) (by omega) (cp_a hp1) (by omega)
    refine zz_ls [0, 1] rfl ?_
    exact LP10 _ 0 PA (by omega) (fun k => by rw [if_neg (by omega)]) (Nat.lt_succ_self _)
set_option maxHeartbeats 4000000 in
set_option maxRecDepth 100000 in
theorem c_X6_isSetting (l : Launch) (D : zG) (x : Int) (hri : (-2147483648 ≤ x ∧ x ≤ 2147483647)) : CI (S := Unit) l yX6_isSetting cX6_isSetting 1 ((some .boolean)) ({ frames := 1, cells := 0, slots := 0, locals := 22 } : Room) D [.int (zI x)] [] (fun _ => True) (fun _ => zB (0 ≤ x ∧ x ≤ 10)) (fun _ => []) := by
  refine CI_of (by decide) (Nat.le_of_ble_eq_true rfl) ?_
  intro p e s m args below meth cd A Q hQ hC hr hnm
  have hC : ZC p s m args meth cd A D 1 cX6_isSetting RX6 := hC
  show Z p l e ({ frames := 1, cells := 0, slots := 0, locals := 22 } : Room) s m args below meth cd A D Q 1 0 0 [] [(0, .int (zI x))] [] 0
  refine zz_iload_n hC 0 (dk DX6_isSetting_0k 0 rfl) rfl rfl ?_
  refine zz_iconst hC (dk DX6_isSetting_0k 1 rfl) ?_
  refine zz_bipush hC (dk DX6_isSetting_0k 2 rfl) (by decide) ?_
  refine zz_pureSi hC (c_X6_within l D x 0 10 (by omega)) G_X6_52 H_X6_within.2 ⟨Nat.le_of_ble_eq_true rfl, Nat.le_of_ble_eq_true rfl⟩ rfl [] rfl rfl (As := [.int (zI x), .int (zI 0), .int (zI 10)]) (rest := []) (Nat.le_of_ble_eq_true rfl) rfl ⟨Nat.le_of_ble_eq_true rfl, Nat.le_of_ble_eq_true rfl⟩ (dk DX6_isSetting_0k 3 rfl) ⟨rfl, rfl⟩ ?_
  exact zz_zret hC hQ hr () trivial rfl (zB_01) [] rfl rfl ⟨Nat.le_refl _, Nat.le_refl _⟩ (dk DX6_isSetting_0k 4 rfl)
set_option maxHeartbeats 4000000 in
set_option maxRecDepth 100000 in
theorem c_X6_least (l : Launch) (D : zG) (x : Int) (hx : 0 ≤ x ∧ x ≤ 10) : CI (S := Unit) l yX6_least cX6_least 1 ((some .int)) ({ frames := 0, cells := 0, slots := 0, locals := 0 } : Room) D [.int (zI x)] [] (fun _ => True) (fun _ => (zLow x.toNat)) (fun _ => []) := by
  refine CI_of (by decide) (Nat.le_of_ble_eq_true rfl) ?_
  intro p e s m args below meth cd A Q hQ hC hr hnm
  have hC : ZC p s m args meth cd A D 1 cX6_least RX6 := hC
  show Z p l e ({ frames := 0, cells := 0, slots := 0, locals := 0 } : Room) s m args below meth cd A D Q 1 0 0 [] [(0, .int (zI x))] [] 0
  refine zz_iload_n hC 0 (dk DX6_least_0k 0 rfl) rfl rfl ?_
  refine zz_iconst hC (dk DX6_least_0k 1 rfl) ?_
  refine zz_icmp_eq hC 22 (dk DX6_least_0k 2 rfl) (by decide) ⟨⟨by omega, by omega⟩, (by decide)⟩ (fun c1 => ?_) (fun c1 => ?_)
  · refine zz_iconst hC (dk DX6_least_0k 12 rfl) ?_
    refine zz_goto hC 27 (dk DX6_least_0k 13 rfl) (by decide) ?_
    exact zz_iret hC hQ hr () trivial (by rcases (show x = 0 ∨ x = 1 ∨ x = 2 ∨ x = 3 ∨ x = 4 ∨ x = 5 ∨ x = 6 ∨ x = 7 ∨ x = 8 ∨ x = 9 ∨ x = 10 by omega) with h | h | h | h | h | h | h | h | h | h | h <;> subst h <;> first | rfl | omega) [] rfl rfl ⟨Nat.le_refl _, Nat.le_refl _⟩ (dk DX6_least_0k 15 rfl)
  · refine zz_iload_n hC 0 (dk DX6_least_0k 3 rfl) rfl rfl ?_
    refine zz_iconst hC (dk DX6_least_0k 4 rfl) ?_
    refine zz_icmp_eq hC 22 (dk DX6_least_0k 5 rfl) (by decide) ⟨⟨by omega, by omega⟩, (by decide)⟩ (fun c2 => ?_) (fun c2 => ?_)
    · refine zz_iconst hC (dk DX6_least_0k 12 rfl) ?_
      refine zz_goto hC 27 (dk DX6_least_0k 13 rfl) (by decide) ?_
      exact zz_iret hC hQ hr () trivial (by rcases (show x = 0 ∨ x = 1 ∨ x = 2 ∨ x = 3 ∨ x = 4 ∨ x = 5 ∨ x = 6 ∨ x = 7 ∨ x = 8 ∨ x = 9 ∨ x = 10 by omega) with h | h | h | h | h | h | h | h | h | h | h <;> subst h <;> first | rfl | omega) [] rfl rfl ⟨Nat.le_refl _, Nat.le_refl _⟩ (dk DX6_least_0k 15 rfl)
    · refine zz_iload_n hC 0 (dk DX6_least_0k 6 rfl) rfl rfl ?_
      refine zz_bipush hC (dk DX6_least_0k 7 rfl) (by decide) ?_
      refine zz_icmp_eq hC 22 (dk DX6_least_0k 8 rfl) (by decide) ⟨⟨by omega, by omega⟩, (by decide)⟩ (fun c3 => ?_) (fun c3 => ?_)
      · refine zz_iconst hC (dk DX6_least_0k 12 rfl) ?_
        refine zz_goto hC 27 (dk DX6_least_0k 13 rfl) (by decide) ?_
        exact zz_iret hC hQ hr () trivial (by rcases (show x = 0 ∨ x = 1 ∨ x = 2 ∨ x = 3 ∨ x = 4 ∨ x = 5 ∨ x = 6 ∨ x = 7 ∨ x = 8 ∨ x = 9 ∨ x = 10 by omega) with h | h | h | h | h | h | h | h | h | h | h <;> subst h <;> first | rfl | omega) [] rfl rfl ⟨Nat.le_refl _, Nat.le_refl _⟩ (dk DX6_least_0k 15 rfl)
      · refine zz_iload_n hC 0 (dk DX6_least_0k 9 rfl) rfl rfl ?_
        refine zz_bipush hC (dk DX6_least_0k 10 rfl) (by decide) ?_
        refine zz_icmp_lt hC 26 (dk DX6_least_0k 11 rfl) (by decide) ⟨⟨by omega, by omega⟩, (by decide)⟩ (fun c4 => ?_) (fun c4 => ?_)
        · refine zz_iconst hC (dk DX6_least_0k 14 rfl) ?_
          exact zz_iret hC hQ hr () trivial (by rcases (show x = 0 ∨ x = 1 ∨ x = 2 ∨ x = 3 ∨ x = 4 ∨ x = 5 ∨ x = 6 ∨ x = 7 ∨ x = 8 ∨ x = 9 ∨ x = 10 by omega) with h | h | h | h | h | h | h | h | h | h | h <;> subst h <;> first | rfl | omega) [] rfl rfl ⟨Nat.le_refl _, Nat.le_refl _⟩ (dk DX6_least_0k 15 rfl)
        · refine zz_iconst hC (dk DX6_least_0k 12 rfl) ?_
          refine zz_goto hC 27 (dk DX6_least_0k 13 rfl) (by decide) ?_
          exact zz_iret hC hQ hr () trivial (by rcases (show x = 0 ∨ x = 1 ∨ x = 2 ∨ x = 3 ∨ x = 4 ∨ x = 5 ∨ x = 6 ∨ x = 7 ∨ x = 8 ∨ x = 9 ∨ x = 10 by omega) with h | h | h | h | h | h | h | h | h | h | h <;> subst h <;> first | rfl | omega) [] rfl rfl ⟨Nat.le_refl _, Nat.le_refl _⟩ (dk DX6_least_0k 15 rfl)
set_option maxHeartbeats 4000000 in
set_option maxRecDepth 100000 in
theorem c_X6_most (l : Launch) (D : zG) (x : Int) (hx : 0 ≤ x ∧ x ≤ 10) : CI (S := Unit) l yX6_most cX6_most 1 ((some .int)) ({ frames := 0, cells := 0, slots := 0, locals := 0 } : Room) D [.int (zI x)] [] (fun _ => True) (fun _ => (zHigh x.toNat)) (fun _ => []) := by
  refine CI_of (by decide) (Nat.le_of_ble_eq_true rfl) ?_
  intro p e s m args below meth cd A Q hQ hC hr hnm
  have hC : ZC p s m args meth cd A D 1 cX6_most RX6 := hC
  show Z p l e ({ frames := 0, cells := 0, slots := 0, locals := 0 } : Room) s m args below meth cd A D Q 1 0 0 [] [(0, .int (zI x))] [] 0
  refine zz_iload_n hC 0 (dk DX6_most_0k 0 rfl) rfl rfl ?_
  rcases (show x = 0 ∨ x = 1 ∨ x = 2 ∨ x = 3 ∨ x = 4 ∨ x = 5 ∨ x = 6 ∨ x = 7 ∨ x = 8 ∨ x = 9 ∨ x = 10 ∨ (x < 0 ∨ 10 < x) by omega) with sw1 | sw1 | sw1 | sw1 | sw1 | sw1 | sw1 | sw1 | sw1 | sw1 | sw1 | sw1
  · refine zz_tabIn hC 60 (dk DX6_most_0k 1 rfl) 0 rfl sw1 rfl (by decide) ?_
    refine zz_sipush hC (dk DX6_most_0k 2 rfl) (by decide) ?_
    exact zz_iret hC hQ hr () trivial (by rcases (show x = 0 ∨ x = 1 ∨ x = 2 ∨ x = 3 ∨ x = 4 ∨ x = 5 ∨ x = 6 ∨ x = 7 ∨ x = 8 ∨ x = 9 ∨ x = 10 by omega) with h | h | h | h | h | h | h | h | h | h | h <;> subst h <;> first | rfl | omega) [] rfl rfl ⟨Nat.le_refl _, Nat.le_refl _⟩ (dk DX6_most_0k 3 rfl)
  · refine zz_tabIn hC 77 (dk DX6_most_0k 1 rfl) 1 rfl sw1 rfl (by decide) ?_
    refine zz_sipush hC (dk DX6_most_0k 12 rfl) (by decide) ?_
    exact zz_iret hC hQ hr () trivial (by rcases (show x = 0 ∨ x = 1 ∨ x = 2 ∨ x = 3 ∨ x = 4 ∨ x = 5 ∨ x = 6 ∨ x = 7 ∨ x = 8 ∨ x = 9 ∨ x = 10 by omega) with h | h | h | h | h | h | h | h | h | h | h <;> subst h <;> first | rfl | omega) [] rfl rfl ⟨Nat.le_refl _, Nat.le_refl _⟩ (dk DX6_most_0k 13 rfl)
  · refine zz_tabIn hC 64 (dk DX6_most_0k 1 rfl) 2 rfl sw1 rfl (by decide) ?_
    refine zz_sipush hC (dk DX6_most_0k 4 rfl) (by decide) ?_
    exact zz_iret hC hQ hr () trivial (by rcases (show x = 0 ∨ x = 1 ∨ x = 2 ∨ x = 3 ∨ x = 4 ∨ x = 5 ∨ x = 6 ∨ x = 7 ∨ x = 8 ∨ x = 9 ∨ x = 10 by omega) with h | h | h | h | h | h | h | h | h | h | h <;> subst h <;> first | rfl | omega) [] rfl rfl ⟨Nat.le_refl _, Nat.le_refl _⟩ (dk DX6_most_0k 5 rfl)
  · refine zz_tabIn hC 64 (dk DX6_most_0k 1 rfl) 3 rfl sw1 rfl (by decide) ?_
    refine zz_sipush hC (dk DX6_most_0k 4 rfl) (by decide) ?_
    exact zz_iret hC hQ hr () trivial (by rcases (show x = 0 ∨ x = 1 ∨ x = 2 ∨ x = 3 ∨ x = 4 ∨ x = 5 ∨ x = 6 ∨ x = 7 ∨ x = 8 ∨ x = 9 ∨ x = 10 by omega) with h | h | h | h | h | h | h | h | h | h | h <;> subst h <;> first | rfl | omega) [] rfl rfl ⟨Nat.le_refl _, Nat.le_refl _⟩ (dk DX6_most_0k 5 rfl)
  · refine zz_tabIn hC 68 (dk DX6_most_0k 1 rfl) 4 rfl sw1 rfl (by decide) ?_
    refine zz_bipush hC (dk DX6_most_0k 6 rfl) (by decide) ?_
    exact zz_iret hC hQ hr () trivial (by rcases (show x = 0 ∨ x = 1 ∨ x = 2 ∨ x = 3 ∨ x = 4 ∨ x = 5 ∨ x = 6 ∨ x = 7 ∨ x = 8 ∨ x = 9 ∨ x = 10 by omega) with h | h | h | h | h | h | h | h | h | h | h <;> subst h <;> first | rfl | omega) [] rfl rfl ⟨Nat.le_refl _, Nat.le_refl _⟩ (dk DX6_most_0k 7 rfl)
  · refine zz_tabIn hC 77 (dk DX6_most_0k 1 rfl) 5 rfl sw1 rfl (by decide) ?_
    refine zz_sipush hC (dk DX6_most_0k 12 rfl) (by decide) ?_
    exact zz_iret hC hQ hr () trivial (by rcases (show x = 0 ∨ x = 1 ∨ x = 2 ∨ x = 3 ∨ x = 4 ∨ x = 5 ∨ x = 6 ∨ x = 7 ∨ x = 8 ∨ x = 9 ∨ x = 10 by omega) with h | h | h | h | h | h | h | h | h | h | h <;> subst h <;> first | rfl | omega) [] rfl rfl ⟨Nat.le_refl _, Nat.le_refl _⟩ (dk DX6_most_0k 13 rfl)
  · refine zz_tabIn hC 77 (dk DX6_most_0k 1 rfl) 6 rfl sw1 rfl (by decide) ?_
    refine zz_sipush hC (dk DX6_most_0k 12 rfl) (by decide) ?_
    exact zz_iret hC hQ hr () trivial (by rcases (show x = 0 ∨ x = 1 ∨ x = 2 ∨ x = 3 ∨ x = 4 ∨ x = 5 ∨ x = 6 ∨ x = 7 ∨ x = 8 ∨ x = 9 ∨ x = 10 by omega) with h | h | h | h | h | h | h | h | h | h | h <;> subst h <;> first | rfl | omega) [] rfl rfl ⟨Nat.le_refl _, Nat.le_refl _⟩ (dk DX6_most_0k 13 rfl)
  · refine zz_tabIn hC 77 (dk DX6_most_0k 1 rfl) 7 rfl sw1 rfl (by decide) ?_
    refine zz_sipush hC (dk DX6_most_0k 12 rfl) (by decide) ?_
    exact zz_iret hC hQ hr () trivial (by rcases (show x = 0 ∨ x = 1 ∨ x = 2 ∨ x = 3 ∨ x = 4 ∨ x = 5 ∨ x = 6 ∨ x = 7 ∨ x = 8 ∨ x = 9 ∨ x = 10 by omega) with h | h | h | h | h | h | h | h | h | h | h <;> subst h <;> first | rfl | omega) [] rfl rfl ⟨Nat.le_refl _, Nat.le_refl _⟩ (dk DX6_most_0k 13 rfl)
  · refine zz_tabIn hC 77 (dk DX6_most_0k 1 rfl) 8 rfl sw1 rfl (by decide) ?_
    refine zz_sipush hC (dk DX6_most_0k 12 rfl) (by decide) ?_
    exact zz_iret hC hQ hr () trivial (by rcases (show x = 0 ∨ x = 1 ∨ x = 2 ∨ x = 3 ∨ x = 4 ∨ x = 5 ∨ x = 6 ∨ x = 7 ∨ x = 8 ∨ x = 9 ∨ x = 10 by omega) with h | h | h | h | h | h | h | h | h | h | h <;> subst h <;> first | rfl | omega) [] rfl rfl ⟨Nat.le_refl _, Nat.le_refl _⟩ (dk DX6_most_0k 13 rfl)
  · refine zz_tabIn hC 71 (dk DX6_most_0k 1 rfl) 9 rfl sw1 rfl (by decide) ?_
    refine zz_bipush hC (dk DX6_most_0k 8 rfl) (by decide) ?_
    exact zz_iret hC hQ hr () trivial (by rcases (show x = 0 ∨ x = 1 ∨ x = 2 ∨ x = 3 ∨ x = 4 ∨ x = 5 ∨ x = 6 ∨ x = 7 ∨ x = 8 ∨ x = 9 ∨ x = 10 by omega) with h | h | h | h | h | h | h | h | h | h | h <;> subst h <;> first | rfl | omega) [] rfl rfl ⟨Nat.le_refl _, Nat.le_refl _⟩ (dk DX6_most_0k 9 rfl)
  · refine zz_tabIn hC 74 (dk DX6_most_0k 1 rfl) 10 rfl sw1 rfl (by decide) ?_
    refine zz_ldc hC 100000 K_X6_51 (by decide) (dk DX6_most_0k 10 rfl) ?_
    exact zz_iret hC hQ hr () trivial (by rcases (show x = 0 ∨ x = 1 ∨ x = 2 ∨ x = 3 ∨ x = 4 ∨ x = 5 ∨ x = 6 ∨ x = 7 ∨ x = 8 ∨ x = 9 ∨ x = 10 by omega) with h | h | h | h | h | h | h | h | h | h | h <;> subst h <;> first | rfl | omega) [] rfl rfl ⟨Nat.le_refl _, Nat.le_refl _⟩ (dk DX6_most_0k 11 rfl)
  · refine zz_tabOut hC 77 (dk DX6_most_0k 1 rfl) ⟨by omega, by omega⟩ sw1 (by decide) ?_
    refine zz_sipush hC (dk DX6_most_0k 12 rfl) (by decide) ?_
    exact zz_iret hC hQ hr () trivial (by rcases (show x = 0 ∨ x = 1 ∨ x = 2 ∨ x = 3 ∨ x = 4 ∨ x = 5 ∨ x = 6 ∨ x = 7 ∨ x = 8 ∨ x = 9 ∨ x = 10 by omega) with h | h | h | h | h | h | h | h | h | h | h <;> subst h <;> first | rfl | omega) [] rfl rfl ⟨Nat.le_refl _, Nat.le_refl _⟩ (dk DX6_most_0k 13 rfl)
set_option maxHeartbeats 4000000 in
set_option maxRecDepth 100000 in
theorem c_X6_set (l : Launch) (D : zG) (m0 : Nat) (m1 : Nat) (m2 : Nat) (m3 : Nat) (m4 : Nat) (m5 : Nat) (m6 : Nat) (m7 : Nat) (m8 : Nat) (m9 : Nat) (m10 : Nat) (NW : Nat → Int) (PA : Nat → Int) (AS : Nat → Int) (tb : Nat → Int) (st : Nat → Int) (bo : Nat → Int) (sh : Nat → Int) (f1 : Nat → Int) (f2 : Nat → Int) (pk : Nat → Int) (sv : Nat) (len : Nat) (sp : Nat) (rf : Int) (nu : Int) (rk : Int) (rt : Int) (ra : Int) (bm : Int) (ha : Int) (n : Nat) (w : Nat) (K : Nat → Int) (T : Nat → Int) (U : Nat → Int) (S : Nat → Int) (F : Nat → Int) (L : Nat → Int) (x : Int) (v : Int) (hN : zRow NW n K T U S F L w) (hg : zLog n K T U) (hs : zSet S) (hw : zWin w F L) (hsv : sv ≤ 4) (hri : (-2147483648 ≤ x ∧ x ≤ 2147483647) ∧ (-2147483648 ≤ v ∧ v ≤ 2147483647)) : CI (S := (Nat → Int) × (Nat → Int) × Nat × Int × Int) l yX6_set cX6_set 4 ((some .int)) ({ frames := 2, cells := 0, slots := 0, locals := 42 } : Room) D [.ref m0, .int (zI x), .int (zI v)] [(m0, .inr (6, [.ref m1, .ref m2, .ref m3, .int (zI ((sv : Nat) : Int)), .int (zI rf), .ref m4, .int (zI ((len : Nat) : Int)), .int (zI ((sp : Nat) : Int)), .int (zI nu), .int (zI rk), .int (zI rt), .int (zI ra), .ref m5, .ref m6, .int (zI bm), .ref m7, .ref m8, .ref m9, .ref m10, .long (zL ha)])), (m1, iA D 771 NW), (m2, iA D 3084 PA), (m3, iA D 771 AS), (m4, iA D 150 tb), (m5, iA D 250 st), (m6, iA D 250 bo), (m7, iA D 250 sh), (m8, iA D 36 f1), (m9, iA D 36 f2), (m10, iA D 2778 pk)] (fun u => zP1 (zOkSet x v) (u.2.2.2.1) (u.2.2.2.2 = S x.toNat ∧ zRow u.1 n K T U (zU S x.toNat v) F L w ∧ zSv NW PA sv u.2.1 ∧ u.2.2.1 = zMs sv) (u.1 = NW ∧ u.2.1 = PA ∧ u.2.2.1 = sv)) (fun u => u.2.2.2.2) (fun u => [(m0, .inr (6, [.ref m1, .ref m2, .ref m3, .int (zI ((u.2.2.1 : Nat) : Int)), .int (zI u.2.2.2.1), .ref m4, .int (zI ((len : Nat) : Int)), .int (zI ((sp : Nat) : Int)), .int (zI nu), .int (zI rk), .int (zI rt), .int (zI ra), .ref m5, .ref m6, .int (zI bm), .ref m7, .ref m8, .ref m9, .ref m10, .long (zL ha)])), (m1, iA D 771 u.1), (m2, iA D 3084 u.2.1), (m3, iA D 771 AS), (m4, iA D 150 tb), (m5, iA D 250 st), (m6, iA D 250 bo), (m7, iA D 250 sh), (m8, iA D 36 f1), (m9, iA D 36 f2), (m10, iA D 2778 pk)]) := by
  refine CI_of (by decide) (Nat.le_of_ble_eq_true rfl) ?_
  intro p e s m args below meth cd A Q hQ hC hr hnm
  have hC : ZC p s m args meth cd A D 4 cX6_set RX6 := hC
  show Z p l e ({ frames := 2, cells := 0, slots := 0, locals := 42 } : Room) s m args below meth cd A D Q 4 0 0 [(m0, .inr (6, [.ref m1, .ref m2, .ref m3, .int (zI ((sv : Nat) : Int)), .int (zI rf), .ref m4, .int (zI ((len : Nat) : Int)), .int (zI ((sp : Nat) : Int)), .int (zI nu), .int (zI rk), .int (zI rt), .int (zI ra), .ref m5, .ref m6, .int (zI bm), .ref m7, .ref m8, .ref m9, .ref m10, .long (zL ha)])), (m1, iA D 771 NW), (m2, iA D 3084 PA), (m3, iA D 771 AS), (m4, iA D 150 tb), (m5, iA D 250 st), (m6, iA D 250 bo), (m7, iA D 250 sh), (m8, iA D 36 f1), (m9, iA D 36 f2), (m10, iA D 2778 pk)] [(0, .ref m0), (1, .int (zI x)), (2, .int (zI v))] [] 0
  refine zz_aload_n hC 0 (dk DX6_set_0k 0 rfl) rfl rfl ?_
  refine zz_iload_n hC 1 (dk DX6_set_0k 1 rfl) rfl rfl ?_
  refine zz_pureSi hC (c_X6_isSetting l D x (by omega)) G_X6_56 H_X6_isSetting.2 ⟨Nat.le_of_ble_eq_true rfl, Nat.le_of_ble_eq_true rfl⟩ rfl [] rfl rfl (As := [.int (zI x)]) (rest := [.ref m0]) (Nat.le_of_ble_eq_true rfl) rfl ⟨Nat.le_of_ble_eq_true rfl, Nat.le_of_ble_eq_true rfl⟩ (dk DX6_set_0k 2 rfl) ⟨rfl, rfl⟩ ?_
  refine zz_ifb_eq hC 27 (dk DX6_set_0k 3 rfl) (by decide) (fun c1 => ?_) (fun c1 => ?_)
  · refine zz_iconst hC (dk DX6_set_0k 13 rfl) ?_
    refine zz_callVi hC (wr := []) (c_X6_refused l D m0 m1 m2 m3 m4 m5 m6 m7 m8 m9 m10 NW PA AS tb st bo sh f1 f2 pk sv len sp rf nu rk rt ra bm ha n w K T U S F L 1 (by omega)) G_X6_47 H_X6_refused ⟨Nat.le_of_ble_eq_true rfl, Nat.le_of_ble_eq_true rfl⟩ rfl [0, 1, 2, 3, 4, 5, 6, 7, 8, 9, 10] [] rfl rfl ⟨rfl, rfl, by decide⟩ 0 6 ⟨rfl, rfl, rfl⟩ (As := [.int (zI 1)]) (rest := []) (Nat.le_of_ble_eq_true rfl) rfl ⟨Nat.le_of_ble_eq_true rfl, Nat.le_of_ble_eq_true rfl⟩ (dk DX6_set_0k 14 rfl) ⟨rfl, rfl⟩ (wb := fun u2 => [(m0, .inr (6, [.ref m1, .ref m2, .ref m3, .int (zI ((sv : Nat) : Int)), .int (zI 1), .ref m4, .int (zI ((len : Nat) : Int)), .int (zI ((sp : Nat) : Int)), .int (zI nu), .int (zI rk), .int (zI rt), .int (zI ra), .ref m5, .ref m6, .int (zI bm), .ref m7, .ref m8, .ref m9, .ref m10, .long (zL ha)])), (m1, iA D 771 NW), (m2, iA D 3084 PA), (m3, iA D 771 AS), (m4, iA D 150 tb), (m5, iA D 250 st), (m6, iA D 250 bo), (m7, iA D 250 sh), (m8, iA D 36 f1), (m9, iA D 36 f2), (m10, iA D 2778 pk)]) [0, 1, 2, 3, 4, 5, 6, 7, 8, 9, 10] rfl (fun _ => rfl) (fun u2 hu2 => ?_)
    refine zz_ifb_eq hC 36 (dk DX6_set_0k 15 rfl) (by decide) (fun c3 => ?_) (fun c3 => ?_)
    · exfalso; omega
    · refine zz_iconst hC (dk DX6_set_0k 16 rfl) ?_
      exact zz_iret hC hQ hr (NW, PA, sv, 1, 0) (Or.inr ⟨(by unfold zOkSet; omega), rfl, rfl, rfl, rfl⟩) rfl [0, 1, 2, 3, 4, 5, 6, 7, 8, 9, 10] rfl rfl ⟨Nat.le_refl _, Nat.le_refl _⟩ (dk DX6_set_0k 17 rfl)
  · refine zz_iload_n hC 2 (dk DX6_set_0k 4 rfl) rfl rfl ?_
    refine zz_iload_n hC 1 (dk DX6_set_0k 5 rfl) rfl rfl ?_
    refine zz_pureSi hC (c_X6_least l D x (by omega)) G_X6_59 H_X6_least.2 ⟨Nat.le_of_ble_eq_true rfl, Nat.le_of_ble_eq_true rfl⟩ rfl [] rfl rfl (As := [.int (zI x)]) (rest := [.int (zI v), .ref m0]) (Nat.le_of_ble_eq_true rfl) rfl ⟨Nat.le_of_ble_eq_true rfl, Nat.le_of_ble_eq_true rfl⟩ (dk DX6_set_0k 6 rfl) ⟨rfl, rfl⟩ ?_
    have hf4 := zTab_in x.toNat (by omega)
    refine zz_iload_n hC 1 (dk DX6_set_0k 7 rfl) rfl rfl ?_
    refine zz_pureSi hC (c_X6_most l D x (by omega)) G_X6_63 H_X6_most.2 ⟨Nat.le_of_ble_eq_true rfl, Nat.le_of_ble_eq_true rfl⟩ rfl [] rfl rfl (As := [.int (zI x)]) (rest := [.int (zI (zLow x.toNat)), .int (zI v), .ref m0]) (Nat.le_of_ble_eq_true rfl) rfl ⟨Nat.le_of_ble_eq_true rfl, Nat.le_of_ble_eq_true rfl⟩ (dk DX6_set_0k 8 rfl) ⟨rfl, rfl⟩ ?_
    have hf5 := zTab_in x.toNat (by omega)
    refine zz_pureSi hC (c_X6_within l D v (zLow x.toNat) (zHigh x.toNat) (by omega)) G_X6_52 H_X6_within.2 ⟨Nat.le_of_ble_eq_true rfl, Nat.le_of_ble_eq_true rfl⟩ rfl [] rfl rfl (As := [.int (zI v), .int (zI (zLow x.toNat)), .int (zI (zHigh x.toNat))]) (rest := [.ref m0]) (Nat.le_of_ble_eq_true rfl) rfl ⟨Nat.le_of_ble_eq_true rfl, Nat.le_of_ble_eq_true rfl⟩ (dk DX6_set_0k 9 rfl) ⟨rfl, rfl⟩ ?_
    refine zz_ifb_eq hC 27 (dk DX6_set_0k 10 rfl) (by decide) (fun c6 => ?_) (fun c6 => ?_)
    · refine zz_iconst hC (dk DX6_set_0k 13 rfl) ?_
      refine zz_callVi hC (wr := []) (c_X6_refused l D m0 m1 m2 m3 m4 m5 m6 m7 m8 m9 m10 NW PA AS tb st bo sh f1 f2 pk sv len sp rf nu rk rt ra bm ha n w K T U S F L 1 (by omega)) G_X6_47 H_X6_refused ⟨Nat.le_of_ble_eq_true rfl, Nat.le_of_ble_eq_true rfl⟩ rfl [0, 1, 2, 3, 4, 5, 6, 7, 8, 9, 10] [] rfl rfl ⟨rfl, rfl, by decide⟩ 0 6 ⟨rfl, rfl, rfl⟩ (As := [.int (zI 1)]) (rest := []) (Nat.le_of_ble_eq_true rfl) rfl ⟨Nat.le_of_ble_eq_true rfl, Nat.le_of_ble_eq_true rfl⟩ (dk DX6_set_0k 14 rfl) ⟨rfl, rfl⟩ (wb := fun u7 => [(m0, .inr (6, [.ref m1, .ref m2, .ref m3, .int (zI ((sv : Nat) : Int)), .int (zI 1), .ref m4, .int (zI ((len : Nat) : Int)), .int (zI ((sp : Nat) : Int)), .int (zI nu), .int (zI rk), .int (zI rt), .int (zI ra), .ref m5, .ref m6, .int (zI bm), .ref m7, .ref m8, .ref m9, .ref m10, .long (zL ha)])), (m1, iA D 771 NW), (m2, iA D 3084 PA), (m3, iA D 771 AS), (m4, iA D 150 tb), (m5, iA D 250 st), (m6, iA D 250 bo), (m7, iA D 250 sh), (m8, iA D 36 f1), (m9, iA D 36 f2), (m10, iA D 2778 pk)]) [0, 1, 2, 3, 4, 5, 6, 7, 8, 9, 10] rfl (fun _ => rfl) (fun u7 hu7 => ?_)
      refine zz_ifb_eq hC 36 (dk DX6_set_0k 15 rfl) (by decide) (fun c8 => ?_) (fun c8 => ?_)
      · exfalso; omega
      · refine zz_iconst hC (dk DX6_set_0k 16 rfl) ?_
        exact zz_iret hC hQ hr (NW, PA, sv, 1, 0) (Or.inr ⟨(by unfold zOkSet; omega), rfl, rfl, rfl, rfl⟩) rfl [0, 1, 2, 3, 4, 5, 6, 7, 8, 9, 10] rfl rfl ⟨Nat.le_refl _, Nat.le_refl _⟩ (dk DX6_set_0k 17 rfl)
    · refine zz_iconst hC (dk DX6_set_0k 11 rfl) ?_
      refine zz_goto hC 28 (dk DX6_set_0k 12 rfl) (by decide) ?_
      refine zz_callVi hC (wr := []) (c_X6_refused l D m0 m1 m2 m3 m4 m5 m6 m7 m8 m9 m10 NW PA AS tb st bo sh f1 f2 pk sv len sp rf nu rk rt ra bm ha n w K T U S F L 0 (by omega)) G_X6_47 H_X6_refused ⟨Nat.le_of_ble_eq_true rfl, Nat.le_of_ble_eq_true rfl⟩ rfl [0, 1, 2, 3, 4, 5, 6, 7, 8, 9, 10] [] rfl rfl ⟨rfl, rfl, by decide⟩ 0 6 ⟨rfl, rfl, rfl⟩ (As := [.int (zI 0)]) (rest := []) (Nat.le_of_ble_eq_true rfl) rfl ⟨Nat.le_of_ble_eq_true rfl, Nat.le_of_ble_eq_true rfl⟩ (dk DX6_set_0k 14 rfl) ⟨rfl, rfl⟩ (wb := fun u9 => [(m0, .inr (6, [.ref m1, .ref m2, .ref m3, .int (zI ((sv : Nat) : Int)), .int (zI 0), .ref m4, .int (zI ((len : Nat) : Int)), .int (zI ((sp : Nat) : Int)), .int (zI nu), .int (zI rk), .int (zI rt), .int (zI ra), .ref m5, .ref m6, .int (zI bm), .ref m7, .ref m8, .ref m9, .ref m10, .long (zL ha)])), (m1, iA D 771 NW), (m2, iA D 3084 PA), (m3, iA D 771 AS), (m4, iA D 150 tb), (m5, iA D 250 st), (m6, iA D 250 bo), (m7, iA D 250 sh), (m8, iA D 36 f1), (m9, iA D 36 f2), (m10, iA D 2778 pk)]) [0, 1, 2, 3, 4, 5, 6, 7, 8, 9, 10] rfl (fun _ => rfl) (fun u9 hu9 => ?_)
      refine zz_ifb_eq hC 36 (dk DX6_set_0k 15 rfl) (by decide) (fun c10 => ?_) (fun c10 => ?_)
      · obtain ⟨k9, rfl⟩ : ∃ k : Nat, x = (k : Int) := ⟨x.toNat, by omega⟩
        refine zz_aload_n hC 0 (dk DX6_set_0k 18 rfl) rfl rfl ?_
        refine zz_callVv hC (wr := []) (c_X6_saves l D m0 m1 m2 m3 m4 m5 m6 m7 m8 m9 m10 NW PA AS tb st bo sh f1 f2 pk sv len sp 0 nu rk rt ra bm ha n w K T U S F L hsv) G_X6_66 H_X6_saves ⟨Nat.le_of_ble_eq_true rfl, Nat.le_of_ble_eq_true rfl⟩ rfl [0, 1, 2, 3, 4, 5, 6, 7, 8, 9, 10] [] rfl rfl ⟨rfl, rfl, by decide⟩ 0 6 ⟨rfl, rfl, rfl⟩ (As := []) (rest := []) (Nat.le_of_ble_eq_true rfl) rfl ⟨Nat.le_of_ble_eq_true rfl, Nat.le_of_ble_eq_true rfl⟩ (dk DX6_set_0k 19 rfl) ⟨rfl, rfl⟩ (wb := fun u11 => [(m0, .inr (6, [.ref m1, .ref m2, .ref m3, .int (zI ((zMs sv : Nat) : Int)), .int (zI 0), .ref m4, .int (zI ((len : Nat) : Int)), .int (zI ((sp : Nat) : Int)), .int (zI nu), .int (zI rk), .int (zI rt), .int (zI ra), .ref m5, .ref m6, .int (zI bm), .ref m7, .ref m8, .ref m9, .ref m10, .long (zL ha)])), (m1, iA D 771 NW), (m2, iA D 3084 u11), (m3, iA D 771 AS), (m4, iA D 150 tb), (m5, iA D 250 st), (m6, iA D 250 bo), (m7, iA D 250 sh), (m8, iA D 36 f1), (m9, iA D 36 f2), (m10, iA D 2778 pk)]) [0, 1, 2, 3, 4, 5, 6, 7, 8, 9, 10] rfl (fun _ => rfl) (fun u11 hu11 => ?_)
        refine zz_aload_n hC 0 (dk DX6_set_0k 20 rfl) rfl rfl ?_
        refine zz_get hC F_X6_7 0 rfl rfl (dk DX6_set_0k 21 rfl) ?_
        refine zz_iload_n hC 1 (dk DX6_set_0k 22 rfl) rfl rfl ?_
        refine zz_iald hC k9 1 rfl rfl (by omega) (dk DX6_set_0k 23 rfl) ?_
        rw [hN.1 k9 (by omega)]
        have hf12 := zSet_in hs k9 (by omega)
        refine zz_istore_n hC (ls' := [(0, .ref m0), (1, .int (zI ((k9 : Nat) : Int))), (2, .int (zI v)), (3, .int (zI (S k9)))]) [1, 2, 3, 0] (dk DX6_set_0k 24 rfl) rfl (by decide) rfl ?_
        refine zz_aload_n hC 0 (dk DX6_set_0k 25 rfl) rfl rfl ?_
        refine zz_get hC F_X6_7 0 rfl rfl (dk DX6_set_0k 26 rfl) ?_
        refine zz_iload_n hC 1 (dk DX6_set_0k 27 rfl) rfl rfl ?_
        refine zz_iload_n hC 2 (dk DX6_set_0k 28 rfl) rfl rfl ?_
        refine zz_iast hC (ws' := [(m0, .inr (6, [.ref m1, .ref m2, .ref m3, .int (zI ((zMs sv : Nat) : Int)), .int (zI 0), .ref m4, .int (zI ((len : Nat) : Int)), .int (zI ((sp : Nat) : Int)), .int (zI nu), .int (zI rk), .int (zI rt), .int (zI ra), .ref m5, .ref m6, .int (zI bm), .ref m7, .ref m8, .ref m9, .ref m10, .long (zL ha)])), (m1, iA D 771 (zU NW k9 v)), (m2, iA D 3084 u11), (m3, iA D 771 AS), (m4, iA D 150 tb), (m5, iA D 250 st), (m6, iA D 250 bo), (m7, iA D 250 sh), (m8, iA D 36 f1), (m9, iA D 36 f2), (m10, iA D 2778 pk)]) k9 1 rfl rfl (by omega) rfl (dk DX6_set_0k 29 rfl) ?_
        refine zz_iload_n hC 3 (dk DX6_set_0k 30 rfl) rfl rfl ?_
        exact zz_iret hC hQ hr ((zU NW k9 v), u11, (zMs sv), 0, (S k9)) (Or.inl ⟨(by unfold zOkSet; omega), rfl, ⟨rfl, row_set hN (by omega), hu11, rfl⟩⟩) rfl [0, 1, 2, 3, 4, 5, 6, 7, 8, 9, 10] rfl rfl ⟨Nat.le_refl _, Nat.le_refl _⟩ (dk DX6_set_0k 31 rfl)
      · exfalso; omega
set_option maxHeartbeats 4000000 in
set_option maxRecDepth 100000 in
theorem c_X6_value (l : Launch) (D : zG) (m0 : Nat) (m1 : Nat) (m2 : Nat) (m3 : Nat) (m4 : Nat) (m5 : Nat) (m6 : Nat) (m7 : Nat) (m8 : Nat) (m9 : Nat) (m10 : Nat) (NW : Nat → Int) (PA : Nat → Int) (AS : Nat → Int) (tb : Nat → Int) (st : Nat → Int) (bo : Nat → Int) (sh : Nat → Int) (f1 : Nat → Int) (f2 : Nat → Int) (pk : Nat → Int) (sv : Nat) (len : Nat) (sp : Nat) (rf : Int) (nu : Int) (rk : Int) (rt : Int) (ra : Int) (bm : Int) (ha : Int) (n : Nat) (w : Nat) (K : Nat → Int) (T : Nat → Int) (U : Nat → Int) (S : Nat → Int) (F : Nat → Int) (L : Nat → Int) (x : Int) (hN : zRow NW n K T U S F L w) (hg : zLog n K T U) (hs : zSet S) (hw : zWin w F L) (hri : (-2147483648 ≤ x ∧ x ≤ 2147483647)) : CI (S := (Nat → Int) × (Nat → Int) × (Nat → Int) × (Nat → Int) × (Nat → Int) × (Nat → Int) × Int × Int × Int × Int) l yX6_value cX6_value 2 ((some .int)) ({ frames := 2, cells := 0, slots := 0, locals := 42 } : Room) D [.ref m0, .int (zI x)] [(m0, .inr (6, [.ref m1, .ref m2, .ref m3, .int (zI ((sv : Nat) : Int)), .int (zI rf), .ref m4, .int (zI ((len : Nat) : Int)), .int (zI ((sp : Nat) : Int)), .int (zI nu), .int (zI rk), .int (zI rt), .int (zI ra), .ref m5, .ref m6, .int (zI bm), .ref m7, .ref m8, .ref m9, .ref m10, .long (zL ha)])), (m1, iA D 771 NW), (m2, iA D 3084 PA), (m3, iA D 771 AS), (m4, iA D 150 tb), (m5, iA D 250 st), (m6, iA D 250 bo), (m7, iA D 250 sh), (m8, iA D 36 f1), (m9, iA D 36 f2), (m10, iA D 2778 pk)] (fun u => zO1 (0 ≤ x ∧ x ≤ 10) (u.2.2.2.2.2.2.2.1) (u.2.2.2.2.2.2.2.2.2 = S x.toNat)) (fun u => u.2.2.2.2.2.2.2.2.2) (fun u => [(m0, .inr (6, [.ref m1, .ref m2, .ref m3, .int (zI ((sv : Nat) : Int)), .int (zI u.2.2.2.2.2.2.2.1), .ref m4, .int (zI ((len : Nat) : Int)), .int (zI ((sp : Nat) : Int)), .int (zI nu), .int (zI rk), .int (zI rt), .int (zI ra), .ref m5, .ref m6, .int (zI u.2.2.2.2.2.2.1), .ref m7, .ref m8, .ref m9, .ref m10, .long (zL u.2.2.2.2.2.2.2.2.1)])), (m1, iA D 771 NW), (m2, iA D 3084 PA), (m3, iA D 771 AS), (m4, iA D 150 tb), (m5, iA D 250 u.1), (m6, iA D 250 u.2.1), (m7, iA D 250 u.2.2.1), (m8, iA D 36 u.2.2.2.1), (m9, iA D 36 u.2.2.2.2.1), (m10, iA D 2778 u.2.2.2.2.2.1)]) := by
  refine CI_of (by decide) (Nat.le_of_ble_eq_true rfl) ?_
  intro p e s m args below meth cd A Q hQ hC hr hnm
  have hC : ZC p s m args meth cd A D 2 cX6_value RX6 := hC
  show Z p l e ({ frames := 2, cells := 0, slots := 0, locals := 42 } : Room) s m args below meth cd A D Q 2 0 0 [(m0, .inr (6, [.ref m1, .ref m2, .ref m3, .int (zI ((sv : Nat) : Int)), .int (zI rf), .ref m4, .int (zI ((len : Nat) : Int)), .int (zI ((sp : Nat) : Int)), .int (zI nu), .int (zI rk), .int (zI rt), .int (zI ra), .ref m5, .ref m6, .int (zI bm), .ref m7, .ref m8, .ref m9, .ref m10, .long (zL ha)])), (m1, iA D 771 NW), (m2, iA D 3084 PA), (m3, iA D 771 AS), (m4, iA D 150 tb), (m5, iA D 250 st), (m6, iA D 250 bo), (m7, iA D 250 sh), (m8, iA D 36 f1), (m9, iA D 36 f2), (m10, iA D 2778 pk)] [(0, .ref m0), (1, .int (zI x))] [] 0
  refine zz_aload_n hC 0 (dk DX6_value_0k 0 rfl) rfl rfl ?_
  refine zz_iload_n hC 1 (dk DX6_value_0k 1 rfl) rfl rfl ?_
  refine zz_pureSi hC (c_X6_isSetting l D x (by omega)) G_X6_56 H_X6_isSetting.2 ⟨Nat.le_of_ble_eq_true rfl, Nat.le_of_ble_eq_true rfl⟩ rfl [] rfl rfl (As := [.int (zI x)]) (rest := [.ref m0]) (Nat.le_of_ble_eq_true rfl) rfl ⟨Nat.le_of_ble_eq_true rfl, Nat.le_of_ble_eq_true rfl⟩ (dk DX6_value_0k 2 rfl) ⟨rfl, rfl⟩ ?_
  refine zz_ifb_eq hC 12 (dk DX6_value_0k 3 rfl) (by decide) (fun c1 => ?_) (fun c1 => ?_)
  · refine zz_iconst hC (dk DX6_value_0k 6 rfl) ?_
    refine zz_callVi hC (wr := []) (c_X6_refused l D m0 m1 m2 m3 m4 m5 m6 m7 m8 m9 m10 NW PA AS tb st bo sh f1 f2 pk sv len sp rf nu rk rt ra bm ha n w K T U S F L 1 (by omega)) G_X6_47 H_X6_refused ⟨Nat.le_of_ble_eq_true rfl, Nat.le_of_ble_eq_true rfl⟩ rfl [0, 1, 2, 3, 4, 5, 6, 7, 8, 9, 10] [] rfl rfl ⟨rfl, rfl, by decide⟩ 0 6 ⟨rfl, rfl, rfl⟩ (As := [.int (zI 1)]) (rest := []) (Nat.le_of_ble_eq_true rfl) rfl ⟨Nat.le_of_ble_eq_true rfl, Nat.le_of_ble_eq_true rfl⟩ (dk DX6_value_0k 7 rfl) ⟨rfl, rfl⟩ (wb := fun u2 => [(m0, .inr (6, [.ref m1, .ref m2, .ref m3, .int (zI ((sv : Nat) : Int)), .int (zI 1), .ref m4, .int (zI ((len : Nat) : Int)), .int (zI ((sp : Nat) : Int)), .int (zI nu), .int (zI rk), .int (zI rt), .int (zI ra), .ref m5, .ref m6, .int (zI bm), .ref m7, .ref m8, .ref m9, .ref m10, .long (zL ha)])), (m1, iA D 771 NW), (m2, iA D 3084 PA), (m3, iA D 771 AS), (m4, iA D 150 tb), (m5, iA D 250 st), (m6, iA D 250 bo), (m7, iA D 250 sh), (m8, iA D 36 f1), (m9, iA D 36 f2), (m10, iA D 2778 pk)]) [0, 1, 2, 3, 4, 5, 6, 7, 8, 9, 10] rfl (fun _ => rfl) (fun u2 hu2 => ?_)
    refine zz_ifb_eq hC 23 (dk DX6_value_0k 8 rfl) (by decide) (fun c3 => ?_) (fun c3 => ?_)
    · exfalso; omega
    · refine zz_iconst hC (dk DX6_value_0k 9 rfl) ?_
      refine zz_goto hC 29 (dk DX6_value_0k 10 rfl) (by decide) ?_
      exact zz_iret hC hQ hr (st, bo, sh, f1, f2, pk, bm, 1, ha, 0) (Or.inr ⟨(by omega), rfl⟩) rfl [0, 1, 2, 3, 4, 5, 6, 7, 8, 9, 10] rfl rfl ⟨Nat.le_refl _, Nat.le_refl _⟩ (dk DX6_value_0k 15 rfl)
  · refine zz_iconst hC (dk DX6_value_0k 4 rfl) ?_
    refine zz_goto hC 13 (dk DX6_value_0k 5 rfl) (by decide) ?_
    refine zz_callVi hC (wr := []) (c_X6_refused l D m0 m1 m2 m3 m4 m5 m6 m7 m8 m9 m10 NW PA AS tb st bo sh f1 f2 pk sv len sp rf nu rk rt ra bm ha n w K T U S F L 0 (by omega)) G_X6_47 H_X6_refused ⟨Nat.le_of_ble_eq_true rfl, Nat.le_of_ble_eq_true rfl⟩ rfl [0, 1, 2, 3, 4, 5, 6, 7, 8, 9, 10] [] rfl rfl ⟨rfl, rfl, by decide⟩ 0 6 ⟨rfl, rfl, rfl⟩ (As := [.int (zI 0)]) (rest := []) (Nat.le_of_ble_eq_true rfl) rfl ⟨Nat.le_of_ble_eq_true rfl, Nat.le_of_ble_eq_true rfl⟩ (dk DX6_value_0k 7 rfl) ⟨rfl, rfl⟩ (wb := fun u4 => [(m0, .inr (6, [.ref m1, .ref m2, .ref m3, .int (zI ((sv : Nat) : Int)), .int (zI 0), .ref m4, .int (zI ((len : Nat) : Int)), .int (zI ((sp : Nat) : Int)), .int (zI nu), .int (zI rk), .int (zI rt), .int (zI ra), .ref m5, .ref m6, .int (zI bm), .ref m7, .ref m8, .ref m9, .ref m10, .long (zL ha)])), (m1, iA D 771 NW), (m2, iA D 3084 PA), (m3, iA D 771 AS), (m4, iA D 150 tb), (m5, iA D 250 st), (m6, iA D 250 bo), (m7, iA D 250 sh), (m8, iA D 36 f1), (m9, iA D 36 f2), (m10, iA D 2778 pk)]) [0, 1, 2, 3, 4, 5, 6, 7, 8, 9, 10] rfl (fun _ => rfl) (fun u4 hu4 => ?_)
    refine zz_ifb_eq hC 23 (dk DX6_value_0k 8 rfl) (by decide) (fun c5 => ?_) (fun c5 => ?_)
    · obtain ⟨k9, rfl⟩ : ∃ k : Nat, x = (k : Int) := ⟨x.toNat, by omega⟩
      refine zz_aload_n hC 0 (dk DX6_value_0k 11 rfl) rfl rfl ?_
      refine zz_get hC F_X6_7 0 rfl rfl (dk DX6_value_0k 12 rfl) ?_
      refine zz_iload_n hC 1 (dk DX6_value_0k 13 rfl) rfl rfl ?_
      refine zz_iald hC k9 1 rfl rfl (by omega) (dk DX6_value_0k 14 rfl) ?_
      rw [hN.1 k9 (by omega)]
      have hf6 := zSet_in hs k9 (by omega)
      exact zz_iret hC hQ hr (st, bo, sh, f1, f2, pk, bm, 0, ha, (S k9)) (Or.inl ⟨(by omega), rfl, rfl⟩) rfl [0, 1, 2, 3, 4, 5, 6, 7, 8, 9, 10] rfl rfl ⟨Nat.le_refl _, Nat.le_refl _⟩ (dk DX6_value_0k 15 rfl)
    · exfalso; omega
set_option maxHeartbeats 4000000 in
set_option maxRecDepth 100000 in
theorem c_X6_block (l : Launch) (D : zG) (m0 : Nat) (m1 : Nat) (m2 : Nat) (m3 : Nat) (m4 : Nat) (m5 : Nat) (m6 : Nat) (m7 : Nat) (m8 : Nat) (m9 : Nat) (m10 : Nat) (NW : Nat → Int) (PA : Nat → Int) (AS : Nat → Int) (tb : Nat → Int) (st : Nat → Int) (bo : Nat → Int) (sh : Nat → Int) (f1 : Nat → Int) (f2 : Nat → Int) (pk : Nat → Int) (sv : Nat) (len : Nat) (sp : Nat) (rf : Int) (nu : Int) (rk : Int) (rt : Int) (ra : Int) (bm : Int) (ha : Int) (n : Nat) (w : Nat) (K : Nat → Int) (T : Nat → Int) (U : Nat → Int) (S : Nat → Int) (F : Nat → Int) (L : Nat → Int) (x : Int) (v : Int) (hN : zRow NW n K T U S F L w) (hg : zLog n K T U) (hs : zSet S) (hw : zWin w F L) (hsv : sv ≤ 4) (hri : (-2147483648 ≤ x ∧ x ≤ 2147483647) ∧ (-2147483648 ≤ v ∧ v ≤ 2147483647)) : CI (S := (Nat → Int) × (Nat → Int) × Nat × Int × Int) l yX6_block cX6_block 4 ((some .int)) ({ frames := 1, cells := 0, slots := 0, locals := 22 } : Room) D [.ref m0, .int (zI x), .int (zI v)] [(m0, .inr (6, [.ref m1, .ref m2, .ref m3, .int (zI ((sv : Nat) : Int)), .int (zI rf), .ref m4, .int (zI ((len : Nat) : Int)), .int (zI ((sp : Nat) : Int)), .int (zI nu), .int (zI rk), .int (zI rt), .int (zI ra), .ref m5, .ref m6, .int (zI bm), .ref m7, .ref m8, .ref m9, .ref m10, .long (zL ha)])), (m1, iA D 771 NW), (m2, iA D 3084 PA), (m3, iA D 771 AS), (m4, iA D 150 tb), (m5, iA D 250 st), (m6, iA D 250 bo), (m7, iA D 250 sh), (m8, iA D 36 f1), (m9, iA D 36 f2), (m10, iA D 2778 pk)] (fun u => zP2 (zOkB x v) (w < 4) (u.2.2.2.1) (u.2.2.2.2 = w + 1 ∧ zRow u.1 n K T U S (zU F w x) (zU L w v) (w + 1) ∧ zSv NW PA sv u.2.1 ∧ u.2.2.1 = zMs sv) (u.1 = NW ∧ u.2.1 = PA ∧ u.2.2.1 = sv)) (fun u => u.2.2.2.2) (fun u => [(m0, .inr (6, [.ref m1, .ref m2, .ref m3, .int (zI ((u.2.2.1 : Nat) : Int)), .int (zI u.2.2.2.1), .ref m4, .int (zI ((len : Nat) : Int)), .int (zI ((sp : Nat) : Int)), .int (zI nu), .int (zI rk), .int (zI rt), .int (zI ra), .ref m5, .ref m6, .int (zI bm), .ref m7, .ref m8, .ref m9, .ref m10, .long (zL ha)])), (m1, iA D 771 u.1), (m2, iA D 3084 u.2.1), (m3, iA D 771 AS), (m4, iA D 150 tb), (m5, iA D 250 st), (m6, iA D 250 bo), (m7, iA D 250 sh), (m8, iA D 36 f1), (m9, iA D 36 f2), (m10, iA D 2778 pk)]) := by
  refine CI_of (by decide) (Nat.le_of_ble_eq_true rfl) ?_
  intro p e s m args below meth cd A Q hQ hC hr hnm
  have hC : ZC p s m args meth cd A D 4 cX6_block RX6 := hC
  have hw4 := hw.1
  show Z p l e ({ frames := 1, cells := 0, slots := 0, locals := 22 } : Room) s m args below meth cd A D Q 4 0 0 [(m0, .inr (6, [.ref m1, .ref m2, .ref m3, .int (zI ((sv : Nat) : Int)), .int (zI rf), .ref m4, .int (zI ((len : Nat) : Int)), .int (zI ((sp : Nat) : Int)), .int (zI nu), .int (zI rk), .int (zI rt), .int (zI ra), .ref m5, .ref m6, .int (zI bm), .ref m7, .ref m8, .ref m9, .ref m10, .long (zL ha)])), (m1, iA D 771 NW), (m2, iA D 3084 PA), (m3, iA D 771 AS), (m4, iA D 150 tb), (m5, iA D 250 st), (m6, iA D 250 bo), (m7, iA D 250 sh), (m8, iA D 36 f1), (m9, iA D 36 f2), (m10, iA D 2778 pk)] [(0, .ref m0), (1, .int (zI x)), (2, .int (zI v))] [] 0
  refine zz_iload_n hC 1 (dk DX6_block_0k 0 rfl) rfl rfl ?_
  refine zz_iconst hC (dk DX6_block_0k 1 rfl) ?_
  refine zz_sipush hC (dk DX6_block_0k 2 rfl) (by decide) ?_
  refine zz_pureSi hC (c_X6_within l D x 0 359 (by omega)) G_X6_52 H_X6_within.2 ⟨Nat.le_of_ble_eq_true rfl, Nat.le_of_ble_eq_true rfl⟩ rfl [] rfl rfl (As := [.int (zI x), .int (zI 0), .int (zI 359)]) (rest := []) (Nat.le_of_ble_eq_true rfl) rfl ⟨Nat.le_of_ble_eq_true rfl, Nat.le_of_ble_eq_true rfl⟩ (dk DX6_block_0k 3 rfl) ⟨rfl, rfl⟩ ?_
  refine zz_ifb_eq hC 26 (dk DX6_block_0k 4 rfl) (by decide) (fun c1 => ?_) (fun c1 => ?_)
  · refine zz_iconst hC (dk DX6_block_0k 12 rfl) ?_
    refine zz_istore_n hC (ls' := [(0, .ref m0), (1, .int (zI x)), (2, .int (zI v)), (3, .int (zI 0))]) [1, 2, 3, 0] (dk DX6_block_0k 13 rfl) rfl (by decide) rfl ?_
    refine zz_aload_n hC 0 (dk DX6_block_0k 14 rfl) rfl rfl ?_
    refine zz_iload_n hC 3 (dk DX6_block_0k 15 rfl) rfl rfl ?_
    refine zz_if_ne hC 37 (dk DX6_block_0k 16 rfl) (by decide) (by decide) (fun c2 => ?_) (fun c2 => ?_)
    · exfalso; omega
    · refine zz_iconst hC (dk DX6_block_0k 17 rfl) ?_
      refine zz_goto hC 53 (dk DX6_block_0k 18 rfl) (by decide) ?_
      refine zz_callVi hC (wr := []) (c_X6_refused l D m0 m1 m2 m3 m4 m5 m6 m7 m8 m9 m10 NW PA AS tb st bo sh f1 f2 pk sv len sp rf nu rk rt ra bm ha n w K T U S F L 1 (by omega)) G_X6_47 H_X6_refused ⟨Nat.le_of_ble_eq_true rfl, Nat.le_of_ble_eq_true rfl⟩ rfl [0, 1, 2, 3, 4, 5, 6, 7, 8, 9, 10] [] rfl rfl ⟨rfl, rfl, by decide⟩ 0 6 ⟨rfl, rfl, rfl⟩ (As := [.int (zI 1)]) (rest := []) (Nat.le_of_ble_eq_true rfl) rfl ⟨Nat.le_of_ble_eq_true rfl, Nat.le_of_ble_eq_true rfl⟩ (dk DX6_block_0k 28 rfl) ⟨rfl, rfl⟩ (wb := fun u3 => [(m0, .inr (6, [.ref m1, .ref m2, .ref m3, .int (zI ((sv : Nat) : Int)), .int (zI 1), .ref m4, .int (zI ((len : Nat) : Int)), .int (zI ((sp : Nat) : Int)), .int (zI nu), .int (zI rk), .int (zI rt), .int (zI ra), .ref m5, .ref m6, .int (zI bm), .ref m7, .ref m8, .ref m9, .ref m10, .long (zL ha)])), (m1, iA D 771 NW), (m2, iA D 3084 PA), (m3, iA D 771 AS), (m4, iA D 150 tb), (m5, iA D 250 st), (m6, iA D 250 bo), (m7, iA D 250 sh), (m8, iA D 36 f1), (m9, iA D 36 f2), (m10, iA D 2778 pk)]) [0, 1, 2, 3, 4, 5, 6, 7, 8, 9, 10] rfl (fun _ => rfl) (fun u3 hu3 => ?_)
      refine zz_ifb_eq hC 61 (dk DX6_block_0k 29 rfl) (by decide) (fun c4 => ?_) (fun c4 => ?_)
      · exfalso; omega
      · refine zz_iconst hC (dk DX6_block_0k 30 rfl) ?_
        exact zz_iret hC hQ hr (NW, PA, sv, 1, 0) (Or.inr (Or.inl ⟨(by unfold zOkB; omega), rfl, rfl, rfl, rfl⟩)) rfl [0, 1, 2, 3, 4, 5, 6, 7, 8, 9, 10] rfl rfl ⟨Nat.le_refl _, Nat.le_refl _⟩ (dk DX6_block_0k 31 rfl)
  · refine zz_iload_n hC 2 (dk DX6_block_0k 5 rfl) rfl rfl ?_
    refine zz_iconst hC (dk DX6_block_0k 6 rfl) ?_
    refine zz_sipush hC (dk DX6_block_0k 7 rfl) (by decide) ?_
    refine zz_pureSi hC (c_X6_within l D v 0 359 (by omega)) G_X6_52 H_X6_within.2 ⟨Nat.le_of_ble_eq_true rfl, Nat.le_of_ble_eq_true rfl⟩ rfl [] rfl rfl (As := [.int (zI v), .int (zI 0), .int (zI 359)]) (rest := []) (Nat.le_of_ble_eq_true rfl) rfl ⟨Nat.le_of_ble_eq_true rfl, Nat.le_of_ble_eq_true rfl⟩ (dk DX6_block_0k 8 rfl) ⟨rfl, rfl⟩ ?_
    refine zz_ifb_eq hC 26 (dk DX6_block_0k 9 rfl) (by decide) (fun c5 => ?_) (fun c5 => ?_)
    · refine zz_iconst hC (dk DX6_block_0k 12 rfl) ?_
      refine zz_istore_n hC (ls' := [(0, .ref m0), (1, .int (zI x)), (2, .int (zI v)), (3, .int (zI 0))]) [1, 2, 3, 0] (dk DX6_block_0k 13 rfl) rfl (by decide) rfl ?_
      refine zz_aload_n hC 0 (dk DX6_block_0k 14 rfl) rfl rfl ?_
      refine zz_iload_n hC 3 (dk DX6_block_0k 15 rfl) rfl rfl ?_
      refine zz_if_ne hC 37 (dk DX6_block_0k 16 rfl) (by decide) (by decide) (fun c6 => ?_) (fun c6 => ?_)
      · exfalso; omega
      · refine zz_iconst hC (dk DX6_block_0k 17 rfl) ?_
        refine zz_goto hC 53 (dk DX6_block_0k 18 rfl) (by decide) ?_
        refine zz_callVi hC (wr := []) (c_X6_refused l D m0 m1 m2 m3 m4 m5 m6 m7 m8 m9 m10 NW PA AS tb st bo sh f1 f2 pk sv len sp rf nu rk rt ra bm ha n w K T U S F L 1 (by omega)) G_X6_47 H_X6_refused ⟨Nat.le_of_ble_eq_true rfl, Nat.le_of_ble_eq_true rfl⟩ rfl [0, 1, 2, 3, 4, 5, 6, 7, 8, 9, 10] [] rfl rfl ⟨rfl, rfl, by decide⟩ 0 6 ⟨rfl, rfl, rfl⟩ (As := [.int (zI 1)]) (rest := []) (Nat.le_of_ble_eq_true rfl) rfl ⟨Nat.le_of_ble_eq_true rfl, Nat.le_of_ble_eq_true rfl⟩ (dk DX6_block_0k 28 rfl) ⟨rfl, rfl⟩ (wb := fun u7 => [(m0, .inr (6, [.ref m1, .ref m2, .ref m3, .int (zI ((sv : Nat) : Int)), .int (zI 1), .ref m4, .int (zI ((len : Nat) : Int)), .int (zI ((sp : Nat) : Int)), .int (zI nu), .int (zI rk), .int (zI rt), .int (zI ra), .ref m5, .ref m6, .int (zI bm), .ref m7, .ref m8, .ref m9, .ref m10, .long (zL ha)])), (m1, iA D 771 NW), (m2, iA D 3084 PA), (m3, iA D 771 AS), (m4, iA D 150 tb), (m5, iA D 250 st), (m6, iA D 250 bo), (m7, iA D 250 sh), (m8, iA D 36 f1), (m9, iA D 36 f2), (m10, iA D 2778 pk)]) [0, 1, 2, 3, 4, 5, 6, 7, 8, 9, 10] rfl (fun _ => rfl) (fun u7 hu7 => ?_)
        refine zz_ifb_eq hC 61 (dk DX6_block_0k 29 rfl) (by decide) (fun c8 => ?_) (fun c8 => ?_)
        · exfalso; omega
        · refine zz_iconst hC (dk DX6_block_0k 30 rfl) ?_
          exact zz_iret hC hQ hr (NW, PA, sv, 1, 0) (Or.inr (Or.inl ⟨(by unfold zOkB; omega), rfl, rfl, rfl, rfl⟩)) rfl [0, 1, 2, 3, 4, 5, 6, 7, 8, 9, 10] rfl rfl ⟨Nat.le_refl _, Nat.le_refl _⟩ (dk DX6_block_0k 31 rfl)
    · refine zz_iconst hC (dk DX6_block_0k 10 rfl) ?_
      refine zz_goto hC 27 (dk DX6_block_0k 11 rfl) (by decide) ?_
      refine zz_istore_n hC (ls' := [(0, .ref m0), (1, .int (zI x)), (2, .int (zI v)), (3, .int (zI 1))]) [1, 2, 3, 0] (dk DX6_block_0k 13 rfl) rfl (by decide) rfl ?_
      refine zz_aload_n hC 0 (dk DX6_block_0k 14 rfl) rfl rfl ?_
      refine zz_iload_n hC 3 (dk DX6_block_0k 15 rfl) rfl rfl ?_
      refine zz_if_ne hC 37 (dk DX6_block_0k 16 rfl) (by decide) (by decide) (fun c9 => ?_) (fun c9 => ?_)
      · refine zz_aload_n hC 0 (dk DX6_block_0k 19 rfl) rfl rfl ?_
        refine zz_get hC F_X6_7 0 rfl rfl (dk DX6_block_0k 20 rfl) ?_
        refine zz_bipush hC (dk DX6_block_0k 21 rfl) (by decide) ?_
        refine zz_iald hC 11 1 rfl rfl (by omega) (dk DX6_block_0k 22 rfl) ?_
        rw [hN.2.1]
        refine zz_iconst hC (dk DX6_block_0k 23 rfl) ?_
        refine zz_icmp_ne hC 52 (dk DX6_block_0k 24 rfl) (by decide) ⟨⟨by omega, by omega⟩, (by decide)⟩ (fun c10 => ?_) (fun c10 => ?_)
        · refine zz_iconst hC (dk DX6_block_0k 27 rfl) ?_
          refine zz_callVi hC (wr := []) (c_X6_refused l D m0 m1 m2 m3 m4 m5 m6 m7 m8 m9 m10 NW PA AS tb st bo sh f1 f2 pk sv len sp rf nu rk rt ra bm ha n w K T U S F L 0 (by omega)) G_X6_47 H_X6_refused ⟨Nat.le_of_ble_eq_true rfl, Nat.le_of_ble_eq_true rfl⟩ rfl [0, 1, 2, 3, 4, 5, 6, 7, 8, 9, 10] [] rfl rfl ⟨rfl, rfl, by decide⟩ 0 6 ⟨rfl, rfl, rfl⟩ (As := [.int (zI 0)]) (rest := []) (Nat.le_of_ble_eq_true rfl) rfl ⟨Nat.le_of_ble_eq_true rfl, Nat.le_of_ble_eq_true rfl⟩ (dk DX6_block_0k 28 rfl) ⟨rfl, rfl⟩ (wb := fun u11 => [(m0, .inr (6, [.ref m1, .ref m2, .ref m3, .int (zI ((sv : Nat) : Int)), .int (zI 0), .ref m4, .int (zI ((len : Nat) : Int)), .int (zI ((sp : Nat) : Int)), .int (zI nu), .int (zI rk), .int (zI rt), .int (zI ra), .ref m5, .ref m6, .int (zI bm), .ref m7, .ref m8, .ref m9, .ref m10, .long (zL ha)])), (m1, iA D 771 NW), (m2, iA D 3084 PA), (m3, iA D 771 AS), (m4, iA D 150 tb), (m5, iA D 250 st), (m6, iA D 250 bo), (m7, iA D 250 sh), (m8, iA D 36 f1), (m9, iA D 36 f2), (m10, iA D 2778 pk)]) [0, 1, 2, 3, 4, 5, 6, 7, 8, 9, 10] rfl (fun _ => rfl) (fun u11 hu11 => ?_)
          refine zz_ifb_eq hC 61 (dk DX6_block_0k 29 rfl) (by decide) (fun c12 => ?_) (fun c12 => ?_)
          · refine zz_aload_n hC 0 (dk DX6_block_0k 32 rfl) rfl rfl ?_
            refine zz_callVv hC (wr := []) (c_X6_saves l D m0 m1 m2 m3 m4 m5 m6 m7 m8 m9 m10 NW PA AS tb st bo sh f1 f2 pk sv len sp 0 nu rk rt ra bm ha n w K T U S F L hsv) G_X6_66 H_X6_saves ⟨Nat.le_of_ble_eq_true rfl, Nat.le_of_ble_eq_true rfl⟩ rfl [0, 1, 2, 3, 4, 5, 6, 7, 8, 9, 10] [] rfl rfl ⟨rfl, rfl, by decide⟩ 0 6 ⟨rfl, rfl, rfl⟩ (As := []) (rest := []) (Nat.le_of_ble_eq_true rfl) rfl ⟨Nat.le_of_ble_eq_true rfl, Nat.le_of_ble_eq_true rfl⟩ (dk DX6_block_0k 33 rfl) ⟨rfl, rfl⟩ (wb := fun u13 => [(m0, .inr (6, [.ref m1, .ref m2, .ref m3, .int (zI ((zMs sv : Nat) : Int)), .int (zI 0), .ref m4, .int (zI ((len : Nat) : Int)), .int (zI ((sp : Nat) : Int)), .int (zI nu), .int (zI rk), .int (zI rt), .int (zI ra), .ref m5, .ref m6, .int (zI bm), .ref m7, .ref m8, .ref m9, .ref m10, .long (zL ha)])), (m1, iA D 771 NW), (m2, iA D 3084 u13), (m3, iA D 771 AS), (m4, iA D 150 tb), (m5, iA D 250 st), (m6, iA D 250 bo), (m7, iA D 250 sh), (m8, iA D 36 f1), (m9, iA D 36 f2), (m10, iA D 2778 pk)]) [0, 1, 2, 3, 4, 5, 6, 7, 8, 9, 10] rfl (fun _ => rfl) (fun u13 hu13 => ?_)
            refine zz_aload_n hC 0 (dk DX6_block_0k 34 rfl) rfl rfl ?_
            refine zz_get hC F_X6_7 0 rfl rfl (dk DX6_block_0k 35 rfl) ?_
            refine zz_bipush hC (dk DX6_block_0k 36 rfl) (by decide) ?_
            refine zz_iconst hC (dk DX6_block_0k 37 rfl) ?_
            refine zz_aload_n hC 0 (dk DX6_block_0k 38 rfl) rfl rfl ?_
            refine zz_get hC F_X6_7 0 rfl rfl (dk DX6_block_0k 39 rfl) ?_
            refine zz_bipush hC (dk DX6_block_0k 40 rfl) (by decide) ?_
            refine zz_iald hC 11 1 rfl rfl (by omega) (dk DX6_block_0k 41 rfl) ?_
            rw [hN.2.1]
            refine zz_imul hC (dk DX6_block_0k 42 rfl) ?_
            refine zz_iadd hC (dk DX6_block_0k 43 rfl) ?_
            refine zz_iload_n hC 1 (dk DX6_block_0k 44 rfl) rfl rfl ?_
            refine zz_iast hC (ws' := [(m0, .inr (6, [.ref m1, .ref m2, .ref m3, .int (zI ((zMs sv : Nat) : Int)), .int (zI 0), .ref m4, .int (zI ((len : Nat) : Int)), .int (zI ((sp : Nat) : Int)), .int (zI nu), .int (zI rk), .int (zI rt), .int (zI ra), .ref m5, .ref m6, .int (zI bm), .ref m7, .ref m8, .ref m9, .ref m10, .long (zL ha)])), (m1, iA D 771 (zU NW (12 + (2 * w)) x)), (m2, iA D 3084 u13), (m3, iA D 771 AS), (m4, iA D 150 tb), (m5, iA D 250 st), (m6, iA D 250 bo), (m7, iA D 250 sh), (m8, iA D 36 f1), (m9, iA D 36 f2), (m10, iA D 2778 pk)]) (12 + (2 * w)) 1 rfl (by omega) (by omega) rfl (dk DX6_block_0k 45 rfl) ?_
            refine zz_aload_n hC 0 (dk DX6_block_0k 46 rfl) rfl rfl ?_
            refine zz_get hC F_X6_7 0 rfl rfl (dk DX6_block_0k 47 rfl) ?_
            refine zz_bipush hC (dk DX6_block_0k 48 rfl) (by decide) ?_
            refine zz_iconst hC (dk DX6_block_0k 49 rfl) ?_
            refine zz_aload_n hC 0 (dk DX6_block_0k 50 rfl) rfl rfl ?_
            refine zz_get hC F_X6_7 0 rfl rfl (dk DX6_block_0k 51 rfl) ?_
            refine zz_bipush hC (dk DX6_block_0k 52 rfl) (by decide) ?_
            refine zz_iald hC 11 1 rfl rfl (by omega) (dk DX6_block_0k 53 rfl) ?_
            rw [show ((zU NW (12 + (2 * w)) x) 11) = ((w : Nat) : Int) from ((zU_n (by omega)).trans hN.2.1)]
            refine zz_imul hC (dk DX6_block_0k 54 rfl) ?_
            refine zz_iadd hC (dk DX6_block_0k 55 rfl) ?_
            refine zz_iconst hC (dk DX6_block_0k 56 rfl) ?_
            refine zz_iadd hC (dk DX6_block_0k 57 rfl) ?_
            refine zz_iload_n hC 2 (dk DX6_block_0k 58 rfl) rfl rfl ?_
            refine zz_iast hC (ws' := [(m0, .inr (6, [.ref m1, .ref m2, .ref m3, .int (zI ((zMs sv : Nat) : Int)), .int (zI 0), .ref m4, .int (zI ((len : Nat) : Int)), .int (zI ((sp : Nat) : Int)), .int (zI nu), .int (zI rk), .int (zI rt), .int (zI ra), .ref m5, .ref m6, .int (zI bm), .ref m7, .ref m8, .ref m9, .ref m10, .long (zL ha)])), (m1, iA D 771 (zU (zU NW (12 + (2 * w)) x) ((12 + (2 * w)) + 1) v)), (m2, iA D 3084 u13), (m3, iA D 771 AS), (m4, iA D 150 tb), (m5, iA D 250 st), (m6, iA D 250 bo), (m7, iA D 250 sh), (m8, iA D 36 f1), (m9, iA D 36 f2), (m10, iA D 2778 pk)]) ((12 + (2 * w)) + 1) 1 rfl (by omega) (by omega) rfl (dk DX6_block_0k 59 rfl) ?_
            refine zz_aload_n hC 0 (dk DX6_block_1k 0 rfl) rfl rfl ?_
            refine zz_get hC F_X6_7 0 rfl rfl (dk DX6_block_1k 1 rfl) ?_
            refine zz_bipush hC (dk DX6_block_1k 2 rfl) (by decide) ?_
            refine zz_dup2 hC (dk DX6_block_1k 3 rfl) rfl rfl ?_
            refine zz_iald hC 11 1 rfl rfl (by omega) (dk DX6_block_1k 4 rfl) ?_
            rw [show ((zU (zU NW (12 + (2 * w)) x) ((12 + (2 * w)) + 1) v) 11) = ((w : Nat) : Int) from ((zU_n (by omega)).trans ((zU_n (by omega)).trans hN.2.1))]
            refine zz_iconst hC (dk DX6_block_1k 5 rfl) ?_
            refine zz_iadd hC (dk DX6_block_1k 6 rfl) ?_
            refine zz_iast hC (ws' := [(m0, .inr (6, [.ref m1, .ref m2, .ref m3, .int (zI ((zMs sv : Nat) : Int)), .int (zI 0), .ref m4, .int (zI ((len : Nat) : Int)), .int (zI ((sp : Nat) : Int)), .int (zI nu), .int (zI rk), .int (zI rt), .int (zI ra), .ref m5, .ref m6, .int (zI bm), .ref m7, .ref m8, .ref m9, .ref m10, .long (zL ha)])), (m1, iA D 771 (zU (zU (zU NW (12 + (2 * w)) x) ((12 + (2 * w)) + 1) v) 11 ((w + 1 : Nat) : Int))), (m2, iA D 3084 u13), (m3, iA D 771 AS), (m4, iA D 150 tb), (m5, iA D 250 st), (m6, iA D 250 bo), (m7, iA D 250 sh), (m8, iA D 36 f1), (m9, iA D 36 f2), (m10, iA D 2778 pk)]) 11 1 rfl rfl (by omega) rfl (dk DX6_block_1k 7 rfl) ?_
            refine zz_aload_n hC 0 (dk DX6_block_1k 8 rfl) rfl rfl ?_
            refine zz_get hC F_X6_7 0 rfl rfl (dk DX6_block_1k 9 rfl) ?_
            refine zz_bipush hC (dk DX6_block_1k 10 rfl) (by decide) ?_
            refine zz_iald hC 11 1 rfl rfl (by omega) (dk DX6_block_1k 11 rfl) ?_
            rw [show ((zU (zU (zU NW (12 + (2 * w)) x) ((12 + (2 * w)) + 1) v) 11 ((w + 1 : Nat) : Int)) 11) = ((w + 1 : Nat) : Int) from zU_s]
            exact zz_iret hC hQ hr ((zU (zU (zU NW (12 + (2 * w)) x) ((12 + (2 * w)) + 1) v) 11 ((w + 1 : Nat) : Int)), u13, (zMs sv), 0, ((w + 1 : Nat) : Int)) (Or.inl ⟨(by unfold zOkB; omega), (by omega), rfl, ⟨rfl, row_blk hN (by omega), hu13, rfl⟩⟩) rfl [0, 1, 2, 3, 4, 5, 6, 7, 8, 9, 10] rfl rfl ⟨Nat.le_refl _, Nat.le_refl _⟩ (dk DX6_block_1k 12 rfl)
          · exfalso; omega
        · refine zz_iconst hC (dk DX6_block_0k 25 rfl) ?_
          refine zz_goto hC 53 (dk DX6_block_0k 26 rfl) (by decide) ?_
          refine zz_callVi hC (wr := []) (c_X6_refused l D m0 m1 m2 m3 m4 m5 m6 m7 m8 m9 m10 NW PA AS tb st bo sh f1 f2 pk sv len sp rf nu rk rt ra bm ha n w K T U S F L 2 (by omega)) G_X6_47 H_X6_refused ⟨Nat.le_of_ble_eq_true rfl, Nat.le_of_ble_eq_true rfl⟩ rfl [0, 1, 2, 3, 4, 5, 6, 7, 8, 9, 10] [] rfl rfl ⟨rfl, rfl, by decide⟩ 0 6 ⟨rfl, rfl, rfl⟩ (As := [.int (zI 2)]) (rest := []) (Nat.le_of_ble_eq_true rfl) rfl ⟨Nat.le_of_ble_eq_true rfl, Nat.le_of_ble_eq_true rfl⟩ (dk DX6_block_0k 28 rfl) ⟨rfl, rfl⟩ (wb := fun u14 => [(m0, .inr (6, [.ref m1, .ref m2, .ref m3, .int (zI ((sv : Nat) : Int)), .int (zI 2), .ref m4, .int (zI ((len : Nat) : Int)), .int (zI ((sp : Nat) : Int)), .int (zI nu), .int (zI rk), .int (zI rt), .int (zI ra), .ref m5, .ref m6, .int (zI bm), .ref m7, .ref m8, .ref m9, .ref m10, .long (zL ha)])), (m1, iA D 771 NW), (m2, iA D 3084 PA), (m3, iA D 771 AS), (m4, iA D 150 tb), (m5, iA D 250 st), (m6, iA D 250 bo), (m7, iA D 250 sh), (m8, iA D 36 f1), (m9, iA D 36 f2), (m10, iA D 2778 pk)]) [0, 1, 2, 3, 4, 5, 6, 7, 8, 9, 10] rfl (fun _ => rfl) (fun u14 hu14 => ?_)
          refine zz_ifb_eq hC 61 (dk DX6_block_0k 29 rfl) (by decide) (fun c15 => ?_) (fun c15 => ?_)
          · exfalso; omega
          · refine zz_iconst hC (dk DX6_block_0k 30 rfl) ?_
            exact zz_iret hC hQ hr (NW, PA, sv, 2, 0) (Or.inr (Or.inr ⟨(by unfold zOkB; omega), (by omega), rfl, rfl, rfl, rfl⟩)) rfl [0, 1, 2, 3, 4, 5, 6, 7, 8, 9, 10] rfl rfl ⟨Nat.le_refl _, Nat.le_refl _⟩ (dk DX6_block_0k 31 rfl)
      · exfalso; omega
set_option maxHeartbeats 4000000 in
set_option maxRecDepth 100000 in
theorem c_X6_unblock (l : Launch) (D : zG) (m0 : Nat) (m1 : Nat) (m2 : Nat) (m3 : Nat) (m4 : Nat) (m5 : Nat) (m6 : Nat) (m7 : Nat) (m8 : Nat) (m9 : Nat) (m10 : Nat) (NW : Nat → Int) (PA : Nat → Int) (AS : Nat → Int) (tb : Nat → Int) (st : Nat → Int) (bo : Nat → Int) (sh : Nat → Int) (f1 : Nat → Int) (f2 : Nat → Int) (pk : Nat → Int) (sv : Nat) (len : Nat) (sp : Nat) (rf : Int) (nu : Int) (rk : Int) (rt : Int) (ra : Int) (bm : Int) (ha : Int) (n : Nat) (w : Nat) (K : Nat → Int) (T : Nat → Int) (U : Nat → Int) (S : Nat → Int) (F : Nat → Int) (L : Nat → Int) (hN : zRow NW n K T U S F L w) (hg : zLog n K T U) (hs : zSet S) (hw : zWin w F L) (hsv : sv ≤ 4) : CI (S := (Nat → Int) × (Nat → Int) × Nat × Int × Int) l yX6_unblock cX6_unblock 2 ((some .int)) ({ frames := 1, cells := 0, slots := 0, locals := 21 } : Room) D [.ref m0] [(m0, .inr (6, [.ref m1, .ref m2, .ref m3, .int (zI ((sv : Nat) : Int)), .int (zI rf), .ref m4, .int (zI ((len : Nat) : Int)), .int (zI ((sp : Nat) : Int)), .int (zI nu), .int (zI rk), .int (zI rt), .int (zI ra), .ref m5, .ref m6, .int (zI bm), .ref m7, .ref m8, .ref m9, .ref m10, .long (zL ha)])), (m1, iA D 771 NW), (m2, iA D 3084 PA), (m3, iA D 771 AS), (m4, iA D 150 tb), (m5, iA D 250 st), (m6, iA D 250 bo), (m7, iA D 250 sh), (m8, iA D 36 f1), (m9, iA D 36 f2), (m10, iA D 2778 pk)] (fun u => u.2.2.2.1 = 0 ∧ u.2.2.2.2 = w ∧ zRow u.1 n K T U S F L 0 ∧ zSv NW PA sv u.2.1 ∧ u.2.2.1 = zMs sv) (fun u => u.2.2.2.2) (fun u => [(m0, .inr (6, [.ref m1, .ref m2, .ref m3, .int (zI ((u.2.2.1 : Nat) : Int)), .int (zI u.2.2.2.1), .ref m4, .int (zI ((len : Nat) : Int)), .int (zI ((sp : Nat) : Int)), .int (zI nu), .int (zI rk), .int (zI rt), .int (zI ra), .ref m5, .ref m6, .int (zI bm), .ref m7, .ref m8, .ref m9, .ref m10, .long (zL ha)])), (m1, iA D 771 u.1), (m2, iA D 3084 u.2.1), (m3, iA D 771 AS), (m4, iA D 150 tb), (m5, iA D 250 st), (m6, iA D 250 bo), (m7, iA D 250 sh), (m8, iA D 36 f1), (m9, iA D 36 f2), (m10, iA D 2778 pk)]) := by
  refine CI_of (by decide) (Nat.le_of_ble_eq_true rfl) ?_
  intro p e s m args below meth cd A Q hQ hC hr hnm
  have hC : ZC p s m args meth cd A D 2 cX6_unblock RX6 := hC
  have hw4 := hw.1
  show Z p l e ({ frames := 1, cells := 0, slots := 0, locals := 21 } : Room) s m args below meth cd A D Q 2 0 0 [(m0, .inr (6, [.ref m1, .ref m2, .ref m3, .int (zI ((sv : Nat) : Int)), .int (zI rf), .ref m4, .int (zI ((len : Nat) : Int)), .int (zI ((sp : Nat) : Int)), .int (zI nu), .int (zI rk), .int (zI rt), .int (zI ra), .ref m5, .ref m6, .int (zI bm), .ref m7, .ref m8, .ref m9, .ref m10, .long (zL ha)])), (m1, iA D 771 NW), (m2, iA D 3084 PA), (m3, iA D 771 AS), (m4, iA D 150 tb), (m5, iA D 250 st), (m6, iA D 250 bo), (m7, iA D 250 sh), (m8, iA D 36 f1), (m9, iA D 36 f2), (m10, iA D 2778 pk)] [(0, .ref m0)] [] 0
  refine zz_aload_n hC 0 (dk DX6_unblock_0k 0 rfl) rfl rfl ?_
  refine zz_iconst hC (dk DX6_unblock_0k 1 rfl) ?_
  refine zz_put hC F_X6_40 fc_X6 rfl (tyX6_ok 4 (by decide)) 0 (ws' := [(m0, .inr (6, [.ref m1, .ref m2, .ref m3, .int (zI ((sv : Nat) : Int)), .int (zI 0), .ref m4, .int (zI ((len : Nat) : Int)), .int (zI ((sp : Nat) : Int)), .int (zI nu), .int (zI rk), .int (zI rt), .int (zI ra), .ref m5, .ref m6, .int (zI bm), .ref m7, .ref m8, .ref m9, .ref m10, .long (zL ha)])), (m1, iA D 771 NW), (m2, iA D 3084 PA), (m3, iA D 771 AS), (m4, iA D 150 tb), (m5, iA D 250 st), (m6, iA D 250 bo), (m7, iA D 250 sh), (m8, iA D 36 f1), (m9, iA D 36 f2), (m10, iA D 2778 pk)]) rfl rfl rfl (Nat.le_of_ble_eq_true rfl) rfl (dk DX6_unblock_0k 2 rfl) ?_
  refine zz_aload_n hC 0 (dk DX6_unblock_0k 3 rfl) rfl rfl ?_
  refine zz_callVv hC (wr := []) (c_X6_saves l D m0 m1 m2 m3 m4 m5 m6 m7 m8 m9 m10 NW PA AS tb st bo sh f1 f2 pk sv len sp 0 nu rk rt ra bm ha n w K T U S F L hsv) G_X6_66 H_X6_saves ⟨Nat.le_of_ble_eq_true rfl, Nat.le_of_ble_eq_true rfl⟩ rfl [0, 1, 2, 3, 4, 5, 6, 7, 8, 9, 10] [] rfl rfl ⟨rfl, rfl, by decide⟩ 0 6 ⟨rfl, rfl, rfl⟩ (As := []) (rest := []) (Nat.le_of_ble_eq_true rfl) rfl ⟨Nat.le_of_ble_eq_true rfl, Nat.le_of_ble_eq_true rfl⟩ (dk DX6_unblock_0k 4 rfl) ⟨rfl, rfl⟩ (wb := fun u1 => [(m0, .inr (6, [.ref m1, .ref m2, .ref m3, .int (zI ((zMs sv : Nat) : Int)), .int (zI 0), .ref m4, .int (zI ((len : Nat) : Int)), .int (zI ((sp : Nat) : Int)), .int (zI nu), .int (zI rk), .int (zI rt), .int (zI ra), .ref m5, .ref m6, .int (zI bm), .ref m7, .ref m8, .ref m9, .ref m10, .long (zL ha)])), (m1, iA D 771 NW), (m2, iA D 3084 u1), (m3, iA D 771 AS), (m4, iA D 150 tb), (m5, iA D 250 st), (m6, iA D 250 bo), (m7, iA D 250 sh), (m8, iA D 36 f1), (m9, iA D 36 f2), (m10, iA D 2778 pk)]) [0, 1, 2, 3, 4, 5, 6, 7, 8, 9, 10] rfl (fun _ => rfl) (fun u1 hu1 => ?_)
  refine zz_aload_n hC 0 (dk DX6_unblock_0k 5 rfl) rfl rfl ?_
  refine zz_get hC F_X6_7 0 rfl rfl (dk DX6_unblock_0k 6 rfl) ?_
  refine zz_bipush hC (dk DX6_unblock_0k 7 rfl) (by decide) ?_
  refine zz_iald hC 11 1 rfl rfl (by omega) (dk DX6_unblock_0k 8 rfl) ?_
  rw [hN.2.1]
  refine zz_istore_n hC (ls' := [(0, .ref m0), (1, .int (zI ((w : Nat) : Int)))]) [1, 0] (dk DX6_unblock_0k 9 rfl) rfl (by decide) rfl ?_
  refine zz_aload_n hC 0 (dk DX6_unblock_0k 10 rfl) rfl rfl ?_
  refine zz_get hC F_X6_7 0 rfl rfl (dk DX6_unblock_0k 11 rfl) ?_
  refine zz_bipush hC (dk DX6_unblock_0k 12 rfl) (by decide) ?_
  refine zz_iconst hC (dk DX6_unblock_0k 13 rfl) ?_
  refine zz_iast hC (ws' := [(m0, .inr (6, [.ref m1, .ref m2, .ref m3, .int (zI ((zMs sv : Nat) : Int)), .int (zI 0), .ref m4, .int (zI ((len : Nat) : Int)), .int (zI ((sp : Nat) : Int)), .int (zI nu), .int (zI rk), .int (zI rt), .int (zI ra), .ref m5, .ref m6, .int (zI bm), .ref m7, .ref m8, .ref m9, .ref m10, .long (zL ha)])), (m1, iA D 771 (zU NW 11 0)), (m2, iA D 3084 u1), (m3, iA D 771 AS), (m4, iA D 150 tb), (m5, iA D 250 st), (m6, iA D 250 bo), (m7, iA D 250 sh), (m8, iA D 36 f1), (m9, iA D 36 f2), (m10, iA D 2778 pk)]) 11 1 rfl rfl (by omega) rfl (dk DX6_unblock_0k 14 rfl) ?_
  refine zz_iload_n hC 1 (dk DX6_unblock_0k 15 rfl) rfl rfl ?_
  exact zz_iret hC hQ hr ((zU NW 11 0), u1, (zMs sv), 0, ((w : Nat) : Int)) ⟨rfl, rfl, row_unb hN, hu1, rfl⟩ rfl [0, 1, 2, 3, 4, 5, 6, 7, 8, 9, 10] rfl rfl ⟨Nat.le_refl _, Nat.le_refl _⟩ (dk DX6_unblock_0k 16 rfl)
set_option maxHeartbeats 4000000 in
set_option maxRecDepth 100000 in
theorem c_X6_records (l : Launch) (D : zG) (m0 : Nat) (m1 : Nat) (m2 : Nat) (m3 : Nat) (m4 : Nat) (m5 : Nat) (m6 : Nat) (m7 : Nat) (m8 : Nat) (m9 : Nat) (m10 : Nat) (NW : Nat → Int) (PA : Nat → Int) (AS : Nat → Int) (tb : Nat → Int) (st : Nat → Int) (bo : Nat → Int) (sh : Nat → Int) (f1 : Nat → Int) (f2 : Nat → Int) (pk : Nat → Int) (sv : Nat) (len : Nat) (sp : Nat) (rf : Int) (nu : Int) (rk : Int) (rt : Int) (ra : Int) (bm : Int) (ha : Int) (n : Nat) (w : Nat) (K : Nat → Int) (T : Nat → Int) (U : Nat → Int) (S : Nat → Int) (F : Nat → Int) (L : Nat → Int) (x : Int) (t : Int) (v : Int) (hN : zRow NW n K T U S F L w) (hn3 : n < 250) : CI (S := Unit) l yX6_records cX6_records 5 ((some .int)) ({ frames := 0, cells := 0, slots := 0, locals := 0 } : Room) D [.ref m0, .int (zI x), .int (zI t), .int (zI v)] [(m0, .inr (6, [.ref m1, .ref m2, .ref m3, .int (zI ((sv : Nat) : Int)), .int (zI rf), .ref m4, .int (zI ((len : Nat) : Int)), .int (zI ((sp : Nat) : Int)), .int (zI nu), .int (zI rk), .int (zI rt), .int (zI ra), .ref m5, .ref m6, .int (zI bm), .ref m7, .ref m8, .ref m9, .ref m10, .long (zL ha)])), (m1, iA D 771 NW), (m2, iA D 3084 PA), (m3, iA D 771 AS), (m4, iA D 150 tb), (m5, iA D 250 st), (m6, iA D 250 bo), (m7, iA D 250 sh), (m8, iA D 36 f1), (m9, iA D 36 f2), (m10, iA D 2778 pk)] (fun u => True) (fun u => ((n : Nat) : Int)) (fun u => [(m0, .inr (6, [.ref m1, .ref m2, .ref m3, .int (zI ((sv : Nat) : Int)), .int (zI rf), .ref m4, .int (zI ((len : Nat) : Int)), .int (zI ((sp : Nat) : Int)), .int (zI nu), .int (zI rk), .int (zI rt), .int (zI ra), .ref m5, .ref m6, .int (zI bm), .ref m7, .ref m8, .ref m9, .ref m10, .long (zL ha)])), (m1, iA D 771 (zU (zU (zU (zU NW (21 + (3 * n)) x) ((21 + (3 * n)) + 1) t) ((21 + (3 * n)) + 2) v) 20 ((n + 1 : Nat) : Int))), (m2, iA D 3084 PA), (m3, iA D 771 AS), (m4, iA D 150 tb), (m5, iA D 250 st), (m6, iA D 250 bo), (m7, iA D 250 sh), (m8, iA D 36 f1), (m9, iA D 36 f2), (m10, iA D 2778 pk)]) := by
  refine CI_of (by decide) (Nat.le_of_ble_eq_true rfl) ?_
  intro p e s m args below meth cd A Q hQ hC hr hnm
  have hC : ZC p s m args meth cd A D 5 cX6_records RX6 := hC
  show Z p l e ({ frames := 0, cells := 0, slots := 0, locals := 0 } : Room) s m args below meth cd A D Q 5 0 0 [(m0, .inr (6, [.ref m1, .ref m2, .ref m3, .int (zI ((sv : Nat) : Int)), .int (zI rf), .ref m4, .int (zI ((len : Nat) : Int)), .int (zI ((sp : Nat) : Int)), .int (zI nu), .int (zI rk), .int (zI rt), .int (zI ra), .ref m5, .ref m6, .int (zI bm), .ref m7, .ref m8, .ref m9, .ref m10, .long (zL ha)])), (m1, iA D 771 NW), (m2, iA D 3084 PA), (m3, iA D 771 AS), (m4, iA D 150 tb), (m5, iA D 250 st), (m6, iA D 250 bo), (m7, iA D 250 sh), (m8, iA D 36 f1), (m9, iA D 36 f2), (m10, iA D 2778 pk)] [(0, .ref m0), (1, .int (zI x)), (2, .int (zI t)), (3, .int (zI v))] [] 0
  refine zz_bipush hC (dk DX6_records_0k 0 rfl) (by decide) ?_
  refine zz_iconst hC (dk DX6_records_0k 1 rfl) ?_
  refine zz_aload_n hC 0 (dk DX6_records_0k 2 rfl) rfl rfl ?_
  refine zz_get hC F_X6_7 0 rfl rfl (dk DX6_records_0k 3 rfl) ?_
  refine zz_bipush hC (dk DX6_records_0k 4 rfl) (by decide) ?_
  refine zz_iald hC 20 1 rfl rfl (by omega) (dk DX6_records_0k 5 rfl) ?_
  rw [hN.2.2.2.1]
  refine zz_imul hC (dk DX6_records_0k 6 rfl) ?_
  refine zz_iadd hC (dk DX6_records_0k 7 rfl) ?_
  refine zz_istore hC (ls' := [(0, .ref m0), (1, .int (zI x)), (2, .int (zI t)), (3, .int (zI v)), (4, .int (zI (21 + (3 * ((n : Nat) : Int)))))]) [1, 2, 3, 4, 0] (dk DX6_records_0k 8 rfl) (by decide) rfl ?_
  refine zz_aload_n hC 0 (dk DX6_records_0k 9 rfl) rfl rfl ?_
  refine zz_get hC F_X6_7 0 rfl rfl (dk DX6_records_0k 10 rfl) ?_
  refine zz_iload hC 4 (dk DX6_records_0k 11 rfl) rfl ?_
  refine zz_iload_n hC 1 (dk DX6_records_0k 12 rfl) rfl rfl ?_
  refine zz_iast hC (ws' := [(m0, .inr (6, [.ref m1, .ref m2, .ref m3, .int (zI ((sv : Nat) : Int)), .int (zI rf), .ref m4, .int (zI ((len : Nat) : Int)), .int (zI ((sp : Nat) : Int)), .int (zI nu), .int (zI rk), .int (zI rt), .int (zI ra), .ref m5, .ref m6, .int (zI bm), .ref m7, .ref m8, .ref m9, .ref m10, .long (zL ha)])), (m1, iA D 771 (zU NW (21 + (3 * n)) x)), (m2, iA D 3084 PA), (m3, iA D 771 AS), (m4, iA D 150 tb), (m5, iA D 250 st), (m6, iA D 250 bo), (m7, iA D 250 sh), (m8, iA D 36 f1), (m9, iA D 36 f2), (m10, iA D 2778 pk)]) (21 + (3 * n)) 1 rfl (by omega) (by omega) rfl (dk DX6_records_0k 13 rfl) ?_
  refine zz_aload_n hC 0 (dk DX6_records_0k 14 rfl) rfl rfl ?_
  refine zz_get hC F_X6_7 0 rfl rfl (dk DX6_records_0k 15 rfl) ?_
  refine zz_iload hC 4 (dk DX6_records_0k 16 rfl) rfl ?_
  refine zz_iconst hC (dk DX6_records_0k 17 rfl) ?_
  refine zz_iadd hC (dk DX6_records_0k 18 rfl) ?_
  refine zz_iload_n hC 2 (dk DX6_records_0k 19 rfl) rfl rfl ?_
  refine zz_iast hC (ws' := [(m0, .inr (6, [.ref m1, .ref m2, .ref m3, .int (zI ((sv : Nat) : Int)), .int (zI rf), .ref m4, .int (zI ((len : Nat) : Int)), .int (zI ((sp : Nat) : Int)), .int (zI nu), .int (zI rk), .int (zI rt), .int (zI ra), .ref m5, .ref m6, .int (zI bm), .ref m7, .ref m8, .ref m9, .ref m10, .long (zL ha)])), (m1, iA D 771 (zU (zU NW (21 + (3 * n)) x) ((21 + (3 * n)) + 1) t)), (m2, iA D 3084 PA), (m3, iA D 771 AS), (m4, iA D 150 tb), (m5, iA D 250 st), (m6, iA D 250 bo), (m7, iA D 250 sh), (m8, iA D 36 f1), (m9, iA D 36 f2), (m10, iA D 2778 pk)]) ((21 + (3 * n)) + 1) 1 rfl (by omega) (by omega) rfl (dk DX6_records_0k 20 rfl) ?_
  refine zz_aload_n hC 0 (dk DX6_records_0k 21 rfl) rfl rfl ?_
  refine zz_get hC F_X6_7 0 rfl rfl (dk DX6_records_0k 22 rfl) ?_
  refine zz_iload hC 4 (dk DX6_records_0k 23 rfl) rfl ?_
  refine zz_iconst hC (dk DX6_records_0k 24 rfl) ?_
  refine zz_iadd hC (dk DX6_records_0k 25 rfl) ?_
  refine zz_iload_n hC 3 (dk DX6_records_0k 26 rfl) rfl rfl ?_
  refine zz_iast hC (ws' := [(m0, .inr (6, [.ref m1, .ref m2, .ref m3, .int (zI ((sv : Nat) : Int)), .int (zI rf), .ref m4, .int (zI ((len : Nat) : Int)), .int (zI ((sp : Nat) : Int)), .int (zI nu), .int (zI rk), .int (zI rt), .int (zI ra), .ref m5, .ref m6, .int (zI bm), .ref m7, .ref m8, .ref m9, .ref m10, .long (zL ha)])), (m1, iA D 771 (zU (zU (zU NW (21 + (3 * n)) x) ((21 + (3 * n)) + 1) t) ((21 + (3 * n)) + 2) v)), (m2, iA D 3084 PA), (m3, iA D 771 AS), (m4, iA D 150 tb), (m5, iA D 250 st), (m6, iA D 250 bo), (m7, iA D 250 sh), (m8, iA D 36 f1), (m9, iA D 36 f2), (m10, iA D 2778 pk)]) ((21 + (3 * n)) + 2) 1 rfl (by omega) (by omega) rfl (dk DX6_records_0k 27 rfl) ?_
  refine zz_aload_n hC 0 (dk DX6_records_0k 28 rfl) rfl rfl ?_
  refine zz_get hC F_X6_7 0 rfl rfl (dk DX6_records_0k 29 rfl) ?_
  refine zz_bipush hC (dk DX6_records_0k 30 rfl) (by decide) ?_
  refine zz_dup2 hC (dk DX6_records_0k 31 rfl) rfl rfl ?_
  refine zz_iald hC 20 1 rfl rfl (by omega) (dk DX6_records_0k 32 rfl) ?_
  rw [show ((zU (zU (zU NW (21 + (3 * n)) x) ((21 + (3 * n)) + 1) t) ((21 + (3 * n)) + 2) v) 20) = ((n : Nat) : Int) from ((zU_n (by omega)).trans ((zU_n (by omega)).trans ((zU_n (by omega)).trans hN.2.2.2.1)))]
  refine zz_iconst hC (dk DX6_records_0k 33 rfl) ?_
  refine zz_iadd hC (dk DX6_records_0k 34 rfl) ?_
  refine zz_iast hC (ws' := [(m0, .inr (6, [.ref m1, .ref m2, .ref m3, .int (zI ((sv : Nat) : Int)), .int (zI rf), .ref m4, .int (zI ((len : Nat) : Int)), .int (zI ((sp : Nat) : Int)), .int (zI nu), .int (zI rk), .int (zI rt), .int (zI ra), .ref m5, .ref m6, .int (zI bm), .ref m7, .ref m8, .ref m9, .ref m10, .long (zL ha)])), (m1, iA D 771 (zU (zU (zU (zU NW (21 + (3 * n)) x) ((21 + (3 * n)) + 1) t) ((21 + (3 * n)) + 2) v) 20 ((n + 1 : Nat) : Int))), (m2, iA D 3084 PA), (m3, iA D 771 AS), (m4, iA D 150 tb), (m5, iA D 250 st), (m6, iA D 250 bo), (m7, iA D 250 sh), (m8, iA D 36 f1), (m9, iA D 36 f2), (m10, iA D 2778 pk)]) 20 1 rfl rfl (by omega) rfl (dk DX6_records_0k 35 rfl) ?_
  refine zz_aload_n hC 0 (dk DX6_records_0k 36 rfl) rfl rfl ?_
  refine zz_get hC F_X6_7 0 rfl rfl (dk DX6_records_0k 37 rfl) ?_
  refine zz_bipush hC (dk DX6_records_0k 38 rfl) (by decide) ?_
  refine zz_iald hC 20 1 rfl rfl (by omega) (dk DX6_records_0k 39 rfl) ?_
  rw [show ((zU (zU (zU (zU NW (21 + (3 * n)) x) ((21 + (3 * n)) + 1) t) ((21 + (3 * n)) + 2) v) 20 ((n + 1 : Nat) : Int)) 20) = ((n + 1 : Nat) : Int) from zU_s]
  refine zz_iconst hC (dk DX6_records_0k 40 rfl) ?_
  refine zz_isub hC (dk DX6_records_0k 41 rfl) ?_
  exact zz_iret hC hQ hr () trivial (by omega) [0, 1, 2, 3, 4, 5, 6, 7, 8, 9, 10] rfl rfl ⟨Nat.le_refl _, Nat.le_refl _⟩ (dk DX6_records_0k 42 rfl)
set_option maxHeartbeats 4000000 in
set_option maxRecDepth 100000 in
theorem c_X6_record (l : Launch) (D : zG) (m0 : Nat) (m1 : Nat) (m2 : Nat) (m3 : Nat) (m4 : Nat) (m5 : Nat) (m6 : Nat) (m7 : Nat) (m8 : Nat) (m9 : Nat) (m10 : Nat) (NW : Nat → Int) (PA : Nat → Int) (AS : Nat → Int) (tb : Nat → Int) (st : Nat → Int) (bo : Nat → Int) (sh : Nat → Int) (f1 : Nat → Int) (f2 : Nat → Int) (pk : Nat → Int) (sv : Nat) (len : Nat) (sp : Nat) (rf : Int) (nu : Int) (rk : Int) (rt : Int) (ra : Int) (bm : Int) (ha : Int) (n : Nat) (w : Nat) (K : Nat → Int) (T : Nat → Int) (U : Nat → Int) (S : Nat → Int) (F : Nat → Int) (L : Nat → Int) (x : Int) (t : Int) (v : Int) (hN : zRow NW n K T U S F L w) (hg : zLog n K T U) (hs : zSet S) (hw : zWin w F L) (hsv : sv ≤ 4) (hri : (-2147483648 ≤ x ∧ x ≤ 2147483647) ∧ (-2147483648 ≤ t ∧ t ≤ 2147483647) ∧ (-2147483648 ≤ v ∧ v ≤ 2147483647)) : CI (S := (Nat → Int) × (Nat → Int) × Nat × Int × Int) l yX6_record cX6_record 5 ((some .int)) ({ frames := 2, cells := 0, slots := 0, locals := 41 } : Room) D [.ref m0, .int (zI x), .int (zI t), .int (zI v)] [(m0, .inr (6, [.ref m1, .ref m2, .ref m3, .int (zI ((sv : Nat) : Int)), .int (zI rf), .ref m4, .int (zI ((len : Nat) : Int)), .int (zI ((sp : Nat) : Int)), .int (zI nu), .int (zI rk), .int (zI rt), .int (zI ra), .ref m5, .ref m6, .int (zI bm), .ref m7, .ref m8, .ref m9, .ref m10, .long (zL ha)])), (m1, iA D 771 NW), (m2, iA D 3084 PA), (m3, iA D 771 AS), (m4, iA D 150 tb), (m5, iA D 250 st), (m6, iA D 250 bo), (m7, iA D 250 sh), (m8, iA D 36 f1), (m9, iA D 36 f2), (m10, iA D 2778 pk)] (fun u => zP2 (zOkR n T x t v) (n < 250) (u.2.2.2.1) (u.2.2.2.2 = n ∧ zRow u.1 (n + 1) (zU K n x) (zU T n t) (zU U n v) S F L w ∧ zSv NW PA sv u.2.1 ∧ u.2.2.1 = zMs sv) (u.1 = NW ∧ u.2.1 = PA ∧ u.2.2.1 = sv)) (fun u => u.2.2.2.2) (fun u => [(m0, .inr (6, [.ref m1, .ref m2, .ref m3, .int (zI ((u.2.2.1 : Nat) : Int)), .int (zI u.2.2.2.1), .ref m4, .int (zI ((len : Nat) : Int)), .int (zI ((sp : Nat) : Int)), .int (zI nu), .int (zI rk), .int (zI rt), .int (zI ra), .ref m5, .ref m6, .int (zI bm), .ref m7, .ref m8, .ref m9, .ref m10, .long (zL ha)])), (m1, iA D 771 u.1), (m2, iA D 3084 u.2.1), (m3, iA D 771 AS), (m4, iA D 150 tb), (m5, iA D 250 st), (m6, iA D 250 bo), (m7, iA D 250 sh), (m8, iA D 36 f1), (m9, iA D 36 f2), (m10, iA D 2778 pk)]) := by
  refine CI_of (by decide) (Nat.le_of_ble_eq_true rfl) ?_
  intro p e s m args below meth cd A Q hQ hC hr hnm
  have hC : ZC p s m args meth cd A D 5 cX6_record RX6 := hC
  have hg0 := hg
  obtain ⟨hn, hK, hT, hU, hM⟩ := hg0
  have hw4 := hw.1
  show Z p l e ({ frames := 2, cells := 0, slots := 0, locals := 41 } : Room) s m args below meth cd A D Q 5 0 0 [(m0, .inr (6, [.ref m1, .ref m2, .ref m3, .int (zI ((sv : Nat) : Int)), .int (zI rf), .ref m4, .int (zI ((len : Nat) : Int)), .int (zI ((sp : Nat) : Int)), .int (zI nu), .int (zI rk), .int (zI rt), .int (zI ra), .ref m5, .ref m6, .int (zI bm), .ref m7, .ref m8, .ref m9, .ref m10, .long (zL ha)])), (m1, iA D 771 NW), (m2, iA D 3084 PA), (m3, iA D 771 AS), (m4, iA D 150 tb), (m5, iA D 250 st), (m6, iA D 250 bo), (m7, iA D 250 sh), (m8, iA D 36 f1), (m9, iA D 36 f2), (m10, iA D 2778 pk)] [(0, .ref m0), (1, .int (zI x)), (2, .int (zI t)), (3, .int (zI v))] [] 0
  refine zz_iload_n hC 1 (dk DX6_record_0k 0 rfl) rfl rfl ?_
  refine zz_iconst hC (dk DX6_record_0k 1 rfl) ?_
  refine zz_iconst hC (dk DX6_record_0k 2 rfl) ?_
  refine zz_pureSi hC (c_X6_within l D x 0 2 (by omega)) G_X6_52 H_X6_within.2 ⟨Nat.le_of_ble_eq_true rfl, Nat.le_of_ble_eq_true rfl⟩ rfl [] rfl rfl (As := [.int (zI x), .int (zI 0), .int (zI 2)]) (rest := []) (Nat.le_of_ble_eq_true rfl) rfl ⟨Nat.le_of_ble_eq_true rfl, Nat.le_of_ble_eq_true rfl⟩ (dk DX6_record_0k 3 rfl) ⟨rfl, rfl⟩ ?_
  refine zz_ifb_eq hC 39 (dk DX6_record_0k 4 rfl) (by decide) (fun c1 => ?_) (fun c1 => ?_)
  · refine zz_iconst hC (dk DX6_record_0k 18 rfl) ?_
    refine zz_istore hC (ls' := [(0, .ref m0), (1, .int (zI x)), (2, .int (zI t)), (3, .int (zI v)), (4, .int (zI 0))]) [1, 2, 3, 4, 0] (dk DX6_record_0k 19 rfl) (by decide) rfl ?_
    refine zz_aload_n hC 0 (dk DX6_record_0k 20 rfl) rfl rfl ?_
    refine zz_iload hC 4 (dk DX6_record_0k 21 rfl) rfl ?_
    refine zz_if_ne hC 52 (dk DX6_record_0k 22 rfl) (by decide) (by decide) (fun c2 => ?_) (fun c2 => ?_)
    · exfalso; omega
    · refine zz_iconst hC (dk DX6_record_0k 23 rfl) ?_
      refine zz_goto hC 70 (dk DX6_record_0k 24 rfl) (by decide) ?_
      refine zz_callVi hC (wr := []) (c_X6_refused l D m0 m1 m2 m3 m4 m5 m6 m7 m8 m9 m10 NW PA AS tb st bo sh f1 f2 pk sv len sp rf nu rk rt ra bm ha n w K T U S F L 1 (by omega)) G_X6_47 H_X6_refused ⟨Nat.le_of_ble_eq_true rfl, Nat.le_of_ble_eq_true rfl⟩ rfl [0, 1, 2, 3, 4, 5, 6, 7, 8, 9, 10] [] rfl rfl ⟨rfl, rfl, by decide⟩ 0 6 ⟨rfl, rfl, rfl⟩ (As := [.int (zI 1)]) (rest := []) (Nat.le_of_ble_eq_true rfl) rfl ⟨Nat.le_of_ble_eq_true rfl, Nat.le_of_ble_eq_true rfl⟩ (dk DX6_record_0k 34 rfl) ⟨rfl, rfl⟩ (wb := fun u3 => [(m0, .inr (6, [.ref m1, .ref m2, .ref m3, .int (zI ((sv : Nat) : Int)), .int (zI 1), .ref m4, .int (zI ((len : Nat) : Int)), .int (zI ((sp : Nat) : Int)), .int (zI nu), .int (zI rk), .int (zI rt), .int (zI ra), .ref m5, .ref m6, .int (zI bm), .ref m7, .ref m8, .ref m9, .ref m10, .long (zL ha)])), (m1, iA D 771 NW), (m2, iA D 3084 PA), (m3, iA D 771 AS), (m4, iA D 150 tb), (m5, iA D 250 st), (m6, iA D 250 bo), (m7, iA D 250 sh), (m8, iA D 36 f1), (m9, iA D 36 f2), (m10, iA D 2778 pk)]) [0, 1, 2, 3, 4, 5, 6, 7, 8, 9, 10] rfl (fun _ => rfl) (fun u3 hu3 => ?_)
      refine zz_ifb_eq hC 78 (dk DX6_record_0k 35 rfl) (by decide) (fun c4 => ?_) (fun c4 => ?_)
      · exfalso; omega
      · refine zz_iconst hC (dk DX6_record_0k 36 rfl) ?_
        exact zz_iret hC hQ hr (NW, PA, sv, 1, 0) (Or.inr (Or.inl ⟨(by unfold zOkR; omega), rfl, rfl, rfl, rfl⟩)) rfl [0, 1, 2, 3, 4, 5, 6, 7, 8, 9, 10] rfl rfl ⟨Nat.le_refl _, Nat.le_refl _⟩ (dk DX6_record_0k 37 rfl)
  · refine zz_iload_n hC 2 (dk DX6_record_0k 5 rfl) rfl rfl ?_
    refine zz_aload_n hC 0 (dk DX6_record_0k 6 rfl) rfl rfl ?_
    refine zz_pureVi hC (c_X6_latest l D m0 m1 m2 m3 m4 m5 m6 m7 m8 m9 m10 NW PA AS tb st bo sh f1 f2 pk sv len sp rf nu rk rt ra bm ha n w K T U S F L hN hg) G_X6_72 H_X6_latest ⟨Nat.le_of_ble_eq_true rfl, Nat.le_of_ble_eq_true rfl⟩ rfl [0, 1, 2, 3, 4, 5, 6, 7, 8, 9, 10] rfl rfl 0 6 ⟨rfl, rfl, rfl⟩ (As := []) (rest := [.int (zI t)]) (Nat.le_of_ble_eq_true rfl) rfl ⟨Nat.le_of_ble_eq_true rfl, Nat.le_of_ble_eq_true rfl⟩ (dk DX6_record_0k 7 rfl) ⟨rfl, rfl⟩ ?_
    have hf5 := zLast_in hg
    refine zz_ldc hC 1000000 K_X6_76 (by decide) (dk DX6_record_0k 8 rfl) ?_
    refine zz_pureSi hC (c_X6_within l D t (zLast n T) 1000000 (by omega)) G_X6_52 H_X6_within.2 ⟨Nat.le_of_ble_eq_true rfl, Nat.le_of_ble_eq_true rfl⟩ rfl [] rfl rfl (As := [.int (zI t), .int (zI (zLast n T)), .int (zI 1000000)]) (rest := []) (Nat.le_of_ble_eq_true rfl) rfl ⟨Nat.le_of_ble_eq_true rfl, Nat.le_of_ble_eq_true rfl⟩ (dk DX6_record_0k 9 rfl) ⟨rfl, rfl⟩ ?_
    refine zz_ifb_eq hC 39 (dk DX6_record_0k 10 rfl) (by decide) (fun c6 => ?_) (fun c6 => ?_)
    · refine zz_iconst hC (dk DX6_record_0k 18 rfl) ?_
      refine zz_istore hC (ls' := [(0, .ref m0), (1, .int (zI x)), (2, .int (zI t)), (3, .int (zI v)), (4, .int (zI 0))]) [1, 2, 3, 4, 0] (dk DX6_record_0k 19 rfl) (by decide) rfl ?_
      refine zz_aload_n hC 0 (dk DX6_record_0k 20 rfl) rfl rfl ?_
      refine zz_iload hC 4 (dk DX6_record_0k 21 rfl) rfl ?_
      refine zz_if_ne hC 52 (dk DX6_record_0k 22 rfl) (by decide) (by decide) (fun c7 => ?_) (fun c7 => ?_)
      · exfalso; omega
      · refine zz_iconst hC (dk DX6_record_0k 23 rfl) ?_
        refine zz_goto hC 70 (dk DX6_record_0k 24 rfl) (by decide) ?_
        refine zz_callVi hC (wr := []) (c_X6_refused l D m0 m1 m2 m3 m4 m5 m6 m7 m8 m9 m10 NW PA AS tb st bo sh f1 f2 pk sv len sp rf nu rk rt ra bm ha n w K T U S F L 1 (by omega)) G_X6_47 H_X6_refused ⟨Nat.le_of_ble_eq_true rfl, Nat.le_of_ble_eq_true rfl⟩ rfl [0, 1, 2, 3, 4, 5, 6, 7, 8, 9, 10] [] rfl rfl ⟨rfl, rfl, by decide⟩ 0 6 ⟨rfl, rfl, rfl⟩ (As := [.int (zI 1)]) (rest := []) (Nat.le_of_ble_eq_true rfl) rfl ⟨Nat.le_of_ble_eq_true rfl, Nat.le_of_ble_eq_true rfl⟩ (dk DX6_record_0k 34 rfl) ⟨rfl, rfl⟩ (wb := fun u8 => [(m0, .inr (6, [.ref m1, .ref m2, .ref m3, .int (zI ((sv : Nat) : Int)), .int (zI 1), .ref m4, .int (zI ((len : Nat) : Int)), .int (zI ((sp : Nat) : Int)), .int (zI nu), .int (zI rk), .int (zI rt), .int (zI ra), .ref m5, .ref m6, .int (zI bm), .ref m7, .ref m8, .ref m9, .ref m10, .long (zL ha)])), (m1, iA D 771 NW), (m2, iA D 3084 PA), (m3, iA D 771 AS), (m4, iA D 150 tb), (m5, iA D 250 st), (m6, iA D 250 bo), (m7, iA D 250 sh), (m8, iA D 36 f1), (m9, iA D 36 f2), (m10, iA D 2778 pk)]) [0, 1, 2, 3, 4, 5, 6, 7, 8, 9, 10] rfl (fun _ => rfl) (fun u8 hu8 => ?_)
        refine zz_ifb_eq hC 78 (dk DX6_record_0k 35 rfl) (by decide) (fun c9 => ?_) (fun c9 => ?_)
        · exfalso; omega
        · refine zz_iconst hC (dk DX6_record_0k 36 rfl) ?_
          exact zz_iret hC hQ hr (NW, PA, sv, 1, 0) (Or.inr (Or.inl ⟨(by unfold zOkR; omega), rfl, rfl, rfl, rfl⟩)) rfl [0, 1, 2, 3, 4, 5, 6, 7, 8, 9, 10] rfl rfl ⟨Nat.le_refl _, Nat.le_refl _⟩ (dk DX6_record_0k 37 rfl)
    · refine zz_iload_n hC 3 (dk DX6_record_0k 11 rfl) rfl rfl ?_
      refine zz_sipush hC (dk DX6_record_0k 12 rfl) (by decide) ?_
      refine zz_sipush hC (dk DX6_record_0k 13 rfl) (by decide) ?_
      refine zz_pureSi hC (c_X6_within l D v (-2000) 2000 (by omega)) G_X6_52 H_X6_within.2 ⟨Nat.le_of_ble_eq_true rfl, Nat.le_of_ble_eq_true rfl⟩ rfl [] rfl rfl (As := [.int (zI v), .int (zI (-2000)), .int (zI 2000)]) (rest := []) (Nat.le_of_ble_eq_true rfl) rfl ⟨Nat.le_of_ble_eq_true rfl, Nat.le_of_ble_eq_true rfl⟩ (dk DX6_record_0k 14 rfl) ⟨rfl, rfl⟩ ?_
      refine zz_ifb_eq hC 39 (dk DX6_record_0k 15 rfl) (by decide) (fun c10 => ?_) (fun c10 => ?_)
      · refine zz_iconst hC (dk DX6_record_0k 18 rfl) ?_
        refine zz_istore hC (ls' := [(0, .ref m0), (1, .int (zI x)), (2, .int (zI t)), (3, .int (zI v)), (4, .int (zI 0))]) [1, 2, 3, 4, 0] (dk DX6_record_0k 19 rfl) (by decide) rfl ?_
        refine zz_aload_n hC 0 (dk DX6_record_0k 20 rfl) rfl rfl ?_
        refine zz_iload hC 4 (dk DX6_record_0k 21 rfl) rfl ?_
        refine zz_if_ne hC 52 (dk DX6_record_0k 22 rfl) (by decide) (by decide) (fun c11 => ?_) (fun c11 => ?_)
        · exfalso; omega
        · refine zz_iconst hC (dk DX6_record_0k 23 rfl) ?_
          refine zz_goto hC 70 (dk DX6_record_0k 24 rfl) (by decide) ?_
          refine zz_callVi hC (wr := []) (c_X6_refused l D m0 m1 m2 m3 m4 m5 m6 m7 m8 m9 m10 NW PA AS tb st bo sh f1 f2 pk sv len sp rf nu rk rt ra bm ha n w K T U S F L 1 (by omega)) G_X6_47 H_X6_refused ⟨Nat.le_of_ble_eq_true rfl, Nat.le_of_ble_eq_true rfl⟩ rfl [0, 1, 2, 3, 4, 5, 6, 7, 8, 9, 10] [] rfl rfl ⟨rfl, rfl, by decide⟩ 0 6 ⟨rfl, rfl, rfl⟩ (As := [.int (zI 1)]) (rest := []) (Nat.le_of_ble_eq_true rfl) rfl ⟨Nat.le_of_ble_eq_true rfl, Nat.le_of_ble_eq_true rfl⟩ (dk DX6_record_0k 34 rfl) ⟨rfl, rfl⟩ (wb := fun u12 => [(m0, .inr (6, [.ref m1, .ref m2, .ref m3, .int (zI ((sv : Nat) : Int)), .int (zI 1), .ref m4, .int (zI ((len : Nat) : Int)), .int (zI ((sp : Nat) : Int)), .int (zI nu), .int (zI rk), .int (zI rt), .int (zI ra), .ref m5, .ref m6, .int (zI bm), .ref m7, .ref m8, .ref m9, .ref m10, .long (zL ha)])), (m1, iA D 771 NW), (m2, iA D 3084 PA), (m3, iA D 771 AS), (m4, iA D 150 tb), (m5, iA D 250 st), (m6, iA D 250 bo), (m7, iA D 250 sh), (m8, iA D 36 f1), (m9, iA D 36 f2), (m10, iA D 2778 pk)]) [0, 1, 2, 3, 4, 5, 6, 7, 8, 9, 10] rfl (fun _ => rfl) (fun u12 hu12 => ?_)
          refine zz_ifb_eq hC 78 (dk DX6_record_0k 35 rfl) (by decide) (fun c13 => ?_) (fun c13 => ?_)
          · exfalso; omega
          · refine zz_iconst hC (dk DX6_record_0k 36 rfl) ?_
            exact zz_iret hC hQ hr (NW, PA, sv, 1, 0) (Or.inr (Or.inl ⟨(by unfold zOkR; omega), rfl, rfl, rfl, rfl⟩)) rfl [0, 1, 2, 3, 4, 5, 6, 7, 8, 9, 10] rfl rfl ⟨Nat.le_refl _, Nat.le_refl _⟩ (dk DX6_record_0k 37 rfl)
      · refine zz_iconst hC (dk DX6_record_0k 16 rfl) ?_
        refine zz_goto hC 40 (dk DX6_record_0k 17 rfl) (by decide) ?_
        refine zz_istore hC (ls' := [(0, .ref m0), (1, .int (zI x)), (2, .int (zI t)), (3, .int (zI v)), (4, .int (zI 1))]) [1, 2, 3, 4, 0] (dk DX6_record_0k 19 rfl) (by decide) rfl ?_
        refine zz_aload_n hC 0 (dk DX6_record_0k 20 rfl) rfl rfl ?_
        refine zz_iload hC 4 (dk DX6_record_0k 21 rfl) rfl ?_
        refine zz_if_ne hC 52 (dk DX6_record_0k 22 rfl) (by decide) (by decide) (fun c14 => ?_) (fun c14 => ?_)
        · refine zz_aload_n hC 0 (dk DX6_record_0k 25 rfl) rfl rfl ?_
          refine zz_get hC F_X6_7 0 rfl rfl (dk DX6_record_0k 26 rfl) ?_
          refine zz_bipush hC (dk DX6_record_0k 27 rfl) (by decide) ?_
          refine zz_iald hC 20 1 rfl rfl (by omega) (dk DX6_record_0k 28 rfl) ?_
          rw [hN.2.2.2.1]
          refine zz_sipush hC (dk DX6_record_0k 29 rfl) (by decide) ?_
          refine zz_icmp_ne hC 69 (dk DX6_record_0k 30 rfl) (by decide) ⟨⟨by omega, by omega⟩, (by decide)⟩ (fun c15 => ?_) (fun c15 => ?_)
          · refine zz_iconst hC (dk DX6_record_0k 33 rfl) ?_
            refine zz_callVi hC (wr := []) (c_X6_refused l D m0 m1 m2 m3 m4 m5 m6 m7 m8 m9 m10 NW PA AS tb st bo sh f1 f2 pk sv len sp rf nu rk rt ra bm ha n w K T U S F L 0 (by omega)) G_X6_47 H_X6_refused ⟨Nat.le_of_ble_eq_true rfl, Nat.le_of_ble_eq_true rfl⟩ rfl [0, 1, 2, 3, 4, 5, 6, 7, 8, 9, 10] [] rfl rfl ⟨rfl, rfl, by decide⟩ 0 6 ⟨rfl, rfl, rfl⟩ (As := [.int (zI 0)]) (rest := []) (Nat.le_of_ble_eq_true rfl) rfl ⟨Nat.le_of_ble_eq_true rfl, Nat.le_of_ble_eq_true rfl⟩ (dk DX6_record_0k 34 rfl) ⟨rfl, rfl⟩ (wb := fun u16 => [(m0, .inr (6, [.ref m1, .ref m2, .ref m3, .int (zI ((sv : Nat) : Int)), .int (zI 0), .ref m4, .int (zI ((len : Nat) : Int)), .int (zI ((sp : Nat) : Int)), .int (zI nu), .int (zI rk), .int (zI rt), .int (zI ra), .ref m5, .ref m6, .int (zI bm), .ref m7, .ref m8, .ref m9, .ref m10, .long (zL ha)])), (m1, iA D 771 NW), (m2, iA D 3084 PA), (m3, iA D 771 AS), (m4, iA D 150 tb), (m5, iA D 250 st), (m6, iA D 250 bo), (m7, iA D 250 sh), (m8, iA D 36 f1), (m9, iA D 36 f2), (m10, iA D 2778 pk)]) [0, 1, 2, 3, 4, 5, 6, 7, 8, 9, 10] rfl (fun _ => rfl) (fun u16 hu16 => ?_)
            refine zz_ifb_eq hC 78 (dk DX6_record_0k 35 rfl) (by decide) (fun c17 => ?_) (fun c17 => ?_)
            · refine zz_aload_n hC 0 (dk DX6_record_0k 38 rfl) rfl rfl ?_
              refine zz_callVv hC (wr := []) (c_X6_saves l D m0 m1 m2 m3 m4 m5 m6 m7 m8 m9 m10 NW PA AS tb st bo sh f1 f2 pk sv len sp 0 nu rk rt ra bm ha n w K T U S F L hsv) G_X6_66 H_X6_saves ⟨Nat.le_of_ble_eq_true rfl, Nat.le_of_ble_eq_true rfl⟩ rfl [0, 1, 2, 3, 4, 5, 6, 7, 8, 9, 10] [] rfl rfl ⟨rfl, rfl, by decide⟩ 0 6 ⟨rfl, rfl, rfl⟩ (As := []) (rest := []) (Nat.le_of_ble_eq_true rfl) rfl ⟨Nat.le_of_ble_eq_true rfl, Nat.le_of_ble_eq_true rfl⟩ (dk DX6_record_0k 39 rfl) ⟨rfl, rfl⟩ (wb := fun u18 => [(m0, .inr (6, [.ref m1, .ref m2, .ref m3, .int (zI ((zMs sv : Nat) : Int)), .int (zI 0), .ref m4, .int (zI ((len : Nat) : Int)), .int (zI ((sp : Nat) : Int)), .int (zI nu), .int (zI rk), .int (zI rt), .int (zI ra), .ref m5, .ref m6, .int (zI bm), .ref m7, .ref m8, .ref m9, .ref m10, .long (zL ha)])), (m1, iA D 771 NW), (m2, iA D 3084 u18), (m3, iA D 771 AS), (m4, iA D 150 tb), (m5, iA D 250 st), (m6, iA D 250 bo), (m7, iA D 250 sh), (m8, iA D 36 f1), (m9, iA D 36 f2), (m10, iA D 2778 pk)]) [0, 1, 2, 3, 4, 5, 6, 7, 8, 9, 10] rfl (fun _ => rfl) (fun u18 hu18 => ?_)
              refine zz_aload_n hC 0 (dk DX6_record_0k 40 rfl) rfl rfl ?_
              refine zz_iload_n hC 1 (dk DX6_record_0k 41 rfl) rfl rfl ?_
              refine zz_iload_n hC 2 (dk DX6_record_0k 42 rfl) rfl rfl ?_
              refine zz_iload_n hC 3 (dk DX6_record_0k 43 rfl) rfl rfl ?_
              refine zz_callVi hC (wr := []) (c_X6_records l D m0 m1 m2 m3 m4 m5 m6 m7 m8 m9 m10 NW u18 AS tb st bo sh f1 f2 pk (zMs sv) len sp 0 nu rk rt ra bm ha n w K T U S F L x t v hN (by omega)) G_X6_77 H_X6_records ⟨Nat.le_of_ble_eq_true rfl, Nat.le_of_ble_eq_true rfl⟩ rfl [0, 1, 2, 3, 4, 5, 6, 7, 8, 9, 10] [] rfl rfl ⟨rfl, rfl, by decide⟩ 0 6 ⟨rfl, rfl, rfl⟩ (As := [.int (zI x), .int (zI t), .int (zI v)]) (rest := []) (Nat.le_of_ble_eq_true rfl) rfl ⟨Nat.le_of_ble_eq_true rfl, Nat.le_of_ble_eq_true rfl⟩ (dk DX6_record_0k 44 rfl) ⟨rfl, rfl⟩ (wb := fun u19 => [(m0, .inr (6, [.ref m1, .ref m2, .ref m3, .int (zI (((zMs sv) : Nat) : Int)), .int (zI 0), .ref m4, .int (zI ((len : Nat) : Int)), .int (zI ((sp : Nat) : Int)), .int (zI nu), .int (zI rk), .int (zI rt), .int (zI ra), .ref m5, .ref m6, .int (zI bm), .ref m7, .ref m8, .ref m9, .ref m10, .long (zL ha)])), (m1, iA D 771 (zU (zU (zU (zU NW (21 + (3 * n)) x) ((21 + (3 * n)) + 1) t) ((21 + (3 * n)) + 2) v) 20 ((n + 1 : Nat) : Int))), (m2, iA D 3084 u18), (m3, iA D 771 AS), (m4, iA D 150 tb), (m5, iA D 250 st), (m6, iA D 250 bo), (m7, iA D 250 sh), (m8, iA D 36 f1), (m9, iA D 36 f2), (m10, iA D 2778 pk)]) [0, 1, 2, 3, 4, 5, 6, 7, 8, 9, 10] rfl (fun _ => rfl) (fun u19 hu19 => ?_)
              exact zz_iret hC hQ hr ((zU (zU (zU (zU NW (21 + (3 * n)) x) ((21 + (3 * n)) + 1) t) ((21 + (3 * n)) + 2) v) 20 ((n + 1 : Nat) : Int)), u18, ((zMs sv)), 0, ((n : Nat) : Int)) (Or.inl ⟨(by unfold zOkR; omega), (by omega), rfl, ⟨rfl, row_rec hN hw4, hu18, rfl⟩⟩) rfl [0, 1, 2, 3, 4, 5, 6, 7, 8, 9, 10] rfl rfl ⟨Nat.le_refl _, Nat.le_refl _⟩ (dk DX6_record_0k 45 rfl)
            · exfalso; omega
          · refine zz_iconst hC (dk DX6_record_0k 31 rfl) ?_
            refine zz_goto hC 70 (dk DX6_record_0k 32 rfl) (by decide) ?_
            refine zz_callVi hC (wr := []) (c_X6_refused l D m0 m1 m2 m3 m4 m5 m6 m7 m8 m9 m10 NW PA AS tb st bo sh f1 f2 pk sv len sp rf nu rk rt ra bm ha n w K T U S F L 2 (by omega)) G_X6_47 H_X6_refused ⟨Nat.le_of_ble_eq_true rfl, Nat.le_of_ble_eq_true rfl⟩ rfl [0, 1, 2, 3, 4, 5, 6, 7, 8, 9, 10] [] rfl rfl ⟨rfl, rfl, by decide⟩ 0 6 ⟨rfl, rfl, rfl⟩ (As := [.int (zI 2)]) (rest := []) (Nat.le_of_ble_eq_true rfl) rfl ⟨Nat.le_of_ble_eq_true rfl, Nat.le_of_ble_eq_true rfl⟩ (dk DX6_record_0k 34 rfl) ⟨rfl, rfl⟩ (wb := fun u20 => [(m0, .inr (6, [.ref m1, .ref m2, .ref m3, .int (zI ((sv : Nat) : Int)), .int (zI 2), .ref m4, .int (zI ((len : Nat) : Int)), .int (zI ((sp : Nat) : Int)), .int (zI nu), .int (zI rk), .int (zI rt), .int (zI ra), .ref m5, .ref m6, .int (zI bm), .ref m7, .ref m8, .ref m9, .ref m10, .long (zL ha)])), (m1, iA D 771 NW), (m2, iA D 3084 PA), (m3, iA D 771 AS), (m4, iA D 150 tb), (m5, iA D 250 st), (m6, iA D 250 bo), (m7, iA D 250 sh), (m8, iA D 36 f1), (m9, iA D 36 f2), (m10, iA D 2778 pk)]) [0, 1, 2, 3, 4, 5, 6, 7, 8, 9, 10] rfl (fun _ => rfl) (fun u20 hu20 => ?_)
            refine zz_ifb_eq hC 78 (dk DX6_record_0k 35 rfl) (by decide) (fun c21 => ?_) (fun c21 => ?_)
            · exfalso; omega
            · refine zz_iconst hC (dk DX6_record_0k 36 rfl) ?_
              exact zz_iret hC hQ hr (NW, PA, sv, 2, 0) (Or.inr (Or.inr ⟨(by unfold zOkR; omega), (by omega), rfl, rfl, rfl, rfl⟩)) rfl [0, 1, 2, 3, 4, 5, 6, 7, 8, 9, 10] rfl rfl ⟨Nat.le_refl _, Nat.le_refl _⟩ (dk DX6_record_0k 37 rfl)
        · exfalso; omega
set_option maxHeartbeats 4000000 in
set_option maxRecDepth 100000 in
theorem c_X6_forget (l : Launch) (D : zG) (m0 : Nat) (m1 : Nat) (m2 : Nat) (m3 : Nat) (m4 : Nat) (m5 : Nat) (m6 : Nat) (m7 : Nat) (m8 : Nat) (m9 : Nat) (m10 : Nat) (NW : Nat → Int) (PA : Nat → Int) (AS : Nat → Int) (tb : Nat → Int) (st : Nat → Int) (bo : Nat → Int) (sh : Nat → Int) (f1 : Nat → Int) (f2 : Nat → Int) (pk : Nat → Int) (sv : Nat) (len : Nat) (sp : Nat) (rf : Int) (nu : Int) (rk : Int) (rt : Int) (ra : Int) (bm : Int) (ha : Int) (n : Nat) (w : Nat) (K : Nat → Int) (T : Nat → Int) (U : Nat → Int) (S : Nat → Int) (F : Nat → Int) (L : Nat → Int) (t : Int) (hN : zRow NW n K T U S F L w) (hg : zLog n K T U) (hs : zSet S) (hw : zWin w F L) (hsv : sv ≤ 4) (hri : (-2147483648 ≤ t ∧ t ≤ 2147483647)) : CI (S := (Nat → Int) × (Nat → Int) × Nat × Int × Int) l yX6_forget cX6_forget 4 ((some .int)) ({ frames := 1, cells := 0, slots := 0, locals := 22 } : Room) D [.ref m0, .int (zI t)] [(m0, .inr (6, [.ref m1, .ref m2, .ref m3, .int (zI ((sv : Nat) : Int)), .int (zI rf), .ref m4, .int (zI ((len : Nat) : Int)), .int (zI ((sp : Nat) : Int)), .int (zI nu), .int (zI rk), .int (zI rt), .int (zI ra), .ref m5, .ref m6, .int (zI bm), .ref m7, .ref m8, .ref m9, .ref m10, .long (zL ha)])), (m1, iA D 771 NW), (m2, iA D 3084 PA), (m3, iA D 771 AS), (m4, iA D 150 tb), (m5, iA D 250 st), (m6, iA D 250 bo), (m7, iA D 250 sh), (m8, iA D 36 f1), (m9, iA D 36 f2), (m10, iA D 2778 pk)] (fun u => zP1 (0 ≤ t ∧ t ≤ 1000000) (u.2.2.2.1) (u.2.2.2.2 = (zGone T t n : Int) ∧ zRow u.1 (n - zGone T t n) (fun j => K (j + zGone T t n)) (fun j => T (j + zGone T t n)) (fun j => U (j + zGone T t n)) S F L w ∧ zSv NW PA sv u.2.1 ∧ u.2.2.1 = zMs sv) (u.1 = NW ∧ u.2.1 = PA ∧ u.2.2.1 = sv)) (fun u => u.2.2.2.2) (fun u => [(m0, .inr (6, [.ref m1, .ref m2, .ref m3, .int (zI ((u.2.2.1 : Nat) : Int)), .int (zI u.2.2.2.1), .ref m4, .int (zI ((len : Nat) : Int)), .int (zI ((sp : Nat) : Int)), .int (zI nu), .int (zI rk), .int (zI rt), .int (zI ra), .ref m5, .ref m6, .int (zI bm), .ref m7, .ref m8, .ref m9, .ref m10, .long (zL ha)])), (m1, iA D 771 u.1), (m2, iA D 3084 u.2.1), (m3, iA D 771 AS), (m4, iA D 150 tb), (m5, iA D 250 st), (m6, iA D 250 bo), (m7, iA D 250 sh), (m8, iA D 36 f1), (m9, iA D 36 f2), (m10, iA D 2778 pk)]) := by
  refine CI_of (by decide) (Nat.le_of_ble_eq_true rfl) ?_
  intro p e s m args below meth cd A Q hQ hC hr hnm
  have hC : ZC p s m args meth cd A D 4 cX6_forget RX6 := hC
  have hg0 := hg
  obtain ⟨hn, hK, hT, hU, hM⟩ := hg0
  have hw4 := hw.1
  show Z p l e ({ frames := 1, cells := 0, slots := 0, locals := 22 } : Room) s m args below meth cd A D Q 4 0 0 [(m0, .inr (6, [.ref m1, .ref m2, .ref m3, .int (zI ((sv : Nat) : Int)), .int (zI rf), .ref m4, .int (zI ((len : Nat) : Int)), .int (zI ((sp : Nat) : Int)), .int (zI nu), .int (zI rk), .int (zI rt), .int (zI ra), .ref m5, .ref m6, .int (zI bm), .ref m7, .ref m8, .ref m9, .ref m10, .long (zL ha)])), (m1, iA D 771 NW), (m2, iA D 3084 PA), (m3, iA D 771 AS), (m4, iA D 150 tb), (m5, iA D 250 st), (m6, iA D 250 bo), (m7, iA D 250 sh), (m8, iA D 36 f1), (m9, iA D 36 f2), (m10, iA D 2778 pk)] [(0, .ref m0), (1, .int (zI t))] [] 0
  refine zz_aload_n hC 0 (dk DX6_forget_0k 0 rfl) rfl rfl ?_
  refine zz_iload_n hC 1 (dk DX6_forget_0k 1 rfl) rfl rfl ?_
  refine zz_iconst hC (dk DX6_forget_0k 2 rfl) ?_
  refine zz_ldc hC 1000000 K_X6_76 (by decide) (dk DX6_forget_0k 3 rfl) ?_
  refine zz_pureSi hC (c_X6_within l D t 0 1000000 (by omega)) G_X6_52 H_X6_within.2 ⟨Nat.le_of_ble_eq_true rfl, Nat.le_of_ble_eq_true rfl⟩ rfl [] rfl rfl (As := [.int (zI t), .int (zI 0), .int (zI 1000000)]) (rest := [.ref m0]) (Nat.le_of_ble_eq_true rfl) rfl ⟨Nat.le_of_ble_eq_true rfl, Nat.le_of_ble_eq_true rfl⟩ (dk DX6_forget_0k 4 rfl) ⟨rfl, rfl⟩ ?_
  refine zz_ifb_eq hC 15 (dk DX6_forget_0k 5 rfl) (by decide) (fun c1 => ?_) (fun c1 => ?_)
  · refine zz_iconst hC (dk DX6_forget_0k 8 rfl) ?_
    refine zz_callVi hC (wr := []) (c_X6_refused l D m0 m1 m2 m3 m4 m5 m6 m7 m8 m9 m10 NW PA AS tb st bo sh f1 f2 pk sv len sp rf nu rk rt ra bm ha n w K T U S F L 1 (by omega)) G_X6_47 H_X6_refused ⟨Nat.le_of_ble_eq_true rfl, Nat.le_of_ble_eq_true rfl⟩ rfl [0, 1, 2, 3, 4, 5, 6, 7, 8, 9, 10] [] rfl rfl ⟨rfl, rfl, by decide⟩ 0 6 ⟨rfl, rfl, rfl⟩ (As := [.int (zI 1)]) (rest := []) (Nat.le_of_ble_eq_true rfl) rfl ⟨Nat.le_of_ble_eq_true rfl, Nat.le_of_ble_eq_true rfl⟩ (dk DX6_forget_0k 9 rfl) ⟨rfl, rfl⟩ (wb := fun u2 => [(m0, .inr (6, [.ref m1, .ref m2, .ref m3, .int (zI ((sv : Nat) : Int)), .int (zI 1), .ref m4, .int (zI ((len : Nat) : Int)), .int (zI ((sp : Nat) : Int)), .int (zI nu), .int (zI rk), .int (zI rt), .int (zI ra), .ref m5, .ref m6, .int (zI bm), .ref m7, .ref m8, .ref m9, .ref m10, .long (zL ha)])), (m1, iA D 771 NW), (m2, iA D 3084 PA), (m3, iA D 771 AS), (m4, iA D 150 tb), (m5, iA D 250 st), (m6, iA D 250 bo), (m7, iA D 250 sh), (m8, iA D 36 f1), (m9, iA D 36 f2), (m10, iA D 2778 pk)]) [0, 1, 2, 3, 4, 5, 6, 7, 8, 9, 10] rfl (fun _ => rfl) (fun u2 hu2 => ?_)
    refine zz_ifb_eq hC 24 (dk DX6_forget_0k 10 rfl) (by decide) (fun c3 => ?_) (fun c3 => ?_)
    · exfalso; omega
    · refine zz_iconst hC (dk DX6_forget_0k 11 rfl) ?_
      exact zz_iret hC hQ hr (NW, PA, sv, 1, 0) (Or.inr ⟨(by omega), rfl, rfl, rfl, rfl⟩) rfl [0, 1, 2, 3, 4, 5, 6, 7, 8, 9, 10] rfl rfl ⟨Nat.le_refl _, Nat.le_refl _⟩ (dk DX6_forget_0k 12 rfl)
  · refine zz_iconst hC (dk DX6_forget_0k 6 rfl) ?_
    refine zz_goto hC 16 (dk DX6_forget_0k 7 rfl) (by decide) ?_
    refine zz_callVi hC (wr := []) (c_X6_refused l D m0 m1 m2 m3 m4 m5 m6 m7 m8 m9 m10 NW PA AS tb st bo sh f1 f2 pk sv len sp rf nu rk rt ra bm ha n w K T U S F L 0 (by omega)) G_X6_47 H_X6_refused ⟨Nat.le_of_ble_eq_true rfl, Nat.le_of_ble_eq_true rfl⟩ rfl [0, 1, 2, 3, 4, 5, 6, 7, 8, 9, 10] [] rfl rfl ⟨rfl, rfl, by decide⟩ 0 6 ⟨rfl, rfl, rfl⟩ (As := [.int (zI 0)]) (rest := []) (Nat.le_of_ble_eq_true rfl) rfl ⟨Nat.le_of_ble_eq_true rfl, Nat.le_of_ble_eq_true rfl⟩ (dk DX6_forget_0k 9 rfl) ⟨rfl, rfl⟩ (wb := fun u4 => [(m0, .inr (6, [.ref m1, .ref m2, .ref m3, .int (zI ((sv : Nat) : Int)), .int (zI 0), .ref m4, .int (zI ((len : Nat) : Int)), .int (zI ((sp : Nat) : Int)), .int (zI nu), .int (zI rk), .int (zI rt), .int (zI ra), .ref m5, .ref m6, .int (zI bm), .ref m7, .ref m8, .ref m9, .ref m10, .long (zL ha)])), (m1, iA D 771 NW), (m2, iA D 3084 PA), (m3, iA D 771 AS), (m4, iA D 150 tb), (m5, iA D 250 st), (m6, iA D 250 bo), (m7, iA D 250 sh), (m8, iA D 36 f1), (m9, iA D 36 f2), (m10, iA D 2778 pk)]) [0, 1, 2, 3, 4, 5, 6, 7, 8, 9, 10] rfl (fun _ => rfl) (fun u4 hu4 => ?_)
    refine zz_ifb_eq hC 24 (dk DX6_forget_0k 10 rfl) (by decide) (fun c5 => ?_) (fun c5 => ?_)
    · refine zz_aload_n hC 0 (dk DX6_forget_0k 13 rfl) rfl rfl ?_
      refine zz_callVv hC (wr := []) (c_X6_saves l D m0 m1 m2 m3 m4 m5 m6 m7 m8 m9 m10 NW PA AS tb st bo sh f1 f2 pk sv len sp 0 nu rk rt ra bm ha n w K T U S F L hsv) G_X6_66 H_X6_saves ⟨Nat.le_of_ble_eq_true rfl, Nat.le_of_ble_eq_true rfl⟩ rfl [0, 1, 2, 3, 4, 5, 6, 7, 8, 9, 10] [] rfl rfl ⟨rfl, rfl, by decide⟩ 0 6 ⟨rfl, rfl, rfl⟩ (As := []) (rest := []) (Nat.le_of_ble_eq_true rfl) rfl ⟨Nat.le_of_ble_eq_true rfl, Nat.le_of_ble_eq_true rfl⟩ (dk DX6_forget_0k 14 rfl) ⟨rfl, rfl⟩ (wb := fun u6 => [(m0, .inr (6, [.ref m1, .ref m2, .ref m3, .int (zI ((zMs sv : Nat) : Int)), .int (zI 0), .ref m4, .int (zI ((len : Nat) : Int)), .int (zI ((sp : Nat) : Int)), .int (zI nu), .int (zI rk), .int (zI rt), .int (zI ra), .ref m5, .ref m6, .int (zI bm), .ref m7, .ref m8, .ref m9, .ref m10, .long (zL ha)])), (m1, iA D 771 NW), (m2, iA D 3084 u6), (m3, iA D 771 AS), (m4, iA D 150 tb), (m5, iA D 250 st), (m6, iA D 250 bo), (m7, iA D 250 sh), (m8, iA D 36 f1), (m9, iA D 36 f2), (m10, iA D 2778 pk)]) [0, 1, 2, 3, 4, 5, 6, 7, 8, 9, 10] rfl (fun _ => rfl) (fun u6 hu6 => ?_)
      refine zz_iconst hC (dk DX6_forget_0k 15 rfl) ?_
      refine zz_istore_n hC (ls' := [(0, .ref m0), (1, .int (zI t)), (2, .int (zI 0))]) [1, 2, 0] (dk DX6_forget_0k 16 rfl) rfl (by decide) rfl ?_
      have LP30 : ∀ (fuel30 : Nat) (g : Nat), (g ≤ n) → (∀ j, j < g → T j < t) → n - g < fuel30 → Z p l e ({ frames := 1, cells := 0, slots := 0, locals := 22 } : Room) s m args below meth cd A D Q 4 0 0 [(m0, .inr (6, [.ref m1, .ref m2, .ref m3, .int (zI ((zMs sv : Nat) : Int)), .int (zI 0), .ref m4, .int (zI ((len : Nat) : Int)), .int (zI ((sp : Nat) : Int)), .int (zI nu), .int (zI rk), .int (zI rt), .int (zI ra), .ref m5, .ref m6, .int (zI bm), .ref m7, .ref m8, .ref m9, .ref m10, .long (zL ha)])), (m1, iA D 771 NW), (m2, iA D 3084 u6), (m3, iA D 771 AS), (m4, iA D 150 tb), (m5, iA D 250 st), (m6, iA D 250 bo), (m7, iA D 250 sh), (m8, iA D 36 f1), (m9, iA D 36 f2), (m10, iA D 2778 pk)] [(0, .ref m0), (1, .int (zI t)), (2, .int (zI ((g : Nat) : Int)))] [] 30 := by
        intro fuel30
        induction fuel30 with
        | zero => intro g hgn hgt hfu; exact absurd hfu (Nat.not_lt_zero _)
        | succ fuel30 ih30 =>
          intro g hgn hgt hfu30
          refine zz_iload_n hC 2 (dk DX6_forget_0k 17 rfl) rfl rfl ?_
          refine zz_aload_n hC 0 (dk DX6_forget_0k 18 rfl) rfl rfl ?_
          refine zz_get hC F_X6_7 0 rfl rfl (dk DX6_forget_0k 19 rfl) ?_
          refine zz_bipush hC (dk DX6_forget_0k 20 rfl) (by decide) ?_
          refine zz_iald hC 20 1 rfl rfl (by omega) (dk DX6_forget_0k 21 rfl) ?_
          rw [hN.2.2.2.1]
          refine zz_icmp_ge hC 56 (dk DX6_forget_0k 22 rfl) (by decide) ⟨⟨by omega, by omega⟩, ⟨by omega, by omega⟩⟩ (fun c7 => ?_) (fun c7 => ?_)
          · have hgz : zGone T t n = g := gone_e hM hgn hgt (by omega)
            refine zz_aload_n hC 0 (dk DX6_forget_0k 30 rfl) rfl rfl ?_
            refine zz_get hC F_X6_7 0 rfl rfl (dk DX6_forget_0k 31 rfl) ?_
            refine zz_bipush hC (dk DX6_forget_0k 32 rfl) (by decide) ?_
            refine zz_dup2 hC (dk DX6_forget_0k 33 rfl) rfl rfl ?_
            refine zz_iald hC 20 1 rfl rfl (by omega) (dk DX6_forget_0k 34 rfl) ?_
            rw [hN.2.2.2.1]
            refine zz_iload_n hC 2 (dk DX6_forget_0k 35 rfl) rfl rfl ?_
            refine zz_isub hC (dk DX6_forget_0k 36 rfl) ?_
            rw [show ((n : Nat) : Int) - ((g : Nat) : Int) = ((n - g : Nat) : Int) by omega]
            refine zz_iast hC (ws' := [(m0, .inr (6, [.ref m1, .ref m2, .ref m3, .int (zI ((zMs sv : Nat) : Int)), .int (zI 0), .ref m4, .int (zI ((len : Nat) : Int)), .int (zI ((sp : Nat) : Int)), .int (zI nu), .int (zI rk), .int (zI rt), .int (zI ra), .ref m5, .ref m6, .int (zI bm), .ref m7, .ref m8, .ref m9, .ref m10, .long (zL ha)])), (m1, iA D 771 (zU NW 20 ((n - g : Nat) : Int))), (m2, iA D 3084 u6), (m3, iA D 771 AS), (m4, iA D 150 tb), (m5, iA D 250 st), (m6, iA D 250 bo), (m7, iA D 250 sh), (m8, iA D 36 f1), (m9, iA D 36 f2), (m10, iA D 2778 pk)]) 20 1 rfl rfl (by omega) rfl (dk DX6_forget_0k 37 rfl) ?_
            refine zz_iconst hC (dk DX6_forget_0k 38 rfl) ?_
            refine zz_istore_n hC (ls' := [(0, .ref m0), (1, .int (zI t)), (2, .int (zI ((g : Nat) : Int))), (3, .int (zI 0))]) [1, 2, 3, 0] (dk DX6_forget_0k 39 rfl) rfl (by decide) rfl ?_
            have LP69 : ∀ (fuel69 : Nat) (i : Nat) (N2 : Nat → Int), (i ≤ 3 * (n - g)) → (∀ j, N2 j = if 21 ≤ j ∧ j < 21 + i then NW (j + 3 * g) else if j = 20 then ((n - g : Nat) : Int) else NW j) → 3 * (n - g) - i < fuel69 → Z p l e ({ frames := 1, cells := 0, slots := 0, locals := 22 } : Room) s m args below meth cd A D Q 4 0 0 [(m0, .inr (6, [.ref m1, .ref m2, .ref m3, .int (zI ((zMs sv : Nat) : Int)), .int (zI 0), .ref m4, .int (zI ((len : Nat) : Int)), .int (zI ((sp : Nat) : Int)), .int (zI nu), .int (zI rk), .int (zI rt), .int (zI ra), .ref m5, .ref m6, .int (zI bm), .ref m7, .ref m8, .ref m9, .ref m10, .long (zL ha)])), (m1, iA D 771 N2), (m2, iA D 3084 u6), (m3, iA D 771 AS), (m4, iA D 150 tb), (m5, iA D 250 st), (m6, iA D 250 bo), (m7, iA D 250 sh), (m8, iA D 36 f1), (m9, iA D 36 f2), (m10, iA D 2778 pk)] [(0, .ref m0), (2, .int (zI ((g : Nat) : Int))), (3, .int (zI ((i : Nat) : Int)))] [] 69 := by
              intro fuel69
              induction fuel69 with
              | zero => intro i N2 hi hn2 hfu; exact absurd hfu (Nat.not_lt_zero _)
              | succ fuel69 ih69 =>
                intro i N2 hi hn2 hfu69
                refine zz_iload_n hC 2 (dk DX6_forget_0k 40 rfl) rfl rfl ?_
                refine zz_iconst hC (dk DX6_forget_0k 41 rfl) ?_
                refine zz_aload_n hC 0 (dk DX6_forget_0k 42 rfl) rfl rfl ?_
                refine zz_get hC F_X6_7 0 rfl rfl (dk DX6_forget_0k 43 rfl) ?_
                refine zz_bipush hC (dk DX6_forget_0k 44 rfl) (by decide) ?_
                refine zz_iald hC 20 1 rfl rfl (by omega) (dk DX6_forget_0k 45 rfl) ?_
                rw [show (N2 20) = ((n - g : Nat) : Int) from ((hn2 20).trans ((if_neg (by omega)).trans (if_pos rfl)))]
                refine zz_imul hC (dk DX6_forget_0k 46 rfl) ?_
                refine zz_icmp_ge hC 110 (dk DX6_forget_0k 47 rfl) (by decide) ⟨⟨by omega, by omega⟩, ⟨by omega, by omega⟩⟩ (fun c8 => ?_) (fun c8 => ?_)
                · refine zz_iload_n hC 1 (dk DX6_forget_1k 6 rfl) rfl rfl ?_
                  exact zz_iret hC hQ hr (N2, u6, (zMs sv), 0, ((g : Nat) : Int)) (Or.inl ⟨(by omega), rfl, ⟨by rw [hgz], by rw [hgz]; exact row_fg hN hw4 hgn (by omega) hn2, hu6, rfl⟩⟩) rfl [0, 1, 2, 3, 4, 5, 6, 7, 8, 9, 10] rfl rfl ⟨Nat.le_refl _, Nat.le_refl _⟩ (dk DX6_forget_1k 7 rfl)
                · refine zz_aload_n hC 0 (dk DX6_forget_0k 48 rfl) rfl rfl ?_
                  refine zz_get hC F_X6_7 0 rfl rfl (dk DX6_forget_0k 49 rfl) ?_
                  refine zz_bipush hC (dk DX6_forget_0k 50 rfl) (by decide) ?_
                  refine zz_iload_n hC 2 (dk DX6_forget_0k 51 rfl) rfl rfl ?_
                  refine zz_iadd hC (dk DX6_forget_0k 52 rfl) ?_
                  refine zz_aload_n hC 0 (dk DX6_forget_0k 53 rfl) rfl rfl ?_
                  refine zz_get hC F_X6_7 0 rfl rfl (dk DX6_forget_0k 54 rfl) ?_
                  refine zz_bipush hC (dk DX6_forget_0k 55 rfl) (by decide) ?_
                  refine zz_iload_n hC 2 (dk DX6_forget_0k 56 rfl) rfl rfl ?_
                  refine zz_iadd hC (dk DX6_forget_0k 57 rfl) ?_
                  refine zz_iconst hC (dk DX6_forget_0k 58 rfl) ?_
                  refine zz_iload_n hC 1 (dk DX6_forget_0k 59 rfl) rfl rfl ?_
                  refine zz_imul hC (dk DX6_forget_1k 0 rfl) ?_
                  refine zz_iadd hC (dk DX6_forget_1k 1 rfl) ?_
                  refine zz_iald hC ((21 + i) + (3 * g)) 1 rfl (by omega) (by omega) (dk DX6_forget_1k 2 rfl) ?_
                  refine zz_iast hC (ws' := [(m0, .inr (6, [.ref m1, .ref m2, .ref m3, .int (zI ((zMs sv : Nat) : Int)), .int (zI 0), .ref m4, .int (zI ((len : Nat) : Int)), .int (zI ((sp : Nat) : Int)), .int (zI nu), .int (zI rk), .int (zI rt), .int (zI ra), .ref m5, .ref m6, .int (zI bm), .ref m7, .ref m8, .ref m9, .ref m10, .long (zL ha)])), (m1, iA D 771 (zU N2 (21 + i) (N2 ((21 + i) + (3 * g))))), (m2, iA D 3084 u6), (m3, iA D 771 AS), (m4, iA D 150 tb), (m5, iA D 250 st), (m6, iA D 250 bo), (m7, iA D 250 sh), (m8, iA D 36 f1), (m9, iA D 36 f2), (m10, iA D 2778 pk)]) (21 + i) 1 rfl (by omega) (by omega) rfl (dk DX6_forget_1k 3 rfl) ?_
                  refine zz_iinc hC ((i + 1 : Nat) : Int) (ls' := [(0, .ref m0), (2, .int (zI ((g : Nat) : Int))), (3, .int (zI ((i + 1 : Nat) : Int)))]) 2 [1, 2, 0] (dk DX6_forget_1k 4 rfl) rfl (by omega) (by decide) rfl ?_
                  refine zz_goto hC 69 (dk DX6_forget_1k 5 rfl) (by decide) ?_
                  refine zz_ls [0, 1, 2] rfl ?_
                  exact ih69 (i + 1) (zU N2 (21 + i) (N2 ((21 + i) + (3 * g)))) (by omega) (fg_s hn2) (by omega)
            refine zz_ls [0, 2, 3] rfl ?_
            exact LP69 _ 0 (zU NW 20 ((n - g : Nat) : Int)) (by omega) (fun j => by rw [if_neg (by omega)]; unfold zU; rfl) (Nat.lt_succ_self _)
          · refine zz_aload_n hC 0 (dk DX6_forget_0k 23 rfl) rfl rfl ?_
            refine zz_iload_n hC 2 (dk DX6_forget_0k 24 rfl) rfl rfl ?_
            refine zz_pureVi hC (c_X6_time l D m0 m1 m2 m3 m4 m5 m6 m7 m8 m9 m10 NW u6 AS tb st bo sh f1 f2 pk (zMs sv) len sp 0 nu rk rt ra bm ha n w K T U S F L g hN hg (by omega)) G_X6_69 H_X6_time ⟨Nat.le_of_ble_eq_true rfl, Nat.le_of_ble_eq_true rfl⟩ rfl [0, 1, 2, 3, 4, 5, 6, 7, 8, 9, 10] rfl rfl 0 6 ⟨rfl, rfl, rfl⟩ (As := [.int (zI ((g : Nat) : Int))]) (rest := []) (Nat.le_of_ble_eq_true rfl) rfl ⟨Nat.le_of_ble_eq_true rfl, Nat.le_of_ble_eq_true rfl⟩ (dk DX6_forget_0k 25 rfl) ⟨rfl, rfl⟩ ?_
            have hf9 := hT g (by omega)
            refine zz_iload_n hC 1 (dk DX6_forget_0k 26 rfl) rfl rfl ?_
            refine zz_icmp_ge hC 56 (dk DX6_forget_0k 27 rfl) (by decide) ⟨⟨by omega, by omega⟩, ⟨by omega, by omega⟩⟩ (fun c10 => ?_) (fun c10 => ?_)
            · have hgz : zGone T t n = g := gone_e hM hgn hgt (by omega)
              refine zz_aload_n hC 0 (dk DX6_forget_0k 30 rfl) rfl rfl ?_
              refine zz_get hC F_X6_7 0 rfl rfl (dk DX6_forget_0k 31 rfl) ?_
              refine zz_bipush hC (dk DX6_forget_0k 32 rfl) (by decide) ?_
              refine zz_dup2 hC (dk DX6_forget_0k 33 rfl) rfl rfl ?_
              refine zz_iald hC 20 1 rfl rfl (by omega) (dk DX6_forget_0k 34 rfl) ?_
              rw [hN.2.2.2.1]
              refine zz_iload_n hC 2 (dk DX6_forget_0k 35 rfl) rfl rfl ?_
              refine zz_isub hC (dk DX6_forget_0k 36 rfl) ?_
              rw [show ((n : Nat) : Int) - ((g : Nat) : Int) = ((n - g : Nat) : Int) by omega]
              refine zz_iast hC (ws' := [(m0, .inr (6, [.ref m1, .ref m2, .ref m3, .int (zI ((zMs sv : Nat) : Int)), .int (zI 0), .ref m4, .int (zI ((len : Nat) : Int)), .int (zI ((sp : Nat) : Int)), .int (zI nu), .int (zI rk), .int (zI rt), .int (zI ra), .ref m5, .ref m6, .int (zI bm), .ref m7, .ref m8, .ref m9, .ref m10, .long (zL ha)])), (m1, iA D 771 (zU NW 20 ((n - g : Nat) : Int))), (m2, iA D 3084 u6), (m3, iA D 771 AS), (m4, iA D 150 tb), (m5, iA D 250 st), (m6, iA D 250 bo), (m7, iA D 250 sh), (m8, iA D 36 f1), (m9, iA D 36 f2), (m10, iA D 2778 pk)]) 20 1 rfl rfl (by omega) rfl (dk DX6_forget_0k 37 rfl) ?_
              refine zz_iconst hC (dk DX6_forget_0k 38 rfl) ?_
              refine zz_istore_n hC (ls' := [(0, .ref m0), (1, .int (zI t)), (2, .int (zI ((g : Nat) : Int))), (3, .int (zI 0))]) [1, 2, 3, 0] (dk DX6_forget_0k 39 rfl) rfl (by decide) rfl ?_
              have LP69 : ∀ (fuel69 : Nat) (i : Nat) (N2 : Nat → Int), (i ≤ 3 * (n - g)) → (∀ j, N2 j = if 21 ≤ j ∧ j < 21 + i then NW (j + 3 * g) else if j = 20 then ((n - g : Nat) : Int) else NW j) → 3 * (n - g) - i < fuel69 → Z p l e ({ frames := 1, cells := 0, slots := 0, locals := 22 } : Room) s m args below meth cd A D Q 4 0 0 [(m0, .inr (6, [.ref m1, .ref m2, .ref m3, .int (zI ((zMs sv : Nat) : Int)), .int (zI 0), .ref m4, .int (zI ((len : Nat) : Int)), .int (zI ((sp : Nat) : Int)), .int (zI nu), .int (zI rk), .int (zI rt), .int (zI ra), .ref m5, .ref m6, .int (zI bm), .ref m7, .ref m8, .ref m9, .ref m10, .long (zL ha)])), (m1, iA D 771 N2), (m2, iA D 3084 u6), (m3, iA D 771 AS), (m4, iA D 150 tb), (m5, iA D 250 st), (m6, iA D 250 bo), (m7, iA D 250 sh), (m8, iA D 36 f1), (m9, iA D 36 f2), (m10, iA D 2778 pk)] [(0, .ref m0), (2, .int (zI ((g : Nat) : Int))), (3, .int (zI ((i : Nat) : Int)))] [] 69 := by
                intro fuel69
                induction fuel69 with
                | zero => intro i N2 hi hn2 hfu; exact absurd hfu (Nat.not_lt_zero _)
                | succ fuel69 ih69 =>
                  intro i N2 hi hn2 hfu69
                  refine zz_iload_n hC 2 (dk DX6_forget_0k 40 rfl) rfl rfl ?_
                  refine zz_iconst hC (dk DX6_forget_0k 41 rfl) ?_
                  refine zz_aload_n hC 0 (dk DX6_forget_0k 42 rfl) rfl rfl ?_
                  refine zz_get hC F_X6_7 0 rfl rfl (dk DX6_forget_0k 43 rfl) ?_
                  refine zz_bipush hC (dk DX6_forget_0k 44 rfl) (by decide) ?_
                  refine zz_iald hC 20 1 rfl rfl (by omega) (dk DX6_forget_0k 45 rfl) ?_
                  rw [show (N2 20) = ((n - g : Nat) : Int) from ((hn2 20).trans ((if_neg (by omega)).trans (if_pos rfl)))]
                  refine zz_imul hC (dk DX6_forget_0k 46 rfl) ?_
                  refine zz_icmp_ge hC 110 (dk DX6_forget_0k 47 rfl) (by decide) ⟨⟨by omega, by omega⟩, ⟨by omega, by omega⟩⟩ (fun c11 => ?_) (fun c11 => ?_)
                  · refine zz_iload_n hC 1 (dk DX6_forget_1k 6 rfl) rfl rfl ?_
                    exact zz_iret hC hQ hr (N2, u6, (zMs sv), 0, ((g : Nat) : Int)) (Or.inl ⟨(by omega), rfl, ⟨by rw [hgz], by rw [hgz]; exact row_fg hN hw4 hgn (by omega) hn2, hu6, rfl⟩⟩) rfl [0, 1, 2, 3, 4, 5, 6, 7, 8, 9, 10] rfl rfl ⟨Nat.le_refl _, Nat.le_refl _⟩ (dk DX6_forget_1k 7 rfl)
                  · refine zz_aload_n hC 0 (dk DX6_forget_0k 48 rfl) rfl rfl ?_
                    refine zz_get hC F_X6_7 0 rfl rfl (dk DX6_forget_0k 49 rfl) ?_
                    refine zz_bipush hC (dk DX6_forget_0k 50 rfl) (by decide) ?_
                    refine zz_iload_n hC 2 (dk DX6_forget_0k 51 rfl) rfl rfl ?_
                    refine zz_iadd hC (dk DX6_forget_0k 52 rfl) ?_
                    refine zz_aload_n hC 0 (dk DX6_forget_0k 53 rfl) rfl rfl ?_
                    refine zz_get hC F_X6_7 0 rfl rfl (dk DX6_forget_0k 54 rfl) ?_
                    refine zz_bipush hC (dk DX6_forget_0k 55 rfl) (by decide) ?_
                    refine zz_iload_n hC 2 (dk DX6_forget_0k 56 rfl) rfl rfl ?_
                    refine zz_iadd hC (dk DX6_forget_0k 57 rfl) ?_
                    refine zz_iconst hC (dk DX6_forget_0k 58 rfl) ?_
                    refine zz_iload_n hC 1 (dk DX6_forget_0k 59 rfl) rfl rfl ?_
                    refine zz_imul hC (dk DX6_forget_1k 0 rfl) ?_
                    refine zz_iadd hC (dk DX6_forget_1k 1 rfl) ?_
                    refine zz_iald hC ((21 + i) + (3 * g)) 1 rfl (by omega) (by omega) (dk DX6_forget_1k 2 rfl) ?_
                    refine zz_iast hC (ws' := [(m0, .inr (6, [.ref m1, .ref m2, .ref m3, .int (zI ((zMs sv : Nat) : Int)), .int (zI 0), .ref m4, .int (zI ((len : Nat) : Int)), .int (zI ((sp : Nat) : Int)), .int (zI nu), .int (zI rk), .int (zI rt), .int (zI ra), .ref m5, .ref m6, .int (zI bm), .ref m7, .ref m8, .ref m9, .ref m10, .long (zL ha)])), (m1, iA D 771 (zU N2 (21 + i) (N2 ((21 + i) + (3 * g))))), (m2, iA D 3084 u6), (m3, iA D 771 AS), (m4, iA D 150 tb), (m5, iA D 250 st), (m6, iA D 250 bo), (m7, iA D 250 sh), (m8, iA D 36 f1), (m9, iA D 36 f2), (m10, iA D 2778 pk)]) (21 + i) 1 rfl (by omega) (by omega) rfl (dk DX6_forget_1k 3 rfl) ?_
                    refine zz_iinc hC ((i + 1 : Nat) : Int) (ls' := [(0, .ref m0), (2, .int (zI ((g : Nat) : Int))), (3, .int (zI ((i + 1 : Nat) : Int)))]) 2 [1, 2, 0] (dk DX6_forget_1k 4 rfl) rfl (by omega) (by decide) rfl ?_
                    refine zz_goto hC 69 (dk DX6_forget_1k 5 rfl) (by decide) ?_
                    refine zz_ls [0, 1, 2] rfl ?_
                    exact ih69 (i + 1) (zU N2 (21 + i) (N2 ((21 + i) + (3 * g)))) (by omega) (fg_s hn2) (by omega)
              refine zz_ls [0, 2, 3] rfl ?_
              exact LP69 _ 0 (zU NW 20 ((n - g : Nat) : Int)) (by omega) (fun j => by rw [if_neg (by omega)]; unfold zU; rfl) (Nat.lt_succ_self _)
            · refine zz_iinc hC ((g + 1 : Nat) : Int) (ls' := [(0, .ref m0), (1, .int (zI t)), (2, .int (zI ((g + 1 : Nat) : Int)))]) 2 [1, 2, 0] (dk DX6_forget_0k 28 rfl) rfl (by omega) (by decide) rfl ?_
              refine zz_goto hC 30 (dk DX6_forget_0k 29 rfl) (by decide) ?_
              refine zz_ls [0, 1, 2] rfl ?_
              exact ih30 (g + 1) (by omega) (fun j hj => by by_cases e : j = g; (subst e; omega); exact hgt j (by omega)) (by omega)
      refine zz_ls [0, 1, 2] rfl ?_
      exact LP30 _ 0 (by omega) (fun j hj => absurd hj (by omega)) (Nat.lt_succ_self _)
    · exfalso; omega
set_option maxHeartbeats 4000000 in
set_option maxRecDepth 100000 in
theorem c_X6_undo (l : Launch) (D : zG) (m0 : Nat) (m1 : Nat) (m2 : Nat) (m3 : Nat) (m4 : Nat) (m5 : Nat) (m6 : Nat) (m7 : Nat) (m8 : Nat) (m9 : Nat) (m10 : Nat) (NW : Nat → Int) (PA : Nat → Int) (AS : Nat → Int) (tb : Nat → Int) (st : Nat → Int) (bo : Nat → Int) (sh : Nat → Int) (f1 : Nat → Int) (f2 : Nat → Int) (pk : Nat → Int) (sv : Nat) (len : Nat) (sp : Nat) (rf : Int) (nu : Int) (rk : Int) (rt : Int) (ra : Int) (bm : Int) (ha : Int) (n : Nat) (w : Nat) (K : Nat → Int) (T : Nat → Int) (U : Nat → Int) (S : Nat → Int) (F : Nat → Int) (L : Nat → Int) (hsv : sv ≤ 4) : CI (S := (Nat → Int) × (Nat → Int) × Nat × Int × Int) l yX6_undo cX6_undo 2 ((some .int)) ({ frames := 1, cells := 0, slots := 0, locals := 21 } : Room) D [.ref m0] [(m0, .inr (6, [.ref m1, .ref m2, .ref m3, .int (zI ((sv : Nat) : Int)), .int (zI rf), .ref m4, .int (zI ((len : Nat) : Int)), .int (zI ((sp : Nat) : Int)), .int (zI nu), .int (zI rk), .int (zI rt), .int (zI ra), .ref m5, .ref m6, .int (zI bm), .ref m7, .ref m8, .ref m9, .ref m10, .long (zL ha)])), (m1, iA D 771 NW), (m2, iA D 3084 PA), (m3, iA D 771 AS), (m4, iA D 150 tb), (m5, iA D 250 st), (m6, iA D 250 bo), (m7, iA D 250 sh), (m8, iA D 36 f1), (m9, iA D 36 f2), (m10, iA D 2778 pk)] (fun u => zP1 (1 ≤ sv) (u.2.2.2.1) (u.2.2.2.2 = ((sv - 1 : Nat) : Int) ∧ u.2.1 = PA ∧ u.2.2.1 = sv - 1 ∧ ∀ k, k < 771 → u.1 k = PA (771 * (sv - 1) + k)) (u.1 = NW ∧ u.2.1 = PA ∧ u.2.2.1 = sv)) (fun u => u.2.2.2.2) (fun u => [(m0, .inr (6, [.ref m1, .ref m2, .ref m3, .int (zI ((u.2.2.1 : Nat) : Int)), .int (zI u.2.2.2.1), .ref m4, .int (zI ((len : Nat) : Int)), .int (zI ((sp : Nat) : Int)), .int (zI nu), .int (zI rk), .int (zI rt), .int (zI ra), .ref m5, .ref m6, .int (zI bm), .ref m7, .ref m8, .ref m9, .ref m10, .long (zL ha)])), (m1, iA D 771 u.1), (m2, iA D 3084 u.2.1), (m3, iA D 771 AS), (m4, iA D 150 tb), (m5, iA D 250 st), (m6, iA D 250 bo), (m7, iA D 250 sh), (m8, iA D 36 f1), (m9, iA D 36 f2), (m10, iA D 2778 pk)]) := by
  refine CI_of (by decide) (Nat.le_of_ble_eq_true rfl) ?_
  intro p e s m args below meth cd A Q hQ hC hr hnm
  have hC : ZC p s m args meth cd A D 2 cX6_undo RX6 := hC
  show Z p l e ({ frames := 1, cells := 0, slots := 0, locals := 21 } : Room) s m args below meth cd A D Q 2 0 0 [(m0, .inr (6, [.ref m1, .ref m2, .ref m3, .int (zI ((sv : Nat) : Int)), .int (zI rf), .ref m4, .int (zI ((len : Nat) : Int)), .int (zI ((sp : Nat) : Int)), .int (zI nu), .int (zI rk), .int (zI rt), .int (zI ra), .ref m5, .ref m6, .int (zI bm), .ref m7, .ref m8, .ref m9, .ref m10, .long (zL ha)])), (m1, iA D 771 NW), (m2, iA D 3084 PA), (m3, iA D 771 AS), (m4, iA D 150 tb), (m5, iA D 250 st), (m6, iA D 250 bo), (m7, iA D 250 sh), (m8, iA D 36 f1), (m9, iA D 36 f2), (m10, iA D 2778 pk)] [(0, .ref m0)] [] 0
  refine zz_aload_n hC 0 (dk DX6_undo_0k 0 rfl) rfl rfl ?_
  refine zz_aload_n hC 0 (dk DX6_undo_0k 1 rfl) rfl rfl ?_
  refine zz_get hC F_X6_44 0 rfl rfl (dk DX6_undo_0k 2 rfl) ?_
  refine zz_if_ne hC 12 (dk DX6_undo_0k 3 rfl) (by decide) ⟨by omega, by omega⟩ (fun c1 => ?_) (fun c1 => ?_)
  · refine zz_iconst hC (dk DX6_undo_0k 6 rfl) ?_
    refine zz_callVi hC (wr := []) (c_X6_refused l D m0 m1 m2 m3 m4 m5 m6 m7 m8 m9 m10 NW PA AS tb st bo sh f1 f2 pk sv len sp rf nu rk rt ra bm ha n w K T U S F L 0 (by omega)) G_X6_47 H_X6_refused ⟨Nat.le_of_ble_eq_true rfl, Nat.le_of_ble_eq_true rfl⟩ rfl [0, 1, 2, 3, 4, 5, 6, 7, 8, 9, 10] [] rfl rfl ⟨rfl, rfl, by decide⟩ 0 6 ⟨rfl, rfl, rfl⟩ (As := [.int (zI 0)]) (rest := []) (Nat.le_of_ble_eq_true rfl) rfl ⟨Nat.le_of_ble_eq_true rfl, Nat.le_of_ble_eq_true rfl⟩ (dk DX6_undo_0k 7 rfl) ⟨rfl, rfl⟩ (wb := fun u2 => [(m0, .inr (6, [.ref m1, .ref m2, .ref m3, .int (zI ((sv : Nat) : Int)), .int (zI 0), .ref m4, .int (zI ((len : Nat) : Int)), .int (zI ((sp : Nat) : Int)), .int (zI nu), .int (zI rk), .int (zI rt), .int (zI ra), .ref m5, .ref m6, .int (zI bm), .ref m7, .ref m8, .ref m9, .ref m10, .long (zL ha)])), (m1, iA D 771 NW), (m2, iA D 3084 PA), (m3, iA D 771 AS), (m4, iA D 150 tb), (m5, iA D 250 st), (m6, iA D 250 bo), (m7, iA D 250 sh), (m8, iA D 36 f1), (m9, iA D 36 f2), (m10, iA D 2778 pk)]) [0, 1, 2, 3, 4, 5, 6, 7, 8, 9, 10] rfl (fun _ => rfl) (fun u2 hu2 => ?_)
    refine zz_ifb_eq hC 21 (dk DX6_undo_0k 8 rfl) (by decide) (fun c3 => ?_) (fun c3 => ?_)
    · refine zz_aload_n hC 0 (dk DX6_undo_0k 11 rfl) rfl rfl ?_
      refine zz_dup hC (dk DX6_undo_0k 12 rfl) rfl ?_
      refine zz_get hC F_X6_44 0 rfl rfl (dk DX6_undo_0k 13 rfl) ?_
      refine zz_iconst hC (dk DX6_undo_0k 14 rfl) ?_
      refine zz_isub hC (dk DX6_undo_0k 15 rfl) ?_
      refine zz_put hC F_X6_44 fc_X6 rfl (tyX6_ok 3 (by decide)) 0 (ws' := [(m0, .inr (6, [.ref m1, .ref m2, .ref m3, .int (zI (((sv : Nat) : Int) - 1)), .int (zI 0), .ref m4, .int (zI ((len : Nat) : Int)), .int (zI ((sp : Nat) : Int)), .int (zI nu), .int (zI rk), .int (zI rt), .int (zI ra), .ref m5, .ref m6, .int (zI bm), .ref m7, .ref m8, .ref m9, .ref m10, .long (zL ha)])), (m1, iA D 771 NW), (m2, iA D 3084 PA), (m3, iA D 771 AS), (m4, iA D 150 tb), (m5, iA D 250 st), (m6, iA D 250 bo), (m7, iA D 250 sh), (m8, iA D 36 f1), (m9, iA D 36 f2), (m10, iA D 2778 pk)]) rfl rfl rfl (Nat.le_of_ble_eq_true rfl) rfl (dk DX6_undo_0k 16 rfl) ?_
      rw [show ((sv : Nat) : Int) - 1 = ((sv - 1 : Nat) : Int) by omega]
      refine zz_iconst hC (dk DX6_undo_0k 17 rfl) ?_
      refine zz_istore_n hC (ls' := [(0, .ref m0), (1, .int (zI 0))]) [1, 0] (dk DX6_undo_0k 18 rfl) rfl (by decide) rfl ?_
      have LP33 : ∀ (fuel33 : Nat) (i : Nat) (N2 : Nat → Int), (i ≤ 771) → (∀ k, N2 k = if k < i then PA (771 * (sv - 1) + k) else NW k) → 771 - i < fuel33 → Z p l e ({ frames := 1, cells := 0, slots := 0, locals := 21 } : Room) s m args below meth cd A D Q 2 0 0 [(m0, .inr (6, [.ref m1, .ref m2, .ref m3, .int (zI ((sv - 1 : Nat) : Int)), .int (zI 0), .ref m4, .int (zI ((len : Nat) : Int)), .int (zI ((sp : Nat) : Int)), .int (zI nu), .int (zI rk), .int (zI rt), .int (zI ra), .ref m5, .ref m6, .int (zI bm), .ref m7, .ref m8, .ref m9, .ref m10, .long (zL ha)])), (m1, iA D 771 N2), (m2, iA D 3084 PA), (m3, iA D 771 AS), (m4, iA D 150 tb), (m5, iA D 250 st), (m6, iA D 250 bo), (m7, iA D 250 sh), (m8, iA D 36 f1), (m9, iA D 36 f2), (m10, iA D 2778 pk)] [(0, .ref m0), (1, .int (zI ((i : Nat) : Int)))] [] 33 := by
        intro fuel33
        induction fuel33 with
        | zero => intro i N2 hi hn2 hfu; exact absurd hfu (Nat.not_lt_zero _)
        | succ fuel33 ih33 =>
          intro i N2 hi hn2 hfu33
          refine zz_iload_n hC 1 (dk DX6_undo_0k 19 rfl) rfl rfl ?_
          refine zz_sipush hC (dk DX6_undo_0k 20 rfl) (by decide) ?_
          refine zz_icmp_ge hC 67 (dk DX6_undo_0k 21 rfl) (by decide) ⟨⟨by omega, by omega⟩, (by decide)⟩ (fun c4 => ?_) (fun c4 => ?_)
          · refine zz_aload_n hC 0 (dk DX6_undo_0k 37 rfl) rfl rfl ?_
            refine zz_get hC F_X6_44 0 rfl rfl (dk DX6_undo_0k 38 rfl) ?_
            exact zz_iret hC hQ hr (N2, PA, (sv - 1), 0, ((sv - 1 : Nat) : Int)) (Or.inl ⟨(by omega), rfl, ⟨rfl, rfl, rfl, fun k hk => by show N2 k = _; rw [hn2, if_pos (by omega)]⟩⟩) rfl [0, 1, 2, 3, 4, 5, 6, 7, 8, 9, 10] rfl rfl ⟨Nat.le_refl _, Nat.le_refl _⟩ (dk DX6_undo_0k 39 rfl)
          · refine zz_aload_n hC 0 (dk DX6_undo_0k 22 rfl) rfl rfl ?_
            refine zz_get hC F_X6_7 0 rfl rfl (dk DX6_undo_0k 23 rfl) ?_
            refine zz_iload_n hC 1 (dk DX6_undo_0k 24 rfl) rfl rfl ?_
            refine zz_aload_n hC 0 (dk DX6_undo_0k 25 rfl) rfl rfl ?_
            refine zz_get hC F_X6_13 0 rfl rfl (dk DX6_undo_0k 26 rfl) ?_
            refine zz_sipush hC (dk DX6_undo_0k 27 rfl) (by decide) ?_
            refine zz_aload_n hC 0 (dk DX6_undo_0k 28 rfl) rfl rfl ?_
            refine zz_get hC F_X6_44 0 rfl rfl (dk DX6_undo_0k 29 rfl) ?_
            refine zz_imul hC (dk DX6_undo_0k 30 rfl) ?_
            refine zz_iload_n hC 1 (dk DX6_undo_0k 31 rfl) rfl rfl ?_
            refine zz_iadd hC (dk DX6_undo_0k 32 rfl) ?_
            refine zz_iald hC ((771 * (sv - 1)) + i) 2 rfl (by omega) (by omega) (dk DX6_undo_0k 33 rfl) ?_
            refine zz_iast hC (ws' := [(m0, .inr (6, [.ref m1, .ref m2, .ref m3, .int (zI ((sv - 1 : Nat) : Int)), .int (zI 0), .ref m4, .int (zI ((len : Nat) : Int)), .int (zI ((sp : Nat) : Int)), .int (zI nu), .int (zI rk), .int (zI rt), .int (zI ra), .ref m5, .ref m6, .int (zI bm), .ref m7, .ref m8, .ref m9, .ref m10, .long (zL ha)])), (m1, iA D 771 (zU N2 i (PA ((771 * (sv - 1)) + i)))), (m2, iA D 3084 PA), (m3, iA D 771 AS), (m4, iA D 150 tb), (m5, iA D 250 st), (m6, iA D 250 bo), (m7, iA D 250 sh), (m8, iA D 36 f1), (m9, iA D 36 f2), (m10, iA D 2778 pk)]) i 1 rfl rfl (by omega) rfl (dk DX6_undo_0k 34 rfl) ?_
            refine zz_iinc hC ((i + 1 : Nat) : Int) (ls' := [(0, .ref m0), (1, .int (zI ((i + 1 : Nat) : Int)))]) 1 [1, 0] (dk DX6_undo_0k 35 rfl) rfl (by omega) (by decide) rfl ?_
            refine zz_goto hC 33 (dk DX6_undo_0k 36 rfl) (by decide) ?_
            refine zz_ls [0, 1] rfl ?_
            exact ih33 (i + 1) (zU N2 i (PA ((771 * (sv - 1)) + i))) (by omega) (un_s hn2) (by omega)
      refine zz_ls [0, 1] rfl ?_
      exact LP33 _ 0 NW (by omega) (fun k => by rw [if_neg (by omega)]) (Nat.lt_succ_self _)
    · exfalso; omega
  · refine zz_iconst hC (dk DX6_undo_0k 4 rfl) ?_
    refine zz_goto hC 13 (dk DX6_undo_0k 5 rfl) (by decide) ?_
    refine zz_callVi hC (wr := []) (c_X6_refused l D m0 m1 m2 m3 m4 m5 m6 m7 m8 m9 m10 NW PA AS tb st bo sh f1 f2 pk sv len sp rf nu rk rt ra bm ha n w K T U S F L 1 (by omega)) G_X6_47 H_X6_refused ⟨Nat.le_of_ble_eq_true rfl, Nat.le_of_ble_eq_true rfl⟩ rfl [0, 1, 2, 3, 4, 5, 6, 7, 8, 9, 10] [] rfl rfl ⟨rfl, rfl, by decide⟩ 0 6 ⟨rfl, rfl, rfl⟩ (As := [.int (zI 1)]) (rest := []) (Nat.le_of_ble_eq_true rfl) rfl ⟨Nat.le_of_ble_eq_true rfl, Nat.le_of_ble_eq_true rfl⟩ (dk DX6_undo_0k 7 rfl) ⟨rfl, rfl⟩ (wb := fun u5 => [(m0, .inr (6, [.ref m1, .ref m2, .ref m3, .int (zI ((sv : Nat) : Int)), .int (zI 1), .ref m4, .int (zI ((len : Nat) : Int)), .int (zI ((sp : Nat) : Int)), .int (zI nu), .int (zI rk), .int (zI rt), .int (zI ra), .ref m5, .ref m6, .int (zI bm), .ref m7, .ref m8, .ref m9, .ref m10, .long (zL ha)])), (m1, iA D 771 NW), (m2, iA D 3084 PA), (m3, iA D 771 AS), (m4, iA D 150 tb), (m5, iA D 250 st), (m6, iA D 250 bo), (m7, iA D 250 sh), (m8, iA D 36 f1), (m9, iA D 36 f2), (m10, iA D 2778 pk)]) [0, 1, 2, 3, 4, 5, 6, 7, 8, 9, 10] rfl (fun _ => rfl) (fun u5 hu5 => ?_)
    refine zz_ifb_eq hC 21 (dk DX6_undo_0k 8 rfl) (by decide) (fun c6 => ?_) (fun c6 => ?_)
    · exfalso; omega
    · refine zz_iconst hC (dk DX6_undo_0k 9 rfl) ?_
      exact zz_iret hC hQ hr (NW, PA, sv, 1, 0) (Or.inr ⟨(by omega), rfl, rfl, rfl, rfl⟩) rfl [0, 1, 2, 3, 4, 5, 6, 7, 8, 9, 10] rfl rfl ⟨Nat.le_refl _, Nat.le_refl _⟩ (dk DX6_undo_0k 10 rfl)
set_option maxHeartbeats 4000000 in
set_option maxRecDepth 100000 in
theorem c_X6_append (l : Launch) (D : zG) (m0 : Nat) (m1 : Nat) (m2 : Nat) (m3 : Nat) (m4 : Nat) (m5 : Nat) (m6 : Nat) (m7 : Nat) (m8 : Nat) (m9 : Nat) (m10 : Nat) (NW : Nat → Int) (PA : Nat → Int) (AS : Nat → Int) (tb : Nat → Int) (st : Nat → Int) (bo : Nat → Int) (sh : Nat → Int) (f1 : Nat → Int) (f2 : Nat → Int) (pk : Nat → Int) (sv : Nat) (len : Nat) (sp : Nat) (rf : Int) (nu : Int) (rk : Int) (rt : Int) (ra : Int) (bm : Int) (ha : Int) (n : Nat) (w : Nat) (K : Nat → Int) (T : Nat → Int) (U : Nat → Int) (S : Nat → Int) (F : Nat → Int) (L : Nat → Int) (v : Int) (hlen : len ≤ 150) (hri : (-2147483648 ≤ v ∧ v ≤ 2147483647)) : CI (S := (Nat → Int) × Nat × Int × Int) l yX6_append cX6_append 2 ((some .int)) ({ frames := 1, cells := 0, slots := 0, locals := 22 } : Room) D [.ref m0, .int (zI v)] [(m0, .inr (6, [.ref m1, .ref m2, .ref m3, .int (zI ((sv : Nat) : Int)), .int (zI rf), .ref m4, .int (zI ((len : Nat) : Int)), .int (zI ((sp : Nat) : Int)), .int (zI nu), .int (zI rk), .int (zI rt), .int (zI ra), .ref m5, .ref m6, .int (zI bm), .ref m7, .ref m8, .ref m9, .ref m10, .long (zL ha)])), (m1, iA D 771 NW), (m2, iA D 3084 PA), (m3, iA D 771 AS), (m4, iA D 150 tb), (m5, iA D 250 st), (m6, iA D 250 bo), (m7, iA D 250 sh), (m8, iA D 36 f1), (m9, iA D 36 f2), (m10, iA D 2778 pk)] (fun u => zP2 (0 ≤ v ∧ v ≤ 127) (len < 150) u.2.2.1 (u.2.2.2 = len + 1 ∧ u.1 = zU tb len v ∧ u.2.1 = len + 1) (u.1 = tb ∧ u.2.1 = len)) (fun u => u.2.2.2) (fun u => [(m0, .inr (6, [.ref m1, .ref m2, .ref m3, .int (zI ((sv : Nat) : Int)), .int (zI u.2.2.1), .ref m4, .int (zI ((u.2.1 : Nat) : Int)), .int (zI ((sp : Nat) : Int)), .int (zI nu), .int (zI rk), .int (zI rt), .int (zI ra), .ref m5, .ref m6, .int (zI bm), .ref m7, .ref m8, .ref m9, .ref m10, .long (zL ha)])), (m1, iA D 771 NW), (m2, iA D 3084 PA), (m3, iA D 771 AS), (m4, iA D 150 u.1), (m5, iA D 250 st), (m6, iA D 250 bo), (m7, iA D 250 sh), (m8, iA D 36 f1), (m9, iA D 36 f2), (m10, iA D 2778 pk)]) := by
  refine CI_of (by decide) (Nat.le_of_ble_eq_true rfl) ?_
  intro p e s m args below meth cd A Q hQ hC hr hnm
  have hC : ZC p s m args meth cd A D 2 cX6_append RX6 := hC
  show Z p l e ({ frames := 1, cells := 0, slots := 0, locals := 22 } : Room) s m args below meth cd A D Q 2 0 0 [(m0, .inr (6, [.ref m1, .ref m2, .ref m3, .int (zI ((sv : Nat) : Int)), .int (zI rf), .ref m4, .int (zI ((len : Nat) : Int)), .int (zI ((sp : Nat) : Int)), .int (zI nu), .int (zI rk), .int (zI rt), .int (zI ra), .ref m5, .ref m6, .int (zI bm), .ref m7, .ref m8, .ref m9, .ref m10, .long (zL ha)])), (m1, iA D 771 NW), (m2, iA D 3084 PA), (m3, iA D 771 AS), (m4, iA D 150 tb), (m5, iA D 250 st), (m6, iA D 250 bo), (m7, iA D 250 sh), (m8, iA D 36 f1), (m9, iA D 36 f2), (m10, iA D 2778 pk)] [(0, .ref m0), (1, .int (zI v))] [] 0
  refine zz_aload_n hC 0 (dk DX6_append_0k 0 rfl) rfl rfl ?_
  refine zz_iload_n hC 1 (dk DX6_append_0k 1 rfl) rfl rfl ?_
  refine zz_iconst hC (dk DX6_append_0k 2 rfl) ?_
  refine zz_bipush hC (dk DX6_append_0k 3 rfl) (by decide) ?_
  refine zz_pureSi hC (c_X6_within l D v 0 127 (by omega)) G_X6_52 H_X6_within.2 ⟨Nat.le_of_ble_eq_true rfl, Nat.le_of_ble_eq_true rfl⟩ rfl [] rfl rfl (As := [.int (zI v), .int (zI 0), .int (zI 127)]) (rest := [.ref m0]) (Nat.le_of_ble_eq_true rfl) rfl ⟨Nat.le_of_ble_eq_true rfl, Nat.le_of_ble_eq_true rfl⟩ (dk DX6_append_0k 4 rfl) ⟨rfl, rfl⟩ ?_
  refine zz_ifb_ne hC 15 (dk DX6_append_0k 5 rfl) (by decide) (fun c1 => ?_) (fun c1 => ?_)
  · refine zz_aload_n hC 0 (dk DX6_append_0k 8 rfl) rfl rfl ?_
    refine zz_get hC F_X6_81 0 rfl rfl (dk DX6_append_0k 9 rfl) ?_
    refine zz_sipush hC (dk DX6_append_0k 10 rfl) (by decide) ?_
    refine zz_icmp_ne hC 29 (dk DX6_append_0k 11 rfl) (by decide) ⟨⟨by omega, by omega⟩, (by decide)⟩ (fun c2 => ?_) (fun c2 => ?_)
    · refine zz_iconst hC (dk DX6_append_0k 14 rfl) ?_
      refine zz_callVi hC (wr := []) (c_X6_refused l D m0 m1 m2 m3 m4 m5 m6 m7 m8 m9 m10 NW PA AS tb st bo sh f1 f2 pk sv len sp rf nu rk rt ra bm ha n w K T U S F L 0 (by omega)) G_X6_47 H_X6_refused ⟨Nat.le_of_ble_eq_true rfl, Nat.le_of_ble_eq_true rfl⟩ rfl [0, 1, 2, 3, 4, 5, 6, 7, 8, 9, 10] [] rfl rfl ⟨rfl, rfl, by decide⟩ 0 6 ⟨rfl, rfl, rfl⟩ (As := [.int (zI 0)]) (rest := []) (Nat.le_of_ble_eq_true rfl) rfl ⟨Nat.le_of_ble_eq_true rfl, Nat.le_of_ble_eq_true rfl⟩ (dk DX6_append_0k 15 rfl) ⟨rfl, rfl⟩ (wb := fun u3 => [(m0, .inr (6, [.ref m1, .ref m2, .ref m3, .int (zI ((sv : Nat) : Int)), .int (zI 0), .ref m4, .int (zI ((len : Nat) : Int)), .int (zI ((sp : Nat) : Int)), .int (zI nu), .int (zI rk), .int (zI rt), .int (zI ra), .ref m5, .ref m6, .int (zI bm), .ref m7, .ref m8, .ref m9, .ref m10, .long (zL ha)])), (m1, iA D 771 NW), (m2, iA D 3084 PA), (m3, iA D 771 AS), (m4, iA D 150 tb), (m5, iA D 250 st), (m6, iA D 250 bo), (m7, iA D 250 sh), (m8, iA D 36 f1), (m9, iA D 36 f2), (m10, iA D 2778 pk)]) [0, 1, 2, 3, 4, 5, 6, 7, 8, 9, 10] rfl (fun _ => rfl) (fun u3 hu3 => ?_)
      refine zz_ifb_eq hC 38 (dk DX6_append_0k 16 rfl) (by decide) (fun c4 => ?_) (fun c4 => ?_)
      · refine zz_aload_n hC 0 (dk DX6_append_0k 19 rfl) rfl rfl ?_
        refine zz_get hC F_X6_19 0 rfl rfl (dk DX6_append_0k 20 rfl) ?_
        refine zz_aload_n hC 0 (dk DX6_append_0k 21 rfl) rfl rfl ?_
        refine zz_get hC F_X6_81 0 rfl rfl (dk DX6_append_0k 22 rfl) ?_
        refine zz_iload_n hC 1 (dk DX6_append_0k 23 rfl) rfl rfl ?_
        refine zz_iast hC (ws' := [(m0, .inr (6, [.ref m1, .ref m2, .ref m3, .int (zI ((sv : Nat) : Int)), .int (zI 0), .ref m4, .int (zI ((len : Nat) : Int)), .int (zI ((sp : Nat) : Int)), .int (zI nu), .int (zI rk), .int (zI rt), .int (zI ra), .ref m5, .ref m6, .int (zI bm), .ref m7, .ref m8, .ref m9, .ref m10, .long (zL ha)])), (m1, iA D 771 NW), (m2, iA D 3084 PA), (m3, iA D 771 AS), (m4, iA D 150 (zU tb len v)), (m5, iA D 250 st), (m6, iA D 250 bo), (m7, iA D 250 sh), (m8, iA D 36 f1), (m9, iA D 36 f2), (m10, iA D 2778 pk)]) len 4 rfl rfl (by omega) rfl (dk DX6_append_0k 24 rfl) ?_
        refine zz_aload_n hC 0 (dk DX6_append_0k 25 rfl) rfl rfl ?_
        refine zz_dup hC (dk DX6_append_0k 26 rfl) rfl ?_
        refine zz_get hC F_X6_81 0 rfl rfl (dk DX6_append_0k 27 rfl) ?_
        refine zz_iconst hC (dk DX6_append_0k 28 rfl) ?_
        refine zz_iadd hC (dk DX6_append_0k 29 rfl) ?_
        refine zz_put hC F_X6_81 fc_X6 rfl (tyX6_ok 6 (by decide)) 0 (ws' := [(m0, .inr (6, [.ref m1, .ref m2, .ref m3, .int (zI ((sv : Nat) : Int)), .int (zI 0), .ref m4, .int (zI ((len + 1 : Nat) : Int)), .int (zI ((sp : Nat) : Int)), .int (zI nu), .int (zI rk), .int (zI rt), .int (zI ra), .ref m5, .ref m6, .int (zI bm), .ref m7, .ref m8, .ref m9, .ref m10, .long (zL ha)])), (m1, iA D 771 NW), (m2, iA D 3084 PA), (m3, iA D 771 AS), (m4, iA D 150 (zU tb len v)), (m5, iA D 250 st), (m6, iA D 250 bo), (m7, iA D 250 sh), (m8, iA D 36 f1), (m9, iA D 36 f2), (m10, iA D 2778 pk)]) rfl rfl rfl (Nat.le_of_ble_eq_true rfl) rfl (dk DX6_append_0k 30 rfl) ?_
        refine zz_aload_n hC 0 (dk DX6_append_0k 31 rfl) rfl rfl ?_
        refine zz_get hC F_X6_81 0 rfl rfl (dk DX6_append_0k 32 rfl) ?_
        exact zz_iret hC hQ hr ((zU tb len v), (len + 1), 0, ((len + 1 : Nat) : Int)) (Or.inl ⟨(by omega), (by omega), rfl, rfl, rfl, rfl⟩) rfl [0, 1, 2, 3, 4, 5, 6, 7, 8, 9, 10] rfl rfl ⟨Nat.le_refl _, Nat.le_refl _⟩ (dk DX6_append_0k 33 rfl)
      · exfalso; omega
    · refine zz_iconst hC (dk DX6_append_0k 12 rfl) ?_
      refine zz_goto hC 30 (dk DX6_append_0k 13 rfl) (by decide) ?_
      refine zz_callVi hC (wr := []) (c_X6_refused l D m0 m1 m2 m3 m4 m5 m6 m7 m8 m9 m10 NW PA AS tb st bo sh f1 f2 pk sv len sp rf nu rk rt ra bm ha n w K T U S F L 2 (by omega)) G_X6_47 H_X6_refused ⟨Nat.le_of_ble_eq_true rfl, Nat.le_of_ble_eq_true rfl⟩ rfl [0, 1, 2, 3, 4, 5, 6, 7, 8, 9, 10] [] rfl rfl ⟨rfl, rfl, by decide⟩ 0 6 ⟨rfl, rfl, rfl⟩ (As := [.int (zI 2)]) (rest := []) (Nat.le_of_ble_eq_true rfl) rfl ⟨Nat.le_of_ble_eq_true rfl, Nat.le_of_ble_eq_true rfl⟩ (dk DX6_append_0k 15 rfl) ⟨rfl, rfl⟩ (wb := fun u5 => [(m0, .inr (6, [.ref m1, .ref m2, .ref m3, .int (zI ((sv : Nat) : Int)), .int (zI 2), .ref m4, .int (zI ((len : Nat) : Int)), .int (zI ((sp : Nat) : Int)), .int (zI nu), .int (zI rk), .int (zI rt), .int (zI ra), .ref m5, .ref m6, .int (zI bm), .ref m7, .ref m8, .ref m9, .ref m10, .long (zL ha)])), (m1, iA D 771 NW), (m2, iA D 3084 PA), (m3, iA D 771 AS), (m4, iA D 150 tb), (m5, iA D 250 st), (m6, iA D 250 bo), (m7, iA D 250 sh), (m8, iA D 36 f1), (m9, iA D 36 f2), (m10, iA D 2778 pk)]) [0, 1, 2, 3, 4, 5, 6, 7, 8, 9, 10] rfl (fun _ => rfl) (fun u5 hu5 => ?_)
      refine zz_ifb_eq hC 38 (dk DX6_append_0k 16 rfl) (by decide) (fun c6 => ?_) (fun c6 => ?_)
      · exfalso; omega
      · refine zz_iconst hC (dk DX6_append_0k 17 rfl) ?_
        exact zz_iret hC hQ hr (tb, len, 2, 0) (Or.inr (Or.inr ⟨(by omega), (by omega), rfl, rfl, rfl⟩)) rfl [0, 1, 2, 3, 4, 5, 6, 7, 8, 9, 10] rfl rfl ⟨Nat.le_refl _, Nat.le_refl _⟩ (dk DX6_append_0k 18 rfl)
  · refine zz_iconst hC (dk DX6_append_0k 6 rfl) ?_
    refine zz_goto hC 30 (dk DX6_append_0k 7 rfl) (by decide) ?_
    refine zz_callVi hC (wr := []) (c_X6_refused l D m0 m1 m2 m3 m4 m5 m6 m7 m8 m9 m10 NW PA AS tb st bo sh f1 f2 pk sv len sp rf nu rk rt ra bm ha n w K T U S F L 1 (by omega)) G_X6_47 H_X6_refused ⟨Nat.le_of_ble_eq_true rfl, Nat.le_of_ble_eq_true rfl⟩ rfl [0, 1, 2, 3, 4, 5, 6, 7, 8, 9, 10] [] rfl rfl ⟨rfl, rfl, by decide⟩ 0 6 ⟨rfl, rfl, rfl⟩ (As := [.int (zI 1)]) (rest := []) (Nat.le_of_ble_eq_true rfl) rfl ⟨Nat.le_of_ble_eq_true rfl, Nat.le_of_ble_eq_true rfl⟩ (dk DX6_append_0k 15 rfl) ⟨rfl, rfl⟩ (wb := fun u7 => [(m0, .inr (6, [.ref m1, .ref m2, .ref m3, .int (zI ((sv : Nat) : Int)), .int (zI 1), .ref m4, .int (zI ((len : Nat) : Int)), .int (zI ((sp : Nat) : Int)), .int (zI nu), .int (zI rk), .int (zI rt), .int (zI ra), .ref m5, .ref m6, .int (zI bm), .ref m7, .ref m8, .ref m9, .ref m10, .long (zL ha)])), (m1, iA D 771 NW), (m2, iA D 3084 PA), (m3, iA D 771 AS), (m4, iA D 150 tb), (m5, iA D 250 st), (m6, iA D 250 bo), (m7, iA D 250 sh), (m8, iA D 36 f1), (m9, iA D 36 f2), (m10, iA D 2778 pk)]) [0, 1, 2, 3, 4, 5, 6, 7, 8, 9, 10] rfl (fun _ => rfl) (fun u7 hu7 => ?_)
    refine zz_ifb_eq hC 38 (dk DX6_append_0k 16 rfl) (by decide) (fun c8 => ?_) (fun c8 => ?_)
    · exfalso; omega
    · refine zz_iconst hC (dk DX6_append_0k 17 rfl) ?_
      exact zz_iret hC hQ hr (tb, len, 1, 0) (Or.inr (Or.inl ⟨(by omega), rfl, rfl, rfl⟩)) rfl [0, 1, 2, 3, 4, 5, 6, 7, 8, 9, 10] rfl rfl ⟨Nat.le_refl _, Nat.le_refl _⟩ (dk DX6_append_0k 18 rfl)
set_option maxHeartbeats 4000000 in
set_option maxRecDepth 100000 in
theorem c_X6_clearText (l : Launch) (D : zG) (m0 : Nat) (m1 : Nat) (m2 : Nat) (m3 : Nat) (m4 : Nat) (m5 : Nat) (m6 : Nat) (m7 : Nat) (m8 : Nat) (m9 : Nat) (m10 : Nat) (NW : Nat → Int) (PA : Nat → Int) (AS : Nat → Int) (tb : Nat → Int) (st : Nat → Int) (bo : Nat → Int) (sh : Nat → Int) (f1 : Nat → Int) (f2 : Nat → Int) (pk : Nat → Int) (sv : Nat) (len : Nat) (sp : Nat) (rf : Int) (nu : Int) (rk : Int) (rt : Int) (ra : Int) (bm : Int) (ha : Int) (n : Nat) (w : Nat) (K : Nat → Int) (T : Nat → Int) (U : Nat → Int) (S : Nat → Int) (F : Nat → Int) (L : Nat → Int) (hlen : len ≤ 150) : CI (S := (Nat → Int) × Nat × Int × Int) l yX6_clearText cX6_clearText 2 ((some .int)) ({ frames := 0, cells := 0, slots := 0, locals := 0 } : Room) D [.ref m0] [(m0, .inr (6, [.ref m1, .ref m2, .ref m3, .int (zI ((sv : Nat) : Int)), .int (zI rf), .ref m4, .int (zI ((len : Nat) : Int)), .int (zI ((sp : Nat) : Int)), .int (zI nu), .int (zI rk), .int (zI rt), .int (zI ra), .ref m5, .ref m6, .int (zI bm), .ref m7, .ref m8, .ref m9, .ref m10, .long (zL ha)])), (m1, iA D 771 NW), (m2, iA D 3084 PA), (m3, iA D 771 AS), (m4, iA D 150 tb), (m5, iA D 250 st), (m6, iA D 250 bo), (m7, iA D 250 sh), (m8, iA D 36 f1), (m9, iA D 36 f2), (m10, iA D 2778 pk)] (fun u => u.2.2.1 = 0 ∧ u.2.2.2 = len ∧ u.1 = tb ∧ u.2.1 = 0) (fun u => u.2.2.2) (fun u => [(m0, .inr (6, [.ref m1, .ref m2, .ref m3, .int (zI ((sv : Nat) : Int)), .int (zI u.2.2.1), .ref m4, .int (zI ((u.2.1 : Nat) : Int)), .int (zI ((sp : Nat) : Int)), .int (zI nu), .int (zI rk), .int (zI rt), .int (zI ra), .ref m5, .ref m6, .int (zI bm), .ref m7, .ref m8, .ref m9, .ref m10, .long (zL ha)])), (m1, iA D 771 NW), (m2, iA D 3084 PA), (m3, iA D 771 AS), (m4, iA D 150 u.1), (m5, iA D 250 st), (m6, iA D 250 bo), (m7, iA D 250 sh), (m8, iA D 36 f1), (m9, iA D 36 f2), (m10, iA D 2778 pk)]) := by
  refine CI_of (by decide) (Nat.le_of_ble_eq_true rfl) ?_
  intro p e s m args below meth cd A Q hQ hC hr hnm
  have hC : ZC p s m args meth cd A D 2 cX6_clearText RX6 := hC
  show Z p l e ({ frames := 0, cells := 0, slots := 0, locals := 0 } : Room) s m args below meth cd A D Q 2 0 0 [(m0, .inr (6, [.ref m1, .ref m2, .ref m3, .int (zI ((sv : Nat) : Int)), .int (zI rf), .ref m4, .int (zI ((len : Nat) : Int)), .int (zI ((sp : Nat) : Int)), .int (zI nu), .int (zI rk), .int (zI rt), .int (zI ra), .ref m5, .ref m6, .int (zI bm), .ref m7, .ref m8, .ref m9, .ref m10, .long (zL ha)])), (m1, iA D 771 NW), (m2, iA D 3084 PA), (m3, iA D 771 AS), (m4, iA D 150 tb), (m5, iA D 250 st), (m6, iA D 250 bo), (m7, iA D 250 sh), (m8, iA D 36 f1), (m9, iA D 36 f2), (m10, iA D 2778 pk)] [(0, .ref m0)] [] 0
  refine zz_aload_n hC 0 (dk DX6_clearText_0k 0 rfl) rfl rfl ?_
  refine zz_iconst hC (dk DX6_clearText_0k 1 rfl) ?_
  refine zz_put hC F_X6_40 fc_X6 rfl (tyX6_ok 4 (by decide)) 0 (ws' := [(m0, .inr (6, [.ref m1, .ref m2, .ref m3, .int (zI ((sv : Nat) : Int)), .int (zI 0), .ref m4, .int (zI ((len : Nat) : Int)), .int (zI ((sp : Nat) : Int)), .int (zI nu), .int (zI rk), .int (zI rt), .int (zI ra), .ref m5, .ref m6, .int (zI bm), .ref m7, .ref m8, .ref m9, .ref m10, .long (zL ha)])), (m1, iA D 771 NW), (m2, iA D 3084 PA), (m3, iA D 771 AS), (m4, iA D 150 tb), (m5, iA D 250 st), (m6, iA D 250 bo), (m7, iA D 250 sh), (m8, iA D 36 f1), (m9, iA D 36 f2), (m10, iA D 2778 pk)]) rfl rfl rfl (Nat.le_of_ble_eq_true rfl) rfl (dk DX6_clearText_0k 2 rfl) ?_
  refine zz_aload_n hC 0 (dk DX6_clearText_0k 3 rfl) rfl rfl ?_
  refine zz_get hC F_X6_81 0 rfl rfl (dk DX6_clearText_0k 4 rfl) ?_
  refine zz_istore_n hC (ls' := [(0, .ref m0), (1, .int (zI ((len : Nat) : Int)))]) [1, 0] (dk DX6_clearText_0k 5 rfl) rfl (by decide) rfl ?_
  refine zz_aload_n hC 0 (dk DX6_clearText_0k 6 rfl) rfl rfl ?_
  refine zz_iconst hC (dk DX6_clearText_0k 7 rfl) ?_
  refine zz_put hC F_X6_81 fc_X6 rfl (tyX6_ok 6 (by decide)) 0 (ws' := [(m0, .inr (6, [.ref m1, .ref m2, .ref m3, .int (zI ((sv : Nat) : Int)), .int (zI 0), .ref m4, .int (zI 0), .int (zI ((sp : Nat) : Int)), .int (zI nu), .int (zI rk), .int (zI rt), .int (zI ra), .ref m5, .ref m6, .int (zI bm), .ref m7, .ref m8, .ref m9, .ref m10, .long (zL ha)])), (m1, iA D 771 NW), (m2, iA D 3084 PA), (m3, iA D 771 AS), (m4, iA D 150 tb), (m5, iA D 250 st), (m6, iA D 250 bo), (m7, iA D 250 sh), (m8, iA D 36 f1), (m9, iA D 36 f2), (m10, iA D 2778 pk)]) rfl rfl rfl (Nat.le_of_ble_eq_true rfl) rfl (dk DX6_clearText_0k 8 rfl) ?_
  refine zz_iload_n hC 1 (dk DX6_clearText_0k 9 rfl) rfl rfl ?_
  exact zz_iret hC hQ hr (tb, 0, 0, ((len : Nat) : Int)) ⟨rfl, rfl, rfl, rfl⟩ rfl [0, 1, 2, 3, 4, 5, 6, 7, 8, 9, 10] rfl rfl ⟨Nat.le_refl _, Nat.le_refl _⟩ (dk DX6_clearText_0k 10 rfl)
