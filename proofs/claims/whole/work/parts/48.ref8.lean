set_option maxHeartbeats 4000000 in
set_option maxRecDepth 100000 in
theorem c_X6_parse (l : Launch) (D : zG) (m0 : Nat) (m1 : Nat) (m2 : Nat) (m3 : Nat) (m4 : Nat) (m5 : Nat) (m6 : Nat) (m7 : Nat) (m8 : Nat) (m9 : Nat) (m10 : Nat) (NW : Nat → Int) (PA : Nat → Int) (AS : Nat → Int) (tb : Nat → Int) (st : Nat → Int) (bo : Nat → Int) (sh : Nat → Int) (f1 : Nat → Int) (f2 : Nat → Int) (pk : Nat → Int) (sv : Nat) (len : Nat) (sp : Nat) (rf : Int) (nu : Int) (rk : Int) (rt : Int) (ra : Int) (bm : Int) (ha : Int) (n : Nat) (w : Nat) (K : Nat → Int) (T : Nat → Int) (U : Nat → Int) (S : Nat → Int) (F : Nat → Int) (L : Nat → Int) (hN : zRow NW n K T U S F L w) (hg : zLog n K T U) (hw : zWin w F L) (hsv : sv ≤ 4) (hlen : len ≤ 150) (hbt : ∀ j, j < len → 0 ≤ tb j ∧ tb j ≤ 127) : CI (S := zPT) l yX6_parse cX6_parse 5 ((some .int)) ({ frames := 4, cells := 0, slots := 0, locals := 88 } : Room) D [.ref m0] [(m0, .inr (6, [.ref m1, .ref m2, .ref m3, .int (zI ((sv : Nat) : Int)), .int (zI rf), .ref m4, .int (zI ((len : Nat) : Int)), .int (zI ((sp : Nat) : Int)), .int (zI nu), .int (zI rk), .int (zI rt), .int (zI ra), .ref m5, .ref m6, .int (zI bm), .ref m7, .ref m8, .ref m9, .ref m10, .long (zL ha)])), (m1, iA D 771 NW), (m2, iA D 3084 PA), (m3, iA D 771 AS), (m4, iA D 150 tb), (m5, iA D 250 st), (m6, iA D 250 bo), (m7, iA D 250 sh), (m8, iA D 36 f1), (m9, iA D 36 f2), (m10, iA D 2778 pk)] (fun u => zParM tb len n K T U S F L w NW PA sv u.2.2.2.2.2.2.2.2.2 u.1 u.2.1 u.2.2.2.1) (fun u => u.2.2.2.2.2.2.2.2.2) (fun u => [(m0, .inr (6, [.ref m1, .ref m2, .ref m3, .int (zI ((u.2.2.2.1 : Nat) : Int)), .int (zI 0), .ref m4, .int (zI ((len : Nat) : Int)), .int (zI ((u.2.2.2.2.1 : Nat) : Int)), .int (zI u.2.2.2.2.2.1), .int (zI u.2.2.2.2.2.2.1), .int (zI u.2.2.2.2.2.2.2.1), .int (zI u.2.2.2.2.2.2.2.2.1), .ref m5, .ref m6, .int (zI bm), .ref m7, .ref m8, .ref m9, .ref m10, .long (zL ha)])), (m1, iA D 771 u.1), (m2, iA D 3084 u.2.1), (m3, iA D 771 u.2.2.1), (m4, iA D 150 tb), (m5, iA D 250 st), (m6, iA D 250 bo), (m7, iA D 250 sh), (m8, iA D 36 f1), (m9, iA D 36 f2), (m10, iA D 2778 pk)]) := by
  refine CI_of (by decide) (Nat.le_of_ble_eq_true rfl) ?_
  intro p e s m args below meth cd A Q hQ hC hr hnm
  have hC : ZC p s m args meth cd A D 5 cX6_parse RX6 := hC
  have hn := hg.1
  have hw4 := hw.1
  have hla := zLast_in hg
  show Z p l e ({ frames := 4, cells := 0, slots := 0, locals := 88 } : Room) s m args below meth cd A D Q 5 0 0 [(m0, .inr (6, [.ref m1, .ref m2, .ref m3, .int (zI ((sv : Nat) : Int)), .int (zI rf), .ref m4, .int (zI ((len : Nat) : Int)), .int (zI ((sp : Nat) : Int)), .int (zI nu), .int (zI rk), .int (zI rt), .int (zI ra), .ref m5, .ref m6, .int (zI bm), .ref m7, .ref m8, .ref m9, .ref m10, .long (zL ha)])), (m1, iA D 771 NW), (m2, iA D 3084 PA), (m3, iA D 771 AS), (m4, iA D 150 tb), (m5, iA D 250 st), (m6, iA D 250 bo), (m7, iA D 250 sh), (m8, iA D 36 f1), (m9, iA D 36 f2), (m10, iA D 2778 pk)] [(0, .ref m0)] [] 0
  refine zz_aload_n hC 0 (dk DX6_parse_0k 0 rfl) rfl rfl ?_
  refine zz_iconst hC (dk DX6_parse_0k 1 rfl) ?_
  refine zz_put hC F_X6_40 fc_X6 rfl (tyX6_ok 4 (by decide)) 0 (ws' := [(m0, .inr (6, [.ref m1, .ref m2, .ref m3, .int (zI ((sv : Nat) : Int)), .int (zI 0), .ref m4, .int (zI ((len : Nat) : Int)), .int (zI ((sp : Nat) : Int)), .int (zI nu), .int (zI rk), .int (zI rt), .int (zI ra), .ref m5, .ref m6, .int (zI bm), .ref m7, .ref m8, .ref m9, .ref m10, .long (zL ha)])), (m1, iA D 771 NW), (m2, iA D 3084 PA), (m3, iA D 771 AS), (m4, iA D 150 tb), (m5, iA D 250 st), (m6, iA D 250 bo), (m7, iA D 250 sh), (m8, iA D 36 f1), (m9, iA D 36 f2), (m10, iA D 2778 pk)]) rfl rfl rfl (Nat.le_of_ble_eq_true rfl) rfl (dk DX6_parse_0k 2 rfl) ?_
  refine zz_aload_n hC 0 (dk DX6_parse_0k 3 rfl) rfl rfl ?_
  refine zz_iconst hC (dk DX6_parse_0k 4 rfl) ?_
  refine zz_put hC F_X6_84 fc_X6 rfl (tyX6_ok 7 (by decide)) 0 (ws' := [(m0, .inr (6, [.ref m1, .ref m2, .ref m3, .int (zI ((sv : Nat) : Int)), .int (zI 0), .ref m4, .int (zI ((len : Nat) : Int)), .int (zI 0), .int (zI nu), .int (zI rk), .int (zI rt), .int (zI ra), .ref m5, .ref m6, .int (zI bm), .ref m7, .ref m8, .ref m9, .ref m10, .long (zL ha)])), (m1, iA D 771 NW), (m2, iA D 3084 PA), (m3, iA D 771 AS), (m4, iA D 150 tb), (m5, iA D 250 st), (m6, iA D 250 bo), (m7, iA D 250 sh), (m8, iA D 36 f1), (m9, iA D 36 f2), (m10, iA D 2778 pk)]) rfl rfl rfl (Nat.le_of_ble_eq_true rfl) rfl (dk DX6_parse_0k 5 rfl) ?_
  have LP10 : ∀ (fuel10 : Nat) (i : Nat) (v8 : Int) (v9 : Int) (va : Int) (vb : Int), (∀ j, j < i → zPp tb len j < len ∧ zPe tb len (zPp tb len j) = -1) → 31 - i < fuel10 → Z p l e ({ frames := 4, cells := 0, slots := 0, locals := 88 } : Room) s m args below meth cd A D Q 5 0 0 [(m0, .inr (6, [.ref m1, .ref m2, .ref m3, .int (zI ((sv : Nat) : Int)), .int (zI 0), .ref m4, .int (zI ((len : Nat) : Int)), .int (zI (((zPp tb len i) : Nat) : Int)), .int (zI v8), .int (zI v9), .int (zI va), .int (zI vb), .ref m5, .ref m6, .int (zI bm), .ref m7, .ref m8, .ref m9, .ref m10, .long (zL ha)])), (m1, iA D 771 NW), (m2, iA D 3084 PA), (m3, iA D 771 AS), (m4, iA D 150 tb), (m5, iA D 250 st), (m6, iA D 250 bo), (m7, iA D 250 sh), (m8, iA D 36 f1), (m9, iA D 36 f2), (m10, iA D 2778 pk)] [(0, .ref m0)] [] 10 := by
    intro fuel10
    induction fuel10 with
    | zero => intro i v8 v9 va vb hj hfu; exact absurd hfu (Nat.not_lt_zero _)
    | succ fuel10 ih10 =>
      intro i v8 v9 va vb hj hfu10
      have hpg := zPp_ge hj
      refine zz_aload_n hC 0 (dk DX6_parse_0k 6 rfl) rfl rfl ?_
      refine zz_get hC F_X6_84 0 rfl rfl (dk DX6_parse_0k 7 rfl) ?_
      refine zz_aload_n hC 0 (dk DX6_parse_0k 8 rfl) rfl rfl ?_
      refine zz_get hC F_X6_81 0 rfl rfl (dk DX6_parse_0k 9 rfl) ?_
      refine zz_icmp_ge hC 36 (dk DX6_parse_0k 10 rfl) (by decide) ⟨⟨by omega, by omega⟩, ⟨by omega, by omega⟩⟩ (fun c1 => ?_) (fun c1 => ?_)
      · have htx : zTxt tb len i (-1) := ⟨hj, Or.inl ⟨rfl, by omega⟩⟩
        refine zz_iconst hC (dk DX6_parse_0k 19 rfl) ?_
        refine zz_istore_n hC (ls' := [(0, .ref m0), (1, .int (zI 0))]) [1, 0] (dk DX6_parse_0k 20 rfl) rfl (by decide) rfl ?_
        have LP38 : ∀ (fuel38 : Nat) (i1 : Nat) (A2 : Nat → Int), (i1 ≤ 771) → (∀ k, A2 k = if k < i1 then NW k else AS k) → 771 - i1 < fuel38 → Z p l e ({ frames := 4, cells := 0, slots := 0, locals := 88 } : Room) s m args below meth cd A D Q 5 0 0 [(m0, .inr (6, [.ref m1, .ref m2, .ref m3, .int (zI ((sv : Nat) : Int)), .int (zI 0), .ref m4, .int (zI ((len : Nat) : Int)), .int (zI (((zPp tb len i) : Nat) : Int)), .int (zI v8), .int (zI v9), .int (zI va), .int (zI vb), .ref m5, .ref m6, .int (zI bm), .ref m7, .ref m8, .ref m9, .ref m10, .long (zL ha)])), (m1, iA D 771 NW), (m2, iA D 3084 PA), (m3, iA D 771 A2), (m4, iA D 150 tb), (m5, iA D 250 st), (m6, iA D 250 bo), (m7, iA D 250 sh), (m8, iA D 36 f1), (m9, iA D 36 f2), (m10, iA D 2778 pk)] [(0, .ref m0), (1, .int (zI ((i1 : Nat) : Int)))] [] 38 := by
          intro fuel38
          induction fuel38 with
          | zero => intro i1 A2 hi1 ha2 hfu; exact absurd hfu (Nat.not_lt_zero _)
          | succ fuel38 ih38 =>
            intro i1 A2 hi1 ha2 hfu38
            refine zz_iload_n hC 1 (dk DX6_parse_0k 21 rfl) rfl rfl ?_
            refine zz_sipush hC (dk DX6_parse_0k 22 rfl) (by decide) ?_
            refine zz_icmp_ge hC 63 (dk DX6_parse_0k 23 rfl) (by decide) ⟨⟨by omega, by omega⟩, (by decide)⟩ (fun c2 => ?_) (fun c2 => ?_)
            · have ha3 := if_end ha2 (by omega)
              refine zz_iconst hC (dk DX6_parse_0k 34 rfl) ?_
              refine zz_istore_n hC (ls' := [(0, .ref m0), (1, .int (zI 0))]) [1, 0] (dk DX6_parse_0k 35 rfl) rfl (by decide) rfl ?_
              refine zz_aload_n hC 0 (dk DX6_parse_0k 36 rfl) rfl rfl ?_
              refine zz_iconst hC (dk DX6_parse_0k 37 rfl) ?_
              refine zz_put hC F_X6_84 fc_X6 rfl (tyX6_ok 7 (by decide)) 0 (ws' := [(m0, .inr (6, [.ref m1, .ref m2, .ref m3, .int (zI ((sv : Nat) : Int)), .int (zI 0), .ref m4, .int (zI ((len : Nat) : Int)), .int (zI 0), .int (zI v8), .int (zI v9), .int (zI va), .int (zI vb), .ref m5, .ref m6, .int (zI bm), .ref m7, .ref m8, .ref m9, .ref m10, .long (zL ha)])), (m1, iA D 771 NW), (m2, iA D 3084 PA), (m3, iA D 771 A2), (m4, iA D 150 tb), (m5, iA D 250 st), (m6, iA D 250 bo), (m7, iA D 250 sh), (m8, iA D 36 f1), (m9, iA D 36 f2), (m10, iA D 2778 pk)]) rfl rfl rfl (Nat.le_of_ble_eq_true rfl) rfl (dk DX6_parse_0k 38 rfl) ?_
              refine zz_iconst hC (dk DX6_parse_0k 39 rfl) ?_
              refine zz_istore_n hC (ls' := [(0, .ref m0), (1, .int (zI 0)), (2, .int (zI 1))]) [1, 2, 0] (dk DX6_parse_0k 40 rfl) rfl (by decide) rfl ?_
              have LP72 : ∀ (fuel72 : Nat) (i2 : Nat) (b : Int) (NC : Nat → Int) (K9 : Nat → Int) (T9 : Nat → Int) (U9 : Nat → Int) (sq : Nat) (v8 : Int) (v9 : Int) (va : Int) (vb : Int), (i2 ≤ i) → ((b = 1 ∧ sq = zPp tb len i2) ∨ (b = 0 ∧ i2 < i ∧ zRq tb len n (zLast n T) i2 = true)) → (sq ≤ 160) → (∀ j, j < i2 → zRq tb len n (zLast n T) j = false) → (zApp tb len n K T U i2 K9 T9 U9) → (zLog (n + i2) K9 T9 U9) → (zLast (n + i2) T9 = zTm tb len (zLast n T) i2) → (zRow NC (n + i2) K9 T9 U9 S F L w) → (i - i2) + b.toNat < fuel72 → Z p l e ({ frames := 4, cells := 0, slots := 0, locals := 88 } : Room) s m args below meth cd A D Q 5 0 0 [(m0, .inr (6, [.ref m1, .ref m2, .ref m3, .int (zI ((sv : Nat) : Int)), .int (zI 0), .ref m4, .int (zI ((len : Nat) : Int)), .int (zI ((sq : Nat) : Int)), .int (zI v8), .int (zI v9), .int (zI va), .int (zI vb), .ref m5, .ref m6, .int (zI bm), .ref m7, .ref m8, .ref m9, .ref m10, .long (zL ha)])), (m1, iA D 771 NC), (m2, iA D 3084 PA), (m3, iA D 771 A2), (m4, iA D 150 tb), (m5, iA D 250 st), (m6, iA D 250 bo), (m7, iA D 250 sh), (m8, iA D 36 f1), (m9, iA D 36 f2), (m10, iA D 2778 pk)] [(0, .ref m0), (1, .int (zI ((i2 : Nat) : Int))), (2, .int (zI b))] [] 72 := by
                intro fuel72
                induction fuel72 with
                | zero => intro i2 b NC K9 T9 U9 sq v8 v9 va vb hi2 hb2 hsq hno hap hlg hl9 hNc hfu; exact absurd hfu (Nat.not_lt_zero _)
                | succ fuel72 ih72 =>
                  intro i2 b NC K9 T9 U9 sq v8 v9 va vb hi2 hb2 hsq hno hap hlg hl9 hNc hfu72
                  have hbr : b = 0 ∨ b = 1 := by omega
                  refine zz_aload_n hC 0 (dk DX6_parse_0k 41 rfl) rfl rfl ?_
                  refine zz_get hC F_X6_84 0 rfl rfl (dk DX6_parse_0k 42 rfl) ?_
                  refine zz_aload_n hC 0 (dk DX6_parse_0k 43 rfl) rfl rfl ?_
                  refine zz_get hC F_X6_81 0 rfl rfl (dk DX6_parse_0k 44 rfl) ?_
                  refine zz_icmp_ge hC 159 (dk DX6_parse_0k 45 rfl) (by decide) ⟨⟨by omega, by omega⟩, ⟨by omega, by omega⟩⟩ (fun c3 => ?_) (fun c3 => ?_)
                  · refine zz_iconst hC (dk DX6_parse_1k 24 rfl) ?_
                    refine zz_istore_n hC (ls' := [(0, .ref m0), (1, .int (zI ((i2 : Nat) : Int))), (2, .int (zI b)), (3, .int (zI 0))]) [1, 2, 3, 0] (dk DX6_parse_1k 25 rfl) rfl (by decide) rfl ?_
                    have LP161 : ∀ (fuel161 : Nat) (i3 : Nat) (N3 : Nat → Int) (A3 : Nat → Int), (i3 ≤ 771) → (∀ k, N3 k = if k < i3 then A2 k else NC k) → (∀ k, A3 k = if k < i3 then NC k else A2 k) → 771 - i3 < fuel161 → Z p l e ({ frames := 4, cells := 0, slots := 0, locals := 88 } : Room) s m args below meth cd A D Q 5 0 0 [(m0, .inr (6, [.ref m1, .ref m2, .ref m3, .int (zI ((sv : Nat) : Int)), .int (zI 0), .ref m4, .int (zI ((len : Nat) : Int)), .int (zI ((sq : Nat) : Int)), .int (zI v8), .int (zI v9), .int (zI va), .int (zI vb), .ref m5, .ref m6, .int (zI bm), .ref m7, .ref m8, .ref m9, .ref m10, .long (zL ha)])), (m1, iA D 771 N3), (m2, iA D 3084 PA), (m3, iA D 771 A3), (m4, iA D 150 tb), (m5, iA D 250 st), (m6, iA D 250 bo), (m7, iA D 250 sh), (m8, iA D 36 f1), (m9, iA D 36 f2), (m10, iA D 2778 pk)] [(0, .ref m0), (1, .int (zI ((i2 : Nat) : Int))), (2, .int (zI b)), (3, .int (zI ((i3 : Nat) : Int)))] [] 161 := by
                      intro fuel161
                      induction fuel161 with
                      | zero => intro i3 N3 A3 hi3 hn3 ha4 hfu; exact absurd hfu (Nat.not_lt_zero _)
                      | succ fuel161 ih161 =>
                        intro i3 N3 A3 hi3 hn3 ha4 hfu161
                        refine zz_iload_n hC 3 (dk DX6_parse_1k 26 rfl) rfl rfl ?_
                        refine zz_sipush hC (dk DX6_parse_1k 27 rfl) (by decide) ?_
                        refine zz_icmp_ge hC 202 (dk DX6_parse_1k 28 rfl) (by decide) ⟨⟨by omega, by omega⟩, (by decide)⟩ (fun c4 => ?_) (fun c4 => ?_)
                        · have hn4 : ∀ k, k < 771 → N3 k = NW k := fun k hk => (if_end hn3 (by omega) k hk).trans (ha3 k hk)
                          have ha5 := if_end ha4 (by omega)
                          refine zz_iload_n hC 2 (dk DX6_parse_1k 49 rfl) rfl rfl ?_
                          refine zz_if_ne hC 212 (dk DX6_parse_1k 50 rfl) (by decide) ⟨by omega, by omega⟩ (fun c5 => ?_) (fun c5 => ?_)
                          · refine zz_aload_n hC 0 (dk DX6_parse_1k 55 rfl) rfl rfl ?_
                            refine zz_callVv hC (wr := []) (c_X6_saves l D m0 m1 m2 m3 m4 m5 m6 m7 m8 m9 m10 N3 PA A3 tb st bo sh f1 f2 pk sv len sq 0 v8 v9 va vb bm ha n w K T U S F L hsv) G_X6_66 H_X6_saves ⟨Nat.le_of_ble_eq_true rfl, Nat.le_of_ble_eq_true rfl⟩ rfl [0, 1, 2, 3, 4, 5, 6, 7, 8, 9, 10] [] rfl rfl ⟨rfl, rfl, by decide⟩ 0 6 ⟨rfl, rfl, rfl⟩ (As := []) (rest := []) (Nat.le_of_ble_eq_true rfl) rfl ⟨Nat.le_of_ble_eq_true rfl, Nat.le_of_ble_eq_true rfl⟩ (dk DX6_parse_1k 56 rfl) ⟨rfl, rfl⟩ (wb := fun u6 => [(m0, .inr (6, [.ref m1, .ref m2, .ref m3, .int (zI ((zMs sv : Nat) : Int)), .int (zI 0), .ref m4, .int (zI ((len : Nat) : Int)), .int (zI ((sq : Nat) : Int)), .int (zI v8), .int (zI v9), .int (zI va), .int (zI vb), .ref m5, .ref m6, .int (zI bm), .ref m7, .ref m8, .ref m9, .ref m10, .long (zL ha)])), (m1, iA D 771 N3), (m2, iA D 3084 u6), (m3, iA D 771 A3), (m4, iA D 150 tb), (m5, iA D 250 st), (m6, iA D 250 bo), (m7, iA D 250 sh), (m8, iA D 36 f1), (m9, iA D 36 f2), (m10, iA D 2778 pk)]) [0, 1, 2, 3, 4, 5, 6, 7, 8, 9, 10] rfl (fun _ => rfl) (fun u6 hu6 => ?_)
                            refine zz_iconst hC (dk DX6_parse_1k 57 rfl) ?_
                            refine zz_istore_n hC (ls' := [(0, .ref m0), (1, .int (zI ((i2 : Nat) : Int))), (2, .int (zI b)), (3, .int (zI 0))]) [1, 2, 3, 0] (dk DX6_parse_1k 58 rfl) rfl (by decide) rfl ?_
                            have LP218 : ∀ (fuel218 : Nat) (i4 : Nat) (N4 : Nat → Int), (i4 ≤ 771) → (∀ k, N4 k = if k < i4 then A3 k else N3 k) → 771 - i4 < fuel218 → Z p l e ({ frames := 4, cells := 0, slots := 0, locals := 88 } : Room) s m args below meth cd A D Q 5 0 0 [(m0, .inr (6, [.ref m1, .ref m2, .ref m3, .int (zI (((zMs sv) : Nat) : Int)), .int (zI 0), .ref m4, .int (zI ((len : Nat) : Int)), .int (zI ((sq : Nat) : Int)), .int (zI v8), .int (zI v9), .int (zI va), .int (zI vb), .ref m5, .ref m6, .int (zI bm), .ref m7, .ref m8, .ref m9, .ref m10, .long (zL ha)])), (m1, iA D 771 N4), (m2, iA D 3084 u6), (m3, iA D 771 A3), (m4, iA D 150 tb), (m5, iA D 250 st), (m6, iA D 250 bo), (m7, iA D 250 sh), (m8, iA D 36 f1), (m9, iA D 36 f2), (m10, iA D 2778 pk)] [(0, .ref m0), (1, .int (zI ((i2 : Nat) : Int))), (3, .int (zI ((i4 : Nat) : Int)))] [] 218 := by
                              intro fuel218
                              induction fuel218 with
                              | zero => intro i4 N4 hi4 hn5 hfu; exact absurd hfu (Nat.not_lt_zero _)
                              | succ fuel218 ih218 =>
                                intro i4 N4 hi4 hn5 hfu218
                                refine zz_iload_n hC 2 (dk DX6_parse_1k 59 rfl) rfl rfl ?_
                                refine zz_sipush hC (dk DX6_parse_2k 0 rfl) (by decide) ?_
                                refine zz_icmp_ge hC 243 (dk DX6_parse_2k 1 rfl) (by decide) ⟨⟨by omega, by omega⟩, (by decide)⟩ (fun c7 => ?_) (fun c7 => ?_)
                                · refine zz_iload_n hC 1 (dk DX6_parse_2k 12 rfl) rfl rfl ?_
                                  exact zz_iret hC hQ hr (N4, u6, A3, ((zMs sv)), sq, v8, v9, va, vb, ((i2 : Nat) : Int)) (by obtain ⟨hb1, hs9⟩ := hb2.resolve_right (fun h => absurd h.1 (by omega)); have e9 : i2 = i := Classical.byContradiction fun q => absurd (hj i2 (by omega)).1 (by omega); subst e9; exact ⟨i2, -1, htx, Or.inr (Or.inr ⟨rfl, by unfold zRef; exact zFst_no hno, rfl, zSv_cg hn4 hu6, rfl, K9, T9, U9, hap, hlg, zRow_cg (fun k hk => (if_end hn5 (by omega) k hk).trans (ha5 k hk)) hlg.1 hw4 hNc⟩)⟩) rfl [0, 1, 2, 3, 4, 5, 6, 7, 8, 9, 10] rfl rfl ⟨Nat.le_refl _, Nat.le_refl _⟩ (dk DX6_parse_2k 13 rfl)
                                · refine zz_aload_n hC 0 (dk DX6_parse_2k 2 rfl) rfl rfl ?_
                                  refine zz_get hC F_X6_7 0 rfl rfl (dk DX6_parse_2k 3 rfl) ?_
                                  refine zz_iload_n hC 2 (dk DX6_parse_2k 4 rfl) rfl rfl ?_
                                  refine zz_aload_n hC 0 (dk DX6_parse_2k 5 rfl) rfl rfl ?_
                                  refine zz_get hC F_X6_16 0 rfl rfl (dk DX6_parse_2k 6 rfl) ?_
                                  refine zz_iload_n hC 2 (dk DX6_parse_2k 7 rfl) rfl rfl ?_
                                  refine zz_iald hC i4 3 rfl rfl (by omega) (dk DX6_parse_2k 8 rfl) ?_
                                  refine zz_iast hC (ws' := [(m0, .inr (6, [.ref m1, .ref m2, .ref m3, .int (zI (((zMs sv) : Nat) : Int)), .int (zI 0), .ref m4, .int (zI ((len : Nat) : Int)), .int (zI ((sq : Nat) : Int)), .int (zI v8), .int (zI v9), .int (zI va), .int (zI vb), .ref m5, .ref m6, .int (zI bm), .ref m7, .ref m8, .ref m9, .ref m10, .long (zL ha)])), (m1, iA D 771 (zU N4 i4 (A3 i4))), (m2, iA D 3084 u6), (m3, iA D 771 A3), (m4, iA D 150 tb), (m5, iA D 250 st), (m6, iA D 250 bo), (m7, iA D 250 sh), (m8, iA D 36 f1), (m9, iA D 36 f2), (m10, iA D 2778 pk)]) i4 1 rfl rfl (by omega) rfl (dk DX6_parse_2k 9 rfl) ?_
                                  refine zz_iinc hC ((i4 + 1 : Nat) : Int) (ls' := [(0, .ref m0), (1, .int (zI ((i2 : Nat) : Int))), (3, .int (zI ((i4 + 1 : Nat) : Int)))]) 2 [1, 2, 0] (dk DX6_parse_2k 10 rfl) rfl (by omega) (by decide) rfl ?_
                                  refine zz_goto hC 218 (dk DX6_parse_2k 11 rfl) (by decide) ?_
                                  refine zz_ls [0, 1, 2] rfl ?_
                                  exact ih218 (i4 + 1) (zU N4 i4 (A3 i4)) (by omega) (if_s hn5 rfl) (by omega)
                            refine zz_ls [0, 1, 3] rfl ?_
                            exact LP218 _ 0 N3 (by omega) (fun k => by rw [if_neg (by omega)]) (Nat.lt_succ_self _)
                          · refine zz_sipush hC (dk DX6_parse_1k 51 rfl) (by decide) ?_
                            refine zz_iload_n hC 1 (dk DX6_parse_1k 52 rfl) rfl rfl ?_
                            refine zz_isub hC (dk DX6_parse_1k 53 rfl) ?_
                            exact zz_iret hC hQ hr (N3, PA, A3, sv, sq, v8, v9, va, vb, ((-1000) - ((i2 : Nat) : Int))) (by have hz := hb2.resolve_left (fun h => absurd h.1 (by omega)); have hrf : zRef tb len n (zLast n T) i = (i2 : Int) := (by unfold zRef; exact zFst_at hz.2.2 hno hz.2.1); exact ⟨i, -1, htx, Or.inr (Or.inl ⟨rfl, by rw [hrf]; omega, by rw [hrf], zRow_cg hn4 hn hw4 hN, rfl, rfl⟩)⟩) rfl [0, 1, 2, 3, 4, 5, 6, 7, 8, 9, 10] rfl rfl ⟨Nat.le_refl _, Nat.le_refl _⟩ (dk DX6_parse_1k 54 rfl)
                        · refine zz_aload_n hC 0 (dk DX6_parse_1k 29 rfl) rfl rfl ?_
                          refine zz_get hC F_X6_7 0 rfl rfl (dk DX6_parse_1k 30 rfl) ?_
                          refine zz_iload_n hC 3 (dk DX6_parse_1k 31 rfl) rfl rfl ?_
                          refine zz_iald hC i3 1 rfl rfl (by omega) (dk DX6_parse_1k 32 rfl) ?_
                          refine zz_istore hC (ls' := [(0, .ref m0), (1, .int (zI ((i2 : Nat) : Int))), (2, .int (zI b)), (3, .int (zI ((i3 : Nat) : Int))), (4, .int (zI (N3 i3)))]) [1, 2, 3, 4, 0] (dk DX6_parse_1k 33 rfl) (by decide) rfl ?_
                          refine zz_aload_n hC 0 (dk DX6_parse_1k 34 rfl) rfl rfl ?_
                          refine zz_get hC F_X6_7 0 rfl rfl (dk DX6_parse_1k 35 rfl) ?_
                          refine zz_iload_n hC 3 (dk DX6_parse_1k 36 rfl) rfl rfl ?_
                          refine zz_aload_n hC 0 (dk DX6_parse_1k 37 rfl) rfl rfl ?_
                          refine zz_get hC F_X6_16 0 rfl rfl (dk DX6_parse_1k 38 rfl) ?_
                          refine zz_iload_n hC 3 (dk DX6_parse_1k 39 rfl) rfl rfl ?_
                          refine zz_iald hC i3 3 rfl rfl (by omega) (dk DX6_parse_1k 40 rfl) ?_
                          refine zz_iast hC (ws' := [(m0, .inr (6, [.ref m1, .ref m2, .ref m3, .int (zI ((sv : Nat) : Int)), .int (zI 0), .ref m4, .int (zI ((len : Nat) : Int)), .int (zI ((sq : Nat) : Int)), .int (zI v8), .int (zI v9), .int (zI va), .int (zI vb), .ref m5, .ref m6, .int (zI bm), .ref m7, .ref m8, .ref m9, .ref m10, .long (zL ha)])), (m1, iA D 771 (zU N3 i3 (A3 i3))), (m2, iA D 3084 PA), (m3, iA D 771 A3), (m4, iA D 150 tb), (m5, iA D 250 st), (m6, iA D 250 bo), (m7, iA D 250 sh), (m8, iA D 36 f1), (m9, iA D 36 f2), (m10, iA D 2778 pk)]) i3 1 rfl rfl (by omega) rfl (dk DX6_parse_1k 41 rfl) ?_
                          refine zz_aload_n hC 0 (dk DX6_parse_1k 42 rfl) rfl rfl ?_
                          refine zz_get hC F_X6_16 0 rfl rfl (dk DX6_parse_1k 43 rfl) ?_
                          refine zz_iload_n hC 3 (dk DX6_parse_1k 44 rfl) rfl rfl ?_
                          refine zz_iload hC 4 (dk DX6_parse_1k 45 rfl) rfl ?_
                          refine zz_iast hC (ws' := [(m0, .inr (6, [.ref m1, .ref m2, .ref m3, .int (zI ((sv : Nat) : Int)), .int (zI 0), .ref m4, .int (zI ((len : Nat) : Int)), .int (zI ((sq : Nat) : Int)), .int (zI v8), .int (zI v9), .int (zI va), .int (zI vb), .ref m5, .ref m6, .int (zI bm), .ref m7, .ref m8, .ref m9, .ref m10, .long (zL ha)])), (m1, iA D 771 (zU N3 i3 (A3 i3))), (m2, iA D 3084 PA), (m3, iA D 771 (zU A3 i3 (N3 i3))), (m4, iA D 150 tb), (m5, iA D 250 st), (m6, iA D 250 bo), (m7, iA D 250 sh), (m8, iA D 36 f1), (m9, iA D 36 f2), (m10, iA D 2778 pk)]) i3 3 rfl rfl (by omega) rfl (dk DX6_parse_1k 46 rfl) ?_
                          refine zz_iinc hC ((i3 + 1 : Nat) : Int) (ls' := [(0, .ref m0), (1, .int (zI ((i2 : Nat) : Int))), (2, .int (zI b)), (3, .int (zI ((i3 + 1 : Nat) : Int))), (4, .int (zI (N3 i3)))]) 3 [1, 2, 3, 0, 4] (dk DX6_parse_1k 47 rfl) rfl (by omega) (by decide) rfl ?_
                          refine zz_goto hC 161 (dk DX6_parse_1k 48 rfl) (by decide) ?_
                          refine zz_ls [0, 1, 2, 3] rfl ?_
                          exact ih161 (i3 + 1) (zU N3 i3 (A3 i3)) (zU A3 i3 (N3 i3)) (by omega) (if_s hn3 (if_at ha4)) (if_s ha4 (if_at hn3)) (by omega)
                    refine zz_ls [0, 1, 2, 3] rfl ?_
                    exact LP161 _ 0 NC A2 (by omega) (fun k => by rw [if_neg (by omega)]) (fun k => by rw [if_neg (by omega)]) (Nat.lt_succ_self _)
                  · refine zz_iload_n hC 2 (dk DX6_parse_0k 46 rfl) rfl rfl ?_
                    refine zz_if_eq hC 159 (dk DX6_parse_0k 47 rfl) (by decide) ⟨by omega, by omega⟩ (fun c8 => ?_) (fun c8 => ?_)
                    · refine zz_iconst hC (dk DX6_parse_1k 24 rfl) ?_
                      refine zz_istore_n hC (ls' := [(0, .ref m0), (1, .int (zI ((i2 : Nat) : Int))), (2, .int (zI b)), (3, .int (zI 0))]) [1, 2, 3, 0] (dk DX6_parse_1k 25 rfl) rfl (by decide) rfl ?_
                      have LP161 : ∀ (fuel161 : Nat) (i3 : Nat) (N3 : Nat → Int) (A3 : Nat → Int), (i3 ≤ 771) → (∀ k, N3 k = if k < i3 then A2 k else NC k) → (∀ k, A3 k = if k < i3 then NC k else A2 k) → 771 - i3 < fuel161 → Z p l e ({ frames := 4, cells := 0, slots := 0, locals := 88 } : Room) s m args below meth cd A D Q 5 0 0 [(m0, .inr (6, [.ref m1, .ref m2, .ref m3, .int (zI ((sv : Nat) : Int)), .int (zI 0), .ref m4, .int (zI ((len : Nat) : Int)), .int (zI ((sq : Nat) : Int)), .int (zI v8), .int (zI v9), .int (zI va), .int (zI vb), .ref m5, .ref m6, .int (zI bm), .ref m7, .ref m8, .ref m9, .ref m10, .long (zL ha)])), (m1, iA D 771 N3), (m2, iA D 3084 PA), (m3, iA D 771 A3), (m4, iA D 150 tb), (m5, iA D 250 st), (m6, iA D 250 bo), (m7, iA D 250 sh), (m8, iA D 36 f1), (m9, iA D 36 f2), (m10, iA D 2778 pk)] [(0, .ref m0), (1, .int (zI ((i2 : Nat) : Int))), (2, .int (zI b)), (3, .int (zI ((i3 : Nat) : Int)))] [] 161 := by
                        intro fuel161
                        induction fuel161 with
                        | zero => intro i3 N3 A3 hi3 hn3 ha4 hfu; exact absurd hfu (Nat.not_lt_zero _)
                        | succ fuel161 ih161 =>
                          intro i3 N3 A3 hi3 hn3 ha4 hfu161
                          refine zz_iload_n hC 3 (dk DX6_parse_1k 26 rfl) rfl rfl ?_
                          refine zz_sipush hC (dk DX6_parse_1k 27 rfl) (by decide) ?_
                          refine zz_icmp_ge hC 202 (dk DX6_parse_1k 28 rfl) (by decide) ⟨⟨by omega, by omega⟩, (by decide)⟩ (fun c9 => ?_) (fun c9 => ?_)
                          · have hn4 : ∀ k, k < 771 → N3 k = NW k := fun k hk => (if_end hn3 (by omega) k hk).trans (ha3 k hk)
                            have ha5 := if_end ha4 (by omega)
                            refine zz_iload_n hC 2 (dk DX6_parse_1k 49 rfl) rfl rfl ?_
                            refine zz_if_ne hC 212 (dk DX6_parse_1k 50 rfl) (by decide) ⟨by omega, by omega⟩ (fun c10 => ?_) (fun c10 => ?_)
                            · refine zz_aload_n hC 0 (dk DX6_parse_1k 55 rfl) rfl rfl ?_
                              refine zz_callVv hC (wr := []) (c_X6_saves l D m0 m1 m2 m3 m4 m5 m6 m7 m8 m9 m10 N3 PA A3 tb st bo sh f1 f2 pk sv len sq 0 v8 v9 va vb bm ha n w K T U S F L hsv) G_X6_66 H_X6_saves ⟨Nat.le_of_ble_eq_true rfl, Nat.le_of_ble_eq_true rfl⟩ rfl [0, 1, 2, 3, 4, 5, 6, 7, 8, 9, 10] [] rfl rfl ⟨rfl, rfl, by decide⟩ 0 6 ⟨rfl, rfl, rfl⟩ (As := []) (rest := []) (Nat.le_of_ble_eq_true rfl) rfl ⟨Nat.le_of_ble_eq_true rfl, Nat.le_of_ble_eq_true rfl⟩ (dk DX6_parse_1k 56 rfl) ⟨rfl, rfl⟩ (wb := fun u11 => [(m0, .inr (6, [.ref m1, .ref m2, .ref m3, .int (zI ((zMs sv : Nat) : Int)), .int (zI 0), .ref m4, .int (zI ((len : Nat) : Int)), .int (zI ((sq : Nat) : Int)), .int (zI v8), .int (zI v9), .int (zI va), .int (zI vb), .ref m5, .ref m6, .int (zI bm), .ref m7, .ref m8, .ref m9, .ref m10, .long (zL ha)])), (m1, iA D 771 N3), (m2, iA D 3084 u11), (m3, iA D 771 A3), (m4, iA D 150 tb), (m5, iA D 250 st), (m6, iA D 250 bo), (m7, iA D 250 sh), (m8, iA D 36 f1), (m9, iA D 36 f2), (m10, iA D 2778 pk)]) [0, 1, 2, 3, 4, 5, 6, 7, 8, 9, 10] rfl (fun _ => rfl) (fun u11 hu11 => ?_)
                              refine zz_iconst hC (dk DX6_parse_1k 57 rfl) ?_
                              refine zz_istore_n hC (ls' := [(0, .ref m0), (1, .int (zI ((i2 : Nat) : Int))), (2, .int (zI b)), (3, .int (zI 0))]) [1, 2, 3, 0] (dk DX6_parse_1k 58 rfl) rfl (by decide) rfl ?_
                              have LP218 : ∀ (fuel218 : Nat) (i4 : Nat) (N4 : Nat → Int), (i4 ≤ 771) → (∀ k, N4 k = if k < i4 then A3 k else N3 k) → 771 - i4 < fuel218 → Z p l e ({ frames := 4, cells := 0, slots := 0, locals := 88 } : Room) s m args below meth cd A D Q 5 0 0 [(m0, .inr (6, [.ref m1, .ref m2, .ref m3, .int (zI (((zMs sv) : Nat) : Int)), .int (zI 0), .ref m4, .int (zI ((len : Nat) : Int)), .int (zI ((sq : Nat) : Int)), .int (zI v8), .int (zI v9), .int (zI va), .int (zI vb), .ref m5, .ref m6, .int (zI bm), .ref m7, .ref m8, .ref m9, .ref m10, .long (zL ha)])), (m1, iA D 771 N4), (m2, iA D 3084 u11), (m3, iA D 771 A3), (m4, iA D 150 tb), (m5, iA D 250 st), (m6, iA D 250 bo), (m7, iA D 250 sh), (m8, iA D 36 f1), (m9, iA D 36 f2), (m10, iA D 2778 pk)] [(0, .ref m0), (1, .int (zI ((i2 : Nat) : Int))), (3, .int (zI ((i4 : Nat) : Int)))] [] 218 := by
                                intro fuel218
                                induction fuel218 with
                                | zero => intro i4 N4 hi4 hn5 hfu; exact absurd hfu (Nat.not_lt_zero _)
                                | succ fuel218 ih218 =>
                                  intro i4 N4 hi4 hn5 hfu218
                                  refine zz_iload_n hC 2 (dk DX6_parse_1k 59 rfl) rfl rfl ?_
                                  refine zz_sipush hC (dk DX6_parse_2k 0 rfl) (by decide) ?_
                                  refine zz_icmp_ge hC 243 (dk DX6_parse_2k 1 rfl) (by decide) ⟨⟨by omega, by omega⟩, (by decide)⟩ (fun c12 => ?_) (fun c12 => ?_)
                                  · refine zz_iload_n hC 1 (dk DX6_parse_2k 12 rfl) rfl rfl ?_
                                    exact zz_iret hC hQ hr (N4, u11, A3, ((zMs sv)), sq, v8, v9, va, vb, ((i2 : Nat) : Int)) (by obtain ⟨hb1, hs9⟩ := hb2.resolve_right (fun h => absurd h.1 (by omega)); have e9 : i2 = i := Classical.byContradiction fun q => absurd (hj i2 (by omega)).1 (by omega); subst e9; exact ⟨i2, -1, htx, Or.inr (Or.inr ⟨rfl, by unfold zRef; exact zFst_no hno, rfl, zSv_cg hn4 hu11, rfl, K9, T9, U9, hap, hlg, zRow_cg (fun k hk => (if_end hn5 (by omega) k hk).trans (ha5 k hk)) hlg.1 hw4 hNc⟩)⟩) rfl [0, 1, 2, 3, 4, 5, 6, 7, 8, 9, 10] rfl rfl ⟨Nat.le_refl _, Nat.le_refl _⟩ (dk DX6_parse_2k 13 rfl)
                                  · refine zz_aload_n hC 0 (dk DX6_parse_2k 2 rfl) rfl rfl ?_
                                    refine zz_get hC F_X6_7 0 rfl rfl (dk DX6_parse_2k 3 rfl) ?_
                                    refine zz_iload_n hC 2 (dk DX6_parse_2k 4 rfl) rfl rfl ?_
                                    refine zz_aload_n hC 0 (dk DX6_parse_2k 5 rfl) rfl rfl ?_
                                    refine zz_get hC F_X6_16 0 rfl rfl (dk DX6_parse_2k 6 rfl) ?_
                                    refine zz_iload_n hC 2 (dk DX6_parse_2k 7 rfl) rfl rfl ?_
                                    refine zz_iald hC i4 3 rfl rfl (by omega) (dk DX6_parse_2k 8 rfl) ?_
                                    refine zz_iast hC (ws' := [(m0, .inr (6, [.ref m1, .ref m2, .ref m3, .int (zI (((zMs sv) : Nat) : Int)), .int (zI 0), .ref m4, .int (zI ((len : Nat) : Int)), .int (zI ((sq : Nat) : Int)), .int (zI v8), .int (zI v9), .int (zI va), .int (zI vb), .ref m5, .ref m6, .int (zI bm), .ref m7, .ref m8, .ref m9, .ref m10, .long (zL ha)])), (m1, iA D 771 (zU N4 i4 (A3 i4))), (m2, iA D 3084 u11), (m3, iA D 771 A3), (m4, iA D 150 tb), (m5, iA D 250 st), (m6, iA D 250 bo), (m7, iA D 250 sh), (m8, iA D 36 f1), (m9, iA D 36 f2), (m10, iA D 2778 pk)]) i4 1 rfl rfl (by omega) rfl (dk DX6_parse_2k 9 rfl) ?_
                                    refine zz_iinc hC ((i4 + 1 : Nat) : Int) (ls' := [(0, .ref m0), (1, .int (zI ((i2 : Nat) : Int))), (3, .int (zI ((i4 + 1 : Nat) : Int)))]) 2 [1, 2, 0] (dk DX6_parse_2k 10 rfl) rfl (by omega) (by decide) rfl ?_
                                    refine zz_goto hC 218 (dk DX6_parse_2k 11 rfl) (by decide) ?_
                                    refine zz_ls [0, 1, 2] rfl ?_
                                    exact ih218 (i4 + 1) (zU N4 i4 (A3 i4)) (by omega) (if_s hn5 rfl) (by omega)
                              refine zz_ls [0, 1, 3] rfl ?_
                              exact LP218 _ 0 N3 (by omega) (fun k => by rw [if_neg (by omega)]) (Nat.lt_succ_self _)
                            · refine zz_sipush hC (dk DX6_parse_1k 51 rfl) (by decide) ?_
                              refine zz_iload_n hC 1 (dk DX6_parse_1k 52 rfl) rfl rfl ?_
                              refine zz_isub hC (dk DX6_parse_1k 53 rfl) ?_
                              exact zz_iret hC hQ hr (N3, PA, A3, sv, sq, v8, v9, va, vb, ((-1000) - ((i2 : Nat) : Int))) (by have hz := hb2.resolve_left (fun h => absurd h.1 (by omega)); have hrf : zRef tb len n (zLast n T) i = (i2 : Int) := (by unfold zRef; exact zFst_at hz.2.2 hno hz.2.1); exact ⟨i, -1, htx, Or.inr (Or.inl ⟨rfl, by rw [hrf]; omega, by rw [hrf], zRow_cg hn4 hn hw4 hN, rfl, rfl⟩)⟩) rfl [0, 1, 2, 3, 4, 5, 6, 7, 8, 9, 10] rfl rfl ⟨Nat.le_refl _, Nat.le_refl _⟩ (dk DX6_parse_1k 54 rfl)
                          · refine zz_aload_n hC 0 (dk DX6_parse_1k 29 rfl) rfl rfl ?_
                            refine zz_get hC F_X6_7 0 rfl rfl (dk DX6_parse_1k 30 rfl) ?_
                            refine zz_iload_n hC 3 (dk DX6_parse_1k 31 rfl) rfl rfl ?_
                            refine zz_iald hC i3 1 rfl rfl (by omega) (dk DX6_parse_1k 32 rfl) ?_
                            refine zz_istore hC (ls' := [(0, .ref m0), (1, .int (zI ((i2 : Nat) : Int))), (2, .int (zI b)), (3, .int (zI ((i3 : Nat) : Int))), (4, .int (zI (N3 i3)))]) [1, 2, 3, 4, 0] (dk DX6_parse_1k 33 rfl) (by decide) rfl ?_
                            refine zz_aload_n hC 0 (dk DX6_parse_1k 34 rfl) rfl rfl ?_
                            refine zz_get hC F_X6_7 0 rfl rfl (dk DX6_parse_1k 35 rfl) ?_
                            refine zz_iload_n hC 3 (dk DX6_parse_1k 36 rfl) rfl rfl ?_
                            refine zz_aload_n hC 0 (dk DX6_parse_1k 37 rfl) rfl rfl ?_
                            refine zz_get hC F_X6_16 0 rfl rfl (dk DX6_parse_1k 38 rfl) ?_
                            refine zz_iload_n hC 3 (dk DX6_parse_1k 39 rfl) rfl rfl ?_
                            refine zz_iald hC i3 3 rfl rfl (by omega) (dk DX6_parse_1k 40 rfl) ?_
                            refine zz_iast hC (ws' := [(m0, .inr (6, [.ref m1, .ref m2, .ref m3, .int (zI ((sv : Nat) : Int)), .int (zI 0), .ref m4, .int (zI ((len : Nat) : Int)), .int (zI ((sq : Nat) : Int)), .int (zI v8), .int (zI v9), .int (zI va), .int (zI vb), .ref m5, .ref m6, .int (zI bm), .ref m7, .ref m8, .ref m9, .ref m10, .long (zL ha)])), (m1, iA D 771 (zU N3 i3 (A3 i3))), (m2, iA D 3084 PA), (m3, iA D 771 A3), (m4, iA D 150 tb), (m5, iA D 250 st), (m6, iA D 250 bo), (m7, iA D 250 sh), (m8, iA D 36 f1), (m9, iA D 36 f2), (m10, iA D 2778 pk)]) i3 1 rfl rfl (by omega) rfl (dk DX6_parse_1k 41 rfl) ?_
                            refine zz_aload_n hC 0 (dk DX6_parse_1k 42 rfl) rfl rfl ?_
                            refine zz_get hC F_X6_16 0 rfl rfl (dk DX6_parse_1k 43 rfl) ?_
                            refine zz_iload_n hC 3 (dk DX6_parse_1k 44 rfl) rfl rfl ?_
                            refine zz_iload hC 4 (dk DX6_parse_1k 45 rfl) rfl ?_
                            refine zz_iast hC (ws' := [(m0, .inr (6, [.ref m1, .ref m2, .ref m3, .int (zI ((sv : Nat) : Int)), .int (zI 0), .ref m4, .int (zI ((len : Nat) : Int)), .int (zI ((sq : Nat) : Int)), .int (zI v8), .int (zI v9), .int (zI va), .int (zI vb), .ref m5, .ref m6, .int (zI bm), .ref m7, .ref m8, .ref m9, .ref m10, .long (zL ha)])), (m1, iA D 771 (zU N3 i3 (A3 i3))), (m2, iA D 3084 PA), (m3, iA D 771 (zU A3 i3 (N3 i3))), (m4, iA D 150 tb), (m5, iA D 250 st), (m6, iA D 250 bo), (m7, iA D 250 sh), (m8, iA D 36 f1), (m9, iA D 36 f2), (m10, iA D 2778 pk)]) i3 3 rfl rfl (by omega) rfl (dk DX6_parse_1k 46 rfl) ?_
                            refine zz_iinc hC ((i3 + 1 : Nat) : Int) (ls' := [(0, .ref m0), (1, .int (zI ((i2 : Nat) : Int))), (2, .int (zI b)), (3, .int (zI ((i3 + 1 : Nat) : Int))), (4, .int (zI (N3 i3)))]) 3 [1, 2, 3, 0, 4] (dk DX6_parse_1k 47 rfl) rfl (by omega) (by decide) rfl ?_
                            refine zz_goto hC 161 (dk DX6_parse_1k 48 rfl) (by decide) ?_
                            refine zz_ls [0, 1, 2, 3] rfl ?_
                            exact ih161 (i3 + 1) (zU N3 i3 (A3 i3)) (zU A3 i3 (N3 i3)) (by omega) (if_s hn3 (if_at ha4)) (if_s ha4 (if_at hn3)) (by omega)
                      refine zz_ls [0, 1, 2, 3] rfl ?_
                      exact LP161 _ 0 NC A2 (by omega) (fun k => by rw [if_neg (by omega)]) (fun k => by rw [if_neg (by omega)]) (Nat.lt_succ_self _)
                    · obtain ⟨hb1, hs9⟩ := hb2.resolve_right (fun h => absurd h.1 (by omega))
                      subst hs9
                      have hii : i2 < i := Classical.byContradiction fun q => by have e : i2 = i := (by omega); subst e; omega
                      have hpe := (hj i2 hii).2
                      have hpr := zPa_in hpe
                      have hpn := zPn_ge hpe
                      have hla9 := zLast_in hlg
                      refine zz_aload_n hC 0 (dk DX6_parse_0k 48 rfl) rfl rfl ?_
                      refine zz_callVi hC (wr := []) (c_X6_readsPulse l D m0 m1 m2 m3 m4 m5 m6 m7 m8 m9 m10 NC PA A2 tb st bo sh f1 f2 pk sv len ((zPp tb len i2)) 0 v8 v9 va vb bm ha n w K T U S F L hlen hbt (by omega)) G_X6_110 H_X6_readsPulse ⟨Nat.le_of_ble_eq_true rfl, Nat.le_of_ble_eq_true rfl⟩ rfl [0, 1, 2, 3, 4, 5, 6, 7, 8, 9, 10] [] rfl rfl ⟨rfl, rfl, by decide⟩ 0 6 ⟨rfl, rfl, rfl⟩ (As := []) (rest := []) (Nat.le_of_ble_eq_true rfl) rfl ⟨Nat.le_of_ble_eq_true rfl, Nat.le_of_ble_eq_true rfl⟩ (dk DX6_parse_0k 49 rfl) ⟨rfl, rfl⟩ (wb := fun u13 => [(m0, .inr (6, [.ref m1, .ref m2, .ref m3, .int (zI ((sv : Nat) : Int)), .int (zI 0), .ref m4, .int (zI ((len : Nat) : Int)), .int (zI ((u13.1 : Nat) : Int)), .int (zI u13.2.1), .int (zI u13.2.2.1), .int (zI u13.2.2.2.1), .int (zI u13.2.2.2.2), .ref m5, .ref m6, .int (zI bm), .ref m7, .ref m8, .ref m9, .ref m10, .long (zL ha)])), (m1, iA D 771 NC), (m2, iA D 3084 PA), (m3, iA D 771 A2), (m4, iA D 150 tb), (m5, iA D 250 st), (m6, iA D 250 bo), (m7, iA D 250 sh), (m8, iA D 36 f1), (m9, iA D 36 f2), (m10, iA D 2778 pk)]) [0, 1, 2, 3, 4, 5, 6, 7, 8, 9, 10] rfl (fun _ => rfl) (fun u13 hu13 => ?_)
                      have hr4 := hu13.1 hpe
                      refine zz_ifb_eq hC 125 (dk DX6_parse_0k 50 rfl) (by decide) (fun c14 => ?_) (fun c14 => ?_)
                      · exfalso; omega
                      · refine zz_aload_n hC 0 (dk DX6_parse_0k 51 rfl) rfl rfl ?_
                        refine zz_pureVi hC (c_X6_latest l D m0 m1 m2 m3 m4 m5 m6 m7 m8 m9 m10 NC PA A2 tb st bo sh f1 f2 pk sv len u13.1 0 u13.2.1 u13.2.2.1 u13.2.2.2.1 u13.2.2.2.2 bm ha (n + i2) w K9 T9 U9 S F L hNc hlg) G_X6_72 H_X6_latest ⟨Nat.le_of_ble_eq_true rfl, Nat.le_of_ble_eq_true rfl⟩ rfl [0, 1, 2, 3, 4, 5, 6, 7, 8, 9, 10] rfl rfl 0 6 ⟨rfl, rfl, rfl⟩ (As := []) (rest := []) (Nat.le_of_ble_eq_true rfl) rfl ⟨Nat.le_of_ble_eq_true rfl, Nat.le_of_ble_eq_true rfl⟩ (dk DX6_parse_0k 52 rfl) ⟨rfl, rfl⟩ ?_
                        have hf15 := zLast_in hg
                        refine zz_aload_n hC 0 (dk DX6_parse_0k 53 rfl) rfl rfl ?_
                        refine zz_get hC F_X6_101 0 rfl rfl (dk DX6_parse_0k 54 rfl) ?_
                        refine zz_iadd hC (dk DX6_parse_0k 55 rfl) ?_
                        refine zz_ldc hC 1000000 K_X6_76 (by decide) (dk DX6_parse_0k 56 rfl) ?_
                        refine zz_icmp_gt hC 125 (dk DX6_parse_0k 57 rfl) (by decide) ⟨⟨by omega, by omega⟩, (by decide)⟩ (fun c16 => ?_) (fun c16 => ?_)
                        · refine zz_iconst hC (dk DX6_parse_1k 6 rfl) ?_
                          refine zz_istore_n hC (ls' := [(0, .ref m0), (1, .int (zI ((i2 : Nat) : Int))), (2, .int (zI 0))]) [1, 2, 0] (dk DX6_parse_1k 7 rfl) rfl (by decide) rfl ?_
                          refine zz_iload_n hC 2 (dk DX6_parse_1k 8 rfl) rfl rfl ?_
                          refine zz_if_eq hC 72 (dk DX6_parse_1k 9 rfl) (by decide) (by decide) (fun c17 => ?_) (fun c17 => ?_)
                          · refine zz_ls [0, 1, 2] rfl ?_
                            exact ih72 i2 0 NC K9 T9 U9 u13.1 u13.2.1 u13.2.2.1 u13.2.2.2.1 u13.2.2.2.2 hi2 (Or.inr ⟨rfl, by omega, rq_t hl9 hr4.2.2.1 (by omega)⟩) (by omega) hno hap hlg hl9 hNc (by omega)
                          · exfalso; omega
                        · refine zz_aload_n hC 0 (dk DX6_parse_0k 58 rfl) rfl rfl ?_
                          refine zz_get hC F_X6_7 0 rfl rfl (dk DX6_parse_0k 59 rfl) ?_
                          refine zz_bipush hC (dk DX6_parse_1k 0 rfl) (by decide) ?_
                          refine zz_iald hC 20 1 rfl rfl (by omega) (dk DX6_parse_1k 1 rfl) ?_
                          rw [show (NC 20) = ((n + i2 : Nat) : Int) from hNc.2.2.2.1]
                          refine zz_sipush hC (dk DX6_parse_1k 2 rfl) (by decide) ?_
                          refine zz_icmp_ge hC 125 (dk DX6_parse_1k 3 rfl) (by decide) ⟨⟨by omega, by omega⟩, (by decide)⟩ (fun c18 => ?_) (fun c18 => ?_)
                          · refine zz_iconst hC (dk DX6_parse_1k 6 rfl) ?_
                            refine zz_istore_n hC (ls' := [(0, .ref m0), (1, .int (zI ((i2 : Nat) : Int))), (2, .int (zI 0))]) [1, 2, 0] (dk DX6_parse_1k 7 rfl) rfl (by decide) rfl ?_
                            refine zz_iload_n hC 2 (dk DX6_parse_1k 8 rfl) rfl rfl ?_
                            refine zz_if_eq hC 72 (dk DX6_parse_1k 9 rfl) (by decide) (by decide) (fun c19 => ?_) (fun c19 => ?_)
                            · refine zz_ls [0, 1, 2] rfl ?_
                              exact ih72 i2 0 NC K9 T9 U9 u13.1 u13.2.1 u13.2.2.1 u13.2.2.2.1 u13.2.2.2.2 hi2 (Or.inr ⟨rfl, by omega, rq_t hl9 hr4.2.2.1 (by omega)⟩) (by omega) hno hap hlg hl9 hNc (by omega)
                            · exfalso; omega
                          · refine zz_iconst hC (dk DX6_parse_1k 4 rfl) ?_
                            refine zz_goto hC 126 (dk DX6_parse_1k 5 rfl) (by decide) ?_
                            refine zz_istore_n hC (ls' := [(0, .ref m0), (1, .int (zI ((i2 : Nat) : Int))), (2, .int (zI 1))]) [1, 2, 0] (dk DX6_parse_1k 7 rfl) rfl (by decide) rfl ?_
                            refine zz_iload_n hC 2 (dk DX6_parse_1k 8 rfl) rfl rfl ?_
                            refine zz_if_eq hC 72 (dk DX6_parse_1k 9 rfl) (by decide) (by decide) (fun c20 => ?_) (fun c20 => ?_)
                            · exfalso; omega
                            · refine zz_aload_n hC 0 (dk DX6_parse_1k 10 rfl) rfl rfl ?_
                              refine zz_aload_n hC 0 (dk DX6_parse_1k 11 rfl) rfl rfl ?_
                              refine zz_get hC F_X6_94 0 rfl rfl (dk DX6_parse_1k 12 rfl) ?_
                              refine zz_aload_n hC 0 (dk DX6_parse_1k 13 rfl) rfl rfl ?_
                              refine zz_pureVi hC (c_X6_latest l D m0 m1 m2 m3 m4 m5 m6 m7 m8 m9 m10 NC PA A2 tb st bo sh f1 f2 pk sv len u13.1 0 u13.2.1 u13.2.2.1 u13.2.2.2.1 u13.2.2.2.2 bm ha (n + i2) w K9 T9 U9 S F L hNc hlg) G_X6_72 H_X6_latest ⟨Nat.le_of_ble_eq_true rfl, Nat.le_of_ble_eq_true rfl⟩ rfl [0, 1, 2, 3, 4, 5, 6, 7, 8, 9, 10] rfl rfl 0 6 ⟨rfl, rfl, rfl⟩ (As := []) (rest := [.int (zI u13.2.2.1), .ref m0]) (Nat.le_of_ble_eq_true rfl) rfl ⟨Nat.le_of_ble_eq_true rfl, Nat.le_of_ble_eq_true rfl⟩ (dk DX6_parse_1k 14 rfl) ⟨rfl, rfl⟩ ?_
                              have hf21 := zLast_in hg
                              refine zz_aload_n hC 0 (dk DX6_parse_1k 15 rfl) rfl rfl ?_
                              refine zz_get hC F_X6_101 0 rfl rfl (dk DX6_parse_1k 16 rfl) ?_
                              refine zz_iadd hC (dk DX6_parse_1k 17 rfl) ?_
                              refine zz_aload_n hC 0 (dk DX6_parse_1k 18 rfl) rfl rfl ?_
                              refine zz_get hC F_X6_104 0 rfl rfl (dk DX6_parse_1k 19 rfl) ?_
                              refine zz_callVi hC (wr := []) (c_X6_records l D m0 m1 m2 m3 m4 m5 m6 m7 m8 m9 m10 NC PA A2 tb st bo sh f1 f2 pk sv len u13.1 0 u13.2.1 u13.2.2.1 u13.2.2.2.1 u13.2.2.2.2 bm ha (n + i2) w K9 T9 U9 S F L u13.2.2.1 ((zLast (n + i2) T9) + u13.2.2.2.1) u13.2.2.2.2 hNc (by omega)) G_X6_77 H_X6_records ⟨Nat.le_of_ble_eq_true rfl, Nat.le_of_ble_eq_true rfl⟩ rfl [0, 1, 2, 3, 4, 5, 6, 7, 8, 9, 10] [] rfl rfl ⟨rfl, rfl, by decide⟩ 0 6 ⟨rfl, rfl, rfl⟩ (As := [.int (zI u13.2.2.1), .int (zI ((zLast (n + i2) T9) + u13.2.2.2.1)), .int (zI u13.2.2.2.2)]) (rest := []) (Nat.le_of_ble_eq_true rfl) rfl ⟨Nat.le_of_ble_eq_true rfl, Nat.le_of_ble_eq_true rfl⟩ (dk DX6_parse_1k 20 rfl) ⟨rfl, rfl⟩ (wb := fun u22 => [(m0, .inr (6, [.ref m1, .ref m2, .ref m3, .int (zI ((sv : Nat) : Int)), .int (zI 0), .ref m4, .int (zI ((len : Nat) : Int)), .int (zI ((u13.1 : Nat) : Int)), .int (zI u13.2.1), .int (zI u13.2.2.1), .int (zI u13.2.2.2.1), .int (zI u13.2.2.2.2), .ref m5, .ref m6, .int (zI bm), .ref m7, .ref m8, .ref m9, .ref m10, .long (zL ha)])), (m1, iA D 771 (zU (zU (zU (zU NC (21 + (3 * (n + i2))) u13.2.2.1) ((21 + (3 * (n + i2))) + 1) ((zLast (n + i2) T9) + u13.2.2.2.1)) ((21 + (3 * (n + i2))) + 2) u13.2.2.2.2) 20 (((n + i2) + 1 : Nat) : Int))), (m2, iA D 3084 PA), (m3, iA D 771 A2), (m4, iA D 150 tb), (m5, iA D 250 st), (m6, iA D 250 bo), (m7, iA D 250 sh), (m8, iA D 36 f1), (m9, iA D 36 f2), (m10, iA D 2778 pk)]) [0, 1, 2, 3, 4, 5, 6, 7, 8, 9, 10] rfl (fun _ => rfl) (fun u22 hu22 => ?_)
                              refine zz_pop hC (dk DX6_parse_1k 21 rfl) rfl ?_
                              refine zz_iinc hC ((i2 + 1 : Nat) : Int) (ls' := [(0, .ref m0), (1, .int (zI ((i2 + 1 : Nat) : Int))), (2, .int (zI 1))]) 1 [1, 0, 2] (dk DX6_parse_1k 22 rfl) rfl (by omega) (by decide) rfl ?_
                              refine zz_goto hC 72 (dk DX6_parse_1k 23 rfl) (by decide) ?_
                              refine zz_ls [0, 1, 2] rfl ?_
                              exact ih72 (i2 + 1) 1 (zU (zU (zU (zU NC (21 + (3 * (n + i2))) u13.2.2.1) ((21 + (3 * (n + i2))) + 1) ((zLast (n + i2) T9) + u13.2.2.2.1)) ((21 + (3 * (n + i2))) + 2) u13.2.2.2.2) 20 (((n + i2) + 1 : Nat) : Int)) (zU K9 (n + i2) (u13.2.2.1)) (zU T9 (n + i2) ((zLast (n + i2) T9) + (u13.2.2.2.1))) (zU U9 (n + i2) (u13.2.2.2.2)) u13.1 u13.2.1 u13.2.2.1 u13.2.2.2.1 u13.2.2.2.2 (by omega) (Or.inl ⟨rfl, hr4.1⟩) (by omega) (fun j hj => by by_cases e : j = i2; (subst e; exact rq_f hl9 hr4.2.2.1 (by omega)); exact hno j (by omega)) (app_s hap hr4.2.1 (by simp only [zTm]; rw [hl9, hr4.2.2.1]) hr4.2.2.2) (zLog_add (n := n + i2) hlg (by omega) (by rw [hr4.2.1]; omega) (by rw [hr4.2.2.1]; omega) (by rw [hr4.2.2.2]; omega)) (by have e := zLast_add (n := n + i2) (T := T9) (t := zLast (n + i2) T9 + u13.2.2.2.1); simp only [zTm]; rw [← hl9, ← hr4.2.2.1]; exact e) (row_rec hNc hw4) (by omega)
              refine zz_ls [0, 1, 2] rfl ?_
              exact LP72 _ 0 1 NW K T U 0 v8 v9 va vb (by omega) (Or.inl ⟨rfl, rfl⟩) (by omega) (fun j hj => absurd hj (by omega)) (⟨fun j _ => ⟨rfl, rfl, rfl⟩, fun j hj => absurd hj (by omega)⟩) hg rfl hN (Nat.lt_succ_self _)
            · refine zz_aload_n hC 0 (dk DX6_parse_0k 24 rfl) rfl rfl ?_
              refine zz_get hC F_X6_16 0 rfl rfl (dk DX6_parse_0k 25 rfl) ?_
              refine zz_iload_n hC 1 (dk DX6_parse_0k 26 rfl) rfl rfl ?_
              refine zz_aload_n hC 0 (dk DX6_parse_0k 27 rfl) rfl rfl ?_
              refine zz_get hC F_X6_7 0 rfl rfl (dk DX6_parse_0k 28 rfl) ?_
              refine zz_iload_n hC 1 (dk DX6_parse_0k 29 rfl) rfl rfl ?_
              refine zz_iald hC i1 1 rfl rfl (by omega) (dk DX6_parse_0k 30 rfl) ?_
              refine zz_iast hC (ws' := [(m0, .inr (6, [.ref m1, .ref m2, .ref m3, .int (zI ((sv : Nat) : Int)), .int (zI 0), .ref m4, .int (zI ((len : Nat) : Int)), .int (zI (((zPp tb len i) : Nat) : Int)), .int (zI v8), .int (zI v9), .int (zI va), .int (zI vb), .ref m5, .ref m6, .int (zI bm), .ref m7, .ref m8, .ref m9, .ref m10, .long (zL ha)])), (m1, iA D 771 NW), (m2, iA D 3084 PA), (m3, iA D 771 (zU A2 i1 (NW i1))), (m4, iA D 150 tb), (m5, iA D 250 st), (m6, iA D 250 bo), (m7, iA D 250 sh), (m8, iA D 36 f1), (m9, iA D 36 f2), (m10, iA D 2778 pk)]) i1 3 rfl rfl (by omega) rfl (dk DX6_parse_0k 31 rfl) ?_
              refine zz_iinc hC ((i1 + 1 : Nat) : Int) (ls' := [(0, .ref m0), (1, .int (zI ((i1 + 1 : Nat) : Int)))]) 1 [1, 0] (dk DX6_parse_0k 32 rfl) rfl (by omega) (by decide) rfl ?_
              refine zz_goto hC 38 (dk DX6_parse_0k 33 rfl) (by decide) ?_
              refine zz_ls [0, 1] rfl ?_
              exact ih38 (i1 + 1) (zU A2 i1 (NW i1)) (by omega) (if_s ha2 rfl) (by omega)
        refine zz_ls [0, 1] rfl ?_
        exact LP38 _ 0 AS (by omega) (fun k => by rw [if_neg (by omega)]) (Nat.lt_succ_self _)
      · refine zz_aload_n hC 0 (dk DX6_parse_0k 11 rfl) rfl rfl ?_
        refine zz_callVi hC (wr := []) (c_X6_readsPulse l D m0 m1 m2 m3 m4 m5 m6 m7 m8 m9 m10 NW PA AS tb st bo sh f1 f2 pk sv len ((zPp tb len i)) 0 v8 v9 va vb bm ha n w K T U S F L hlen hbt (by omega)) G_X6_110 H_X6_readsPulse ⟨Nat.le_of_ble_eq_true rfl, Nat.le_of_ble_eq_true rfl⟩ rfl [0, 1, 2, 3, 4, 5, 6, 7, 8, 9, 10] [] rfl rfl ⟨rfl, rfl, by decide⟩ 0 6 ⟨rfl, rfl, rfl⟩ (As := []) (rest := []) (Nat.le_of_ble_eq_true rfl) rfl ⟨Nat.le_of_ble_eq_true rfl, Nat.le_of_ble_eq_true rfl⟩ (dk DX6_parse_0k 12 rfl) ⟨rfl, rfl⟩ (wb := fun u23 => [(m0, .inr (6, [.ref m1, .ref m2, .ref m3, .int (zI ((sv : Nat) : Int)), .int (zI 0), .ref m4, .int (zI ((len : Nat) : Int)), .int (zI ((u23.1 : Nat) : Int)), .int (zI u23.2.1), .int (zI u23.2.2.1), .int (zI u23.2.2.2.1), .int (zI u23.2.2.2.2), .ref m5, .ref m6, .int (zI bm), .ref m7, .ref m8, .ref m9, .ref m10, .long (zL ha)])), (m1, iA D 771 NW), (m2, iA D 3084 PA), (m3, iA D 771 AS), (m4, iA D 150 tb), (m5, iA D 250 st), (m6, iA D 250 bo), (m7, iA D 250 sh), (m8, iA D 36 f1), (m9, iA D 36 f2), (m10, iA D 2778 pk)]) [0, 1, 2, 3, 4, 5, 6, 7, 8, 9, 10] rfl (fun _ => rfl) (fun u23 hu23 => ?_)
        refine zz_ifb_ne hC 10 (dk DX6_parse_0k 13 rfl) (by decide) (fun c24 => ?_) (fun c24 => ?_)
        · rw [show u23.1 = zPp tb len (i + 1) from (hu23.1 (by assumption)).1]
          refine zz_ls [0] rfl ?_
          exact ih10 (i + 1) u23.2.1 u23.2.2.1 u23.2.2.2.1 u23.2.2.2.2 (fun j hj7 => by by_cases e : j = i; (subst e; exact ⟨by omega, by assumption⟩); exact hj j (by omega)) (by omega)
        · refine zz_bipush hC (dk DX6_parse_0k 14 rfl) (by decide) ?_
          refine zz_aload_n hC 0 (dk DX6_parse_0k 15 rfl) rfl rfl ?_
          refine zz_get hC F_X6_84 0 rfl rfl (dk DX6_parse_0k 16 rfl) ?_
          refine zz_isub hC (dk DX6_parse_0k 17 rfl) ?_
          exact zz_iret hC hQ hr (NW, PA, AS, sv, u23.1, u23.2.1, u23.2.2.1, u23.2.2.2.1, u23.2.2.2.2, ((-10) - ((u23.1 : Nat) : Int))) ⟨i, zPe tb len (zPp tb len i), ⟨hj, Or.inr (by refine ⟨by omega, rfl, ?_⟩; assumption)⟩, Or.inl ⟨by assumption, (by show (-10 : Int) - _ = _; rw [hu23.2 (by assumption)]), rfl, rfl, rfl⟩⟩ rfl [0, 1, 2, 3, 4, 5, 6, 7, 8, 9, 10] rfl rfl ⟨Nat.le_refl _, Nat.le_refl _⟩ (dk DX6_parse_0k 18 rfl)
  refine zz_ls [0] rfl ?_
  exact LP10 _ 0 nu rk rt ra (fun j hj => absurd hj (by omega)) (Nat.lt_succ_self _)
