set_option maxHeartbeats 4000000 in
set_option maxRecDepth 100000 in
theorem c_X6_pulse (l : Launch) (D : zG) (m0 : Nat) (m1 : Nat) (m2 : Nat) (m3 : Nat) (m4 : Nat) (m5 : Nat) (m6 : Nat) (m7 : Nat) (m8 : Nat) (m9 : Nat) (m10 : Nat) (NW : Nat → Int) (PA : Nat → Int) (AS : Nat → Int) (tb : Nat → Int) (st : Nat → Int) (bo : Nat → Int) (sh : Nat → Int) (f1 : Nat → Int) (f2 : Nat → Int) (pk : Nat → Int) (sv : Nat) (len : Nat) (sp : Nat) (rf : Int) (nu : Int) (rk : Int) (rt : Int) (ra : Int) (bm : Int) (ha : Int) (n : Nat) (w : Nat) (K : Nat → Int) (T : Nat → Int) (U : Nat → Int) (S : Nat → Int) (F : Nat → Int) (L : Nat → Int) (x : Int) (v : Int) (hN : zRow NW n K T U S F L w) (hg : zLog n K T U) (hs : zSet S) (hw : zWin w F L) (hri : (-2147483648 ≤ x ∧ x ≤ 2147483647) ∧ (-2147483648 ≤ v ∧ v ≤ 2147483647)) : CI (S := (Nat → Int) × (Nat → Int) × (Nat → Int) × (Nat → Int) × (Nat → Int) × (Nat → Int) × Int × Int × Int × Int) l yX6_pulse cX6_pulse 3 ((some .int)) ({ frames := 5, cells := 0, slots := 0, locals := 113 } : Room) D [.ref m0, .int (zI x), .int (zI v)] [(m0, .inr (6, [.ref m1, .ref m2, .ref m3, .int (zI ((sv : Nat) : Int)), .int (zI rf), .ref m4, .int (zI ((len : Nat) : Int)), .int (zI ((sp : Nat) : Int)), .int (zI nu), .int (zI rk), .int (zI rt), .int (zI ra), .ref m5, .ref m6, .int (zI bm), .ref m7, .ref m8, .ref m9, .ref m10, .long (zL ha)])), (m1, iA D 771 NW), (m2, iA D 3084 PA), (m3, iA D 771 AS), (m4, iA D 150 tb), (m5, iA D 250 st), (m6, iA D 250 bo), (m7, iA D 250 sh), (m8, iA D 36 f1), (m9, iA D 36 f2), (m10, iA D 2778 pk)] (fun u => zO2 (0 ≤ x ∧ x < n) (0 ≤ v ∧ v ≤ 6) (u.2.2.2.2.2.2.2.1) (u.2.2.2.2.2.2.2.2.2 = zPu n K T U S F L w v x.toNat)) (fun u => u.2.2.2.2.2.2.2.2.2) (fun u => [(m0, .inr (6, [.ref m1, .ref m2, .ref m3, .int (zI ((sv : Nat) : Int)), .int (zI u.2.2.2.2.2.2.2.1), .ref m4, .int (zI ((len : Nat) : Int)), .int (zI ((sp : Nat) : Int)), .int (zI nu), .int (zI rk), .int (zI rt), .int (zI ra), .ref m5, .ref m6, .int (zI u.2.2.2.2.2.2.1), .ref m7, .ref m8, .ref m9, .ref m10, .long (zL u.2.2.2.2.2.2.2.2.1)])), (m1, iA D 771 NW), (m2, iA D 3084 PA), (m3, iA D 771 AS), (m4, iA D 150 tb), (m5, iA D 250 u.1), (m6, iA D 250 u.2.1), (m7, iA D 250 u.2.2.1), (m8, iA D 36 u.2.2.2.1), (m9, iA D 36 u.2.2.2.2.1), (m10, iA D 2778 u.2.2.2.2.2.1)]) := by
  refine CI_of (by decide) (Nat.le_of_ble_eq_true rfl) ?_
  intro p e s m args below meth cd A Q hQ hC hr hnm
  have hC : ZC p s m args meth cd A D 3 cX6_pulse RX6 := hC
  have hg0 := hg
  obtain ⟨hn, hK, hT, hU, hM⟩ := hg0
  show Z p l e ({ frames := 5, cells := 0, slots := 0, locals := 113 } : Room) s m args below meth cd A D Q 3 0 0 [(m0, .inr (6, [.ref m1, .ref m2, .ref m3, .int (zI ((sv : Nat) : Int)), .int (zI rf), .ref m4, .int (zI ((len : Nat) : Int)), .int (zI ((sp : Nat) : Int)), .int (zI nu), .int (zI rk), .int (zI rt), .int (zI ra), .ref m5, .ref m6, .int (zI bm), .ref m7, .ref m8, .ref m9, .ref m10, .long (zL ha)])), (m1, iA D 771 NW), (m2, iA D 3084 PA), (m3, iA D 771 AS), (m4, iA D 150 tb), (m5, iA D 250 st), (m6, iA D 250 bo), (m7, iA D 250 sh), (m8, iA D 36 f1), (m9, iA D 36 f2), (m10, iA D 2778 pk)] [(0, .ref m0), (1, .int (zI x)), (2, .int (zI v))] [] 0
  refine zz_aload_n hC 0 (dk DX6_pulse_0k 0 rfl) rfl rfl ?_
  refine zz_callVv hC (wr := []) (c_X6_laysNow l D m0 m1 m2 m3 m4 m5 m6 m7 m8 m9 m10 NW PA AS tb st bo sh f1 f2 pk sv len sp rf nu rk rt ra bm ha n w K T U S F L hN hg hs hw) G_X6_144 H_X6_laysNow ⟨Nat.le_of_ble_eq_true rfl, Nat.le_of_ble_eq_true rfl⟩ rfl [0, 1, 2, 3, 4, 5, 6, 7, 8, 9, 10] [] rfl rfl ⟨rfl, rfl, by decide⟩ 0 6 ⟨rfl, rfl, rfl⟩ (As := []) (rest := []) (Nat.le_of_ble_eq_true rfl) rfl ⟨Nat.le_of_ble_eq_true rfl, Nat.le_of_ble_eq_true rfl⟩ (dk DX6_pulse_0k 1 rfl) ⟨rfl, rfl⟩ (wb := fun u1 => [(m0, .inr (6, [.ref m1, .ref m2, .ref m3, .int (zI ((sv : Nat) : Int)), .int (zI rf), .ref m4, .int (zI ((len : Nat) : Int)), .int (zI ((sp : Nat) : Int)), .int (zI nu), .int (zI rk), .int (zI rt), .int (zI ra), .ref m5, .ref m6, .int (zI (zBN n K T U S F L w)), .ref m7, .ref m8, .ref m9, .ref m10, .long (zL ha)])), (m1, iA D 771 NW), (m2, iA D 3084 PA), (m3, iA D 771 AS), (m4, iA D 150 tb), (m5, iA D 250 u1.1), (m6, iA D 250 u1.2.1), (m7, iA D 250 u1.2.2), (m8, iA D 36 f1), (m9, iA D 36 f2), (m10, iA D 2778 pk)]) [0, 1, 2, 3, 4, 5, 6, 7, 8, 9, 10] rfl (fun _ => rfl) (fun u1 hu1 => ?_)
  have hu1r := mk_r hK hn hu1
  have hu1s := mk_st hu1
  refine zz_aload_n hC 0 (dk DX6_pulse_0k 2 rfl) rfl rfl ?_
  refine zz_iload_n hC 1 (dk DX6_pulse_0k 3 rfl) rfl rfl ?_
  refine zz_iconst hC (dk DX6_pulse_0k 4 rfl) ?_
  refine zz_aload_n hC 0 (dk DX6_pulse_0k 5 rfl) rfl rfl ?_
  refine zz_get hC F_X6_7 0 rfl rfl (dk DX6_pulse_0k 6 rfl) ?_
  refine zz_bipush hC (dk DX6_pulse_0k 7 rfl) (by decide) ?_
  refine zz_iald hC 20 1 rfl rfl (by omega) (dk DX6_pulse_0k 8 rfl) ?_
  rw [hN.2.2.2.1]
  refine zz_iconst hC (dk DX6_pulse_0k 9 rfl) ?_
  refine zz_isub hC (dk DX6_pulse_0k 10 rfl) ?_
  refine zz_pureSi hC (c_X6_within l D x 0 (((n : Nat) : Int) - 1) (by omega)) G_X6_52 H_X6_within.2 ⟨Nat.le_of_ble_eq_true rfl, Nat.le_of_ble_eq_true rfl⟩ rfl [] rfl rfl (As := [.int (zI x), .int (zI 0), .int (zI (((n : Nat) : Int) - 1))]) (rest := [.ref m0]) (Nat.le_of_ble_eq_true rfl) rfl ⟨Nat.le_of_ble_eq_true rfl, Nat.le_of_ble_eq_true rfl⟩ (dk DX6_pulse_0k 11 rfl) ⟨rfl, rfl⟩ ?_
  refine zz_ifb_ne hC 26 (dk DX6_pulse_0k 12 rfl) (by decide) (fun c2 => ?_) (fun c2 => ?_)
  · refine zz_iload_n hC 2 (dk DX6_pulse_0k 15 rfl) rfl rfl ?_
    refine zz_iconst hC (dk DX6_pulse_0k 16 rfl) ?_
    refine zz_bipush hC (dk DX6_pulse_0k 17 rfl) (by decide) ?_
    refine zz_pureSi hC (c_X6_within l D v 0 6 (by omega)) G_X6_52 H_X6_within.2 ⟨Nat.le_of_ble_eq_true rfl, Nat.le_of_ble_eq_true rfl⟩ rfl [] rfl rfl (As := [.int (zI v), .int (zI 0), .int (zI 6)]) (rest := [.ref m0]) (Nat.le_of_ble_eq_true rfl) rfl ⟨Nat.le_of_ble_eq_true rfl, Nat.le_of_ble_eq_true rfl⟩ (dk DX6_pulse_0k 18 rfl) ⟨rfl, rfl⟩ ?_
    refine zz_ifb_eq hC 40 (dk DX6_pulse_0k 19 rfl) (by decide) (fun c3 => ?_) (fun c3 => ?_)
    · refine zz_iconst hC (dk DX6_pulse_0k 22 rfl) ?_
      refine zz_callVi hC (wr := []) (c_X6_refused l D m0 m1 m2 m3 m4 m5 m6 m7 m8 m9 m10 NW PA AS tb u1.1 u1.2.1 u1.2.2 f1 f2 pk sv len sp rf nu rk rt ra (zBN n K T U S F L w) ha n w K T U S F L 2 (by omega)) G_X6_47 H_X6_refused ⟨Nat.le_of_ble_eq_true rfl, Nat.le_of_ble_eq_true rfl⟩ rfl [0, 1, 2, 3, 4, 5, 6, 7, 8, 9, 10] [] rfl rfl ⟨rfl, rfl, by decide⟩ 0 6 ⟨rfl, rfl, rfl⟩ (As := [.int (zI 2)]) (rest := []) (Nat.le_of_ble_eq_true rfl) rfl ⟨Nat.le_of_ble_eq_true rfl, Nat.le_of_ble_eq_true rfl⟩ (dk DX6_pulse_0k 23 rfl) ⟨rfl, rfl⟩ (wb := fun u4 => [(m0, .inr (6, [.ref m1, .ref m2, .ref m3, .int (zI ((sv : Nat) : Int)), .int (zI 2), .ref m4, .int (zI ((len : Nat) : Int)), .int (zI ((sp : Nat) : Int)), .int (zI nu), .int (zI rk), .int (zI rt), .int (zI ra), .ref m5, .ref m6, .int (zI (zBN n K T U S F L w)), .ref m7, .ref m8, .ref m9, .ref m10, .long (zL ha)])), (m1, iA D 771 NW), (m2, iA D 3084 PA), (m3, iA D 771 AS), (m4, iA D 150 tb), (m5, iA D 250 u1.1), (m6, iA D 250 u1.2.1), (m7, iA D 250 u1.2.2), (m8, iA D 36 f1), (m9, iA D 36 f2), (m10, iA D 2778 pk)]) [0, 1, 2, 3, 4, 5, 6, 7, 8, 9, 10] rfl (fun _ => rfl) (fun u4 hu4 => ?_)
      refine zz_ifb_eq hC 51 (dk DX6_pulse_0k 24 rfl) (by decide) (fun c5 => ?_) (fun c5 => ?_)
      · exfalso; omega
      · refine zz_iconst hC (dk DX6_pulse_0k 25 rfl) ?_
        refine zz_goto hC 57 (dk DX6_pulse_0k 26 rfl) (by decide) ?_
        exact zz_iret hC hQ hr (u1.1, u1.2.1, u1.2.2, f1, f2, pk, (zBN n K T U S F L w), 2, ha, 0) (Or.inr (Or.inr ⟨(by omega), (by omega), rfl⟩)) rfl [0, 1, 2, 3, 4, 5, 6, 7, 8, 9, 10] rfl rfl ⟨Nat.le_refl _, Nat.le_refl _⟩ (dk DX6_pulse_0k 31 rfl)
    · refine zz_iconst hC (dk DX6_pulse_0k 20 rfl) ?_
      refine zz_goto hC 41 (dk DX6_pulse_0k 21 rfl) (by decide) ?_
      refine zz_callVi hC (wr := []) (c_X6_refused l D m0 m1 m2 m3 m4 m5 m6 m7 m8 m9 m10 NW PA AS tb u1.1 u1.2.1 u1.2.2 f1 f2 pk sv len sp rf nu rk rt ra (zBN n K T U S F L w) ha n w K T U S F L 0 (by omega)) G_X6_47 H_X6_refused ⟨Nat.le_of_ble_eq_true rfl, Nat.le_of_ble_eq_true rfl⟩ rfl [0, 1, 2, 3, 4, 5, 6, 7, 8, 9, 10] [] rfl rfl ⟨rfl, rfl, by decide⟩ 0 6 ⟨rfl, rfl, rfl⟩ (As := [.int (zI 0)]) (rest := []) (Nat.le_of_ble_eq_true rfl) rfl ⟨Nat.le_of_ble_eq_true rfl, Nat.le_of_ble_eq_true rfl⟩ (dk DX6_pulse_0k 23 rfl) ⟨rfl, rfl⟩ (wb := fun u6 => [(m0, .inr (6, [.ref m1, .ref m2, .ref m3, .int (zI ((sv : Nat) : Int)), .int (zI 0), .ref m4, .int (zI ((len : Nat) : Int)), .int (zI ((sp : Nat) : Int)), .int (zI nu), .int (zI rk), .int (zI rt), .int (zI ra), .ref m5, .ref m6, .int (zI (zBN n K T U S F L w)), .ref m7, .ref m8, .ref m9, .ref m10, .long (zL ha)])), (m1, iA D 771 NW), (m2, iA D 3084 PA), (m3, iA D 771 AS), (m4, iA D 150 tb), (m5, iA D 250 u1.1), (m6, iA D 250 u1.2.1), (m7, iA D 250 u1.2.2), (m8, iA D 36 f1), (m9, iA D 36 f2), (m10, iA D 2778 pk)]) [0, 1, 2, 3, 4, 5, 6, 7, 8, 9, 10] rfl (fun _ => rfl) (fun u6 hu6 => ?_)
      refine zz_ifb_eq hC 51 (dk DX6_pulse_0k 24 rfl) (by decide) (fun c7 => ?_) (fun c7 => ?_)
      · obtain ⟨k9, rfl⟩ : ∃ k : Nat, x = (k : Int) := ⟨x.toNat, by omega⟩
        refine zz_aload_n hC 0 (dk DX6_pulse_0k 27 rfl) rfl rfl ?_
        refine zz_iload_n hC 1 (dk DX6_pulse_0k 28 rfl) rfl rfl ?_
        refine zz_iload_n hC 2 (dk DX6_pulse_0k 29 rfl) rfl rfl ?_
        refine zz_pureVi hC (c_X6_tellPulse l D m0 m1 m2 m3 m4 m5 m6 m7 m8 m9 m10 NW PA AS tb u1.1 u1.2.1 u1.2.2 f1 f2 pk sv len sp 0 nu rk rt ra (zBN n K T U S F L w) ha n w K T U S F L k9 v hN hg hs (by omega) (by omega)) G_X6_147 H_X6_tellPulse ⟨Nat.le_of_ble_eq_true rfl, Nat.le_of_ble_eq_true rfl⟩ rfl [0, 1, 2, 3, 4, 5, 6, 7, 8, 9, 10] rfl rfl 0 6 ⟨rfl, rfl, rfl⟩ (As := [.int (zI ((k9 : Nat) : Int)), .int (zI v)]) (rest := []) (Nat.le_of_ble_eq_true rfl) rfl ⟨Nat.le_of_ble_eq_true rfl, Nat.le_of_ble_eq_true rfl⟩ (dk DX6_pulse_0k 30 rfl) ⟨rfl, rfl⟩ ?_
        exact zz_iret hC hQ hr (u1.1, u1.2.1, u1.2.2, f1, f2, pk, (zBN n K T U S F L w), 0, ha, (zAp K T U S (zCh n K U S) u1.1 u1.2.1 v k9)) (Or.inl ⟨(by omega), (by omega), rfl, (zPu_lk (mk_lk hu1) (by omega))⟩) rfl [0, 1, 2, 3, 4, 5, 6, 7, 8, 9, 10] rfl rfl ⟨Nat.le_refl _, Nat.le_refl _⟩ (dk DX6_pulse_0k 31 rfl)
      · exfalso; omega
  · refine zz_iconst hC (dk DX6_pulse_0k 13 rfl) ?_
    refine zz_goto hC 41 (dk DX6_pulse_0k 14 rfl) (by decide) ?_
    refine zz_callVi hC (wr := []) (c_X6_refused l D m0 m1 m2 m3 m4 m5 m6 m7 m8 m9 m10 NW PA AS tb u1.1 u1.2.1 u1.2.2 f1 f2 pk sv len sp rf nu rk rt ra (zBN n K T U S F L w) ha n w K T U S F L 1 (by omega)) G_X6_47 H_X6_refused ⟨Nat.le_of_ble_eq_true rfl, Nat.le_of_ble_eq_true rfl⟩ rfl [0, 1, 2, 3, 4, 5, 6, 7, 8, 9, 10] [] rfl rfl ⟨rfl, rfl, by decide⟩ 0 6 ⟨rfl, rfl, rfl⟩ (As := [.int (zI 1)]) (rest := []) (Nat.le_of_ble_eq_true rfl) rfl ⟨Nat.le_of_ble_eq_true rfl, Nat.le_of_ble_eq_true rfl⟩ (dk DX6_pulse_0k 23 rfl) ⟨rfl, rfl⟩ (wb := fun u8 => [(m0, .inr (6, [.ref m1, .ref m2, .ref m3, .int (zI ((sv : Nat) : Int)), .int (zI 1), .ref m4, .int (zI ((len : Nat) : Int)), .int (zI ((sp : Nat) : Int)), .int (zI nu), .int (zI rk), .int (zI rt), .int (zI ra), .ref m5, .ref m6, .int (zI (zBN n K T U S F L w)), .ref m7, .ref m8, .ref m9, .ref m10, .long (zL ha)])), (m1, iA D 771 NW), (m2, iA D 3084 PA), (m3, iA D 771 AS), (m4, iA D 150 tb), (m5, iA D 250 u1.1), (m6, iA D 250 u1.2.1), (m7, iA D 250 u1.2.2), (m8, iA D 36 f1), (m9, iA D 36 f2), (m10, iA D 2778 pk)]) [0, 1, 2, 3, 4, 5, 6, 7, 8, 9, 10] rfl (fun _ => rfl) (fun u8 hu8 => ?_)
    refine zz_ifb_eq hC 51 (dk DX6_pulse_0k 24 rfl) (by decide) (fun c9 => ?_) (fun c9 => ?_)
    · exfalso; omega
    · refine zz_iconst hC (dk DX6_pulse_0k 25 rfl) ?_
      refine zz_goto hC 57 (dk DX6_pulse_0k 26 rfl) (by decide) ?_
      exact zz_iret hC hQ hr (u1.1, u1.2.1, u1.2.2, f1, f2, pk, (zBN n K T U S F L w), 1, ha, 0) (Or.inr (Or.inl ⟨(by omega), rfl⟩)) rfl [0, 1, 2, 3, 4, 5, 6, 7, 8, 9, 10] rfl rfl ⟨Nat.le_refl _, Nat.le_refl _⟩ (dk DX6_pulse_0k 31 rfl)
set_option maxHeartbeats 4000000 in
set_option maxRecDepth 100000 in
theorem c_X6_statuses (l : Launch) (D : zG) (m0 : Nat) (m1 : Nat) (m2 : Nat) (m3 : Nat) (m4 : Nat) (m5 : Nat) (m6 : Nat) (m7 : Nat) (m8 : Nat) (m9 : Nat) (m10 : Nat) (NW : Nat → Int) (PA : Nat → Int) (AS : Nat → Int) (tb : Nat → Int) (st : Nat → Int) (bo : Nat → Int) (sh : Nat → Int) (f1 : Nat → Int) (f2 : Nat → Int) (pk : Nat → Int) (sv : Nat) (len : Nat) (sp : Nat) (rf : Int) (nu : Int) (rk : Int) (rt : Int) (ra : Int) (bm : Int) (ha : Int) (n : Nat) (w : Nat) (K : Nat → Int) (T : Nat → Int) (U : Nat → Int) (S : Nat → Int) (F : Nat → Int) (L : Nat → Int) (x : Int) (hN : zRow NW n K T U S F L w) (hg : zLog n K T U) (hs : zSet S) (hw : zWin w F L) (hri : (-2147483648 ≤ x ∧ x ≤ 2147483647)) : CI (S := (Nat → Int) × (Nat → Int) × (Nat → Int) × (Nat → Int) × (Nat → Int) × (Nat → Int) × Int × Int × Int × Int) l yX6_statuses cX6_statuses 2 ((some .int)) ({ frames := 5, cells := 0, slots := 0, locals := 113 } : Room) D [.ref m0, .int (zI x)] [(m0, .inr (6, [.ref m1, .ref m2, .ref m3, .int (zI ((sv : Nat) : Int)), .int (zI rf), .ref m4, .int (zI ((len : Nat) : Int)), .int (zI ((sp : Nat) : Int)), .int (zI nu), .int (zI rk), .int (zI rt), .int (zI ra), .ref m5, .ref m6, .int (zI bm), .ref m7, .ref m8, .ref m9, .ref m10, .long (zL ha)])), (m1, iA D 771 NW), (m2, iA D 3084 PA), (m3, iA D 771 AS), (m4, iA D 150 tb), (m5, iA D 250 st), (m6, iA D 250 bo), (m7, iA D 250 sh), (m8, iA D 36 f1), (m9, iA D 36 f2), (m10, iA D 2778 pk)] (fun u => zO1 (0 ≤ x ∧ x ≤ 6) (u.2.2.2.2.2.2.2.1) (u.2.2.2.2.2.2.2.2.2 = zStt n K T U S F L w x)) (fun u => u.2.2.2.2.2.2.2.2.2) (fun u => [(m0, .inr (6, [.ref m1, .ref m2, .ref m3, .int (zI ((sv : Nat) : Int)), .int (zI u.2.2.2.2.2.2.2.1), .ref m4, .int (zI ((len : Nat) : Int)), .int (zI ((sp : Nat) : Int)), .int (zI nu), .int (zI rk), .int (zI rt), .int (zI ra), .ref m5, .ref m6, .int (zI u.2.2.2.2.2.2.1), .ref m7, .ref m8, .ref m9, .ref m10, .long (zL u.2.2.2.2.2.2.2.2.1)])), (m1, iA D 771 NW), (m2, iA D 3084 PA), (m3, iA D 771 AS), (m4, iA D 150 tb), (m5, iA D 250 u.1), (m6, iA D 250 u.2.1), (m7, iA D 250 u.2.2.1), (m8, iA D 36 u.2.2.2.1), (m9, iA D 36 u.2.2.2.2.1), (m10, iA D 2778 u.2.2.2.2.2.1)]) := by
  refine CI_of (by decide) (Nat.le_of_ble_eq_true rfl) ?_
  intro p e s m args below meth cd A Q hQ hC hr hnm
  have hC : ZC p s m args meth cd A D 2 cX6_statuses RX6 := hC
  have hg0 := hg
  obtain ⟨hn, hK, hT, hU, hM⟩ := hg0
  show Z p l e ({ frames := 5, cells := 0, slots := 0, locals := 113 } : Room) s m args below meth cd A D Q 2 0 0 [(m0, .inr (6, [.ref m1, .ref m2, .ref m3, .int (zI ((sv : Nat) : Int)), .int (zI rf), .ref m4, .int (zI ((len : Nat) : Int)), .int (zI ((sp : Nat) : Int)), .int (zI nu), .int (zI rk), .int (zI rt), .int (zI ra), .ref m5, .ref m6, .int (zI bm), .ref m7, .ref m8, .ref m9, .ref m10, .long (zL ha)])), (m1, iA D 771 NW), (m2, iA D 3084 PA), (m3, iA D 771 AS), (m4, iA D 150 tb), (m5, iA D 250 st), (m6, iA D 250 bo), (m7, iA D 250 sh), (m8, iA D 36 f1), (m9, iA D 36 f2), (m10, iA D 2778 pk)] [(0, .ref m0), (1, .int (zI x))] [] 0
  refine zz_aload_n hC 0 (dk DX6_statuses_0k 0 rfl) rfl rfl ?_
  refine zz_callVv hC (wr := []) (c_X6_laysNow l D m0 m1 m2 m3 m4 m5 m6 m7 m8 m9 m10 NW PA AS tb st bo sh f1 f2 pk sv len sp rf nu rk rt ra bm ha n w K T U S F L hN hg hs hw) G_X6_144 H_X6_laysNow ⟨Nat.le_of_ble_eq_true rfl, Nat.le_of_ble_eq_true rfl⟩ rfl [0, 1, 2, 3, 4, 5, 6, 7, 8, 9, 10] [] rfl rfl ⟨rfl, rfl, by decide⟩ 0 6 ⟨rfl, rfl, rfl⟩ (As := []) (rest := []) (Nat.le_of_ble_eq_true rfl) rfl ⟨Nat.le_of_ble_eq_true rfl, Nat.le_of_ble_eq_true rfl⟩ (dk DX6_statuses_0k 1 rfl) ⟨rfl, rfl⟩ (wb := fun u1 => [(m0, .inr (6, [.ref m1, .ref m2, .ref m3, .int (zI ((sv : Nat) : Int)), .int (zI rf), .ref m4, .int (zI ((len : Nat) : Int)), .int (zI ((sp : Nat) : Int)), .int (zI nu), .int (zI rk), .int (zI rt), .int (zI ra), .ref m5, .ref m6, .int (zI (zBN n K T U S F L w)), .ref m7, .ref m8, .ref m9, .ref m10, .long (zL ha)])), (m1, iA D 771 NW), (m2, iA D 3084 PA), (m3, iA D 771 AS), (m4, iA D 150 tb), (m5, iA D 250 u1.1), (m6, iA D 250 u1.2.1), (m7, iA D 250 u1.2.2), (m8, iA D 36 f1), (m9, iA D 36 f2), (m10, iA D 2778 pk)]) [0, 1, 2, 3, 4, 5, 6, 7, 8, 9, 10] rfl (fun _ => rfl) (fun u1 hu1 => ?_)
  have hu1r := mk_r hK hn hu1
  have hu1s := mk_st hu1
  refine zz_aload_n hC 0 (dk DX6_statuses_0k 2 rfl) rfl rfl ?_
  refine zz_iload_n hC 1 (dk DX6_statuses_0k 3 rfl) rfl rfl ?_
  refine zz_iconst hC (dk DX6_statuses_0k 4 rfl) ?_
  refine zz_bipush hC (dk DX6_statuses_0k 5 rfl) (by decide) ?_
  refine zz_pureSi hC (c_X6_within l D x 0 6 (by omega)) G_X6_52 H_X6_within.2 ⟨Nat.le_of_ble_eq_true rfl, Nat.le_of_ble_eq_true rfl⟩ rfl [] rfl rfl (As := [.int (zI x), .int (zI 0), .int (zI 6)]) (rest := [.ref m0]) (Nat.le_of_ble_eq_true rfl) rfl ⟨Nat.le_of_ble_eq_true rfl, Nat.le_of_ble_eq_true rfl⟩ (dk DX6_statuses_0k 6 rfl) ⟨rfl, rfl⟩ ?_
  refine zz_ifb_eq hC 19 (dk DX6_statuses_0k 7 rfl) (by decide) (fun c2 => ?_) (fun c2 => ?_)
  · refine zz_iconst hC (dk DX6_statuses_0k 10 rfl) ?_
    refine zz_callVi hC (wr := []) (c_X6_refused l D m0 m1 m2 m3 m4 m5 m6 m7 m8 m9 m10 NW PA AS tb u1.1 u1.2.1 u1.2.2 f1 f2 pk sv len sp rf nu rk rt ra (zBN n K T U S F L w) ha n w K T U S F L 1 (by omega)) G_X6_47 H_X6_refused ⟨Nat.le_of_ble_eq_true rfl, Nat.le_of_ble_eq_true rfl⟩ rfl [0, 1, 2, 3, 4, 5, 6, 7, 8, 9, 10] [] rfl rfl ⟨rfl, rfl, by decide⟩ 0 6 ⟨rfl, rfl, rfl⟩ (As := [.int (zI 1)]) (rest := []) (Nat.le_of_ble_eq_true rfl) rfl ⟨Nat.le_of_ble_eq_true rfl, Nat.le_of_ble_eq_true rfl⟩ (dk DX6_statuses_0k 11 rfl) ⟨rfl, rfl⟩ (wb := fun u3 => [(m0, .inr (6, [.ref m1, .ref m2, .ref m3, .int (zI ((sv : Nat) : Int)), .int (zI 1), .ref m4, .int (zI ((len : Nat) : Int)), .int (zI ((sp : Nat) : Int)), .int (zI nu), .int (zI rk), .int (zI rt), .int (zI ra), .ref m5, .ref m6, .int (zI (zBN n K T U S F L w)), .ref m7, .ref m8, .ref m9, .ref m10, .long (zL ha)])), (m1, iA D 771 NW), (m2, iA D 3084 PA), (m3, iA D 771 AS), (m4, iA D 150 tb), (m5, iA D 250 u1.1), (m6, iA D 250 u1.2.1), (m7, iA D 250 u1.2.2), (m8, iA D 36 f1), (m9, iA D 36 f2), (m10, iA D 2778 pk)]) [0, 1, 2, 3, 4, 5, 6, 7, 8, 9, 10] rfl (fun _ => rfl) (fun u3 hu3 => ?_)
    refine zz_ifb_eq hC 30 (dk DX6_statuses_0k 12 rfl) (by decide) (fun c4 => ?_) (fun c4 => ?_)
    · exfalso; omega
    · refine zz_iconst hC (dk DX6_statuses_0k 13 rfl) ?_
      refine zz_goto hC 35 (dk DX6_statuses_0k 14 rfl) (by decide) ?_
      exact zz_iret hC hQ hr (u1.1, u1.2.1, u1.2.2, f1, f2, pk, (zBN n K T U S F L w), 1, ha, 0) (Or.inr ⟨(by omega), rfl⟩) rfl [0, 1, 2, 3, 4, 5, 6, 7, 8, 9, 10] rfl rfl ⟨Nat.le_refl _, Nat.le_refl _⟩ (dk DX6_statuses_0k 18 rfl)
  · refine zz_iconst hC (dk DX6_statuses_0k 8 rfl) ?_
    refine zz_goto hC 20 (dk DX6_statuses_0k 9 rfl) (by decide) ?_
    refine zz_callVi hC (wr := []) (c_X6_refused l D m0 m1 m2 m3 m4 m5 m6 m7 m8 m9 m10 NW PA AS tb u1.1 u1.2.1 u1.2.2 f1 f2 pk sv len sp rf nu rk rt ra (zBN n K T U S F L w) ha n w K T U S F L 0 (by omega)) G_X6_47 H_X6_refused ⟨Nat.le_of_ble_eq_true rfl, Nat.le_of_ble_eq_true rfl⟩ rfl [0, 1, 2, 3, 4, 5, 6, 7, 8, 9, 10] [] rfl rfl ⟨rfl, rfl, by decide⟩ 0 6 ⟨rfl, rfl, rfl⟩ (As := [.int (zI 0)]) (rest := []) (Nat.le_of_ble_eq_true rfl) rfl ⟨Nat.le_of_ble_eq_true rfl, Nat.le_of_ble_eq_true rfl⟩ (dk DX6_statuses_0k 11 rfl) ⟨rfl, rfl⟩ (wb := fun u5 => [(m0, .inr (6, [.ref m1, .ref m2, .ref m3, .int (zI ((sv : Nat) : Int)), .int (zI 0), .ref m4, .int (zI ((len : Nat) : Int)), .int (zI ((sp : Nat) : Int)), .int (zI nu), .int (zI rk), .int (zI rt), .int (zI ra), .ref m5, .ref m6, .int (zI (zBN n K T U S F L w)), .ref m7, .ref m8, .ref m9, .ref m10, .long (zL ha)])), (m1, iA D 771 NW), (m2, iA D 3084 PA), (m3, iA D 771 AS), (m4, iA D 150 tb), (m5, iA D 250 u1.1), (m6, iA D 250 u1.2.1), (m7, iA D 250 u1.2.2), (m8, iA D 36 f1), (m9, iA D 36 f2), (m10, iA D 2778 pk)]) [0, 1, 2, 3, 4, 5, 6, 7, 8, 9, 10] rfl (fun _ => rfl) (fun u5 hu5 => ?_)
    refine zz_ifb_eq hC 30 (dk DX6_statuses_0k 12 rfl) (by decide) (fun c6 => ?_) (fun c6 => ?_)
    · refine zz_aload_n hC 0 (dk DX6_statuses_0k 15 rfl) rfl rfl ?_
      refine zz_iload_n hC 1 (dk DX6_statuses_0k 16 rfl) rfl rfl ?_
      refine zz_pureVi hC (c_X6_manyOf l D m0 m1 m2 m3 m4 m5 m6 m7 m8 m9 m10 NW PA AS tb u1.1 u1.2.1 u1.2.2 f1 f2 pk sv len sp 0 nu rk rt ra (zBN n K T U S F L w) ha n w K T U S F L x hN hg hu1r.1 (by omega)) G_X6_151 H_X6_manyOf ⟨Nat.le_of_ble_eq_true rfl, Nat.le_of_ble_eq_true rfl⟩ rfl [0, 1, 2, 3, 4, 5, 6, 7, 8, 9, 10] rfl rfl 0 6 ⟨rfl, rfl, rfl⟩ (As := [.int (zI x)]) (rest := []) (Nat.le_of_ble_eq_true rfl) rfl ⟨Nat.le_of_ble_eq_true rfl, Nat.le_of_ble_eq_true rfl⟩ (dk DX6_statuses_0k 17 rfl) ⟨rfl, rfl⟩ ?_
      have hf7 := zCt_in (P := fun a => decide (u1.1 a = x)) (n := n)
      exact zz_iret hC hQ hr (u1.1, u1.2.1, u1.2.2, f1, f2, pk, (zBN n K T U S F L w), 0, ha, (zCt (fun a => decide (u1.1 a = x)) n)) (Or.inl ⟨(by omega), rfl, (zStt_lk hu1s)⟩) rfl [0, 1, 2, 3, 4, 5, 6, 7, 8, 9, 10] rfl rfl ⟨Nat.le_refl _, Nat.le_refl _⟩ (dk DX6_statuses_0k 18 rfl)
    · exfalso; omega
set_option maxHeartbeats 4000000 in
set_option maxRecDepth 100000 in
theorem c_X6_count (l : Launch) (D : zG) (m0 : Nat) (m1 : Nat) (m2 : Nat) (m3 : Nat) (m4 : Nat) (m5 : Nat) (m6 : Nat) (m7 : Nat) (m8 : Nat) (m9 : Nat) (m10 : Nat) (NW : Nat → Int) (PA : Nat → Int) (AS : Nat → Int) (tb : Nat → Int) (st : Nat → Int) (bo : Nat → Int) (sh : Nat → Int) (f1 : Nat → Int) (f2 : Nat → Int) (pk : Nat → Int) (sv : Nat) (len : Nat) (sp : Nat) (rf : Int) (nu : Int) (rk : Int) (rt : Int) (ra : Int) (bm : Int) (ha : Int) (n : Nat) (w : Nat) (K : Nat → Int) (T : Nat → Int) (U : Nat → Int) (S : Nat → Int) (F : Nat → Int) (L : Nat → Int) (x : Int) (v : Int) (hN : zRow NW n K T U S F L w) (hg : zLog n K T U) (hs : zSet S) (hw : zWin w F L) (hri : (-2147483648 ≤ x ∧ x ≤ 2147483647) ∧ (-2147483648 ≤ v ∧ v ≤ 2147483647)) : CI (S := (Nat → Int) × (Nat → Int) × (Nat → Int) × (Nat → Int) × (Nat → Int) × (Nat → Int) × Int × Int × Int × Int) l yX6_count cX6_count 5 ((some .int)) ({ frames := 5, cells := 0, slots := 0, locals := 113 } : Room) D [.ref m0, .int (zI x), .int (zI v)] [(m0, .inr (6, [.ref m1, .ref m2, .ref m3, .int (zI ((sv : Nat) : Int)), .int (zI rf), .ref m4, .int (zI ((len : Nat) : Int)), .int (zI ((sp : Nat) : Int)), .int (zI nu), .int (zI rk), .int (zI rt), .int (zI ra), .ref m5, .ref m6, .int (zI bm), .ref m7, .ref m8, .ref m9, .ref m10, .long (zL ha)])), (m1, iA D 771 NW), (m2, iA D 3084 PA), (m3, iA D 771 AS), (m4, iA D 150 tb), (m5, iA D 250 st), (m6, iA D 250 bo), (m7, iA D 250 sh), (m8, iA D 36 f1), (m9, iA D 36 f2), (m10, iA D 2778 pk)] (fun u => zO1 ((-1 ≤ x ∧ x ≤ 35) ∧ -1 ≤ v ∧ v ≤ 15) (u.2.2.2.2.2.2.2.1) (u.2.2.2.2.2.2.2.2.2 = zCount n K T U S F L w x v)) (fun u => u.2.2.2.2.2.2.2.2.2) (fun u => [(m0, .inr (6, [.ref m1, .ref m2, .ref m3, .int (zI ((sv : Nat) : Int)), .int (zI u.2.2.2.2.2.2.2.1), .ref m4, .int (zI ((len : Nat) : Int)), .int (zI ((sp : Nat) : Int)), .int (zI nu), .int (zI rk), .int (zI rt), .int (zI ra), .ref m5, .ref m6, .int (zI u.2.2.2.2.2.2.1), .ref m7, .ref m8, .ref m9, .ref m10, .long (zL u.2.2.2.2.2.2.2.2.1)])), (m1, iA D 771 NW), (m2, iA D 3084 PA), (m3, iA D 771 AS), (m4, iA D 150 tb), (m5, iA D 250 u.1), (m6, iA D 250 u.2.1), (m7, iA D 250 u.2.2.1), (m8, iA D 36 u.2.2.2.1), (m9, iA D 36 u.2.2.2.2.1), (m10, iA D 2778 u.2.2.2.2.2.1)]) := by
  refine CI_of (by decide) (Nat.le_of_ble_eq_true rfl) ?_
  intro p e s m args below meth cd A Q hQ hC hr hnm
  have hC : ZC p s m args meth cd A D 5 cX6_count RX6 := hC
  have hg0 := hg
  obtain ⟨hn, hK, hT, hU, hM⟩ := hg0
  show Z p l e ({ frames := 5, cells := 0, slots := 0, locals := 113 } : Room) s m args below meth cd A D Q 5 0 0 [(m0, .inr (6, [.ref m1, .ref m2, .ref m3, .int (zI ((sv : Nat) : Int)), .int (zI rf), .ref m4, .int (zI ((len : Nat) : Int)), .int (zI ((sp : Nat) : Int)), .int (zI nu), .int (zI rk), .int (zI rt), .int (zI ra), .ref m5, .ref m6, .int (zI bm), .ref m7, .ref m8, .ref m9, .ref m10, .long (zL ha)])), (m1, iA D 771 NW), (m2, iA D 3084 PA), (m3, iA D 771 AS), (m4, iA D 150 tb), (m5, iA D 250 st), (m6, iA D 250 bo), (m7, iA D 250 sh), (m8, iA D 36 f1), (m9, iA D 36 f2), (m10, iA D 2778 pk)] [(0, .ref m0), (1, .int (zI x)), (2, .int (zI v))] [] 0
  refine zz_aload_n hC 0 (dk DX6_count_0k 0 rfl) rfl rfl ?_
  refine zz_iload_n hC 1 (dk DX6_count_0k 1 rfl) rfl rfl ?_
  refine zz_iconst hC (dk DX6_count_0k 2 rfl) ?_
  refine zz_bipush hC (dk DX6_count_0k 3 rfl) (by decide) ?_
  refine zz_pureSi hC (c_X6_within l D x (-1) 35 (by omega)) G_X6_52 H_X6_within.2 ⟨Nat.le_of_ble_eq_true rfl, Nat.le_of_ble_eq_true rfl⟩ rfl [] rfl rfl (As := [.int (zI x), .int (zI (-1)), .int (zI 35)]) (rest := [.ref m0]) (Nat.le_of_ble_eq_true rfl) rfl ⟨Nat.le_of_ble_eq_true rfl, Nat.le_of_ble_eq_true rfl⟩ (dk DX6_count_0k 4 rfl) ⟨rfl, rfl⟩ ?_
  refine zz_ifb_eq hC 25 (dk DX6_count_0k 5 rfl) (by decide) (fun c1 => ?_) (fun c1 => ?_)
  · refine zz_iconst hC (dk DX6_count_0k 13 rfl) ?_
    refine zz_callVi hC (wr := []) (c_X6_refused l D m0 m1 m2 m3 m4 m5 m6 m7 m8 m9 m10 NW PA AS tb st bo sh f1 f2 pk sv len sp rf nu rk rt ra bm ha n w K T U S F L 1 (by omega)) G_X6_47 H_X6_refused ⟨Nat.le_of_ble_eq_true rfl, Nat.le_of_ble_eq_true rfl⟩ rfl [0, 1, 2, 3, 4, 5, 6, 7, 8, 9, 10] [] rfl rfl ⟨rfl, rfl, by decide⟩ 0 6 ⟨rfl, rfl, rfl⟩ (As := [.int (zI 1)]) (rest := []) (Nat.le_of_ble_eq_true rfl) rfl ⟨Nat.le_of_ble_eq_true rfl, Nat.le_of_ble_eq_true rfl⟩ (dk DX6_count_0k 14 rfl) ⟨rfl, rfl⟩ (wb := fun u2 => [(m0, .inr (6, [.ref m1, .ref m2, .ref m3, .int (zI ((sv : Nat) : Int)), .int (zI 1), .ref m4, .int (zI ((len : Nat) : Int)), .int (zI ((sp : Nat) : Int)), .int (zI nu), .int (zI rk), .int (zI rt), .int (zI ra), .ref m5, .ref m6, .int (zI bm), .ref m7, .ref m8, .ref m9, .ref m10, .long (zL ha)])), (m1, iA D 771 NW), (m2, iA D 3084 PA), (m3, iA D 771 AS), (m4, iA D 150 tb), (m5, iA D 250 st), (m6, iA D 250 bo), (m7, iA D 250 sh), (m8, iA D 36 f1), (m9, iA D 36 f2), (m10, iA D 2778 pk)]) [0, 1, 2, 3, 4, 5, 6, 7, 8, 9, 10] rfl (fun _ => rfl) (fun u2 hu2 => ?_)
    refine zz_ifb_eq hC 34 (dk DX6_count_0k 15 rfl) (by decide) (fun c3 => ?_) (fun c3 => ?_)
    · exfalso; omega
    · refine zz_iconst hC (dk DX6_count_0k 16 rfl) ?_
      exact zz_iret hC hQ hr (st, bo, sh, f1, f2, pk, bm, 1, ha, 0) (Or.inr ⟨(by omega), rfl⟩) rfl [0, 1, 2, 3, 4, 5, 6, 7, 8, 9, 10] rfl rfl ⟨Nat.le_refl _, Nat.le_refl _⟩ (dk DX6_count_0k 17 rfl)
  · refine zz_iload_n hC 2 (dk DX6_count_0k 6 rfl) rfl rfl ?_
    refine zz_iconst hC (dk DX6_count_0k 7 rfl) ?_
    refine zz_bipush hC (dk DX6_count_0k 8 rfl) (by decide) ?_
    refine zz_pureSi hC (c_X6_within l D v (-1) 15 (by omega)) G_X6_52 H_X6_within.2 ⟨Nat.le_of_ble_eq_true rfl, Nat.le_of_ble_eq_true rfl⟩ rfl [] rfl rfl (As := [.int (zI v), .int (zI (-1)), .int (zI 15)]) (rest := [.ref m0]) (Nat.le_of_ble_eq_true rfl) rfl ⟨Nat.le_of_ble_eq_true rfl, Nat.le_of_ble_eq_true rfl⟩ (dk DX6_count_0k 9 rfl) ⟨rfl, rfl⟩ ?_
    refine zz_ifb_eq hC 25 (dk DX6_count_0k 10 rfl) (by decide) (fun c4 => ?_) (fun c4 => ?_)
    · refine zz_iconst hC (dk DX6_count_0k 13 rfl) ?_
      refine zz_callVi hC (wr := []) (c_X6_refused l D m0 m1 m2 m3 m4 m5 m6 m7 m8 m9 m10 NW PA AS tb st bo sh f1 f2 pk sv len sp rf nu rk rt ra bm ha n w K T U S F L 1 (by omega)) G_X6_47 H_X6_refused ⟨Nat.le_of_ble_eq_true rfl, Nat.le_of_ble_eq_true rfl⟩ rfl [0, 1, 2, 3, 4, 5, 6, 7, 8, 9, 10] [] rfl rfl ⟨rfl, rfl, by decide⟩ 0 6 ⟨rfl, rfl, rfl⟩ (As := [.int (zI 1)]) (rest := []) (Nat.le_of_ble_eq_true rfl) rfl ⟨Nat.le_of_ble_eq_true rfl, Nat.le_of_ble_eq_true rfl⟩ (dk DX6_count_0k 14 rfl) ⟨rfl, rfl⟩ (wb := fun u5 => [(m0, .inr (6, [.ref m1, .ref m2, .ref m3, .int (zI ((sv : Nat) : Int)), .int (zI 1), .ref m4, .int (zI ((len : Nat) : Int)), .int (zI ((sp : Nat) : Int)), .int (zI nu), .int (zI rk), .int (zI rt), .int (zI ra), .ref m5, .ref m6, .int (zI bm), .ref m7, .ref m8, .ref m9, .ref m10, .long (zL ha)])), (m1, iA D 771 NW), (m2, iA D 3084 PA), (m3, iA D 771 AS), (m4, iA D 150 tb), (m5, iA D 250 st), (m6, iA D 250 bo), (m7, iA D 250 sh), (m8, iA D 36 f1), (m9, iA D 36 f2), (m10, iA D 2778 pk)]) [0, 1, 2, 3, 4, 5, 6, 7, 8, 9, 10] rfl (fun _ => rfl) (fun u5 hu5 => ?_)
      refine zz_ifb_eq hC 34 (dk DX6_count_0k 15 rfl) (by decide) (fun c6 => ?_) (fun c6 => ?_)
      · exfalso; omega
      · refine zz_iconst hC (dk DX6_count_0k 16 rfl) ?_
        exact zz_iret hC hQ hr (st, bo, sh, f1, f2, pk, bm, 1, ha, 0) (Or.inr ⟨(by omega), rfl⟩) rfl [0, 1, 2, 3, 4, 5, 6, 7, 8, 9, 10] rfl rfl ⟨Nat.le_refl _, Nat.le_refl _⟩ (dk DX6_count_0k 17 rfl)
    · refine zz_iconst hC (dk DX6_count_0k 11 rfl) ?_
      refine zz_goto hC 26 (dk DX6_count_0k 12 rfl) (by decide) ?_
      refine zz_callVi hC (wr := []) (c_X6_refused l D m0 m1 m2 m3 m4 m5 m6 m7 m8 m9 m10 NW PA AS tb st bo sh f1 f2 pk sv len sp rf nu rk rt ra bm ha n w K T U S F L 0 (by omega)) G_X6_47 H_X6_refused ⟨Nat.le_of_ble_eq_true rfl, Nat.le_of_ble_eq_true rfl⟩ rfl [0, 1, 2, 3, 4, 5, 6, 7, 8, 9, 10] [] rfl rfl ⟨rfl, rfl, by decide⟩ 0 6 ⟨rfl, rfl, rfl⟩ (As := [.int (zI 0)]) (rest := []) (Nat.le_of_ble_eq_true rfl) rfl ⟨Nat.le_of_ble_eq_true rfl, Nat.le_of_ble_eq_true rfl⟩ (dk DX6_count_0k 14 rfl) ⟨rfl, rfl⟩ (wb := fun u7 => [(m0, .inr (6, [.ref m1, .ref m2, .ref m3, .int (zI ((sv : Nat) : Int)), .int (zI 0), .ref m4, .int (zI ((len : Nat) : Int)), .int (zI ((sp : Nat) : Int)), .int (zI nu), .int (zI rk), .int (zI rt), .int (zI ra), .ref m5, .ref m6, .int (zI bm), .ref m7, .ref m8, .ref m9, .ref m10, .long (zL ha)])), (m1, iA D 771 NW), (m2, iA D 3084 PA), (m3, iA D 771 AS), (m4, iA D 150 tb), (m5, iA D 250 st), (m6, iA D 250 bo), (m7, iA D 250 sh), (m8, iA D 36 f1), (m9, iA D 36 f2), (m10, iA D 2778 pk)]) [0, 1, 2, 3, 4, 5, 6, 7, 8, 9, 10] rfl (fun _ => rfl) (fun u7 hu7 => ?_)
      refine zz_ifb_eq hC 34 (dk DX6_count_0k 15 rfl) (by decide) (fun c8 => ?_) (fun c8 => ?_)
      · refine zz_aload_n hC 0 (dk DX6_count_0k 18 rfl) rfl rfl ?_
        refine zz_callVv hC (wr := []) (c_X6_laysNow l D m0 m1 m2 m3 m4 m5 m6 m7 m8 m9 m10 NW PA AS tb st bo sh f1 f2 pk sv len sp 0 nu rk rt ra bm ha n w K T U S F L hN hg hs hw) G_X6_144 H_X6_laysNow ⟨Nat.le_of_ble_eq_true rfl, Nat.le_of_ble_eq_true rfl⟩ rfl [0, 1, 2, 3, 4, 5, 6, 7, 8, 9, 10] [] rfl rfl ⟨rfl, rfl, by decide⟩ 0 6 ⟨rfl, rfl, rfl⟩ (As := []) (rest := []) (Nat.le_of_ble_eq_true rfl) rfl ⟨Nat.le_of_ble_eq_true rfl, Nat.le_of_ble_eq_true rfl⟩ (dk DX6_count_0k 19 rfl) ⟨rfl, rfl⟩ (wb := fun u9 => [(m0, .inr (6, [.ref m1, .ref m2, .ref m3, .int (zI ((sv : Nat) : Int)), .int (zI 0), .ref m4, .int (zI ((len : Nat) : Int)), .int (zI ((sp : Nat) : Int)), .int (zI nu), .int (zI rk), .int (zI rt), .int (zI ra), .ref m5, .ref m6, .int (zI (zBN n K T U S F L w)), .ref m7, .ref m8, .ref m9, .ref m10, .long (zL ha)])), (m1, iA D 771 NW), (m2, iA D 3084 PA), (m3, iA D 771 AS), (m4, iA D 150 tb), (m5, iA D 250 u9.1), (m6, iA D 250 u9.2.1), (m7, iA D 250 u9.2.2), (m8, iA D 36 f1), (m9, iA D 36 f2), (m10, iA D 2778 pk)]) [0, 1, 2, 3, 4, 5, 6, 7, 8, 9, 10] rfl (fun _ => rfl) (fun u9 hu9 => ?_)
        have hu9r := mk_r hK hn hu9
        have hu9s := mk_st hu9
        refine zz_iconst hC (dk DX6_count_0k 20 rfl) ?_
        refine zz_istore_n hC (ls' := [(0, .ref m0), (1, .int (zI x)), (2, .int (zI v)), (3, .int (zI 0))]) [1, 2, 3, 0] (dk DX6_count_0k 21 rfl) rfl (by decide) rfl ?_
        refine zz_iconst hC (dk DX6_count_0k 22 rfl) ?_
        refine zz_istore hC (ls' := [(0, .ref m0), (1, .int (zI x)), (2, .int (zI v)), (3, .int (zI 0)), (4, .int (zI 0))]) [1, 2, 3, 4, 0] (dk DX6_count_0k 23 rfl) (by decide) rfl ?_
        have LP43 : ∀ (fuel43 : Nat) (i : Nat) (cc : Int), (i ≤ n) → (cc = zCt (zCo u9.1 (zCh n K U S) T S x v) i) → n - i < fuel43 → Z p l e ({ frames := 5, cells := 0, slots := 0, locals := 113 } : Room) s m args below meth cd A D Q 5 0 0 [(m0, .inr (6, [.ref m1, .ref m2, .ref m3, .int (zI ((sv : Nat) : Int)), .int (zI 0), .ref m4, .int (zI ((len : Nat) : Int)), .int (zI ((sp : Nat) : Int)), .int (zI nu), .int (zI rk), .int (zI rt), .int (zI ra), .ref m5, .ref m6, .int (zI (zBN n K T U S F L w)), .ref m7, .ref m8, .ref m9, .ref m10, .long (zL ha)])), (m1, iA D 771 NW), (m2, iA D 3084 PA), (m3, iA D 771 AS), (m4, iA D 150 tb), (m5, iA D 250 u9.1), (m6, iA D 250 u9.2.1), (m7, iA D 250 u9.2.2), (m8, iA D 36 f1), (m9, iA D 36 f2), (m10, iA D 2778 pk)] [(0, .ref m0), (1, .int (zI x)), (2, .int (zI v)), (3, .int (zI cc)), (4, .int (zI ((i : Nat) : Int)))] [] 43 := by
          intro fuel43
          induction fuel43 with
          | zero => intro i cc hi hc hfu; exact absurd hfu (Nat.not_lt_zero _)
          | succ fuel43 ih43 =>
            intro i cc hi hc hfu43
            refine zz_iload hC 4 (dk DX6_count_0k 24 rfl) rfl ?_
            refine zz_aload_n hC 0 (dk DX6_count_0k 25 rfl) rfl rfl ?_
            refine zz_get hC F_X6_7 0 rfl rfl (dk DX6_count_0k 26 rfl) ?_
            refine zz_bipush hC (dk DX6_count_0k 27 rfl) (by decide) ?_
            refine zz_iald hC 20 1 rfl rfl (by omega) (dk DX6_count_0k 28 rfl) ?_
            rw [hN.2.2.2.1]
            refine zz_icmp_ge hC 112 (dk DX6_count_0k 29 rfl) (by decide) ⟨⟨by omega, by omega⟩, ⟨by omega, by omega⟩⟩ (fun c10 => ?_) (fun c10 => ?_)
            · refine zz_iload_n hC 3 (dk DX6_count_1k 1 rfl) rfl rfl ?_
              exact zz_iret hC hQ hr (u9.1, u9.2.1, u9.2.2, f1, f2, pk, (zBN n K T U S F L w), 0, ha, cc) (Or.inl ⟨(by omega), rfl, (by show cc = _; rw [hc, show i = n by omega]; exact zCount_lk (mk_lk hu9))⟩) rfl [0, 1, 2, 3, 4, 5, 6, 7, 8, 9, 10] rfl rfl ⟨Nat.le_refl _, Nat.le_refl _⟩ (dk DX6_count_1k 2 rfl)
            · have hsti := hu9r.1 i (by omega)
              have hph9 := zPh_in (T := T) (S := S) (k := i)
              have hcl9 := cl_in (K := K) (U := U) hn hU hs (show i < n by omega)
              refine zz_iload_n hC 3 (dk DX6_count_0k 30 rfl) rfl rfl ?_
              refine zz_aload_n hC 0 (dk DX6_count_0k 31 rfl) rfl rfl ?_
              refine zz_get hC F_X6_22 0 rfl rfl (dk DX6_count_0k 32 rfl) ?_
              refine zz_iload hC 4 (dk DX6_count_0k 33 rfl) rfl ?_
              refine zz_iald hC i 5 rfl rfl (by omega) (dk DX6_count_0k 34 rfl) ?_
              refine zz_if_ne hC 103 (dk DX6_count_0k 35 rfl) (by decide) ⟨by omega, by omega⟩ (fun c11 => ?_) (fun c11 => ?_)
              · refine zz_iconst hC (dk DX6_count_0k 56 rfl) ?_
                refine zz_iadd hC (dk DX6_count_0k 57 rfl) ?_
                refine zz_istore_n hC (ls' := [(0, .ref m0), (1, .int (zI x)), (2, .int (zI v)), (3, .int (zI (cc + 0))), (4, .int (zI ((i : Nat) : Int)))]) [1, 2, 3, 0, 4] (dk DX6_count_0k 58 rfl) rfl (by decide) rfl ?_
                refine zz_iinc hC ((i + 1 : Nat) : Int) (ls' := [(0, .ref m0), (1, .int (zI x)), (2, .int (zI v)), (3, .int (zI (cc + 0))), (4, .int (zI ((i + 1 : Nat) : Int)))]) 4 [1, 2, 3, 4, 0] (dk DX6_count_0k 59 rfl) rfl (by omega) (by decide) rfl ?_
                refine zz_goto hC 43 (dk DX6_count_1k 0 rfl) (by decide) ?_
                refine zz_ls [0, 1, 2, 3, 4] rfl ?_
                exact ih43 (i + 1) (cc + 0) (by omega) (by rw [Int.add_zero]; exact zCt_k hc (by unfold zCo; simp only [decide_eq_true_eq]; omega)) (by omega)
              · refine zz_iload_n hC 1 (dk DX6_count_0k 36 rfl) rfl rfl ?_
                refine zz_iconst hC (dk DX6_count_0k 37 rfl) ?_
                refine zz_icmp_eq hC 84 (dk DX6_count_0k 38 rfl) (by decide) ⟨⟨by omega, by omega⟩, (by decide)⟩ (fun c12 => ?_) (fun c12 => ?_)
                · refine zz_iload_n hC 2 (dk DX6_count_0k 46 rfl) rfl rfl ?_
                  refine zz_iconst hC (dk DX6_count_0k 47 rfl) ?_
                  refine zz_icmp_eq hC 99 (dk DX6_count_0k 48 rfl) (by decide) ⟨⟨by omega, by omega⟩, (by decide)⟩ (fun c13 => ?_) (fun c13 => ?_)
                  · refine zz_iconst hC (dk DX6_count_0k 54 rfl) ?_
                    refine zz_goto hC 104 (dk DX6_count_0k 55 rfl) (by decide) ?_
                    refine zz_iadd hC (dk DX6_count_0k 57 rfl) ?_
                    refine zz_istore_n hC (ls' := [(0, .ref m0), (1, .int (zI x)), (2, .int (zI v)), (3, .int (zI (cc + 1))), (4, .int (zI ((i : Nat) : Int)))]) [1, 2, 3, 0, 4] (dk DX6_count_0k 58 rfl) rfl (by decide) rfl ?_
                    refine zz_iinc hC ((i + 1 : Nat) : Int) (ls' := [(0, .ref m0), (1, .int (zI x)), (2, .int (zI v)), (3, .int (zI (cc + 1))), (4, .int (zI ((i + 1 : Nat) : Int)))]) 4 [1, 2, 3, 4, 0] (dk DX6_count_0k 59 rfl) rfl (by omega) (by decide) rfl ?_
                    refine zz_goto hC 43 (dk DX6_count_1k 0 rfl) (by decide) ?_
                    refine zz_ls [0, 1, 2, 3, 4] rfl ?_
                    exact ih43 (i + 1) (cc + 1) (by omega) (zCt_s hc (by unfold zCo; exact decide_eq_true ⟨by omega, by omega, by omega⟩)) (by omega)
                  · refine zz_aload_n hC 0 (dk DX6_count_0k 49 rfl) rfl rfl ?_
                    refine zz_iload hC 4 (dk DX6_count_0k 50 rfl) rfl ?_
                    refine zz_pureVi hC (c_X6_classOf l D m0 m1 m2 m3 m4 m5 m6 m7 m8 m9 m10 NW PA AS tb u9.1 u9.2.1 u9.2.2 f1 f2 pk sv len sp 0 nu rk rt ra (zBN n K T U S F L w) ha n w K T U S F L i hN hg hs (by omega)) G_X6_154 H_X6_classOf ⟨Nat.le_of_ble_eq_true rfl, Nat.le_of_ble_eq_true rfl⟩ rfl [0, 1, 2, 3, 4, 5, 6, 7, 8, 9, 10] rfl rfl 0 6 ⟨rfl, rfl, rfl⟩ (As := [.int (zI ((i : Nat) : Int))]) (rest := [.int (zI cc)]) (Nat.le_of_ble_eq_true rfl) rfl ⟨Nat.le_of_ble_eq_true rfl, Nat.le_of_ble_eq_true rfl⟩ (dk DX6_count_0k 51 rfl) ⟨rfl, rfl⟩ ?_
                    have hf14 := cl_in (K := K) (U := U) hn hU hs (show i < n by omega)
                    refine zz_iload_n hC 2 (dk DX6_count_0k 52 rfl) rfl rfl ?_
                    refine zz_icmp_ne hC 103 (dk DX6_count_0k 53 rfl) (by decide) ⟨⟨by omega, by omega⟩, ⟨by omega, by omega⟩⟩ (fun c15 => ?_) (fun c15 => ?_)
                    · refine zz_iconst hC (dk DX6_count_0k 56 rfl) ?_
                      refine zz_iadd hC (dk DX6_count_0k 57 rfl) ?_
                      refine zz_istore_n hC (ls' := [(0, .ref m0), (1, .int (zI x)), (2, .int (zI v)), (3, .int (zI (cc + 0))), (4, .int (zI ((i : Nat) : Int)))]) [1, 2, 3, 0, 4] (dk DX6_count_0k 58 rfl) rfl (by decide) rfl ?_
                      refine zz_iinc hC ((i + 1 : Nat) : Int) (ls' := [(0, .ref m0), (1, .int (zI x)), (2, .int (zI v)), (3, .int (zI (cc + 0))), (4, .int (zI ((i + 1 : Nat) : Int)))]) 4 [1, 2, 3, 4, 0] (dk DX6_count_0k 59 rfl) rfl (by omega) (by decide) rfl ?_
                      refine zz_goto hC 43 (dk DX6_count_1k 0 rfl) (by decide) ?_
                      refine zz_ls [0, 1, 2, 3, 4] rfl ?_
                      exact ih43 (i + 1) (cc + 0) (by omega) (by rw [Int.add_zero]; exact zCt_k hc (by unfold zCo; simp only [decide_eq_true_eq]; omega)) (by omega)
                    · refine zz_iconst hC (dk DX6_count_0k 54 rfl) ?_
                      refine zz_goto hC 104 (dk DX6_count_0k 55 rfl) (by decide) ?_
                      refine zz_iadd hC (dk DX6_count_0k 57 rfl) ?_
                      refine zz_istore_n hC (ls' := [(0, .ref m0), (1, .int (zI x)), (2, .int (zI v)), (3, .int (zI (cc + 1))), (4, .int (zI ((i : Nat) : Int)))]) [1, 2, 3, 0, 4] (dk DX6_count_0k 58 rfl) rfl (by decide) rfl ?_
                      refine zz_iinc hC ((i + 1 : Nat) : Int) (ls' := [(0, .ref m0), (1, .int (zI x)), (2, .int (zI v)), (3, .int (zI (cc + 1))), (4, .int (zI ((i + 1 : Nat) : Int)))]) 4 [1, 2, 3, 4, 0] (dk DX6_count_0k 59 rfl) rfl (by omega) (by decide) rfl ?_
                      refine zz_goto hC 43 (dk DX6_count_1k 0 rfl) (by decide) ?_
                      refine zz_ls [0, 1, 2, 3, 4] rfl ?_
                      exact ih43 (i + 1) (cc + 1) (by omega) (zCt_s hc (by unfold zCo; exact decide_eq_true ⟨by omega, by omega, by omega⟩)) (by omega)
                · refine zz_aload_n hC 0 (dk DX6_count_0k 39 rfl) rfl rfl ?_
                  refine zz_iload hC 4 (dk DX6_count_0k 40 rfl) rfl ?_
                  refine zz_pureVi hC (c_X6_phase l D m0 m1 m2 m3 m4 m5 m6 m7 m8 m9 m10 NW PA AS tb u9.1 u9.2.1 u9.2.2 f1 f2 pk sv len sp 0 nu rk rt ra (zBN n K T U S F L w) ha n w K T U S F L i hN hg hs (by omega)) G_X6_113 H_X6_phase ⟨Nat.le_of_ble_eq_true rfl, Nat.le_of_ble_eq_true rfl⟩ rfl [0, 1, 2, 3, 4, 5, 6, 7, 8, 9, 10] rfl rfl 0 6 ⟨rfl, rfl, rfl⟩ (As := [.int (zI ((i : Nat) : Int))]) (rest := [.int (zI cc)]) (Nat.le_of_ble_eq_true rfl) rfl ⟨Nat.le_of_ble_eq_true rfl, Nat.le_of_ble_eq_true rfl⟩ (dk DX6_count_0k 41 rfl) ⟨rfl, rfl⟩ ?_
                  have hf16 := (show 0 ≤ zPh T S i ∧ zPh T S i < 360 from zPh_in)
                  refine zz_bipush hC (dk DX6_count_0k 42 rfl) (by decide) ?_
                  refine zz_idiv hC (dk DX6_count_0k 43 rfl) ⟨⟨⟨by omega, by omega⟩, (by decide)⟩, by omega, by omega⟩ ?_
                  refine zz_iload_n hC 1 (dk DX6_count_0k 44 rfl) rfl rfl ?_
                  refine zz_icmp_ne hC 103 (dk DX6_count_0k 45 rfl) (by decide) ⟨⟨by omega, by omega⟩, ⟨by omega, by omega⟩⟩ (fun c17 => ?_) (fun c17 => ?_)
                  · refine zz_iconst hC (dk DX6_count_0k 56 rfl) ?_
                    refine zz_iadd hC (dk DX6_count_0k 57 rfl) ?_
                    refine zz_istore_n hC (ls' := [(0, .ref m0), (1, .int (zI x)), (2, .int (zI v)), (3, .int (zI (cc + 0))), (4, .int (zI ((i : Nat) : Int)))]) [1, 2, 3, 0, 4] (dk DX6_count_0k 58 rfl) rfl (by decide) rfl ?_
                    refine zz_iinc hC ((i + 1 : Nat) : Int) (ls' := [(0, .ref m0), (1, .int (zI x)), (2, .int (zI v)), (3, .int (zI (cc + 0))), (4, .int (zI ((i + 1 : Nat) : Int)))]) 4 [1, 2, 3, 4, 0] (dk DX6_count_0k 59 rfl) rfl (by omega) (by decide) rfl ?_
                    refine zz_goto hC 43 (dk DX6_count_1k 0 rfl) (by decide) ?_
                    refine zz_ls [0, 1, 2, 3, 4] rfl ?_
                    exact ih43 (i + 1) (cc + 0) (by omega) (by rw [Int.add_zero]; exact zCt_k hc (by unfold zCo; simp only [decide_eq_true_eq]; omega)) (by omega)
                  · refine zz_iload_n hC 2 (dk DX6_count_0k 46 rfl) rfl rfl ?_
                    refine zz_iconst hC (dk DX6_count_0k 47 rfl) ?_
                    refine zz_icmp_eq hC 99 (dk DX6_count_0k 48 rfl) (by decide) ⟨⟨by omega, by omega⟩, (by decide)⟩ (fun c18 => ?_) (fun c18 => ?_)
                    · refine zz_iconst hC (dk DX6_count_0k 54 rfl) ?_
                      refine zz_goto hC 104 (dk DX6_count_0k 55 rfl) (by decide) ?_
                      refine zz_iadd hC (dk DX6_count_0k 57 rfl) ?_
                      refine zz_istore_n hC (ls' := [(0, .ref m0), (1, .int (zI x)), (2, .int (zI v)), (3, .int (zI (cc + 1))), (4, .int (zI ((i : Nat) : Int)))]) [1, 2, 3, 0, 4] (dk DX6_count_0k 58 rfl) rfl (by decide) rfl ?_
                      refine zz_iinc hC ((i + 1 : Nat) : Int) (ls' := [(0, .ref m0), (1, .int (zI x)), (2, .int (zI v)), (3, .int (zI (cc + 1))), (4, .int (zI ((i + 1 : Nat) : Int)))]) 4 [1, 2, 3, 4, 0] (dk DX6_count_0k 59 rfl) rfl (by omega) (by decide) rfl ?_
                      refine zz_goto hC 43 (dk DX6_count_1k 0 rfl) (by decide) ?_
                      refine zz_ls [0, 1, 2, 3, 4] rfl ?_
                      exact ih43 (i + 1) (cc + 1) (by omega) (zCt_s hc (by unfold zCo; exact decide_eq_true ⟨by omega, by omega, by omega⟩)) (by omega)
                    · refine zz_aload_n hC 0 (dk DX6_count_0k 49 rfl) rfl rfl ?_
                      refine zz_iload hC 4 (dk DX6_count_0k 50 rfl) rfl ?_
                      refine zz_pureVi hC (c_X6_classOf l D m0 m1 m2 m3 m4 m5 m6 m7 m8 m9 m10 NW PA AS tb u9.1 u9.2.1 u9.2.2 f1 f2 pk sv len sp 0 nu rk rt ra (zBN n K T U S F L w) ha n w K T U S F L i hN hg hs (by omega)) G_X6_154 H_X6_classOf ⟨Nat.le_of_ble_eq_true rfl, Nat.le_of_ble_eq_true rfl⟩ rfl [0, 1, 2, 3, 4, 5, 6, 7, 8, 9, 10] rfl rfl 0 6 ⟨rfl, rfl, rfl⟩ (As := [.int (zI ((i : Nat) : Int))]) (rest := [.int (zI cc)]) (Nat.le_of_ble_eq_true rfl) rfl ⟨Nat.le_of_ble_eq_true rfl, Nat.le_of_ble_eq_true rfl⟩ (dk DX6_count_0k 51 rfl) ⟨rfl, rfl⟩ ?_
                      have hf19 := cl_in (K := K) (U := U) hn hU hs (show i < n by omega)
                      refine zz_iload_n hC 2 (dk DX6_count_0k 52 rfl) rfl rfl ?_
                      refine zz_icmp_ne hC 103 (dk DX6_count_0k 53 rfl) (by decide) ⟨⟨by omega, by omega⟩, ⟨by omega, by omega⟩⟩ (fun c20 => ?_) (fun c20 => ?_)
                      · refine zz_iconst hC (dk DX6_count_0k 56 rfl) ?_
                        refine zz_iadd hC (dk DX6_count_0k 57 rfl) ?_
                        refine zz_istore_n hC (ls' := [(0, .ref m0), (1, .int (zI x)), (2, .int (zI v)), (3, .int (zI (cc + 0))), (4, .int (zI ((i : Nat) : Int)))]) [1, 2, 3, 0, 4] (dk DX6_count_0k 58 rfl) rfl (by decide) rfl ?_
                        refine zz_iinc hC ((i + 1 : Nat) : Int) (ls' := [(0, .ref m0), (1, .int (zI x)), (2, .int (zI v)), (3, .int (zI (cc + 0))), (4, .int (zI ((i + 1 : Nat) : Int)))]) 4 [1, 2, 3, 4, 0] (dk DX6_count_0k 59 rfl) rfl (by omega) (by decide) rfl ?_
                        refine zz_goto hC 43 (dk DX6_count_1k 0 rfl) (by decide) ?_
                        refine zz_ls [0, 1, 2, 3, 4] rfl ?_
                        exact ih43 (i + 1) (cc + 0) (by omega) (by rw [Int.add_zero]; exact zCt_k hc (by unfold zCo; simp only [decide_eq_true_eq]; omega)) (by omega)
                      · refine zz_iconst hC (dk DX6_count_0k 54 rfl) ?_
                        refine zz_goto hC 104 (dk DX6_count_0k 55 rfl) (by decide) ?_
                        refine zz_iadd hC (dk DX6_count_0k 57 rfl) ?_
                        refine zz_istore_n hC (ls' := [(0, .ref m0), (1, .int (zI x)), (2, .int (zI v)), (3, .int (zI (cc + 1))), (4, .int (zI ((i : Nat) : Int)))]) [1, 2, 3, 0, 4] (dk DX6_count_0k 58 rfl) rfl (by decide) rfl ?_
                        refine zz_iinc hC ((i + 1 : Nat) : Int) (ls' := [(0, .ref m0), (1, .int (zI x)), (2, .int (zI v)), (3, .int (zI (cc + 1))), (4, .int (zI ((i + 1 : Nat) : Int)))]) 4 [1, 2, 3, 4, 0] (dk DX6_count_0k 59 rfl) rfl (by omega) (by decide) rfl ?_
                        refine zz_goto hC 43 (dk DX6_count_1k 0 rfl) (by decide) ?_
                        refine zz_ls [0, 1, 2, 3, 4] rfl ?_
                        exact ih43 (i + 1) (cc + 1) (by omega) (zCt_s hc (by unfold zCo; exact decide_eq_true ⟨by omega, by omega, by omega⟩)) (by omega)
        refine zz_ls [0, 1, 2, 3, 4] rfl ?_
        exact LP43 _ 0 0 (by omega) rfl (Nat.lt_succ_self _)
      · exfalso; omega
set_option maxHeartbeats 4000000 in
set_option maxRecDepth 100000 in
theorem c_X6_fullest (l : Launch) (D : zG) (m0 : Nat) (m1 : Nat) (m2 : Nat) (m3 : Nat) (m4 : Nat) (m5 : Nat) (m6 : Nat) (m7 : Nat) (m8 : Nat) (m9 : Nat) (m10 : Nat) (NW : Nat → Int) (PA : Nat → Int) (AS : Nat → Int) (tb : Nat → Int) (st : Nat → Int) (bo : Nat → Int) (sh : Nat → Int) (f1 : Nat → Int) (f2 : Nat → Int) (pk : Nat → Int) (sv : Nat) (len : Nat) (sp : Nat) (rf : Int) (nu : Int) (rk : Int) (rt : Int) (ra : Int) (bm : Int) (ha : Int) (n : Nat) (w : Nat) (K : Nat → Int) (T : Nat → Int) (U : Nat → Int) (S : Nat → Int) (F : Nat → Int) (L : Nat → Int) (x : Int) (y : Int) (hN : zRow NW n K T U S F L w) (hg : zLog n K T U) (hs : zSet S) (hw : zWin w F L) (hri : (-2147483648 ≤ x ∧ x ≤ 2147483647) ∧ (-2147483648 ≤ y ∧ y ≤ 2147483647)) : CI (S := (Nat → Int) × (Nat → Int) × (Nat → Int) × (Nat → Int) × (Nat → Int) × (Nat → Int) × Int × Int × Int × Int) l yX6_fullest cX6_fullest 6 ((some .int)) ({ frames := 5, cells := 0, slots := 0, locals := 113 } : Room) D [.ref m0, .int (zI x), .int (zI y)] [(m0, .inr (6, [.ref m1, .ref m2, .ref m3, .int (zI ((sv : Nat) : Int)), .int (zI rf), .ref m4, .int (zI ((len : Nat) : Int)), .int (zI ((sp : Nat) : Int)), .int (zI nu), .int (zI rk), .int (zI rt), .int (zI ra), .ref m5, .ref m6, .int (zI bm), .ref m7, .ref m8, .ref m9, .ref m10, .long (zL ha)])), (m1, iA D 771 NW), (m2, iA D 3084 PA), (m3, iA D 771 AS), (m4, iA D 150 tb), (m5, iA D 250 st), (m6, iA D 250 bo), (m7, iA D 250 sh), (m8, iA D 36 f1), (m9, iA D 36 f2), (m10, iA D 2778 pk)] (fun u => zO1 (zRg x y) (u.2.2.2.2.2.2.2.1) (u.2.2.2.2.2.2.2.2.2 = zFull n K T U S F L w x y)) (fun u => u.2.2.2.2.2.2.2.2.2) (fun u => [(m0, .inr (6, [.ref m1, .ref m2, .ref m3, .int (zI ((sv : Nat) : Int)), .int (zI u.2.2.2.2.2.2.2.1), .ref m4, .int (zI ((len : Nat) : Int)), .int (zI ((sp : Nat) : Int)), .int (zI nu), .int (zI rk), .int (zI rt), .int (zI ra), .ref m5, .ref m6, .int (zI u.2.2.2.2.2.2.1), .ref m7, .ref m8, .ref m9, .ref m10, .long (zL u.2.2.2.2.2.2.2.2.1)])), (m1, iA D 771 NW), (m2, iA D 3084 PA), (m3, iA D 771 AS), (m4, iA D 150 tb), (m5, iA D 250 u.1), (m6, iA D 250 u.2.1), (m7, iA D 250 u.2.2.1), (m8, iA D 36 u.2.2.2.1), (m9, iA D 36 u.2.2.2.2.1), (m10, iA D 2778 u.2.2.2.2.2.1)]) := by
  refine CI_of (by decide) (Nat.le_of_ble_eq_true rfl) ?_
  intro p e s m args below meth cd A Q hQ hC hr hnm
  have hC : ZC p s m args meth cd A D 6 cX6_fullest RX6 := hC
  have hg0 := hg
  obtain ⟨hn, hK, hT, hU, hM⟩ := hg0
  show Z p l e ({ frames := 5, cells := 0, slots := 0, locals := 113 } : Room) s m args below meth cd A D Q 6 0 0 [(m0, .inr (6, [.ref m1, .ref m2, .ref m3, .int (zI ((sv : Nat) : Int)), .int (zI rf), .ref m4, .int (zI ((len : Nat) : Int)), .int (zI ((sp : Nat) : Int)), .int (zI nu), .int (zI rk), .int (zI rt), .int (zI ra), .ref m5, .ref m6, .int (zI bm), .ref m7, .ref m8, .ref m9, .ref m10, .long (zL ha)])), (m1, iA D 771 NW), (m2, iA D 3084 PA), (m3, iA D 771 AS), (m4, iA D 150 tb), (m5, iA D 250 st), (m6, iA D 250 bo), (m7, iA D 250 sh), (m8, iA D 36 f1), (m9, iA D 36 f2), (m10, iA D 2778 pk)] [(0, .ref m0), (1, .int (zI x)), (2, .int (zI y))] [] 0
  refine zz_aload_n hC 0 (dk DX6_fullest_0k 0 rfl) rfl rfl ?_
  refine zz_iload_n hC 1 (dk DX6_fullest_0k 1 rfl) rfl rfl ?_
  refine zz_iload_n hC 2 (dk DX6_fullest_0k 2 rfl) rfl rfl ?_
  refine zz_pureSi hC (c_X6_isRange l D x y (by omega)) G_X6_160 H_X6_isRange.2 ⟨Nat.le_of_ble_eq_true rfl, Nat.le_of_ble_eq_true rfl⟩ rfl [] rfl rfl (As := [.int (zI x), .int (zI y)]) (rest := [.ref m0]) (Nat.le_of_ble_eq_true rfl) rfl ⟨Nat.le_of_ble_eq_true rfl, Nat.le_of_ble_eq_true rfl⟩ (dk DX6_fullest_0k 3 rfl) ⟨rfl, rfl⟩ ?_
  refine zz_ifb_eq hC 13 (dk DX6_fullest_0k 4 rfl) (by decide) (fun c1 => ?_) (fun c1 => ?_)
  · refine zz_iconst hC (dk DX6_fullest_0k 7 rfl) ?_
    refine zz_callVi hC (wr := []) (c_X6_refused l D m0 m1 m2 m3 m4 m5 m6 m7 m8 m9 m10 NW PA AS tb st bo sh f1 f2 pk sv len sp rf nu rk rt ra bm ha n w K T U S F L 1 (by omega)) G_X6_47 H_X6_refused ⟨Nat.le_of_ble_eq_true rfl, Nat.le_of_ble_eq_true rfl⟩ rfl [0, 1, 2, 3, 4, 5, 6, 7, 8, 9, 10] [] rfl rfl ⟨rfl, rfl, by decide⟩ 0 6 ⟨rfl, rfl, rfl⟩ (As := [.int (zI 1)]) (rest := []) (Nat.le_of_ble_eq_true rfl) rfl ⟨Nat.le_of_ble_eq_true rfl, Nat.le_of_ble_eq_true rfl⟩ (dk DX6_fullest_0k 8 rfl) ⟨rfl, rfl⟩ (wb := fun u2 => [(m0, .inr (6, [.ref m1, .ref m2, .ref m3, .int (zI ((sv : Nat) : Int)), .int (zI 1), .ref m4, .int (zI ((len : Nat) : Int)), .int (zI ((sp : Nat) : Int)), .int (zI nu), .int (zI rk), .int (zI rt), .int (zI ra), .ref m5, .ref m6, .int (zI bm), .ref m7, .ref m8, .ref m9, .ref m10, .long (zL ha)])), (m1, iA D 771 NW), (m2, iA D 3084 PA), (m3, iA D 771 AS), (m4, iA D 150 tb), (m5, iA D 250 st), (m6, iA D 250 bo), (m7, iA D 250 sh), (m8, iA D 36 f1), (m9, iA D 36 f2), (m10, iA D 2778 pk)]) [0, 1, 2, 3, 4, 5, 6, 7, 8, 9, 10] rfl (fun _ => rfl) (fun u2 hu2 => ?_)
    refine zz_ifb_eq hC 22 (dk DX6_fullest_0k 9 rfl) (by decide) (fun c3 => ?_) (fun c3 => ?_)
    · exfalso; omega
    · refine zz_iconst hC (dk DX6_fullest_0k 10 rfl) ?_
      exact zz_iret hC hQ hr (st, bo, sh, f1, f2, pk, bm, 1, ha, 0) (Or.inr ⟨(by unfold zRg; omega), rfl⟩) rfl [0, 1, 2, 3, 4, 5, 6, 7, 8, 9, 10] rfl rfl ⟨Nat.le_refl _, Nat.le_refl _⟩ (dk DX6_fullest_0k 11 rfl)
  · refine zz_iconst hC (dk DX6_fullest_0k 5 rfl) ?_
    refine zz_goto hC 14 (dk DX6_fullest_0k 6 rfl) (by decide) ?_
    refine zz_callVi hC (wr := []) (c_X6_refused l D m0 m1 m2 m3 m4 m5 m6 m7 m8 m9 m10 NW PA AS tb st bo sh f1 f2 pk sv len sp rf nu rk rt ra bm ha n w K T U S F L 0 (by omega)) G_X6_47 H_X6_refused ⟨Nat.le_of_ble_eq_true rfl, Nat.le_of_ble_eq_true rfl⟩ rfl [0, 1, 2, 3, 4, 5, 6, 7, 8, 9, 10] [] rfl rfl ⟨rfl, rfl, by decide⟩ 0 6 ⟨rfl, rfl, rfl⟩ (As := [.int (zI 0)]) (rest := []) (Nat.le_of_ble_eq_true rfl) rfl ⟨Nat.le_of_ble_eq_true rfl, Nat.le_of_ble_eq_true rfl⟩ (dk DX6_fullest_0k 8 rfl) ⟨rfl, rfl⟩ (wb := fun u4 => [(m0, .inr (6, [.ref m1, .ref m2, .ref m3, .int (zI ((sv : Nat) : Int)), .int (zI 0), .ref m4, .int (zI ((len : Nat) : Int)), .int (zI ((sp : Nat) : Int)), .int (zI nu), .int (zI rk), .int (zI rt), .int (zI ra), .ref m5, .ref m6, .int (zI bm), .ref m7, .ref m8, .ref m9, .ref m10, .long (zL ha)])), (m1, iA D 771 NW), (m2, iA D 3084 PA), (m3, iA D 771 AS), (m4, iA D 150 tb), (m5, iA D 250 st), (m6, iA D 250 bo), (m7, iA D 250 sh), (m8, iA D 36 f1), (m9, iA D 36 f2), (m10, iA D 2778 pk)]) [0, 1, 2, 3, 4, 5, 6, 7, 8, 9, 10] rfl (fun _ => rfl) (fun u4 hu4 => ?_)
    refine zz_ifb_eq hC 22 (dk DX6_fullest_0k 9 rfl) (by decide) (fun c5 => ?_) (fun c5 => ?_)
    · refine zz_aload_n hC 0 (dk DX6_fullest_0k 12 rfl) rfl rfl ?_
      refine zz_callVv hC (wr := []) (c_X6_laysNow l D m0 m1 m2 m3 m4 m5 m6 m7 m8 m9 m10 NW PA AS tb st bo sh f1 f2 pk sv len sp 0 nu rk rt ra bm ha n w K T U S F L hN hg hs hw) G_X6_144 H_X6_laysNow ⟨Nat.le_of_ble_eq_true rfl, Nat.le_of_ble_eq_true rfl⟩ rfl [0, 1, 2, 3, 4, 5, 6, 7, 8, 9, 10] [] rfl rfl ⟨rfl, rfl, by decide⟩ 0 6 ⟨rfl, rfl, rfl⟩ (As := []) (rest := []) (Nat.le_of_ble_eq_true rfl) rfl ⟨Nat.le_of_ble_eq_true rfl, Nat.le_of_ble_eq_true rfl⟩ (dk DX6_fullest_0k 13 rfl) ⟨rfl, rfl⟩ (wb := fun u6 => [(m0, .inr (6, [.ref m1, .ref m2, .ref m3, .int (zI ((sv : Nat) : Int)), .int (zI 0), .ref m4, .int (zI ((len : Nat) : Int)), .int (zI ((sp : Nat) : Int)), .int (zI nu), .int (zI rk), .int (zI rt), .int (zI ra), .ref m5, .ref m6, .int (zI (zBN n K T U S F L w)), .ref m7, .ref m8, .ref m9, .ref m10, .long (zL ha)])), (m1, iA D 771 NW), (m2, iA D 3084 PA), (m3, iA D 771 AS), (m4, iA D 150 tb), (m5, iA D 250 u6.1), (m6, iA D 250 u6.2.1), (m7, iA D 250 u6.2.2), (m8, iA D 36 f1), (m9, iA D 36 f2), (m10, iA D 2778 pk)]) [0, 1, 2, 3, 4, 5, 6, 7, 8, 9, 10] rfl (fun _ => rfl) (fun u6 hu6 => ?_)
      have hu6r := mk_r hK hn hu6
      have hu6s := mk_st hu6
      refine zz_aload_n hC 0 (dk DX6_fullest_0k 14 rfl) rfl rfl ?_
      refine zz_aload_n hC 0 (dk DX6_fullest_0k 15 rfl) rfl rfl ?_
      refine zz_get hC F_X6_31 0 rfl rfl (dk DX6_fullest_0k 16 rfl) ?_
      refine zz_iload_n hC 1 (dk DX6_fullest_0k 17 rfl) rfl rfl ?_
      refine zz_iload_n hC 2 (dk DX6_fullest_0k 18 rfl) rfl rfl ?_
      refine zz_callVi hC (wr := []) (c_X6_fills_m8 l D m0 m1 m2 m3 m4 m5 m6 m7 m8 m9 m10 NW PA AS tb u6.1 u6.2.1 u6.2.2 f1 f2 pk sv len sp 0 nu rk rt ra (zBN n K T U S F L w) ha n w K T U S F L x y hN hg hs hu6r.1 (by omega)) G_X6_163 H_X6_fills ⟨Nat.le_of_ble_eq_true rfl, Nat.le_of_ble_eq_true rfl⟩ rfl [0, 1, 2, 3, 4, 5, 6, 7, 8, 9, 10] [] rfl rfl ⟨rfl, rfl, by decide⟩ 0 6 ⟨rfl, rfl, rfl⟩ (As := [.ref m8, .int (zI x), .int (zI y)]) (rest := []) (Nat.le_of_ble_eq_true rfl) rfl ⟨Nat.le_of_ble_eq_true rfl, Nat.le_of_ble_eq_true rfl⟩ (dk DX6_fullest_0k 19 rfl) ⟨rfl, rfl⟩ (wb := fun u7 => [(m0, .inr (6, [.ref m1, .ref m2, .ref m3, .int (zI ((sv : Nat) : Int)), .int (zI 0), .ref m4, .int (zI ((len : Nat) : Int)), .int (zI ((sp : Nat) : Int)), .int (zI nu), .int (zI rk), .int (zI rt), .int (zI ra), .ref m5, .ref m6, .int (zI (zBN n K T U S F L w)), .ref m7, .ref m8, .ref m9, .ref m10, .long (zL ha)])), (m1, iA D 771 NW), (m2, iA D 3084 PA), (m3, iA D 771 AS), (m4, iA D 150 tb), (m5, iA D 250 u6.1), (m6, iA D 250 u6.2.1), (m7, iA D 250 u6.2.2), (m8, iA D 36 u7), (m9, iA D 36 f2), (m10, iA D 2778 pk)]) [0, 1, 2, 3, 4, 5, 6, 7, 8, 9, 10] rfl (fun _ => rfl) (fun u7 hu7 => ?_)
      have ht9 : zCt (zAr u6.1 T x y) n = zTo n K T U S F L w x y := zTo_lk hu6s
      rw [ht9]
      have hb9 : ∀ b : Nat, b < 36 → u7 b = zBi n K T U S F L w x y b := fun b hb => (hu7 b hb).trans (zBi_lk hu6s b)
      have hr9 : ∀ b : Nat, b < 36 → 0 ≤ u7 b ∧ u7 b ≤ 250 := fun b hb => by rw [hb9 b hb]; have h8 : 0 ≤ zBi n K T U S F L w x y b ∧ zBi n K T U S F L w x y b ≤ n := zCt_in; omega
      have hto : 0 ≤ zTo n K T U S F L w x y ∧ zTo n K T U S F L w x y ≤ n := zCt_in
      refine zz_istore_n hC (ls' := [(0, .ref m0), (1, .int (zI x)), (2, .int (zI y)), (3, .int (zI (zTo n K T U S F L w x y)))]) [1, 2, 3, 0] (dk DX6_fullest_0k 20 rfl) rfl (by decide) rfl ?_
      refine zz_iconst hC (dk DX6_fullest_0k 21 rfl) ?_
      refine zz_istore hC (ls' := [(0, .ref m0), (1, .int (zI x)), (2, .int (zI y)), (3, .int (zI (zTo n K T U S F L w x y))), (4, .int (zI 0))]) [1, 2, 3, 4, 0] (dk DX6_fullest_0k 22 rfl) (by decide) rfl ?_
      refine zz_iconst hC (dk DX6_fullest_0k 23 rfl) ?_
      refine zz_istore hC (ls' := [(0, .ref m0), (1, .int (zI x)), (2, .int (zI y)), (3, .int (zI (zTo n K T U S F L w x y))), (4, .int (zI 0)), (5, .int (zI 1))]) [1, 2, 3, 4, 5, 0] (dk DX6_fullest_0k 24 rfl) (by decide) rfl ?_
      have LP43 : ∀ (fuel43 : Nat) (i : Nat) (bs : Nat), (1 ≤ i ∧ i ≤ 36) → (bs = zBest u7 i) → 36 - i < fuel43 → Z p l e ({ frames := 5, cells := 0, slots := 0, locals := 113 } : Room) s m args below meth cd A D Q 6 0 0 [(m0, .inr (6, [.ref m1, .ref m2, .ref m3, .int (zI ((sv : Nat) : Int)), .int (zI 0), .ref m4, .int (zI ((len : Nat) : Int)), .int (zI ((sp : Nat) : Int)), .int (zI nu), .int (zI rk), .int (zI rt), .int (zI ra), .ref m5, .ref m6, .int (zI (zBN n K T U S F L w)), .ref m7, .ref m8, .ref m9, .ref m10, .long (zL ha)])), (m1, iA D 771 NW), (m2, iA D 3084 PA), (m3, iA D 771 AS), (m4, iA D 150 tb), (m5, iA D 250 u6.1), (m6, iA D 250 u6.2.1), (m7, iA D 250 u6.2.2), (m8, iA D 36 u7), (m9, iA D 36 f2), (m10, iA D 2778 pk)] [(0, .ref m0), (1, .int (zI x)), (2, .int (zI y)), (3, .int (zI (zTo n K T U S F L w x y))), (4, .int (zI ((bs : Nat) : Int))), (5, .int (zI ((i : Nat) : Int)))] [] 43 := by
        intro fuel43
        induction fuel43 with
        | zero => intro i bs hi hbs hfu; exact absurd hfu (Nat.not_lt_zero _)
        | succ fuel43 ih43 =>
          intro i bs hi hbs hfu43
          have hbl : bs < i := by rw [hbs]; exact zBest_lt (by omega)
          refine zz_iload hC 5 (dk DX6_fullest_0k 25 rfl) rfl ?_
          refine zz_bipush hC (dk DX6_fullest_0k 26 rfl) (by decide) ?_
          refine zz_icmp_ge hC 82 (dk DX6_fullest_0k 27 rfl) (by decide) ⟨⟨by omega, by omega⟩, (by decide)⟩ (fun c8 => ?_) (fun c8 => ?_)
          · refine zz_iload_n hC 3 (dk DX6_fullest_0k 43 rfl) rfl rfl ?_
            refine zz_if_ne hC 90 (dk DX6_fullest_0k 44 rfl) (by decide) ⟨by omega, by omega⟩ (fun c9 => ?_) (fun c9 => ?_)
            · refine zz_iload hC 4 (dk DX6_fullest_0k 47 rfl) rfl ?_
              exact zz_iret hC hQ hr (u6.1, u6.2.1, u6.2.2, u7, f2, pk, (zBN n K T U S F L w), 0, ha, ((bs : Nat) : Int)) (Or.inl ⟨(by unfold zRg; omega), rfl, (by unfold zFull; rw [if_neg (by assumption)]; show ((bs : Nat) : Int) = _; rw [hbs, show i = 36 by omega, zBest_cg hb9])⟩) rfl [0, 1, 2, 3, 4, 5, 6, 7, 8, 9, 10] rfl rfl ⟨Nat.le_refl _, Nat.le_refl _⟩ (dk DX6_fullest_0k 48 rfl)
            · refine zz_iconst hC (dk DX6_fullest_0k 45 rfl) ?_
              refine zz_goto hC 92 (dk DX6_fullest_0k 46 rfl) (by decide) ?_
              exact zz_iret hC hQ hr (u6.1, u6.2.1, u6.2.2, u7, f2, pk, (zBN n K T U S F L w), 0, ha, (-1)) (Or.inl ⟨(by unfold zRg; omega), rfl, (by unfold zFull; rw [if_pos (by assumption)])⟩) rfl [0, 1, 2, 3, 4, 5, 6, 7, 8, 9, 10] rfl rfl ⟨Nat.le_refl _, Nat.le_refl _⟩ (dk DX6_fullest_0k 48 rfl)
          · have ha1 := hr9 i (by omega)
            have ha2 := hr9 bs (by omega)
            refine zz_aload_n hC 0 (dk DX6_fullest_0k 28 rfl) rfl rfl ?_
            refine zz_get hC F_X6_31 0 rfl rfl (dk DX6_fullest_0k 29 rfl) ?_
            refine zz_iload hC 5 (dk DX6_fullest_0k 30 rfl) rfl ?_
            refine zz_iald hC i 8 rfl rfl (by omega) (dk DX6_fullest_0k 31 rfl) ?_
            refine zz_aload_n hC 0 (dk DX6_fullest_0k 32 rfl) rfl rfl ?_
            refine zz_get hC F_X6_31 0 rfl rfl (dk DX6_fullest_0k 33 rfl) ?_
            refine zz_iload hC 4 (dk DX6_fullest_0k 34 rfl) rfl ?_
            refine zz_iald hC bs 8 rfl rfl (by omega) (dk DX6_fullest_0k 35 rfl) ?_
            refine zz_icmp_le hC 72 (dk DX6_fullest_0k 36 rfl) (by decide) ⟨⟨by omega, by omega⟩, ⟨by omega, by omega⟩⟩ (fun c10 => ?_) (fun c10 => ?_)
            · refine zz_iload hC 4 (dk DX6_fullest_0k 39 rfl) rfl ?_
              refine zz_istore hC (ls' := [(0, .ref m0), (1, .int (zI x)), (2, .int (zI y)), (3, .int (zI (zTo n K T U S F L w x y))), (4, .int (zI ((bs : Nat) : Int))), (5, .int (zI ((i : Nat) : Int)))]) [1, 2, 3, 4, 0, 5] (dk DX6_fullest_0k 40 rfl) (by decide) rfl ?_
              refine zz_iinc hC ((i + 1 : Nat) : Int) (ls' := [(0, .ref m0), (1, .int (zI x)), (2, .int (zI y)), (3, .int (zI (zTo n K T U S F L w x y))), (4, .int (zI ((bs : Nat) : Int))), (5, .int (zI ((i + 1 : Nat) : Int)))]) 5 [1, 2, 3, 4, 5, 0] (dk DX6_fullest_0k 41 rfl) rfl (by omega) (by decide) rfl ?_
              refine zz_goto hC 43 (dk DX6_fullest_0k 42 rfl) (by decide) ?_
              refine zz_ls [0, 1, 2, 3, 4, 5] rfl ?_
              exact ih43 (i + 1) bs (by omega) (by simp only [zBest]; rw [← hbs, if_neg (by omega)]) (by omega)
            · refine zz_iload hC 5 (dk DX6_fullest_0k 37 rfl) rfl ?_
              refine zz_goto hC 74 (dk DX6_fullest_0k 38 rfl) (by decide) ?_
              refine zz_istore hC (ls' := [(0, .ref m0), (1, .int (zI x)), (2, .int (zI y)), (3, .int (zI (zTo n K T U S F L w x y))), (4, .int (zI ((i : Nat) : Int))), (5, .int (zI ((i : Nat) : Int)))]) [1, 2, 3, 4, 0, 5] (dk DX6_fullest_0k 40 rfl) (by decide) rfl ?_
              refine zz_iinc hC ((i + 1 : Nat) : Int) (ls' := [(0, .ref m0), (1, .int (zI x)), (2, .int (zI y)), (3, .int (zI (zTo n K T U S F L w x y))), (4, .int (zI ((i : Nat) : Int))), (5, .int (zI ((i + 1 : Nat) : Int)))]) 5 [1, 2, 3, 4, 5, 0] (dk DX6_fullest_0k 41 rfl) rfl (by omega) (by decide) rfl ?_
              refine zz_goto hC 43 (dk DX6_fullest_0k 42 rfl) (by decide) ?_
              refine zz_ls [0, 1, 2, 3, 4, 5] rfl ?_
              exact ih43 (i + 1) i (by omega) (by simp only [zBest]; rw [← hbs, if_pos (by omega)]) (by omega)
      refine zz_ls [0, 1, 2, 3, 4, 5] rfl ?_
      exact LP43 _ 1 0 (by omega) (by simp [zBest]) (Nat.lt_succ_self _)
    · exfalso; omega
set_option maxHeartbeats 4000000 in
set_option maxRecDepth 100000 in
theorem c_X6_feature (l : Launch) (D : zG) (m0 : Nat) (m1 : Nat) (m2 : Nat) (m3 : Nat) (m4 : Nat) (m5 : Nat) (m6 : Nat) (m7 : Nat) (m8 : Nat) (m9 : Nat) (m10 : Nat) (NW : Nat → Int) (PA : Nat → Int) (AS : Nat → Int) (tb : Nat → Int) (st : Nat → Int) (bo : Nat → Int) (sh : Nat → Int) (f1 : Nat → Int) (f2 : Nat → Int) (pk : Nat → Int) (sv : Nat) (len : Nat) (sp : Nat) (rf : Int) (nu : Int) (rk : Int) (rt : Int) (ra : Int) (bm : Int) (ha : Int) (n : Nat) (w : Nat) (K : Nat → Int) (T : Nat → Int) (U : Nat → Int) (S : Nat → Int) (F : Nat → Int) (L : Nat → Int) (h : Int) (x : Int) (y : Int) (v : Int) (hN : zRow NW n K T U S F L w) (hg : zLog n K T U) (hs : zSet S) (hw : zWin w F L) (hri : (-2147483648 ≤ h ∧ h ≤ 2147483647) ∧ (-2147483648 ≤ x ∧ x ≤ 2147483647) ∧ (-2147483648 ≤ y ∧ y ≤ 2147483647) ∧ (-2147483648 ≤ v ∧ v ≤ 2147483647)) : CL (S := (Nat → Int) × (Nat → Int) × (Nat → Int) × (Nat → Int) × (Nat → Int) × (Nat → Int) × Int × Int × Int × Int) l yX6_feature cX6_feature 5 ((some .long)) ({ frames := 5, cells := 0, slots := 0, locals := 113 } : Room) D [.ref m0, .int (zI h), .int (zI x), .int (zI y), .int (zI v)] [(m0, .inr (6, [.ref m1, .ref m2, .ref m3, .int (zI ((sv : Nat) : Int)), .int (zI rf), .ref m4, .int (zI ((len : Nat) : Int)), .int (zI ((sp : Nat) : Int)), .int (zI nu), .int (zI rk), .int (zI rt), .int (zI ra), .ref m5, .ref m6, .int (zI bm), .ref m7, .ref m8, .ref m9, .ref m10, .long (zL ha)])), (m1, iA D 771 NW), (m2, iA D 3084 PA), (m3, iA D 771 AS), (m4, iA D 150 tb), (m5, iA D 250 st), (m6, iA D 250 bo), (m7, iA D 250 sh), (m8, iA D 36 f1), (m9, iA D 36 f2), (m10, iA D 2778 pk)] (fun u => zO1 ((0 ≤ h ∧ h ≤ 1) ∧ zRg x y ∧ 0 ≤ v ∧ v ≤ 5) (u.2.2.2.2.2.2.2.1) (u.2.2.2.2.2.2.2.2.2 = zFeat n K T U S F L w h x y v)) (fun u => u.2.2.2.2.2.2.2.2.2) (fun u => [(m0, .inr (6, [.ref m1, .ref m2, .ref m3, .int (zI ((sv : Nat) : Int)), .int (zI u.2.2.2.2.2.2.2.1), .ref m4, .int (zI ((len : Nat) : Int)), .int (zI ((sp : Nat) : Int)), .int (zI nu), .int (zI rk), .int (zI rt), .int (zI ra), .ref m5, .ref m6, .int (zI u.2.2.2.2.2.2.1), .ref m7, .ref m8, .ref m9, .ref m10, .long (zL u.2.2.2.2.2.2.2.2.1)])), (m1, iA D 771 NW), (m2, iA D 3084 PA), (m3, iA D 771 AS), (m4, iA D 150 tb), (m5, iA D 250 u.1), (m6, iA D 250 u.2.1), (m7, iA D 250 u.2.2.1), (m8, iA D 36 u.2.2.2.1), (m9, iA D 36 u.2.2.2.2.1), (m10, iA D 2778 u.2.2.2.2.2.1)]) := by
  refine CL_of (by decide) (Nat.le_of_ble_eq_true rfl) ?_
  intro p e s m args below meth cd A Q hQ hC hr hnm
  have hC : ZC p s m args meth cd A D 5 cX6_feature RX6 := hC
  have hg0 := hg
  obtain ⟨hn, hK, hT, hU, hM⟩ := hg0
  show Z p l e ({ frames := 5, cells := 0, slots := 0, locals := 113 } : Room) s m args below meth cd A D Q 5 0 0 [(m0, .inr (6, [.ref m1, .ref m2, .ref m3, .int (zI ((sv : Nat) : Int)), .int (zI rf), .ref m4, .int (zI ((len : Nat) : Int)), .int (zI ((sp : Nat) : Int)), .int (zI nu), .int (zI rk), .int (zI rt), .int (zI ra), .ref m5, .ref m6, .int (zI bm), .ref m7, .ref m8, .ref m9, .ref m10, .long (zL ha)])), (m1, iA D 771 NW), (m2, iA D 3084 PA), (m3, iA D 771 AS), (m4, iA D 150 tb), (m5, iA D 250 st), (m6, iA D 250 bo), (m7, iA D 250 sh), (m8, iA D 36 f1), (m9, iA D 36 f2), (m10, iA D 2778 pk)] [(0, .ref m0), (1, .int (zI h)), (2, .int (zI x)), (3, .int (zI y)), (4, .int (zI v))] [] 0
  refine zz_aload_n hC 0 (dk DX6_feature_0k 0 rfl) rfl rfl ?_
  refine zz_iload_n hC 1 (dk DX6_feature_0k 1 rfl) rfl rfl ?_
  refine zz_iconst hC (dk DX6_feature_0k 2 rfl) ?_
  refine zz_iconst hC (dk DX6_feature_0k 3 rfl) ?_
  refine zz_pureSi hC (c_X6_within l D h 0 1 (by omega)) G_X6_52 H_X6_within.2 ⟨Nat.le_of_ble_eq_true rfl, Nat.le_of_ble_eq_true rfl⟩ rfl [] rfl rfl (As := [.int (zI h), .int (zI 0), .int (zI 1)]) (rest := [.ref m0]) (Nat.le_of_ble_eq_true rfl) rfl ⟨Nat.le_of_ble_eq_true rfl, Nat.le_of_ble_eq_true rfl⟩ (dk DX6_feature_0k 4 rfl) ⟨rfl, rfl⟩ ?_
  refine zz_ifb_eq hC 32 (dk DX6_feature_0k 5 rfl) (by decide) (fun c1 => ?_) (fun c1 => ?_)
  · refine zz_iconst hC (dk DX6_feature_0k 17 rfl) ?_
    refine zz_callVi hC (wr := []) (c_X6_refused l D m0 m1 m2 m3 m4 m5 m6 m7 m8 m9 m10 NW PA AS tb st bo sh f1 f2 pk sv len sp rf nu rk rt ra bm ha n w K T U S F L 1 (by omega)) G_X6_47 H_X6_refused ⟨Nat.le_of_ble_eq_true rfl, Nat.le_of_ble_eq_true rfl⟩ rfl [0, 1, 2, 3, 4, 5, 6, 7, 8, 9, 10] [] rfl rfl ⟨rfl, rfl, by decide⟩ 0 6 ⟨rfl, rfl, rfl⟩ (As := [.int (zI 1)]) (rest := []) (Nat.le_of_ble_eq_true rfl) rfl ⟨Nat.le_of_ble_eq_true rfl, Nat.le_of_ble_eq_true rfl⟩ (dk DX6_feature_0k 18 rfl) ⟨rfl, rfl⟩ (wb := fun u2 => [(m0, .inr (6, [.ref m1, .ref m2, .ref m3, .int (zI ((sv : Nat) : Int)), .int (zI 1), .ref m4, .int (zI ((len : Nat) : Int)), .int (zI ((sp : Nat) : Int)), .int (zI nu), .int (zI rk), .int (zI rt), .int (zI ra), .ref m5, .ref m6, .int (zI bm), .ref m7, .ref m8, .ref m9, .ref m10, .long (zL ha)])), (m1, iA D 771 NW), (m2, iA D 3084 PA), (m3, iA D 771 AS), (m4, iA D 150 tb), (m5, iA D 250 st), (m6, iA D 250 bo), (m7, iA D 250 sh), (m8, iA D 36 f1), (m9, iA D 36 f2), (m10, iA D 2778 pk)]) [0, 1, 2, 3, 4, 5, 6, 7, 8, 9, 10] rfl (fun _ => rfl) (fun u2 hu2 => ?_)
    refine zz_ifb_eq hC 41 (dk DX6_feature_0k 19 rfl) (by decide) (fun c3 => ?_) (fun c3 => ?_)
    · exfalso; omega
    · refine zz_lconst hC 0 (dk DX6_feature_0k 20 rfl) (by decide) ?_
      exact zz_lret hC hQ hr (st, bo, sh, f1, f2, pk, bm, 1, ha, 0) (Or.inr ⟨(by unfold zRg; omega), rfl⟩) rfl [0, 1, 2, 3, 4, 5, 6, 7, 8, 9, 10] rfl rfl ⟨Nat.le_refl _, Nat.le_refl _⟩ (dk DX6_feature_0k 21 rfl)
  · refine zz_iload_n hC 2 (dk DX6_feature_0k 6 rfl) rfl rfl ?_
    refine zz_iload_n hC 3 (dk DX6_feature_0k 7 rfl) rfl rfl ?_
    refine zz_pureSi hC (c_X6_isRange l D x y (by omega)) G_X6_160 H_X6_isRange.2 ⟨Nat.le_of_ble_eq_true rfl, Nat.le_of_ble_eq_true rfl⟩ rfl [] rfl rfl (As := [.int (zI x), .int (zI y)]) (rest := [.ref m0]) (Nat.le_of_ble_eq_true rfl) rfl ⟨Nat.le_of_ble_eq_true rfl, Nat.le_of_ble_eq_true rfl⟩ (dk DX6_feature_0k 8 rfl) ⟨rfl, rfl⟩ ?_
    refine zz_ifb_eq hC 32 (dk DX6_feature_0k 9 rfl) (by decide) (fun c4 => ?_) (fun c4 => ?_)
    · refine zz_iconst hC (dk DX6_feature_0k 17 rfl) ?_
      refine zz_callVi hC (wr := []) (c_X6_refused l D m0 m1 m2 m3 m4 m5 m6 m7 m8 m9 m10 NW PA AS tb st bo sh f1 f2 pk sv len sp rf nu rk rt ra bm ha n w K T U S F L 1 (by omega)) G_X6_47 H_X6_refused ⟨Nat.le_of_ble_eq_true rfl, Nat.le_of_ble_eq_true rfl⟩ rfl [0, 1, 2, 3, 4, 5, 6, 7, 8, 9, 10] [] rfl rfl ⟨rfl, rfl, by decide⟩ 0 6 ⟨rfl, rfl, rfl⟩ (As := [.int (zI 1)]) (rest := []) (Nat.le_of_ble_eq_true rfl) rfl ⟨Nat.le_of_ble_eq_true rfl, Nat.le_of_ble_eq_true rfl⟩ (dk DX6_feature_0k 18 rfl) ⟨rfl, rfl⟩ (wb := fun u5 => [(m0, .inr (6, [.ref m1, .ref m2, .ref m3, .int (zI ((sv : Nat) : Int)), .int (zI 1), .ref m4, .int (zI ((len : Nat) : Int)), .int (zI ((sp : Nat) : Int)), .int (zI nu), .int (zI rk), .int (zI rt), .int (zI ra), .ref m5, .ref m6, .int (zI bm), .ref m7, .ref m8, .ref m9, .ref m10, .long (zL ha)])), (m1, iA D 771 NW), (m2, iA D 3084 PA), (m3, iA D 771 AS), (m4, iA D 150 tb), (m5, iA D 250 st), (m6, iA D 250 bo), (m7, iA D 250 sh), (m8, iA D 36 f1), (m9, iA D 36 f2), (m10, iA D 2778 pk)]) [0, 1, 2, 3, 4, 5, 6, 7, 8, 9, 10] rfl (fun _ => rfl) (fun u5 hu5 => ?_)
      refine zz_ifb_eq hC 41 (dk DX6_feature_0k 19 rfl) (by decide) (fun c6 => ?_) (fun c6 => ?_)
      · exfalso; omega
      · refine zz_lconst hC 0 (dk DX6_feature_0k 20 rfl) (by decide) ?_
        exact zz_lret hC hQ hr (st, bo, sh, f1, f2, pk, bm, 1, ha, 0) (Or.inr ⟨(by unfold zRg; omega), rfl⟩) rfl [0, 1, 2, 3, 4, 5, 6, 7, 8, 9, 10] rfl rfl ⟨Nat.le_refl _, Nat.le_refl _⟩ (dk DX6_feature_0k 21 rfl)
    · refine zz_iload hC 4 (dk DX6_feature_0k 10 rfl) rfl ?_
      refine zz_iconst hC (dk DX6_feature_0k 11 rfl) ?_
      refine zz_iconst hC (dk DX6_feature_0k 12 rfl) ?_
      refine zz_pureSi hC (c_X6_within l D v 0 5 (by omega)) G_X6_52 H_X6_within.2 ⟨Nat.le_of_ble_eq_true rfl, Nat.le_of_ble_eq_true rfl⟩ rfl [] rfl rfl (As := [.int (zI v), .int (zI 0), .int (zI 5)]) (rest := [.ref m0]) (Nat.le_of_ble_eq_true rfl) rfl ⟨Nat.le_of_ble_eq_true rfl, Nat.le_of_ble_eq_true rfl⟩ (dk DX6_feature_0k 13 rfl) ⟨rfl, rfl⟩ ?_
      refine zz_ifb_eq hC 32 (dk DX6_feature_0k 14 rfl) (by decide) (fun c7 => ?_) (fun c7 => ?_)
      · refine zz_iconst hC (dk DX6_feature_0k 17 rfl) ?_
        refine zz_callVi hC (wr := []) (c_X6_refused l D m0 m1 m2 m3 m4 m5 m6 m7 m8 m9 m10 NW PA AS tb st bo sh f1 f2 pk sv len sp rf nu rk rt ra bm ha n w K T U S F L 1 (by omega)) G_X6_47 H_X6_refused ⟨Nat.le_of_ble_eq_true rfl, Nat.le_of_ble_eq_true rfl⟩ rfl [0, 1, 2, 3, 4, 5, 6, 7, 8, 9, 10] [] rfl rfl ⟨rfl, rfl, by decide⟩ 0 6 ⟨rfl, rfl, rfl⟩ (As := [.int (zI 1)]) (rest := []) (Nat.le_of_ble_eq_true rfl) rfl ⟨Nat.le_of_ble_eq_true rfl, Nat.le_of_ble_eq_true rfl⟩ (dk DX6_feature_0k 18 rfl) ⟨rfl, rfl⟩ (wb := fun u8 => [(m0, .inr (6, [.ref m1, .ref m2, .ref m3, .int (zI ((sv : Nat) : Int)), .int (zI 1), .ref m4, .int (zI ((len : Nat) : Int)), .int (zI ((sp : Nat) : Int)), .int (zI nu), .int (zI rk), .int (zI rt), .int (zI ra), .ref m5, .ref m6, .int (zI bm), .ref m7, .ref m8, .ref m9, .ref m10, .long (zL ha)])), (m1, iA D 771 NW), (m2, iA D 3084 PA), (m3, iA D 771 AS), (m4, iA D 150 tb), (m5, iA D 250 st), (m6, iA D 250 bo), (m7, iA D 250 sh), (m8, iA D 36 f1), (m9, iA D 36 f2), (m10, iA D 2778 pk)]) [0, 1, 2, 3, 4, 5, 6, 7, 8, 9, 10] rfl (fun _ => rfl) (fun u8 hu8 => ?_)
        refine zz_ifb_eq hC 41 (dk DX6_feature_0k 19 rfl) (by decide) (fun c9 => ?_) (fun c9 => ?_)
        · exfalso; omega
        · refine zz_lconst hC 0 (dk DX6_feature_0k 20 rfl) (by decide) ?_
          exact zz_lret hC hQ hr (st, bo, sh, f1, f2, pk, bm, 1, ha, 0) (Or.inr ⟨(by unfold zRg; omega), rfl⟩) rfl [0, 1, 2, 3, 4, 5, 6, 7, 8, 9, 10] rfl rfl ⟨Nat.le_refl _, Nat.le_refl _⟩ (dk DX6_feature_0k 21 rfl)
      · refine zz_iconst hC (dk DX6_feature_0k 15 rfl) ?_
        refine zz_goto hC 33 (dk DX6_feature_0k 16 rfl) (by decide) ?_
        refine zz_callVi hC (wr := []) (c_X6_refused l D m0 m1 m2 m3 m4 m5 m6 m7 m8 m9 m10 NW PA AS tb st bo sh f1 f2 pk sv len sp rf nu rk rt ra bm ha n w K T U S F L 0 (by omega)) G_X6_47 H_X6_refused ⟨Nat.le_of_ble_eq_true rfl, Nat.le_of_ble_eq_true rfl⟩ rfl [0, 1, 2, 3, 4, 5, 6, 7, 8, 9, 10] [] rfl rfl ⟨rfl, rfl, by decide⟩ 0 6 ⟨rfl, rfl, rfl⟩ (As := [.int (zI 0)]) (rest := []) (Nat.le_of_ble_eq_true rfl) rfl ⟨Nat.le_of_ble_eq_true rfl, Nat.le_of_ble_eq_true rfl⟩ (dk DX6_feature_0k 18 rfl) ⟨rfl, rfl⟩ (wb := fun u10 => [(m0, .inr (6, [.ref m1, .ref m2, .ref m3, .int (zI ((sv : Nat) : Int)), .int (zI 0), .ref m4, .int (zI ((len : Nat) : Int)), .int (zI ((sp : Nat) : Int)), .int (zI nu), .int (zI rk), .int (zI rt), .int (zI ra), .ref m5, .ref m6, .int (zI bm), .ref m7, .ref m8, .ref m9, .ref m10, .long (zL ha)])), (m1, iA D 771 NW), (m2, iA D 3084 PA), (m3, iA D 771 AS), (m4, iA D 150 tb), (m5, iA D 250 st), (m6, iA D 250 bo), (m7, iA D 250 sh), (m8, iA D 36 f1), (m9, iA D 36 f2), (m10, iA D 2778 pk)]) [0, 1, 2, 3, 4, 5, 6, 7, 8, 9, 10] rfl (fun _ => rfl) (fun u10 hu10 => ?_)
        refine zz_ifb_eq hC 41 (dk DX6_feature_0k 19 rfl) (by decide) (fun c11 => ?_) (fun c11 => ?_)
        · refine zz_aload_n hC 0 (dk DX6_feature_0k 22 rfl) rfl rfl ?_
          refine zz_callVv hC (wr := []) (c_X6_laysNow l D m0 m1 m2 m3 m4 m5 m6 m7 m8 m9 m10 NW PA AS tb st bo sh f1 f2 pk sv len sp 0 nu rk rt ra bm ha n w K T U S F L hN hg hs hw) G_X6_144 H_X6_laysNow ⟨Nat.le_of_ble_eq_true rfl, Nat.le_of_ble_eq_true rfl⟩ rfl [0, 1, 2, 3, 4, 5, 6, 7, 8, 9, 10] [] rfl rfl ⟨rfl, rfl, by decide⟩ 0 6 ⟨rfl, rfl, rfl⟩ (As := []) (rest := []) (Nat.le_of_ble_eq_true rfl) rfl ⟨Nat.le_of_ble_eq_true rfl, Nat.le_of_ble_eq_true rfl⟩ (dk DX6_feature_0k 23 rfl) ⟨rfl, rfl⟩ (wb := fun u12 => [(m0, .inr (6, [.ref m1, .ref m2, .ref m3, .int (zI ((sv : Nat) : Int)), .int (zI 0), .ref m4, .int (zI ((len : Nat) : Int)), .int (zI ((sp : Nat) : Int)), .int (zI nu), .int (zI rk), .int (zI rt), .int (zI ra), .ref m5, .ref m6, .int (zI (zBN n K T U S F L w)), .ref m7, .ref m8, .ref m9, .ref m10, .long (zL ha)])), (m1, iA D 771 NW), (m2, iA D 3084 PA), (m3, iA D 771 AS), (m4, iA D 150 tb), (m5, iA D 250 u12.1), (m6, iA D 250 u12.2.1), (m7, iA D 250 u12.2.2), (m8, iA D 36 f1), (m9, iA D 36 f2), (m10, iA D 2778 pk)]) [0, 1, 2, 3, 4, 5, 6, 7, 8, 9, 10] rfl (fun _ => rfl) (fun u12 hu12 => ?_)
          have hu12r := mk_r hK hn hu12
          have hu12s := mk_st hu12
          refine zz_aload_n hC 0 (dk DX6_feature_0k 24 rfl) rfl rfl ?_
          refine zz_iload_n hC 1 (dk DX6_feature_0k 25 rfl) rfl rfl ?_
          refine zz_iload_n hC 2 (dk DX6_feature_0k 26 rfl) rfl rfl ?_
          refine zz_iload_n hC 3 (dk DX6_feature_0k 27 rfl) rfl rfl ?_
          refine zz_iload hC 4 (dk DX6_feature_0k 28 rfl) rfl ?_
          refine zz_pureVl hC (c_X6_featureOf l D m0 m1 m2 m3 m4 m5 m6 m7 m8 m9 m10 NW PA AS tb u12.1 u12.2.1 u12.2.2 f1 f2 pk sv len sp 0 nu rk rt ra (zBN n K T U S F L w) ha n w K T U S F L h x y v hN hg hs hu12r.1 (by omega) (by omega) (by omega)) G_X6_167 H_X6_featureOf ⟨Nat.le_of_ble_eq_true rfl, Nat.le_of_ble_eq_true rfl⟩ rfl [0, 1, 2, 3, 4, 5, 6, 7, 8, 9, 10] rfl rfl 0 6 ⟨rfl, rfl, rfl⟩ (As := [.int (zI h), .int (zI x), .int (zI y), .int (zI v)]) (rest := []) (Nat.le_of_ble_eq_true rfl) rfl ⟨Nat.le_of_ble_eq_true rfl, Nat.le_of_ble_eq_true rfl⟩ (dk DX6_feature_0k 29 rfl) ⟨rfl, rfl⟩ ?_
          exact zz_lret hC hQ hr (u12.1, u12.2.1, u12.2.2, f1, f2, pk, (zBN n K T U S F L w), 0, ha, (zFe u12.1 T S U (zCh n K U S) x y h v n)) (Or.inl ⟨(by unfold zRg; omega), rfl, (zFeat_lk (mk_lk hu12))⟩) rfl [0, 1, 2, 3, 4, 5, 6, 7, 8, 9, 10] rfl rfl ⟨Nat.le_refl _, Nat.le_refl _⟩ (dk DX6_feature_0k 30 rfl)
        · exfalso; omega
set_option maxHeartbeats 4000000 in
set_option maxRecDepth 100000 in
theorem c_X6_patternOf (l : Launch) (D : zG) (m0 : Nat) (m1 : Nat) (m2 : Nat) (m3 : Nat) (m4 : Nat) (m5 : Nat) (m6 : Nat) (m7 : Nat) (m8 : Nat) (m9 : Nat) (m10 : Nat) (NW : Nat → Int) (PA : Nat → Int) (AS : Nat → Int) (tb : Nat → Int) (st : Nat → Int) (bo : Nat → Int) (sh : Nat → Int) (f1 : Nat → Int) (f2 : Nat → Int) (pk : Nat → Int) (sv : Nat) (len : Nat) (sp : Nat) (rf : Int) (nu : Int) (rk : Int) (rt : Int) (ra : Int) (bm : Int) (ha : Int) (n : Nat) (w : Nat) (K : Nat → Int) (T : Nat → Int) (U : Nat → Int) (S : Nat → Int) (F : Nat → Int) (L : Nat → Int) (z : Int) (hf1 : ∀ b : Nat, b < 36 → 0 ≤ f1 b ∧ f1 b ≤ 250) (hz : 0 ≤ z ∧ z ≤ 250) : CI (S := Unit) l yX6_patternOf cX6_patternOf 6 ((some .int)) ({ frames := 1, cells := 0, slots := 0, locals := 20 } : Room) D [.ref m0, .int (zI z)] [(m0, .inr (6, [.ref m1, .ref m2, .ref m3, .int (zI ((sv : Nat) : Int)), .int (zI rf), .ref m4, .int (zI ((len : Nat) : Int)), .int (zI ((sp : Nat) : Int)), .int (zI nu), .int (zI rk), .int (zI rt), .int (zI ra), .ref m5, .ref m6, .int (zI bm), .ref m7, .ref m8, .ref m9, .ref m10, .long (zL ha)])), (m1, iA D 771 NW), (m2, iA D 3084 PA), (m3, iA D 771 AS), (m4, iA D 150 tb), (m5, iA D 250 st), (m6, iA D 250 bo), (m7, iA D 250 sh), (m8, iA D 36 f1), (m9, iA D 36 f2), (m10, iA D 2778 pk)] (fun _ => True) (fun _ => (zPat f1 z)) (fun _ => [(m0, .inr (6, [.ref m1, .ref m2, .ref m3, .int (zI ((sv : Nat) : Int)), .int (zI rf), .ref m4, .int (zI ((len : Nat) : Int)), .int (zI ((sp : Nat) : Int)), .int (zI nu), .int (zI rk), .int (zI rt), .int (zI ra), .ref m5, .ref m6, .int (zI bm), .ref m7, .ref m8, .ref m9, .ref m10, .long (zL ha)])), (m1, iA D 771 NW), (m2, iA D 3084 PA), (m3, iA D 771 AS), (m4, iA D 150 tb), (m5, iA D 250 st), (m6, iA D 250 bo), (m7, iA D 250 sh), (m8, iA D 36 f1), (m9, iA D 36 f2), (m10, iA D 2778 pk)]) := by
  refine CI_of (by decide) (Nat.le_of_ble_eq_true rfl) ?_
  intro p e s m args below meth cd A Q hQ hC hr hnm
  have hC : ZC p s m args meth cd A D 6 cX6_patternOf RX6 := hC
  show Z p l e ({ frames := 1, cells := 0, slots := 0, locals := 20 } : Room) s m args below meth cd A D Q 6 0 0 [(m0, .inr (6, [.ref m1, .ref m2, .ref m3, .int (zI ((sv : Nat) : Int)), .int (zI rf), .ref m4, .int (zI ((len : Nat) : Int)), .int (zI ((sp : Nat) : Int)), .int (zI nu), .int (zI rk), .int (zI rt), .int (zI ra), .ref m5, .ref m6, .int (zI bm), .ref m7, .ref m8, .ref m9, .ref m10, .long (zL ha)])), (m1, iA D 771 NW), (m2, iA D 3084 PA), (m3, iA D 771 AS), (m4, iA D 150 tb), (m5, iA D 250 st), (m6, iA D 250 bo), (m7, iA D 250 sh), (m8, iA D 36 f1), (m9, iA D 36 f2), (m10, iA D 2778 pk)] [(0, .ref m0), (1, .int (zI z))] [] 0
  refine zz_iconst hC (dk DX6_patternOf_0k 0 rfl) ?_
  refine zz_istore_n hC (ls' := [(0, .ref m0), (1, .int (zI z)), (2, .int (zI 0))]) [1, 2, 0] (dk DX6_patternOf_0k 1 rfl) rfl (by decide) rfl ?_
  refine zz_iconst hC (dk DX6_patternOf_0k 2 rfl) ?_
  refine zz_istore_n hC (ls' := [(0, .ref m0), (1, .int (zI z)), (2, .int (zI 0)), (3, .int (zI 0))]) [1, 2, 3, 0] (dk DX6_patternOf_0k 3 rfl) rfl (by decide) rfl ?_
  refine zz_iconst hC (dk DX6_patternOf_0k 4 rfl) ?_
  refine zz_istore hC (ls' := [(0, .ref m0), (1, .int (zI z)), (2, .int (zI 0)), (3, .int (zI 0)), (4, .int (zI 0))]) [1, 2, 3, 4, 0] (dk DX6_patternOf_0k 5 rfl) (by decide) rfl ?_
  refine zz_iconst hC (dk DX6_patternOf_0k 6 rfl) ?_
  refine zz_istore hC (ls' := [(0, .ref m0), (1, .int (zI z)), (2, .int (zI 0)), (3, .int (zI 0)), (4, .int (zI 0)), (5, .int (zI 0))]) [1, 2, 3, 4, 5, 0] (dk DX6_patternOf_0k 7 rfl) (by decide) rfl ?_
  have LP10 : ∀ (fuel10 : Nat) (i : Nat) (a : Int) (b : Int) (c : Int), (i ≤ 36) → (a = zOn f1 i) → (b = zEv f1 i) → (c = zCt (fun b => decide (0 < f1 b)) i) → ((0 ≤ a ∧ a ≤ 250 * i) ∧ (0 ≤ b ∧ b ≤ 250 * i) ∧ 0 ≤ c ∧ c ≤ i) → 36 - i < fuel10 → Z p l e ({ frames := 1, cells := 0, slots := 0, locals := 20 } : Room) s m args below meth cd A D Q 6 0 0 [(m0, .inr (6, [.ref m1, .ref m2, .ref m3, .int (zI ((sv : Nat) : Int)), .int (zI rf), .ref m4, .int (zI ((len : Nat) : Int)), .int (zI ((sp : Nat) : Int)), .int (zI nu), .int (zI rk), .int (zI rt), .int (zI ra), .ref m5, .ref m6, .int (zI bm), .ref m7, .ref m8, .ref m9, .ref m10, .long (zL ha)])), (m1, iA D 771 NW), (m2, iA D 3084 PA), (m3, iA D 771 AS), (m4, iA D 150 tb), (m5, iA D 250 st), (m6, iA D 250 bo), (m7, iA D 250 sh), (m8, iA D 36 f1), (m9, iA D 36 f2), (m10, iA D 2778 pk)] [(0, .ref m0), (1, .int (zI z)), (2, .int (zI a)), (3, .int (zI b)), (4, .int (zI c)), (5, .int (zI ((i : Nat) : Int)))] [] 10 := by
    intro fuel10
    induction fuel10 with
    | zero => intro i a b c hi ho he hz9 hbd hfu; exact absurd hfu (Nat.not_lt_zero _)
    | succ fuel10 ih10 =>
      intro i a b c hi ho he hz9 hbd hfu10
      refine zz_iload hC 5 (dk DX6_patternOf_0k 8 rfl) rfl ?_
      refine zz_bipush hC (dk DX6_patternOf_0k 9 rfl) (by decide) ?_
      refine zz_icmp_ge hC 88 (dk DX6_patternOf_0k 10 rfl) (by decide) ⟨⟨by omega, by omega⟩, (by decide)⟩ (fun c1 => ?_) (fun c1 => ?_)
      · have hi36 : i = 36 := by omega
        subst hi36
        rw [zOn_36] at ho
        rw [zEv_36] at he
        have hz8 : c = zFi f1 36 := hz9
        refine zz_iload_n hC 1 (dk DX6_patternOf_0k 51 rfl) rfl rfl ?_
        refine zz_iload_n hC 2 (dk DX6_patternOf_0k 52 rfl) rfl rfl ?_
        refine zz_isub hC (dk DX6_patternOf_0k 53 rfl) ?_
        refine zz_istore hC (ls' := [(0, .ref m0), (1, .int (zI z)), (2, .int (zI a)), (3, .int (zI b)), (4, .int (zI c)), (5, .int (zI (z - a)))]) [1, 2, 3, 4, 5, 0] (dk DX6_patternOf_0k 54 rfl) (by decide) rfl ?_
        refine zz_iload_n hC 1 (dk DX6_patternOf_0k 55 rfl) rfl rfl ?_
        refine zz_bipush hC (dk DX6_patternOf_0k 56 rfl) (by decide) ?_
        refine zz_icmp_ge hC 101 (dk DX6_patternOf_0k 57 rfl) (by decide) ⟨⟨by omega, by omega⟩, (by decide)⟩ (fun c2 => ?_) (fun c2 => ?_)
        · refine zz_iload_n hC 2 (dk DX6_patternOf_1k 0 rfl) rfl rfl ?_
          refine zz_iload hC 5 (dk DX6_patternOf_1k 1 rfl) rfl ?_
          refine zz_icmp_le hC 111 (dk DX6_patternOf_1k 2 rfl) (by decide) ⟨⟨by omega, by omega⟩, ⟨by omega, by omega⟩⟩ (fun c3 => ?_) (fun c3 => ?_)
          · refine zz_iload hC 5 (dk DX6_patternOf_1k 5 rfl) rfl ?_
            refine zz_bipush hC (dk DX6_patternOf_1k 6 rfl) (by decide) ?_
            refine zz_imul hC (dk DX6_patternOf_1k 7 rfl) ?_
            refine zz_bipush hC (dk DX6_patternOf_1k 8 rfl) (by decide) ?_
            refine zz_iload_n hC 1 (dk DX6_patternOf_1k 9 rfl) rfl rfl ?_
            refine zz_imul hC (dk DX6_patternOf_1k 10 rfl) ?_
            refine zz_icmp_lt hC 125 (dk DX6_patternOf_1k 11 rfl) (by decide) ⟨⟨by omega, by omega⟩, ⟨by omega, by omega⟩⟩ (fun c4 => ?_) (fun c4 => ?_)
            · refine zz_iload_n hC 3 (dk DX6_patternOf_1k 14 rfl) rfl rfl ?_
              refine zz_bipush hC (dk DX6_patternOf_1k 15 rfl) (by decide) ?_
              refine zz_imul hC (dk DX6_patternOf_1k 16 rfl) ?_
              refine zz_bipush hC (dk DX6_patternOf_1k 17 rfl) (by decide) ?_
              refine zz_iload_n hC 1 (dk DX6_patternOf_1k 18 rfl) rfl rfl ?_
              refine zz_imul hC (dk DX6_patternOf_1k 19 rfl) ?_
              refine zz_icmp_lt hC 155 (dk DX6_patternOf_1k 20 rfl) (by decide) ⟨⟨by omega, by omega⟩, ⟨by omega, by omega⟩⟩ (fun c5 => ?_) (fun c5 => ?_)
              · refine zz_iload hC 4 (dk DX6_patternOf_1k 33 rfl) rfl ?_
                refine zz_bipush hC (dk DX6_patternOf_1k 34 rfl) (by decide) ?_
                refine zz_icmp_lt hC 166 (dk DX6_patternOf_1k 35 rfl) (by decide) ⟨⟨by omega, by omega⟩, (by decide)⟩ (fun c6 => ?_) (fun c6 => ?_)
                · refine zz_iconst hC (dk DX6_patternOf_1k 38 rfl) ?_
                  exact zz_iret hC hQ hr () trivial (by unfold zPat; rw [if_neg (by omega), if_neg (by omega), if_neg (by omega), if_neg (by omega)]) [0, 1, 2, 3, 4, 5, 6, 7, 8, 9, 10] rfl rfl ⟨Nat.le_refl _, Nat.le_refl _⟩ (dk DX6_patternOf_1k 39 rfl)
                · refine zz_iconst hC (dk DX6_patternOf_1k 36 rfl) ?_
                  refine zz_goto hC 167 (dk DX6_patternOf_1k 37 rfl) (by decide) ?_
                  exact zz_iret hC hQ hr () trivial (by unfold zPat; rw [if_neg (by omega), if_neg (by omega), if_neg (by omega), if_pos (by omega)]) [0, 1, 2, 3, 4, 5, 6, 7, 8, 9, 10] rfl rfl ⟨Nat.le_refl _, Nat.le_refl _⟩ (dk DX6_patternOf_1k 39 rfl)
              · refine zz_iload_n hC 2 (dk DX6_patternOf_1k 21 rfl) rfl rfl ?_
                refine zz_iload hC 5 (dk DX6_patternOf_1k 22 rfl) rfl ?_
                refine zz_isub hC (dk DX6_patternOf_1k 23 rfl) ?_
                refine zz_pureSi hC (c_X6_size l D (a - (z - a)) (by omega)) G_X6_122 H_X6_size.2 ⟨Nat.le_of_ble_eq_true rfl, Nat.le_of_ble_eq_true rfl⟩ rfl [] rfl rfl (As := [.int (zI (a - (z - a)))]) (rest := []) (Nat.le_of_ble_eq_true rfl) rfl ⟨Nat.le_of_ble_eq_true rfl, Nat.le_of_ble_eq_true rfl⟩ (dk DX6_patternOf_1k 24 rfl) ⟨rfl, rfl⟩ ?_
                refine zz_iconst hC (dk DX6_patternOf_1k 25 rfl) ?_
                refine zz_imul hC (dk DX6_patternOf_1k 26 rfl) ?_
                refine zz_iload_n hC 1 (dk DX6_patternOf_1k 27 rfl) rfl rfl ?_
                refine zz_icmp_gt hC 153 (dk DX6_patternOf_1k 28 rfl) (by decide) ⟨⟨by omega, by omega⟩, ⟨by omega, by omega⟩⟩ (fun c7 => ?_) (fun c7 => ?_)
                · refine zz_iconst hC (dk DX6_patternOf_1k 31 rfl) ?_
                  exact zz_iret hC hQ hr () trivial (by unfold zPat; rw [if_neg (by omega), if_neg (by omega), if_pos (by omega), if_neg (by omega)]) [0, 1, 2, 3, 4, 5, 6, 7, 8, 9, 10] rfl rfl ⟨Nat.le_refl _, Nat.le_refl _⟩ (dk DX6_patternOf_1k 32 rfl)
                · refine zz_iconst hC (dk DX6_patternOf_1k 29 rfl) ?_
                  refine zz_goto hC 154 (dk DX6_patternOf_1k 30 rfl) (by decide) ?_
                  exact zz_iret hC hQ hr () trivial (by unfold zPat; rw [if_neg (by omega), if_neg (by omega), if_pos (by omega), if_pos (by omega)]) [0, 1, 2, 3, 4, 5, 6, 7, 8, 9, 10] rfl rfl ⟨Nat.le_refl _, Nat.le_refl _⟩ (dk DX6_patternOf_1k 32 rfl)
            · refine zz_iconst hC (dk DX6_patternOf_1k 12 rfl) ?_
              exact zz_iret hC hQ hr () trivial (by unfold zPat; rw [if_neg (by omega), if_pos (by omega)]) [0, 1, 2, 3, 4, 5, 6, 7, 8, 9, 10] rfl rfl ⟨Nat.le_refl _, Nat.le_refl _⟩ (dk DX6_patternOf_1k 13 rfl)
          · refine zz_iload_n hC 2 (dk DX6_patternOf_1k 3 rfl) rfl rfl ?_
            refine zz_goto hC 113 (dk DX6_patternOf_1k 4 rfl) (by decide) ?_
            refine zz_bipush hC (dk DX6_patternOf_1k 6 rfl) (by decide) ?_
            refine zz_imul hC (dk DX6_patternOf_1k 7 rfl) ?_
            refine zz_bipush hC (dk DX6_patternOf_1k 8 rfl) (by decide) ?_
            refine zz_iload_n hC 1 (dk DX6_patternOf_1k 9 rfl) rfl rfl ?_
            refine zz_imul hC (dk DX6_patternOf_1k 10 rfl) ?_
            refine zz_icmp_lt hC 125 (dk DX6_patternOf_1k 11 rfl) (by decide) ⟨⟨by omega, by omega⟩, ⟨by omega, by omega⟩⟩ (fun c8 => ?_) (fun c8 => ?_)
            · refine zz_iload_n hC 3 (dk DX6_patternOf_1k 14 rfl) rfl rfl ?_
              refine zz_bipush hC (dk DX6_patternOf_1k 15 rfl) (by decide) ?_
              refine zz_imul hC (dk DX6_patternOf_1k 16 rfl) ?_
              refine zz_bipush hC (dk DX6_patternOf_1k 17 rfl) (by decide) ?_
              refine zz_iload_n hC 1 (dk DX6_patternOf_1k 18 rfl) rfl rfl ?_
              refine zz_imul hC (dk DX6_patternOf_1k 19 rfl) ?_
              refine zz_icmp_lt hC 155 (dk DX6_patternOf_1k 20 rfl) (by decide) ⟨⟨by omega, by omega⟩, ⟨by omega, by omega⟩⟩ (fun c9 => ?_) (fun c9 => ?_)
              · refine zz_iload hC 4 (dk DX6_patternOf_1k 33 rfl) rfl ?_
                refine zz_bipush hC (dk DX6_patternOf_1k 34 rfl) (by decide) ?_
                refine zz_icmp_lt hC 166 (dk DX6_patternOf_1k 35 rfl) (by decide) ⟨⟨by omega, by omega⟩, (by decide)⟩ (fun c10 => ?_) (fun c10 => ?_)
                · refine zz_iconst hC (dk DX6_patternOf_1k 38 rfl) ?_
                  exact zz_iret hC hQ hr () trivial (by unfold zPat; rw [if_neg (by omega), if_neg (by omega), if_neg (by omega), if_neg (by omega)]) [0, 1, 2, 3, 4, 5, 6, 7, 8, 9, 10] rfl rfl ⟨Nat.le_refl _, Nat.le_refl _⟩ (dk DX6_patternOf_1k 39 rfl)
                · refine zz_iconst hC (dk DX6_patternOf_1k 36 rfl) ?_
                  refine zz_goto hC 167 (dk DX6_patternOf_1k 37 rfl) (by decide) ?_
                  exact zz_iret hC hQ hr () trivial (by unfold zPat; rw [if_neg (by omega), if_neg (by omega), if_neg (by omega), if_pos (by omega)]) [0, 1, 2, 3, 4, 5, 6, 7, 8, 9, 10] rfl rfl ⟨Nat.le_refl _, Nat.le_refl _⟩ (dk DX6_patternOf_1k 39 rfl)
              · refine zz_iload_n hC 2 (dk DX6_patternOf_1k 21 rfl) rfl rfl ?_
                refine zz_iload hC 5 (dk DX6_patternOf_1k 22 rfl) rfl ?_
                refine zz_isub hC (dk DX6_patternOf_1k 23 rfl) ?_
                refine zz_pureSi hC (c_X6_size l D (a - (z - a)) (by omega)) G_X6_122 H_X6_size.2 ⟨Nat.le_of_ble_eq_true rfl, Nat.le_of_ble_eq_true rfl⟩ rfl [] rfl rfl (As := [.int (zI (a - (z - a)))]) (rest := []) (Nat.le_of_ble_eq_true rfl) rfl ⟨Nat.le_of_ble_eq_true rfl, Nat.le_of_ble_eq_true rfl⟩ (dk DX6_patternOf_1k 24 rfl) ⟨rfl, rfl⟩ ?_
                refine zz_iconst hC (dk DX6_patternOf_1k 25 rfl) ?_
                refine zz_imul hC (dk DX6_patternOf_1k 26 rfl) ?_
                refine zz_iload_n hC 1 (dk DX6_patternOf_1k 27 rfl) rfl rfl ?_
                refine zz_icmp_gt hC 153 (dk DX6_patternOf_1k 28 rfl) (by decide) ⟨⟨by omega, by omega⟩, ⟨by omega, by omega⟩⟩ (fun c11 => ?_) (fun c11 => ?_)
                · refine zz_iconst hC (dk DX6_patternOf_1k 31 rfl) ?_
                  exact zz_iret hC hQ hr () trivial (by unfold zPat; rw [if_neg (by omega), if_neg (by omega), if_pos (by omega), if_neg (by omega)]) [0, 1, 2, 3, 4, 5, 6, 7, 8, 9, 10] rfl rfl ⟨Nat.le_refl _, Nat.le_refl _⟩ (dk DX6_patternOf_1k 32 rfl)
                · refine zz_iconst hC (dk DX6_patternOf_1k 29 rfl) ?_
                  refine zz_goto hC 154 (dk DX6_patternOf_1k 30 rfl) (by decide) ?_
                  exact zz_iret hC hQ hr () trivial (by unfold zPat; rw [if_neg (by omega), if_neg (by omega), if_pos (by omega), if_pos (by omega)]) [0, 1, 2, 3, 4, 5, 6, 7, 8, 9, 10] rfl rfl ⟨Nat.le_refl _, Nat.le_refl _⟩ (dk DX6_patternOf_1k 32 rfl)
            · refine zz_iconst hC (dk DX6_patternOf_1k 12 rfl) ?_
              exact zz_iret hC hQ hr () trivial (by unfold zPat; rw [if_neg (by omega), if_pos (by omega)]) [0, 1, 2, 3, 4, 5, 6, 7, 8, 9, 10] rfl rfl ⟨Nat.le_refl _, Nat.le_refl _⟩ (dk DX6_patternOf_1k 13 rfl)
        · refine zz_iconst hC (dk DX6_patternOf_0k 58 rfl) ?_
          exact zz_iret hC hQ hr () trivial (by unfold zPat; rw [if_pos (by omega)]) [0, 1, 2, 3, 4, 5, 6, 7, 8, 9, 10] rfl rfl ⟨Nat.le_refl _, Nat.le_refl _⟩ (dk DX6_patternOf_0k 59 rfl)
      · have hfi := hf1 i (by omega)
        refine zz_iload_n hC 2 (dk DX6_patternOf_0k 11 rfl) rfl rfl ?_
        refine zz_iload hC 5 (dk DX6_patternOf_0k 12 rfl) rfl ?_
        refine zz_bipush hC (dk DX6_patternOf_0k 13 rfl) (by decide) ?_
        refine zz_icmp_ge hC 35 (dk DX6_patternOf_0k 14 rfl) (by decide) ⟨⟨by omega, by omega⟩, (by decide)⟩ (fun c12 => ?_) (fun c12 => ?_)
        · refine zz_iconst hC (dk DX6_patternOf_0k 20 rfl) ?_
          refine zz_iadd hC (dk DX6_patternOf_0k 21 rfl) ?_
          refine zz_istore_n hC (ls' := [(0, .ref m0), (1, .int (zI z)), (2, .int (zI (a + 0))), (3, .int (zI b)), (4, .int (zI c)), (5, .int (zI ((i : Nat) : Int)))]) [1, 2, 0, 3, 4, 5] (dk DX6_patternOf_0k 22 rfl) rfl (by decide) rfl ?_
          refine zz_iload_n hC 3 (dk DX6_patternOf_0k 23 rfl) rfl rfl ?_
          refine zz_iload hC 5 (dk DX6_patternOf_0k 24 rfl) rfl ?_
          refine zz_bipush hC (dk DX6_patternOf_0k 25 rfl) (by decide) ?_
          refine zz_idiv hC (dk DX6_patternOf_0k 26 rfl) ⟨⟨⟨by omega, by omega⟩, (by decide)⟩, by omega, by omega⟩ ?_
          refine zz_iconst hC (dk DX6_patternOf_0k 27 rfl) ?_
          refine zz_irem hC (dk DX6_patternOf_0k 28 rfl) ⟨⟨⟨by omega, by omega⟩, (by decide)⟩, by omega, by omega⟩ ?_
          refine zz_if_ne hC 59 (dk DX6_patternOf_0k 29 rfl) (by decide) ⟨by omega, by omega⟩ (fun c13 => ?_) (fun c13 => ?_)
          · refine zz_iconst hC (dk DX6_patternOf_0k 35 rfl) ?_
            refine zz_iadd hC (dk DX6_patternOf_0k 36 rfl) ?_
            refine zz_istore_n hC (ls' := [(0, .ref m0), (1, .int (zI z)), (2, .int (zI (a + 0))), (3, .int (zI (b + 0))), (4, .int (zI c)), (5, .int (zI ((i : Nat) : Int)))]) [1, 2, 3, 0, 4, 5] (dk DX6_patternOf_0k 37 rfl) rfl (by decide) rfl ?_
            refine zz_iload hC 4 (dk DX6_patternOf_0k 38 rfl) rfl ?_
            refine zz_aload_n hC 0 (dk DX6_patternOf_0k 39 rfl) rfl rfl ?_
            refine zz_get hC F_X6_31 0 rfl rfl (dk DX6_patternOf_0k 40 rfl) ?_
            refine zz_iload hC 5 (dk DX6_patternOf_0k 41 rfl) rfl ?_
            refine zz_iald hC i 8 rfl rfl (by omega) (dk DX6_patternOf_0k 42 rfl) ?_
            have hf14 := hf1 i (by omega)
            refine zz_if_le hC 78 (dk DX6_patternOf_0k 43 rfl) (by decide) ⟨by omega, by omega⟩ (fun c15 => ?_) (fun c15 => ?_)
            · refine zz_iconst hC (dk DX6_patternOf_0k 46 rfl) ?_
              refine zz_iadd hC (dk DX6_patternOf_0k 47 rfl) ?_
              refine zz_istore hC (ls' := [(0, .ref m0), (1, .int (zI z)), (2, .int (zI (a + 0))), (3, .int (zI (b + 0))), (4, .int (zI (c + 0))), (5, .int (zI ((i : Nat) : Int)))]) [1, 2, 3, 4, 0, 5] (dk DX6_patternOf_0k 48 rfl) (by decide) rfl ?_
              refine zz_iinc hC ((i + 1 : Nat) : Int) (ls' := [(0, .ref m0), (1, .int (zI z)), (2, .int (zI (a + 0))), (3, .int (zI (b + 0))), (4, .int (zI (c + 0))), (5, .int (zI ((i + 1 : Nat) : Int)))]) 5 [1, 2, 3, 4, 5, 0] (dk DX6_patternOf_0k 49 rfl) rfl (by omega) (by decide) rfl ?_
              refine zz_goto hC 10 (dk DX6_patternOf_0k 50 rfl) (by decide) ?_
              refine zz_ls [0, 1, 2, 3, 4, 5] rfl ?_
              exact ih10 (i + 1) (a + 0) (b + 0) (c + 0) (by omega) (on_s ho (by omega)) (ev_s he (by omega)) (by rw [Int.add_zero]; exact zCt_k hz9 (by rw [decide_eq_true_eq]; omega)) (by omega) (by omega)
            · refine zz_iconst hC (dk DX6_patternOf_0k 44 rfl) ?_
              refine zz_goto hC 79 (dk DX6_patternOf_0k 45 rfl) (by decide) ?_
              refine zz_iadd hC (dk DX6_patternOf_0k 47 rfl) ?_
              refine zz_istore hC (ls' := [(0, .ref m0), (1, .int (zI z)), (2, .int (zI (a + 0))), (3, .int (zI (b + 0))), (4, .int (zI (c + 1))), (5, .int (zI ((i : Nat) : Int)))]) [1, 2, 3, 4, 0, 5] (dk DX6_patternOf_0k 48 rfl) (by decide) rfl ?_
              refine zz_iinc hC ((i + 1 : Nat) : Int) (ls' := [(0, .ref m0), (1, .int (zI z)), (2, .int (zI (a + 0))), (3, .int (zI (b + 0))), (4, .int (zI (c + 1))), (5, .int (zI ((i + 1 : Nat) : Int)))]) 5 [1, 2, 3, 4, 5, 0] (dk DX6_patternOf_0k 49 rfl) rfl (by omega) (by decide) rfl ?_
              refine zz_goto hC 10 (dk DX6_patternOf_0k 50 rfl) (by decide) ?_
              refine zz_ls [0, 1, 2, 3, 4, 5] rfl ?_
              exact ih10 (i + 1) (a + 0) (b + 0) (c + 1) (by omega) (on_s ho (by omega)) (ev_s he (by omega)) (zCt_s hz9 (decide_eq_true (by omega))) (by omega) (by omega)
          · refine zz_aload_n hC 0 (dk DX6_patternOf_0k 30 rfl) rfl rfl ?_
            refine zz_get hC F_X6_31 0 rfl rfl (dk DX6_patternOf_0k 31 rfl) ?_
            refine zz_iload hC 5 (dk DX6_patternOf_0k 32 rfl) rfl ?_
            refine zz_iald hC i 8 rfl rfl (by omega) (dk DX6_patternOf_0k 33 rfl) ?_
            have hf16 := hf1 i (by omega)
            refine zz_goto hC 60 (dk DX6_patternOf_0k 34 rfl) (by decide) ?_
            refine zz_iadd hC (dk DX6_patternOf_0k 36 rfl) ?_
            refine zz_istore_n hC (ls' := [(0, .ref m0), (1, .int (zI z)), (2, .int (zI (a + 0))), (3, .int (zI (b + (f1 i)))), (4, .int (zI c)), (5, .int (zI ((i : Nat) : Int)))]) [1, 2, 3, 0, 4, 5] (dk DX6_patternOf_0k 37 rfl) rfl (by decide) rfl ?_
            refine zz_iload hC 4 (dk DX6_patternOf_0k 38 rfl) rfl ?_
            refine zz_aload_n hC 0 (dk DX6_patternOf_0k 39 rfl) rfl rfl ?_
            refine zz_get hC F_X6_31 0 rfl rfl (dk DX6_patternOf_0k 40 rfl) ?_
            refine zz_iload hC 5 (dk DX6_patternOf_0k 41 rfl) rfl ?_
            refine zz_iald hC i 8 rfl rfl (by omega) (dk DX6_patternOf_0k 42 rfl) ?_
            have hf17 := hf1 i (by omega)
            refine zz_if_le hC 78 (dk DX6_patternOf_0k 43 rfl) (by decide) ⟨by omega, by omega⟩ (fun c18 => ?_) (fun c18 => ?_)
            · refine zz_iconst hC (dk DX6_patternOf_0k 46 rfl) ?_
              refine zz_iadd hC (dk DX6_patternOf_0k 47 rfl) ?_
              refine zz_istore hC (ls' := [(0, .ref m0), (1, .int (zI z)), (2, .int (zI (a + 0))), (3, .int (zI (b + (f1 i)))), (4, .int (zI (c + 0))), (5, .int (zI ((i : Nat) : Int)))]) [1, 2, 3, 4, 0, 5] (dk DX6_patternOf_0k 48 rfl) (by decide) rfl ?_
              refine zz_iinc hC ((i + 1 : Nat) : Int) (ls' := [(0, .ref m0), (1, .int (zI z)), (2, .int (zI (a + 0))), (3, .int (zI (b + (f1 i)))), (4, .int (zI (c + 0))), (5, .int (zI ((i + 1 : Nat) : Int)))]) 5 [1, 2, 3, 4, 5, 0] (dk DX6_patternOf_0k 49 rfl) rfl (by omega) (by decide) rfl ?_
              refine zz_goto hC 10 (dk DX6_patternOf_0k 50 rfl) (by decide) ?_
              refine zz_ls [0, 1, 2, 3, 4, 5] rfl ?_
              exact ih10 (i + 1) (a + 0) (b + (f1 i)) (c + 0) (by omega) (on_s ho (by omega)) (ev_s he (by omega)) (by rw [Int.add_zero]; exact zCt_k hz9 (by rw [decide_eq_true_eq]; omega)) (by omega) (by omega)
            · refine zz_iconst hC (dk DX6_patternOf_0k 44 rfl) ?_
              refine zz_goto hC 79 (dk DX6_patternOf_0k 45 rfl) (by decide) ?_
              refine zz_iadd hC (dk DX6_patternOf_0k 47 rfl) ?_
              refine zz_istore hC (ls' := [(0, .ref m0), (1, .int (zI z)), (2, .int (zI (a + 0))), (3, .int (zI (b + (f1 i)))), (4, .int (zI (c + 1))), (5, .int (zI ((i : Nat) : Int)))]) [1, 2, 3, 4, 0, 5] (dk DX6_patternOf_0k 48 rfl) (by decide) rfl ?_
              refine zz_iinc hC ((i + 1 : Nat) : Int) (ls' := [(0, .ref m0), (1, .int (zI z)), (2, .int (zI (a + 0))), (3, .int (zI (b + (f1 i)))), (4, .int (zI (c + 1))), (5, .int (zI ((i + 1 : Nat) : Int)))]) 5 [1, 2, 3, 4, 5, 0] (dk DX6_patternOf_0k 49 rfl) rfl (by omega) (by decide) rfl ?_
              refine zz_goto hC 10 (dk DX6_patternOf_0k 50 rfl) (by decide) ?_
              refine zz_ls [0, 1, 2, 3, 4, 5] rfl ?_
              exact ih10 (i + 1) (a + 0) (b + (f1 i)) (c + 1) (by omega) (on_s ho (by omega)) (ev_s he (by omega)) (zCt_s hz9 (decide_eq_true (by omega))) (by omega) (by omega)
        · refine zz_aload_n hC 0 (dk DX6_patternOf_0k 15 rfl) rfl rfl ?_
          refine zz_get hC F_X6_31 0 rfl rfl (dk DX6_patternOf_0k 16 rfl) ?_
          refine zz_iload hC 5 (dk DX6_patternOf_0k 17 rfl) rfl ?_
          refine zz_iald hC i 8 rfl rfl (by omega) (dk DX6_patternOf_0k 18 rfl) ?_
          have hf19 := hf1 i (by omega)
          refine zz_goto hC 36 (dk DX6_patternOf_0k 19 rfl) (by decide) ?_
          refine zz_iadd hC (dk DX6_patternOf_0k 21 rfl) ?_
          refine zz_istore_n hC (ls' := [(0, .ref m0), (1, .int (zI z)), (2, .int (zI (a + (f1 i)))), (3, .int (zI b)), (4, .int (zI c)), (5, .int (zI ((i : Nat) : Int)))]) [1, 2, 0, 3, 4, 5] (dk DX6_patternOf_0k 22 rfl) rfl (by decide) rfl ?_
          refine zz_iload_n hC 3 (dk DX6_patternOf_0k 23 rfl) rfl rfl ?_
          refine zz_iload hC 5 (dk DX6_patternOf_0k 24 rfl) rfl ?_
          refine zz_bipush hC (dk DX6_patternOf_0k 25 rfl) (by decide) ?_
          refine zz_idiv hC (dk DX6_patternOf_0k 26 rfl) ⟨⟨⟨by omega, by omega⟩, (by decide)⟩, by omega, by omega⟩ ?_
          refine zz_iconst hC (dk DX6_patternOf_0k 27 rfl) ?_
          refine zz_irem hC (dk DX6_patternOf_0k 28 rfl) ⟨⟨⟨by omega, by omega⟩, (by decide)⟩, by omega, by omega⟩ ?_
          refine zz_if_ne hC 59 (dk DX6_patternOf_0k 29 rfl) (by decide) ⟨by omega, by omega⟩ (fun c20 => ?_) (fun c20 => ?_)
          · refine zz_iconst hC (dk DX6_patternOf_0k 35 rfl) ?_
            refine zz_iadd hC (dk DX6_patternOf_0k 36 rfl) ?_
            refine zz_istore_n hC (ls' := [(0, .ref m0), (1, .int (zI z)), (2, .int (zI (a + (f1 i)))), (3, .int (zI (b + 0))), (4, .int (zI c)), (5, .int (zI ((i : Nat) : Int)))]) [1, 2, 3, 0, 4, 5] (dk DX6_patternOf_0k 37 rfl) rfl (by decide) rfl ?_
            refine zz_iload hC 4 (dk DX6_patternOf_0k 38 rfl) rfl ?_
            refine zz_aload_n hC 0 (dk DX6_patternOf_0k 39 rfl) rfl rfl ?_
            refine zz_get hC F_X6_31 0 rfl rfl (dk DX6_patternOf_0k 40 rfl) ?_
            refine zz_iload hC 5 (dk DX6_patternOf_0k 41 rfl) rfl ?_
            refine zz_iald hC i 8 rfl rfl (by omega) (dk DX6_patternOf_0k 42 rfl) ?_
            have hf21 := hf1 i (by omega)
            refine zz_if_le hC 78 (dk DX6_patternOf_0k 43 rfl) (by decide) ⟨by omega, by omega⟩ (fun c22 => ?_) (fun c22 => ?_)
            · refine zz_iconst hC (dk DX6_patternOf_0k 46 rfl) ?_
              refine zz_iadd hC (dk DX6_patternOf_0k 47 rfl) ?_
              refine zz_istore hC (ls' := [(0, .ref m0), (1, .int (zI z)), (2, .int (zI (a + (f1 i)))), (3, .int (zI (b + 0))), (4, .int (zI (c + 0))), (5, .int (zI ((i : Nat) : Int)))]) [1, 2, 3, 4, 0, 5] (dk DX6_patternOf_0k 48 rfl) (by decide) rfl ?_
              refine zz_iinc hC ((i + 1 : Nat) : Int) (ls' := [(0, .ref m0), (1, .int (zI z)), (2, .int (zI (a + (f1 i)))), (3, .int (zI (b + 0))), (4, .int (zI (c + 0))), (5, .int (zI ((i + 1 : Nat) : Int)))]) 5 [1, 2, 3, 4, 5, 0] (dk DX6_patternOf_0k 49 rfl) rfl (by omega) (by decide) rfl ?_
              refine zz_goto hC 10 (dk DX6_patternOf_0k 50 rfl) (by decide) ?_
              refine zz_ls [0, 1, 2, 3, 4, 5] rfl ?_
              exact ih10 (i + 1) (a + (f1 i)) (b + 0) (c + 0) (by omega) (on_s ho (by omega)) (ev_s he (by omega)) (by rw [Int.add_zero]; exact zCt_k hz9 (by rw [decide_eq_true_eq]; omega)) (by omega) (by omega)
            · refine zz_iconst hC (dk DX6_patternOf_0k 44 rfl) ?_
              refine zz_goto hC 79 (dk DX6_patternOf_0k 45 rfl) (by decide) ?_
              refine zz_iadd hC (dk DX6_patternOf_0k 47 rfl) ?_
              refine zz_istore hC (ls' := [(0, .ref m0), (1, .int (zI z)), (2, .int (zI (a + (f1 i)))), (3, .int (zI (b + 0))), (4, .int (zI (c + 1))), (5, .int (zI ((i : Nat) : Int)))]) [1, 2, 3, 4, 0, 5] (dk DX6_patternOf_0k 48 rfl) (by decide) rfl ?_
              refine zz_iinc hC ((i + 1 : Nat) : Int) (ls' := [(0, .ref m0), (1, .int (zI z)), (2, .int (zI (a + (f1 i)))), (3, .int (zI (b + 0))), (4, .int (zI (c + 1))), (5, .int (zI ((i + 1 : Nat) : Int)))]) 5 [1, 2, 3, 4, 5, 0] (dk DX6_patternOf_0k 49 rfl) rfl (by omega) (by decide) rfl ?_
              refine zz_goto hC 10 (dk DX6_patternOf_0k 50 rfl) (by decide) ?_
              refine zz_ls [0, 1, 2, 3, 4, 5] rfl ?_
              exact ih10 (i + 1) (a + (f1 i)) (b + 0) (c + 1) (by omega) (on_s ho (by omega)) (ev_s he (by omega)) (zCt_s hz9 (decide_eq_true (by omega))) (by omega) (by omega)
          · refine zz_aload_n hC 0 (dk DX6_patternOf_0k 30 rfl) rfl rfl ?_
            refine zz_get hC F_X6_31 0 rfl rfl (dk DX6_patternOf_0k 31 rfl) ?_
            refine zz_iload hC 5 (dk DX6_patternOf_0k 32 rfl) rfl ?_
            refine zz_iald hC i 8 rfl rfl (by omega) (dk DX6_patternOf_0k 33 rfl) ?_
            have hf23 := hf1 i (by omega)
            refine zz_goto hC 60 (dk DX6_patternOf_0k 34 rfl) (by decide) ?_
            refine zz_iadd hC (dk DX6_patternOf_0k 36 rfl) ?_
            refine zz_istore_n hC (ls' := [(0, .ref m0), (1, .int (zI z)), (2, .int (zI (a + (f1 i)))), (3, .int (zI (b + (f1 i)))), (4, .int (zI c)), (5, .int (zI ((i : Nat) : Int)))]) [1, 2, 3, 0, 4, 5] (dk DX6_patternOf_0k 37 rfl) rfl (by decide) rfl ?_
            refine zz_iload hC 4 (dk DX6_patternOf_0k 38 rfl) rfl ?_
            refine zz_aload_n hC 0 (dk DX6_patternOf_0k 39 rfl) rfl rfl ?_
            refine zz_get hC F_X6_31 0 rfl rfl (dk DX6_patternOf_0k 40 rfl) ?_
            refine zz_iload hC 5 (dk DX6_patternOf_0k 41 rfl) rfl ?_
            refine zz_iald hC i 8 rfl rfl (by omega) (dk DX6_patternOf_0k 42 rfl) ?_
            have hf24 := hf1 i (by omega)
            refine zz_if_le hC 78 (dk DX6_patternOf_0k 43 rfl) (by decide) ⟨by omega, by omega⟩ (fun c25 => ?_) (fun c25 => ?_)
            · refine zz_iconst hC (dk DX6_patternOf_0k 46 rfl) ?_
              refine zz_iadd hC (dk DX6_patternOf_0k 47 rfl) ?_
              refine zz_istore hC (ls' := [(0, .ref m0), (1, .int (zI z)), (2, .int (zI (a + (f1 i)))), (3, .int (zI (b + (f1 i)))), (4, .int (zI (c + 0))), (5, .int (zI ((i : Nat) : Int)))]) [1, 2, 3, 4, 0, 5] (dk DX6_patternOf_0k 48 rfl) (by decide) rfl ?_
              refine zz_iinc hC ((i + 1 : Nat) : Int) (ls' := [(0, .ref m0), (1, .int (zI z)), (2, .int (zI (a + (f1 i)))), (3, .int (zI (b + (f1 i)))), (4, .int (zI (c + 0))), (5, .int (zI ((i + 1 : Nat) : Int)))]) 5 [1, 2, 3, 4, 5, 0] (dk DX6_patternOf_0k 49 rfl) rfl (by omega) (by decide) rfl ?_
              refine zz_goto hC 10 (dk DX6_patternOf_0k 50 rfl) (by decide) ?_
              refine zz_ls [0, 1, 2, 3, 4, 5] rfl ?_
              exact ih10 (i + 1) (a + (f1 i)) (b + (f1 i)) (c + 0) (by omega) (on_s ho (by omega)) (ev_s he (by omega)) (by rw [Int.add_zero]; exact zCt_k hz9 (by rw [decide_eq_true_eq]; omega)) (by omega) (by omega)
            · refine zz_iconst hC (dk DX6_patternOf_0k 44 rfl) ?_
              refine zz_goto hC 79 (dk DX6_patternOf_0k 45 rfl) (by decide) ?_
              refine zz_iadd hC (dk DX6_patternOf_0k 47 rfl) ?_
              refine zz_istore hC (ls' := [(0, .ref m0), (1, .int (zI z)), (2, .int (zI (a + (f1 i)))), (3, .int (zI (b + (f1 i)))), (4, .int (zI (c + 1))), (5, .int (zI ((i : Nat) : Int)))]) [1, 2, 3, 4, 0, 5] (dk DX6_patternOf_0k 48 rfl) (by decide) rfl ?_
              refine zz_iinc hC ((i + 1 : Nat) : Int) (ls' := [(0, .ref m0), (1, .int (zI z)), (2, .int (zI (a + (f1 i)))), (3, .int (zI (b + (f1 i)))), (4, .int (zI (c + 1))), (5, .int (zI ((i + 1 : Nat) : Int)))]) 5 [1, 2, 3, 4, 5, 0] (dk DX6_patternOf_0k 49 rfl) rfl (by omega) (by decide) rfl ?_
              refine zz_goto hC 10 (dk DX6_patternOf_0k 50 rfl) (by decide) ?_
              refine zz_ls [0, 1, 2, 3, 4, 5] rfl ?_
              exact ih10 (i + 1) (a + (f1 i)) (b + (f1 i)) (c + 1) (by omega) (on_s ho (by omega)) (ev_s he (by omega)) (zCt_s hz9 (decide_eq_true (by omega))) (by omega) (by omega)
  refine zz_ls [0, 1, 2, 3, 4, 5] rfl ?_
  exact LP10 _ 0 0 0 0 (by omega) rfl rfl rfl (by omega) (Nat.lt_succ_self _)
set_option maxHeartbeats 4000000 in
set_option maxRecDepth 100000 in
theorem c_X6_pattern (l : Launch) (D : zG) (m0 : Nat) (m1 : Nat) (m2 : Nat) (m3 : Nat) (m4 : Nat) (m5 : Nat) (m6 : Nat) (m7 : Nat) (m8 : Nat) (m9 : Nat) (m10 : Nat) (NW : Nat → Int) (PA : Nat → Int) (AS : Nat → Int) (tb : Nat → Int) (st : Nat → Int) (bo : Nat → Int) (sh : Nat → Int) (f1 : Nat → Int) (f2 : Nat → Int) (pk : Nat → Int) (sv : Nat) (len : Nat) (sp : Nat) (rf : Int) (nu : Int) (rk : Int) (rt : Int) (ra : Int) (bm : Int) (ha : Int) (n : Nat) (w : Nat) (K : Nat → Int) (T : Nat → Int) (U : Nat → Int) (S : Nat → Int) (F : Nat → Int) (L : Nat → Int) (x : Int) (y : Int) (hN : zRow NW n K T U S F L w) (hg : zLog n K T U) (hs : zSet S) (hw : zWin w F L) (hri : (-2147483648 ≤ x ∧ x ≤ 2147483647) ∧ (-2147483648 ≤ y ∧ y ≤ 2147483647)) : CI (S := (Nat → Int) × (Nat → Int) × (Nat → Int) × (Nat → Int) × (Nat → Int) × (Nat → Int) × Int × Int × Int × Int) l yX6_pattern cX6_pattern 3 ((some .int)) ({ frames := 5, cells := 0, slots := 0, locals := 113 } : Room) D [.ref m0, .int (zI x), .int (zI y)] [(m0, .inr (6, [.ref m1, .ref m2, .ref m3, .int (zI ((sv : Nat) : Int)), .int (zI rf), .ref m4, .int (zI ((len : Nat) : Int)), .int (zI ((sp : Nat) : Int)), .int (zI nu), .int (zI rk), .int (zI rt), .int (zI ra), .ref m5, .ref m6, .int (zI bm), .ref m7, .ref m8, .ref m9, .ref m10, .long (zL ha)])), (m1, iA D 771 NW), (m2, iA D 3084 PA), (m3, iA D 771 AS), (m4, iA D 150 tb), (m5, iA D 250 st), (m6, iA D 250 bo), (m7, iA D 250 sh), (m8, iA D 36 f1), (m9, iA D 36 f2), (m10, iA D 2778 pk)] (fun u => zO1 (zRg x y) (u.2.2.2.2.2.2.2.1) (u.2.2.2.2.2.2.2.2.2 = zPattern n K T U S F L w x y)) (fun u => u.2.2.2.2.2.2.2.2.2) (fun u => [(m0, .inr (6, [.ref m1, .ref m2, .ref m3, .int (zI ((sv : Nat) : Int)), .int (zI u.2.2.2.2.2.2.2.1), .ref m4, .int (zI ((len : Nat) : Int)), .int (zI ((sp : Nat) : Int)), .int (zI nu), .int (zI rk), .int (zI rt), .int (zI ra), .ref m5, .ref m6, .int (zI u.2.2.2.2.2.2.1), .ref m7, .ref m8, .ref m9, .ref m10, .long (zL u.2.2.2.2.2.2.2.2.1)])), (m1, iA D 771 NW), (m2, iA D 3084 PA), (m3, iA D 771 AS), (m4, iA D 150 tb), (m5, iA D 250 u.1), (m6, iA D 250 u.2.1), (m7, iA D 250 u.2.2.1), (m8, iA D 36 u.2.2.2.1), (m9, iA D 36 u.2.2.2.2.1), (m10, iA D 2778 u.2.2.2.2.2.1)]) := by
  refine CI_of (by decide) (Nat.le_of_ble_eq_true rfl) ?_
  intro p e s m args below meth cd A Q hQ hC hr hnm
  have hC : ZC p s m args meth cd A D 3 cX6_pattern RX6 := hC
  have hg0 := hg
  obtain ⟨hn, hK, hT, hU, hM⟩ := hg0
  show Z p l e ({ frames := 5, cells := 0, slots := 0, locals := 113 } : Room) s m args below meth cd A D Q 3 0 0 [(m0, .inr (6, [.ref m1, .ref m2, .ref m3, .int (zI ((sv : Nat) : Int)), .int (zI rf), .ref m4, .int (zI ((len : Nat) : Int)), .int (zI ((sp : Nat) : Int)), .int (zI nu), .int (zI rk), .int (zI rt), .int (zI ra), .ref m5, .ref m6, .int (zI bm), .ref m7, .ref m8, .ref m9, .ref m10, .long (zL ha)])), (m1, iA D 771 NW), (m2, iA D 3084 PA), (m3, iA D 771 AS), (m4, iA D 150 tb), (m5, iA D 250 st), (m6, iA D 250 bo), (m7, iA D 250 sh), (m8, iA D 36 f1), (m9, iA D 36 f2), (m10, iA D 2778 pk)] [(0, .ref m0), (1, .int (zI x)), (2, .int (zI y))] [] 0
  refine zz_aload_n hC 0 (dk DX6_pattern_0k 0 rfl) rfl rfl ?_
  refine zz_iload_n hC 1 (dk DX6_pattern_0k 1 rfl) rfl rfl ?_
  refine zz_iload_n hC 2 (dk DX6_pattern_0k 2 rfl) rfl rfl ?_
  refine zz_pureSi hC (c_X6_isRange l D x y (by omega)) G_X6_160 H_X6_isRange.2 ⟨Nat.le_of_ble_eq_true rfl, Nat.le_of_ble_eq_true rfl⟩ rfl [] rfl rfl (As := [.int (zI x), .int (zI y)]) (rest := [.ref m0]) (Nat.le_of_ble_eq_true rfl) rfl ⟨Nat.le_of_ble_eq_true rfl, Nat.le_of_ble_eq_true rfl⟩ (dk DX6_pattern_0k 3 rfl) ⟨rfl, rfl⟩ ?_
  refine zz_ifb_eq hC 13 (dk DX6_pattern_0k 4 rfl) (by decide) (fun c1 => ?_) (fun c1 => ?_)
  · refine zz_iconst hC (dk DX6_pattern_0k 7 rfl) ?_
    refine zz_callVi hC (wr := []) (c_X6_refused l D m0 m1 m2 m3 m4 m5 m6 m7 m8 m9 m10 NW PA AS tb st bo sh f1 f2 pk sv len sp rf nu rk rt ra bm ha n w K T U S F L 1 (by omega)) G_X6_47 H_X6_refused ⟨Nat.le_of_ble_eq_true rfl, Nat.le_of_ble_eq_true rfl⟩ rfl [0, 1, 2, 3, 4, 5, 6, 7, 8, 9, 10] [] rfl rfl ⟨rfl, rfl, by decide⟩ 0 6 ⟨rfl, rfl, rfl⟩ (As := [.int (zI 1)]) (rest := []) (Nat.le_of_ble_eq_true rfl) rfl ⟨Nat.le_of_ble_eq_true rfl, Nat.le_of_ble_eq_true rfl⟩ (dk DX6_pattern_0k 8 rfl) ⟨rfl, rfl⟩ (wb := fun u2 => [(m0, .inr (6, [.ref m1, .ref m2, .ref m3, .int (zI ((sv : Nat) : Int)), .int (zI 1), .ref m4, .int (zI ((len : Nat) : Int)), .int (zI ((sp : Nat) : Int)), .int (zI nu), .int (zI rk), .int (zI rt), .int (zI ra), .ref m5, .ref m6, .int (zI bm), .ref m7, .ref m8, .ref m9, .ref m10, .long (zL ha)])), (m1, iA D 771 NW), (m2, iA D 3084 PA), (m3, iA D 771 AS), (m4, iA D 150 tb), (m5, iA D 250 st), (m6, iA D 250 bo), (m7, iA D 250 sh), (m8, iA D 36 f1), (m9, iA D 36 f2), (m10, iA D 2778 pk)]) [0, 1, 2, 3, 4, 5, 6, 7, 8, 9, 10] rfl (fun _ => rfl) (fun u2 hu2 => ?_)
    refine zz_ifb_eq hC 22 (dk DX6_pattern_0k 9 rfl) (by decide) (fun c3 => ?_) (fun c3 => ?_)
    · exfalso; omega
    · refine zz_iconst hC (dk DX6_pattern_0k 10 rfl) ?_
      exact zz_iret hC hQ hr (st, bo, sh, f1, f2, pk, bm, 1, ha, 0) (Or.inr ⟨(by unfold zRg; omega), rfl⟩) rfl [0, 1, 2, 3, 4, 5, 6, 7, 8, 9, 10] rfl rfl ⟨Nat.le_refl _, Nat.le_refl _⟩ (dk DX6_pattern_0k 11 rfl)
  · refine zz_iconst hC (dk DX6_pattern_0k 5 rfl) ?_
    refine zz_goto hC 14 (dk DX6_pattern_0k 6 rfl) (by decide) ?_
    refine zz_callVi hC (wr := []) (c_X6_refused l D m0 m1 m2 m3 m4 m5 m6 m7 m8 m9 m10 NW PA AS tb st bo sh f1 f2 pk sv len sp rf nu rk rt ra bm ha n w K T U S F L 0 (by omega)) G_X6_47 H_X6_refused ⟨Nat.le_of_ble_eq_true rfl, Nat.le_of_ble_eq_true rfl⟩ rfl [0, 1, 2, 3, 4, 5, 6, 7, 8, 9, 10] [] rfl rfl ⟨rfl, rfl, by decide⟩ 0 6 ⟨rfl, rfl, rfl⟩ (As := [.int (zI 0)]) (rest := []) (Nat.le_of_ble_eq_true rfl) rfl ⟨Nat.le_of_ble_eq_true rfl, Nat.le_of_ble_eq_true rfl⟩ (dk DX6_pattern_0k 8 rfl) ⟨rfl, rfl⟩ (wb := fun u4 => [(m0, .inr (6, [.ref m1, .ref m2, .ref m3, .int (zI ((sv : Nat) : Int)), .int (zI 0), .ref m4, .int (zI ((len : Nat) : Int)), .int (zI ((sp : Nat) : Int)), .int (zI nu), .int (zI rk), .int (zI rt), .int (zI ra), .ref m5, .ref m6, .int (zI bm), .ref m7, .ref m8, .ref m9, .ref m10, .long (zL ha)])), (m1, iA D 771 NW), (m2, iA D 3084 PA), (m3, iA D 771 AS), (m4, iA D 150 tb), (m5, iA D 250 st), (m6, iA D 250 bo), (m7, iA D 250 sh), (m8, iA D 36 f1), (m9, iA D 36 f2), (m10, iA D 2778 pk)]) [0, 1, 2, 3, 4, 5, 6, 7, 8, 9, 10] rfl (fun _ => rfl) (fun u4 hu4 => ?_)
    refine zz_ifb_eq hC 22 (dk DX6_pattern_0k 9 rfl) (by decide) (fun c5 => ?_) (fun c5 => ?_)
    · refine zz_aload_n hC 0 (dk DX6_pattern_0k 12 rfl) rfl rfl ?_
      refine zz_callVv hC (wr := []) (c_X6_laysNow l D m0 m1 m2 m3 m4 m5 m6 m7 m8 m9 m10 NW PA AS tb st bo sh f1 f2 pk sv len sp 0 nu rk rt ra bm ha n w K T U S F L hN hg hs hw) G_X6_144 H_X6_laysNow ⟨Nat.le_of_ble_eq_true rfl, Nat.le_of_ble_eq_true rfl⟩ rfl [0, 1, 2, 3, 4, 5, 6, 7, 8, 9, 10] [] rfl rfl ⟨rfl, rfl, by decide⟩ 0 6 ⟨rfl, rfl, rfl⟩ (As := []) (rest := []) (Nat.le_of_ble_eq_true rfl) rfl ⟨Nat.le_of_ble_eq_true rfl, Nat.le_of_ble_eq_true rfl⟩ (dk DX6_pattern_0k 13 rfl) ⟨rfl, rfl⟩ (wb := fun u6 => [(m0, .inr (6, [.ref m1, .ref m2, .ref m3, .int (zI ((sv : Nat) : Int)), .int (zI 0), .ref m4, .int (zI ((len : Nat) : Int)), .int (zI ((sp : Nat) : Int)), .int (zI nu), .int (zI rk), .int (zI rt), .int (zI ra), .ref m5, .ref m6, .int (zI (zBN n K T U S F L w)), .ref m7, .ref m8, .ref m9, .ref m10, .long (zL ha)])), (m1, iA D 771 NW), (m2, iA D 3084 PA), (m3, iA D 771 AS), (m4, iA D 150 tb), (m5, iA D 250 u6.1), (m6, iA D 250 u6.2.1), (m7, iA D 250 u6.2.2), (m8, iA D 36 f1), (m9, iA D 36 f2), (m10, iA D 2778 pk)]) [0, 1, 2, 3, 4, 5, 6, 7, 8, 9, 10] rfl (fun _ => rfl) (fun u6 hu6 => ?_)
      have hu6r := mk_r hK hn hu6
      have hu6s := mk_st hu6
      refine zz_aload_n hC 0 (dk DX6_pattern_0k 14 rfl) rfl rfl ?_
      refine zz_aload_n hC 0 (dk DX6_pattern_0k 15 rfl) rfl rfl ?_
      refine zz_aload_n hC 0 (dk DX6_pattern_0k 16 rfl) rfl rfl ?_
      refine zz_get hC F_X6_31 0 rfl rfl (dk DX6_pattern_0k 17 rfl) ?_
      refine zz_iload_n hC 1 (dk DX6_pattern_0k 18 rfl) rfl rfl ?_
      refine zz_iload_n hC 2 (dk DX6_pattern_0k 19 rfl) rfl rfl ?_
      refine zz_callVi hC (wr := []) (c_X6_fills_m8 l D m0 m1 m2 m3 m4 m5 m6 m7 m8 m9 m10 NW PA AS tb u6.1 u6.2.1 u6.2.2 f1 f2 pk sv len sp 0 nu rk rt ra (zBN n K T U S F L w) ha n w K T U S F L x y hN hg hs hu6r.1 (by omega)) G_X6_163 H_X6_fills ⟨Nat.le_of_ble_eq_true rfl, Nat.le_of_ble_eq_true rfl⟩ rfl [0, 1, 2, 3, 4, 5, 6, 7, 8, 9, 10] [] rfl rfl ⟨rfl, rfl, by decide⟩ 0 6 ⟨rfl, rfl, rfl⟩ (As := [.ref m8, .int (zI x), .int (zI y)]) (rest := [.ref m0]) (Nat.le_of_ble_eq_true rfl) rfl ⟨Nat.le_of_ble_eq_true rfl, Nat.le_of_ble_eq_true rfl⟩ (dk DX6_pattern_0k 20 rfl) ⟨rfl, rfl⟩ (wb := fun u7 => [(m0, .inr (6, [.ref m1, .ref m2, .ref m3, .int (zI ((sv : Nat) : Int)), .int (zI 0), .ref m4, .int (zI ((len : Nat) : Int)), .int (zI ((sp : Nat) : Int)), .int (zI nu), .int (zI rk), .int (zI rt), .int (zI ra), .ref m5, .ref m6, .int (zI (zBN n K T U S F L w)), .ref m7, .ref m8, .ref m9, .ref m10, .long (zL ha)])), (m1, iA D 771 NW), (m2, iA D 3084 PA), (m3, iA D 771 AS), (m4, iA D 150 tb), (m5, iA D 250 u6.1), (m6, iA D 250 u6.2.1), (m7, iA D 250 u6.2.2), (m8, iA D 36 u7), (m9, iA D 36 f2), (m10, iA D 2778 pk)]) [0, 1, 2, 3, 4, 5, 6, 7, 8, 9, 10] rfl (fun _ => rfl) (fun u7 hu7 => ?_)
      have ht9 : zCt (zAr u6.1 T x y) n = zTo n K T U S F L w x y := zTo_lk hu6s
      rw [ht9]
      have hb9 : ∀ b : Nat, b < 36 → u7 b = zBi n K T U S F L w x y b := fun b hb => (hu7 b hb).trans (zBi_lk hu6s b)
      have hr9 : ∀ b : Nat, b < 36 → 0 ≤ u7 b ∧ u7 b ≤ 250 := fun b hb => by rw [hb9 b hb]; have h8 : 0 ≤ zBi n K T U S F L w x y b ∧ zBi n K T U S F L w x y b ≤ n := zCt_in; omega
      have hto : 0 ≤ zTo n K T U S F L w x y ∧ zTo n K T U S F L w x y ≤ n := zCt_in
      refine zz_pureVi hC (c_X6_patternOf l D m0 m1 m2 m3 m4 m5 m6 m7 m8 m9 m10 NW PA AS tb u6.1 u6.2.1 u6.2.2 u7 f2 pk sv len sp 0 nu rk rt ra (zBN n K T U S F L w) ha n w K T U S F L (zTo n K T U S F L w x y) hr9 (by omega)) G_X6_171 H_X6_patternOf ⟨Nat.le_of_ble_eq_true rfl, Nat.le_of_ble_eq_true rfl⟩ rfl [0, 1, 2, 3, 4, 5, 6, 7, 8, 9, 10] rfl rfl 0 6 ⟨rfl, rfl, rfl⟩ (As := [.int (zI (zTo n K T U S F L w x y))]) (rest := []) (Nat.le_of_ble_eq_true rfl) rfl ⟨Nat.le_of_ble_eq_true rfl, Nat.le_of_ble_eq_true rfl⟩ (dk DX6_pattern_0k 21 rfl) ⟨rfl, rfl⟩ ?_
      exact zz_iret hC hQ hr (u6.1, u6.2.1, u6.2.2, u7, f2, pk, (zBN n K T U S F L w), 0, ha, (zPat u7 (zTo n K T U S F L w x y))) (Or.inl ⟨(by unfold zRg; omega), rfl, (by unfold zPattern; exact zPat_cg hb9)⟩) rfl [0, 1, 2, 3, 4, 5, 6, 7, 8, 9, 10] rfl rfl ⟨Nat.le_refl _, Nat.le_refl _⟩ (dk DX6_pattern_0k 22 rfl)
    · exfalso; omega
set_option maxHeartbeats 4000000 in
set_option maxRecDepth 100000 in
theorem c_X6_bursts (l : Launch) (D : zG) (m0 : Nat) (m1 : Nat) (m2 : Nat) (m3 : Nat) (m4 : Nat) (m5 : Nat) (m6 : Nat) (m7 : Nat) (m8 : Nat) (m9 : Nat) (m10 : Nat) (NW : Nat → Int) (PA : Nat → Int) (AS : Nat → Int) (tb : Nat → Int) (st : Nat → Int) (bo : Nat → Int) (sh : Nat → Int) (f1 : Nat → Int) (f2 : Nat → Int) (pk : Nat → Int) (sv : Nat) (len : Nat) (sp : Nat) (rf : Int) (nu : Int) (rk : Int) (rt : Int) (ra : Int) (bm : Int) (ha : Int) (n : Nat) (w : Nat) (K : Nat → Int) (T : Nat → Int) (U : Nat → Int) (S : Nat → Int) (F : Nat → Int) (L : Nat → Int) (hN : zRow NW n K T U S F L w) (hg : zLog n K T U) (hs : zSet S) (hw : zWin w F L) : CI (S := (Nat → Int) × (Nat → Int) × (Nat → Int) × (Nat → Int) × (Nat → Int) × (Nat → Int) × Int × Int × Int × Int) l yX6_bursts cX6_bursts 1 ((some .int)) ({ frames := 5, cells := 0, slots := 0, locals := 113 } : Room) D [.ref m0] [(m0, .inr (6, [.ref m1, .ref m2, .ref m3, .int (zI ((sv : Nat) : Int)), .int (zI rf), .ref m4, .int (zI ((len : Nat) : Int)), .int (zI ((sp : Nat) : Int)), .int (zI nu), .int (zI rk), .int (zI rt), .int (zI ra), .ref m5, .ref m6, .int (zI bm), .ref m7, .ref m8, .ref m9, .ref m10, .long (zL ha)])), (m1, iA D 771 NW), (m2, iA D 3084 PA), (m3, iA D 771 AS), (m4, iA D 150 tb), (m5, iA D 250 st), (m6, iA D 250 bo), (m7, iA D 250 sh), (m8, iA D 36 f1), (m9, iA D 36 f2), (m10, iA D 2778 pk)] (fun u => u.2.2.2.2.2.2.2.1 = 0 ∧ u.2.2.2.2.2.2.2.2.2 = zBN n K T U S F L w) (fun u => u.2.2.2.2.2.2.2.2.2) (fun u => [(m0, .inr (6, [.ref m1, .ref m2, .ref m3, .int (zI ((sv : Nat) : Int)), .int (zI u.2.2.2.2.2.2.2.1), .ref m4, .int (zI ((len : Nat) : Int)), .int (zI ((sp : Nat) : Int)), .int (zI nu), .int (zI rk), .int (zI rt), .int (zI ra), .ref m5, .ref m6, .int (zI u.2.2.2.2.2.2.1), .ref m7, .ref m8, .ref m9, .ref m10, .long (zL u.2.2.2.2.2.2.2.2.1)])), (m1, iA D 771 NW), (m2, iA D 3084 PA), (m3, iA D 771 AS), (m4, iA D 150 tb), (m5, iA D 250 u.1), (m6, iA D 250 u.2.1), (m7, iA D 250 u.2.2.1), (m8, iA D 36 u.2.2.2.1), (m9, iA D 36 u.2.2.2.2.1), (m10, iA D 2778 u.2.2.2.2.2.1)]) := by
  refine CI_of (by decide) (Nat.le_of_ble_eq_true rfl) ?_
  intro p e s m args below meth cd A Q hQ hC hr hnm
  have hC : ZC p s m args meth cd A D 1 cX6_bursts RX6 := hC
  have hg0 := hg
  obtain ⟨hn, hK, hT, hU, hM⟩ := hg0
  show Z p l e ({ frames := 5, cells := 0, slots := 0, locals := 113 } : Room) s m args below meth cd A D Q 1 0 0 [(m0, .inr (6, [.ref m1, .ref m2, .ref m3, .int (zI ((sv : Nat) : Int)), .int (zI rf), .ref m4, .int (zI ((len : Nat) : Int)), .int (zI ((sp : Nat) : Int)), .int (zI nu), .int (zI rk), .int (zI rt), .int (zI ra), .ref m5, .ref m6, .int (zI bm), .ref m7, .ref m8, .ref m9, .ref m10, .long (zL ha)])), (m1, iA D 771 NW), (m2, iA D 3084 PA), (m3, iA D 771 AS), (m4, iA D 150 tb), (m5, iA D 250 st), (m6, iA D 250 bo), (m7, iA D 250 sh), (m8, iA D 36 f1), (m9, iA D 36 f2), (m10, iA D 2778 pk)] [(0, .ref m0)] [] 0
  refine zz_aload_n hC 0 (dk DX6_bursts_0k 0 rfl) rfl rfl ?_
  refine zz_iconst hC (dk DX6_bursts_0k 1 rfl) ?_
  refine zz_put hC F_X6_40 fc_X6 rfl (tyX6_ok 4 (by decide)) 0 (ws' := [(m0, .inr (6, [.ref m1, .ref m2, .ref m3, .int (zI ((sv : Nat) : Int)), .int (zI 0), .ref m4, .int (zI ((len : Nat) : Int)), .int (zI ((sp : Nat) : Int)), .int (zI nu), .int (zI rk), .int (zI rt), .int (zI ra), .ref m5, .ref m6, .int (zI bm), .ref m7, .ref m8, .ref m9, .ref m10, .long (zL ha)])), (m1, iA D 771 NW), (m2, iA D 3084 PA), (m3, iA D 771 AS), (m4, iA D 150 tb), (m5, iA D 250 st), (m6, iA D 250 bo), (m7, iA D 250 sh), (m8, iA D 36 f1), (m9, iA D 36 f2), (m10, iA D 2778 pk)]) rfl rfl rfl (Nat.le_of_ble_eq_true rfl) rfl (dk DX6_bursts_0k 2 rfl) ?_
  refine zz_aload_n hC 0 (dk DX6_bursts_0k 3 rfl) rfl rfl ?_
  refine zz_callVv hC (wr := []) (c_X6_laysNow l D m0 m1 m2 m3 m4 m5 m6 m7 m8 m9 m10 NW PA AS tb st bo sh f1 f2 pk sv len sp 0 nu rk rt ra bm ha n w K T U S F L hN hg hs hw) G_X6_144 H_X6_laysNow ⟨Nat.le_of_ble_eq_true rfl, Nat.le_of_ble_eq_true rfl⟩ rfl [0, 1, 2, 3, 4, 5, 6, 7, 8, 9, 10] [] rfl rfl ⟨rfl, rfl, by decide⟩ 0 6 ⟨rfl, rfl, rfl⟩ (As := []) (rest := []) (Nat.le_of_ble_eq_true rfl) rfl ⟨Nat.le_of_ble_eq_true rfl, Nat.le_of_ble_eq_true rfl⟩ (dk DX6_bursts_0k 4 rfl) ⟨rfl, rfl⟩ (wb := fun u1 => [(m0, .inr (6, [.ref m1, .ref m2, .ref m3, .int (zI ((sv : Nat) : Int)), .int (zI 0), .ref m4, .int (zI ((len : Nat) : Int)), .int (zI ((sp : Nat) : Int)), .int (zI nu), .int (zI rk), .int (zI rt), .int (zI ra), .ref m5, .ref m6, .int (zI (zBN n K T U S F L w)), .ref m7, .ref m8, .ref m9, .ref m10, .long (zL ha)])), (m1, iA D 771 NW), (m2, iA D 3084 PA), (m3, iA D 771 AS), (m4, iA D 150 tb), (m5, iA D 250 u1.1), (m6, iA D 250 u1.2.1), (m7, iA D 250 u1.2.2), (m8, iA D 36 f1), (m9, iA D 36 f2), (m10, iA D 2778 pk)]) [0, 1, 2, 3, 4, 5, 6, 7, 8, 9, 10] rfl (fun _ => rfl) (fun u1 hu1 => ?_)
  have hu1r := mk_r hK hn hu1
  have hu1s := mk_st hu1
  refine zz_aload_n hC 0 (dk DX6_bursts_0k 5 rfl) rfl rfl ?_
  refine zz_get hC F_X6_138 0 rfl rfl (dk DX6_bursts_0k 6 rfl) ?_
  exact zz_iret hC hQ hr (u1.1, u1.2.1, u1.2.2, f1, f2, pk, (zBN n K T U S F L w), 0, ha, (zBN n K T U S F L w)) ⟨rfl, rfl⟩ rfl [0, 1, 2, 3, 4, 5, 6, 7, 8, 9, 10] rfl rfl ⟨Nat.le_refl _, Nat.le_refl _⟩ (dk DX6_bursts_0k 7 rfl)
set_option maxHeartbeats 4000000 in
set_option maxRecDepth 100000 in
theorem c_X6_burst (l : Launch) (D : zG) (m0 : Nat) (m1 : Nat) (m2 : Nat) (m3 : Nat) (m4 : Nat) (m5 : Nat) (m6 : Nat) (m7 : Nat) (m8 : Nat) (m9 : Nat) (m10 : Nat) (NW : Nat → Int) (PA : Nat → Int) (AS : Nat → Int) (tb : Nat → Int) (st : Nat → Int) (bo : Nat → Int) (sh : Nat → Int) (f1 : Nat → Int) (f2 : Nat → Int) (pk : Nat → Int) (sv : Nat) (len : Nat) (sp : Nat) (rf : Int) (nu : Int) (rk : Int) (rt : Int) (ra : Int) (bm : Int) (ha : Int) (n : Nat) (w : Nat) (K : Nat → Int) (T : Nat → Int) (U : Nat → Int) (S : Nat → Int) (F : Nat → Int) (L : Nat → Int) (x : Int) (v : Int) (hN : zRow NW n K T U S F L w) (hg : zLog n K T U) (hs : zSet S) (hw : zWin w F L) (hri : (-2147483648 ≤ x ∧ x ≤ 2147483647) ∧ (-2147483648 ≤ v ∧ v ≤ 2147483647)) : CL (S := (Nat → Int) × (Nat → Int) × (Nat → Int) × (Nat → Int) × (Nat → Int) × (Nat → Int) × Int × Int × Int × Int) l yX6_burst cX6_burst 3 ((some .long)) ({ frames := 5, cells := 0, slots := 0, locals := 113 } : Room) D [.ref m0, .int (zI x), .int (zI v)] [(m0, .inr (6, [.ref m1, .ref m2, .ref m3, .int (zI ((sv : Nat) : Int)), .int (zI rf), .ref m4, .int (zI ((len : Nat) : Int)), .int (zI ((sp : Nat) : Int)), .int (zI nu), .int (zI rk), .int (zI rt), .int (zI ra), .ref m5, .ref m6, .int (zI bm), .ref m7, .ref m8, .ref m9, .ref m10, .long (zL ha)])), (m1, iA D 771 NW), (m2, iA D 3084 PA), (m3, iA D 771 AS), (m4, iA D 150 tb), (m5, iA D 250 st), (m6, iA D 250 bo), (m7, iA D 250 sh), (m8, iA D 36 f1), (m9, iA D 36 f2), (m10, iA D 2778 pk)] (fun u => zO2 (0 ≤ x ∧ x < zBN n K T U S F L w) (0 ≤ v ∧ v ≤ 3) (u.2.2.2.2.2.2.2.1) (u.2.2.2.2.2.2.2.2.2 = zBst n K T U S F L w x v)) (fun u => u.2.2.2.2.2.2.2.2.2) (fun u => [(m0, .inr (6, [.ref m1, .ref m2, .ref m3, .int (zI ((sv : Nat) : Int)), .int (zI u.2.2.2.2.2.2.2.1), .ref m4, .int (zI ((len : Nat) : Int)), .int (zI ((sp : Nat) : Int)), .int (zI nu), .int (zI rk), .int (zI rt), .int (zI ra), .ref m5, .ref m6, .int (zI u.2.2.2.2.2.2.1), .ref m7, .ref m8, .ref m9, .ref m10, .long (zL u.2.2.2.2.2.2.2.2.1)])), (m1, iA D 771 NW), (m2, iA D 3084 PA), (m3, iA D 771 AS), (m4, iA D 150 tb), (m5, iA D 250 u.1), (m6, iA D 250 u.2.1), (m7, iA D 250 u.2.2.1), (m8, iA D 36 u.2.2.2.1), (m9, iA D 36 u.2.2.2.2.1), (m10, iA D 2778 u.2.2.2.2.2.1)]) := by
  refine CL_of (by decide) (Nat.le_of_ble_eq_true rfl) ?_
  intro p e s m args below meth cd A Q hQ hC hr hnm
  have hC : ZC p s m args meth cd A D 3 cX6_burst RX6 := hC
  have hg0 := hg
  obtain ⟨hn, hK, hT, hU, hM⟩ := hg0
  have hbn : 0 ≤ zBN n K T U S F L w ∧ zBN n K T U S F L w ≤ n := zBn_in
  show Z p l e ({ frames := 5, cells := 0, slots := 0, locals := 113 } : Room) s m args below meth cd A D Q 3 0 0 [(m0, .inr (6, [.ref m1, .ref m2, .ref m3, .int (zI ((sv : Nat) : Int)), .int (zI rf), .ref m4, .int (zI ((len : Nat) : Int)), .int (zI ((sp : Nat) : Int)), .int (zI nu), .int (zI rk), .int (zI rt), .int (zI ra), .ref m5, .ref m6, .int (zI bm), .ref m7, .ref m8, .ref m9, .ref m10, .long (zL ha)])), (m1, iA D 771 NW), (m2, iA D 3084 PA), (m3, iA D 771 AS), (m4, iA D 150 tb), (m5, iA D 250 st), (m6, iA D 250 bo), (m7, iA D 250 sh), (m8, iA D 36 f1), (m9, iA D 36 f2), (m10, iA D 2778 pk)] [(0, .ref m0), (1, .int (zI x)), (2, .int (zI v))] [] 0
  refine zz_aload_n hC 0 (dk DX6_burst_0k 0 rfl) rfl rfl ?_
  refine zz_callVv hC (wr := []) (c_X6_laysNow l D m0 m1 m2 m3 m4 m5 m6 m7 m8 m9 m10 NW PA AS tb st bo sh f1 f2 pk sv len sp rf nu rk rt ra bm ha n w K T U S F L hN hg hs hw) G_X6_144 H_X6_laysNow ⟨Nat.le_of_ble_eq_true rfl, Nat.le_of_ble_eq_true rfl⟩ rfl [0, 1, 2, 3, 4, 5, 6, 7, 8, 9, 10] [] rfl rfl ⟨rfl, rfl, by decide⟩ 0 6 ⟨rfl, rfl, rfl⟩ (As := []) (rest := []) (Nat.le_of_ble_eq_true rfl) rfl ⟨Nat.le_of_ble_eq_true rfl, Nat.le_of_ble_eq_true rfl⟩ (dk DX6_burst_0k 1 rfl) ⟨rfl, rfl⟩ (wb := fun u1 => [(m0, .inr (6, [.ref m1, .ref m2, .ref m3, .int (zI ((sv : Nat) : Int)), .int (zI rf), .ref m4, .int (zI ((len : Nat) : Int)), .int (zI ((sp : Nat) : Int)), .int (zI nu), .int (zI rk), .int (zI rt), .int (zI ra), .ref m5, .ref m6, .int (zI (zBN n K T U S F L w)), .ref m7, .ref m8, .ref m9, .ref m10, .long (zL ha)])), (m1, iA D 771 NW), (m2, iA D 3084 PA), (m3, iA D 771 AS), (m4, iA D 150 tb), (m5, iA D 250 u1.1), (m6, iA D 250 u1.2.1), (m7, iA D 250 u1.2.2), (m8, iA D 36 f1), (m9, iA D 36 f2), (m10, iA D 2778 pk)]) [0, 1, 2, 3, 4, 5, 6, 7, 8, 9, 10] rfl (fun _ => rfl) (fun u1 hu1 => ?_)
  have hu1r := mk_r hK hn hu1
  have hu1s := mk_st hu1
  refine zz_aload_n hC 0 (dk DX6_burst_0k 2 rfl) rfl rfl ?_
  refine zz_iload_n hC 1 (dk DX6_burst_0k 3 rfl) rfl rfl ?_
  refine zz_iconst hC (dk DX6_burst_0k 4 rfl) ?_
  refine zz_aload_n hC 0 (dk DX6_burst_0k 5 rfl) rfl rfl ?_
  refine zz_get hC F_X6_138 0 rfl rfl (dk DX6_burst_0k 6 rfl) ?_
  refine zz_iconst hC (dk DX6_burst_0k 7 rfl) ?_
  refine zz_isub hC (dk DX6_burst_0k 8 rfl) ?_
  refine zz_pureSi hC (c_X6_within l D x 0 ((zBN n K T U S F L w) - 1) (by omega)) G_X6_52 H_X6_within.2 ⟨Nat.le_of_ble_eq_true rfl, Nat.le_of_ble_eq_true rfl⟩ rfl [] rfl rfl (As := [.int (zI x), .int (zI 0), .int (zI ((zBN n K T U S F L w) - 1))]) (rest := [.ref m0]) (Nat.le_of_ble_eq_true rfl) rfl ⟨Nat.le_of_ble_eq_true rfl, Nat.le_of_ble_eq_true rfl⟩ (dk DX6_burst_0k 9 rfl) ⟨rfl, rfl⟩ ?_
  refine zz_ifb_ne hC 23 (dk DX6_burst_0k 10 rfl) (by decide) (fun c2 => ?_) (fun c2 => ?_)
  · refine zz_iload_n hC 2 (dk DX6_burst_0k 13 rfl) rfl rfl ?_
    refine zz_iconst hC (dk DX6_burst_0k 14 rfl) ?_
    refine zz_iconst hC (dk DX6_burst_0k 15 rfl) ?_
    refine zz_pureSi hC (c_X6_within l D v 0 3 (by omega)) G_X6_52 H_X6_within.2 ⟨Nat.le_of_ble_eq_true rfl, Nat.le_of_ble_eq_true rfl⟩ rfl [] rfl rfl (As := [.int (zI v), .int (zI 0), .int (zI 3)]) (rest := [.ref m0]) (Nat.le_of_ble_eq_true rfl) rfl ⟨Nat.le_of_ble_eq_true rfl, Nat.le_of_ble_eq_true rfl⟩ (dk DX6_burst_0k 16 rfl) ⟨rfl, rfl⟩ ?_
    refine zz_ifb_eq hC 36 (dk DX6_burst_0k 17 rfl) (by decide) (fun c3 => ?_) (fun c3 => ?_)
    · refine zz_iconst hC (dk DX6_burst_0k 20 rfl) ?_
      refine zz_callVi hC (wr := []) (c_X6_refused l D m0 m1 m2 m3 m4 m5 m6 m7 m8 m9 m10 NW PA AS tb u1.1 u1.2.1 u1.2.2 f1 f2 pk sv len sp rf nu rk rt ra (zBN n K T U S F L w) ha n w K T U S F L 2 (by omega)) G_X6_47 H_X6_refused ⟨Nat.le_of_ble_eq_true rfl, Nat.le_of_ble_eq_true rfl⟩ rfl [0, 1, 2, 3, 4, 5, 6, 7, 8, 9, 10] [] rfl rfl ⟨rfl, rfl, by decide⟩ 0 6 ⟨rfl, rfl, rfl⟩ (As := [.int (zI 2)]) (rest := []) (Nat.le_of_ble_eq_true rfl) rfl ⟨Nat.le_of_ble_eq_true rfl, Nat.le_of_ble_eq_true rfl⟩ (dk DX6_burst_0k 21 rfl) ⟨rfl, rfl⟩ (wb := fun u4 => [(m0, .inr (6, [.ref m1, .ref m2, .ref m3, .int (zI ((sv : Nat) : Int)), .int (zI 2), .ref m4, .int (zI ((len : Nat) : Int)), .int (zI ((sp : Nat) : Int)), .int (zI nu), .int (zI rk), .int (zI rt), .int (zI ra), .ref m5, .ref m6, .int (zI (zBN n K T U S F L w)), .ref m7, .ref m8, .ref m9, .ref m10, .long (zL ha)])), (m1, iA D 771 NW), (m2, iA D 3084 PA), (m3, iA D 771 AS), (m4, iA D 150 tb), (m5, iA D 250 u1.1), (m6, iA D 250 u1.2.1), (m7, iA D 250 u1.2.2), (m8, iA D 36 f1), (m9, iA D 36 f2), (m10, iA D 2778 pk)]) [0, 1, 2, 3, 4, 5, 6, 7, 8, 9, 10] rfl (fun _ => rfl) (fun u4 hu4 => ?_)
      refine zz_ifb_eq hC 47 (dk DX6_burst_0k 22 rfl) (by decide) (fun c5 => ?_) (fun c5 => ?_)
      · exfalso; omega
      · refine zz_lconst hC 0 (dk DX6_burst_0k 23 rfl) (by decide) ?_
        refine zz_goto hC 53 (dk DX6_burst_0k 24 rfl) (by decide) ?_
        exact zz_lret hC hQ hr (u1.1, u1.2.1, u1.2.2, f1, f2, pk, (zBN n K T U S F L w), 2, ha, 0) (Or.inr (Or.inr ⟨(by omega), (by omega), rfl⟩)) rfl [0, 1, 2, 3, 4, 5, 6, 7, 8, 9, 10] rfl rfl ⟨Nat.le_refl _, Nat.le_refl _⟩ (dk DX6_burst_0k 29 rfl)
    · refine zz_iconst hC (dk DX6_burst_0k 18 rfl) ?_
      refine zz_goto hC 37 (dk DX6_burst_0k 19 rfl) (by decide) ?_
      refine zz_callVi hC (wr := []) (c_X6_refused l D m0 m1 m2 m3 m4 m5 m6 m7 m8 m9 m10 NW PA AS tb u1.1 u1.2.1 u1.2.2 f1 f2 pk sv len sp rf nu rk rt ra (zBN n K T U S F L w) ha n w K T U S F L 0 (by omega)) G_X6_47 H_X6_refused ⟨Nat.le_of_ble_eq_true rfl, Nat.le_of_ble_eq_true rfl⟩ rfl [0, 1, 2, 3, 4, 5, 6, 7, 8, 9, 10] [] rfl rfl ⟨rfl, rfl, by decide⟩ 0 6 ⟨rfl, rfl, rfl⟩ (As := [.int (zI 0)]) (rest := []) (Nat.le_of_ble_eq_true rfl) rfl ⟨Nat.le_of_ble_eq_true rfl, Nat.le_of_ble_eq_true rfl⟩ (dk DX6_burst_0k 21 rfl) ⟨rfl, rfl⟩ (wb := fun u6 => [(m0, .inr (6, [.ref m1, .ref m2, .ref m3, .int (zI ((sv : Nat) : Int)), .int (zI 0), .ref m4, .int (zI ((len : Nat) : Int)), .int (zI ((sp : Nat) : Int)), .int (zI nu), .int (zI rk), .int (zI rt), .int (zI ra), .ref m5, .ref m6, .int (zI (zBN n K T U S F L w)), .ref m7, .ref m8, .ref m9, .ref m10, .long (zL ha)])), (m1, iA D 771 NW), (m2, iA D 3084 PA), (m3, iA D 771 AS), (m4, iA D 150 tb), (m5, iA D 250 u1.1), (m6, iA D 250 u1.2.1), (m7, iA D 250 u1.2.2), (m8, iA D 36 f1), (m9, iA D 36 f2), (m10, iA D 2778 pk)]) [0, 1, 2, 3, 4, 5, 6, 7, 8, 9, 10] rfl (fun _ => rfl) (fun u6 hu6 => ?_)
      refine zz_ifb_eq hC 47 (dk DX6_burst_0k 22 rfl) (by decide) (fun c7 => ?_) (fun c7 => ?_)
      · refine zz_aload_n hC 0 (dk DX6_burst_0k 25 rfl) rfl rfl ?_
        refine zz_iload_n hC 1 (dk DX6_burst_0k 26 rfl) rfl rfl ?_
        refine zz_iload_n hC 2 (dk DX6_burst_0k 27 rfl) rfl rfl ?_
        refine zz_pureVl hC (c_X6_tellBurst l D m0 m1 m2 m3 m4 m5 m6 m7 m8 m9 m10 NW PA AS tb u1.1 u1.2.1 u1.2.2 f1 f2 pk sv len sp 0 nu rk rt ra (zBN n K T U S F L w) ha n w K T U S F L x v hN hg hs hu1r.2 (by omega) (by omega)) G_X6_176 H_X6_tellBurst ⟨Nat.le_of_ble_eq_true rfl, Nat.le_of_ble_eq_true rfl⟩ rfl [0, 1, 2, 3, 4, 5, 6, 7, 8, 9, 10] rfl rfl 0 6 ⟨rfl, rfl, rfl⟩ (As := [.int (zI x), .int (zI v)]) (rest := []) (Nat.le_of_ble_eq_true rfl) rfl ⟨Nat.le_of_ble_eq_true rfl, Nat.le_of_ble_eq_true rfl⟩ (dk DX6_burst_0k 28 rfl) ⟨rfl, rfl⟩ ?_
        exact zz_lret hC hQ hr (u1.1, u1.2.1, u1.2.2, f1, f2, pk, (zBN n K T U S F L w), 0, ha, (zBu u1.2.1 T (zCh n K U S) x v n)) (Or.inl ⟨(by omega), (by omega), rfl, (zBst_lk (mk_lk hu1))⟩) rfl [0, 1, 2, 3, 4, 5, 6, 7, 8, 9, 10] rfl rfl ⟨Nat.le_refl _, Nat.le_refl _⟩ (dk DX6_burst_0k 29 rfl)
      · exfalso; omega
  · refine zz_iconst hC (dk DX6_burst_0k 11 rfl) ?_
    refine zz_goto hC 37 (dk DX6_burst_0k 12 rfl) (by decide) ?_
    refine zz_callVi hC (wr := []) (c_X6_refused l D m0 m1 m2 m3 m4 m5 m6 m7 m8 m9 m10 NW PA AS tb u1.1 u1.2.1 u1.2.2 f1 f2 pk sv len sp rf nu rk rt ra (zBN n K T U S F L w) ha n w K T U S F L 1 (by omega)) G_X6_47 H_X6_refused ⟨Nat.le_of_ble_eq_true rfl, Nat.le_of_ble_eq_true rfl⟩ rfl [0, 1, 2, 3, 4, 5, 6, 7, 8, 9, 10] [] rfl rfl ⟨rfl, rfl, by decide⟩ 0 6 ⟨rfl, rfl, rfl⟩ (As := [.int (zI 1)]) (rest := []) (Nat.le_of_ble_eq_true rfl) rfl ⟨Nat.le_of_ble_eq_true rfl, Nat.le_of_ble_eq_true rfl⟩ (dk DX6_burst_0k 21 rfl) ⟨rfl, rfl⟩ (wb := fun u8 => [(m0, .inr (6, [.ref m1, .ref m2, .ref m3, .int (zI ((sv : Nat) : Int)), .int (zI 1), .ref m4, .int (zI ((len : Nat) : Int)), .int (zI ((sp : Nat) : Int)), .int (zI nu), .int (zI rk), .int (zI rt), .int (zI ra), .ref m5, .ref m6, .int (zI (zBN n K T U S F L w)), .ref m7, .ref m8, .ref m9, .ref m10, .long (zL ha)])), (m1, iA D 771 NW), (m2, iA D 3084 PA), (m3, iA D 771 AS), (m4, iA D 150 tb), (m5, iA D 250 u1.1), (m6, iA D 250 u1.2.1), (m7, iA D 250 u1.2.2), (m8, iA D 36 f1), (m9, iA D 36 f2), (m10, iA D 2778 pk)]) [0, 1, 2, 3, 4, 5, 6, 7, 8, 9, 10] rfl (fun _ => rfl) (fun u8 hu8 => ?_)
    refine zz_ifb_eq hC 47 (dk DX6_burst_0k 22 rfl) (by decide) (fun c9 => ?_) (fun c9 => ?_)
    · exfalso; omega
    · refine zz_lconst hC 0 (dk DX6_burst_0k 23 rfl) (by decide) ?_
      refine zz_goto hC 53 (dk DX6_burst_0k 24 rfl) (by decide) ?_
      exact zz_lret hC hQ hr (u1.1, u1.2.1, u1.2.2, f1, f2, pk, (zBN n K T U S F L w), 1, ha, 0) (Or.inr (Or.inl ⟨(by omega), rfl⟩)) rfl [0, 1, 2, 3, 4, 5, 6, 7, 8, 9, 10] rfl rfl ⟨Nat.le_refl _, Nat.le_refl _⟩ (dk DX6_burst_0k 29 rfl)
set_option maxHeartbeats 4000000 in
set_option maxRecDepth 100000 in
theorem c_X6_pulses (l : Launch) (D : zG) (m0 : Nat) (m1 : Nat) (m2 : Nat) (m3 : Nat) (m4 : Nat) (m5 : Nat) (m6 : Nat) (m7 : Nat) (m8 : Nat) (m9 : Nat) (m10 : Nat) (NW : Nat → Int) (PA : Nat → Int) (AS : Nat → Int) (tb : Nat → Int) (st : Nat → Int) (bo : Nat → Int) (sh : Nat → Int) (f1 : Nat → Int) (f2 : Nat → Int) (pk : Nat → Int) (sv : Nat) (len : Nat) (sp : Nat) (rf : Int) (nu : Int) (rk : Int) (rt : Int) (ra : Int) (bm : Int) (ha : Int) (n : Nat) (w : Nat) (K : Nat → Int) (T : Nat → Int) (U : Nat → Int) (S : Nat → Int) (F : Nat → Int) (L : Nat → Int) (hN : zRow NW n K T U S F L w) (hg : zLog n K T U) (hs : zSet S) (hw : zWin w F L) : CI (S := (Nat → Int) × (Nat → Int) × (Nat → Int) × (Nat → Int) × (Nat → Int) × (Nat → Int) × Int × Int × Int × Int) l yX6_pulses cX6_pulses 1 ((some .int)) ({ frames := 0, cells := 0, slots := 0, locals := 0 } : Room) D [.ref m0] [(m0, .inr (6, [.ref m1, .ref m2, .ref m3, .int (zI ((sv : Nat) : Int)), .int (zI rf), .ref m4, .int (zI ((len : Nat) : Int)), .int (zI ((sp : Nat) : Int)), .int (zI nu), .int (zI rk), .int (zI rt), .int (zI ra), .ref m5, .ref m6, .int (zI bm), .ref m7, .ref m8, .ref m9, .ref m10, .long (zL ha)])), (m1, iA D 771 NW), (m2, iA D 3084 PA), (m3, iA D 771 AS), (m4, iA D 150 tb), (m5, iA D 250 st), (m6, iA D 250 bo), (m7, iA D 250 sh), (m8, iA D 36 f1), (m9, iA D 36 f2), (m10, iA D 2778 pk)] (fun u => u.2.2.2.2.2.2.2.1 = 0 ∧ u.2.2.2.2.2.2.2.2.2 = n) (fun u => u.2.2.2.2.2.2.2.2.2) (fun u => [(m0, .inr (6, [.ref m1, .ref m2, .ref m3, .int (zI ((sv : Nat) : Int)), .int (zI u.2.2.2.2.2.2.2.1), .ref m4, .int (zI ((len : Nat) : Int)), .int (zI ((sp : Nat) : Int)), .int (zI nu), .int (zI rk), .int (zI rt), .int (zI ra), .ref m5, .ref m6, .int (zI u.2.2.2.2.2.2.1), .ref m7, .ref m8, .ref m9, .ref m10, .long (zL u.2.2.2.2.2.2.2.2.1)])), (m1, iA D 771 NW), (m2, iA D 3084 PA), (m3, iA D 771 AS), (m4, iA D 150 tb), (m5, iA D 250 u.1), (m6, iA D 250 u.2.1), (m7, iA D 250 u.2.2.1), (m8, iA D 36 u.2.2.2.1), (m9, iA D 36 u.2.2.2.2.1), (m10, iA D 2778 u.2.2.2.2.2.1)]) := by
  refine CI_of (by decide) (Nat.le_of_ble_eq_true rfl) ?_
  intro p e s m args below meth cd A Q hQ hC hr hnm
  have hC : ZC p s m args meth cd A D 1 cX6_pulses RX6 := hC
  have hg0 := hg
  obtain ⟨hn, hK, hT, hU, hM⟩ := hg0
  show Z p l e ({ frames := 0, cells := 0, slots := 0, locals := 0 } : Room) s m args below meth cd A D Q 1 0 0 [(m0, .inr (6, [.ref m1, .ref m2, .ref m3, .int (zI ((sv : Nat) : Int)), .int (zI rf), .ref m4, .int (zI ((len : Nat) : Int)), .int (zI ((sp : Nat) : Int)), .int (zI nu), .int (zI rk), .int (zI rt), .int (zI ra), .ref m5, .ref m6, .int (zI bm), .ref m7, .ref m8, .ref m9, .ref m10, .long (zL ha)])), (m1, iA D 771 NW), (m2, iA D 3084 PA), (m3, iA D 771 AS), (m4, iA D 150 tb), (m5, iA D 250 st), (m6, iA D 250 bo), (m7, iA D 250 sh), (m8, iA D 36 f1), (m9, iA D 36 f2), (m10, iA D 2778 pk)] [(0, .ref m0)] [] 0
  refine zz_aload_n hC 0 (dk DX6_pulses_0k 0 rfl) rfl rfl ?_
  refine zz_iconst hC (dk DX6_pulses_0k 1 rfl) ?_
  refine zz_put hC F_X6_40 fc_X6 rfl (tyX6_ok 4 (by decide)) 0 (ws' := [(m0, .inr (6, [.ref m1, .ref m2, .ref m3, .int (zI ((sv : Nat) : Int)), .int (zI 0), .ref m4, .int (zI ((len : Nat) : Int)), .int (zI ((sp : Nat) : Int)), .int (zI nu), .int (zI rk), .int (zI rt), .int (zI ra), .ref m5, .ref m6, .int (zI bm), .ref m7, .ref m8, .ref m9, .ref m10, .long (zL ha)])), (m1, iA D 771 NW), (m2, iA D 3084 PA), (m3, iA D 771 AS), (m4, iA D 150 tb), (m5, iA D 250 st), (m6, iA D 250 bo), (m7, iA D 250 sh), (m8, iA D 36 f1), (m9, iA D 36 f2), (m10, iA D 2778 pk)]) rfl rfl rfl (Nat.le_of_ble_eq_true rfl) rfl (dk DX6_pulses_0k 2 rfl) ?_
  refine zz_aload_n hC 0 (dk DX6_pulses_0k 3 rfl) rfl rfl ?_
  refine zz_get hC F_X6_7 0 rfl rfl (dk DX6_pulses_0k 4 rfl) ?_
  refine zz_bipush hC (dk DX6_pulses_0k 5 rfl) (by decide) ?_
  refine zz_iald hC 20 1 rfl rfl (by omega) (dk DX6_pulses_0k 6 rfl) ?_
  rw [hN.2.2.2.1]
  exact zz_iret hC hQ hr (st, bo, sh, f1, f2, pk, bm, 0, ha, ((n : Nat) : Int)) ⟨rfl, rfl⟩ rfl [0, 1, 2, 3, 4, 5, 6, 7, 8, 9, 10] rfl rfl ⟨Nat.le_refl _, Nat.le_refl _⟩ (dk DX6_pulses_0k 7 rfl)
set_option maxHeartbeats 4000000 in
set_option maxRecDepth 100000 in
theorem c_X6_statusesWith (l : Launch) (D : zG) (m0 : Nat) (m1 : Nat) (m2 : Nat) (m3 : Nat) (m4 : Nat) (m5 : Nat) (m6 : Nat) (m7 : Nat) (m8 : Nat) (m9 : Nat) (m10 : Nat) (NW : Nat → Int) (PA : Nat → Int) (AS : Nat → Int) (tb : Nat → Int) (st : Nat → Int) (bo : Nat → Int) (sh : Nat → Int) (f1 : Nat → Int) (f2 : Nat → Int) (pk : Nat → Int) (sv : Nat) (len : Nat) (sp : Nat) (rf : Int) (nu : Int) (rk : Int) (rt : Int) (ra : Int) (bm : Int) (ha : Int) (n : Nat) (w : Nat) (K : Nat → Int) (T : Nat → Int) (U : Nat → Int) (S : Nat → Int) (F : Nat → Int) (L : Nat → Int) (lv : Int) (gl : Int) (gw : Int) (dt : Int) (x : Int) (hN : zRow NW n K T U S F L w) (hg : zLog n K T U) (hs : zSet S) (hw : zWin w F L) (hri : (-2147483648 ≤ lv ∧ lv ≤ 2147483647) ∧ (-2147483648 ≤ gl ∧ gl ≤ 2147483647) ∧ (-2147483648 ≤ gw ∧ gw ≤ 2147483647) ∧ (-2147483648 ≤ dt ∧ dt ≤ 2147483647) ∧ (-2147483648 ≤ x ∧ x ≤ 2147483647)) : CI (S := (Nat → Int) × (Nat → Int) × (Nat → Int) × (Nat → Int) × (Nat → Int) × (Nat → Int) × Int × Int × Int × Int) l yX6_statusesWith cX6_statusesWith 7 ((some .int)) ({ frames := 4, cells := 0, slots := 0, locals := 91 } : Room) D [.ref m0, .int (zI lv), .int (zI gl), .int (zI gw), .int (zI dt), .int (zI x)] [(m0, .inr (6, [.ref m1, .ref m2, .ref m3, .int (zI ((sv : Nat) : Int)), .int (zI rf), .ref m4, .int (zI ((len : Nat) : Int)), .int (zI ((sp : Nat) : Int)), .int (zI nu), .int (zI rk), .int (zI rt), .int (zI ra), .ref m5, .ref m6, .int (zI bm), .ref m7, .ref m8, .ref m9, .ref m10, .long (zL ha)])), (m1, iA D 771 NW), (m2, iA D 3084 PA), (m3, iA D 771 AS), (m4, iA D 150 tb), (m5, iA D 250 st), (m6, iA D 250 bo), (m7, iA D 250 sh), (m8, iA D 36 f1), (m9, iA D 36 f2), (m10, iA D 2778 pk)] (fun u => zO1 (zOkW lv gl gw dt x) (u.2.2.2.2.2.2.2.1) (u.2.2.2.2.2.2.2.2.2 = zSw n K T U S F L w lv gl gw dt x)) (fun u => u.2.2.2.2.2.2.2.2.2) (fun u => [(m0, .inr (6, [.ref m1, .ref m2, .ref m3, .int (zI ((sv : Nat) : Int)), .int (zI u.2.2.2.2.2.2.2.1), .ref m4, .int (zI ((len : Nat) : Int)), .int (zI ((sp : Nat) : Int)), .int (zI nu), .int (zI rk), .int (zI rt), .int (zI ra), .ref m5, .ref m6, .int (zI u.2.2.2.2.2.2.1), .ref m7, .ref m8, .ref m9, .ref m10, .long (zL u.2.2.2.2.2.2.2.2.1)])), (m1, iA D 771 NW), (m2, iA D 3084 PA), (m3, iA D 771 AS), (m4, iA D 150 tb), (m5, iA D 250 u.1), (m6, iA D 250 u.2.1), (m7, iA D 250 u.2.2.1), (m8, iA D 36 u.2.2.2.1), (m9, iA D 36 u.2.2.2.2.1), (m10, iA D 2778 u.2.2.2.2.2.1)]) := by
  refine CI_of (by decide) (Nat.le_of_ble_eq_true rfl) ?_
  intro p e s m args below meth cd A Q hQ hC hr hnm
  have hC : ZC p s m args meth cd A D 7 cX6_statusesWith RX6 := hC
  have hg0 := hg
  obtain ⟨hn, hK, hT, hU, hM⟩ := hg0
  show Z p l e ({ frames := 4, cells := 0, slots := 0, locals := 91 } : Room) s m args below meth cd A D Q 7 0 0 [(m0, .inr (6, [.ref m1, .ref m2, .ref m3, .int (zI ((sv : Nat) : Int)), .int (zI rf), .ref m4, .int (zI ((len : Nat) : Int)), .int (zI ((sp : Nat) : Int)), .int (zI nu), .int (zI rk), .int (zI rt), .int (zI ra), .ref m5, .ref m6, .int (zI bm), .ref m7, .ref m8, .ref m9, .ref m10, .long (zL ha)])), (m1, iA D 771 NW), (m2, iA D 3084 PA), (m3, iA D 771 AS), (m4, iA D 150 tb), (m5, iA D 250 st), (m6, iA D 250 bo), (m7, iA D 250 sh), (m8, iA D 36 f1), (m9, iA D 36 f2), (m10, iA D 2778 pk)] [(0, .ref m0), (1, .int (zI lv)), (2, .int (zI gl)), (3, .int (zI gw)), (4, .int (zI dt)), (5, .int (zI x))] [] 0
  refine zz_iload_n hC 1 (dk DX6_statusesWith_0k 0 rfl) rfl rfl ?_
  refine zz_iconst hC (dk DX6_statusesWith_0k 1 rfl) ?_
  refine zz_sipush hC (dk DX6_statusesWith_0k 2 rfl) (by decide) ?_
  refine zz_pureSi hC (c_X6_within l D lv 0 2000 (by omega)) G_X6_52 H_X6_within.2 ⟨Nat.le_of_ble_eq_true rfl, Nat.le_of_ble_eq_true rfl⟩ rfl [] rfl rfl (As := [.int (zI lv), .int (zI 0), .int (zI 2000)]) (rest := []) (Nat.le_of_ble_eq_true rfl) rfl ⟨Nat.le_of_ble_eq_true rfl, Nat.le_of_ble_eq_true rfl⟩ (dk DX6_statusesWith_0k 3 rfl) ⟨rfl, rfl⟩ ?_
  refine zz_ifb_eq hC 59 (dk DX6_statusesWith_0k 4 rfl) (by decide) (fun c1 => ?_) (fun c1 => ?_)
  · refine zz_iconst hC (dk DX6_statusesWith_0k 27 rfl) ?_
    refine zz_istore hC (ls' := [(0, .ref m0), (1, .int (zI lv)), (2, .int (zI gl)), (3, .int (zI gw)), (4, .int (zI dt)), (5, .int (zI x)), (6, .int (zI 0))]) [1, 2, 3, 4, 5, 6, 0] (dk DX6_statusesWith_0k 28 rfl) (by decide) rfl ?_
    refine zz_aload_n hC 0 (dk DX6_statusesWith_0k 29 rfl) rfl rfl ?_
    refine zz_iload hC 6 (dk DX6_statusesWith_0k 30 rfl) rfl ?_
    refine zz_if_eq hC 72 (dk DX6_statusesWith_0k 31 rfl) (by decide) (by decide) (fun c2 => ?_) (fun c2 => ?_)
    · refine zz_iconst hC (dk DX6_statusesWith_0k 34 rfl) ?_
      refine zz_callVi hC (wr := []) (c_X6_refused l D m0 m1 m2 m3 m4 m5 m6 m7 m8 m9 m10 NW PA AS tb st bo sh f1 f2 pk sv len sp rf nu rk rt ra bm ha n w K T U S F L 1 (by omega)) G_X6_47 H_X6_refused ⟨Nat.le_of_ble_eq_true rfl, Nat.le_of_ble_eq_true rfl⟩ rfl [0, 1, 2, 3, 4, 5, 6, 7, 8, 9, 10] [] rfl rfl ⟨rfl, rfl, by decide⟩ 0 6 ⟨rfl, rfl, rfl⟩ (As := [.int (zI 1)]) (rest := []) (Nat.le_of_ble_eq_true rfl) rfl ⟨Nat.le_of_ble_eq_true rfl, Nat.le_of_ble_eq_true rfl⟩ (dk DX6_statusesWith_0k 35 rfl) ⟨rfl, rfl⟩ (wb := fun u3 => [(m0, .inr (6, [.ref m1, .ref m2, .ref m3, .int (zI ((sv : Nat) : Int)), .int (zI 1), .ref m4, .int (zI ((len : Nat) : Int)), .int (zI ((sp : Nat) : Int)), .int (zI nu), .int (zI rk), .int (zI rt), .int (zI ra), .ref m5, .ref m6, .int (zI bm), .ref m7, .ref m8, .ref m9, .ref m10, .long (zL ha)])), (m1, iA D 771 NW), (m2, iA D 3084 PA), (m3, iA D 771 AS), (m4, iA D 150 tb), (m5, iA D 250 st), (m6, iA D 250 bo), (m7, iA D 250 sh), (m8, iA D 36 f1), (m9, iA D 36 f2), (m10, iA D 2778 pk)]) [0, 1, 2, 3, 4, 5, 6, 7, 8, 9, 10] rfl (fun _ => rfl) (fun u3 hu3 => ?_)
      refine zz_ifb_eq hC 81 (dk DX6_statusesWith_0k 36 rfl) (by decide) (fun c4 => ?_) (fun c4 => ?_)
      · exfalso; omega
      · refine zz_iconst hC (dk DX6_statusesWith_0k 37 rfl) ?_
        exact zz_iret hC hQ hr (st, bo, sh, f1, f2, pk, bm, 1, ha, 0) (Or.inr ⟨(by unfold zOkW; omega), rfl⟩) rfl [0, 1, 2, 3, 4, 5, 6, 7, 8, 9, 10] rfl rfl ⟨Nat.le_refl _, Nat.le_refl _⟩ (dk DX6_statusesWith_0k 38 rfl)
    · exfalso; omega
  · refine zz_iload_n hC 2 (dk DX6_statusesWith_0k 5 rfl) rfl rfl ?_
    refine zz_iconst hC (dk DX6_statusesWith_0k 6 rfl) ?_
    refine zz_sipush hC (dk DX6_statusesWith_0k 7 rfl) (by decide) ?_
    refine zz_pureSi hC (c_X6_within l D gl 1 2000 (by omega)) G_X6_52 H_X6_within.2 ⟨Nat.le_of_ble_eq_true rfl, Nat.le_of_ble_eq_true rfl⟩ rfl [] rfl rfl (As := [.int (zI gl), .int (zI 1), .int (zI 2000)]) (rest := []) (Nat.le_of_ble_eq_true rfl) rfl ⟨Nat.le_of_ble_eq_true rfl, Nat.le_of_ble_eq_true rfl⟩ (dk DX6_statusesWith_0k 8 rfl) ⟨rfl, rfl⟩ ?_
    refine zz_ifb_eq hC 59 (dk DX6_statusesWith_0k 9 rfl) (by decide) (fun c5 => ?_) (fun c5 => ?_)
    · refine zz_iconst hC (dk DX6_statusesWith_0k 27 rfl) ?_
      refine zz_istore hC (ls' := [(0, .ref m0), (1, .int (zI lv)), (2, .int (zI gl)), (3, .int (zI gw)), (4, .int (zI dt)), (5, .int (zI x)), (6, .int (zI 0))]) [1, 2, 3, 4, 5, 6, 0] (dk DX6_statusesWith_0k 28 rfl) (by decide) rfl ?_
      refine zz_aload_n hC 0 (dk DX6_statusesWith_0k 29 rfl) rfl rfl ?_
      refine zz_iload hC 6 (dk DX6_statusesWith_0k 30 rfl) rfl ?_
      refine zz_if_eq hC 72 (dk DX6_statusesWith_0k 31 rfl) (by decide) (by decide) (fun c6 => ?_) (fun c6 => ?_)
      · refine zz_iconst hC (dk DX6_statusesWith_0k 34 rfl) ?_
        refine zz_callVi hC (wr := []) (c_X6_refused l D m0 m1 m2 m3 m4 m5 m6 m7 m8 m9 m10 NW PA AS tb st bo sh f1 f2 pk sv len sp rf nu rk rt ra bm ha n w K T U S F L 1 (by omega)) G_X6_47 H_X6_refused ⟨Nat.le_of_ble_eq_true rfl, Nat.le_of_ble_eq_true rfl⟩ rfl [0, 1, 2, 3, 4, 5, 6, 7, 8, 9, 10] [] rfl rfl ⟨rfl, rfl, by decide⟩ 0 6 ⟨rfl, rfl, rfl⟩ (As := [.int (zI 1)]) (rest := []) (Nat.le_of_ble_eq_true rfl) rfl ⟨Nat.le_of_ble_eq_true rfl, Nat.le_of_ble_eq_true rfl⟩ (dk DX6_statusesWith_0k 35 rfl) ⟨rfl, rfl⟩ (wb := fun u7 => [(m0, .inr (6, [.ref m1, .ref m2, .ref m3, .int (zI ((sv : Nat) : Int)), .int (zI 1), .ref m4, .int (zI ((len : Nat) : Int)), .int (zI ((sp : Nat) : Int)), .int (zI nu), .int (zI rk), .int (zI rt), .int (zI ra), .ref m5, .ref m6, .int (zI bm), .ref m7, .ref m8, .ref m9, .ref m10, .long (zL ha)])), (m1, iA D 771 NW), (m2, iA D 3084 PA), (m3, iA D 771 AS), (m4, iA D 150 tb), (m5, iA D 250 st), (m6, iA D 250 bo), (m7, iA D 250 sh), (m8, iA D 36 f1), (m9, iA D 36 f2), (m10, iA D 2778 pk)]) [0, 1, 2, 3, 4, 5, 6, 7, 8, 9, 10] rfl (fun _ => rfl) (fun u7 hu7 => ?_)
        refine zz_ifb_eq hC 81 (dk DX6_statusesWith_0k 36 rfl) (by decide) (fun c8 => ?_) (fun c8 => ?_)
        · exfalso; omega
        · refine zz_iconst hC (dk DX6_statusesWith_0k 37 rfl) ?_
          exact zz_iret hC hQ hr (st, bo, sh, f1, f2, pk, bm, 1, ha, 0) (Or.inr ⟨(by unfold zOkW; omega), rfl⟩) rfl [0, 1, 2, 3, 4, 5, 6, 7, 8, 9, 10] rfl rfl ⟨Nat.le_refl _, Nat.le_refl _⟩ (dk DX6_statusesWith_0k 38 rfl)
      · exfalso; omega
    · refine zz_iload_n hC 3 (dk DX6_statusesWith_0k 10 rfl) rfl rfl ?_
      refine zz_iconst hC (dk DX6_statusesWith_0k 11 rfl) ?_
      refine zz_bipush hC (dk DX6_statusesWith_0k 12 rfl) (by decide) ?_
      refine zz_pureSi hC (c_X6_within l D gw 0 100 (by omega)) G_X6_52 H_X6_within.2 ⟨Nat.le_of_ble_eq_true rfl, Nat.le_of_ble_eq_true rfl⟩ rfl [] rfl rfl (As := [.int (zI gw), .int (zI 0), .int (zI 100)]) (rest := []) (Nat.le_of_ble_eq_true rfl) rfl ⟨Nat.le_of_ble_eq_true rfl, Nat.le_of_ble_eq_true rfl⟩ (dk DX6_statusesWith_0k 13 rfl) ⟨rfl, rfl⟩ ?_
      refine zz_ifb_eq hC 59 (dk DX6_statusesWith_0k 14 rfl) (by decide) (fun c9 => ?_) (fun c9 => ?_)
      · refine zz_iconst hC (dk DX6_statusesWith_0k 27 rfl) ?_
        refine zz_istore hC (ls' := [(0, .ref m0), (1, .int (zI lv)), (2, .int (zI gl)), (3, .int (zI gw)), (4, .int (zI dt)), (5, .int (zI x)), (6, .int (zI 0))]) [1, 2, 3, 4, 5, 6, 0] (dk DX6_statusesWith_0k 28 rfl) (by decide) rfl ?_
        refine zz_aload_n hC 0 (dk DX6_statusesWith_0k 29 rfl) rfl rfl ?_
        refine zz_iload hC 6 (dk DX6_statusesWith_0k 30 rfl) rfl ?_
        refine zz_if_eq hC 72 (dk DX6_statusesWith_0k 31 rfl) (by decide) (by decide) (fun c10 => ?_) (fun c10 => ?_)
        · refine zz_iconst hC (dk DX6_statusesWith_0k 34 rfl) ?_
          refine zz_callVi hC (wr := []) (c_X6_refused l D m0 m1 m2 m3 m4 m5 m6 m7 m8 m9 m10 NW PA AS tb st bo sh f1 f2 pk sv len sp rf nu rk rt ra bm ha n w K T U S F L 1 (by omega)) G_X6_47 H_X6_refused ⟨Nat.le_of_ble_eq_true rfl, Nat.le_of_ble_eq_true rfl⟩ rfl [0, 1, 2, 3, 4, 5, 6, 7, 8, 9, 10] [] rfl rfl ⟨rfl, rfl, by decide⟩ 0 6 ⟨rfl, rfl, rfl⟩ (As := [.int (zI 1)]) (rest := []) (Nat.le_of_ble_eq_true rfl) rfl ⟨Nat.le_of_ble_eq_true rfl, Nat.le_of_ble_eq_true rfl⟩ (dk DX6_statusesWith_0k 35 rfl) ⟨rfl, rfl⟩ (wb := fun u11 => [(m0, .inr (6, [.ref m1, .ref m2, .ref m3, .int (zI ((sv : Nat) : Int)), .int (zI 1), .ref m4, .int (zI ((len : Nat) : Int)), .int (zI ((sp : Nat) : Int)), .int (zI nu), .int (zI rk), .int (zI rt), .int (zI ra), .ref m5, .ref m6, .int (zI bm), .ref m7, .ref m8, .ref m9, .ref m10, .long (zL ha)])), (m1, iA D 771 NW), (m2, iA D 3084 PA), (m3, iA D 771 AS), (m4, iA D 150 tb), (m5, iA D 250 st), (m6, iA D 250 bo), (m7, iA D 250 sh), (m8, iA D 36 f1), (m9, iA D 36 f2), (m10, iA D 2778 pk)]) [0, 1, 2, 3, 4, 5, 6, 7, 8, 9, 10] rfl (fun _ => rfl) (fun u11 hu11 => ?_)
          refine zz_ifb_eq hC 81 (dk DX6_statusesWith_0k 36 rfl) (by decide) (fun c12 => ?_) (fun c12 => ?_)
          · exfalso; omega
          · refine zz_iconst hC (dk DX6_statusesWith_0k 37 rfl) ?_
            exact zz_iret hC hQ hr (st, bo, sh, f1, f2, pk, bm, 1, ha, 0) (Or.inr ⟨(by unfold zOkW; omega), rfl⟩) rfl [0, 1, 2, 3, 4, 5, 6, 7, 8, 9, 10] rfl rfl ⟨Nat.le_refl _, Nat.le_refl _⟩ (dk DX6_statusesWith_0k 38 rfl)
        · exfalso; omega
      · refine zz_iload hC 4 (dk DX6_statusesWith_0k 15 rfl) rfl ?_
        refine zz_iconst hC (dk DX6_statusesWith_0k 16 rfl) ?_
        refine zz_sipush hC (dk DX6_statusesWith_0k 17 rfl) (by decide) ?_
        refine zz_pureSi hC (c_X6_within l D dt 0 1000 (by omega)) G_X6_52 H_X6_within.2 ⟨Nat.le_of_ble_eq_true rfl, Nat.le_of_ble_eq_true rfl⟩ rfl [] rfl rfl (As := [.int (zI dt), .int (zI 0), .int (zI 1000)]) (rest := []) (Nat.le_of_ble_eq_true rfl) rfl ⟨Nat.le_of_ble_eq_true rfl, Nat.le_of_ble_eq_true rfl⟩ (dk DX6_statusesWith_0k 18 rfl) ⟨rfl, rfl⟩ ?_
        refine zz_ifb_eq hC 59 (dk DX6_statusesWith_0k 19 rfl) (by decide) (fun c13 => ?_) (fun c13 => ?_)
        · refine zz_iconst hC (dk DX6_statusesWith_0k 27 rfl) ?_
          refine zz_istore hC (ls' := [(0, .ref m0), (1, .int (zI lv)), (2, .int (zI gl)), (3, .int (zI gw)), (4, .int (zI dt)), (5, .int (zI x)), (6, .int (zI 0))]) [1, 2, 3, 4, 5, 6, 0] (dk DX6_statusesWith_0k 28 rfl) (by decide) rfl ?_
          refine zz_aload_n hC 0 (dk DX6_statusesWith_0k 29 rfl) rfl rfl ?_
          refine zz_iload hC 6 (dk DX6_statusesWith_0k 30 rfl) rfl ?_
          refine zz_if_eq hC 72 (dk DX6_statusesWith_0k 31 rfl) (by decide) (by decide) (fun c14 => ?_) (fun c14 => ?_)
          · refine zz_iconst hC (dk DX6_statusesWith_0k 34 rfl) ?_
            refine zz_callVi hC (wr := []) (c_X6_refused l D m0 m1 m2 m3 m4 m5 m6 m7 m8 m9 m10 NW PA AS tb st bo sh f1 f2 pk sv len sp rf nu rk rt ra bm ha n w K T U S F L 1 (by omega)) G_X6_47 H_X6_refused ⟨Nat.le_of_ble_eq_true rfl, Nat.le_of_ble_eq_true rfl⟩ rfl [0, 1, 2, 3, 4, 5, 6, 7, 8, 9, 10] [] rfl rfl ⟨rfl, rfl, by decide⟩ 0 6 ⟨rfl, rfl, rfl⟩ (As := [.int (zI 1)]) (rest := []) (Nat.le_of_ble_eq_true rfl) rfl ⟨Nat.le_of_ble_eq_true rfl, Nat.le_of_ble_eq_true rfl⟩ (dk DX6_statusesWith_0k 35 rfl) ⟨rfl, rfl⟩ (wb := fun u15 => [(m0, .inr (6, [.ref m1, .ref m2, .ref m3, .int (zI ((sv : Nat) : Int)), .int (zI 1), .ref m4, .int (zI ((len : Nat) : Int)), .int (zI ((sp : Nat) : Int)), .int (zI nu), .int (zI rk), .int (zI rt), .int (zI ra), .ref m5, .ref m6, .int (zI bm), .ref m7, .ref m8, .ref m9, .ref m10, .long (zL ha)])), (m1, iA D 771 NW), (m2, iA D 3084 PA), (m3, iA D 771 AS), (m4, iA D 150 tb), (m5, iA D 250 st), (m6, iA D 250 bo), (m7, iA D 250 sh), (m8, iA D 36 f1), (m9, iA D 36 f2), (m10, iA D 2778 pk)]) [0, 1, 2, 3, 4, 5, 6, 7, 8, 9, 10] rfl (fun _ => rfl) (fun u15 hu15 => ?_)
            refine zz_ifb_eq hC 81 (dk DX6_statusesWith_0k 36 rfl) (by decide) (fun c16 => ?_) (fun c16 => ?_)
            · exfalso; omega
            · refine zz_iconst hC (dk DX6_statusesWith_0k 37 rfl) ?_
              exact zz_iret hC hQ hr (st, bo, sh, f1, f2, pk, bm, 1, ha, 0) (Or.inr ⟨(by unfold zOkW; omega), rfl⟩) rfl [0, 1, 2, 3, 4, 5, 6, 7, 8, 9, 10] rfl rfl ⟨Nat.le_refl _, Nat.le_refl _⟩ (dk DX6_statusesWith_0k 38 rfl)
          · exfalso; omega
        · refine zz_iload hC 5 (dk DX6_statusesWith_0k 20 rfl) rfl ?_
          refine zz_iconst hC (dk DX6_statusesWith_0k 21 rfl) ?_
          refine zz_bipush hC (dk DX6_statusesWith_0k 22 rfl) (by decide) ?_
          refine zz_pureSi hC (c_X6_within l D x 0 6 (by omega)) G_X6_52 H_X6_within.2 ⟨Nat.le_of_ble_eq_true rfl, Nat.le_of_ble_eq_true rfl⟩ rfl [] rfl rfl (As := [.int (zI x), .int (zI 0), .int (zI 6)]) (rest := []) (Nat.le_of_ble_eq_true rfl) rfl ⟨Nat.le_of_ble_eq_true rfl, Nat.le_of_ble_eq_true rfl⟩ (dk DX6_statusesWith_0k 23 rfl) ⟨rfl, rfl⟩ ?_
          refine zz_ifb_eq hC 59 (dk DX6_statusesWith_0k 24 rfl) (by decide) (fun c17 => ?_) (fun c17 => ?_)
          · refine zz_iconst hC (dk DX6_statusesWith_0k 27 rfl) ?_
            refine zz_istore hC (ls' := [(0, .ref m0), (1, .int (zI lv)), (2, .int (zI gl)), (3, .int (zI gw)), (4, .int (zI dt)), (5, .int (zI x)), (6, .int (zI 0))]) [1, 2, 3, 4, 5, 6, 0] (dk DX6_statusesWith_0k 28 rfl) (by decide) rfl ?_
            refine zz_aload_n hC 0 (dk DX6_statusesWith_0k 29 rfl) rfl rfl ?_
            refine zz_iload hC 6 (dk DX6_statusesWith_0k 30 rfl) rfl ?_
            refine zz_if_eq hC 72 (dk DX6_statusesWith_0k 31 rfl) (by decide) (by decide) (fun c18 => ?_) (fun c18 => ?_)
            · refine zz_iconst hC (dk DX6_statusesWith_0k 34 rfl) ?_
              refine zz_callVi hC (wr := []) (c_X6_refused l D m0 m1 m2 m3 m4 m5 m6 m7 m8 m9 m10 NW PA AS tb st bo sh f1 f2 pk sv len sp rf nu rk rt ra bm ha n w K T U S F L 1 (by omega)) G_X6_47 H_X6_refused ⟨Nat.le_of_ble_eq_true rfl, Nat.le_of_ble_eq_true rfl⟩ rfl [0, 1, 2, 3, 4, 5, 6, 7, 8, 9, 10] [] rfl rfl ⟨rfl, rfl, by decide⟩ 0 6 ⟨rfl, rfl, rfl⟩ (As := [.int (zI 1)]) (rest := []) (Nat.le_of_ble_eq_true rfl) rfl ⟨Nat.le_of_ble_eq_true rfl, Nat.le_of_ble_eq_true rfl⟩ (dk DX6_statusesWith_0k 35 rfl) ⟨rfl, rfl⟩ (wb := fun u19 => [(m0, .inr (6, [.ref m1, .ref m2, .ref m3, .int (zI ((sv : Nat) : Int)), .int (zI 1), .ref m4, .int (zI ((len : Nat) : Int)), .int (zI ((sp : Nat) : Int)), .int (zI nu), .int (zI rk), .int (zI rt), .int (zI ra), .ref m5, .ref m6, .int (zI bm), .ref m7, .ref m8, .ref m9, .ref m10, .long (zL ha)])), (m1, iA D 771 NW), (m2, iA D 3084 PA), (m3, iA D 771 AS), (m4, iA D 150 tb), (m5, iA D 250 st), (m6, iA D 250 bo), (m7, iA D 250 sh), (m8, iA D 36 f1), (m9, iA D 36 f2), (m10, iA D 2778 pk)]) [0, 1, 2, 3, 4, 5, 6, 7, 8, 9, 10] rfl (fun _ => rfl) (fun u19 hu19 => ?_)
              refine zz_ifb_eq hC 81 (dk DX6_statusesWith_0k 36 rfl) (by decide) (fun c20 => ?_) (fun c20 => ?_)
              · exfalso; omega
              · refine zz_iconst hC (dk DX6_statusesWith_0k 37 rfl) ?_
                exact zz_iret hC hQ hr (st, bo, sh, f1, f2, pk, bm, 1, ha, 0) (Or.inr ⟨(by unfold zOkW; omega), rfl⟩) rfl [0, 1, 2, 3, 4, 5, 6, 7, 8, 9, 10] rfl rfl ⟨Nat.le_refl _, Nat.le_refl _⟩ (dk DX6_statusesWith_0k 38 rfl)
            · exfalso; omega
          · refine zz_iconst hC (dk DX6_statusesWith_0k 25 rfl) ?_
            refine zz_goto hC 60 (dk DX6_statusesWith_0k 26 rfl) (by decide) ?_
            refine zz_istore hC (ls' := [(0, .ref m0), (1, .int (zI lv)), (2, .int (zI gl)), (3, .int (zI gw)), (4, .int (zI dt)), (5, .int (zI x)), (6, .int (zI 1))]) [1, 2, 3, 4, 5, 6, 0] (dk DX6_statusesWith_0k 28 rfl) (by decide) rfl ?_
            refine zz_aload_n hC 0 (dk DX6_statusesWith_0k 29 rfl) rfl rfl ?_
            refine zz_iload hC 6 (dk DX6_statusesWith_0k 30 rfl) rfl ?_
            refine zz_if_eq hC 72 (dk DX6_statusesWith_0k 31 rfl) (by decide) (by decide) (fun c21 => ?_) (fun c21 => ?_)
            · exfalso; omega
            · refine zz_iconst hC (dk DX6_statusesWith_0k 32 rfl) ?_
              refine zz_goto hC 73 (dk DX6_statusesWith_0k 33 rfl) (by decide) ?_
              refine zz_callVi hC (wr := []) (c_X6_refused l D m0 m1 m2 m3 m4 m5 m6 m7 m8 m9 m10 NW PA AS tb st bo sh f1 f2 pk sv len sp rf nu rk rt ra bm ha n w K T U S F L 0 (by omega)) G_X6_47 H_X6_refused ⟨Nat.le_of_ble_eq_true rfl, Nat.le_of_ble_eq_true rfl⟩ rfl [0, 1, 2, 3, 4, 5, 6, 7, 8, 9, 10] [] rfl rfl ⟨rfl, rfl, by decide⟩ 0 6 ⟨rfl, rfl, rfl⟩ (As := [.int (zI 0)]) (rest := []) (Nat.le_of_ble_eq_true rfl) rfl ⟨Nat.le_of_ble_eq_true rfl, Nat.le_of_ble_eq_true rfl⟩ (dk DX6_statusesWith_0k 35 rfl) ⟨rfl, rfl⟩ (wb := fun u22 => [(m0, .inr (6, [.ref m1, .ref m2, .ref m3, .int (zI ((sv : Nat) : Int)), .int (zI 0), .ref m4, .int (zI ((len : Nat) : Int)), .int (zI ((sp : Nat) : Int)), .int (zI nu), .int (zI rk), .int (zI rt), .int (zI ra), .ref m5, .ref m6, .int (zI bm), .ref m7, .ref m8, .ref m9, .ref m10, .long (zL ha)])), (m1, iA D 771 NW), (m2, iA D 3084 PA), (m3, iA D 771 AS), (m4, iA D 150 tb), (m5, iA D 250 st), (m6, iA D 250 bo), (m7, iA D 250 sh), (m8, iA D 36 f1), (m9, iA D 36 f2), (m10, iA D 2778 pk)]) [0, 1, 2, 3, 4, 5, 6, 7, 8, 9, 10] rfl (fun _ => rfl) (fun u22 hu22 => ?_)
              refine zz_ifb_eq hC 81 (dk DX6_statusesWith_0k 36 rfl) (by decide) (fun c23 => ?_) (fun c23 => ?_)
              · refine zz_aload_n hC 0 (dk DX6_statusesWith_0k 39 rfl) rfl rfl ?_
                refine zz_iload_n hC 2 (dk DX6_statusesWith_0k 40 rfl) rfl rfl ?_
                refine zz_iload_n hC 3 (dk DX6_statusesWith_0k 41 rfl) rfl rfl ?_
                refine zz_callVv hC (wr := []) (c_X6_shuts l D m0 m1 m2 m3 m4 m5 m6 m7 m8 m9 m10 NW PA AS tb st bo sh f1 f2 pk sv len sp 0 nu rk rt ra bm ha n w K T U S F L gl gw hN hg hs hw (by omega) (by omega)) G_X6_131 H_X6_shuts ⟨Nat.le_of_ble_eq_true rfl, Nat.le_of_ble_eq_true rfl⟩ rfl [0, 1, 2, 3, 4, 5, 6, 7, 8, 9, 10] [] rfl rfl ⟨rfl, rfl, by decide⟩ 0 6 ⟨rfl, rfl, rfl⟩ (As := [.int (zI gl), .int (zI gw)]) (rest := []) (Nat.le_of_ble_eq_true rfl) rfl ⟨Nat.le_of_ble_eq_true rfl, Nat.le_of_ble_eq_true rfl⟩ (dk DX6_statusesWith_0k 42 rfl) ⟨rfl, rfl⟩ (wb := fun u24 => [(m0, .inr (6, [.ref m1, .ref m2, .ref m3, .int (zI ((sv : Nat) : Int)), .int (zI 0), .ref m4, .int (zI ((len : Nat) : Int)), .int (zI ((sp : Nat) : Int)), .int (zI nu), .int (zI rk), .int (zI rt), .int (zI ra), .ref m5, .ref m6, .int (zI bm), .ref m7, .ref m8, .ref m9, .ref m10, .long (zL ha)])), (m1, iA D 771 NW), (m2, iA D 3084 PA), (m3, iA D 771 AS), (m4, iA D 150 tb), (m5, iA D 250 st), (m6, iA D 250 bo), (m7, iA D 250 u24), (m8, iA D 36 f1), (m9, iA D 36 f2), (m10, iA D 2778 pk)]) [0, 1, 2, 3, 4, 5, 6, 7, 8, 9, 10] rfl (fun _ => rfl) (fun u24 hu24 => ?_)
                refine zz_aload_n hC 0 (dk DX6_statusesWith_0k 43 rfl) rfl rfl ?_
                refine zz_iload_n hC 1 (dk DX6_statusesWith_0k 44 rfl) rfl rfl ?_
                refine zz_iload hC 4 (dk DX6_statusesWith_0k 45 rfl) rfl ?_
                refine zz_callVv hC (wr := []) (c_X6_lays l D m0 m1 m2 m3 m4 m5 m6 m7 m8 m9 m10 NW PA AS tb st bo u24 f1 f2 pk sv len sp 0 nu rk rt ra bm ha n w K T U S F L (zGat n K T U gl gw) lv dt hN hg hs hw hu24 (by omega) (by omega)) G_X6_135 H_X6_lays ⟨Nat.le_of_ble_eq_true rfl, Nat.le_of_ble_eq_true rfl⟩ rfl [0, 1, 2, 3, 4, 5, 6, 7, 8, 9, 10] [] rfl rfl ⟨rfl, rfl, by decide⟩ 0 6 ⟨rfl, rfl, rfl⟩ (As := [.int (zI lv), .int (zI dt)]) (rest := []) (Nat.le_of_ble_eq_true rfl) rfl ⟨Nat.le_of_ble_eq_true rfl, Nat.le_of_ble_eq_true rfl⟩ (dk DX6_statusesWith_0k 46 rfl) ⟨rfl, rfl⟩ (wb := fun u25 => [(m0, .inr (6, [.ref m1, .ref m2, .ref m3, .int (zI ((sv : Nat) : Int)), .int (zI 0), .ref m4, .int (zI ((len : Nat) : Int)), .int (zI ((sp : Nat) : Int)), .int (zI nu), .int (zI rk), .int (zI rt), .int (zI ra), .ref m5, .ref m6, .int (zI bm), .ref m7, .ref m8, .ref m9, .ref m10, .long (zL ha)])), (m1, iA D 771 NW), (m2, iA D 3084 PA), (m3, iA D 771 AS), (m4, iA D 150 tb), (m5, iA D 250 u25), (m6, iA D 250 bo), (m7, iA D 250 u24), (m8, iA D 36 f1), (m9, iA D 36 f2), (m10, iA D 2778 pk)]) [0, 1, 2, 3, 4, 5, 6, 7, 8, 9, 10] rfl (fun _ => rfl) (fun u25 hu25 => ?_)
                refine zz_aload_n hC 0 (dk DX6_statusesWith_0k 47 rfl) rfl rfl ?_
                refine zz_iload hC 5 (dk DX6_statusesWith_0k 48 rfl) rfl ?_
                refine zz_pureVi hC (c_X6_manyOf l D m0 m1 m2 m3 m4 m5 m6 m7 m8 m9 m10 NW PA AS tb u25 bo u24 f1 f2 pk sv len sp 0 nu rk rt ra bm ha n w K T U S F L x hN hg (fun j hj => by rw [hu25 j hj]; exact zSt_in hK hj) (by omega)) G_X6_151 H_X6_manyOf ⟨Nat.le_of_ble_eq_true rfl, Nat.le_of_ble_eq_true rfl⟩ rfl [0, 1, 2, 3, 4, 5, 6, 7, 8, 9, 10] rfl rfl 0 6 ⟨rfl, rfl, rfl⟩ (As := [.int (zI x)]) (rest := []) (Nat.le_of_ble_eq_true rfl) rfl ⟨Nat.le_of_ble_eq_true rfl, Nat.le_of_ble_eq_true rfl⟩ (dk DX6_statusesWith_0k 49 rfl) ⟨rfl, rfl⟩ ?_
                have hf26 := zCt_in (P := fun a => decide (u25 a = x)) (n := n)
                exact zz_iret hC hQ hr (u25, bo, u24, f1, f2, pk, bm, 0, ha, (zCt (fun a => decide (u25 a = x)) n)) (Or.inl ⟨(by unfold zOkW; omega), rfl, (zCt_cg (fun j hj => by show decide _ = decide _; rw [hu25 j hj]))⟩) rfl [0, 1, 2, 3, 4, 5, 6, 7, 8, 9, 10] rfl rfl ⟨Nat.le_refl _, Nat.le_refl _⟩ (dk DX6_statusesWith_0k 50 rfl)
              · exfalso; omega
