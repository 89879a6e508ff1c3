set_option maxHeartbeats 4000000 in
set_option maxRecDepth 100000 in
theorem c_X6_tellPulse (l : Launch) (D : zG) (m0 : Nat) (m1 : Nat) (m2 : Nat) (m3 : Nat) (m4 : Nat) (m5 : Nat) (m6 : Nat) (m7 : Nat) (m8 : Nat) (m9 : Nat) (m10 : Nat) (NW : Nat → Int) (PA : Nat → Int) (AS : Nat → Int) (tb : Nat → Int) (st : Nat → Int) (bo : Nat → Int) (sh : Nat → Int) (f1 : Nat → Int) (f2 : Nat → Int) (pk : Nat → Int) (sv : Nat) (len : Nat) (sp : Nat) (rf : Int) (nu : Int) (rk : Int) (rt : Int) (ra : Int) (bm : Int) (ha : Int) (n : Nat) (w : Nat) (K : Nat → Int) (T : Nat → Int) (U : Nat → Int) (S : Nat → Int) (F : Nat → Int) (L : Nat → Int) (k : Nat) (x : Int) (hN : zRow NW n K T U S F L w) (hg : zLog n K T U) (hs : zSet S) (hk : k < n) (hx : -2147483648 ≤ x ∧ x ≤ 2147483647) : CI (S := Unit) l yX6_tellPulse cX6_tellPulse 3 ((some .int)) ({ frames := 2, cells := 0, slots := 0, locals := 45 } : Room) D [.ref m0, .int (zI ((k : Nat) : Int)), .int (zI x)] [(m0, .inr (6, [.ref m1, .ref m2, .ref m3, .int (zI ((sv : Nat) : Int)), .int (zI rf), .ref m4, .int (zI ((len : Nat) : Int)), .int (zI ((sp : Nat) : Int)), .int (zI nu), .int (zI rk), .int (zI rt), .int (zI ra), .ref m5, .ref m6, .int (zI bm), .ref m7, .ref m8, .ref m9, .ref m10, .long (zL ha)])), (m1, iA D 771 NW), (m2, iA D 3084 PA), (m3, iA D 771 AS), (m4, iA D 150 tb), (m5, iA D 250 st), (m6, iA D 250 bo), (m7, iA D 250 sh), (m8, iA D 36 f1), (m9, iA D 36 f2), (m10, iA D 2778 pk)] (fun _ => True) (fun _ => (zAp K T U S (zCh n K U S) st bo x k)) (fun _ => [(m0, .inr (6, [.ref m1, .ref m2, .ref m3, .int (zI ((sv : Nat) : Int)), .int (zI rf), .ref m4, .int (zI ((len : Nat) : Int)), .int (zI ((sp : Nat) : Int)), .int (zI nu), .int (zI rk), .int (zI rt), .int (zI ra), .ref m5, .ref m6, .int (zI bm), .ref m7, .ref m8, .ref m9, .ref m10, .long (zL ha)])), (m1, iA D 771 NW), (m2, iA D 3084 PA), (m3, iA D 771 AS), (m4, iA D 150 tb), (m5, iA D 250 st), (m6, iA D 250 bo), (m7, iA D 250 sh), (m8, iA D 36 f1), (m9, iA D 36 f2), (m10, iA D 2778 pk)]) := by
  refine CI_of (by decide) (Nat.le_of_ble_eq_true rfl) ?_
  intro p e s m args below meth cd A Q hQ hC hr hnm
  have hC : ZC p s m args meth cd A D 3 cX6_tellPulse RX6 := hC
  have hg0 := hg
  obtain ⟨hn, hK, hT, hU, hM⟩ := hg0
  show Z p l e ({ frames := 2, cells := 0, slots := 0, locals := 45 } : Room) s m args below meth cd A D Q 3 0 0 [(m0, .inr (6, [.ref m1, .ref m2, .ref m3, .int (zI ((sv : Nat) : Int)), .int (zI rf), .ref m4, .int (zI ((len : Nat) : Int)), .int (zI ((sp : Nat) : Int)), .int (zI nu), .int (zI rk), .int (zI rt), .int (zI ra), .ref m5, .ref m6, .int (zI bm), .ref m7, .ref m8, .ref m9, .ref m10, .long (zL ha)])), (m1, iA D 771 NW), (m2, iA D 3084 PA), (m3, iA D 771 AS), (m4, iA D 150 tb), (m5, iA D 250 st), (m6, iA D 250 bo), (m7, iA D 250 sh), (m8, iA D 36 f1), (m9, iA D 36 f2), (m10, iA D 2778 pk)] [(0, .ref m0), (1, .int (zI ((k : Nat) : Int))), (2, .int (zI x))] [] 0
  refine zz_iload_n hC 2 (dk DX6_tellPulse_0k 0 rfl) rfl rfl ?_
  rcases (show x = 0 ∨ x = 1 ∨ x = 2 ∨ x = 3 ∨ x = 4 ∨ x = 5 ∨ (x < 0 ∨ 5 < x) by omega) with sw1 | sw1 | sw1 | sw1 | sw1 | sw1 | sw1
  · refine zz_tabIn hC 40 (dk DX6_tellPulse_0k 1 rfl) 0 rfl sw1 rfl (by decide) ?_
    refine zz_aload_n hC 0 (dk DX6_tellPulse_0k 2 rfl) rfl rfl ?_
    refine zz_iload_n hC 1 (dk DX6_tellPulse_0k 3 rfl) rfl rfl ?_
    refine zz_pureVi hC (c_X6_kind l D m0 m1 m2 m3 m4 m5 m6 m7 m8 m9 m10 NW PA AS tb st bo sh f1 f2 pk sv len sp rf nu rk rt ra bm ha n w K T U S F L k hN hg (by omega)) G_X6_116 H_X6_kind ⟨Nat.le_of_ble_eq_true rfl, Nat.le_of_ble_eq_true rfl⟩ rfl [0, 1, 2, 3, 4, 5, 6, 7, 8, 9, 10] rfl rfl 0 6 ⟨rfl, rfl, rfl⟩ (As := [.int (zI ((k : Nat) : Int))]) (rest := []) (Nat.le_of_ble_eq_true rfl) rfl ⟨Nat.le_of_ble_eq_true rfl, Nat.le_of_ble_eq_true rfl⟩ (dk DX6_tellPulse_0k 4 rfl) ⟨rfl, rfl⟩ ?_
    have hf2 := hK k (by omega)
    exact zz_iret hC hQ hr () trivial (by unfold zAp; rw [if_pos (by omega)]) [0, 1, 2, 3, 4, 5, 6, 7, 8, 9, 10] rfl rfl ⟨Nat.le_refl _, Nat.le_refl _⟩ (dk DX6_tellPulse_0k 5 rfl)
  · refine zz_tabIn hC 46 (dk DX6_tellPulse_0k 1 rfl) 1 rfl sw1 rfl (by decide) ?_
    refine zz_aload_n hC 0 (dk DX6_tellPulse_0k 6 rfl) rfl rfl ?_
    refine zz_iload_n hC 1 (dk DX6_tellPulse_0k 7 rfl) rfl rfl ?_
    refine zz_pureVi hC (c_X6_time l D m0 m1 m2 m3 m4 m5 m6 m7 m8 m9 m10 NW PA AS tb st bo sh f1 f2 pk sv len sp rf nu rk rt ra bm ha n w K T U S F L k hN hg (by omega)) G_X6_69 H_X6_time ⟨Nat.le_of_ble_eq_true rfl, Nat.le_of_ble_eq_true rfl⟩ rfl [0, 1, 2, 3, 4, 5, 6, 7, 8, 9, 10] rfl rfl 0 6 ⟨rfl, rfl, rfl⟩ (As := [.int (zI ((k : Nat) : Int))]) (rest := []) (Nat.le_of_ble_eq_true rfl) rfl ⟨Nat.le_of_ble_eq_true rfl, Nat.le_of_ble_eq_true rfl⟩ (dk DX6_tellPulse_0k 8 rfl) ⟨rfl, rfl⟩ ?_
    have hf3 := hT k (by omega)
    exact zz_iret hC hQ hr () trivial (by unfold zAp; rw [if_neg (by omega), if_pos (by omega)]) [0, 1, 2, 3, 4, 5, 6, 7, 8, 9, 10] rfl rfl ⟨Nat.le_refl _, Nat.le_refl _⟩ (dk DX6_tellPulse_0k 9 rfl)
  · refine zz_tabIn hC 52 (dk DX6_tellPulse_0k 1 rfl) 2 rfl sw1 rfl (by decide) ?_
    refine zz_aload_n hC 0 (dk DX6_tellPulse_0k 10 rfl) rfl rfl ?_
    refine zz_iload_n hC 1 (dk DX6_tellPulse_0k 11 rfl) rfl rfl ?_
    refine zz_pureVi hC (c_X6_amplitude l D m0 m1 m2 m3 m4 m5 m6 m7 m8 m9 m10 NW PA AS tb st bo sh f1 f2 pk sv len sp rf nu rk rt ra bm ha n w K T U S F L k hN hg (by omega)) G_X6_119 H_X6_amplitude ⟨Nat.le_of_ble_eq_true rfl, Nat.le_of_ble_eq_true rfl⟩ rfl [0, 1, 2, 3, 4, 5, 6, 7, 8, 9, 10] rfl rfl 0 6 ⟨rfl, rfl, rfl⟩ (As := [.int (zI ((k : Nat) : Int))]) (rest := []) (Nat.le_of_ble_eq_true rfl) rfl ⟨Nat.le_of_ble_eq_true rfl, Nat.le_of_ble_eq_true rfl⟩ (dk DX6_tellPulse_0k 12 rfl) ⟨rfl, rfl⟩ ?_
    have hf4 := hU k (by omega)
    exact zz_iret hC hQ hr () trivial (by unfold zAp; rw [if_neg (by omega), if_neg (by omega), if_pos (by omega)]) [0, 1, 2, 3, 4, 5, 6, 7, 8, 9, 10] rfl rfl ⟨Nat.le_refl _, Nat.le_refl _⟩ (dk DX6_tellPulse_0k 13 rfl)
  · refine zz_tabIn hC 58 (dk DX6_tellPulse_0k 1 rfl) 3 rfl sw1 rfl (by decide) ?_
    refine zz_aload_n hC 0 (dk DX6_tellPulse_0k 14 rfl) rfl rfl ?_
    refine zz_iload_n hC 1 (dk DX6_tellPulse_0k 15 rfl) rfl rfl ?_
    refine zz_pureVi hC (c_X6_phase l D m0 m1 m2 m3 m4 m5 m6 m7 m8 m9 m10 NW PA AS tb st bo sh f1 f2 pk sv len sp rf nu rk rt ra bm ha n w K T U S F L k hN hg hs (by omega)) G_X6_113 H_X6_phase ⟨Nat.le_of_ble_eq_true rfl, Nat.le_of_ble_eq_true rfl⟩ rfl [0, 1, 2, 3, 4, 5, 6, 7, 8, 9, 10] rfl rfl 0 6 ⟨rfl, rfl, rfl⟩ (As := [.int (zI ((k : Nat) : Int))]) (rest := []) (Nat.le_of_ble_eq_true rfl) rfl ⟨Nat.le_of_ble_eq_true rfl, Nat.le_of_ble_eq_true rfl⟩ (dk DX6_tellPulse_0k 16 rfl) ⟨rfl, rfl⟩ ?_
    have hf5 := (show 0 ≤ zPh T S k ∧ zPh T S k < 360 from zPh_in)
    exact zz_iret hC hQ hr () trivial (by unfold zAp; rw [if_neg (by omega), if_neg (by omega), if_neg (by omega), if_pos (by omega)]) [0, 1, 2, 3, 4, 5, 6, 7, 8, 9, 10] rfl rfl ⟨Nat.le_refl _, Nat.le_refl _⟩ (dk DX6_tellPulse_0k 17 rfl)
  · refine zz_tabIn hC 64 (dk DX6_tellPulse_0k 1 rfl) 4 rfl sw1 rfl (by decide) ?_
    refine zz_aload_n hC 0 (dk DX6_tellPulse_0k 18 rfl) rfl rfl ?_
    refine zz_iload_n hC 1 (dk DX6_tellPulse_0k 19 rfl) rfl rfl ?_
    refine zz_pureVi hC (c_X6_charge l D m0 m1 m2 m3 m4 m5 m6 m7 m8 m9 m10 NW PA AS tb st bo sh f1 f2 pk sv len sp rf nu rk rt ra bm ha n w K T U S F L k hN hg hs (by omega)) G_X6_141 H_X6_charge ⟨Nat.le_of_ble_eq_true rfl, Nat.le_of_ble_eq_true rfl⟩ rfl [0, 1, 2, 3, 4, 5, 6, 7, 8, 9, 10] rfl rfl 0 6 ⟨rfl, rfl, rfl⟩ (As := [.int (zI ((k : Nat) : Int))]) (rest := []) (Nat.le_of_ble_eq_true rfl) rfl ⟨Nat.le_of_ble_eq_true rfl, Nat.le_of_ble_eq_true rfl⟩ (dk DX6_tellPulse_0k 20 rfl) ⟨rfl, rfl⟩ ?_
    have hf6 := zCh_in (K := K) (U := U) (S := S) hn hU hs.2.1 (show k < n by omega)
    exact zz_iret hC hQ hr () trivial (by unfold zAp; rw [if_neg (by omega), if_neg (by omega), if_neg (by omega), if_neg (by omega), if_pos (by omega)]) [0, 1, 2, 3, 4, 5, 6, 7, 8, 9, 10] rfl rfl ⟨Nat.le_refl _, Nat.le_refl _⟩ (dk DX6_tellPulse_0k 21 rfl)
  · refine zz_tabIn hC 70 (dk DX6_tellPulse_0k 1 rfl) 5 rfl sw1 rfl (by decide) ?_
    refine zz_aload_n hC 0 (dk DX6_tellPulse_0k 22 rfl) rfl rfl ?_
    refine zz_get hC F_X6_22 0 rfl rfl (dk DX6_tellPulse_0k 23 rfl) ?_
    refine zz_iload_n hC 1 (dk DX6_tellPulse_0k 24 rfl) rfl rfl ?_
    refine zz_iald hC k 5 rfl rfl (by omega) (dk DX6_tellPulse_0k 25 rfl) ?_
    exact zz_iret hC hQ hr () trivial (by unfold zAp; rw [if_neg (by omega), if_neg (by omega), if_neg (by omega), if_neg (by omega), if_neg (by omega), if_pos (by omega)]) [0, 1, 2, 3, 4, 5, 6, 7, 8, 9, 10] rfl rfl ⟨Nat.le_refl _, Nat.le_refl _⟩ (dk DX6_tellPulse_0k 26 rfl)
  · refine zz_tabOut hC 77 (dk DX6_tellPulse_0k 1 rfl) ⟨by omega, by omega⟩ sw1 (by decide) ?_
    refine zz_aload_n hC 0 (dk DX6_tellPulse_0k 27 rfl) rfl rfl ?_
    refine zz_get hC F_X6_25 0 rfl rfl (dk DX6_tellPulse_0k 28 rfl) ?_
    refine zz_iload_n hC 1 (dk DX6_tellPulse_0k 29 rfl) rfl rfl ?_
    refine zz_iald hC k 6 rfl rfl (by omega) (dk DX6_tellPulse_0k 30 rfl) ?_
    exact zz_iret hC hQ hr () trivial (by unfold zAp; rw [if_neg (by omega), if_neg (by omega), if_neg (by omega), if_neg (by omega), if_neg (by omega), if_neg (by omega)]) [0, 1, 2, 3, 4, 5, 6, 7, 8, 9, 10] rfl rfl ⟨Nat.le_refl _, Nat.le_refl _⟩ (dk DX6_tellPulse_0k 31 rfl)
set_option maxHeartbeats 4000000 in
set_option maxRecDepth 100000 in
theorem c_X6_classOf (l : Launch) (D : zG) (m0 : Nat) (m1 : Nat) (m2 : Nat) (m3 : Nat) (m4 : Nat) (m5 : Nat) (m6 : Nat) (m7 : Nat) (m8 : Nat) (m9 : Nat) (m10 : Nat) (NW : Nat → Int) (PA : Nat → Int) (AS : Nat → Int) (tb : Nat → Int) (st : Nat → Int) (bo : Nat → Int) (sh : Nat → Int) (f1 : Nat → Int) (f2 : Nat → Int) (pk : Nat → Int) (sv : Nat) (len : Nat) (sp : Nat) (rf : Int) (nu : Int) (rk : Int) (rt : Int) (ra : Int) (bm : Int) (ha : Int) (n : Nat) (w : Nat) (K : Nat → Int) (T : Nat → Int) (U : Nat → Int) (S : Nat → Int) (F : Nat → Int) (L : Nat → Int) (k : Nat) (hN : zRow NW n K T U S F L w) (hg : zLog n K T U) (hs : zSet S) (hk : k < n) : CI (S := Unit) l yX6_classOf cX6_classOf 3 ((some .int)) ({ frames := 2, cells := 0, slots := 0, locals := 45 } : Room) D [.ref m0, .int (zI ((k : Nat) : Int))] [(m0, .inr (6, [.ref m1, .ref m2, .ref m3, .int (zI ((sv : Nat) : Int)), .int (zI rf), .ref m4, .int (zI ((len : Nat) : Int)), .int (zI ((sp : Nat) : Int)), .int (zI nu), .int (zI rk), .int (zI rt), .int (zI ra), .ref m5, .ref m6, .int (zI bm), .ref m7, .ref m8, .ref m9, .ref m10, .long (zL ha)])), (m1, iA D 771 NW), (m2, iA D 3084 PA), (m3, iA D 771 AS), (m4, iA D 150 tb), (m5, iA D 250 st), (m6, iA D 250 bo), (m7, iA D 250 sh), (m8, iA D 36 f1), (m9, iA D 36 f2), (m10, iA D 2778 pk)] (fun _ => True) (fun _ => (min (zCh n K U S k / S 6) 15)) (fun _ => [(m0, .inr (6, [.ref m1, .ref m2, .ref m3, .int (zI ((sv : Nat) : Int)), .int (zI rf), .ref m4, .int (zI ((len : Nat) : Int)), .int (zI ((sp : Nat) : Int)), .int (zI nu), .int (zI rk), .int (zI rt), .int (zI ra), .ref m5, .ref m6, .int (zI bm), .ref m7, .ref m8, .ref m9, .ref m10, .long (zL ha)])), (m1, iA D 771 NW), (m2, iA D 3084 PA), (m3, iA D 771 AS), (m4, iA D 150 tb), (m5, iA D 250 st), (m6, iA D 250 bo), (m7, iA D 250 sh), (m8, iA D 36 f1), (m9, iA D 36 f2), (m10, iA D 2778 pk)]) := by
  refine CI_of (by decide) (Nat.le_of_ble_eq_true rfl) ?_
  intro p e s m args below meth cd A Q hQ hC hr hnm
  have hC : ZC p s m args meth cd A D 3 cX6_classOf RX6 := hC
  have hg0 := hg
  obtain ⟨hn, hK, hT, hU, hM⟩ := hg0
  have hs6 := hs.2.2.2.2.2.2.1
  have hc0 := zCh_in (K := K) (U := U) (S := S) hn hU hs.2.1 hk
  have hd0 := Int.ediv_nonneg hc0.1 (show 0 ≤ S 6 by omega)
  have hd1 := Int.ediv_le_self (S 6) hc0.1
  show Z p l e ({ frames := 2, cells := 0, slots := 0, locals := 45 } : Room) s m args below meth cd A D Q 3 0 0 [(m0, .inr (6, [.ref m1, .ref m2, .ref m3, .int (zI ((sv : Nat) : Int)), .int (zI rf), .ref m4, .int (zI ((len : Nat) : Int)), .int (zI ((sp : Nat) : Int)), .int (zI nu), .int (zI rk), .int (zI rt), .int (zI ra), .ref m5, .ref m6, .int (zI bm), .ref m7, .ref m8, .ref m9, .ref m10, .long (zL ha)])), (m1, iA D 771 NW), (m2, iA D 3084 PA), (m3, iA D 771 AS), (m4, iA D 150 tb), (m5, iA D 250 st), (m6, iA D 250 bo), (m7, iA D 250 sh), (m8, iA D 36 f1), (m9, iA D 36 f2), (m10, iA D 2778 pk)] [(0, .ref m0), (1, .int (zI ((k : Nat) : Int)))] [] 0
  refine zz_aload_n hC 0 (dk DX6_classOf_0k 0 rfl) rfl rfl ?_
  refine zz_iload_n hC 1 (dk DX6_classOf_0k 1 rfl) rfl rfl ?_
  refine zz_pureVi hC (c_X6_charge l D m0 m1 m2 m3 m4 m5 m6 m7 m8 m9 m10 NW PA AS tb st bo sh f1 f2 pk sv len sp rf nu rk rt ra bm ha n w K T U S F L k hN hg hs (by omega)) G_X6_141 H_X6_charge ⟨Nat.le_of_ble_eq_true rfl, Nat.le_of_ble_eq_true rfl⟩ rfl [0, 1, 2, 3, 4, 5, 6, 7, 8, 9, 10] rfl rfl 0 6 ⟨rfl, rfl, rfl⟩ (As := [.int (zI ((k : Nat) : Int))]) (rest := []) (Nat.le_of_ble_eq_true rfl) rfl ⟨Nat.le_of_ble_eq_true rfl, Nat.le_of_ble_eq_true rfl⟩ (dk DX6_classOf_0k 2 rfl) ⟨rfl, rfl⟩ ?_
  have hf1 := zCh_in (K := K) (U := U) (S := S) hn hU hs.2.1 (show k < n by omega)
  refine zz_aload_n hC 0 (dk DX6_classOf_0k 3 rfl) rfl rfl ?_
  refine zz_get hC F_X6_7 0 rfl rfl (dk DX6_classOf_0k 4 rfl) ?_
  refine zz_bipush hC (dk DX6_classOf_0k 5 rfl) (by decide) ?_
  refine zz_iald hC 6 1 rfl rfl (by omega) (dk DX6_classOf_0k 6 rfl) ?_
  rw [hN.1 6 (by omega)]
  have hf2 := zSet_in hs 6 (by omega)
  refine zz_idiv hC (dk DX6_classOf_0k 7 rfl) ⟨⟨⟨by omega, by omega⟩, ⟨by omega, by omega⟩⟩, by omega, by omega⟩ ?_
  refine zz_istore_n hC (ls' := [(0, .ref m0), (1, .int (zI ((k : Nat) : Int))), (2, .int (zI ((zCh n K U S k) / (S 6))))]) [1, 2, 0] (dk DX6_classOf_0k 8 rfl) rfl (by decide) rfl ?_
  refine zz_iload_n hC 2 (dk DX6_classOf_0k 9 rfl) rfl rfl ?_
  refine zz_bipush hC (dk DX6_classOf_0k 10 rfl) (by decide) ?_
  refine zz_icmp_le hC 25 (dk DX6_classOf_0k 11 rfl) (by decide) ⟨⟨by omega, by omega⟩, (by decide)⟩ (fun c3 => ?_) (fun c3 => ?_)
  · refine zz_iload_n hC 2 (dk DX6_classOf_0k 14 rfl) rfl rfl ?_
    exact zz_iret hC hQ hr () trivial (by omega) [0, 1, 2, 3, 4, 5, 6, 7, 8, 9, 10] rfl rfl ⟨Nat.le_refl _, Nat.le_refl _⟩ (dk DX6_classOf_0k 15 rfl)
  · refine zz_bipush hC (dk DX6_classOf_0k 12 rfl) (by decide) ?_
    refine zz_goto hC 26 (dk DX6_classOf_0k 13 rfl) (by decide) ?_
    exact zz_iret hC hQ hr () trivial (by omega) [0, 1, 2, 3, 4, 5, 6, 7, 8, 9, 10] rfl rfl ⟨Nat.le_refl _, Nat.le_refl _⟩ (dk DX6_classOf_0k 15 rfl)
set_option maxHeartbeats 4000000 in
set_option maxRecDepth 100000 in
theorem c_X6_isRange (l : Launch) (D : zG) (x : Int) (y : Int) (hri : (-2147483648 ≤ x ∧ x ≤ 2147483647) ∧ (-2147483648 ≤ y ∧ y ≤ 2147483647)) : CI (S := Unit) l yX6_isRange cX6_isRange 2 ((some .boolean)) ({ frames := 0, cells := 0, slots := 0, locals := 0 } : Room) D [.int (zI x), .int (zI y)] [] (fun _ => True) (fun _ => zB (0 ≤ x ∧ x ≤ y ∧ y ≤ 1000000)) (fun _ => []) := by
  refine CI_of (by decide) (Nat.le_of_ble_eq_true rfl) ?_
  intro p e s m args below meth cd A Q hQ hC hr hnm
  have hC : ZC p s m args meth cd A D 2 cX6_isRange RX6 := hC
  show Z p l e ({ frames := 0, cells := 0, slots := 0, locals := 0 } : Room) s m args below meth cd A D Q 2 0 0 [] [(0, .int (zI x)), (1, .int (zI y))] [] 0
  refine zz_iload_n hC 0 (dk DX6_isRange_0k 0 rfl) rfl rfl ?_
  refine zz_if_lt hC 19 (dk DX6_isRange_0k 1 rfl) (by decide) ⟨by omega, by omega⟩ (fun c1 => ?_) (fun c1 => ?_)
  · refine zz_iconst hC (dk DX6_isRange_0k 10 rfl) ?_
    exact zz_zret hC hQ hr () trivial (zB_f (show ¬ (0 ≤ x ∧ x ≤ y ∧ y ≤ 1000000) by omega)).symm (by decide) [] rfl rfl ⟨Nat.le_refl _, Nat.le_refl _⟩ (dk DX6_isRange_0k 11 rfl)
  · refine zz_iload_n hC 0 (dk DX6_isRange_0k 2 rfl) rfl rfl ?_
    refine zz_iload_n hC 1 (dk DX6_isRange_0k 3 rfl) rfl rfl ?_
    refine zz_icmp_gt hC 19 (dk DX6_isRange_0k 4 rfl) (by decide) ⟨⟨by omega, by omega⟩, ⟨by omega, by omega⟩⟩ (fun c2 => ?_) (fun c2 => ?_)
    · refine zz_iconst hC (dk DX6_isRange_0k 10 rfl) ?_
      exact zz_zret hC hQ hr () trivial (zB_f (show ¬ (0 ≤ x ∧ x ≤ y ∧ y ≤ 1000000) by omega)).symm (by decide) [] rfl rfl ⟨Nat.le_refl _, Nat.le_refl _⟩ (dk DX6_isRange_0k 11 rfl)
    · refine zz_iload_n hC 1 (dk DX6_isRange_0k 5 rfl) rfl rfl ?_
      refine zz_ldc hC 1000000 K_X6_76 (by decide) (dk DX6_isRange_0k 6 rfl) ?_
      refine zz_icmp_gt hC 19 (dk DX6_isRange_0k 7 rfl) (by decide) ⟨⟨by omega, by omega⟩, (by decide)⟩ (fun c3 => ?_) (fun c3 => ?_)
      · refine zz_iconst hC (dk DX6_isRange_0k 10 rfl) ?_
        exact zz_zret hC hQ hr () trivial (zB_f (show ¬ (0 ≤ x ∧ x ≤ y ∧ y ≤ 1000000) by omega)).symm (by decide) [] rfl rfl ⟨Nat.le_refl _, Nat.le_refl _⟩ (dk DX6_isRange_0k 11 rfl)
      · refine zz_iconst hC (dk DX6_isRange_0k 8 rfl) ?_
        refine zz_goto hC 20 (dk DX6_isRange_0k 9 rfl) (by decide) ?_
        exact zz_zret hC hQ hr () trivial (zB_t (show 0 ≤ x ∧ x ≤ y ∧ y ≤ 1000000 by omega)).symm (by decide) [] rfl rfl ⟨Nat.le_refl _, Nat.le_refl _⟩ (dk DX6_isRange_0k 11 rfl)
set_option maxHeartbeats 4000000 in
set_option maxRecDepth 100000 in
theorem c_X6_isIn (l : Launch) (D : zG) (m0 : Nat) (m1 : Nat) (m2 : Nat) (m3 : Nat) (m4 : Nat) (m5 : Nat) (m6 : Nat) (m7 : Nat) (m8 : Nat) (m9 : Nat) (m10 : Nat) (NW : Nat → Int) (PA : Nat → Int) (AS : Nat → Int) (tb : Nat → Int) (st : Nat → Int) (bo : Nat → Int) (sh : Nat → Int) (f1 : Nat → Int) (f2 : Nat → Int) (pk : Nat → Int) (sv : Nat) (len : Nat) (sp : Nat) (rf : Int) (nu : Int) (rk : Int) (rt : Int) (ra : Int) (bm : Int) (ha : Int) (n : Nat) (w : Nat) (K : Nat → Int) (T : Nat → Int) (U : Nat → Int) (S : Nat → Int) (F : Nat → Int) (L : Nat → Int) (k : Nat) (x : Int) (y : Int) (hN : zRow NW n K T U S F L w) (hg : zLog n K T U) (hst6 : ∀ j, j < n → 0 ≤ st j ∧ st j ≤ 6) (hk : k < n) (hxy : 0 ≤ x ∧ x ≤ y ∧ y ≤ 1000000) : CI (S := Unit) l yX6_isIn cX6_isIn 4 ((some .boolean)) ({ frames := 1, cells := 0, slots := 0, locals := 22 } : Room) D [.ref m0, .int (zI ((k : Nat) : Int)), .int (zI x), .int (zI y)] [(m0, .inr (6, [.ref m1, .ref m2, .ref m3, .int (zI ((sv : Nat) : Int)), .int (zI rf), .ref m4, .int (zI ((len : Nat) : Int)), .int (zI ((sp : Nat) : Int)), .int (zI nu), .int (zI rk), .int (zI rt), .int (zI ra), .ref m5, .ref m6, .int (zI bm), .ref m7, .ref m8, .ref m9, .ref m10, .long (zL ha)])), (m1, iA D 771 NW), (m2, iA D 3084 PA), (m3, iA D 771 AS), (m4, iA D 150 tb), (m5, iA D 250 st), (m6, iA D 250 bo), (m7, iA D 250 sh), (m8, iA D 36 f1), (m9, iA D 36 f2), (m10, iA D 2778 pk)] (fun _ => True) (fun _ => zB (zAr st T x y k = true)) (fun _ => [(m0, .inr (6, [.ref m1, .ref m2, .ref m3, .int (zI ((sv : Nat) : Int)), .int (zI rf), .ref m4, .int (zI ((len : Nat) : Int)), .int (zI ((sp : Nat) : Int)), .int (zI nu), .int (zI rk), .int (zI rt), .int (zI ra), .ref m5, .ref m6, .int (zI bm), .ref m7, .ref m8, .ref m9, .ref m10, .long (zL ha)])), (m1, iA D 771 NW), (m2, iA D 3084 PA), (m3, iA D 771 AS), (m4, iA D 150 tb), (m5, iA D 250 st), (m6, iA D 250 bo), (m7, iA D 250 sh), (m8, iA D 36 f1), (m9, iA D 36 f2), (m10, iA D 2778 pk)]) := by
  refine CI_of (by decide) (Nat.le_of_ble_eq_true rfl) ?_
  intro p e s m args below meth cd A Q hQ hC hr hnm
  have hC : ZC p s m args meth cd A D 4 cX6_isIn RX6 := hC
  have hg0 := hg
  obtain ⟨hn, hK, hT, hU, hM⟩ := hg0
  show Z p l e ({ frames := 1, cells := 0, slots := 0, locals := 22 } : Room) s m args below meth cd A D Q 4 0 0 [(m0, .inr (6, [.ref m1, .ref m2, .ref m3, .int (zI ((sv : Nat) : Int)), .int (zI rf), .ref m4, .int (zI ((len : Nat) : Int)), .int (zI ((sp : Nat) : Int)), .int (zI nu), .int (zI rk), .int (zI rt), .int (zI ra), .ref m5, .ref m6, .int (zI bm), .ref m7, .ref m8, .ref m9, .ref m10, .long (zL ha)])), (m1, iA D 771 NW), (m2, iA D 3084 PA), (m3, iA D 771 AS), (m4, iA D 150 tb), (m5, iA D 250 st), (m6, iA D 250 bo), (m7, iA D 250 sh), (m8, iA D 36 f1), (m9, iA D 36 f2), (m10, iA D 2778 pk)] [(0, .ref m0), (1, .int (zI ((k : Nat) : Int))), (2, .int (zI x)), (3, .int (zI y))] [] 0
  refine zz_aload_n hC 0 (dk DX6_isIn_0k 0 rfl) rfl rfl ?_
  refine zz_get hC F_X6_22 0 rfl rfl (dk DX6_isIn_0k 1 rfl) ?_
  refine zz_iload_n hC 1 (dk DX6_isIn_0k 2 rfl) rfl rfl ?_
  refine zz_iald hC k 5 rfl rfl (by omega) (dk DX6_isIn_0k 3 rfl) ?_
  have hf1 := hst6 k (by omega)
  refine zz_if_ne hC 26 (dk DX6_isIn_0k 4 rfl) (by decide) ⟨by omega, by omega⟩ (fun c2 => ?_) (fun c2 => ?_)
  · refine zz_iconst hC (dk DX6_isIn_0k 14 rfl) ?_
    exact zz_zret hC hQ hr () trivial (zB_f (by unfold zAr; simp only [decide_eq_true_eq]; omega)).symm (by decide) [0, 1, 2, 3, 4, 5, 6, 7, 8, 9, 10] rfl rfl ⟨Nat.le_refl _, Nat.le_refl _⟩ (dk DX6_isIn_0k 15 rfl)
  · refine zz_aload_n hC 0 (dk DX6_isIn_0k 5 rfl) rfl rfl ?_
    refine zz_iload_n hC 1 (dk DX6_isIn_0k 6 rfl) rfl rfl ?_
    refine zz_pureVi hC (c_X6_time l D m0 m1 m2 m3 m4 m5 m6 m7 m8 m9 m10 NW PA AS tb st bo sh f1 f2 pk sv len sp rf nu rk rt ra bm ha n w K T U S F L k hN hg (by omega)) G_X6_69 H_X6_time ⟨Nat.le_of_ble_eq_true rfl, Nat.le_of_ble_eq_true rfl⟩ rfl [0, 1, 2, 3, 4, 5, 6, 7, 8, 9, 10] rfl rfl 0 6 ⟨rfl, rfl, rfl⟩ (As := [.int (zI ((k : Nat) : Int))]) (rest := []) (Nat.le_of_ble_eq_true rfl) rfl ⟨Nat.le_of_ble_eq_true rfl, Nat.le_of_ble_eq_true rfl⟩ (dk DX6_isIn_0k 7 rfl) ⟨rfl, rfl⟩ ?_
    have hf3 := hT k (by omega)
    refine zz_iload_n hC 2 (dk DX6_isIn_0k 8 rfl) rfl rfl ?_
    refine zz_iload_n hC 3 (dk DX6_isIn_0k 9 rfl) rfl rfl ?_
    refine zz_pureSi hC (c_X6_within l D (T k) x y (by omega)) G_X6_52 H_X6_within.2 ⟨Nat.le_of_ble_eq_true rfl, Nat.le_of_ble_eq_true rfl⟩ rfl [] rfl rfl (As := [.int (zI (T k)), .int (zI x), .int (zI y)]) (rest := []) (Nat.le_of_ble_eq_true rfl) rfl ⟨Nat.le_of_ble_eq_true rfl, Nat.le_of_ble_eq_true rfl⟩ (dk DX6_isIn_0k 10 rfl) ⟨rfl, rfl⟩ ?_
    refine zz_ifb_eq hC 26 (dk DX6_isIn_0k 11 rfl) (by decide) (fun c4 => ?_) (fun c4 => ?_)
    · refine zz_iconst hC (dk DX6_isIn_0k 14 rfl) ?_
      exact zz_zret hC hQ hr () trivial (zB_f (by unfold zAr; simp only [decide_eq_true_eq]; omega)).symm (by decide) [0, 1, 2, 3, 4, 5, 6, 7, 8, 9, 10] rfl rfl ⟨Nat.le_refl _, Nat.le_refl _⟩ (dk DX6_isIn_0k 15 rfl)
    · refine zz_iconst hC (dk DX6_isIn_0k 12 rfl) ?_
      refine zz_goto hC 27 (dk DX6_isIn_0k 13 rfl) (by decide) ?_
      exact zz_zret hC hQ hr () trivial (zB_t (by unfold zAr; exact decide_eq_true ⟨by omega, by omega, by omega⟩)).symm (by decide) [0, 1, 2, 3, 4, 5, 6, 7, 8, 9, 10] rfl rfl ⟨Nat.le_refl _, Nat.le_refl _⟩ (dk DX6_isIn_0k 15 rfl)
set_option maxHeartbeats 4000000 in
set_option maxRecDepth 100000 in
theorem c_X6_fills_m8 (l : Launch) (D : zG) (m0 : Nat) (m1 : Nat) (m2 : Nat) (m3 : Nat) (m4 : Nat) (m5 : Nat) (m6 : Nat) (m7 : Nat) (m8 : Nat) (m9 : Nat) (m10 : Nat) (NW : Nat → Int) (PA : Nat → Int) (AS : Nat → Int) (tb : Nat → Int) (st : Nat → Int) (bo : Nat → Int) (sh : Nat → Int) (f1 : Nat → Int) (f2 : Nat → Int) (pk : Nat → Int) (sv : Nat) (len : Nat) (sp : Nat) (rf : Int) (nu : Int) (rk : Int) (rt : Int) (ra : Int) (bm : Int) (ha : Int) (n : Nat) (w : Nat) (K : Nat → Int) (T : Nat → Int) (U : Nat → Int) (S : Nat → Int) (F : Nat → Int) (L : Nat → Int) (x : Int) (y : Int) (hN : zRow NW n K T U S F L w) (hg : zLog n K T U) (hs : zSet S) (hst6 : ∀ j, j < n → 0 ≤ st j ∧ st j ≤ 6) (hxy : 0 ≤ x ∧ x ≤ y ∧ y ≤ 1000000) : CI (S := Nat → Int) l yX6_fills cX6_fills 6 ((some .int)) ({ frames := 2, cells := 0, slots := 0, locals := 45 } : Room) D [.ref m0, .ref m8, .int (zI x), .int (zI y)] [(m0, .inr (6, [.ref m1, .ref m2, .ref m3, .int (zI ((sv : Nat) : Int)), .int (zI rf), .ref m4, .int (zI ((len : Nat) : Int)), .int (zI ((sp : Nat) : Int)), .int (zI nu), .int (zI rk), .int (zI rt), .int (zI ra), .ref m5, .ref m6, .int (zI bm), .ref m7, .ref m8, .ref m9, .ref m10, .long (zL ha)])), (m1, iA D 771 NW), (m2, iA D 3084 PA), (m3, iA D 771 AS), (m4, iA D 150 tb), (m5, iA D 250 st), (m6, iA D 250 bo), (m7, iA D 250 sh), (m8, iA D 36 f1), (m9, iA D 36 f2), (m10, iA D 2778 pk)] (fun u => ∀ b : Nat, b < 36 → u b = zCt (fun a => zAr st T x y a && decide (zPh T S a / 10 = (b : Int))) n) (fun u => (zCt (zAr st T x y) n)) (fun u => [(m0, .inr (6, [.ref m1, .ref m2, .ref m3, .int (zI ((sv : Nat) : Int)), .int (zI rf), .ref m4, .int (zI ((len : Nat) : Int)), .int (zI ((sp : Nat) : Int)), .int (zI nu), .int (zI rk), .int (zI rt), .int (zI ra), .ref m5, .ref m6, .int (zI bm), .ref m7, .ref m8, .ref m9, .ref m10, .long (zL ha)])), (m1, iA D 771 NW), (m2, iA D 3084 PA), (m3, iA D 771 AS), (m4, iA D 150 tb), (m5, iA D 250 st), (m6, iA D 250 bo), (m7, iA D 250 sh), (m8, iA D 36 u), (m9, iA D 36 f2), (m10, iA D 2778 pk)]) := by
  refine CI_of (by decide) (Nat.le_of_ble_eq_true rfl) ?_
  intro p e s m args below meth cd A Q hQ hC hr hnm
  have hC : ZC p s m args meth cd A D 6 cX6_fills RX6 := hC
  have hg0 := hg
  obtain ⟨hn, hK, hT, hU, hM⟩ := hg0
  show Z p l e ({ frames := 2, cells := 0, slots := 0, locals := 45 } : Room) s m args below meth cd A D Q 6 0 0 [(m0, .inr (6, [.ref m1, .ref m2, .ref m3, .int (zI ((sv : Nat) : Int)), .int (zI rf), .ref m4, .int (zI ((len : Nat) : Int)), .int (zI ((sp : Nat) : Int)), .int (zI nu), .int (zI rk), .int (zI rt), .int (zI ra), .ref m5, .ref m6, .int (zI bm), .ref m7, .ref m8, .ref m9, .ref m10, .long (zL ha)])), (m1, iA D 771 NW), (m2, iA D 3084 PA), (m3, iA D 771 AS), (m4, iA D 150 tb), (m5, iA D 250 st), (m6, iA D 250 bo), (m7, iA D 250 sh), (m8, iA D 36 f1), (m9, iA D 36 f2), (m10, iA D 2778 pk)] [(0, .ref m0), (1, .ref m8), (2, .int (zI x)), (3, .int (zI y))] [] 0
  refine zz_iconst hC (dk DX6_fills_0k 0 rfl) ?_
  refine zz_istore hC (ls' := [(0, .ref m0), (1, .ref m8), (2, .int (zI x)), (3, .int (zI y)), (4, .int (zI 0))]) [1, 2, 3, 4, 0] (dk DX6_fills_0k 1 rfl) (by decide) rfl ?_
  have LP3 : ∀ (fuel3 : Nat) (i : Nat) (f8 : Nat → Int), (i ≤ 36) → (∀ j, j < i → f8 j = 0) → 36 - i < fuel3 → Z p l e ({ frames := 2, cells := 0, slots := 0, locals := 45 } : Room) s m args below meth cd A D Q 6 0 0 [(m0, .inr (6, [.ref m1, .ref m2, .ref m3, .int (zI ((sv : Nat) : Int)), .int (zI rf), .ref m4, .int (zI ((len : Nat) : Int)), .int (zI ((sp : Nat) : Int)), .int (zI nu), .int (zI rk), .int (zI rt), .int (zI ra), .ref m5, .ref m6, .int (zI bm), .ref m7, .ref m8, .ref m9, .ref m10, .long (zL ha)])), (m1, iA D 771 NW), (m2, iA D 3084 PA), (m3, iA D 771 AS), (m4, iA D 150 tb), (m5, iA D 250 st), (m6, iA D 250 bo), (m7, iA D 250 sh), (m8, iA D 36 f8), (m9, iA D 36 f2), (m10, iA D 2778 pk)] [(0, .ref m0), (1, .ref m8), (2, .int (zI x)), (3, .int (zI y)), (4, .int (zI ((i : Nat) : Int)))] [] 3 := by
    intro fuel3
    induction fuel3 with
    | zero => intro i f8 hi hf hfu; exact absurd hfu (Nat.not_lt_zero _)
    | succ fuel3 ih3 =>
      intro i f8 hi hf hfu3
      refine zz_iload hC 4 (dk DX6_fills_0k 2 rfl) rfl ?_
      refine zz_bipush hC (dk DX6_fills_0k 3 rfl) (by decide) ?_
      refine zz_icmp_ge hC 21 (dk DX6_fills_0k 4 rfl) (by decide) ⟨⟨by omega, by omega⟩, (by decide)⟩ (fun c1 => ?_) (fun c1 => ?_)
      · refine zz_iconst hC (dk DX6_fills_0k 11 rfl) ?_
        refine zz_istore hC (ls' := [(0, .ref m0), (1, .ref m8), (2, .int (zI x)), (3, .int (zI y)), (4, .int (zI 0))]) [1, 2, 3, 4, 0] (dk DX6_fills_0k 12 rfl) (by decide) rfl ?_
        refine zz_iconst hC (dk DX6_fills_0k 13 rfl) ?_
        refine zz_istore hC (ls' := [(0, .ref m0), (1, .ref m8), (2, .int (zI x)), (3, .int (zI y)), (4, .int (zI 0)), (5, .int (zI 0))]) [1, 2, 3, 4, 5, 0] (dk DX6_fills_0k 14 rfl) (by decide) rfl ?_
        have LP27 : ∀ (fuel27 : Nat) (i : Nat) (c : Int) (f9 : Nat → Int), (i ≤ n) → (c = zCt (zAr st T x y) i) → (∀ b : Nat, b < 36 → f9 b = zCt (fun a => zAr st T x y a && decide (zPh T S a / 10 = (b : Int))) i) → n - i < fuel27 → Z p l e ({ frames := 2, cells := 0, slots := 0, locals := 45 } : Room) s m args below meth cd A D Q 6 0 0 [(m0, .inr (6, [.ref m1, .ref m2, .ref m3, .int (zI ((sv : Nat) : Int)), .int (zI rf), .ref m4, .int (zI ((len : Nat) : Int)), .int (zI ((sp : Nat) : Int)), .int (zI nu), .int (zI rk), .int (zI rt), .int (zI ra), .ref m5, .ref m6, .int (zI bm), .ref m7, .ref m8, .ref m9, .ref m10, .long (zL ha)])), (m1, iA D 771 NW), (m2, iA D 3084 PA), (m3, iA D 771 AS), (m4, iA D 150 tb), (m5, iA D 250 st), (m6, iA D 250 bo), (m7, iA D 250 sh), (m8, iA D 36 f9), (m9, iA D 36 f2), (m10, iA D 2778 pk)] [(0, .ref m0), (1, .ref m8), (2, .int (zI x)), (3, .int (zI y)), (4, .int (zI c)), (5, .int (zI ((i : Nat) : Int)))] [] 27 := by
          intro fuel27
          induction fuel27 with
          | zero => intro i c f9 hi hc hf hfu; exact absurd hfu (Nat.not_lt_zero _)
          | succ fuel27 ih27 =>
            intro i c f9 hi hc hf hfu27
            have hph := zPh_in (T := T) (S := S) (k := i)
            refine zz_iload hC 5 (dk DX6_fills_0k 15 rfl) rfl ?_
            refine zz_aload_n hC 0 (dk DX6_fills_0k 16 rfl) rfl rfl ?_
            refine zz_get hC F_X6_7 0 rfl rfl (dk DX6_fills_0k 17 rfl) ?_
            refine zz_bipush hC (dk DX6_fills_0k 18 rfl) (by decide) ?_
            refine zz_iald hC 20 1 rfl rfl (by omega) (dk DX6_fills_0k 19 rfl) ?_
            rw [hN.2.2.2.1]
            refine zz_icmp_ge hC 74 (dk DX6_fills_0k 20 rfl) (by decide) ⟨⟨by omega, by omega⟩, ⟨by omega, by omega⟩⟩ (fun c2 => ?_) (fun c2 => ?_)
            · refine zz_iload hC 4 (dk DX6_fills_0k 41 rfl) rfl ?_
              exact zz_iret hC hQ hr f9 (fun b hb => by have e : i = n := (by omega); rw [e] at hf; exact hf b hb) (by rw [hc]; congr 1; omega) [0, 1, 2, 3, 4, 5, 6, 7, 8, 9, 10] rfl rfl ⟨Nat.le_refl _, Nat.le_refl _⟩ (dk DX6_fills_0k 42 rfl)
            · refine zz_aload_n hC 0 (dk DX6_fills_0k 21 rfl) rfl rfl ?_
              refine zz_iload hC 5 (dk DX6_fills_0k 22 rfl) rfl ?_
              refine zz_iload_n hC 2 (dk DX6_fills_0k 23 rfl) rfl rfl ?_
              refine zz_iload_n hC 3 (dk DX6_fills_0k 24 rfl) rfl rfl ?_
              refine zz_pureVi hC (c_X6_isIn l D m0 m1 m2 m3 m4 m5 m6 m7 m8 m9 m10 NW PA AS tb st bo sh f9 f2 pk sv len sp rf nu rk rt ra bm ha n w K T U S F L i x y hN hg hst6 (by omega) hxy) G_X6_157 H_X6_isIn ⟨Nat.le_of_ble_eq_true rfl, Nat.le_of_ble_eq_true rfl⟩ rfl [0, 1, 2, 3, 4, 5, 6, 7, 8, 9, 10] rfl rfl 0 6 ⟨rfl, rfl, rfl⟩ (As := [.int (zI ((i : Nat) : Int)), .int (zI x), .int (zI y)]) (rest := []) (Nat.le_of_ble_eq_true rfl) rfl ⟨Nat.le_of_ble_eq_true rfl, Nat.le_of_ble_eq_true rfl⟩ (dk DX6_fills_0k 25 rfl) ⟨rfl, rfl⟩ ?_
              refine zz_ifb_eq hC 68 (dk DX6_fills_0k 26 rfl) (by decide) (fun c3 => ?_) (fun c3 => ?_)
              · refine zz_iinc hC ((i + 1 : Nat) : Int) (ls' := [(0, .ref m0), (1, .ref m8), (2, .int (zI x)), (3, .int (zI y)), (4, .int (zI c)), (5, .int (zI ((i + 1 : Nat) : Int)))]) 5 [1, 2, 3, 4, 5, 0] (dk DX6_fills_0k 39 rfl) rfl (by omega) (by decide) rfl ?_
                refine zz_goto hC 27 (dk DX6_fills_0k 40 rfl) (by decide) ?_
                refine zz_ls [0, 1, 2, 3, 4, 5] rfl ?_
                exact ih27 (i + 1) c f9 (by omega) (zCt_k hc (by assumption)) (fb_k (V := fun a => zPh T S a / 10) hf (by assumption)) (by omega)
              · refine zz_aload_n hC 1 (dk DX6_fills_0k 27 rfl) rfl rfl ?_
                refine zz_aload_n hC 0 (dk DX6_fills_0k 28 rfl) rfl rfl ?_
                refine zz_iload hC 5 (dk DX6_fills_0k 29 rfl) rfl ?_
                refine zz_pureVi hC (c_X6_phase l D m0 m1 m2 m3 m4 m5 m6 m7 m8 m9 m10 NW PA AS tb st bo sh f9 f2 pk sv len sp rf nu rk rt ra bm ha n w K T U S F L i hN hg hs (by omega)) G_X6_113 H_X6_phase ⟨Nat.le_of_ble_eq_true rfl, Nat.le_of_ble_eq_true rfl⟩ rfl [0, 1, 2, 3, 4, 5, 6, 7, 8, 9, 10] rfl rfl 0 6 ⟨rfl, rfl, rfl⟩ (As := [.int (zI ((i : Nat) : Int))]) (rest := [.ref m8]) (Nat.le_of_ble_eq_true rfl) rfl ⟨Nat.le_of_ble_eq_true rfl, Nat.le_of_ble_eq_true rfl⟩ (dk DX6_fills_0k 30 rfl) ⟨rfl, rfl⟩ ?_
                have hf4 := (show 0 ≤ zPh T S i ∧ zPh T S i < 360 from zPh_in)
                refine zz_bipush hC (dk DX6_fills_0k 31 rfl) (by decide) ?_
                refine zz_idiv hC (dk DX6_fills_0k 32 rfl) ⟨⟨⟨by omega, by omega⟩, (by decide)⟩, by omega, by omega⟩ ?_
                refine zz_dup2 hC (dk DX6_fills_0k 33 rfl) rfl rfl ?_
                refine zz_iald hC (((zPh T S i) / 10)).toNat 8 rfl (by omega) (by omega) (dk DX6_fills_0k 34 rfl) ?_
                have hf5 := ((hf ((((zPh T S i) / 10)).toNat) (by omega)).symm ▸ zCt_in)
                refine zz_iconst hC (dk DX6_fills_0k 35 rfl) ?_
                refine zz_iadd hC (dk DX6_fills_0k 36 rfl) ?_
                refine zz_iast hC (ws' := [(m0, .inr (6, [.ref m1, .ref m2, .ref m3, .int (zI ((sv : Nat) : Int)), .int (zI rf), .ref m4, .int (zI ((len : Nat) : Int)), .int (zI ((sp : Nat) : Int)), .int (zI nu), .int (zI rk), .int (zI rt), .int (zI ra), .ref m5, .ref m6, .int (zI bm), .ref m7, .ref m8, .ref m9, .ref m10, .long (zL ha)])), (m1, iA D 771 NW), (m2, iA D 3084 PA), (m3, iA D 771 AS), (m4, iA D 150 tb), (m5, iA D 250 st), (m6, iA D 250 bo), (m7, iA D 250 sh), (m8, iA D 36 (zU f9 ((((zPh T S i) / 10)).toNat) ((f9 ((((zPh T S i) / 10)).toNat)) + 1))), (m9, iA D 36 f2), (m10, iA D 2778 pk)]) (((zPh T S i) / 10)).toNat 8 rfl (by omega) (by omega) rfl (dk DX6_fills_0k 37 rfl) ?_
                refine zz_iinc hC (c + 1) (ls' := [(0, .ref m0), (1, .ref m8), (2, .int (zI x)), (3, .int (zI y)), (4, .int (zI (c + 1))), (5, .int (zI ((i : Nat) : Int)))]) 4 [1, 2, 3, 4, 0, 5] (dk DX6_fills_0k 38 rfl) rfl (by omega) (by decide) rfl ?_
                refine zz_iinc hC ((i + 1 : Nat) : Int) (ls' := [(0, .ref m0), (1, .ref m8), (2, .int (zI x)), (3, .int (zI y)), (4, .int (zI (c + 1))), (5, .int (zI ((i + 1 : Nat) : Int)))]) 5 [1, 2, 3, 4, 5, 0] (dk DX6_fills_0k 39 rfl) rfl (by omega) (by decide) rfl ?_
                refine zz_goto hC 27 (dk DX6_fills_0k 40 rfl) (by decide) ?_
                refine zz_ls [0, 1, 2, 3, 4, 5] rfl ?_
                exact ih27 (i + 1) (c + 1) (zU f9 ((((zPh T S i) / 10)).toNat) ((f9 ((((zPh T S i) / 10)).toNat)) + 1)) (by omega) (zCt_s hc (by assumption)) (fb_s (V := fun a => zPh T S a / 10) hf (by assumption) (by show zPh T S i / 10 = _; omega)) (by omega)
        refine zz_ls [0, 1, 2, 3, 4, 5] rfl ?_
        exact LP27 _ 0 0 f8 (by omega) rfl (fun b hb => hf b (by omega)) (Nat.lt_succ_self _)
      · refine zz_aload_n hC 1 (dk DX6_fills_0k 5 rfl) rfl rfl ?_
        refine zz_iload hC 4 (dk DX6_fills_0k 6 rfl) rfl ?_
        refine zz_iconst hC (dk DX6_fills_0k 7 rfl) ?_
        refine zz_iast hC (ws' := [(m0, .inr (6, [.ref m1, .ref m2, .ref m3, .int (zI ((sv : Nat) : Int)), .int (zI rf), .ref m4, .int (zI ((len : Nat) : Int)), .int (zI ((sp : Nat) : Int)), .int (zI nu), .int (zI rk), .int (zI rt), .int (zI ra), .ref m5, .ref m6, .int (zI bm), .ref m7, .ref m8, .ref m9, .ref m10, .long (zL ha)])), (m1, iA D 771 NW), (m2, iA D 3084 PA), (m3, iA D 771 AS), (m4, iA D 150 tb), (m5, iA D 250 st), (m6, iA D 250 bo), (m7, iA D 250 sh), (m8, iA D 36 (zU f8 i 0)), (m9, iA D 36 f2), (m10, iA D 2778 pk)]) i 8 rfl rfl (by omega) rfl (dk DX6_fills_0k 8 rfl) ?_
        refine zz_iinc hC ((i + 1 : Nat) : Int) (ls' := [(0, .ref m0), (1, .ref m8), (2, .int (zI x)), (3, .int (zI y)), (4, .int (zI ((i + 1 : Nat) : Int)))]) 4 [1, 2, 3, 4, 0] (dk DX6_fills_0k 9 rfl) rfl (by omega) (by decide) rfl ?_
        refine zz_goto hC 3 (dk DX6_fills_0k 10 rfl) (by decide) ?_
        refine zz_ls [0, 1, 2, 3, 4] rfl ?_
        exact ih3 (i + 1) (zU f8 i 0) (by omega) (fill_s (V := fun _ => 0) rfl hf) (by omega)
  refine zz_ls [0, 1, 2, 3, 4] rfl ?_
  exact LP3 _ 0 f1 (by omega) (fun j hj => absurd hj (by omega)) (Nat.lt_succ_self _)
set_option maxHeartbeats 4000000 in
set_option maxRecDepth 100000 in
theorem c_X6_fills_m9 (l : Launch) (D : zG) (m0 : Nat) (m1 : Nat) (m2 : Nat) (m3 : Nat) (m4 : Nat) (m5 : Nat) (m6 : Nat) (m7 : Nat) (m8 : Nat) (m9 : Nat) (m10 : Nat) (NW : Nat → Int) (PA : Nat → Int) (AS : Nat → Int) (tb : Nat → Int) (st : Nat → Int) (bo : Nat → Int) (sh : Nat → Int) (f1 : Nat → Int) (f2 : Nat → Int) (pk : Nat → Int) (sv : Nat) (len : Nat) (sp : Nat) (rf : Int) (nu : Int) (rk : Int) (rt : Int) (ra : Int) (bm : Int) (ha : Int) (n : Nat) (w : Nat) (K : Nat → Int) (T : Nat → Int) (U : Nat → Int) (S : Nat → Int) (F : Nat → Int) (L : Nat → Int) (x : Int) (y : Int) (hN : zRow NW n K T U S F L w) (hg : zLog n K T U) (hs : zSet S) (hst6 : ∀ j, j < n → 0 ≤ st j ∧ st j ≤ 6) (hxy : 0 ≤ x ∧ x ≤ y ∧ y ≤ 1000000) : CI (S := Nat → Int) l yX6_fills cX6_fills 6 ((some .int)) ({ frames := 2, cells := 0, slots := 0, locals := 45 } : Room) D [.ref m0, .ref m9, .int (zI x), .int (zI y)] [(m0, .inr (6, [.ref m1, .ref m2, .ref m3, .int (zI ((sv : Nat) : Int)), .int (zI rf), .ref m4, .int (zI ((len : Nat) : Int)), .int (zI ((sp : Nat) : Int)), .int (zI nu), .int (zI rk), .int (zI rt), .int (zI ra), .ref m5, .ref m6, .int (zI bm), .ref m7, .ref m8, .ref m9, .ref m10, .long (zL ha)])), (m1, iA D 771 NW), (m2, iA D 3084 PA), (m3, iA D 771 AS), (m4, iA D 150 tb), (m5, iA D 250 st), (m6, iA D 250 bo), (m7, iA D 250 sh), (m8, iA D 36 f1), (m9, iA D 36 f2), (m10, iA D 2778 pk)] (fun u => ∀ b : Nat, b < 36 → u b = zCt (fun a => zAr st T x y a && decide (zPh T S a / 10 = (b : Int))) n) (fun u => (zCt (zAr st T x y) n)) (fun u => [(m0, .inr (6, [.ref m1, .ref m2, .ref m3, .int (zI ((sv : Nat) : Int)), .int (zI rf), .ref m4, .int (zI ((len : Nat) : Int)), .int (zI ((sp : Nat) : Int)), .int (zI nu), .int (zI rk), .int (zI rt), .int (zI ra), .ref m5, .ref m6, .int (zI bm), .ref m7, .ref m8, .ref m9, .ref m10, .long (zL ha)])), (m1, iA D 771 NW), (m2, iA D 3084 PA), (m3, iA D 771 AS), (m4, iA D 150 tb), (m5, iA D 250 st), (m6, iA D 250 bo), (m7, iA D 250 sh), (m8, iA D 36 f1), (m9, iA D 36 u), (m10, iA D 2778 pk)]) := by
  refine CI_of (by decide) (Nat.le_of_ble_eq_true rfl) ?_
  intro p e s m args below meth cd A Q hQ hC hr hnm
  have hC : ZC p s m args meth cd A D 6 cX6_fills RX6 := hC
  have hg0 := hg
  obtain ⟨hn, hK, hT, hU, hM⟩ := hg0
  show Z p l e ({ frames := 2, cells := 0, slots := 0, locals := 45 } : Room) s m args below meth cd A D Q 6 0 0 [(m0, .inr (6, [.ref m1, .ref m2, .ref m3, .int (zI ((sv : Nat) : Int)), .int (zI rf), .ref m4, .int (zI ((len : Nat) : Int)), .int (zI ((sp : Nat) : Int)), .int (zI nu), .int (zI rk), .int (zI rt), .int (zI ra), .ref m5, .ref m6, .int (zI bm), .ref m7, .ref m8, .ref m9, .ref m10, .long (zL ha)])), (m1, iA D 771 NW), (m2, iA D 3084 PA), (m3, iA D 771 AS), (m4, iA D 150 tb), (m5, iA D 250 st), (m6, iA D 250 bo), (m7, iA D 250 sh), (m8, iA D 36 f1), (m9, iA D 36 f2), (m10, iA D 2778 pk)] [(0, .ref m0), (1, .ref m9), (2, .int (zI x)), (3, .int (zI y))] [] 0
  refine zz_iconst hC (dk DX6_fills_0k 0 rfl) ?_
  refine zz_istore hC (ls' := [(0, .ref m0), (1, .ref m9), (2, .int (zI x)), (3, .int (zI y)), (4, .int (zI 0))]) [1, 2, 3, 4, 0] (dk DX6_fills_0k 1 rfl) (by decide) rfl ?_
  have LP3 : ∀ (fuel3 : Nat) (i : Nat) (f8 : Nat → Int), (i ≤ 36) → (∀ j, j < i → f8 j = 0) → 36 - i < fuel3 → Z p l e ({ frames := 2, cells := 0, slots := 0, locals := 45 } : Room) s m args below meth cd A D Q 6 0 0 [(m0, .inr (6, [.ref m1, .ref m2, .ref m3, .int (zI ((sv : Nat) : Int)), .int (zI rf), .ref m4, .int (zI ((len : Nat) : Int)), .int (zI ((sp : Nat) : Int)), .int (zI nu), .int (zI rk), .int (zI rt), .int (zI ra), .ref m5, .ref m6, .int (zI bm), .ref m7, .ref m8, .ref m9, .ref m10, .long (zL ha)])), (m1, iA D 771 NW), (m2, iA D 3084 PA), (m3, iA D 771 AS), (m4, iA D 150 tb), (m5, iA D 250 st), (m6, iA D 250 bo), (m7, iA D 250 sh), (m8, iA D 36 f1), (m9, iA D 36 f8), (m10, iA D 2778 pk)] [(0, .ref m0), (1, .ref m9), (2, .int (zI x)), (3, .int (zI y)), (4, .int (zI ((i : Nat) : Int)))] [] 3 := by
    intro fuel3
    induction fuel3 with
    | zero => intro i f8 hi hf hfu; exact absurd hfu (Nat.not_lt_zero _)
    | succ fuel3 ih3 =>
      intro i f8 hi hf hfu3
      refine zz_iload hC 4 (dk DX6_fills_0k 2 rfl) rfl ?_
      refine zz_bipush hC (dk DX6_fills_0k 3 rfl) (by decide) ?_
      refine zz_icmp_ge hC 21 (dk DX6_fills_0k 4 rfl) (by decide) ⟨⟨by omega, by omega⟩, (by decide)⟩ (fun c1 => ?_) (fun c1 => ?_)
      · refine zz_iconst hC (dk DX6_fills_0k 11 rfl) ?_
        refine zz_istore hC (ls' := [(0, .ref m0), (1, .ref m9), (2, .int (zI x)), (3, .int (zI y)), (4, .int (zI 0))]) [1, 2, 3, 4, 0] (dk DX6_fills_0k 12 rfl) (by decide) rfl ?_
        refine zz_iconst hC (dk DX6_fills_0k 13 rfl) ?_
        refine zz_istore hC (ls' := [(0, .ref m0), (1, .ref m9), (2, .int (zI x)), (3, .int (zI y)), (4, .int (zI 0)), (5, .int (zI 0))]) [1, 2, 3, 4, 5, 0] (dk DX6_fills_0k 14 rfl) (by decide) rfl ?_
        have LP27 : ∀ (fuel27 : Nat) (i : Nat) (c : Int) (f9 : Nat → Int), (i ≤ n) → (c = zCt (zAr st T x y) i) → (∀ b : Nat, b < 36 → f9 b = zCt (fun a => zAr st T x y a && decide (zPh T S a / 10 = (b : Int))) i) → n - i < fuel27 → Z p l e ({ frames := 2, cells := 0, slots := 0, locals := 45 } : Room) s m args below meth cd A D Q 6 0 0 [(m0, .inr (6, [.ref m1, .ref m2, .ref m3, .int (zI ((sv : Nat) : Int)), .int (zI rf), .ref m4, .int (zI ((len : Nat) : Int)), .int (zI ((sp : Nat) : Int)), .int (zI nu), .int (zI rk), .int (zI rt), .int (zI ra), .ref m5, .ref m6, .int (zI bm), .ref m7, .ref m8, .ref m9, .ref m10, .long (zL ha)])), (m1, iA D 771 NW), (m2, iA D 3084 PA), (m3, iA D 771 AS), (m4, iA D 150 tb), (m5, iA D 250 st), (m6, iA D 250 bo), (m7, iA D 250 sh), (m8, iA D 36 f1), (m9, iA D 36 f9), (m10, iA D 2778 pk)] [(0, .ref m0), (1, .ref m9), (2, .int (zI x)), (3, .int (zI y)), (4, .int (zI c)), (5, .int (zI ((i : Nat) : Int)))] [] 27 := by
          intro fuel27
          induction fuel27 with
          | zero => intro i c f9 hi hc hf hfu; exact absurd hfu (Nat.not_lt_zero _)
          | succ fuel27 ih27 =>
            intro i c f9 hi hc hf hfu27
            have hph := zPh_in (T := T) (S := S) (k := i)
            refine zz_iload hC 5 (dk DX6_fills_0k 15 rfl) rfl ?_
            refine zz_aload_n hC 0 (dk DX6_fills_0k 16 rfl) rfl rfl ?_
            refine zz_get hC F_X6_7 0 rfl rfl (dk DX6_fills_0k 17 rfl) ?_
            refine zz_bipush hC (dk DX6_fills_0k 18 rfl) (by decide) ?_
            refine zz_iald hC 20 1 rfl rfl (by omega) (dk DX6_fills_0k 19 rfl) ?_
            rw [hN.2.2.2.1]
            refine zz_icmp_ge hC 74 (dk DX6_fills_0k 20 rfl) (by decide) ⟨⟨by omega, by omega⟩, ⟨by omega, by omega⟩⟩ (fun c2 => ?_) (fun c2 => ?_)
            · refine zz_iload hC 4 (dk DX6_fills_0k 41 rfl) rfl ?_
              exact zz_iret hC hQ hr f9 (fun b hb => by have e : i = n := (by omega); rw [e] at hf; exact hf b hb) (by rw [hc]; congr 1; omega) [0, 1, 2, 3, 4, 5, 6, 7, 8, 9, 10] rfl rfl ⟨Nat.le_refl _, Nat.le_refl _⟩ (dk DX6_fills_0k 42 rfl)
            · refine zz_aload_n hC 0 (dk DX6_fills_0k 21 rfl) rfl rfl ?_
              refine zz_iload hC 5 (dk DX6_fills_0k 22 rfl) rfl ?_
              refine zz_iload_n hC 2 (dk DX6_fills_0k 23 rfl) rfl rfl ?_
              refine zz_iload_n hC 3 (dk DX6_fills_0k 24 rfl) rfl rfl ?_
              refine zz_pureVi hC (c_X6_isIn l D m0 m1 m2 m3 m4 m5 m6 m7 m8 m9 m10 NW PA AS tb st bo sh f1 f9 pk sv len sp rf nu rk rt ra bm ha n w K T U S F L i x y hN hg hst6 (by omega) hxy) G_X6_157 H_X6_isIn ⟨Nat.le_of_ble_eq_true rfl, Nat.le_of_ble_eq_true rfl⟩ rfl [0, 1, 2, 3, 4, 5, 6, 7, 8, 9, 10] rfl rfl 0 6 ⟨rfl, rfl, rfl⟩ (As := [.int (zI ((i : Nat) : Int)), .int (zI x), .int (zI y)]) (rest := []) (Nat.le_of_ble_eq_true rfl) rfl ⟨Nat.le_of_ble_eq_true rfl, Nat.le_of_ble_eq_true rfl⟩ (dk DX6_fills_0k 25 rfl) ⟨rfl, rfl⟩ ?_
              refine zz_ifb_eq hC 68 (dk DX6_fills_0k 26 rfl) (by decide) (fun c3 => ?_) (fun c3 => ?_)
              · refine zz_iinc hC ((i + 1 : Nat) : Int) (ls' := [(0, .ref m0), (1, .ref m9), (2, .int (zI x)), (3, .int (zI y)), (4, .int (zI c)), (5, .int (zI ((i + 1 : Nat) : Int)))]) 5 [1, 2, 3, 4, 5, 0] (dk DX6_fills_0k 39 rfl) rfl (by omega) (by decide) rfl ?_
                refine zz_goto hC 27 (dk DX6_fills_0k 40 rfl) (by decide) ?_
                refine zz_ls [0, 1, 2, 3, 4, 5] rfl ?_
                exact ih27 (i + 1) c f9 (by omega) (zCt_k hc (by assumption)) (fb_k (V := fun a => zPh T S a / 10) hf (by assumption)) (by omega)
              · refine zz_aload_n hC 1 (dk DX6_fills_0k 27 rfl) rfl rfl ?_
                refine zz_aload_n hC 0 (dk DX6_fills_0k 28 rfl) rfl rfl ?_
                refine zz_iload hC 5 (dk DX6_fills_0k 29 rfl) rfl ?_
                refine zz_pureVi hC (c_X6_phase l D m0 m1 m2 m3 m4 m5 m6 m7 m8 m9 m10 NW PA AS tb st bo sh f1 f9 pk sv len sp rf nu rk rt ra bm ha n w K T U S F L i hN hg hs (by omega)) G_X6_113 H_X6_phase ⟨Nat.le_of_ble_eq_true rfl, Nat.le_of_ble_eq_true rfl⟩ rfl [0, 1, 2, 3, 4, 5, 6, 7, 8, 9, 10] rfl rfl 0 6 ⟨rfl, rfl, rfl⟩ (As := [.int (zI ((i : Nat) : Int))]) (rest := [.ref m9]) (Nat.le_of_ble_eq_true rfl) rfl ⟨Nat.le_of_ble_eq_true rfl, Nat.le_of_ble_eq_true rfl⟩ (dk DX6_fills_0k 30 rfl) ⟨rfl, rfl⟩ ?_
                have hf4 := (show 0 ≤ zPh T S i ∧ zPh T S i < 360 from zPh_in)
                refine zz_bipush hC (dk DX6_fills_0k 31 rfl) (by decide) ?_
                refine zz_idiv hC (dk DX6_fills_0k 32 rfl) ⟨⟨⟨by omega, by omega⟩, (by decide)⟩, by omega, by omega⟩ ?_
                refine zz_dup2 hC (dk DX6_fills_0k 33 rfl) rfl rfl ?_
                refine zz_iald hC (((zPh T S i) / 10)).toNat 9 rfl (by omega) (by omega) (dk DX6_fills_0k 34 rfl) ?_
                have hf5 := ((hf ((((zPh T S i) / 10)).toNat) (by omega)).symm ▸ zCt_in)
                refine zz_iconst hC (dk DX6_fills_0k 35 rfl) ?_
                refine zz_iadd hC (dk DX6_fills_0k 36 rfl) ?_
                refine zz_iast hC (ws' := [(m0, .inr (6, [.ref m1, .ref m2, .ref m3, .int (zI ((sv : Nat) : Int)), .int (zI rf), .ref m4, .int (zI ((len : Nat) : Int)), .int (zI ((sp : Nat) : Int)), .int (zI nu), .int (zI rk), .int (zI rt), .int (zI ra), .ref m5, .ref m6, .int (zI bm), .ref m7, .ref m8, .ref m9, .ref m10, .long (zL ha)])), (m1, iA D 771 NW), (m2, iA D 3084 PA), (m3, iA D 771 AS), (m4, iA D 150 tb), (m5, iA D 250 st), (m6, iA D 250 bo), (m7, iA D 250 sh), (m8, iA D 36 f1), (m9, iA D 36 (zU f9 ((((zPh T S i) / 10)).toNat) ((f9 ((((zPh T S i) / 10)).toNat)) + 1))), (m10, iA D 2778 pk)]) (((zPh T S i) / 10)).toNat 9 rfl (by omega) (by omega) rfl (dk DX6_fills_0k 37 rfl) ?_
                refine zz_iinc hC (c + 1) (ls' := [(0, .ref m0), (1, .ref m9), (2, .int (zI x)), (3, .int (zI y)), (4, .int (zI (c + 1))), (5, .int (zI ((i : Nat) : Int)))]) 4 [1, 2, 3, 4, 0, 5] (dk DX6_fills_0k 38 rfl) rfl (by omega) (by decide) rfl ?_
                refine zz_iinc hC ((i + 1 : Nat) : Int) (ls' := [(0, .ref m0), (1, .ref m9), (2, .int (zI x)), (3, .int (zI y)), (4, .int (zI (c + 1))), (5, .int (zI ((i + 1 : Nat) : Int)))]) 5 [1, 2, 3, 4, 5, 0] (dk DX6_fills_0k 39 rfl) rfl (by omega) (by decide) rfl ?_
                refine zz_goto hC 27 (dk DX6_fills_0k 40 rfl) (by decide) ?_
                refine zz_ls [0, 1, 2, 3, 4, 5] rfl ?_
                exact ih27 (i + 1) (c + 1) (zU f9 ((((zPh T S i) / 10)).toNat) ((f9 ((((zPh T S i) / 10)).toNat)) + 1)) (by omega) (zCt_s hc (by assumption)) (fb_s (V := fun a => zPh T S a / 10) hf (by assumption) (by show zPh T S i / 10 = _; omega)) (by omega)
        refine zz_ls [0, 1, 2, 3, 4, 5] rfl ?_
        exact LP27 _ 0 0 f8 (by omega) rfl (fun b hb => hf b (by omega)) (Nat.lt_succ_self _)
      · refine zz_aload_n hC 1 (dk DX6_fills_0k 5 rfl) rfl rfl ?_
        refine zz_iload hC 4 (dk DX6_fills_0k 6 rfl) rfl ?_
        refine zz_iconst hC (dk DX6_fills_0k 7 rfl) ?_
        refine zz_iast hC (ws' := [(m0, .inr (6, [.ref m1, .ref m2, .ref m3, .int (zI ((sv : Nat) : Int)), .int (zI rf), .ref m4, .int (zI ((len : Nat) : Int)), .int (zI ((sp : Nat) : Int)), .int (zI nu), .int (zI rk), .int (zI rt), .int (zI ra), .ref m5, .ref m6, .int (zI bm), .ref m7, .ref m8, .ref m9, .ref m10, .long (zL ha)])), (m1, iA D 771 NW), (m2, iA D 3084 PA), (m3, iA D 771 AS), (m4, iA D 150 tb), (m5, iA D 250 st), (m6, iA D 250 bo), (m7, iA D 250 sh), (m8, iA D 36 f1), (m9, iA D 36 (zU f8 i 0)), (m10, iA D 2778 pk)]) i 9 rfl rfl (by omega) rfl (dk DX6_fills_0k 8 rfl) ?_
        refine zz_iinc hC ((i + 1 : Nat) : Int) (ls' := [(0, .ref m0), (1, .ref m9), (2, .int (zI x)), (3, .int (zI y)), (4, .int (zI ((i + 1 : Nat) : Int)))]) 4 [1, 2, 3, 4, 0] (dk DX6_fills_0k 9 rfl) rfl (by omega) (by decide) rfl ?_
        refine zz_goto hC 3 (dk DX6_fills_0k 10 rfl) (by decide) ?_
        refine zz_ls [0, 1, 2, 3, 4] rfl ?_
        exact ih3 (i + 1) (zU f8 i 0) (by omega) (fill_s (V := fun _ => 0) rfl hf) (by omega)
  refine zz_ls [0, 1, 2, 3, 4] rfl ?_
  exact LP3 _ 0 f2 (by omega) (fun j hj => absurd hj (by omega)) (Nat.lt_succ_self _)
set_option maxHeartbeats 4000000 in
set_option maxRecDepth 100000 in
theorem c_X6_featureOf (l : Launch) (D : zG) (m0 : Nat) (m1 : Nat) (m2 : Nat) (m3 : Nat) (m4 : Nat) (m5 : Nat) (m6 : Nat) (m7 : Nat) (m8 : Nat) (m9 : Nat) (m10 : Nat) (NW : Nat → Int) (PA : Nat → Int) (AS : Nat → Int) (tb : Nat → Int) (st : Nat → Int) (bo : Nat → Int) (sh : Nat → Int) (f1 : Nat → Int) (f2 : Nat → Int) (pk : Nat → Int) (sv : Nat) (len : Nat) (sp : Nat) (rf : Int) (nu : Int) (rk : Int) (rt : Int) (ra : Int) (bm : Int) (ha : Int) (n : Nat) (w : Nat) (K : Nat → Int) (T : Nat → Int) (U : Nat → Int) (S : Nat → Int) (F : Nat → Int) (L : Nat → Int) (h : Int) (x : Int) (y : Int) (v : Int) (hN : zRow NW n K T U S F L w) (hg : zLog n K T U) (hs : zSet S) (hst6 : ∀ j, j < n → 0 ≤ st j ∧ st j ≤ 6) (hxy : 0 ≤ x ∧ x ≤ y ∧ y ≤ 1000000) (hh : 0 ≤ h ∧ h ≤ 1) (hv : 0 ≤ v ∧ v ≤ 5) : CL (S := Unit) l yX6_featureOf cX6_featureOf 15 ((some .long)) ({ frames := 2, cells := 0, slots := 0, locals := 45 } : Room) D [.ref m0, .int (zI h), .int (zI x), .int (zI y), .int (zI v)] [(m0, .inr (6, [.ref m1, .ref m2, .ref m3, .int (zI ((sv : Nat) : Int)), .int (zI rf), .ref m4, .int (zI ((len : Nat) : Int)), .int (zI ((sp : Nat) : Int)), .int (zI nu), .int (zI rk), .int (zI rt), .int (zI ra), .ref m5, .ref m6, .int (zI bm), .ref m7, .ref m8, .ref m9, .ref m10, .long (zL ha)])), (m1, iA D 771 NW), (m2, iA D 3084 PA), (m3, iA D 771 AS), (m4, iA D 150 tb), (m5, iA D 250 st), (m6, iA D 250 bo), (m7, iA D 250 sh), (m8, iA D 36 f1), (m9, iA D 36 f2), (m10, iA D 2778 pk)] (fun _ => True) (fun _ => (zFe st T S U (zCh n K U S) x y h v n)) (fun _ => [(m0, .inr (6, [.ref m1, .ref m2, .ref m3, .int (zI ((sv : Nat) : Int)), .int (zI rf), .ref m4, .int (zI ((len : Nat) : Int)), .int (zI ((sp : Nat) : Int)), .int (zI nu), .int (zI rk), .int (zI rt), .int (zI ra), .ref m5, .ref m6, .int (zI bm), .ref m7, .ref m8, .ref m9, .ref m10, .long (zL ha)])), (m1, iA D 771 NW), (m2, iA D 3084 PA), (m3, iA D 771 AS), (m4, iA D 150 tb), (m5, iA D 250 st), (m6, iA D 250 bo), (m7, iA D 250 sh), (m8, iA D 36 f1), (m9, iA D 36 f2), (m10, iA D 2778 pk)]) := by
  refine CL_of (by decide) (Nat.le_of_ble_eq_true rfl) ?_
  intro p e s m args below meth cd A Q hQ hC hr hnm
  have hC : ZC p s m args meth cd A D 15 cX6_featureOf RX6 := hC
  have hg0 := hg
  obtain ⟨hn, hK, hT, hU, hM⟩ := hg0
  show Z p l e ({ frames := 2, cells := 0, slots := 0, locals := 45 } : Room) s m args below meth cd A D Q 15 0 0 [(m0, .inr (6, [.ref m1, .ref m2, .ref m3, .int (zI ((sv : Nat) : Int)), .int (zI rf), .ref m4, .int (zI ((len : Nat) : Int)), .int (zI ((sp : Nat) : Int)), .int (zI nu), .int (zI rk), .int (zI rt), .int (zI ra), .ref m5, .ref m6, .int (zI bm), .ref m7, .ref m8, .ref m9, .ref m10, .long (zL ha)])), (m1, iA D 771 NW), (m2, iA D 3084 PA), (m3, iA D 771 AS), (m4, iA D 150 tb), (m5, iA D 250 st), (m6, iA D 250 bo), (m7, iA D 250 sh), (m8, iA D 36 f1), (m9, iA D 36 f2), (m10, iA D 2778 pk)] [(0, .ref m0), (1, .int (zI h)), (2, .int (zI x)), (3, .int (zI y)), (4, .int (zI v))] [] 0
  refine zz_iconst hC (dk DX6_featureOf_0k 0 rfl) ?_
  refine zz_istore hC (ls' := [(0, .ref m0), (1, .int (zI h)), (2, .int (zI x)), (3, .int (zI y)), (4, .int (zI v)), (5, .int (zI 0))]) [1, 2, 3, 4, 5, 0] (dk DX6_featureOf_0k 1 rfl) (by decide) rfl ?_
  refine zz_iconst hC (dk DX6_featureOf_0k 2 rfl) ?_
  refine zz_istore hC (ls' := [(0, .ref m0), (1, .int (zI h)), (2, .int (zI x)), (3, .int (zI y)), (4, .int (zI v)), (5, .int (zI 0)), (6, .int (zI 0))]) [1, 2, 3, 4, 5, 6, 0] (dk DX6_featureOf_0k 3 rfl) (by decide) rfl ?_
  refine zz_lconst hC 0 (dk DX6_featureOf_0k 4 rfl) (by decide) ?_
  refine zz_lstore hC (ls' := [(0, .ref m0), (1, .int (zI h)), (2, .int (zI x)), (3, .int (zI y)), (4, .int (zI v)), (5, .int (zI 0)), (6, .int (zI 0)), (7, .long (zL 0))]) [1, 2, 3, 4, 5, 6, 7, 0] (dk DX6_featureOf_0k 5 rfl) (by decide) rfl ?_
  refine zz_iconst hC (dk DX6_featureOf_0k 6 rfl) ?_
  refine zz_istore hC (ls' := [(0, .ref m0), (1, .int (zI h)), (2, .int (zI x)), (3, .int (zI y)), (4, .int (zI v)), (5, .int (zI 0)), (6, .int (zI 0)), (7, .long (zL 0)), (9, .int (zI 0))]) [1, 2, 3, 4, 5, 6, 7, 8, 0] (dk DX6_featureOf_0k 7 rfl) (by decide) rfl ?_
  refine zz_iconst hC (dk DX6_featureOf_0k 8 rfl) ?_
  refine zz_istore hC (ls' := [(0, .ref m0), (1, .int (zI h)), (2, .int (zI x)), (3, .int (zI y)), (4, .int (zI v)), (5, .int (zI 0)), (6, .int (zI 0)), (7, .long (zL 0)), (9, .int (zI 0)), (10, .int (zI (-1)))]) [1, 2, 3, 4, 5, 6, 7, 8, 9, 0] (dk DX6_featureOf_0k 9 rfl) (by decide) rfl ?_
  refine zz_iconst hC (dk DX6_featureOf_0k 10 rfl) ?_
  refine zz_istore hC (ls' := [(0, .ref m0), (1, .int (zI h)), (2, .int (zI x)), (3, .int (zI y)), (4, .int (zI v)), (5, .int (zI 0)), (6, .int (zI 0)), (7, .long (zL 0)), (9, .int (zI 0)), (10, .int (zI (-1))), (11, .int (zI (-1)))]) [1, 2, 3, 4, 5, 6, 7, 8, 9, 10, 0] (dk DX6_featureOf_0k 11 rfl) (by decide) rfl ?_
  refine zz_iconst hC (dk DX6_featureOf_0k 12 rfl) ?_
  refine zz_istore hC (ls' := [(0, .ref m0), (1, .int (zI h)), (2, .int (zI x)), (3, .int (zI y)), (4, .int (zI v)), (5, .int (zI 0)), (6, .int (zI 0)), (7, .long (zL 0)), (9, .int (zI 0)), (10, .int (zI (-1))), (11, .int (zI (-1))), (12, .int (zI 0))]) [1, 2, 3, 4, 5, 6, 7, 8, 9, 10, 11, 0] (dk DX6_featureOf_0k 13 rfl) (by decide) rfl ?_
  have LP21 : ∀ (fuel21 : Nat) (i : Nat) (a1 : Int) (a2 : Int) (a3 : Int) (a4 : Int) (a5 : Int) (a6 : Int), (i ≤ n) → (a1 = zCt (zAh st T S x y h) i) → (a2 = zMx 0 (zAh st T S x y h) (zCh n K U S) i) → (a3 = zSm (zAh st T S x y h) (zCh n K U S) i) → (a4 = zCt (fun a => zAh st T S x y h a && decide (0 ≤ U a)) i) → (a5 = zMi (zAh st T S x y h) (zPh T S) i) → (a6 = zMx (-1) (zAh st T S x y h) (zPh T S) i) → n - i < fuel21 → Z p l e ({ frames := 2, cells := 0, slots := 0, locals := 45 } : Room) s m args below meth cd A D Q 15 0 0 [(m0, .inr (6, [.ref m1, .ref m2, .ref m3, .int (zI ((sv : Nat) : Int)), .int (zI rf), .ref m4, .int (zI ((len : Nat) : Int)), .int (zI ((sp : Nat) : Int)), .int (zI nu), .int (zI rk), .int (zI rt), .int (zI ra), .ref m5, .ref m6, .int (zI bm), .ref m7, .ref m8, .ref m9, .ref m10, .long (zL ha)])), (m1, iA D 771 NW), (m2, iA D 3084 PA), (m3, iA D 771 AS), (m4, iA D 150 tb), (m5, iA D 250 st), (m6, iA D 250 bo), (m7, iA D 250 sh), (m8, iA D 36 f1), (m9, iA D 36 f2), (m10, iA D 2778 pk)] [(0, .ref m0), (1, .int (zI h)), (2, .int (zI x)), (3, .int (zI y)), (4, .int (zI v)), (5, .int (zI a1)), (6, .int (zI a2)), (7, .long (zL a3)), (9, .int (zI a4)), (10, .int (zI a5)), (11, .int (zI a6)), (12, .int (zI ((i : Nat) : Int)))] [] 21 := by
    intro fuel21
    induction fuel21 with
    | zero => intro i a1 a2 a3 a4 a5 a6 hi e1 e2 e3 e4 e5 e6 hfu; exact absurd hfu (Nat.not_lt_zero _)
    | succ fuel21 ih21 =>
      intro i a1 a2 a3 a4 a5 a6 hi e1 e2 e3 e4 e5 e6 hfu21
      have hph := zPh_in (T := T) (S := S) (k := i)
      have rr1 := zCt_in (P := zAh st T S x y h) (n := i)
      rw [← e1] at rr1
      have rr2 := zMx_in (d := 0) (lo := 0) (hi := 500000000) (P := zAh st T S x y h) (f := (zCh n K U S)) (n := i) (by omega) (fun j hj => zCh_in (K := K) (U := U) (S := S) hn hU hs.2.1 (show j < n by omega))
      rw [← e2] at rr2
      have rr4 := zCt_in (P := fun a => zAh st T S x y h a && decide (0 ≤ U a)) (n := i)
      rw [← e4] at rr4
      have rr5 := zMi_in (lo := -1) (hi := 360) (P := zAh st T S x y h) (f := zPh T S) (n := i) (by omega) (fun j hj => by have := zPh_in (T := T) (S := S) (k := j); omega)
      rw [← e5] at rr5
      have rr6 := zMx_in (d := -1) (lo := -1) (hi := 360) (P := zAh st T S x y h) (f := zPh T S) (n := i) (by omega) (fun j hj => by have := zPh_in (T := T) (S := S) (k := j); omega)
      rw [← e6] at rr6
      refine zz_iload hC 11 (dk DX6_featureOf_0k 14 rfl) rfl ?_
      refine zz_aload_n hC 0 (dk DX6_featureOf_0k 15 rfl) rfl rfl ?_
      refine zz_get hC F_X6_7 0 rfl rfl (dk DX6_featureOf_0k 16 rfl) ?_
      refine zz_bipush hC (dk DX6_featureOf_0k 17 rfl) (by decide) ?_
      refine zz_iald hC 20 1 rfl rfl (by omega) (dk DX6_featureOf_0k 18 rfl) ?_
      rw [hN.2.2.2.1]
      refine zz_icmp_ge hC 160 (dk DX6_featureOf_0k 19 rfl) (by decide) ⟨⟨by omega, by omega⟩, ⟨by omega, by omega⟩⟩ (fun c1 => ?_) (fun c1 => ?_)
      · have hin : i = n := by omega
        rw [hin] at e1 e2 e3 e4 e5 e6
        refine zz_iload hC 4 (dk DX6_featureOf_1k 21 rfl) rfl ?_
        refine zz_if_ne hC 171 (dk DX6_featureOf_1k 22 rfl) (by decide) ⟨by omega, by omega⟩ (fun c2 => ?_) (fun c2 => ?_)
        · refine zz_iload hC 4 (dk DX6_featureOf_1k 26 rfl) rfl ?_
          refine zz_iconst hC (dk DX6_featureOf_1k 27 rfl) ?_
          refine zz_icmp_ne hC 183 (dk DX6_featureOf_1k 28 rfl) (by decide) ⟨⟨by omega, by omega⟩, (by decide)⟩ (fun c3 => ?_) (fun c3 => ?_)
          · refine zz_iload hC 4 (dk DX6_featureOf_1k 32 rfl) rfl ?_
            refine zz_iconst hC (dk DX6_featureOf_1k 33 rfl) ?_
            refine zz_icmp_ne hC 194 (dk DX6_featureOf_1k 34 rfl) (by decide) ⟨⟨by omega, by omega⟩, (by decide)⟩ (fun c4 => ?_) (fun c4 => ?_)
            · refine zz_iload hC 4 (dk DX6_featureOf_1k 37 rfl) rfl ?_
              refine zz_iconst hC (dk DX6_featureOf_1k 38 rfl) ?_
              refine zz_icmp_ne hC 206 (dk DX6_featureOf_1k 39 rfl) (by decide) ⟨⟨by omega, by omega⟩, (by decide)⟩ (fun c5 => ?_) (fun c5 => ?_)
              · refine zz_iload hC 4 (dk DX6_featureOf_1k 43 rfl) rfl ?_
                refine zz_iconst hC (dk DX6_featureOf_1k 44 rfl) ?_
                refine zz_icmp_ne hC 218 (dk DX6_featureOf_1k 45 rfl) (by decide) ⟨⟨by omega, by omega⟩, (by decide)⟩ (fun c6 => ?_) (fun c6 => ?_)
                · refine zz_iload hC 10 (dk DX6_featureOf_1k 49 rfl) rfl ?_
                  refine zz_i2l hC (dk DX6_featureOf_1k 50 rfl) ⟨by omega, by omega⟩ ?_
                  exact zz_lret hC hQ hr () trivial (by unfold zFe; rw [e6, if_neg (by omega), if_neg (by omega), if_neg (by omega), if_neg (by omega), if_neg (by omega)]) [0, 1, 2, 3, 4, 5, 6, 7, 8, 9, 10] rfl rfl ⟨Nat.le_refl _, Nat.le_refl _⟩ (dk DX6_featureOf_1k 51 rfl)
                · refine zz_iload hC 9 (dk DX6_featureOf_1k 46 rfl) rfl ?_
                  refine zz_i2l hC (dk DX6_featureOf_1k 47 rfl) ⟨by omega, by omega⟩ ?_
                  refine zz_goto hC 221 (dk DX6_featureOf_1k 48 rfl) (by decide) ?_
                  exact zz_lret hC hQ hr () trivial (by unfold zFe; rw [e5, if_neg (by omega), if_neg (by omega), if_neg (by omega), if_neg (by omega), if_pos (by omega)]) [0, 1, 2, 3, 4, 5, 6, 7, 8, 9, 10] rfl rfl ⟨Nat.le_refl _, Nat.le_refl _⟩ (dk DX6_featureOf_1k 51 rfl)
              · refine zz_iload hC 8 (dk DX6_featureOf_1k 40 rfl) rfl ?_
                refine zz_i2l hC (dk DX6_featureOf_1k 41 rfl) ⟨by omega, by omega⟩ ?_
                refine zz_goto hC 221 (dk DX6_featureOf_1k 42 rfl) (by decide) ?_
                exact zz_lret hC hQ hr () trivial (by unfold zFe; rw [e4, if_neg (by omega), if_neg (by omega), if_neg (by omega), if_pos (by omega)]) [0, 1, 2, 3, 4, 5, 6, 7, 8, 9, 10] rfl rfl ⟨Nat.le_refl _, Nat.le_refl _⟩ (dk DX6_featureOf_1k 51 rfl)
            · refine zz_lload hC 7 (dk DX6_featureOf_1k 35 rfl) rfl ?_
              refine zz_goto hC 221 (dk DX6_featureOf_1k 36 rfl) (by decide) ?_
              exact zz_lret hC hQ hr () trivial (by unfold zFe; rw [e3, if_neg (by omega), if_neg (by omega), if_pos (by omega)]) [0, 1, 2, 3, 4, 5, 6, 7, 8, 9, 10] rfl rfl ⟨Nat.le_refl _, Nat.le_refl _⟩ (dk DX6_featureOf_1k 51 rfl)
          · refine zz_iload hC 6 (dk DX6_featureOf_1k 29 rfl) rfl ?_
            refine zz_i2l hC (dk DX6_featureOf_1k 30 rfl) ⟨by omega, by omega⟩ ?_
            refine zz_goto hC 221 (dk DX6_featureOf_1k 31 rfl) (by decide) ?_
            exact zz_lret hC hQ hr () trivial (by unfold zFe; rw [e2, if_neg (by omega), if_pos (by omega)]) [0, 1, 2, 3, 4, 5, 6, 7, 8, 9, 10] rfl rfl ⟨Nat.le_refl _, Nat.le_refl _⟩ (dk DX6_featureOf_1k 51 rfl)
        · refine zz_iload hC 5 (dk DX6_featureOf_1k 23 rfl) rfl ?_
          refine zz_i2l hC (dk DX6_featureOf_1k 24 rfl) ⟨by omega, by omega⟩ ?_
          refine zz_goto hC 221 (dk DX6_featureOf_1k 25 rfl) (by decide) ?_
          exact zz_lret hC hQ hr () trivial (by unfold zFe; rw [e1, if_pos (by omega)]) [0, 1, 2, 3, 4, 5, 6, 7, 8, 9, 10] rfl rfl ⟨Nat.le_refl _, Nat.le_refl _⟩ (dk DX6_featureOf_1k 51 rfl)
      · refine zz_aload_n hC 0 (dk DX6_featureOf_0k 20 rfl) rfl rfl ?_
        refine zz_iload hC 11 (dk DX6_featureOf_0k 21 rfl) rfl ?_
        refine zz_pureVi hC (c_X6_phase l D m0 m1 m2 m3 m4 m5 m6 m7 m8 m9 m10 NW PA AS tb st bo sh f1 f2 pk sv len sp rf nu rk rt ra bm ha n w K T U S F L i hN hg hs (by omega)) G_X6_113 H_X6_phase ⟨Nat.le_of_ble_eq_true rfl, Nat.le_of_ble_eq_true rfl⟩ rfl [0, 1, 2, 3, 4, 5, 6, 7, 8, 9, 10] rfl rfl 0 6 ⟨rfl, rfl, rfl⟩ (As := [.int (zI ((i : Nat) : Int))]) (rest := []) (Nat.le_of_ble_eq_true rfl) rfl ⟨Nat.le_of_ble_eq_true rfl, Nat.le_of_ble_eq_true rfl⟩ (dk DX6_featureOf_0k 22 rfl) ⟨rfl, rfl⟩ ?_
        have hf7 := (show 0 ≤ zPh T S i ∧ zPh T S i < 360 from zPh_in)
        refine zz_istore hC (ls' := [(0, .ref m0), (1, .int (zI h)), (2, .int (zI x)), (3, .int (zI y)), (4, .int (zI v)), (5, .int (zI a1)), (6, .int (zI a2)), (7, .long (zL a3)), (9, .int (zI a4)), (10, .int (zI a5)), (11, .int (zI a6)), (12, .int (zI ((i : Nat) : Int))), (13, .int (zI (zPh T S i)))]) [1, 2, 3, 4, 5, 6, 7, 8, 9, 10, 11, 12, 0] (dk DX6_featureOf_0k 23 rfl) (by decide) rfl ?_
        refine zz_aload_n hC 0 (dk DX6_featureOf_0k 24 rfl) rfl rfl ?_
        refine zz_iload hC 11 (dk DX6_featureOf_0k 25 rfl) rfl ?_
        refine zz_iload_n hC 2 (dk DX6_featureOf_0k 26 rfl) rfl rfl ?_
        refine zz_iload_n hC 3 (dk DX6_featureOf_0k 27 rfl) rfl rfl ?_
        refine zz_pureVi hC (c_X6_isIn l D m0 m1 m2 m3 m4 m5 m6 m7 m8 m9 m10 NW PA AS tb st bo sh f1 f2 pk sv len sp rf nu rk rt ra bm ha n w K T U S F L i x y hN hg hst6 (by omega) hxy) G_X6_157 H_X6_isIn ⟨Nat.le_of_ble_eq_true rfl, Nat.le_of_ble_eq_true rfl⟩ rfl [0, 1, 2, 3, 4, 5, 6, 7, 8, 9, 10] rfl rfl 0 6 ⟨rfl, rfl, rfl⟩ (As := [.int (zI ((i : Nat) : Int)), .int (zI x), .int (zI y)]) (rest := []) (Nat.le_of_ble_eq_true rfl) rfl ⟨Nat.le_of_ble_eq_true rfl, Nat.le_of_ble_eq_true rfl⟩ (dk DX6_featureOf_0k 28 rfl) ⟨rfl, rfl⟩ ?_
        refine zz_ifb_eq hC 154 (dk DX6_featureOf_0k 29 rfl) (by decide) (fun c8 => ?_) (fun c8 => ?_)
        · refine zz_iinc hC ((i + 1 : Nat) : Int) (ls' := [(0, .ref m0), (1, .int (zI h)), (2, .int (zI x)), (3, .int (zI y)), (4, .int (zI v)), (5, .int (zI a1)), (6, .int (zI a2)), (7, .long (zL a3)), (9, .int (zI a4)), (10, .int (zI a5)), (11, .int (zI a6)), (12, .int (zI ((i + 1 : Nat) : Int))), (13, .int (zI (zPh T S i)))]) 11 [1, 2, 3, 4, 5, 6, 7, 8, 9, 10, 11, 0, 12] (dk DX6_featureOf_1k 19 rfl) rfl (by omega) (by decide) rfl ?_
          refine zz_goto hC 21 (dk DX6_featureOf_1k 20 rfl) (by decide) ?_
          refine zz_ls [0, 1, 2, 3, 4, 5, 6, 7, 8, 9, 10, 11] rfl ?_
          exact ih21 (i + 1) a1 a2 a3 a4 a5 a6 (by omega) (zCt_k e1 (by unfold zAh; rw [Bool.and_eq_true, decide_eq_true_eq]; intro q; first | exact absurd q.1 (by assumption) | (have := q.2; omega))) (zMx_k e2 (by unfold zAh; rw [Bool.and_eq_true, decide_eq_true_eq]; intro q; first | exact absurd q.1 (by assumption) | (have := q.2; omega))) (zSm_k e3 (by unfold zAh; rw [Bool.and_eq_true, decide_eq_true_eq]; intro q; first | exact absurd q.1 (by assumption) | (have := q.2; omega))) (zCt_k e4 (by rw [Bool.and_eq_true]; intro q; exact absurd q.1 (by unfold zAh; rw [Bool.and_eq_true, decide_eq_true_eq]; intro q; first | exact absurd q.1 (by assumption) | (have := q.2; omega)))) (zMi_k e5 (by unfold zAh; rw [Bool.and_eq_true, decide_eq_true_eq]; intro q; first | exact absurd q.1 (by assumption) | (have := q.2; omega))) (zMx_k e6 (by unfold zAh; rw [Bool.and_eq_true, decide_eq_true_eq]; intro q; first | exact absurd q.1 (by assumption) | (have := q.2; omega))) (by omega)
        · refine zz_iload hC 12 (dk DX6_featureOf_0k 30 rfl) rfl ?_
          refine zz_sipush hC (dk DX6_featureOf_0k 31 rfl) (by decide) ?_
          refine zz_idiv hC (dk DX6_featureOf_0k 32 rfl) ⟨⟨⟨by omega, by omega⟩, (by decide)⟩, by omega, by omega⟩ ?_
          refine zz_iload_n hC 1 (dk DX6_featureOf_0k 33 rfl) rfl rfl ?_
          refine zz_icmp_ne hC 154 (dk DX6_featureOf_0k 34 rfl) (by decide) ⟨⟨by omega, by omega⟩, ⟨by omega, by omega⟩⟩ (fun c9 => ?_) (fun c9 => ?_)
          · refine zz_iinc hC ((i + 1 : Nat) : Int) (ls' := [(0, .ref m0), (1, .int (zI h)), (2, .int (zI x)), (3, .int (zI y)), (4, .int (zI v)), (5, .int (zI a1)), (6, .int (zI a2)), (7, .long (zL a3)), (9, .int (zI a4)), (10, .int (zI a5)), (11, .int (zI a6)), (12, .int (zI ((i + 1 : Nat) : Int))), (13, .int (zI (zPh T S i)))]) 11 [1, 2, 3, 4, 5, 6, 7, 8, 9, 10, 11, 0, 12] (dk DX6_featureOf_1k 19 rfl) rfl (by omega) (by decide) rfl ?_
            refine zz_goto hC 21 (dk DX6_featureOf_1k 20 rfl) (by decide) ?_
            refine zz_ls [0, 1, 2, 3, 4, 5, 6, 7, 8, 9, 10, 11] rfl ?_
            exact ih21 (i + 1) a1 a2 a3 a4 a5 a6 (by omega) (zCt_k e1 (by unfold zAh; rw [Bool.and_eq_true, decide_eq_true_eq]; intro q; first | exact absurd q.1 (by assumption) | (have := q.2; omega))) (zMx_k e2 (by unfold zAh; rw [Bool.and_eq_true, decide_eq_true_eq]; intro q; first | exact absurd q.1 (by assumption) | (have := q.2; omega))) (zSm_k e3 (by unfold zAh; rw [Bool.and_eq_true, decide_eq_true_eq]; intro q; first | exact absurd q.1 (by assumption) | (have := q.2; omega))) (zCt_k e4 (by rw [Bool.and_eq_true]; intro q; exact absurd q.1 (by unfold zAh; rw [Bool.and_eq_true, decide_eq_true_eq]; intro q; first | exact absurd q.1 (by assumption) | (have := q.2; omega)))) (zMi_k e5 (by unfold zAh; rw [Bool.and_eq_true, decide_eq_true_eq]; intro q; first | exact absurd q.1 (by assumption) | (have := q.2; omega))) (zMx_k e6 (by unfold zAh; rw [Bool.and_eq_true, decide_eq_true_eq]; intro q; first | exact absurd q.1 (by assumption) | (have := q.2; omega))) (by omega)
          · have hYP : zAh st T S x y h i = true := by unfold zAh; rw [Bool.and_eq_true]; exact ⟨by assumption, decide_eq_true (by omega)⟩
            refine zz_aload_n hC 0 (dk DX6_featureOf_0k 35 rfl) rfl rfl ?_
            refine zz_iload hC 11 (dk DX6_featureOf_0k 36 rfl) rfl ?_
            refine zz_pureVi hC (c_X6_charge l D m0 m1 m2 m3 m4 m5 m6 m7 m8 m9 m10 NW PA AS tb st bo sh f1 f2 pk sv len sp rf nu rk rt ra bm ha n w K T U S F L i hN hg hs (by omega)) G_X6_141 H_X6_charge ⟨Nat.le_of_ble_eq_true rfl, Nat.le_of_ble_eq_true rfl⟩ rfl [0, 1, 2, 3, 4, 5, 6, 7, 8, 9, 10] rfl rfl 0 6 ⟨rfl, rfl, rfl⟩ (As := [.int (zI ((i : Nat) : Int))]) (rest := []) (Nat.le_of_ble_eq_true rfl) rfl ⟨Nat.le_of_ble_eq_true rfl, Nat.le_of_ble_eq_true rfl⟩ (dk DX6_featureOf_0k 37 rfl) ⟨rfl, rfl⟩ ?_
            have hf10 := zCh_in (K := K) (U := U) (S := S) hn hU hs.2.1 (show i < n by omega)
            refine zz_istore hC (ls' := [(0, .ref m0), (1, .int (zI h)), (2, .int (zI x)), (3, .int (zI y)), (4, .int (zI v)), (5, .int (zI a1)), (6, .int (zI a2)), (7, .long (zL a3)), (9, .int (zI a4)), (10, .int (zI a5)), (11, .int (zI a6)), (12, .int (zI ((i : Nat) : Int))), (13, .int (zI (zPh T S i))), (14, .int (zI (zCh n K U S i)))]) [1, 2, 3, 4, 5, 6, 7, 8, 9, 10, 11, 12, 13, 0] (dk DX6_featureOf_0k 38 rfl) (by decide) rfl ?_
            refine zz_iinc hC (a1 + 1) (ls' := [(0, .ref m0), (1, .int (zI h)), (2, .int (zI x)), (3, .int (zI y)), (4, .int (zI v)), (5, .int (zI (a1 + 1))), (6, .int (zI a2)), (7, .long (zL a3)), (9, .int (zI a4)), (10, .int (zI a5)), (11, .int (zI a6)), (12, .int (zI ((i : Nat) : Int))), (13, .int (zI (zPh T S i))), (14, .int (zI (zCh n K U S i)))]) 5 [1, 2, 3, 4, 5, 0, 6, 7, 8, 9, 10, 11, 12, 13] (dk DX6_featureOf_0k 39 rfl) rfl (by omega) (by decide) rfl ?_
            refine zz_iload hC 13 (dk DX6_featureOf_0k 40 rfl) rfl ?_
            refine zz_iload hC 6 (dk DX6_featureOf_0k 41 rfl) rfl ?_
            refine zz_icmp_le hC 85 (dk DX6_featureOf_0k 42 rfl) (by decide) ⟨⟨by omega, by omega⟩, ⟨by omega, by omega⟩⟩ (fun c11 => ?_) (fun c11 => ?_)
            · refine zz_iload hC 6 (dk DX6_featureOf_0k 45 rfl) rfl ?_
              refine zz_istore hC (ls' := [(0, .ref m0), (1, .int (zI h)), (2, .int (zI x)), (3, .int (zI y)), (4, .int (zI v)), (5, .int (zI (a1 + 1))), (6, .int (zI a2)), (7, .long (zL a3)), (9, .int (zI a4)), (10, .int (zI a5)), (11, .int (zI a6)), (12, .int (zI ((i : Nat) : Int))), (13, .int (zI (zPh T S i))), (14, .int (zI (zCh n K U S i)))]) [1, 2, 3, 4, 5, 6, 0, 7, 8, 9, 10, 11, 12, 13] (dk DX6_featureOf_0k 46 rfl) (by decide) rfl ?_
              refine zz_lload hC 7 (dk DX6_featureOf_0k 47 rfl) rfl ?_
              refine zz_iload hC 13 (dk DX6_featureOf_0k 48 rfl) rfl ?_
              refine zz_i2l hC (dk DX6_featureOf_0k 49 rfl) ⟨by omega, by omega⟩ ?_
              refine zz_ladd hC (dk DX6_featureOf_0k 50 rfl) ?_
              refine zz_lstore hC (ls' := [(0, .ref m0), (1, .int (zI h)), (2, .int (zI x)), (3, .int (zI y)), (4, .int (zI v)), (5, .int (zI (a1 + 1))), (6, .int (zI a2)), (7, .long (zL (a3 + (zCh n K U S i)))), (9, .int (zI a4)), (10, .int (zI a5)), (11, .int (zI a6)), (12, .int (zI ((i : Nat) : Int))), (13, .int (zI (zPh T S i))), (14, .int (zI (zCh n K U S i)))]) [1, 2, 3, 4, 5, 6, 7, 0, 8, 9, 10, 11, 12, 13] (dk DX6_featureOf_0k 51 rfl) (by decide) rfl ?_
              refine zz_iload hC 8 (dk DX6_featureOf_0k 52 rfl) rfl ?_
              refine zz_aload_n hC 0 (dk DX6_featureOf_0k 53 rfl) rfl rfl ?_
              refine zz_iload hC 11 (dk DX6_featureOf_0k 54 rfl) rfl ?_
              refine zz_pureVi hC (c_X6_amplitude l D m0 m1 m2 m3 m4 m5 m6 m7 m8 m9 m10 NW PA AS tb st bo sh f1 f2 pk sv len sp rf nu rk rt ra bm ha n w K T U S F L i hN hg (by omega)) G_X6_119 H_X6_amplitude ⟨Nat.le_of_ble_eq_true rfl, Nat.le_of_ble_eq_true rfl⟩ rfl [0, 1, 2, 3, 4, 5, 6, 7, 8, 9, 10] rfl rfl 0 6 ⟨rfl, rfl, rfl⟩ (As := [.int (zI ((i : Nat) : Int))]) (rest := [.int (zI a4)]) (Nat.le_of_ble_eq_true rfl) rfl ⟨Nat.le_of_ble_eq_true rfl, Nat.le_of_ble_eq_true rfl⟩ (dk DX6_featureOf_0k 55 rfl) ⟨rfl, rfl⟩ ?_
              have hf12 := hU i (by omega)
              refine zz_if_lt hC 112 (dk DX6_featureOf_0k 56 rfl) (by decide) ⟨by omega, by omega⟩ (fun c13 => ?_) (fun c13 => ?_)
              · refine zz_iconst hC (dk DX6_featureOf_0k 59 rfl) ?_
                refine zz_iadd hC (dk DX6_featureOf_1k 0 rfl) ?_
                refine zz_istore hC (ls' := [(0, .ref m0), (1, .int (zI h)), (2, .int (zI x)), (3, .int (zI y)), (4, .int (zI v)), (5, .int (zI (a1 + 1))), (6, .int (zI a2)), (7, .long (zL (a3 + (zCh n K U S i)))), (9, .int (zI (a4 + 0))), (10, .int (zI a5)), (11, .int (zI a6)), (12, .int (zI ((i : Nat) : Int))), (13, .int (zI (zPh T S i))), (14, .int (zI (zCh n K U S i)))]) [1, 2, 3, 4, 5, 6, 7, 8, 0, 9, 10, 11, 12, 13] (dk DX6_featureOf_1k 1 rfl) (by decide) rfl ?_
                refine zz_iload hC 9 (dk DX6_featureOf_1k 2 rfl) rfl ?_
                refine zz_iconst hC (dk DX6_featureOf_1k 3 rfl) ?_
                refine zz_icmp_eq hC 129 (dk DX6_featureOf_1k 4 rfl) (by decide) ⟨⟨by omega, by omega⟩, (by decide)⟩ (fun c14 => ?_) (fun c14 => ?_)
                · refine zz_iload hC 12 (dk DX6_featureOf_1k 8 rfl) rfl ?_
                  refine zz_goto hC 136 (dk DX6_featureOf_1k 9 rfl) (by decide) ?_
                  refine zz_istore hC (ls' := [(0, .ref m0), (1, .int (zI h)), (2, .int (zI x)), (3, .int (zI y)), (4, .int (zI v)), (5, .int (zI (a1 + 1))), (6, .int (zI a2)), (7, .long (zL (a3 + (zCh n K U S i)))), (9, .int (zI (a4 + 0))), (10, .int (zI (zPh T S i))), (11, .int (zI a6)), (12, .int (zI ((i : Nat) : Int))), (13, .int (zI (zPh T S i))), (14, .int (zI (zCh n K U S i)))]) [1, 2, 3, 4, 5, 6, 7, 8, 9, 0, 10, 11, 12, 13] (dk DX6_featureOf_1k 11 rfl) (by decide) rfl ?_
                  refine zz_iload hC 12 (dk DX6_featureOf_1k 12 rfl) rfl ?_
                  refine zz_iload hC 10 (dk DX6_featureOf_1k 13 rfl) rfl ?_
                  refine zz_icmp_le hC 150 (dk DX6_featureOf_1k 14 rfl) (by decide) ⟨⟨by omega, by omega⟩, ⟨by omega, by omega⟩⟩ (fun c15 => ?_) (fun c15 => ?_)
                  · refine zz_iload hC 10 (dk DX6_featureOf_1k 17 rfl) rfl ?_
                    refine zz_istore hC (ls' := [(0, .ref m0), (1, .int (zI h)), (2, .int (zI x)), (3, .int (zI y)), (4, .int (zI v)), (5, .int (zI (a1 + 1))), (6, .int (zI a2)), (7, .long (zL (a3 + (zCh n K U S i)))), (9, .int (zI (a4 + 0))), (10, .int (zI (zPh T S i))), (11, .int (zI a6)), (12, .int (zI ((i : Nat) : Int))), (13, .int (zI (zPh T S i))), (14, .int (zI (zCh n K U S i)))]) [1, 2, 3, 4, 5, 6, 7, 8, 9, 10, 0, 11, 12, 13] (dk DX6_featureOf_1k 18 rfl) (by decide) rfl ?_
                    refine zz_iinc hC ((i + 1 : Nat) : Int) (ls' := [(0, .ref m0), (1, .int (zI h)), (2, .int (zI x)), (3, .int (zI y)), (4, .int (zI v)), (5, .int (zI (a1 + 1))), (6, .int (zI a2)), (7, .long (zL (a3 + (zCh n K U S i)))), (9, .int (zI (a4 + 0))), (10, .int (zI (zPh T S i))), (11, .int (zI a6)), (12, .int (zI ((i + 1 : Nat) : Int))), (13, .int (zI (zPh T S i))), (14, .int (zI (zCh n K U S i)))]) 11 [1, 2, 3, 4, 5, 6, 7, 8, 9, 10, 11, 0, 12, 13] (dk DX6_featureOf_1k 19 rfl) rfl (by omega) (by decide) rfl ?_
                    refine zz_goto hC 21 (dk DX6_featureOf_1k 20 rfl) (by decide) ?_
                    refine zz_ls [0, 1, 2, 3, 4, 5, 6, 7, 8, 9, 10, 11] rfl ?_
                    exact ih21 (i + 1) (a1 + 1) a2 (a3 + (zCh n K U S i)) (a4 + 0) (zPh T S i) a6 (by omega) (zCt_s e1 hYP) (mx_n e2 hYP (by omega)) (zSm_s e3 hYP) (by rw [Int.add_zero]; exact zCt_k e4 (by rw [Bool.and_eq_true, decide_eq_true_eq]; intro q; have := q.2; omega)) (mi_y (f := zPh T S) e5 hYP (by omega) (fun j _ => zPh_in.1)) (mx_n e6 hYP (by omega)) (by omega)
                  · refine zz_iload hC 12 (dk DX6_featureOf_1k 15 rfl) rfl ?_
                    refine zz_goto hC 152 (dk DX6_featureOf_1k 16 rfl) (by decide) ?_
                    refine zz_istore hC (ls' := [(0, .ref m0), (1, .int (zI h)), (2, .int (zI x)), (3, .int (zI y)), (4, .int (zI v)), (5, .int (zI (a1 + 1))), (6, .int (zI a2)), (7, .long (zL (a3 + (zCh n K U S i)))), (9, .int (zI (a4 + 0))), (10, .int (zI (zPh T S i))), (11, .int (zI (zPh T S i))), (12, .int (zI ((i : Nat) : Int))), (13, .int (zI (zPh T S i))), (14, .int (zI (zCh n K U S i)))]) [1, 2, 3, 4, 5, 6, 7, 8, 9, 10, 0, 11, 12, 13] (dk DX6_featureOf_1k 18 rfl) (by decide) rfl ?_
                    refine zz_iinc hC ((i + 1 : Nat) : Int) (ls' := [(0, .ref m0), (1, .int (zI h)), (2, .int (zI x)), (3, .int (zI y)), (4, .int (zI v)), (5, .int (zI (a1 + 1))), (6, .int (zI a2)), (7, .long (zL (a3 + (zCh n K U S i)))), (9, .int (zI (a4 + 0))), (10, .int (zI (zPh T S i))), (11, .int (zI (zPh T S i))), (12, .int (zI ((i + 1 : Nat) : Int))), (13, .int (zI (zPh T S i))), (14, .int (zI (zCh n K U S i)))]) 11 [1, 2, 3, 4, 5, 6, 7, 8, 9, 10, 11, 0, 12, 13] (dk DX6_featureOf_1k 19 rfl) rfl (by omega) (by decide) rfl ?_
                    refine zz_goto hC 21 (dk DX6_featureOf_1k 20 rfl) (by decide) ?_
                    refine zz_ls [0, 1, 2, 3, 4, 5, 6, 7, 8, 9, 10, 11] rfl ?_
                    exact ih21 (i + 1) (a1 + 1) a2 (a3 + (zCh n K U S i)) (a4 + 0) (zPh T S i) (zPh T S i) (by omega) (zCt_s e1 hYP) (mx_n e2 hYP (by omega)) (zSm_s e3 hYP) (by rw [Int.add_zero]; exact zCt_k e4 (by rw [Bool.and_eq_true, decide_eq_true_eq]; intro q; have := q.2; omega)) (mi_y (f := zPh T S) e5 hYP (by omega) (fun j _ => zPh_in.1)) (mx_y e6 hYP (by omega)) (by omega)
                · refine zz_iload hC 12 (dk DX6_featureOf_1k 5 rfl) rfl ?_
                  refine zz_iload hC 9 (dk DX6_featureOf_1k 6 rfl) rfl ?_
                  refine zz_icmp_ge hC 134 (dk DX6_featureOf_1k 7 rfl) (by decide) ⟨⟨by omega, by omega⟩, ⟨by omega, by omega⟩⟩ (fun c16 => ?_) (fun c16 => ?_)
                  · refine zz_iload hC 9 (dk DX6_featureOf_1k 10 rfl) rfl ?_
                    refine zz_istore hC (ls' := [(0, .ref m0), (1, .int (zI h)), (2, .int (zI x)), (3, .int (zI y)), (4, .int (zI v)), (5, .int (zI (a1 + 1))), (6, .int (zI a2)), (7, .long (zL (a3 + (zCh n K U S i)))), (9, .int (zI (a4 + 0))), (10, .int (zI a5)), (11, .int (zI a6)), (12, .int (zI ((i : Nat) : Int))), (13, .int (zI (zPh T S i))), (14, .int (zI (zCh n K U S i)))]) [1, 2, 3, 4, 5, 6, 7, 8, 9, 0, 10, 11, 12, 13] (dk DX6_featureOf_1k 11 rfl) (by decide) rfl ?_
                    refine zz_iload hC 12 (dk DX6_featureOf_1k 12 rfl) rfl ?_
                    refine zz_iload hC 10 (dk DX6_featureOf_1k 13 rfl) rfl ?_
                    refine zz_icmp_le hC 150 (dk DX6_featureOf_1k 14 rfl) (by decide) ⟨⟨by omega, by omega⟩, ⟨by omega, by omega⟩⟩ (fun c17 => ?_) (fun c17 => ?_)
                    · refine zz_iload hC 10 (dk DX6_featureOf_1k 17 rfl) rfl ?_
                      refine zz_istore hC (ls' := [(0, .ref m0), (1, .int (zI h)), (2, .int (zI x)), (3, .int (zI y)), (4, .int (zI v)), (5, .int (zI (a1 + 1))), (6, .int (zI a2)), (7, .long (zL (a3 + (zCh n K U S i)))), (9, .int (zI (a4 + 0))), (10, .int (zI a5)), (11, .int (zI a6)), (12, .int (zI ((i : Nat) : Int))), (13, .int (zI (zPh T S i))), (14, .int (zI (zCh n K U S i)))]) [1, 2, 3, 4, 5, 6, 7, 8, 9, 10, 0, 11, 12, 13] (dk DX6_featureOf_1k 18 rfl) (by decide) rfl ?_
                      refine zz_iinc hC ((i + 1 : Nat) : Int) (ls' := [(0, .ref m0), (1, .int (zI h)), (2, .int (zI x)), (3, .int (zI y)), (4, .int (zI v)), (5, .int (zI (a1 + 1))), (6, .int (zI a2)), (7, .long (zL (a3 + (zCh n K U S i)))), (9, .int (zI (a4 + 0))), (10, .int (zI a5)), (11, .int (zI a6)), (12, .int (zI ((i + 1 : Nat) : Int))), (13, .int (zI (zPh T S i))), (14, .int (zI (zCh n K U S i)))]) 11 [1, 2, 3, 4, 5, 6, 7, 8, 9, 10, 11, 0, 12, 13] (dk DX6_featureOf_1k 19 rfl) rfl (by omega) (by decide) rfl ?_
                      refine zz_goto hC 21 (dk DX6_featureOf_1k 20 rfl) (by decide) ?_
                      refine zz_ls [0, 1, 2, 3, 4, 5, 6, 7, 8, 9, 10, 11] rfl ?_
                      exact ih21 (i + 1) (a1 + 1) a2 (a3 + (zCh n K U S i)) (a4 + 0) a5 a6 (by omega) (zCt_s e1 hYP) (mx_n e2 hYP (by omega)) (zSm_s e3 hYP) (by rw [Int.add_zero]; exact zCt_k e4 (by rw [Bool.and_eq_true, decide_eq_true_eq]; intro q; have := q.2; omega)) (mi_n e5 hYP (by omega) (by omega)) (mx_n e6 hYP (by omega)) (by omega)
                    · refine zz_iload hC 12 (dk DX6_featureOf_1k 15 rfl) rfl ?_
                      refine zz_goto hC 152 (dk DX6_featureOf_1k 16 rfl) (by decide) ?_
                      refine zz_istore hC (ls' := [(0, .ref m0), (1, .int (zI h)), (2, .int (zI x)), (3, .int (zI y)), (4, .int (zI v)), (5, .int (zI (a1 + 1))), (6, .int (zI a2)), (7, .long (zL (a3 + (zCh n K U S i)))), (9, .int (zI (a4 + 0))), (10, .int (zI a5)), (11, .int (zI (zPh T S i))), (12, .int (zI ((i : Nat) : Int))), (13, .int (zI (zPh T S i))), (14, .int (zI (zCh n K U S i)))]) [1, 2, 3, 4, 5, 6, 7, 8, 9, 10, 0, 11, 12, 13] (dk DX6_featureOf_1k 18 rfl) (by decide) rfl ?_
                      refine zz_iinc hC ((i + 1 : Nat) : Int) (ls' := [(0, .ref m0), (1, .int (zI h)), (2, .int (zI x)), (3, .int (zI y)), (4, .int (zI v)), (5, .int (zI (a1 + 1))), (6, .int (zI a2)), (7, .long (zL (a3 + (zCh n K U S i)))), (9, .int (zI (a4 + 0))), (10, .int (zI a5)), (11, .int (zI (zPh T S i))), (12, .int (zI ((i + 1 : Nat) : Int))), (13, .int (zI (zPh T S i))), (14, .int (zI (zCh n K U S i)))]) 11 [1, 2, 3, 4, 5, 6, 7, 8, 9, 10, 11, 0, 12, 13] (dk DX6_featureOf_1k 19 rfl) rfl (by omega) (by decide) rfl ?_
                      refine zz_goto hC 21 (dk DX6_featureOf_1k 20 rfl) (by decide) ?_
                      refine zz_ls [0, 1, 2, 3, 4, 5, 6, 7, 8, 9, 10, 11] rfl ?_
                      exact ih21 (i + 1) (a1 + 1) a2 (a3 + (zCh n K U S i)) (a4 + 0) a5 (zPh T S i) (by omega) (zCt_s e1 hYP) (mx_n e2 hYP (by omega)) (zSm_s e3 hYP) (by rw [Int.add_zero]; exact zCt_k e4 (by rw [Bool.and_eq_true, decide_eq_true_eq]; intro q; have := q.2; omega)) (mi_n e5 hYP (by omega) (by omega)) (mx_y e6 hYP (by omega)) (by omega)
                  · refine zz_iload hC 12 (dk DX6_featureOf_1k 8 rfl) rfl ?_
                    refine zz_goto hC 136 (dk DX6_featureOf_1k 9 rfl) (by decide) ?_
                    refine zz_istore hC (ls' := [(0, .ref m0), (1, .int (zI h)), (2, .int (zI x)), (3, .int (zI y)), (4, .int (zI v)), (5, .int (zI (a1 + 1))), (6, .int (zI a2)), (7, .long (zL (a3 + (zCh n K U S i)))), (9, .int (zI (a4 + 0))), (10, .int (zI (zPh T S i))), (11, .int (zI a6)), (12, .int (zI ((i : Nat) : Int))), (13, .int (zI (zPh T S i))), (14, .int (zI (zCh n K U S i)))]) [1, 2, 3, 4, 5, 6, 7, 8, 9, 0, 10, 11, 12, 13] (dk DX6_featureOf_1k 11 rfl) (by decide) rfl ?_
                    refine zz_iload hC 12 (dk DX6_featureOf_1k 12 rfl) rfl ?_
                    refine zz_iload hC 10 (dk DX6_featureOf_1k 13 rfl) rfl ?_
                    refine zz_icmp_le hC 150 (dk DX6_featureOf_1k 14 rfl) (by decide) ⟨⟨by omega, by omega⟩, ⟨by omega, by omega⟩⟩ (fun c18 => ?_) (fun c18 => ?_)
                    · refine zz_iload hC 10 (dk DX6_featureOf_1k 17 rfl) rfl ?_
                      refine zz_istore hC (ls' := [(0, .ref m0), (1, .int (zI h)), (2, .int (zI x)), (3, .int (zI y)), (4, .int (zI v)), (5, .int (zI (a1 + 1))), (6, .int (zI a2)), (7, .long (zL (a3 + (zCh n K U S i)))), (9, .int (zI (a4 + 0))), (10, .int (zI (zPh T S i))), (11, .int (zI a6)), (12, .int (zI ((i : Nat) : Int))), (13, .int (zI (zPh T S i))), (14, .int (zI (zCh n K U S i)))]) [1, 2, 3, 4, 5, 6, 7, 8, 9, 10, 0, 11, 12, 13] (dk DX6_featureOf_1k 18 rfl) (by decide) rfl ?_
                      refine zz_iinc hC ((i + 1 : Nat) : Int) (ls' := [(0, .ref m0), (1, .int (zI h)), (2, .int (zI x)), (3, .int (zI y)), (4, .int (zI v)), (5, .int (zI (a1 + 1))), (6, .int (zI a2)), (7, .long (zL (a3 + (zCh n K U S i)))), (9, .int (zI (a4 + 0))), (10, .int (zI (zPh T S i))), (11, .int (zI a6)), (12, .int (zI ((i + 1 : Nat) : Int))), (13, .int (zI (zPh T S i))), (14, .int (zI (zCh n K U S i)))]) 11 [1, 2, 3, 4, 5, 6, 7, 8, 9, 10, 11, 0, 12, 13] (dk DX6_featureOf_1k 19 rfl) rfl (by omega) (by decide) rfl ?_
                      refine zz_goto hC 21 (dk DX6_featureOf_1k 20 rfl) (by decide) ?_
                      refine zz_ls [0, 1, 2, 3, 4, 5, 6, 7, 8, 9, 10, 11] rfl ?_
                      exact ih21 (i + 1) (a1 + 1) a2 (a3 + (zCh n K U S i)) (a4 + 0) (zPh T S i) a6 (by omega) (zCt_s e1 hYP) (mx_n e2 hYP (by omega)) (zSm_s e3 hYP) (by rw [Int.add_zero]; exact zCt_k e4 (by rw [Bool.and_eq_true, decide_eq_true_eq]; intro q; have := q.2; omega)) (mi_y (f := zPh T S) e5 hYP (by omega) (fun j _ => zPh_in.1)) (mx_n e6 hYP (by omega)) (by omega)
                    · refine zz_iload hC 12 (dk DX6_featureOf_1k 15 rfl) rfl ?_
                      refine zz_goto hC 152 (dk DX6_featureOf_1k 16 rfl) (by decide) ?_
                      refine zz_istore hC (ls' := [(0, .ref m0), (1, .int (zI h)), (2, .int (zI x)), (3, .int (zI y)), (4, .int (zI v)), (5, .int (zI (a1 + 1))), (6, .int (zI a2)), (7, .long (zL (a3 + (zCh n K U S i)))), (9, .int (zI (a4 + 0))), (10, .int (zI (zPh T S i))), (11, .int (zI (zPh T S i))), (12, .int (zI ((i : Nat) : Int))), (13, .int (zI (zPh T S i))), (14, .int (zI (zCh n K U S i)))]) [1, 2, 3, 4, 5, 6, 7, 8, 9, 10, 0, 11, 12, 13] (dk DX6_featureOf_1k 18 rfl) (by decide) rfl ?_
                      refine zz_iinc hC ((i + 1 : Nat) : Int) (ls' := [(0, .ref m0), (1, .int (zI h)), (2, .int (zI x)), (3, .int (zI y)), (4, .int (zI v)), (5, .int (zI (a1 + 1))), (6, .int (zI a2)), (7, .long (zL (a3 + (zCh n K U S i)))), (9, .int (zI (a4 + 0))), (10, .int (zI (zPh T S i))), (11, .int (zI (zPh T S i))), (12, .int (zI ((i + 1 : Nat) : Int))), (13, .int (zI (zPh T S i))), (14, .int (zI (zCh n K U S i)))]) 11 [1, 2, 3, 4, 5, 6, 7, 8, 9, 10, 11, 0, 12, 13] (dk DX6_featureOf_1k 19 rfl) rfl (by omega) (by decide) rfl ?_
                      refine zz_goto hC 21 (dk DX6_featureOf_1k 20 rfl) (by decide) ?_
                      refine zz_ls [0, 1, 2, 3, 4, 5, 6, 7, 8, 9, 10, 11] rfl ?_
                      exact ih21 (i + 1) (a1 + 1) a2 (a3 + (zCh n K U S i)) (a4 + 0) (zPh T S i) (zPh T S i) (by omega) (zCt_s e1 hYP) (mx_n e2 hYP (by omega)) (zSm_s e3 hYP) (by rw [Int.add_zero]; exact zCt_k e4 (by rw [Bool.and_eq_true, decide_eq_true_eq]; intro q; have := q.2; omega)) (mi_y (f := zPh T S) e5 hYP (by omega) (fun j _ => zPh_in.1)) (mx_y e6 hYP (by omega)) (by omega)
              · refine zz_iconst hC (dk DX6_featureOf_0k 57 rfl) ?_
                refine zz_goto hC 113 (dk DX6_featureOf_0k 58 rfl) (by decide) ?_
                refine zz_iadd hC (dk DX6_featureOf_1k 0 rfl) ?_
                refine zz_istore hC (ls' := [(0, .ref m0), (1, .int (zI h)), (2, .int (zI x)), (3, .int (zI y)), (4, .int (zI v)), (5, .int (zI (a1 + 1))), (6, .int (zI a2)), (7, .long (zL (a3 + (zCh n K U S i)))), (9, .int (zI (a4 + 1))), (10, .int (zI a5)), (11, .int (zI a6)), (12, .int (zI ((i : Nat) : Int))), (13, .int (zI (zPh T S i))), (14, .int (zI (zCh n K U S i)))]) [1, 2, 3, 4, 5, 6, 7, 8, 0, 9, 10, 11, 12, 13] (dk DX6_featureOf_1k 1 rfl) (by decide) rfl ?_
                refine zz_iload hC 9 (dk DX6_featureOf_1k 2 rfl) rfl ?_
                refine zz_iconst hC (dk DX6_featureOf_1k 3 rfl) ?_
                refine zz_icmp_eq hC 129 (dk DX6_featureOf_1k 4 rfl) (by decide) ⟨⟨by omega, by omega⟩, (by decide)⟩ (fun c19 => ?_) (fun c19 => ?_)
                · refine zz_iload hC 12 (dk DX6_featureOf_1k 8 rfl) rfl ?_
                  refine zz_goto hC 136 (dk DX6_featureOf_1k 9 rfl) (by decide) ?_
                  refine zz_istore hC (ls' := [(0, .ref m0), (1, .int (zI h)), (2, .int (zI x)), (3, .int (zI y)), (4, .int (zI v)), (5, .int (zI (a1 + 1))), (6, .int (zI a2)), (7, .long (zL (a3 + (zCh n K U S i)))), (9, .int (zI (a4 + 1))), (10, .int (zI (zPh T S i))), (11, .int (zI a6)), (12, .int (zI ((i : Nat) : Int))), (13, .int (zI (zPh T S i))), (14, .int (zI (zCh n K U S i)))]) [1, 2, 3, 4, 5, 6, 7, 8, 9, 0, 10, 11, 12, 13] (dk DX6_featureOf_1k 11 rfl) (by decide) rfl ?_
                  refine zz_iload hC 12 (dk DX6_featureOf_1k 12 rfl) rfl ?_
                  refine zz_iload hC 10 (dk DX6_featureOf_1k 13 rfl) rfl ?_
                  refine zz_icmp_le hC 150 (dk DX6_featureOf_1k 14 rfl) (by decide) ⟨⟨by omega, by omega⟩, ⟨by omega, by omega⟩⟩ (fun c20 => ?_) (fun c20 => ?_)
                  · refine zz_iload hC 10 (dk DX6_featureOf_1k 17 rfl) rfl ?_
                    refine zz_istore hC (ls' := [(0, .ref m0), (1, .int (zI h)), (2, .int (zI x)), (3, .int (zI y)), (4, .int (zI v)), (5, .int (zI (a1 + 1))), (6, .int (zI a2)), (7, .long (zL (a3 + (zCh n K U S i)))), (9, .int (zI (a4 + 1))), (10, .int (zI (zPh T S i))), (11, .int (zI a6)), (12, .int (zI ((i : Nat) : Int))), (13, .int (zI (zPh T S i))), (14, .int (zI (zCh n K U S i)))]) [1, 2, 3, 4, 5, 6, 7, 8, 9, 10, 0, 11, 12, 13] (dk DX6_featureOf_1k 18 rfl) (by decide) rfl ?_
                    refine zz_iinc hC ((i + 1 : Nat) : Int) (ls' := [(0, .ref m0), (1, .int (zI h)), (2, .int (zI x)), (3, .int (zI y)), (4, .int (zI v)), (5, .int (zI (a1 + 1))), (6, .int (zI a2)), (7, .long (zL (a3 + (zCh n K U S i)))), (9, .int (zI (a4 + 1))), (10, .int (zI (zPh T S i))), (11, .int (zI a6)), (12, .int (zI ((i + 1 : Nat) : Int))), (13, .int (zI (zPh T S i))), (14, .int (zI (zCh n K U S i)))]) 11 [1, 2, 3, 4, 5, 6, 7, 8, 9, 10, 11, 0, 12, 13] (dk DX6_featureOf_1k 19 rfl) rfl (by omega) (by decide) rfl ?_
                    refine zz_goto hC 21 (dk DX6_featureOf_1k 20 rfl) (by decide) ?_
                    refine zz_ls [0, 1, 2, 3, 4, 5, 6, 7, 8, 9, 10, 11] rfl ?_
                    exact ih21 (i + 1) (a1 + 1) a2 (a3 + (zCh n K U S i)) (a4 + 1) (zPh T S i) a6 (by omega) (zCt_s e1 hYP) (mx_n e2 hYP (by omega)) (zSm_s e3 hYP) (zCt_s e4 (by rw [Bool.and_eq_true]; exact ⟨hYP, decide_eq_true (by omega)⟩)) (mi_y (f := zPh T S) e5 hYP (by omega) (fun j _ => zPh_in.1)) (mx_n e6 hYP (by omega)) (by omega)
                  · refine zz_iload hC 12 (dk DX6_featureOf_1k 15 rfl) rfl ?_
                    refine zz_goto hC 152 (dk DX6_featureOf_1k 16 rfl) (by decide) ?_
                    refine zz_istore hC (ls' := [(0, .ref m0), (1, .int (zI h)), (2, .int (zI x)), (3, .int (zI y)), (4, .int (zI v)), (5, .int (zI (a1 + 1))), (6, .int (zI a2)), (7, .long (zL (a3 + (zCh n K U S i)))), (9, .int (zI (a4 + 1))), (10, .int (zI (zPh T S i))), (11, .int (zI (zPh T S i))), (12, .int (zI ((i : Nat) : Int))), (13, .int (zI (zPh T S i))), (14, .int (zI (zCh n K U S i)))]) [1, 2, 3, 4, 5, 6, 7, 8, 9, 10, 0, 11, 12, 13] (dk DX6_featureOf_1k 18 rfl) (by decide) rfl ?_
                    refine zz_iinc hC ((i + 1 : Nat) : Int) (ls' := [(0, .ref m0), (1, .int (zI h)), (2, .int (zI x)), (3, .int (zI y)), (4, .int (zI v)), (5, .int (zI (a1 + 1))), (6, .int (zI a2)), (7, .long (zL (a3 + (zCh n K U S i)))), (9, .int (zI (a4 + 1))), (10, .int (zI (zPh T S i))), (11, .int (zI (zPh T S i))), (12, .int (zI ((i + 1 : Nat) : Int))), (13, .int (zI (zPh T S i))), (14, .int (zI (zCh n K U S i)))]) 11 [1, 2, 3, 4, 5, 6, 7, 8, 9, 10, 11, 0, 12, 13] (dk DX6_featureOf_1k 19 rfl) rfl (by omega) (by decide) rfl ?_
                    refine zz_goto hC 21 (dk DX6_featureOf_1k 20 rfl) (by decide) ?_
                    refine zz_ls [0, 1, 2, 3, 4, 5, 6, 7, 8, 9, 10, 11] rfl ?_
                    exact ih21 (i + 1) (a1 + 1) a2 (a3 + (zCh n K U S i)) (a4 + 1) (zPh T S i) (zPh T S i) (by omega) (zCt_s e1 hYP) (mx_n e2 hYP (by omega)) (zSm_s e3 hYP) (zCt_s e4 (by rw [Bool.and_eq_true]; exact ⟨hYP, decide_eq_true (by omega)⟩)) (mi_y (f := zPh T S) e5 hYP (by omega) (fun j _ => zPh_in.1)) (mx_y e6 hYP (by omega)) (by omega)
                · refine zz_iload hC 12 (dk DX6_featureOf_1k 5 rfl) rfl ?_
                  refine zz_iload hC 9 (dk DX6_featureOf_1k 6 rfl) rfl ?_
                  refine zz_icmp_ge hC 134 (dk DX6_featureOf_1k 7 rfl) (by decide) ⟨⟨by omega, by omega⟩, ⟨by omega, by omega⟩⟩ (fun c21 => ?_) (fun c21 => ?_)
                  · refine zz_iload hC 9 (dk DX6_featureOf_1k 10 rfl) rfl ?_
                    refine zz_istore hC (ls' := [(0, .ref m0), (1, .int (zI h)), (2, .int (zI x)), (3, .int (zI y)), (4, .int (zI v)), (5, .int (zI (a1 + 1))), (6, .int (zI a2)), (7, .long (zL (a3 + (zCh n K U S i)))), (9, .int (zI (a4 + 1))), (10, .int (zI a5)), (11, .int (zI a6)), (12, .int (zI ((i : Nat) : Int))), (13, .int (zI (zPh T S i))), (14, .int (zI (zCh n K U S i)))]) [1, 2, 3, 4, 5, 6, 7, 8, 9, 0, 10, 11, 12, 13] (dk DX6_featureOf_1k 11 rfl) (by decide) rfl ?_
                    refine zz_iload hC 12 (dk DX6_featureOf_1k 12 rfl) rfl ?_
                    refine zz_iload hC 10 (dk DX6_featureOf_1k 13 rfl) rfl ?_
                    refine zz_icmp_le hC 150 (dk DX6_featureOf_1k 14 rfl) (by decide) ⟨⟨by omega, by omega⟩, ⟨by omega, by omega⟩⟩ (fun c22 => ?_) (fun c22 => ?_)
                    · refine zz_iload hC 10 (dk DX6_featureOf_1k 17 rfl) rfl ?_
                      refine zz_istore hC (ls' := [(0, .ref m0), (1, .int (zI h)), (2, .int (zI x)), (3, .int (zI y)), (4, .int (zI v)), (5, .int (zI (a1 + 1))), (6, .int (zI a2)), (7, .long (zL (a3 + (zCh n K U S i)))), (9, .int (zI (a4 + 1))), (10, .int (zI a5)), (11, .int (zI a6)), (12, .int (zI ((i : Nat) : Int))), (13, .int (zI (zPh T S i))), (14, .int (zI (zCh n K U S i)))]) [1, 2, 3, 4, 5, 6, 7, 8, 9, 10, 0, 11, 12, 13] (dk DX6_featureOf_1k 18 rfl) (by decide) rfl ?_
                      refine zz_iinc hC ((i + 1 : Nat) : Int) (ls' := [(0, .ref m0), (1, .int (zI h)), (2, .int (zI x)), (3, .int (zI y)), (4, .int (zI v)), (5, .int (zI (a1 + 1))), (6, .int (zI a2)), (7, .long (zL (a3 + (zCh n K U S i)))), (9, .int (zI (a4 + 1))), (10, .int (zI a5)), (11, .int (zI a6)), (12, .int (zI ((i + 1 : Nat) : Int))), (13, .int (zI (zPh T S i))), (14, .int (zI (zCh n K U S i)))]) 11 [1, 2, 3, 4, 5, 6, 7, 8, 9, 10, 11, 0, 12, 13] (dk DX6_featureOf_1k 19 rfl) rfl (by omega) (by decide) rfl ?_
                      refine zz_goto hC 21 (dk DX6_featureOf_1k 20 rfl) (by decide) ?_
                      refine zz_ls [0, 1, 2, 3, 4, 5, 6, 7, 8, 9, 10, 11] rfl ?_
                      exact ih21 (i + 1) (a1 + 1) a2 (a3 + (zCh n K U S i)) (a4 + 1) a5 a6 (by omega) (zCt_s e1 hYP) (mx_n e2 hYP (by omega)) (zSm_s e3 hYP) (zCt_s e4 (by rw [Bool.and_eq_true]; exact ⟨hYP, decide_eq_true (by omega)⟩)) (mi_n e5 hYP (by omega) (by omega)) (mx_n e6 hYP (by omega)) (by omega)
                    · refine zz_iload hC 12 (dk DX6_featureOf_1k 15 rfl) rfl ?_
                      refine zz_goto hC 152 (dk DX6_featureOf_1k 16 rfl) (by decide) ?_
                      refine zz_istore hC (ls' := [(0, .ref m0), (1, .int (zI h)), (2, .int (zI x)), (3, .int (zI y)), (4, .int (zI v)), (5, .int (zI (a1 + 1))), (6, .int (zI a2)), (7, .long (zL (a3 + (zCh n K U S i)))), (9, .int (zI (a4 + 1))), (10, .int (zI a5)), (11, .int (zI (zPh T S i))), (12, .int (zI ((i : Nat) : Int))), (13, .int (zI (zPh T S i))), (14, .int (zI (zCh n K U S i)))]) [1, 2, 3, 4, 5, 6, 7, 8, 9, 10, 0, 11, 12, 13] (dk DX6_featureOf_1k 18 rfl) (by decide) rfl ?_
                      refine zz_iinc hC ((i + 1 : Nat) : Int) (ls' := [(0, .ref m0), (1, .int (zI h)), (2, .int (zI x)), (3, .int (zI y)), (4, .int (zI v)), (5, .int (zI (a1 + 1))), (6, .int (zI a2)), (7, .long (zL (a3 + (zCh n K U S i)))), (9, .int (zI (a4 + 1))), (10, .int (zI a5)), (11, .int (zI (zPh T S i))), (12, .int (zI ((i + 1 : Nat) : Int))), (13, .int (zI (zPh T S i))), (14, .int (zI (zCh n K U S i)))]) 11 [1, 2, 3, 4, 5, 6, 7, 8, 9, 10, 11, 0, 12, 13] (dk DX6_featureOf_1k 19 rfl) rfl (by omega) (by decide) rfl ?_
                      refine zz_goto hC 21 (dk DX6_featureOf_1k 20 rfl) (by decide) ?_
                      refine zz_ls [0, 1, 2, 3, 4, 5, 6, 7, 8, 9, 10, 11] rfl ?_
                      exact ih21 (i + 1) (a1 + 1) a2 (a3 + (zCh n K U S i)) (a4 + 1) a5 (zPh T S i) (by omega) (zCt_s e1 hYP) (mx_n e2 hYP (by omega)) (zSm_s e3 hYP) (zCt_s e4 (by rw [Bool.and_eq_true]; exact ⟨hYP, decide_eq_true (by omega)⟩)) (mi_n e5 hYP (by omega) (by omega)) (mx_y e6 hYP (by omega)) (by omega)
                  · refine zz_iload hC 12 (dk DX6_featureOf_1k 8 rfl) rfl ?_
                    refine zz_goto hC 136 (dk DX6_featureOf_1k 9 rfl) (by decide) ?_
                    refine zz_istore hC (ls' := [(0, .ref m0), (1, .int (zI h)), (2, .int (zI x)), (3, .int (zI y)), (4, .int (zI v)), (5, .int (zI (a1 + 1))), (6, .int (zI a2)), (7, .long (zL (a3 + (zCh n K U S i)))), (9, .int (zI (a4 + 1))), (10, .int (zI (zPh T S i))), (11, .int (zI a6)), (12, .int (zI ((i : Nat) : Int))), (13, .int (zI (zPh T S i))), (14, .int (zI (zCh n K U S i)))]) [1, 2, 3, 4, 5, 6, 7, 8, 9, 0, 10, 11, 12, 13] (dk DX6_featureOf_1k 11 rfl) (by decide) rfl ?_
                    refine zz_iload hC 12 (dk DX6_featureOf_1k 12 rfl) rfl ?_
                    refine zz_iload hC 10 (dk DX6_featureOf_1k 13 rfl) rfl ?_
                    refine zz_icmp_le hC 150 (dk DX6_featureOf_1k 14 rfl) (by decide) ⟨⟨by omega, by omega⟩, ⟨by omega, by omega⟩⟩ (fun c23 => ?_) (fun c23 => ?_)
                    · refine zz_iload hC 10 (dk DX6_featureOf_1k 17 rfl) rfl ?_
                      refine zz_istore hC (ls' := [(0, .ref m0), (1, .int (zI h)), (2, .int (zI x)), (3, .int (zI y)), (4, .int (zI v)), (5, .int (zI (a1 + 1))), (6, .int (zI a2)), (7, .long (zL (a3 + (zCh n K U S i)))), (9, .int (zI (a4 + 1))), (10, .int (zI (zPh T S i))), (11, .int (zI a6)), (12, .int (zI ((i : Nat) : Int))), (13, .int (zI (zPh T S i))), (14, .int (zI (zCh n K U S i)))]) [1, 2, 3, 4, 5, 6, 7, 8, 9, 10, 0, 11, 12, 13] (dk DX6_featureOf_1k 18 rfl) (by decide) rfl ?_
                      refine zz_iinc hC ((i + 1 : Nat) : Int) (ls' := [(0, .ref m0), (1, .int (zI h)), (2, .int (zI x)), (3, .int (zI y)), (4, .int (zI v)), (5, .int (zI (a1 + 1))), (6, .int (zI a2)), (7, .long (zL (a3 + (zCh n K U S i)))), (9, .int (zI (a4 + 1))), (10, .int (zI (zPh T S i))), (11, .int (zI a6)), (12, .int (zI ((i + 1 : Nat) : Int))), (13, .int (zI (zPh T S i))), (14, .int (zI (zCh n K U S i)))]) 11 [1, 2, 3, 4, 5, 6, 7, 8, 9, 10, 11, 0, 12, 13] (dk DX6_featureOf_1k 19 rfl) rfl (by omega) (by decide) rfl ?_
                      refine zz_goto hC 21 (dk DX6_featureOf_1k 20 rfl) (by decide) ?_
                      refine zz_ls [0, 1, 2, 3, 4, 5, 6, 7, 8, 9, 10, 11] rfl ?_
                      exact ih21 (i + 1) (a1 + 1) a2 (a3 + (zCh n K U S i)) (a4 + 1) (zPh T S i) a6 (by omega) (zCt_s e1 hYP) (mx_n e2 hYP (by omega)) (zSm_s e3 hYP) (zCt_s e4 (by rw [Bool.and_eq_true]; exact ⟨hYP, decide_eq_true (by omega)⟩)) (mi_y (f := zPh T S) e5 hYP (by omega) (fun j _ => zPh_in.1)) (mx_n e6 hYP (by omega)) (by omega)
                    · refine zz_iload hC 12 (dk DX6_featureOf_1k 15 rfl) rfl ?_
                      refine zz_goto hC 152 (dk DX6_featureOf_1k 16 rfl) (by decide) ?_
                      refine zz_istore hC (ls' := [(0, .ref m0), (1, .int (zI h)), (2, .int (zI x)), (3, .int (zI y)), (4, .int (zI v)), (5, .int (zI (a1 + 1))), (6, .int (zI a2)), (7, .long (zL (a3 + (zCh n K U S i)))), (9, .int (zI (a4 + 1))), (10, .int (zI (zPh T S i))), (11, .int (zI (zPh T S i))), (12, .int (zI ((i : Nat) : Int))), (13, .int (zI (zPh T S i))), (14, .int (zI (zCh n K U S i)))]) [1, 2, 3, 4, 5, 6, 7, 8, 9, 10, 0, 11, 12, 13] (dk DX6_featureOf_1k 18 rfl) (by decide) rfl ?_
                      refine zz_iinc hC ((i + 1 : Nat) : Int) (ls' := [(0, .ref m0), (1, .int (zI h)), (2, .int (zI x)), (3, .int (zI y)), (4, .int (zI v)), (5, .int (zI (a1 + 1))), (6, .int (zI a2)), (7, .long (zL (a3 + (zCh n K U S i)))), (9, .int (zI (a4 + 1))), (10, .int (zI (zPh T S i))), (11, .int (zI (zPh T S i))), (12, .int (zI ((i + 1 : Nat) : Int))), (13, .int (zI (zPh T S i))), (14, .int (zI (zCh n K U S i)))]) 11 [1, 2, 3, 4, 5, 6, 7, 8, 9, 10, 11, 0, 12, 13] (dk DX6_featureOf_1k 19 rfl) rfl (by omega) (by decide) rfl ?_
                      refine zz_goto hC 21 (dk DX6_featureOf_1k 20 rfl) (by decide) ?_
                      refine zz_ls [0, 1, 2, 3, 4, 5, 6, 7, 8, 9, 10, 11] rfl ?_
                      exact ih21 (i + 1) (a1 + 1) a2 (a3 + (zCh n K U S i)) (a4 + 1) (zPh T S i) (zPh T S i) (by omega) (zCt_s e1 hYP) (mx_n e2 hYP (by omega)) (zSm_s e3 hYP) (zCt_s e4 (by rw [Bool.and_eq_true]; exact ⟨hYP, decide_eq_true (by omega)⟩)) (mi_y (f := zPh T S) e5 hYP (by omega) (fun j _ => zPh_in.1)) (mx_y e6 hYP (by omega)) (by omega)
            · refine zz_iload hC 13 (dk DX6_featureOf_0k 43 rfl) rfl ?_
              refine zz_goto hC 87 (dk DX6_featureOf_0k 44 rfl) (by decide) ?_
              refine zz_istore hC (ls' := [(0, .ref m0), (1, .int (zI h)), (2, .int (zI x)), (3, .int (zI y)), (4, .int (zI v)), (5, .int (zI (a1 + 1))), (6, .int (zI (zCh n K U S i))), (7, .long (zL a3)), (9, .int (zI a4)), (10, .int (zI a5)), (11, .int (zI a6)), (12, .int (zI ((i : Nat) : Int))), (13, .int (zI (zPh T S i))), (14, .int (zI (zCh n K U S i)))]) [1, 2, 3, 4, 5, 6, 0, 7, 8, 9, 10, 11, 12, 13] (dk DX6_featureOf_0k 46 rfl) (by decide) rfl ?_
              refine zz_lload hC 7 (dk DX6_featureOf_0k 47 rfl) rfl ?_
              refine zz_iload hC 13 (dk DX6_featureOf_0k 48 rfl) rfl ?_
              refine zz_i2l hC (dk DX6_featureOf_0k 49 rfl) ⟨by omega, by omega⟩ ?_
              refine zz_ladd hC (dk DX6_featureOf_0k 50 rfl) ?_
              refine zz_lstore hC (ls' := [(0, .ref m0), (1, .int (zI h)), (2, .int (zI x)), (3, .int (zI y)), (4, .int (zI v)), (5, .int (zI (a1 + 1))), (6, .int (zI (zCh n K U S i))), (7, .long (zL (a3 + (zCh n K U S i)))), (9, .int (zI a4)), (10, .int (zI a5)), (11, .int (zI a6)), (12, .int (zI ((i : Nat) : Int))), (13, .int (zI (zPh T S i))), (14, .int (zI (zCh n K U S i)))]) [1, 2, 3, 4, 5, 6, 7, 0, 8, 9, 10, 11, 12, 13] (dk DX6_featureOf_0k 51 rfl) (by decide) rfl ?_
              refine zz_iload hC 8 (dk DX6_featureOf_0k 52 rfl) rfl ?_
              refine zz_aload_n hC 0 (dk DX6_featureOf_0k 53 rfl) rfl rfl ?_
              refine zz_iload hC 11 (dk DX6_featureOf_0k 54 rfl) rfl ?_
              refine zz_pureVi hC (c_X6_amplitude l D m0 m1 m2 m3 m4 m5 m6 m7 m8 m9 m10 NW PA AS tb st bo sh f1 f2 pk sv len sp rf nu rk rt ra bm ha n w K T U S F L i hN hg (by omega)) G_X6_119 H_X6_amplitude ⟨Nat.le_of_ble_eq_true rfl, Nat.le_of_ble_eq_true rfl⟩ rfl [0, 1, 2, 3, 4, 5, 6, 7, 8, 9, 10] rfl rfl 0 6 ⟨rfl, rfl, rfl⟩ (As := [.int (zI ((i : Nat) : Int))]) (rest := [.int (zI a4)]) (Nat.le_of_ble_eq_true rfl) rfl ⟨Nat.le_of_ble_eq_true rfl, Nat.le_of_ble_eq_true rfl⟩ (dk DX6_featureOf_0k 55 rfl) ⟨rfl, rfl⟩ ?_
              have hf24 := hU i (by omega)
              refine zz_if_lt hC 112 (dk DX6_featureOf_0k 56 rfl) (by decide) ⟨by omega, by omega⟩ (fun c25 => ?_) (fun c25 => ?_)
              · refine zz_iconst hC (dk DX6_featureOf_0k 59 rfl) ?_
                refine zz_iadd hC (dk DX6_featureOf_1k 0 rfl) ?_
                refine zz_istore hC (ls' := [(0, .ref m0), (1, .int (zI h)), (2, .int (zI x)), (3, .int (zI y)), (4, .int (zI v)), (5, .int (zI (a1 + 1))), (6, .int (zI (zCh n K U S i))), (7, .long (zL (a3 + (zCh n K U S i)))), (9, .int (zI (a4 + 0))), (10, .int (zI a5)), (11, .int (zI a6)), (12, .int (zI ((i : Nat) : Int))), (13, .int (zI (zPh T S i))), (14, .int (zI (zCh n K U S i)))]) [1, 2, 3, 4, 5, 6, 7, 8, 0, 9, 10, 11, 12, 13] (dk DX6_featureOf_1k 1 rfl) (by decide) rfl ?_
                refine zz_iload hC 9 (dk DX6_featureOf_1k 2 rfl) rfl ?_
                refine zz_iconst hC (dk DX6_featureOf_1k 3 rfl) ?_
                refine zz_icmp_eq hC 129 (dk DX6_featureOf_1k 4 rfl) (by decide) ⟨⟨by omega, by omega⟩, (by decide)⟩ (fun c26 => ?_) (fun c26 => ?_)
                · refine zz_iload hC 12 (dk DX6_featureOf_1k 8 rfl) rfl ?_
                  refine zz_goto hC 136 (dk DX6_featureOf_1k 9 rfl) (by decide) ?_
                  refine zz_istore hC (ls' := [(0, .ref m0), (1, .int (zI h)), (2, .int (zI x)), (3, .int (zI y)), (4, .int (zI v)), (5, .int (zI (a1 + 1))), (6, .int (zI (zCh n K U S i))), (7, .long (zL (a3 + (zCh n K U S i)))), (9, .int (zI (a4 + 0))), (10, .int (zI (zPh T S i))), (11, .int (zI a6)), (12, .int (zI ((i : Nat) : Int))), (13, .int (zI (zPh T S i))), (14, .int (zI (zCh n K U S i)))]) [1, 2, 3, 4, 5, 6, 7, 8, 9, 0, 10, 11, 12, 13] (dk DX6_featureOf_1k 11 rfl) (by decide) rfl ?_
                  refine zz_iload hC 12 (dk DX6_featureOf_1k 12 rfl) rfl ?_
                  refine zz_iload hC 10 (dk DX6_featureOf_1k 13 rfl) rfl ?_
                  refine zz_icmp_le hC 150 (dk DX6_featureOf_1k 14 rfl) (by decide) ⟨⟨by omega, by omega⟩, ⟨by omega, by omega⟩⟩ (fun c27 => ?_) (fun c27 => ?_)
                  · refine zz_iload hC 10 (dk DX6_featureOf_1k 17 rfl) rfl ?_
                    refine zz_istore hC (ls' := [(0, .ref m0), (1, .int (zI h)), (2, .int (zI x)), (3, .int (zI y)), (4, .int (zI v)), (5, .int (zI (a1 + 1))), (6, .int (zI (zCh n K U S i))), (7, .long (zL (a3 + (zCh n K U S i)))), (9, .int (zI (a4 + 0))), (10, .int (zI (zPh T S i))), (11, .int (zI a6)), (12, .int (zI ((i : Nat) : Int))), (13, .int (zI (zPh T S i))), (14, .int (zI (zCh n K U S i)))]) [1, 2, 3, 4, 5, 6, 7, 8, 9, 10, 0, 11, 12, 13] (dk DX6_featureOf_1k 18 rfl) (by decide) rfl ?_
                    refine zz_iinc hC ((i + 1 : Nat) : Int) (ls' := [(0, .ref m0), (1, .int (zI h)), (2, .int (zI x)), (3, .int (zI y)), (4, .int (zI v)), (5, .int (zI (a1 + 1))), (6, .int (zI (zCh n K U S i))), (7, .long (zL (a3 + (zCh n K U S i)))), (9, .int (zI (a4 + 0))), (10, .int (zI (zPh T S i))), (11, .int (zI a6)), (12, .int (zI ((i + 1 : Nat) : Int))), (13, .int (zI (zPh T S i))), (14, .int (zI (zCh n K U S i)))]) 11 [1, 2, 3, 4, 5, 6, 7, 8, 9, 10, 11, 0, 12, 13] (dk DX6_featureOf_1k 19 rfl) rfl (by omega) (by decide) rfl ?_
                    refine zz_goto hC 21 (dk DX6_featureOf_1k 20 rfl) (by decide) ?_
                    refine zz_ls [0, 1, 2, 3, 4, 5, 6, 7, 8, 9, 10, 11] rfl ?_
                    exact ih21 (i + 1) (a1 + 1) (zCh n K U S i) (a3 + (zCh n K U S i)) (a4 + 0) (zPh T S i) a6 (by omega) (zCt_s e1 hYP) (mx_y e2 hYP (by omega)) (zSm_s e3 hYP) (by rw [Int.add_zero]; exact zCt_k e4 (by rw [Bool.and_eq_true, decide_eq_true_eq]; intro q; have := q.2; omega)) (mi_y (f := zPh T S) e5 hYP (by omega) (fun j _ => zPh_in.1)) (mx_n e6 hYP (by omega)) (by omega)
                  · refine zz_iload hC 12 (dk DX6_featureOf_1k 15 rfl) rfl ?_
                    refine zz_goto hC 152 (dk DX6_featureOf_1k 16 rfl) (by decide) ?_
                    refine zz_istore hC (ls' := [(0, .ref m0), (1, .int (zI h)), (2, .int (zI x)), (3, .int (zI y)), (4, .int (zI v)), (5, .int (zI (a1 + 1))), (6, .int (zI (zCh n K U S i))), (7, .long (zL (a3 + (zCh n K U S i)))), (9, .int (zI (a4 + 0))), (10, .int (zI (zPh T S i))), (11, .int (zI (zPh T S i))), (12, .int (zI ((i : Nat) : Int))), (13, .int (zI (zPh T S i))), (14, .int (zI (zCh n K U S i)))]) [1, 2, 3, 4, 5, 6, 7, 8, 9, 10, 0, 11, 12, 13] (dk DX6_featureOf_1k 18 rfl) (by decide) rfl ?_
                    refine zz_iinc hC ((i + 1 : Nat) : Int) (ls' := [(0, .ref m0), (1, .int (zI h)), (2, .int (zI x)), (3, .int (zI y)), (4, .int (zI v)), (5, .int (zI (a1 + 1))), (6, .int (zI (zCh n K U S i))), (7, .long (zL (a3 + (zCh n K U S i)))), (9, .int (zI (a4 + 0))), (10, .int (zI (zPh T S i))), (11, .int (zI (zPh T S i))), (12, .int (zI ((i + 1 : Nat) : Int))), (13, .int (zI (zPh T S i))), (14, .int (zI (zCh n K U S i)))]) 11 [1, 2, 3, 4, 5, 6, 7, 8, 9, 10, 11, 0, 12, 13] (dk DX6_featureOf_1k 19 rfl) rfl (by omega) (by decide) rfl ?_
                    refine zz_goto hC 21 (dk DX6_featureOf_1k 20 rfl) (by decide) ?_
                    refine zz_ls [0, 1, 2, 3, 4, 5, 6, 7, 8, 9, 10, 11] rfl ?_
                    exact ih21 (i + 1) (a1 + 1) (zCh n K U S i) (a3 + (zCh n K U S i)) (a4 + 0) (zPh T S i) (zPh T S i) (by omega) (zCt_s e1 hYP) (mx_y e2 hYP (by omega)) (zSm_s e3 hYP) (by rw [Int.add_zero]; exact zCt_k e4 (by rw [Bool.and_eq_true, decide_eq_true_eq]; intro q; have := q.2; omega)) (mi_y (f := zPh T S) e5 hYP (by omega) (fun j _ => zPh_in.1)) (mx_y e6 hYP (by omega)) (by omega)
                · refine zz_iload hC 12 (dk DX6_featureOf_1k 5 rfl) rfl ?_
                  refine zz_iload hC 9 (dk DX6_featureOf_1k 6 rfl) rfl ?_
                  refine zz_icmp_ge hC 134 (dk DX6_featureOf_1k 7 rfl) (by decide) ⟨⟨by omega, by omega⟩, ⟨by omega, by omega⟩⟩ (fun c28 => ?_) (fun c28 => ?_)
                  · refine zz_iload hC 9 (dk DX6_featureOf_1k 10 rfl) rfl ?_
                    refine zz_istore hC (ls' := [(0, .ref m0), (1, .int (zI h)), (2, .int (zI x)), (3, .int (zI y)), (4, .int (zI v)), (5, .int (zI (a1 + 1))), (6, .int (zI (zCh n K U S i))), (7, .long (zL (a3 + (zCh n K U S i)))), (9, .int (zI (a4 + 0))), (10, .int (zI a5)), (11, .int (zI a6)), (12, .int (zI ((i : Nat) : Int))), (13, .int (zI (zPh T S i))), (14, .int (zI (zCh n K U S i)))]) [1, 2, 3, 4, 5, 6, 7, 8, 9, 0, 10, 11, 12, 13] (dk DX6_featureOf_1k 11 rfl) (by decide) rfl ?_
                    refine zz_iload hC 12 (dk DX6_featureOf_1k 12 rfl) rfl ?_
                    refine zz_iload hC 10 (dk DX6_featureOf_1k 13 rfl) rfl ?_
                    refine zz_icmp_le hC 150 (dk DX6_featureOf_1k 14 rfl) (by decide) ⟨⟨by omega, by omega⟩, ⟨by omega, by omega⟩⟩ (fun c29 => ?_) (fun c29 => ?_)
                    · refine zz_iload hC 10 (dk DX6_featureOf_1k 17 rfl) rfl ?_
                      refine zz_istore hC (ls' := [(0, .ref m0), (1, .int (zI h)), (2, .int (zI x)), (3, .int (zI y)), (4, .int (zI v)), (5, .int (zI (a1 + 1))), (6, .int (zI (zCh n K U S i))), (7, .long (zL (a3 + (zCh n K U S i)))), (9, .int (zI (a4 + 0))), (10, .int (zI a5)), (11, .int (zI a6)), (12, .int (zI ((i : Nat) : Int))), (13, .int (zI (zPh T S i))), (14, .int (zI (zCh n K U S i)))]) [1, 2, 3, 4, 5, 6, 7, 8, 9, 10, 0, 11, 12, 13] (dk DX6_featureOf_1k 18 rfl) (by decide) rfl ?_
                      refine zz_iinc hC ((i + 1 : Nat) : Int) (ls' := [(0, .ref m0), (1, .int (zI h)), (2, .int (zI x)), (3, .int (zI y)), (4, .int (zI v)), (5, .int (zI (a1 + 1))), (6, .int (zI (zCh n K U S i))), (7, .long (zL (a3 + (zCh n K U S i)))), (9, .int (zI (a4 + 0))), (10, .int (zI a5)), (11, .int (zI a6)), (12, .int (zI ((i + 1 : Nat) : Int))), (13, .int (zI (zPh T S i))), (14, .int (zI (zCh n K U S i)))]) 11 [1, 2, 3, 4, 5, 6, 7, 8, 9, 10, 11, 0, 12, 13] (dk DX6_featureOf_1k 19 rfl) rfl (by omega) (by decide) rfl ?_
                      refine zz_goto hC 21 (dk DX6_featureOf_1k 20 rfl) (by decide) ?_
                      refine zz_ls [0, 1, 2, 3, 4, 5, 6, 7, 8, 9, 10, 11] rfl ?_
                      exact ih21 (i + 1) (a1 + 1) (zCh n K U S i) (a3 + (zCh n K U S i)) (a4 + 0) a5 a6 (by omega) (zCt_s e1 hYP) (mx_y e2 hYP (by omega)) (zSm_s e3 hYP) (by rw [Int.add_zero]; exact zCt_k e4 (by rw [Bool.and_eq_true, decide_eq_true_eq]; intro q; have := q.2; omega)) (mi_n e5 hYP (by omega) (by omega)) (mx_n e6 hYP (by omega)) (by omega)
                    · refine zz_iload hC 12 (dk DX6_featureOf_1k 15 rfl) rfl ?_
                      refine zz_goto hC 152 (dk DX6_featureOf_1k 16 rfl) (by decide) ?_
                      refine zz_istore hC (ls' := [(0, .ref m0), (1, .int (zI h)), (2, .int (zI x)), (3, .int (zI y)), (4, .int (zI v)), (5, .int (zI (a1 + 1))), (6, .int (zI (zCh n K U S i))), (7, .long (zL (a3 + (zCh n K U S i)))), (9, .int (zI (a4 + 0))), (10, .int (zI a5)), (11, .int (zI (zPh T S i))), (12, .int (zI ((i : Nat) : Int))), (13, .int (zI (zPh T S i))), (14, .int (zI (zCh n K U S i)))]) [1, 2, 3, 4, 5, 6, 7, 8, 9, 10, 0, 11, 12, 13] (dk DX6_featureOf_1k 18 rfl) (by decide) rfl ?_
                      refine zz_iinc hC ((i + 1 : Nat) : Int) (ls' := [(0, .ref m0), (1, .int (zI h)), (2, .int (zI x)), (3, .int (zI y)), (4, .int (zI v)), (5, .int (zI (a1 + 1))), (6, .int (zI (zCh n K U S i))), (7, .long (zL (a3 + (zCh n K U S i)))), (9, .int (zI (a4 + 0))), (10, .int (zI a5)), (11, .int (zI (zPh T S i))), (12, .int (zI ((i + 1 : Nat) : Int))), (13, .int (zI (zPh T S i))), (14, .int (zI (zCh n K U S i)))]) 11 [1, 2, 3, 4, 5, 6, 7, 8, 9, 10, 11, 0, 12, 13] (dk DX6_featureOf_1k 19 rfl) rfl (by omega) (by decide) rfl ?_
                      refine zz_goto hC 21 (dk DX6_featureOf_1k 20 rfl) (by decide) ?_
                      refine zz_ls [0, 1, 2, 3, 4, 5, 6, 7, 8, 9, 10, 11] rfl ?_
                      exact ih21 (i + 1) (a1 + 1) (zCh n K U S i) (a3 + (zCh n K U S i)) (a4 + 0) a5 (zPh T S i) (by omega) (zCt_s e1 hYP) (mx_y e2 hYP (by omega)) (zSm_s e3 hYP) (by rw [Int.add_zero]; exact zCt_k e4 (by rw [Bool.and_eq_true, decide_eq_true_eq]; intro q; have := q.2; omega)) (mi_n e5 hYP (by omega) (by omega)) (mx_y e6 hYP (by omega)) (by omega)
                  · refine zz_iload hC 12 (dk DX6_featureOf_1k 8 rfl) rfl ?_
                    refine zz_goto hC 136 (dk DX6_featureOf_1k 9 rfl) (by decide) ?_
                    refine zz_istore hC (ls' := [(0, .ref m0), (1, .int (zI h)), (2, .int (zI x)), (3, .int (zI y)), (4, .int (zI v)), (5, .int (zI (a1 + 1))), (6, .int (zI (zCh n K U S i))), (7, .long (zL (a3 + (zCh n K U S i)))), (9, .int (zI (a4 + 0))), (10, .int (zI (zPh T S i))), (11, .int (zI a6)), (12, .int (zI ((i : Nat) : Int))), (13, .int (zI (zPh T S i))), (14, .int (zI (zCh n K U S i)))]) [1, 2, 3, 4, 5, 6, 7, 8, 9, 0, 10, 11, 12, 13] (dk DX6_featureOf_1k 11 rfl) (by decide) rfl ?_
                    refine zz_iload hC 12 (dk DX6_featureOf_1k 12 rfl) rfl ?_
                    refine zz_iload hC 10 (dk DX6_featureOf_1k 13 rfl) rfl ?_
                    refine zz_icmp_le hC 150 (dk DX6_featureOf_1k 14 rfl) (by decide) ⟨⟨by omega, by omega⟩, ⟨by omega, by omega⟩⟩ (fun c30 => ?_) (fun c30 => ?_)
                    · refine zz_iload hC 10 (dk DX6_featureOf_1k 17 rfl) rfl ?_
                      refine zz_istore hC (ls' := [(0, .ref m0), (1, .int (zI h)), (2, .int (zI x)), (3, .int (zI y)), (4, .int (zI v)), (5, .int (zI (a1 + 1))), (6, .int (zI (zCh n K U S i))), (7, .long (zL (a3 + (zCh n K U S i)))), (9, .int (zI (a4 + 0))), (10, .int (zI (zPh T S i))), (11, .int (zI a6)), (12, .int (zI ((i : Nat) : Int))), (13, .int (zI (zPh T S i))), (14, .int (zI (zCh n K U S i)))]) [1, 2, 3, 4, 5, 6, 7, 8, 9, 10, 0, 11, 12, 13] (dk DX6_featureOf_1k 18 rfl) (by decide) rfl ?_
                      refine zz_iinc hC ((i + 1 : Nat) : Int) (ls' := [(0, .ref m0), (1, .int (zI h)), (2, .int (zI x)), (3, .int (zI y)), (4, .int (zI v)), (5, .int (zI (a1 + 1))), (6, .int (zI (zCh n K U S i))), (7, .long (zL (a3 + (zCh n K U S i)))), (9, .int (zI (a4 + 0))), (10, .int (zI (zPh T S i))), (11, .int (zI a6)), (12, .int (zI ((i + 1 : Nat) : Int))), (13, .int (zI (zPh T S i))), (14, .int (zI (zCh n K U S i)))]) 11 [1, 2, 3, 4, 5, 6, 7, 8, 9, 10, 11, 0, 12, 13] (dk DX6_featureOf_1k 19 rfl) rfl (by omega) (by decide) rfl ?_
                      refine zz_goto hC 21 (dk DX6_featureOf_1k 20 rfl) (by decide) ?_
                      refine zz_ls [0, 1, 2, 3, 4, 5, 6, 7, 8, 9, 10, 11] rfl ?_
                      exact ih21 (i + 1) (a1 + 1) (zCh n K U S i) (a3 + (zCh n K U S i)) (a4 + 0) (zPh T S i) a6 (by omega) (zCt_s e1 hYP) (mx_y e2 hYP (by omega)) (zSm_s e3 hYP) (by rw [Int.add_zero]; exact zCt_k e4 (by rw [Bool.and_eq_true, decide_eq_true_eq]; intro q; have := q.2; omega)) (mi_y (f := zPh T S) e5 hYP (by omega) (fun j _ => zPh_in.1)) (mx_n e6 hYP (by omega)) (by omega)
                    · refine zz_iload hC 12 (dk DX6_featureOf_1k 15 rfl) rfl ?_
                      refine zz_goto hC 152 (dk DX6_featureOf_1k 16 rfl) (by decide) ?_
                      refine zz_istore hC (ls' := [(0, .ref m0), (1, .int (zI h)), (2, .int (zI x)), (3, .int (zI y)), (4, .int (zI v)), (5, .int (zI (a1 + 1))), (6, .int (zI (zCh n K U S i))), (7, .long (zL (a3 + (zCh n K U S i)))), (9, .int (zI (a4 + 0))), (10, .int (zI (zPh T S i))), (11, .int (zI (zPh T S i))), (12, .int (zI ((i : Nat) : Int))), (13, .int (zI (zPh T S i))), (14, .int (zI (zCh n K U S i)))]) [1, 2, 3, 4, 5, 6, 7, 8, 9, 10, 0, 11, 12, 13] (dk DX6_featureOf_1k 18 rfl) (by decide) rfl ?_
                      refine zz_iinc hC ((i + 1 : Nat) : Int) (ls' := [(0, .ref m0), (1, .int (zI h)), (2, .int (zI x)), (3, .int (zI y)), (4, .int (zI v)), (5, .int (zI (a1 + 1))), (6, .int (zI (zCh n K U S i))), (7, .long (zL (a3 + (zCh n K U S i)))), (9, .int (zI (a4 + 0))), (10, .int (zI (zPh T S i))), (11, .int (zI (zPh T S i))), (12, .int (zI ((i + 1 : Nat) : Int))), (13, .int (zI (zPh T S i))), (14, .int (zI (zCh n K U S i)))]) 11 [1, 2, 3, 4, 5, 6, 7, 8, 9, 10, 11, 0, 12, 13] (dk DX6_featureOf_1k 19 rfl) rfl (by omega) (by decide) rfl ?_
                      refine zz_goto hC 21 (dk DX6_featureOf_1k 20 rfl) (by decide) ?_
                      refine zz_ls [0, 1, 2, 3, 4, 5, 6, 7, 8, 9, 10, 11] rfl ?_
                      exact ih21 (i + 1) (a1 + 1) (zCh n K U S i) (a3 + (zCh n K U S i)) (a4 + 0) (zPh T S i) (zPh T S i) (by omega) (zCt_s e1 hYP) (mx_y e2 hYP (by omega)) (zSm_s e3 hYP) (by rw [Int.add_zero]; exact zCt_k e4 (by rw [Bool.and_eq_true, decide_eq_true_eq]; intro q; have := q.2; omega)) (mi_y (f := zPh T S) e5 hYP (by omega) (fun j _ => zPh_in.1)) (mx_y e6 hYP (by omega)) (by omega)
              · refine zz_iconst hC (dk DX6_featureOf_0k 57 rfl) ?_
                refine zz_goto hC 113 (dk DX6_featureOf_0k 58 rfl) (by decide) ?_
                refine zz_iadd hC (dk DX6_featureOf_1k 0 rfl) ?_
                refine zz_istore hC (ls' := [(0, .ref m0), (1, .int (zI h)), (2, .int (zI x)), (3, .int (zI y)), (4, .int (zI v)), (5, .int (zI (a1 + 1))), (6, .int (zI (zCh n K U S i))), (7, .long (zL (a3 + (zCh n K U S i)))), (9, .int (zI (a4 + 1))), (10, .int (zI a5)), (11, .int (zI a6)), (12, .int (zI ((i : Nat) : Int))), (13, .int (zI (zPh T S i))), (14, .int (zI (zCh n K U S i)))]) [1, 2, 3, 4, 5, 6, 7, 8, 0, 9, 10, 11, 12, 13] (dk DX6_featureOf_1k 1 rfl) (by decide) rfl ?_
                refine zz_iload hC 9 (dk DX6_featureOf_1k 2 rfl) rfl ?_
                refine zz_iconst hC (dk DX6_featureOf_1k 3 rfl) ?_
                refine zz_icmp_eq hC 129 (dk DX6_featureOf_1k 4 rfl) (by decide) ⟨⟨by omega, by omega⟩, (by decide)⟩ (fun c31 => ?_) (fun c31 => ?_)
                · refine zz_iload hC 12 (dk DX6_featureOf_1k 8 rfl) rfl ?_
                  refine zz_goto hC 136 (dk DX6_featureOf_1k 9 rfl) (by decide) ?_
                  refine zz_istore hC (ls' := [(0, .ref m0), (1, .int (zI h)), (2, .int (zI x)), (3, .int (zI y)), (4, .int (zI v)), (5, .int (zI (a1 + 1))), (6, .int (zI (zCh n K U S i))), (7, .long (zL (a3 + (zCh n K U S i)))), (9, .int (zI (a4 + 1))), (10, .int (zI (zPh T S i))), (11, .int (zI a6)), (12, .int (zI ((i : Nat) : Int))), (13, .int (zI (zPh T S i))), (14, .int (zI (zCh n K U S i)))]) [1, 2, 3, 4, 5, 6, 7, 8, 9, 0, 10, 11, 12, 13] (dk DX6_featureOf_1k 11 rfl) (by decide) rfl ?_
                  refine zz_iload hC 12 (dk DX6_featureOf_1k 12 rfl) rfl ?_
                  refine zz_iload hC 10 (dk DX6_featureOf_1k 13 rfl) rfl ?_
                  refine zz_icmp_le hC 150 (dk DX6_featureOf_1k 14 rfl) (by decide) ⟨⟨by omega, by omega⟩, ⟨by omega, by omega⟩⟩ (fun c32 => ?_) (fun c32 => ?_)
                  · refine zz_iload hC 10 (dk DX6_featureOf_1k 17 rfl) rfl ?_
                    refine zz_istore hC (ls' := [(0, .ref m0), (1, .int (zI h)), (2, .int (zI x)), (3, .int (zI y)), (4, .int (zI v)), (5, .int (zI (a1 + 1))), (6, .int (zI (zCh n K U S i))), (7, .long (zL (a3 + (zCh n K U S i)))), (9, .int (zI (a4 + 1))), (10, .int (zI (zPh T S i))), (11, .int (zI a6)), (12, .int (zI ((i : Nat) : Int))), (13, .int (zI (zPh T S i))), (14, .int (zI (zCh n K U S i)))]) [1, 2, 3, 4, 5, 6, 7, 8, 9, 10, 0, 11, 12, 13] (dk DX6_featureOf_1k 18 rfl) (by decide) rfl ?_
                    refine zz_iinc hC ((i + 1 : Nat) : Int) (ls' := [(0, .ref m0), (1, .int (zI h)), (2, .int (zI x)), (3, .int (zI y)), (4, .int (zI v)), (5, .int (zI (a1 + 1))), (6, .int (zI (zCh n K U S i))), (7, .long (zL (a3 + (zCh n K U S i)))), (9, .int (zI (a4 + 1))), (10, .int (zI (zPh T S i))), (11, .int (zI a6)), (12, .int (zI ((i + 1 : Nat) : Int))), (13, .int (zI (zPh T S i))), (14, .int (zI (zCh n K U S i)))]) 11 [1, 2, 3, 4, 5, 6, 7, 8, 9, 10, 11, 0, 12, 13] (dk DX6_featureOf_1k 19 rfl) rfl (by omega) (by decide) rfl ?_
                    refine zz_goto hC 21 (dk DX6_featureOf_1k 20 rfl) (by decide) ?_
                    refine zz_ls [0, 1, 2, 3, 4, 5, 6, 7, 8, 9, 10, 11] rfl ?_
                    exact ih21 (i + 1) (a1 + 1) (zCh n K U S i) (a3 + (zCh n K U S i)) (a4 + 1) (zPh T S i) a6 (by omega) (zCt_s e1 hYP) (mx_y e2 hYP (by omega)) (zSm_s e3 hYP) (zCt_s e4 (by rw [Bool.and_eq_true]; exact ⟨hYP, decide_eq_true (by omega)⟩)) (mi_y (f := zPh T S) e5 hYP (by omega) (fun j _ => zPh_in.1)) (mx_n e6 hYP (by omega)) (by omega)
                  · refine zz_iload hC 12 (dk DX6_featureOf_1k 15 rfl) rfl ?_
                    refine zz_goto hC 152 (dk DX6_featureOf_1k 16 rfl) (by decide) ?_
                    refine zz_istore hC (ls' := [(0, .ref m0), (1, .int (zI h)), (2, .int (zI x)), (3, .int (zI y)), (4, .int (zI v)), (5, .int (zI (a1 + 1))), (6, .int (zI (zCh n K U S i))), (7, .long (zL (a3 + (zCh n K U S i)))), (9, .int (zI (a4 + 1))), (10, .int (zI (zPh T S i))), (11, .int (zI (zPh T S i))), (12, .int (zI ((i : Nat) : Int))), (13, .int (zI (zPh T S i))), (14, .int (zI (zCh n K U S i)))]) [1, 2, 3, 4, 5, 6, 7, 8, 9, 10, 0, 11, 12, 13] (dk DX6_featureOf_1k 18 rfl) (by decide) rfl ?_
                    refine zz_iinc hC ((i + 1 : Nat) : Int) (ls' := [(0, .ref m0), (1, .int (zI h)), (2, .int (zI x)), (3, .int (zI y)), (4, .int (zI v)), (5, .int (zI (a1 + 1))), (6, .int (zI (zCh n K U S i))), (7, .long (zL (a3 + (zCh n K U S i)))), (9, .int (zI (a4 + 1))), (10, .int (zI (zPh T S i))), (11, .int (zI (zPh T S i))), (12, .int (zI ((i + 1 : Nat) : Int))), (13, .int (zI (zPh T S i))), (14, .int (zI (zCh n K U S i)))]) 11 [1, 2, 3, 4, 5, 6, 7, 8, 9, 10, 11, 0, 12, 13] (dk DX6_featureOf_1k 19 rfl) rfl (by omega) (by decide) rfl ?_
                    refine zz_goto hC 21 (dk DX6_featureOf_1k 20 rfl) (by decide) ?_
                    refine zz_ls [0, 1, 2, 3, 4, 5, 6, 7, 8, 9, 10, 11] rfl ?_
                    exact ih21 (i + 1) (a1 + 1) (zCh n K U S i) (a3 + (zCh n K U S i)) (a4 + 1) (zPh T S i) (zPh T S i) (by omega) (zCt_s e1 hYP) (mx_y e2 hYP (by omega)) (zSm_s e3 hYP) (zCt_s e4 (by rw [Bool.and_eq_true]; exact ⟨hYP, decide_eq_true (by omega)⟩)) (mi_y (f := zPh T S) e5 hYP (by omega) (fun j _ => zPh_in.1)) (mx_y e6 hYP (by omega)) (by omega)
                · refine zz_iload hC 12 (dk DX6_featureOf_1k 5 rfl) rfl ?_
                  refine zz_iload hC 9 (dk DX6_featureOf_1k 6 rfl) rfl ?_
                  refine zz_icmp_ge hC 134 (dk DX6_featureOf_1k 7 rfl) (by decide) ⟨⟨by omega, by omega⟩, ⟨by omega, by omega⟩⟩ (fun c33 => ?_) (fun c33 => ?_)
                  · refine zz_iload hC 9 (dk DX6_featureOf_1k 10 rfl) rfl ?_
                    refine zz_istore hC (ls' := [(0, .ref m0), (1, .int (zI h)), (2, .int (zI x)), (3, .int (zI y)), (4, .int (zI v)), (5, .int (zI (a1 + 1))), (6, .int (zI (zCh n K U S i))), (7, .long (zL (a3 + (zCh n K U S i)))), (9, .int (zI (a4 + 1))), (10, .int (zI a5)), (11, .int (zI a6)), (12, .int (zI ((i : Nat) : Int))), (13, .int (zI (zPh T S i))), (14, .int (zI (zCh n K U S i)))]) [1, 2, 3, 4, 5, 6, 7, 8, 9, 0, 10, 11, 12, 13] (dk DX6_featureOf_1k 11 rfl) (by decide) rfl ?_
                    refine zz_iload hC 12 (dk DX6_featureOf_1k 12 rfl) rfl ?_
                    refine zz_iload hC 10 (dk DX6_featureOf_1k 13 rfl) rfl ?_
                    refine zz_icmp_le hC 150 (dk DX6_featureOf_1k 14 rfl) (by decide) ⟨⟨by omega, by omega⟩, ⟨by omega, by omega⟩⟩ (fun c34 => ?_) (fun c34 => ?_)
                    · refine zz_iload hC 10 (dk DX6_featureOf_1k 17 rfl) rfl ?_
                      refine zz_istore hC (ls' := [(0, .ref m0), (1, .int (zI h)), (2, .int (zI x)), (3, .int (zI y)), (4, .int (zI v)), (5, .int (zI (a1 + 1))), (6, .int (zI (zCh n K U S i))), (7, .long (zL (a3 + (zCh n K U S i)))), (9, .int (zI (a4 + 1))), (10, .int (zI a5)), (11, .int (zI a6)), (12, .int (zI ((i : Nat) : Int))), (13, .int (zI (zPh T S i))), (14, .int (zI (zCh n K U S i)))]) [1, 2, 3, 4, 5, 6, 7, 8, 9, 10, 0, 11, 12, 13] (dk DX6_featureOf_1k 18 rfl) (by decide) rfl ?_
                      refine zz_iinc hC ((i + 1 : Nat) : Int) (ls' := [(0, .ref m0), (1, .int (zI h)), (2, .int (zI x)), (3, .int (zI y)), (4, .int (zI v)), (5, .int (zI (a1 + 1))), (6, .int (zI (zCh n K U S i))), (7, .long (zL (a3 + (zCh n K U S i)))), (9, .int (zI (a4 + 1))), (10, .int (zI a5)), (11, .int (zI a6)), (12, .int (zI ((i + 1 : Nat) : Int))), (13, .int (zI (zPh T S i))), (14, .int (zI (zCh n K U S i)))]) 11 [1, 2, 3, 4, 5, 6, 7, 8, 9, 10, 11, 0, 12, 13] (dk DX6_featureOf_1k 19 rfl) rfl (by omega) (by decide) rfl ?_
                      refine zz_goto hC 21 (dk DX6_featureOf_1k 20 rfl) (by decide) ?_
                      refine zz_ls [0, 1, 2, 3, 4, 5, 6, 7, 8, 9, 10, 11] rfl ?_
                      exact ih21 (i + 1) (a1 + 1) (zCh n K U S i) (a3 + (zCh n K U S i)) (a4 + 1) a5 a6 (by omega) (zCt_s e1 hYP) (mx_y e2 hYP (by omega)) (zSm_s e3 hYP) (zCt_s e4 (by rw [Bool.and_eq_true]; exact ⟨hYP, decide_eq_true (by omega)⟩)) (mi_n e5 hYP (by omega) (by omega)) (mx_n e6 hYP (by omega)) (by omega)
                    · refine zz_iload hC 12 (dk DX6_featureOf_1k 15 rfl) rfl ?_
                      refine zz_goto hC 152 (dk DX6_featureOf_1k 16 rfl) (by decide) ?_
                      refine zz_istore hC (ls' := [(0, .ref m0), (1, .int (zI h)), (2, .int (zI x)), (3, .int (zI y)), (4, .int (zI v)), (5, .int (zI (a1 + 1))), (6, .int (zI (zCh n K U S i))), (7, .long (zL (a3 + (zCh n K U S i)))), (9, .int (zI (a4 + 1))), (10, .int (zI a5)), (11, .int (zI (zPh T S i))), (12, .int (zI ((i : Nat) : Int))), (13, .int (zI (zPh T S i))), (14, .int (zI (zCh n K U S i)))]) [1, 2, 3, 4, 5, 6, 7, 8, 9, 10, 0, 11, 12, 13] (dk DX6_featureOf_1k 18 rfl) (by decide) rfl ?_
                      refine zz_iinc hC ((i + 1 : Nat) : Int) (ls' := [(0, .ref m0), (1, .int (zI h)), (2, .int (zI x)), (3, .int (zI y)), (4, .int (zI v)), (5, .int (zI (a1 + 1))), (6, .int (zI (zCh n K U S i))), (7, .long (zL (a3 + (zCh n K U S i)))), (9, .int (zI (a4 + 1))), (10, .int (zI a5)), (11, .int (zI (zPh T S i))), (12, .int (zI ((i + 1 : Nat) : Int))), (13, .int (zI (zPh T S i))), (14, .int (zI (zCh n K U S i)))]) 11 [1, 2, 3, 4, 5, 6, 7, 8, 9, 10, 11, 0, 12, 13] (dk DX6_featureOf_1k 19 rfl) rfl (by omega) (by decide) rfl ?_
                      refine zz_goto hC 21 (dk DX6_featureOf_1k 20 rfl) (by decide) ?_
                      refine zz_ls [0, 1, 2, 3, 4, 5, 6, 7, 8, 9, 10, 11] rfl ?_
                      exact ih21 (i + 1) (a1 + 1) (zCh n K U S i) (a3 + (zCh n K U S i)) (a4 + 1) a5 (zPh T S i) (by omega) (zCt_s e1 hYP) (mx_y e2 hYP (by omega)) (zSm_s e3 hYP) (zCt_s e4 (by rw [Bool.and_eq_true]; exact ⟨hYP, decide_eq_true (by omega)⟩)) (mi_n e5 hYP (by omega) (by omega)) (mx_y e6 hYP (by omega)) (by omega)
                  · refine zz_iload hC 12 (dk DX6_featureOf_1k 8 rfl) rfl ?_
                    refine zz_goto hC 136 (dk DX6_featureOf_1k 9 rfl) (by decide) ?_
                    refine zz_istore hC (ls' := [(0, .ref m0), (1, .int (zI h)), (2, .int (zI x)), (3, .int (zI y)), (4, .int (zI v)), (5, .int (zI (a1 + 1))), (6, .int (zI (zCh n K U S i))), (7, .long (zL (a3 + (zCh n K U S i)))), (9, .int (zI (a4 + 1))), (10, .int (zI (zPh T S i))), (11, .int (zI a6)), (12, .int (zI ((i : Nat) : Int))), (13, .int (zI (zPh T S i))), (14, .int (zI (zCh n K U S i)))]) [1, 2, 3, 4, 5, 6, 7, 8, 9, 0, 10, 11, 12, 13] (dk DX6_featureOf_1k 11 rfl) (by decide) rfl ?_
                    refine zz_iload hC 12 (dk DX6_featureOf_1k 12 rfl) rfl ?_
                    refine zz_iload hC 10 (dk DX6_featureOf_1k 13 rfl) rfl ?_
                    refine zz_icmp_le hC 150 (dk DX6_featureOf_1k 14 rfl) (by decide) ⟨⟨by omega, by omega⟩, ⟨by omega, by omega⟩⟩ (fun c35 => ?_) (fun c35 => ?_)
                    · refine zz_iload hC 10 (dk DX6_featureOf_1k 17 rfl) rfl ?_
                      refine zz_istore hC (ls' := [(0, .ref m0), (1, .int (zI h)), (2, .int (zI x)), (3, .int (zI y)), (4, .int (zI v)), (5, .int (zI (a1 + 1))), (6, .int (zI (zCh n K U S i))), (7, .long (zL (a3 + (zCh n K U S i)))), (9, .int (zI (a4 + 1))), (10, .int (zI (zPh T S i))), (11, .int (zI a6)), (12, .int (zI ((i : Nat) : Int))), (13, .int (zI (zPh T S i))), (14, .int (zI (zCh n K U S i)))]) [1, 2, 3, 4, 5, 6, 7, 8, 9, 10, 0, 11, 12, 13] (dk DX6_featureOf_1k 18 rfl) (by decide) rfl ?_
                      refine zz_iinc hC ((i + 1 : Nat) : Int) (ls' := [(0, .ref m0), (1, .int (zI h)), (2, .int (zI x)), (3, .int (zI y)), (4, .int (zI v)), (5, .int (zI (a1 + 1))), (6, .int (zI (zCh n K U S i))), (7, .long (zL (a3 + (zCh n K U S i)))), (9, .int (zI (a4 + 1))), (10, .int (zI (zPh T S i))), (11, .int (zI a6)), (12, .int (zI ((i + 1 : Nat) : Int))), (13, .int (zI (zPh T S i))), (14, .int (zI (zCh n K U S i)))]) 11 [1, 2, 3, 4, 5, 6, 7, 8, 9, 10, 11, 0, 12, 13] (dk DX6_featureOf_1k 19 rfl) rfl (by omega) (by decide) rfl ?_
                      refine zz_goto hC 21 (dk DX6_featureOf_1k 20 rfl) (by decide) ?_
                      refine zz_ls [0, 1, 2, 3, 4, 5, 6, 7, 8, 9, 10, 11] rfl ?_
                      exact ih21 (i + 1) (a1 + 1) (zCh n K U S i) (a3 + (zCh n K U S i)) (a4 + 1) (zPh T S i) a6 (by omega) (zCt_s e1 hYP) (mx_y e2 hYP (by omega)) (zSm_s e3 hYP) (zCt_s e4 (by rw [Bool.and_eq_true]; exact ⟨hYP, decide_eq_true (by omega)⟩)) (mi_y (f := zPh T S) e5 hYP (by omega) (fun j _ => zPh_in.1)) (mx_n e6 hYP (by omega)) (by omega)
                    · refine zz_iload hC 12 (dk DX6_featureOf_1k 15 rfl) rfl ?_
                      refine zz_goto hC 152 (dk DX6_featureOf_1k 16 rfl) (by decide) ?_
                      refine zz_istore hC (ls' := [(0, .ref m0), (1, .int (zI h)), (2, .int (zI x)), (3, .int (zI y)), (4, .int (zI v)), (5, .int (zI (a1 + 1))), (6, .int (zI (zCh n K U S i))), (7, .long (zL (a3 + (zCh n K U S i)))), (9, .int (zI (a4 + 1))), (10, .int (zI (zPh T S i))), (11, .int (zI (zPh T S i))), (12, .int (zI ((i : Nat) : Int))), (13, .int (zI (zPh T S i))), (14, .int (zI (zCh n K U S i)))]) [1, 2, 3, 4, 5, 6, 7, 8, 9, 10, 0, 11, 12, 13] (dk DX6_featureOf_1k 18 rfl) (by decide) rfl ?_
                      refine zz_iinc hC ((i + 1 : Nat) : Int) (ls' := [(0, .ref m0), (1, .int (zI h)), (2, .int (zI x)), (3, .int (zI y)), (4, .int (zI v)), (5, .int (zI (a1 + 1))), (6, .int (zI (zCh n K U S i))), (7, .long (zL (a3 + (zCh n K U S i)))), (9, .int (zI (a4 + 1))), (10, .int (zI (zPh T S i))), (11, .int (zI (zPh T S i))), (12, .int (zI ((i + 1 : Nat) : Int))), (13, .int (zI (zPh T S i))), (14, .int (zI (zCh n K U S i)))]) 11 [1, 2, 3, 4, 5, 6, 7, 8, 9, 10, 11, 0, 12, 13] (dk DX6_featureOf_1k 19 rfl) rfl (by omega) (by decide) rfl ?_
                      refine zz_goto hC 21 (dk DX6_featureOf_1k 20 rfl) (by decide) ?_
                      refine zz_ls [0, 1, 2, 3, 4, 5, 6, 7, 8, 9, 10, 11] rfl ?_
                      exact ih21 (i + 1) (a1 + 1) (zCh n K U S i) (a3 + (zCh n K U S i)) (a4 + 1) (zPh T S i) (zPh T S i) (by omega) (zCt_s e1 hYP) (mx_y e2 hYP (by omega)) (zSm_s e3 hYP) (zCt_s e4 (by rw [Bool.and_eq_true]; exact ⟨hYP, decide_eq_true (by omega)⟩)) (mi_y (f := zPh T S) e5 hYP (by omega) (fun j _ => zPh_in.1)) (mx_y e6 hYP (by omega)) (by omega)
  refine zz_ls [0, 1, 2, 3, 4, 5, 6, 7, 8, 9, 10, 11] rfl ?_
  exact LP21 _ 0 0 0 0 0 (-1) (-1) (by omega) rfl rfl rfl rfl rfl rfl (Nat.lt_succ_self _)
set_option maxHeartbeats 4000000 in
set_option maxRecDepth 100000 in
theorem c_X6_tellBurst (l : Launch) (D : zG) (m0 : Nat) (m1 : Nat) (m2 : Nat) (m3 : Nat) (m4 : Nat) (m5 : Nat) (m6 : Nat) (m7 : Nat) (m8 : Nat) (m9 : Nat) (m10 : Nat) (NW : Nat → Int) (PA : Nat → Int) (AS : Nat → Int) (tb : Nat → Int) (st : Nat → Int) (bo : Nat → Int) (sh : Nat → Int) (f1 : Nat → Int) (f2 : Nat → Int) (pk : Nat → Int) (sv : Nat) (len : Nat) (sp : Nat) (rf : Int) (nu : Int) (rk : Int) (rt : Int) (ra : Int) (bm : Int) (ha : Int) (n : Nat) (w : Nat) (K : Nat → Int) (T : Nat → Int) (U : Nat → Int) (S : Nat → Int) (F : Nat → Int) (L : Nat → Int) (b : Int) (v : Int) (hN : zRow NW n K T U S F L w) (hg : zLog n K T U) (hs : zSet S) (hbo : ∀ j, j < n → -1 ≤ bo j ∧ bo j ≤ 250) (hb : 0 ≤ b ∧ b ≤ 250) (hv : 0 ≤ v ∧ v ≤ 3) : CL (S := Unit) l yX6_tellBurst cX6_tellBurst 9 ((some .long)) ({ frames := 2, cells := 0, slots := 0, locals := 45 } : Room) D [.ref m0, .int (zI b), .int (zI v)] [(m0, .inr (6, [.ref m1, .ref m2, .ref m3, .int (zI ((sv : Nat) : Int)), .int (zI rf), .ref m4, .int (zI ((len : Nat) : Int)), .int (zI ((sp : Nat) : Int)), .int (zI nu), .int (zI rk), .int (zI rt), .int (zI ra), .ref m5, .ref m6, .int (zI bm), .ref m7, .ref m8, .ref m9, .ref m10, .long (zL ha)])), (m1, iA D 771 NW), (m2, iA D 3084 PA), (m3, iA D 771 AS), (m4, iA D 150 tb), (m5, iA D 250 st), (m6, iA D 250 bo), (m7, iA D 250 sh), (m8, iA D 36 f1), (m9, iA D 36 f2), (m10, iA D 2778 pk)] (fun _ => True) (fun _ => (zBu bo T (zCh n K U S) b v n)) (fun _ => [(m0, .inr (6, [.ref m1, .ref m2, .ref m3, .int (zI ((sv : Nat) : Int)), .int (zI rf), .ref m4, .int (zI ((len : Nat) : Int)), .int (zI ((sp : Nat) : Int)), .int (zI nu), .int (zI rk), .int (zI rt), .int (zI ra), .ref m5, .ref m6, .int (zI bm), .ref m7, .ref m8, .ref m9, .ref m10, .long (zL ha)])), (m1, iA D 771 NW), (m2, iA D 3084 PA), (m3, iA D 771 AS), (m4, iA D 150 tb), (m5, iA D 250 st), (m6, iA D 250 bo), (m7, iA D 250 sh), (m8, iA D 36 f1), (m9, iA D 36 f2), (m10, iA D 2778 pk)]) := by
  refine CL_of (by decide) (Nat.le_of_ble_eq_true rfl) ?_
  intro p e s m args below meth cd A Q hQ hC hr hnm
  have hC : ZC p s m args meth cd A D 9 cX6_tellBurst RX6 := hC
  have hg0 := hg
  obtain ⟨hn, hK, hT, hU, hM⟩ := hg0
  show Z p l e ({ frames := 2, cells := 0, slots := 0, locals := 45 } : Room) s m args below meth cd A D Q 9 0 0 [(m0, .inr (6, [.ref m1, .ref m2, .ref m3, .int (zI ((sv : Nat) : Int)), .int (zI rf), .ref m4, .int (zI ((len : Nat) : Int)), .int (zI ((sp : Nat) : Int)), .int (zI nu), .int (zI rk), .int (zI rt), .int (zI ra), .ref m5, .ref m6, .int (zI bm), .ref m7, .ref m8, .ref m9, .ref m10, .long (zL ha)])), (m1, iA D 771 NW), (m2, iA D 3084 PA), (m3, iA D 771 AS), (m4, iA D 150 tb), (m5, iA D 250 st), (m6, iA D 250 bo), (m7, iA D 250 sh), (m8, iA D 36 f1), (m9, iA D 36 f2), (m10, iA D 2778 pk)] [(0, .ref m0), (1, .int (zI b)), (2, .int (zI v))] [] 0
  refine zz_iconst hC (dk DX6_tellBurst_0k 0 rfl) ?_
  refine zz_istore_n hC (ls' := [(0, .ref m0), (1, .int (zI b)), (2, .int (zI v)), (3, .int (zI 0))]) [1, 2, 3, 0] (dk DX6_tellBurst_0k 1 rfl) rfl (by decide) rfl ?_
  refine zz_iconst hC (dk DX6_tellBurst_0k 2 rfl) ?_
  refine zz_istore hC (ls' := [(0, .ref m0), (1, .int (zI b)), (2, .int (zI v)), (3, .int (zI 0)), (4, .int (zI (-1)))]) [1, 2, 3, 4, 0] (dk DX6_tellBurst_0k 3 rfl) (by decide) rfl ?_
  refine zz_iconst hC (dk DX6_tellBurst_0k 4 rfl) ?_
  refine zz_istore hC (ls' := [(0, .ref m0), (1, .int (zI b)), (2, .int (zI v)), (3, .int (zI 0)), (4, .int (zI (-1))), (5, .int (zI (-1)))]) [1, 2, 3, 4, 5, 0] (dk DX6_tellBurst_0k 5 rfl) (by decide) rfl ?_
  refine zz_lconst hC 0 (dk DX6_tellBurst_0k 6 rfl) (by decide) ?_
  refine zz_lstore hC (ls' := [(0, .ref m0), (1, .int (zI b)), (2, .int (zI v)), (3, .int (zI 0)), (4, .int (zI (-1))), (5, .int (zI (-1))), (6, .long (zL 0))]) [1, 2, 3, 4, 5, 6, 0] (dk DX6_tellBurst_0k 7 rfl) (by decide) rfl ?_
  refine zz_iconst hC (dk DX6_tellBurst_0k 8 rfl) ?_
  refine zz_istore hC (ls' := [(0, .ref m0), (1, .int (zI b)), (2, .int (zI v)), (3, .int (zI 0)), (4, .int (zI (-1))), (5, .int (zI (-1))), (6, .long (zL 0)), (8, .int (zI 0))]) [1, 2, 3, 4, 5, 6, 7, 0] (dk DX6_tellBurst_0k 9 rfl) (by decide) rfl ?_
  have LP14 : ∀ (fuel14 : Nat) (i : Nat) (a1 : Int) (a2 : Int) (a3 : Int) (a4 : Int), (i ≤ n) → (a1 = zCt (fun a => decide (bo a = b)) i) → (a2 = zFs (fun a => decide (bo a = b)) T i) → (a3 = zLs (fun a => decide (bo a = b)) T i) → (a4 = zSm (fun a => decide (bo a = b)) (zCh n K U S) i) → n - i < fuel14 → Z p l e ({ frames := 2, cells := 0, slots := 0, locals := 45 } : Room) s m args below meth cd A D Q 9 0 0 [(m0, .inr (6, [.ref m1, .ref m2, .ref m3, .int (zI ((sv : Nat) : Int)), .int (zI rf), .ref m4, .int (zI ((len : Nat) : Int)), .int (zI ((sp : Nat) : Int)), .int (zI nu), .int (zI rk), .int (zI rt), .int (zI ra), .ref m5, .ref m6, .int (zI bm), .ref m7, .ref m8, .ref m9, .ref m10, .long (zL ha)])), (m1, iA D 771 NW), (m2, iA D 3084 PA), (m3, iA D 771 AS), (m4, iA D 150 tb), (m5, iA D 250 st), (m6, iA D 250 bo), (m7, iA D 250 sh), (m8, iA D 36 f1), (m9, iA D 36 f2), (m10, iA D 2778 pk)] [(0, .ref m0), (1, .int (zI b)), (2, .int (zI v)), (3, .int (zI a1)), (4, .int (zI a2)), (5, .int (zI a3)), (6, .long (zL a4)), (8, .int (zI ((i : Nat) : Int)))] [] 14 := by
    intro fuel14
    induction fuel14 with
    | zero => intro i a1 a2 a3 a4 hi e1 e2 e3 e4 hfu; exact absurd hfu (Nat.not_lt_zero _)
    | succ fuel14 ih14 =>
      intro i a1 a2 a3 a4 hi e1 e2 e3 e4 hfu14
      have rr1 := zCt_in (P := fun a => decide (bo a = b)) (n := i)
      rw [← e1] at rr1
      have rr2 := zFs_in (lo := -1) (hi := 1000000) (P := fun a => decide (bo a = b)) (f := T) (n := i) (by omega) (fun j hj => by have := hT j (by omega); omega)
      rw [← e2] at rr2
      have rr3 := zLs_in (lo := -1) (hi := 1000000) (P := fun a => decide (bo a = b)) (f := T) (n := i) (by omega) (fun j hj => by have := hT j (by omega); omega)
      rw [← e3] at rr3
      refine zz_iload hC 7 (dk DX6_tellBurst_0k 10 rfl) rfl ?_
      refine zz_aload_n hC 0 (dk DX6_tellBurst_0k 11 rfl) rfl rfl ?_
      refine zz_get hC F_X6_7 0 rfl rfl (dk DX6_tellBurst_0k 12 rfl) ?_
      refine zz_bipush hC (dk DX6_tellBurst_0k 13 rfl) (by decide) ?_
      refine zz_iald hC 20 1 rfl rfl (by omega) (dk DX6_tellBurst_0k 14 rfl) ?_
      rw [hN.2.2.2.1]
      refine zz_icmp_ge hC 85 (dk DX6_tellBurst_0k 15 rfl) (by decide) ⟨⟨by omega, by omega⟩, ⟨by omega, by omega⟩⟩ (fun c1 => ?_) (fun c1 => ?_)
      · have hin : i = n := by omega
        rw [hin] at e1 e2 e3 e4
        refine zz_iload_n hC 2 (dk DX6_tellBurst_0k 45 rfl) rfl rfl ?_
        refine zz_if_ne hC 94 (dk DX6_tellBurst_0k 46 rfl) (by decide) ⟨by omega, by omega⟩ (fun c2 => ?_) (fun c2 => ?_)
        · refine zz_iload_n hC 2 (dk DX6_tellBurst_0k 50 rfl) rfl rfl ?_
          refine zz_iconst hC (dk DX6_tellBurst_0k 51 rfl) ?_
          refine zz_icmp_ne hC 105 (dk DX6_tellBurst_0k 52 rfl) (by decide) ⟨⟨by omega, by omega⟩, (by decide)⟩ (fun c3 => ?_) (fun c3 => ?_)
          · refine zz_iload_n hC 2 (dk DX6_tellBurst_0k 56 rfl) rfl rfl ?_
            refine zz_iconst hC (dk DX6_tellBurst_0k 57 rfl) ?_
            refine zz_icmp_ne hC 116 (dk DX6_tellBurst_0k 58 rfl) (by decide) ⟨⟨by omega, by omega⟩, (by decide)⟩ (fun c4 => ?_) (fun c4 => ?_)
            · refine zz_lload hC 6 (dk DX6_tellBurst_1k 2 rfl) rfl ?_
              exact zz_lret hC hQ hr () trivial (by unfold zBu; rw [e4, if_neg (by omega), if_neg (by omega), if_neg (by omega)]) [0, 1, 2, 3, 4, 5, 6, 7, 8, 9, 10] rfl rfl ⟨Nat.le_refl _, Nat.le_refl _⟩ (dk DX6_tellBurst_1k 3 rfl)
            · refine zz_iload hC 5 (dk DX6_tellBurst_0k 59 rfl) rfl ?_
              refine zz_i2l hC (dk DX6_tellBurst_1k 0 rfl) ⟨by omega, by omega⟩ ?_
              refine zz_goto hC 118 (dk DX6_tellBurst_1k 1 rfl) (by decide) ?_
              exact zz_lret hC hQ hr () trivial (by unfold zBu; rw [e3, if_neg (by omega), if_neg (by omega), if_pos (by omega)]) [0, 1, 2, 3, 4, 5, 6, 7, 8, 9, 10] rfl rfl ⟨Nat.le_refl _, Nat.le_refl _⟩ (dk DX6_tellBurst_1k 3 rfl)
          · refine zz_iload hC 4 (dk DX6_tellBurst_0k 53 rfl) rfl ?_
            refine zz_i2l hC (dk DX6_tellBurst_0k 54 rfl) ⟨by omega, by omega⟩ ?_
            refine zz_goto hC 118 (dk DX6_tellBurst_0k 55 rfl) (by decide) ?_
            exact zz_lret hC hQ hr () trivial (by unfold zBu; rw [e2, if_neg (by omega), if_pos (by omega)]) [0, 1, 2, 3, 4, 5, 6, 7, 8, 9, 10] rfl rfl ⟨Nat.le_refl _, Nat.le_refl _⟩ (dk DX6_tellBurst_1k 3 rfl)
        · refine zz_iload_n hC 3 (dk DX6_tellBurst_0k 47 rfl) rfl rfl ?_
          refine zz_i2l hC (dk DX6_tellBurst_0k 48 rfl) ⟨by omega, by omega⟩ ?_
          refine zz_goto hC 118 (dk DX6_tellBurst_0k 49 rfl) (by decide) ?_
          exact zz_lret hC hQ hr () trivial (by unfold zBu; rw [e1, if_pos (by omega)]) [0, 1, 2, 3, 4, 5, 6, 7, 8, 9, 10] rfl rfl ⟨Nat.le_refl _, Nat.le_refl _⟩ (dk DX6_tellBurst_1k 3 rfl)
      · refine zz_aload_n hC 0 (dk DX6_tellBurst_0k 16 rfl) rfl rfl ?_
        refine zz_get hC F_X6_25 0 rfl rfl (dk DX6_tellBurst_0k 17 rfl) ?_
        refine zz_iload hC 7 (dk DX6_tellBurst_0k 18 rfl) rfl ?_
        refine zz_iald hC i 6 rfl rfl (by omega) (dk DX6_tellBurst_0k 19 rfl) ?_
        have hf5 := hbo i (by omega)
        refine zz_iload_n hC 1 (dk DX6_tellBurst_0k 20 rfl) rfl rfl ?_
        refine zz_icmp_ne hC 79 (dk DX6_tellBurst_0k 21 rfl) (by decide) ⟨⟨by omega, by omega⟩, ⟨by omega, by omega⟩⟩ (fun c6 => ?_) (fun c6 => ?_)
        · refine zz_iinc hC ((i + 1 : Nat) : Int) (ls' := [(0, .ref m0), (1, .int (zI b)), (2, .int (zI v)), (3, .int (zI a1)), (4, .int (zI a2)), (5, .int (zI a3)), (6, .long (zL a4)), (8, .int (zI ((i + 1 : Nat) : Int)))]) 7 [1, 2, 3, 4, 5, 6, 7, 0] (dk DX6_tellBurst_0k 43 rfl) rfl (by omega) (by decide) rfl ?_
          refine zz_goto hC 14 (dk DX6_tellBurst_0k 44 rfl) (by decide) ?_
          refine zz_ls [0, 1, 2, 3, 4, 5, 6, 7] rfl ?_
          exact ih14 (i + 1) a1 a2 a3 a4 (by omega) (zCt_k e1 (by rw [decide_eq_true_eq]; omega)) (zFs_k e2 (by rw [decide_eq_true_eq]; omega)) (zLs_k e3 (by rw [decide_eq_true_eq]; omega)) (zSm_k e4 (by rw [decide_eq_true_eq]; omega)) (by omega)
        · refine zz_iinc hC (a1 + 1) (ls' := [(0, .ref m0), (1, .int (zI b)), (2, .int (zI v)), (3, .int (zI (a1 + 1))), (4, .int (zI a2)), (5, .int (zI a3)), (6, .long (zL a4)), (8, .int (zI ((i : Nat) : Int)))]) 3 [1, 2, 3, 0, 4, 5, 6, 7] (dk DX6_tellBurst_0k 22 rfl) rfl (by omega) (by decide) rfl ?_
          refine zz_iload hC 4 (dk DX6_tellBurst_0k 23 rfl) rfl ?_
          refine zz_iconst hC (dk DX6_tellBurst_0k 24 rfl) ?_
          refine zz_icmp_ne hC 55 (dk DX6_tellBurst_0k 25 rfl) (by decide) ⟨⟨by omega, by omega⟩, (by decide)⟩ (fun c7 => ?_) (fun c7 => ?_)
          · refine zz_iload hC 4 (dk DX6_tellBurst_0k 30 rfl) rfl ?_
            refine zz_istore hC (ls' := [(0, .ref m0), (1, .int (zI b)), (2, .int (zI v)), (3, .int (zI (a1 + 1))), (4, .int (zI a2)), (5, .int (zI a3)), (6, .long (zL a4)), (8, .int (zI ((i : Nat) : Int)))]) [1, 2, 3, 4, 0, 5, 6, 7] (dk DX6_tellBurst_0k 31 rfl) (by decide) rfl ?_
            refine zz_aload_n hC 0 (dk DX6_tellBurst_0k 32 rfl) rfl rfl ?_
            refine zz_iload hC 7 (dk DX6_tellBurst_0k 33 rfl) rfl ?_
            refine zz_pureVi hC (c_X6_time l D m0 m1 m2 m3 m4 m5 m6 m7 m8 m9 m10 NW PA AS tb st bo sh f1 f2 pk sv len sp rf nu rk rt ra bm ha n w K T U S F L i hN hg (by omega)) G_X6_69 H_X6_time ⟨Nat.le_of_ble_eq_true rfl, Nat.le_of_ble_eq_true rfl⟩ rfl [0, 1, 2, 3, 4, 5, 6, 7, 8, 9, 10] rfl rfl 0 6 ⟨rfl, rfl, rfl⟩ (As := [.int (zI ((i : Nat) : Int))]) (rest := []) (Nat.le_of_ble_eq_true rfl) rfl ⟨Nat.le_of_ble_eq_true rfl, Nat.le_of_ble_eq_true rfl⟩ (dk DX6_tellBurst_0k 34 rfl) ⟨rfl, rfl⟩ ?_
            have hf8 := hT i (by omega)
            refine zz_istore hC (ls' := [(0, .ref m0), (1, .int (zI b)), (2, .int (zI v)), (3, .int (zI (a1 + 1))), (4, .int (zI a2)), (5, .int (zI (T i))), (6, .long (zL a4)), (8, .int (zI ((i : Nat) : Int)))]) [1, 2, 3, 4, 5, 0, 6, 7] (dk DX6_tellBurst_0k 35 rfl) (by decide) rfl ?_
            refine zz_lload hC 6 (dk DX6_tellBurst_0k 36 rfl) rfl ?_
            refine zz_aload_n hC 0 (dk DX6_tellBurst_0k 37 rfl) rfl rfl ?_
            refine zz_iload hC 7 (dk DX6_tellBurst_0k 38 rfl) rfl ?_
            refine zz_pureVi hC (c_X6_charge l D m0 m1 m2 m3 m4 m5 m6 m7 m8 m9 m10 NW PA AS tb st bo sh f1 f2 pk sv len sp rf nu rk rt ra bm ha n w K T U S F L i hN hg hs (by omega)) G_X6_141 H_X6_charge ⟨Nat.le_of_ble_eq_true rfl, Nat.le_of_ble_eq_true rfl⟩ rfl [0, 1, 2, 3, 4, 5, 6, 7, 8, 9, 10] rfl rfl 0 6 ⟨rfl, rfl, rfl⟩ (As := [.int (zI ((i : Nat) : Int))]) (rest := [.long (zL a4)]) (Nat.le_of_ble_eq_true rfl) rfl ⟨Nat.le_of_ble_eq_true rfl, Nat.le_of_ble_eq_true rfl⟩ (dk DX6_tellBurst_0k 39 rfl) ⟨rfl, rfl⟩ ?_
            have hf9 := zCh_in (K := K) (U := U) (S := S) hn hU hs.2.1 (show i < n by omega)
            refine zz_i2l hC (dk DX6_tellBurst_0k 40 rfl) ⟨by omega, by omega⟩ ?_
            refine zz_ladd hC (dk DX6_tellBurst_0k 41 rfl) ?_
            refine zz_lstore hC (ls' := [(0, .ref m0), (1, .int (zI b)), (2, .int (zI v)), (3, .int (zI (a1 + 1))), (4, .int (zI a2)), (5, .int (zI (T i))), (6, .long (zL (a4 + (zCh n K U S i)))), (8, .int (zI ((i : Nat) : Int)))]) [1, 2, 3, 4, 5, 6, 0, 7] (dk DX6_tellBurst_0k 42 rfl) (by decide) rfl ?_
            refine zz_iinc hC ((i + 1 : Nat) : Int) (ls' := [(0, .ref m0), (1, .int (zI b)), (2, .int (zI v)), (3, .int (zI (a1 + 1))), (4, .int (zI a2)), (5, .int (zI (T i))), (6, .long (zL (a4 + (zCh n K U S i)))), (8, .int (zI ((i + 1 : Nat) : Int)))]) 7 [1, 2, 3, 4, 5, 6, 7, 0] (dk DX6_tellBurst_0k 43 rfl) rfl (by omega) (by decide) rfl ?_
            refine zz_goto hC 14 (dk DX6_tellBurst_0k 44 rfl) (by decide) ?_
            refine zz_ls [0, 1, 2, 3, 4, 5, 6, 7] rfl ?_
            exact ih14 (i + 1) (a1 + 1) a2 (T i) (a4 + (zCh n K U S i)) (by omega) (zCt_s e1 (decide_eq_true (by omega))) (fs_n e2 (decide_eq_true (by omega)) (by omega)) (zLs_s (decide_eq_true (by omega))) (zSm_s e4 (decide_eq_true (by omega))) (by omega)
          · refine zz_aload_n hC 0 (dk DX6_tellBurst_0k 26 rfl) rfl rfl ?_
            refine zz_iload hC 7 (dk DX6_tellBurst_0k 27 rfl) rfl ?_
            refine zz_pureVi hC (c_X6_time l D m0 m1 m2 m3 m4 m5 m6 m7 m8 m9 m10 NW PA AS tb st bo sh f1 f2 pk sv len sp rf nu rk rt ra bm ha n w K T U S F L i hN hg (by omega)) G_X6_69 H_X6_time ⟨Nat.le_of_ble_eq_true rfl, Nat.le_of_ble_eq_true rfl⟩ rfl [0, 1, 2, 3, 4, 5, 6, 7, 8, 9, 10] rfl rfl 0 6 ⟨rfl, rfl, rfl⟩ (As := [.int (zI ((i : Nat) : Int))]) (rest := []) (Nat.le_of_ble_eq_true rfl) rfl ⟨Nat.le_of_ble_eq_true rfl, Nat.le_of_ble_eq_true rfl⟩ (dk DX6_tellBurst_0k 28 rfl) ⟨rfl, rfl⟩ ?_
            have hf10 := hT i (by omega)
            refine zz_goto hC 57 (dk DX6_tellBurst_0k 29 rfl) (by decide) ?_
            refine zz_istore hC (ls' := [(0, .ref m0), (1, .int (zI b)), (2, .int (zI v)), (3, .int (zI (a1 + 1))), (4, .int (zI (T i))), (5, .int (zI a3)), (6, .long (zL a4)), (8, .int (zI ((i : Nat) : Int)))]) [1, 2, 3, 4, 0, 5, 6, 7] (dk DX6_tellBurst_0k 31 rfl) (by decide) rfl ?_
            refine zz_aload_n hC 0 (dk DX6_tellBurst_0k 32 rfl) rfl rfl ?_
            refine zz_iload hC 7 (dk DX6_tellBurst_0k 33 rfl) rfl ?_
            refine zz_pureVi hC (c_X6_time l D m0 m1 m2 m3 m4 m5 m6 m7 m8 m9 m10 NW PA AS tb st bo sh f1 f2 pk sv len sp rf nu rk rt ra bm ha n w K T U S F L i hN hg (by omega)) G_X6_69 H_X6_time ⟨Nat.le_of_ble_eq_true rfl, Nat.le_of_ble_eq_true rfl⟩ rfl [0, 1, 2, 3, 4, 5, 6, 7, 8, 9, 10] rfl rfl 0 6 ⟨rfl, rfl, rfl⟩ (As := [.int (zI ((i : Nat) : Int))]) (rest := []) (Nat.le_of_ble_eq_true rfl) rfl ⟨Nat.le_of_ble_eq_true rfl, Nat.le_of_ble_eq_true rfl⟩ (dk DX6_tellBurst_0k 34 rfl) ⟨rfl, rfl⟩ ?_
            have hf11 := hT i (by omega)
            refine zz_istore hC (ls' := [(0, .ref m0), (1, .int (zI b)), (2, .int (zI v)), (3, .int (zI (a1 + 1))), (4, .int (zI (T i))), (5, .int (zI (T i))), (6, .long (zL a4)), (8, .int (zI ((i : Nat) : Int)))]) [1, 2, 3, 4, 5, 0, 6, 7] (dk DX6_tellBurst_0k 35 rfl) (by decide) rfl ?_
            refine zz_lload hC 6 (dk DX6_tellBurst_0k 36 rfl) rfl ?_
            refine zz_aload_n hC 0 (dk DX6_tellBurst_0k 37 rfl) rfl rfl ?_
            refine zz_iload hC 7 (dk DX6_tellBurst_0k 38 rfl) rfl ?_
            refine zz_pureVi hC (c_X6_charge l D m0 m1 m2 m3 m4 m5 m6 m7 m8 m9 m10 NW PA AS tb st bo sh f1 f2 pk sv len sp rf nu rk rt ra bm ha n w K T U S F L i hN hg hs (by omega)) G_X6_141 H_X6_charge ⟨Nat.le_of_ble_eq_true rfl, Nat.le_of_ble_eq_true rfl⟩ rfl [0, 1, 2, 3, 4, 5, 6, 7, 8, 9, 10] rfl rfl 0 6 ⟨rfl, rfl, rfl⟩ (As := [.int (zI ((i : Nat) : Int))]) (rest := [.long (zL a4)]) (Nat.le_of_ble_eq_true rfl) rfl ⟨Nat.le_of_ble_eq_true rfl, Nat.le_of_ble_eq_true rfl⟩ (dk DX6_tellBurst_0k 39 rfl) ⟨rfl, rfl⟩ ?_
            have hf12 := zCh_in (K := K) (U := U) (S := S) hn hU hs.2.1 (show i < n by omega)
            refine zz_i2l hC (dk DX6_tellBurst_0k 40 rfl) ⟨by omega, by omega⟩ ?_
            refine zz_ladd hC (dk DX6_tellBurst_0k 41 rfl) ?_
            refine zz_lstore hC (ls' := [(0, .ref m0), (1, .int (zI b)), (2, .int (zI v)), (3, .int (zI (a1 + 1))), (4, .int (zI (T i))), (5, .int (zI (T i))), (6, .long (zL (a4 + (zCh n K U S i)))), (8, .int (zI ((i : Nat) : Int)))]) [1, 2, 3, 4, 5, 6, 0, 7] (dk DX6_tellBurst_0k 42 rfl) (by decide) rfl ?_
            refine zz_iinc hC ((i + 1 : Nat) : Int) (ls' := [(0, .ref m0), (1, .int (zI b)), (2, .int (zI v)), (3, .int (zI (a1 + 1))), (4, .int (zI (T i))), (5, .int (zI (T i))), (6, .long (zL (a4 + (zCh n K U S i)))), (8, .int (zI ((i + 1 : Nat) : Int)))]) 7 [1, 2, 3, 4, 5, 6, 7, 0] (dk DX6_tellBurst_0k 43 rfl) rfl (by omega) (by decide) rfl ?_
            refine zz_goto hC 14 (dk DX6_tellBurst_0k 44 rfl) (by decide) ?_
            refine zz_ls [0, 1, 2, 3, 4, 5, 6, 7] rfl ?_
            exact ih14 (i + 1) (a1 + 1) (T i) (T i) (a4 + (zCh n K U S i)) (by omega) (zCt_s e1 (decide_eq_true (by omega))) (fs_y e2 (decide_eq_true (by omega)) (by omega) (fun j hj => (hT j (by omega)).1)) (zLs_s (decide_eq_true (by omega))) (zSm_s e4 (decide_eq_true (by omega))) (by omega)
  refine zz_ls [0, 1, 2, 3, 4, 5, 6, 7] rfl ?_
  exact LP14 _ 0 0 (-1) (-1) 0 (by omega) rfl rfl rfl rfl (Nat.lt_succ_self _)
