set_option maxHeartbeats 4000000 in
set_option maxRecDepth 100000 in
theorem c_X6_thrown (l : Launch) (D : zG) (m0 : Nat) (m1 : Nat) (m2 : Nat) (m3 : Nat) (m4 : Nat) (m5 : Nat) (m6 : Nat) (m7 : Nat) (m8 : Nat) (m9 : Nat) (m10 : Nat) (NW : Nat → Int) (PA : Nat → Int) (AS : Nat → Int) (tb : Nat → Int) (st : Nat → Int) (bo : Nat → Int) (sh : Nat → Int) (f1 : Nat → Int) (f2 : Nat → Int) (pk : Nat → Int) (sv : Nat) (len : Nat) (sp : Nat) (rf : Int) (nu : Int) (rk : Int) (rt : Int) (ra : Int) (bm : Int) (ha : Int) (n : Nat) (w : Nat) (K : Nat → Int) (T : Nat → Int) (U : Nat → Int) (S : Nat → Int) (F : Nat → Int) (L : Nat → Int)  : CI (S := Unit) l yX6_thrown cX6_thrown 1 ((some .int)) ({ frames := 0, cells := 0, slots := 0, locals := 0 } : Room) D [.ref m0] [(m0, .inr (6, [.ref m1, .ref m2, .ref m3, .int (zI ((sv : Nat) : Int)), .int (zI rf), .ref m4, .int (zI ((len : Nat) : Int)), .int (zI ((sp : Nat) : Int)), .int (zI nu), .int (zI rk), .int (zI rt), .int (zI ra), .ref m5, .ref m6, .int (zI bm), .ref m7, .ref m8, .ref m9, .ref m10, .long (zL ha)])), (m1, iA D 771 NW), (m2, iA D 3084 PA), (m3, iA D 771 AS), (m4, iA D 150 tb), (m5, iA D 250 st), (m6, iA D 250 bo), (m7, iA D 250 sh), (m8, iA D 36 f1), (m9, iA D 36 f2), (m10, iA D 2778 pk)] (fun _ => True) (fun _ => rf) (fun _ => [(m0, .inr (6, [.ref m1, .ref m2, .ref m3, .int (zI ((sv : Nat) : Int)), .int (zI rf), .ref m4, .int (zI ((len : Nat) : Int)), .int (zI ((sp : Nat) : Int)), .int (zI nu), .int (zI rk), .int (zI rt), .int (zI ra), .ref m5, .ref m6, .int (zI bm), .ref m7, .ref m8, .ref m9, .ref m10, .long (zL ha)])), (m1, iA D 771 NW), (m2, iA D 3084 PA), (m3, iA D 771 AS), (m4, iA D 150 tb), (m5, iA D 250 st), (m6, iA D 250 bo), (m7, iA D 250 sh), (m8, iA D 36 f1), (m9, iA D 36 f2), (m10, iA D 2778 pk)]) := by
  refine CI_of (by decide) (Nat.le_of_ble_eq_true rfl) ?_
  intro p e s m args below meth cd A Q hQ hC hr hnm
  have hC : ZC p s m args meth cd A D 1 cX6_thrown RX6 := hC
  show Z p l e ({ frames := 0, cells := 0, slots := 0, locals := 0 } : Room) s m args below meth cd A D Q 1 0 0 [(m0, .inr (6, [.ref m1, .ref m2, .ref m3, .int (zI ((sv : Nat) : Int)), .int (zI rf), .ref m4, .int (zI ((len : Nat) : Int)), .int (zI ((sp : Nat) : Int)), .int (zI nu), .int (zI rk), .int (zI rt), .int (zI ra), .ref m5, .ref m6, .int (zI bm), .ref m7, .ref m8, .ref m9, .ref m10, .long (zL ha)])), (m1, iA D 771 NW), (m2, iA D 3084 PA), (m3, iA D 771 AS), (m4, iA D 150 tb), (m5, iA D 250 st), (m6, iA D 250 bo), (m7, iA D 250 sh), (m8, iA D 36 f1), (m9, iA D 36 f2), (m10, iA D 2778 pk)] [(0, .ref m0)] [] 0
  refine zz_aload_n hC 0 (dk DX6_thrown_0k 0 rfl) rfl rfl ?_
  refine zz_get hC F_X6_40 0 rfl rfl (dk DX6_thrown_0k 1 rfl) ?_
  exact zz_iret hC hQ hr () trivial rfl [0, 1, 2, 3, 4, 5, 6, 7, 8, 9, 10] rfl rfl ⟨Nat.le_refl _, Nat.le_refl _⟩ (dk DX6_thrown_0k 2 rfl)
set_option maxHeartbeats 4000000 in
set_option maxRecDepth 100000 in
theorem c_X6_refused (l : Launch) (D : zG) (m0 : Nat) (m1 : Nat) (m2 : Nat) (m3 : Nat) (m4 : Nat) (m5 : Nat) (m6 : Nat) (m7 : Nat) (m8 : Nat) (m9 : Nat) (m10 : Nat) (NW : Nat → Int) (PA : Nat → Int) (AS : Nat → Int) (tb : Nat → Int) (st : Nat → Int) (bo : Nat → Int) (sh : Nat → Int) (f1 : Nat → Int) (f2 : Nat → Int) (pk : Nat → Int) (sv : Nat) (len : Nat) (sp : Nat) (rf : Int) (nu : Int) (rk : Int) (rt : Int) (ra : Int) (bm : Int) (ha : Int) (n : Nat) (w : Nat) (K : Nat → Int) (T : Nat → Int) (U : Nat → Int) (S : Nat → Int) (F : Nat → Int) (L : Nat → Int) (x : Int) (hx3 : 0 ≤ x ∧ x ≤ 2) : CI (S := Unit) l yX6_refused cX6_refused 2 ((some .boolean)) ({ frames := 0, cells := 0, slots := 0, locals := 0 } : Room) D [.ref m0, .int (zI x)] [(m0, .inr (6, [.ref m1, .ref m2, .ref m3, .int (zI ((sv : Nat) : Int)), .int (zI rf), .ref m4, .int (zI ((len : Nat) : Int)), .int (zI ((sp : Nat) : Int)), .int (zI nu), .int (zI rk), .int (zI rt), .int (zI ra), .ref m5, .ref m6, .int (zI bm), .ref m7, .ref m8, .ref m9, .ref m10, .long (zL ha)])), (m1, iA D 771 NW), (m2, iA D 3084 PA), (m3, iA D 771 AS), (m4, iA D 150 tb), (m5, iA D 250 st), (m6, iA D 250 bo), (m7, iA D 250 sh), (m8, iA D 36 f1), (m9, iA D 36 f2), (m10, iA D 2778 pk)] (fun u => True) (fun u => zB (0 < x)) (fun u => [(m0, .inr (6, [.ref m1, .ref m2, .ref m3, .int (zI ((sv : Nat) : Int)), .int (zI x), .ref m4, .int (zI ((len : Nat) : Int)), .int (zI ((sp : Nat) : Int)), .int (zI nu), .int (zI rk), .int (zI rt), .int (zI ra), .ref m5, .ref m6, .int (zI bm), .ref m7, .ref m8, .ref m9, .ref m10, .long (zL ha)])), (m1, iA D 771 NW), (m2, iA D 3084 PA), (m3, iA D 771 AS), (m4, iA D 150 tb), (m5, iA D 250 st), (m6, iA D 250 bo), (m7, iA D 250 sh), (m8, iA D 36 f1), (m9, iA D 36 f2), (m10, iA D 2778 pk)]) := by
  refine CI_of (by decide) (Nat.le_of_ble_eq_true rfl) ?_
  intro p e s m args below meth cd A Q hQ hC hr hnm
  have hC : ZC p s m args meth cd A D 2 cX6_refused RX6 := hC
  show Z p l e ({ frames := 0, cells := 0, slots := 0, locals := 0 } : Room) s m args below meth cd A D Q 2 0 0 [(m0, .inr (6, [.ref m1, .ref m2, .ref m3, .int (zI ((sv : Nat) : Int)), .int (zI rf), .ref m4, .int (zI ((len : Nat) : Int)), .int (zI ((sp : Nat) : Int)), .int (zI nu), .int (zI rk), .int (zI rt), .int (zI ra), .ref m5, .ref m6, .int (zI bm), .ref m7, .ref m8, .ref m9, .ref m10, .long (zL ha)])), (m1, iA D 771 NW), (m2, iA D 3084 PA), (m3, iA D 771 AS), (m4, iA D 150 tb), (m5, iA D 250 st), (m6, iA D 250 bo), (m7, iA D 250 sh), (m8, iA D 36 f1), (m9, iA D 36 f2), (m10, iA D 2778 pk)] [(0, .ref m0), (1, .int (zI x))] [] 0
  refine zz_aload_n hC 0 (dk DX6_refused_0k 0 rfl) rfl rfl ?_
  refine zz_iload_n hC 1 (dk DX6_refused_0k 1 rfl) rfl rfl ?_
  refine zz_put hC F_X6_40 fc_X6 rfl (tyX6_ok 4 (by decide)) 0 (ws' := [(m0, .inr (6, [.ref m1, .ref m2, .ref m3, .int (zI ((sv : Nat) : Int)), .int (zI x), .ref m4, .int (zI ((len : Nat) : Int)), .int (zI ((sp : Nat) : Int)), .int (zI nu), .int (zI rk), .int (zI rt), .int (zI ra), .ref m5, .ref m6, .int (zI bm), .ref m7, .ref m8, .ref m9, .ref m10, .long (zL ha)])), (m1, iA D 771 NW), (m2, iA D 3084 PA), (m3, iA D 771 AS), (m4, iA D 150 tb), (m5, iA D 250 st), (m6, iA D 250 bo), (m7, iA D 250 sh), (m8, iA D 36 f1), (m9, iA D 36 f2), (m10, iA D 2778 pk)]) rfl rfl rfl (Nat.le_of_ble_eq_true rfl) rfl (dk DX6_refused_0k 2 rfl) ?_
  refine zz_iload_n hC 1 (dk DX6_refused_0k 3 rfl) rfl rfl ?_
  refine zz_if_le hC 13 (dk DX6_refused_0k 4 rfl) (by decide) ⟨by omega, by omega⟩ (fun c1 => ?_) (fun c1 => ?_)
  · refine zz_iconst hC (dk DX6_refused_0k 7 rfl) ?_
    exact zz_zret hC hQ hr () trivial (zB_f (show ¬ (0 < x) by omega)).symm (by decide) [0, 1, 2, 3, 4, 5, 6, 7, 8, 9, 10] rfl rfl ⟨Nat.le_refl _, Nat.le_refl _⟩ (dk DX6_refused_0k 8 rfl)
  · refine zz_iconst hC (dk DX6_refused_0k 5 rfl) ?_
    refine zz_goto hC 14 (dk DX6_refused_0k 6 rfl) (by decide) ?_
    exact zz_zret hC hQ hr () trivial (zB_t (show 0 < x by omega)).symm (by decide) [0, 1, 2, 3, 4, 5, 6, 7, 8, 9, 10] rfl rfl ⟨Nat.le_refl _, Nat.le_refl _⟩ (dk DX6_refused_0k 8 rfl)
set_option maxHeartbeats 4000000 in
set_option maxRecDepth 100000 in
theorem c_X6_within (l : Launch) (D : zG) (x : Int) (y : Int) (z : Int) (hri : (-2147483648 ≤ x ∧ x ≤ 2147483647) ∧ (-2147483648 ≤ y ∧ y ≤ 2147483647) ∧ (-2147483648 ≤ z ∧ z ≤ 2147483647)) : CI (S := Unit) l yX6_within cX6_within 3 ((some .boolean)) ({ frames := 0, cells := 0, slots := 0, locals := 0 } : Room) D [.int (zI x), .int (zI y), .int (zI z)] [] (fun _ => True) (fun _ => zB (y ≤ x ∧ x ≤ z)) (fun _ => []) := by
  refine CI_of (by decide) (Nat.le_of_ble_eq_true rfl) ?_
  intro p e s m args below meth cd A Q hQ hC hr hnm
  have hC : ZC p s m args meth cd A D 3 cX6_within RX6 := hC
  show Z p l e ({ frames := 0, cells := 0, slots := 0, locals := 0 } : Room) s m args below meth cd A D Q 3 0 0 [] [(0, .int (zI x)), (1, .int (zI y)), (2, .int (zI z))] [] 0
  refine zz_iload_n hC 0 (dk DX6_within_0k 0 rfl) rfl rfl ?_
  refine zz_iload_n hC 1 (dk DX6_within_0k 1 rfl) rfl rfl ?_
  refine zz_icmp_lt hC 14 (dk DX6_within_0k 2 rfl) (by decide) ⟨⟨by omega, by omega⟩, ⟨by omega, by omega⟩⟩ (fun c1 => ?_) (fun c1 => ?_)
  · refine zz_iconst hC (dk DX6_within_0k 8 rfl) ?_
    exact zz_zret hC hQ hr () trivial (zB_f (show ¬ (y ≤ x ∧ x ≤ z) by omega)).symm (by decide) [] rfl rfl ⟨Nat.le_refl _, Nat.le_refl _⟩ (dk DX6_within_0k 9 rfl)
  · refine zz_iload_n hC 0 (dk DX6_within_0k 3 rfl) rfl rfl ?_
    refine zz_iload_n hC 2 (dk DX6_within_0k 4 rfl) rfl rfl ?_
    refine zz_icmp_gt hC 14 (dk DX6_within_0k 5 rfl) (by decide) ⟨⟨by omega, by omega⟩, ⟨by omega, by omega⟩⟩ (fun c2 => ?_) (fun c2 => ?_)
    · refine zz_iconst hC (dk DX6_within_0k 8 rfl) ?_
      exact zz_zret hC hQ hr () trivial (zB_f (show ¬ (y ≤ x ∧ x ≤ z) by omega)).symm (by decide) [] rfl rfl ⟨Nat.le_refl _, Nat.le_refl _⟩ (dk DX6_within_0k 9 rfl)
    · refine zz_iconst hC (dk DX6_within_0k 6 rfl) ?_
      refine zz_goto hC 15 (dk DX6_within_0k 7 rfl) (by decide) ?_
      exact zz_zret hC hQ hr () trivial (zB_t (show y ≤ x ∧ x ≤ z by omega)).symm (by decide) [] rfl rfl ⟨Nat.le_refl _, Nat.le_refl _⟩ (dk DX6_within_0k 9 rfl)
set_option maxHeartbeats 4000000 in
set_option maxRecDepth 100000 in
theorem c_X6_size (l : Launch) (D : zG) (x : Int) (hri : -2147483647 ≤ x ∧ x ≤ 2147483647) : CI (S := Unit) l yX6_size cX6_size 1 ((some .int)) ({ frames := 0, cells := 0, slots := 0, locals := 0 } : Room) D [.int (zI x)] [] (fun _ => True) (fun _ => ((x.natAbs : Nat) : Int)) (fun _ => []) := by
  refine CI_of (by decide) (Nat.le_of_ble_eq_true rfl) ?_
  intro p e s m args below meth cd A Q hQ hC hr hnm
  have hC : ZC p s m args meth cd A D 1 cX6_size RX6 := hC
  show Z p l e ({ frames := 0, cells := 0, slots := 0, locals := 0 } : Room) s m args below meth cd A D Q 1 0 0 [] [(0, .int (zI x))] [] 0
  refine zz_iload_n hC 0 (dk DX6_size_0k 0 rfl) rfl rfl ?_
  refine zz_if_ge hC 9 (dk DX6_size_0k 1 rfl) (by decide) ⟨by omega, by omega⟩ (fun c1 => ?_) (fun c1 => ?_)
  · refine zz_iload_n hC 0 (dk DX6_size_0k 5 rfl) rfl rfl ?_
    exact zz_iret hC hQ hr () trivial (by omega) [] rfl rfl ⟨Nat.le_refl _, Nat.le_refl _⟩ (dk DX6_size_0k 6 rfl)
  · refine zz_iload_n hC 0 (dk DX6_size_0k 2 rfl) rfl rfl ?_
    refine zz_ineg hC (dk DX6_size_0k 3 rfl) ?_
    refine zz_goto hC 10 (dk DX6_size_0k 4 rfl) (by decide) ?_
    exact zz_iret hC hQ hr () trivial (by omega) [] rfl rfl ⟨Nat.le_refl _, Nat.le_refl _⟩ (dk DX6_size_0k 6 rfl)
set_option maxHeartbeats 4000000 in
set_option maxRecDepth 100000 in
theorem c_X6_kind (l : Launch) (D : zG) (m0 : Nat) (m1 : Nat) (m2 : Nat) (m3 : Nat) (m4 : Nat) (m5 : Nat) (m6 : Nat) (m7 : Nat) (m8 : Nat) (m9 : Nat) (m10 : Nat) (NW : Nat → Int) (PA : Nat → Int) (AS : Nat → Int) (tb : Nat → Int) (st : Nat → Int) (bo : Nat → Int) (sh : Nat → Int) (f1 : Nat → Int) (f2 : Nat → Int) (pk : Nat → Int) (sv : Nat) (len : Nat) (sp : Nat) (rf : Int) (nu : Int) (rk : Int) (rt : Int) (ra : Int) (bm : Int) (ha : Int) (n : Nat) (w : Nat) (K : Nat → Int) (T : Nat → Int) (U : Nat → Int) (S : Nat → Int) (F : Nat → Int) (L : Nat → Int) (k : Nat) (hN : zRow NW n K T U S F L w) (hg : zLog n K T U) (hk : k < n) : CI (S := Unit) l yX6_kind cX6_kind 2 ((some .int)) ({ frames := 0, cells := 0, slots := 0, locals := 0 } : Room) D [.ref m0, .int (zI ((k : Nat) : Int))] [(m0, .inr (6, [.ref m1, .ref m2, .ref m3, .int (zI ((sv : Nat) : Int)), .int (zI rf), .ref m4, .int (zI ((len : Nat) : Int)), .int (zI ((sp : Nat) : Int)), .int (zI nu), .int (zI rk), .int (zI rt), .int (zI ra), .ref m5, .ref m6, .int (zI bm), .ref m7, .ref m8, .ref m9, .ref m10, .long (zL ha)])), (m1, iA D 771 NW), (m2, iA D 3084 PA), (m3, iA D 771 AS), (m4, iA D 150 tb), (m5, iA D 250 st), (m6, iA D 250 bo), (m7, iA D 250 sh), (m8, iA D 36 f1), (m9, iA D 36 f2), (m10, iA D 2778 pk)] (fun _ => True) (fun _ => (K k)) (fun _ => [(m0, .inr (6, [.ref m1, .ref m2, .ref m3, .int (zI ((sv : Nat) : Int)), .int (zI rf), .ref m4, .int (zI ((len : Nat) : Int)), .int (zI ((sp : Nat) : Int)), .int (zI nu), .int (zI rk), .int (zI rt), .int (zI ra), .ref m5, .ref m6, .int (zI bm), .ref m7, .ref m8, .ref m9, .ref m10, .long (zL ha)])), (m1, iA D 771 NW), (m2, iA D 3084 PA), (m3, iA D 771 AS), (m4, iA D 150 tb), (m5, iA D 250 st), (m6, iA D 250 bo), (m7, iA D 250 sh), (m8, iA D 36 f1), (m9, iA D 36 f2), (m10, iA D 2778 pk)]) := by
  refine CI_of (by decide) (Nat.le_of_ble_eq_true rfl) ?_
  intro p e s m args below meth cd A Q hQ hC hr hnm
  have hC : ZC p s m args meth cd A D 2 cX6_kind RX6 := hC
  have hg0 := hg
  obtain ⟨hn, hK, hT, hU, hM⟩ := hg0
  show Z p l e ({ frames := 0, cells := 0, slots := 0, locals := 0 } : Room) s m args below meth cd A D Q 2 0 0 [(m0, .inr (6, [.ref m1, .ref m2, .ref m3, .int (zI ((sv : Nat) : Int)), .int (zI rf), .ref m4, .int (zI ((len : Nat) : Int)), .int (zI ((sp : Nat) : Int)), .int (zI nu), .int (zI rk), .int (zI rt), .int (zI ra), .ref m5, .ref m6, .int (zI bm), .ref m7, .ref m8, .ref m9, .ref m10, .long (zL ha)])), (m1, iA D 771 NW), (m2, iA D 3084 PA), (m3, iA D 771 AS), (m4, iA D 150 tb), (m5, iA D 250 st), (m6, iA D 250 bo), (m7, iA D 250 sh), (m8, iA D 36 f1), (m9, iA D 36 f2), (m10, iA D 2778 pk)] [(0, .ref m0), (1, .int (zI ((k : Nat) : Int)))] [] 0
  refine zz_aload_n hC 0 (dk DX6_kind_0k 0 rfl) rfl rfl ?_
  refine zz_get hC F_X6_7 0 rfl rfl (dk DX6_kind_0k 1 rfl) ?_
  refine zz_bipush hC (dk DX6_kind_0k 2 rfl) (by decide) ?_
  refine zz_iconst hC (dk DX6_kind_0k 3 rfl) ?_
  refine zz_iload_n hC 1 (dk DX6_kind_0k 4 rfl) rfl rfl ?_
  refine zz_imul hC (dk DX6_kind_0k 5 rfl) ?_
  refine zz_iadd hC (dk DX6_kind_0k 6 rfl) ?_
  refine zz_iald hC (21 + (3 * k)) 1 rfl (by omega) (by omega) (dk DX6_kind_0k 7 rfl) ?_
  rw [(hN.2.2.2.2 k (by omega)).1]
  have hf1 := hK k (by omega)
  exact zz_iret hC hQ hr () trivial rfl [0, 1, 2, 3, 4, 5, 6, 7, 8, 9, 10] rfl rfl ⟨Nat.le_refl _, Nat.le_refl _⟩ (dk DX6_kind_0k 8 rfl)
set_option maxHeartbeats 4000000 in
set_option maxRecDepth 100000 in
theorem c_X6_time (l : Launch) (D : zG) (m0 : Nat) (m1 : Nat) (m2 : Nat) (m3 : Nat) (m4 : Nat) (m5 : Nat) (m6 : Nat) (m7 : Nat) (m8 : Nat) (m9 : Nat) (m10 : Nat) (NW : Nat → Int) (PA : Nat → Int) (AS : Nat → Int) (tb : Nat → Int) (st : Nat → Int) (bo : Nat → Int) (sh : Nat → Int) (f1 : Nat → Int) (f2 : Nat → Int) (pk : Nat → Int) (sv : Nat) (len : Nat) (sp : Nat) (rf : Int) (nu : Int) (rk : Int) (rt : Int) (ra : Int) (bm : Int) (ha : Int) (n : Nat) (w : Nat) (K : Nat → Int) (T : Nat → Int) (U : Nat → Int) (S : Nat → Int) (F : Nat → Int) (L : Nat → Int) (k : Nat) (hN : zRow NW n K T U S F L w) (hg : zLog n K T U) (hk : k < n) : CI (S := Unit) l yX6_time cX6_time 2 ((some .int)) ({ frames := 0, cells := 0, slots := 0, locals := 0 } : Room) D [.ref m0, .int (zI ((k : Nat) : Int))] [(m0, .inr (6, [.ref m1, .ref m2, .ref m3, .int (zI ((sv : Nat) : Int)), .int (zI rf), .ref m4, .int (zI ((len : Nat) : Int)), .int (zI ((sp : Nat) : Int)), .int (zI nu), .int (zI rk), .int (zI rt), .int (zI ra), .ref m5, .ref m6, .int (zI bm), .ref m7, .ref m8, .ref m9, .ref m10, .long (zL ha)])), (m1, iA D 771 NW), (m2, iA D 3084 PA), (m3, iA D 771 AS), (m4, iA D 150 tb), (m5, iA D 250 st), (m6, iA D 250 bo), (m7, iA D 250 sh), (m8, iA D 36 f1), (m9, iA D 36 f2), (m10, iA D 2778 pk)] (fun _ => True) (fun _ => (T k)) (fun _ => [(m0, .inr (6, [.ref m1, .ref m2, .ref m3, .int (zI ((sv : Nat) : Int)), .int (zI rf), .ref m4, .int (zI ((len : Nat) : Int)), .int (zI ((sp : Nat) : Int)), .int (zI nu), .int (zI rk), .int (zI rt), .int (zI ra), .ref m5, .ref m6, .int (zI bm), .ref m7, .ref m8, .ref m9, .ref m10, .long (zL ha)])), (m1, iA D 771 NW), (m2, iA D 3084 PA), (m3, iA D 771 AS), (m4, iA D 150 tb), (m5, iA D 250 st), (m6, iA D 250 bo), (m7, iA D 250 sh), (m8, iA D 36 f1), (m9, iA D 36 f2), (m10, iA D 2778 pk)]) := by
  refine CI_of (by decide) (Nat.le_of_ble_eq_true rfl) ?_
  intro p e s m args below meth cd A Q hQ hC hr hnm
  have hC : ZC p s m args meth cd A D 2 cX6_time RX6 := hC
  have hg0 := hg
  obtain ⟨hn, hK, hT, hU, hM⟩ := hg0
  show Z p l e ({ frames := 0, cells := 0, slots := 0, locals := 0 } : Room) s m args below meth cd A D Q 2 0 0 [(m0, .inr (6, [.ref m1, .ref m2, .ref m3, .int (zI ((sv : Nat) : Int)), .int (zI rf), .ref m4, .int (zI ((len : Nat) : Int)), .int (zI ((sp : Nat) : Int)), .int (zI nu), .int (zI rk), .int (zI rt), .int (zI ra), .ref m5, .ref m6, .int (zI bm), .ref m7, .ref m8, .ref m9, .ref m10, .long (zL ha)])), (m1, iA D 771 NW), (m2, iA D 3084 PA), (m3, iA D 771 AS), (m4, iA D 150 tb), (m5, iA D 250 st), (m6, iA D 250 bo), (m7, iA D 250 sh), (m8, iA D 36 f1), (m9, iA D 36 f2), (m10, iA D 2778 pk)] [(0, .ref m0), (1, .int (zI ((k : Nat) : Int)))] [] 0
  refine zz_aload_n hC 0 (dk DX6_time_0k 0 rfl) rfl rfl ?_
  refine zz_get hC F_X6_7 0 rfl rfl (dk DX6_time_0k 1 rfl) ?_
  refine zz_bipush hC (dk DX6_time_0k 2 rfl) (by decide) ?_
  refine zz_iconst hC (dk DX6_time_0k 3 rfl) ?_
  refine zz_iload_n hC 1 (dk DX6_time_0k 4 rfl) rfl rfl ?_
  refine zz_imul hC (dk DX6_time_0k 5 rfl) ?_
  refine zz_iadd hC (dk DX6_time_0k 6 rfl) ?_
  refine zz_iconst hC (dk DX6_time_0k 7 rfl) ?_
  refine zz_iadd hC (dk DX6_time_0k 8 rfl) ?_
  refine zz_iald hC ((21 + (3 * k)) + 1) 1 rfl (by omega) (by omega) (dk DX6_time_0k 9 rfl) ?_
  rw [(hN.2.2.2.2 k (by omega)).2.1]
  have hf1 := hT k (by omega)
  exact zz_iret hC hQ hr () trivial rfl [0, 1, 2, 3, 4, 5, 6, 7, 8, 9, 10] rfl rfl ⟨Nat.le_refl _, Nat.le_refl _⟩ (dk DX6_time_0k 10 rfl)
set_option maxHeartbeats 4000000 in
set_option maxRecDepth 100000 in
theorem c_X6_amplitude (l : Launch) (D : zG) (m0 : Nat) (m1 : Nat) (m2 : Nat) (m3 : Nat) (m4 : Nat) (m5 : Nat) (m6 : Nat) (m7 : Nat) (m8 : Nat) (m9 : Nat) (m10 : Nat) (NW : Nat → Int) (PA : Nat → Int) (AS : Nat → Int) (tb : Nat → Int) (st : Nat → Int) (bo : Nat → Int) (sh : Nat → Int) (f1 : Nat → Int) (f2 : Nat → Int) (pk : Nat → Int) (sv : Nat) (len : Nat) (sp : Nat) (rf : Int) (nu : Int) (rk : Int) (rt : Int) (ra : Int) (bm : Int) (ha : Int) (n : Nat) (w : Nat) (K : Nat → Int) (T : Nat → Int) (U : Nat → Int) (S : Nat → Int) (F : Nat → Int) (L : Nat → Int) (k : Nat) (hN : zRow NW n K T U S F L w) (hg : zLog n K T U) (hk : k < n) : CI (S := Unit) l yX6_amplitude cX6_amplitude 2 ((some .int)) ({ frames := 0, cells := 0, slots := 0, locals := 0 } : Room) D [.ref m0, .int (zI ((k : Nat) : Int))] [(m0, .inr (6, [.ref m1, .ref m2, .ref m3, .int (zI ((sv : Nat) : Int)), .int (zI rf), .ref m4, .int (zI ((len : Nat) : Int)), .int (zI ((sp : Nat) : Int)), .int (zI nu), .int (zI rk), .int (zI rt), .int (zI ra), .ref m5, .ref m6, .int (zI bm), .ref m7, .ref m8, .ref m9, .ref m10, .long (zL ha)])), (m1, iA D 771 NW), (m2, iA D 3084 PA), (m3, iA D 771 AS), (m4, iA D 150 tb), (m5, iA D 250 st), (m6, iA D 250 bo), (m7, iA D 250 sh), (m8, iA D 36 f1), (m9, iA D 36 f2), (m10, iA D 2778 pk)] (fun _ => True) (fun _ => (U k)) (fun _ => [(m0, .inr (6, [.ref m1, .ref m2, .ref m3, .int (zI ((sv : Nat) : Int)), .int (zI rf), .ref m4, .int (zI ((len : Nat) : Int)), .int (zI ((sp : Nat) : Int)), .int (zI nu), .int (zI rk), .int (zI rt), .int (zI ra), .ref m5, .ref m6, .int (zI bm), .ref m7, .ref m8, .ref m9, .ref m10, .long (zL ha)])), (m1, iA D 771 NW), (m2, iA D 3084 PA), (m3, iA D 771 AS), (m4, iA D 150 tb), (m5, iA D 250 st), (m6, iA D 250 bo), (m7, iA D 250 sh), (m8, iA D 36 f1), (m9, iA D 36 f2), (m10, iA D 2778 pk)]) := by
  refine CI_of (by decide) (Nat.le_of_ble_eq_true rfl) ?_
  intro p e s m args below meth cd A Q hQ hC hr hnm
  have hC : ZC p s m args meth cd A D 2 cX6_amplitude RX6 := hC
  have hg0 := hg
  obtain ⟨hn, hK, hT, hU, hM⟩ := hg0
  show Z p l e ({ frames := 0, cells := 0, slots := 0, locals := 0 } : Room) s m args below meth cd A D Q 2 0 0 [(m0, .inr (6, [.ref m1, .ref m2, .ref m3, .int (zI ((sv : Nat) : Int)), .int (zI rf), .ref m4, .int (zI ((len : Nat) : Int)), .int (zI ((sp : Nat) : Int)), .int (zI nu), .int (zI rk), .int (zI rt), .int (zI ra), .ref m5, .ref m6, .int (zI bm), .ref m7, .ref m8, .ref m9, .ref m10, .long (zL ha)])), (m1, iA D 771 NW), (m2, iA D 3084 PA), (m3, iA D 771 AS), (m4, iA D 150 tb), (m5, iA D 250 st), (m6, iA D 250 bo), (m7, iA D 250 sh), (m8, iA D 36 f1), (m9, iA D 36 f2), (m10, iA D 2778 pk)] [(0, .ref m0), (1, .int (zI ((k : Nat) : Int)))] [] 0
  refine zz_aload_n hC 0 (dk DX6_amplitude_0k 0 rfl) rfl rfl ?_
  refine zz_get hC F_X6_7 0 rfl rfl (dk DX6_amplitude_0k 1 rfl) ?_
  refine zz_bipush hC (dk DX6_amplitude_0k 2 rfl) (by decide) ?_
  refine zz_iconst hC (dk DX6_amplitude_0k 3 rfl) ?_
  refine zz_iload_n hC 1 (dk DX6_amplitude_0k 4 rfl) rfl rfl ?_
  refine zz_imul hC (dk DX6_amplitude_0k 5 rfl) ?_
  refine zz_iadd hC (dk DX6_amplitude_0k 6 rfl) ?_
  refine zz_iconst hC (dk DX6_amplitude_0k 7 rfl) ?_
  refine zz_iadd hC (dk DX6_amplitude_0k 8 rfl) ?_
  refine zz_iald hC ((21 + (3 * k)) + 2) 1 rfl (by omega) (by omega) (dk DX6_amplitude_0k 9 rfl) ?_
  rw [(hN.2.2.2.2 k (by omega)).2.2]
  have hf1 := hU k (by omega)
  exact zz_iret hC hQ hr () trivial rfl [0, 1, 2, 3, 4, 5, 6, 7, 8, 9, 10] rfl rfl ⟨Nat.le_refl _, Nat.le_refl _⟩ (dk DX6_amplitude_0k 10 rfl)
set_option maxHeartbeats 4000000 in
set_option maxRecDepth 100000 in
theorem c_X6_phase (l : Launch) (D : zG) (m0 : Nat) (m1 : Nat) (m2 : Nat) (m3 : Nat) (m4 : Nat) (m5 : Nat) (m6 : Nat) (m7 : Nat) (m8 : Nat) (m9 : Nat) (m10 : Nat) (NW : Nat → Int) (PA : Nat → Int) (AS : Nat → Int) (tb : Nat → Int) (st : Nat → Int) (bo : Nat → Int) (sh : Nat → Int) (f1 : Nat → Int) (f2 : Nat → Int) (pk : Nat → Int) (sv : Nat) (len : Nat) (sp : Nat) (rf : Int) (nu : Int) (rk : Int) (rt : Int) (ra : Int) (bm : Int) (ha : Int) (n : Nat) (w : Nat) (K : Nat → Int) (T : Nat → Int) (U : Nat → Int) (S : Nat → Int) (F : Nat → Int) (L : Nat → Int) (k : Nat) (hN : zRow NW n K T U S F L w) (hg : zLog n K T U) (hs : zSet S) (hk : k < n) : CI (S := Unit) l yX6_phase cX6_phase 2 ((some .int)) ({ frames := 1, cells := 0, slots := 0, locals := 21 } : Room) D [.ref m0, .int (zI ((k : Nat) : Int))] [(m0, .inr (6, [.ref m1, .ref m2, .ref m3, .int (zI ((sv : Nat) : Int)), .int (zI rf), .ref m4, .int (zI ((len : Nat) : Int)), .int (zI ((sp : Nat) : Int)), .int (zI nu), .int (zI rk), .int (zI rt), .int (zI ra), .ref m5, .ref m6, .int (zI bm), .ref m7, .ref m8, .ref m9, .ref m10, .long (zL ha)])), (m1, iA D 771 NW), (m2, iA D 3084 PA), (m3, iA D 771 AS), (m4, iA D 150 tb), (m5, iA D 250 st), (m6, iA D 250 bo), (m7, iA D 250 sh), (m8, iA D 36 f1), (m9, iA D 36 f2), (m10, iA D 2778 pk)] (fun _ => True) (fun _ => (zPh T S k)) (fun _ => [(m0, .inr (6, [.ref m1, .ref m2, .ref m3, .int (zI ((sv : Nat) : Int)), .int (zI rf), .ref m4, .int (zI ((len : Nat) : Int)), .int (zI ((sp : Nat) : Int)), .int (zI nu), .int (zI rk), .int (zI rt), .int (zI ra), .ref m5, .ref m6, .int (zI bm), .ref m7, .ref m8, .ref m9, .ref m10, .long (zL ha)])), (m1, iA D 771 NW), (m2, iA D 3084 PA), (m3, iA D 771 AS), (m4, iA D 150 tb), (m5, iA D 250 st), (m6, iA D 250 bo), (m7, iA D 250 sh), (m8, iA D 36 f1), (m9, iA D 36 f2), (m10, iA D 2778 pk)]) := by
  refine CI_of (by decide) (Nat.le_of_ble_eq_true rfl) ?_
  intro p e s m args below meth cd A Q hQ hC hr hnm
  have hC : ZC p s m args meth cd A D 2 cX6_phase RX6 := hC
  have hg0 := hg
  obtain ⟨hn, hK, hT, hU, hM⟩ := hg0
  show Z p l e ({ frames := 1, cells := 0, slots := 0, locals := 21 } : Room) s m args below meth cd A D Q 2 0 0 [(m0, .inr (6, [.ref m1, .ref m2, .ref m3, .int (zI ((sv : Nat) : Int)), .int (zI rf), .ref m4, .int (zI ((len : Nat) : Int)), .int (zI ((sp : Nat) : Int)), .int (zI nu), .int (zI rk), .int (zI rt), .int (zI ra), .ref m5, .ref m6, .int (zI bm), .ref m7, .ref m8, .ref m9, .ref m10, .long (zL ha)])), (m1, iA D 771 NW), (m2, iA D 3084 PA), (m3, iA D 771 AS), (m4, iA D 150 tb), (m5, iA D 250 st), (m6, iA D 250 bo), (m7, iA D 250 sh), (m8, iA D 36 f1), (m9, iA D 36 f2), (m10, iA D 2778 pk)] [(0, .ref m0), (1, .int (zI ((k : Nat) : Int)))] [] 0
  refine zz_aload_n hC 0 (dk DX6_phase_0k 0 rfl) rfl rfl ?_
  refine zz_iload_n hC 1 (dk DX6_phase_0k 1 rfl) rfl rfl ?_
  refine zz_pureVi hC (c_X6_time l D m0 m1 m2 m3 m4 m5 m6 m7 m8 m9 m10 NW PA AS tb st bo sh f1 f2 pk sv len sp rf nu rk rt ra bm ha n w K T U S F L k hN hg (by omega)) G_X6_69 H_X6_time ⟨Nat.le_of_ble_eq_true rfl, Nat.le_of_ble_eq_true rfl⟩ rfl [0, 1, 2, 3, 4, 5, 6, 7, 8, 9, 10] rfl rfl 0 6 ⟨rfl, rfl, rfl⟩ (As := [.int (zI ((k : Nat) : Int))]) (rest := []) (Nat.le_of_ble_eq_true rfl) rfl ⟨Nat.le_of_ble_eq_true rfl, Nat.le_of_ble_eq_true rfl⟩ (dk DX6_phase_0k 2 rfl) ⟨rfl, rfl⟩ ?_
  have hf1 := hT k (by omega)
  refine zz_aload_n hC 0 (dk DX6_phase_0k 3 rfl) rfl rfl ?_
  refine zz_get hC F_X6_7 0 rfl rfl (dk DX6_phase_0k 4 rfl) ?_
  refine zz_iconst hC (dk DX6_phase_0k 5 rfl) ?_
  refine zz_iald hC 0 1 rfl rfl (by omega) (dk DX6_phase_0k 6 rfl) ?_
  rw [hN.1 0 (by omega)]
  have hf2 := zSet_in hs 0 (by omega)
  refine zz_iadd hC (dk DX6_phase_0k 7 rfl) ?_
  refine zz_sipush hC (dk DX6_phase_0k 8 rfl) (by decide) ?_
  refine zz_irem hC (dk DX6_phase_0k 9 rfl) ⟨⟨⟨by omega, by omega⟩, (by decide)⟩, by omega, by omega⟩ ?_
  exact zz_iret hC hQ hr () trivial rfl [0, 1, 2, 3, 4, 5, 6, 7, 8, 9, 10] rfl rfl ⟨Nat.le_refl _, Nat.le_refl _⟩ (dk DX6_phase_0k 10 rfl)
set_option maxHeartbeats 4000000 in
set_option maxRecDepth 100000 in
theorem c_X6_latest (l : Launch) (D : zG) (m0 : Nat) (m1 : Nat) (m2 : Nat) (m3 : Nat) (m4 : Nat) (m5 : Nat) (m6 : Nat) (m7 : Nat) (m8 : Nat) (m9 : Nat) (m10 : Nat) (NW : Nat → Int) (PA : Nat → Int) (AS : Nat → Int) (tb : Nat → Int) (st : Nat → Int) (bo : Nat → Int) (sh : Nat → Int) (f1 : Nat → Int) (f2 : Nat → Int) (pk : Nat → Int) (sv : Nat) (len : Nat) (sp : Nat) (rf : Int) (nu : Int) (rk : Int) (rt : Int) (ra : Int) (bm : Int) (ha : Int) (n : Nat) (w : Nat) (K : Nat → Int) (T : Nat → Int) (U : Nat → Int) (S : Nat → Int) (F : Nat → Int) (L : Nat → Int) (hN : zRow NW n K T U S F L w) (hg : zLog n K T U) : CI (S := Unit) l yX6_latest cX6_latest 1 ((some .int)) ({ frames := 1, cells := 0, slots := 0, locals := 21 } : Room) D [.ref m0] [(m0, .inr (6, [.ref m1, .ref m2, .ref m3, .int (zI ((sv : Nat) : Int)), .int (zI rf), .ref m4, .int (zI ((len : Nat) : Int)), .int (zI ((sp : Nat) : Int)), .int (zI nu), .int (zI rk), .int (zI rt), .int (zI ra), .ref m5, .ref m6, .int (zI bm), .ref m7, .ref m8, .ref m9, .ref m10, .long (zL ha)])), (m1, iA D 771 NW), (m2, iA D 3084 PA), (m3, iA D 771 AS), (m4, iA D 150 tb), (m5, iA D 250 st), (m6, iA D 250 bo), (m7, iA D 250 sh), (m8, iA D 36 f1), (m9, iA D 36 f2), (m10, iA D 2778 pk)] (fun _ => True) (fun _ => (zLast n T)) (fun _ => [(m0, .inr (6, [.ref m1, .ref m2, .ref m3, .int (zI ((sv : Nat) : Int)), .int (zI rf), .ref m4, .int (zI ((len : Nat) : Int)), .int (zI ((sp : Nat) : Int)), .int (zI nu), .int (zI rk), .int (zI rt), .int (zI ra), .ref m5, .ref m6, .int (zI bm), .ref m7, .ref m8, .ref m9, .ref m10, .long (zL ha)])), (m1, iA D 771 NW), (m2, iA D 3084 PA), (m3, iA D 771 AS), (m4, iA D 150 tb), (m5, iA D 250 st), (m6, iA D 250 bo), (m7, iA D 250 sh), (m8, iA D 36 f1), (m9, iA D 36 f2), (m10, iA D 2778 pk)]) := by
  refine CI_of (by decide) (Nat.le_of_ble_eq_true rfl) ?_
  intro p e s m args below meth cd A Q hQ hC hr hnm
  have hC : ZC p s m args meth cd A D 1 cX6_latest RX6 := hC
  have hg0 := hg
  obtain ⟨hn, hK, hT, hU, hM⟩ := hg0
  show Z p l e ({ frames := 1, cells := 0, slots := 0, locals := 21 } : Room) s m args below meth cd A D Q 1 0 0 [(m0, .inr (6, [.ref m1, .ref m2, .ref m3, .int (zI ((sv : Nat) : Int)), .int (zI rf), .ref m4, .int (zI ((len : Nat) : Int)), .int (zI ((sp : Nat) : Int)), .int (zI nu), .int (zI rk), .int (zI rt), .int (zI ra), .ref m5, .ref m6, .int (zI bm), .ref m7, .ref m8, .ref m9, .ref m10, .long (zL ha)])), (m1, iA D 771 NW), (m2, iA D 3084 PA), (m3, iA D 771 AS), (m4, iA D 150 tb), (m5, iA D 250 st), (m6, iA D 250 bo), (m7, iA D 250 sh), (m8, iA D 36 f1), (m9, iA D 36 f2), (m10, iA D 2778 pk)] [(0, .ref m0)] [] 0
  refine zz_aload_n hC 0 (dk DX6_latest_0k 0 rfl) rfl rfl ?_
  refine zz_get hC F_X6_7 0 rfl rfl (dk DX6_latest_0k 1 rfl) ?_
  refine zz_bipush hC (dk DX6_latest_0k 2 rfl) (by decide) ?_
  refine zz_iald hC 20 1 rfl rfl (by omega) (dk DX6_latest_0k 3 rfl) ?_
  rw [hN.2.2.2.1]
  refine zz_if_ne hC 14 (dk DX6_latest_0k 4 rfl) (by decide) ⟨by omega, by omega⟩ (fun c1 => ?_) (fun c1 => ?_)
  · refine zz_aload_n hC 0 (dk DX6_latest_0k 7 rfl) rfl rfl ?_
    refine zz_aload_n hC 0 (dk DX6_latest_0k 8 rfl) rfl rfl ?_
    refine zz_get hC F_X6_7 0 rfl rfl (dk DX6_latest_0k 9 rfl) ?_
    refine zz_bipush hC (dk DX6_latest_0k 10 rfl) (by decide) ?_
    refine zz_iald hC 20 1 rfl rfl (by omega) (dk DX6_latest_0k 11 rfl) ?_
    rw [hN.2.2.2.1]
    refine zz_iconst hC (dk DX6_latest_0k 12 rfl) ?_
    refine zz_isub hC (dk DX6_latest_0k 13 rfl) ?_
    rw [show ((n : Nat) : Int) - 1 = ((n - 1 : Nat) : Int) by omega]
    refine zz_pureVi hC (c_X6_time l D m0 m1 m2 m3 m4 m5 m6 m7 m8 m9 m10 NW PA AS tb st bo sh f1 f2 pk sv len sp rf nu rk rt ra bm ha n w K T U S F L ((n - 1)) hN hg (by omega)) G_X6_69 H_X6_time ⟨Nat.le_of_ble_eq_true rfl, Nat.le_of_ble_eq_true rfl⟩ rfl [0, 1, 2, 3, 4, 5, 6, 7, 8, 9, 10] rfl rfl 0 6 ⟨rfl, rfl, rfl⟩ (As := [.int (zI (((n - 1) : Nat) : Int))]) (rest := []) (Nat.le_of_ble_eq_true rfl) rfl ⟨Nat.le_of_ble_eq_true rfl, Nat.le_of_ble_eq_true rfl⟩ (dk DX6_latest_0k 14 rfl) ⟨rfl, rfl⟩ ?_
    have hf2 := hT ((n - 1)) (by omega)
    exact zz_iret hC hQ hr () trivial (by simp only [zLast]; split <;> first | rfl | omega) [0, 1, 2, 3, 4, 5, 6, 7, 8, 9, 10] rfl rfl ⟨Nat.le_refl _, Nat.le_refl _⟩ (dk DX6_latest_0k 15 rfl)
  · refine zz_iconst hC (dk DX6_latest_0k 5 rfl) ?_
    refine zz_goto hC 27 (dk DX6_latest_0k 6 rfl) (by decide) ?_
    exact zz_iret hC hQ hr () trivial (by simp only [zLast]; split <;> first | rfl | omega) [0, 1, 2, 3, 4, 5, 6, 7, 8, 9, 10] rfl rfl ⟨Nat.le_refl _, Nat.le_refl _⟩ (dk DX6_latest_0k 15 rfl)
set_option maxHeartbeats 4000000 in
set_option maxRecDepth 100000 in
theorem c_X6_isBlocked (l : Launch) (D : zG) (m0 : Nat) (m1 : Nat) (m2 : Nat) (m3 : Nat) (m4 : Nat) (m5 : Nat) (m6 : Nat) (m7 : Nat) (m8 : Nat) (m9 : Nat) (m10 : Nat) (NW : Nat → Int) (PA : Nat → Int) (AS : Nat → Int) (tb : Nat → Int) (st : Nat → Int) (bo : Nat → Int) (sh : Nat → Int) (f1 : Nat → Int) (f2 : Nat → Int) (pk : Nat → Int) (sv : Nat) (len : Nat) (sp : Nat) (rf : Int) (nu : Int) (rk : Int) (rt : Int) (ra : Int) (bm : Int) (ha : Int) (n : Nat) (w : Nat) (K : Nat → Int) (T : Nat → Int) (U : Nat → Int) (S : Nat → Int) (F : Nat → Int) (L : Nat → Int) (k : Nat) (hN : zRow NW n K T U S F L w) (hg : zLog n K T U) (hs : zSet S) (hw : zWin w F L) (hk : k < n) : CI (S := Unit) l yX6_isBlocked cX6_isBlocked 7 ((some .boolean)) ({ frames := 2, cells := 0, slots := 0, locals := 42 } : Room) D [.ref m0, .int (zI ((k : Nat) : Int))] [(m0, .inr (6, [.ref m1, .ref m2, .ref m3, .int (zI ((sv : Nat) : Int)), .int (zI rf), .ref m4, .int (zI ((len : Nat) : Int)), .int (zI ((sp : Nat) : Int)), .int (zI nu), .int (zI rk), .int (zI rt), .int (zI ra), .ref m5, .ref m6, .int (zI bm), .ref m7, .ref m8, .ref m9, .ref m10, .long (zL ha)])), (m1, iA D 771 NW), (m2, iA D 3084 PA), (m3, iA D 771 AS), (m4, iA D 150 tb), (m5, iA D 250 st), (m6, iA D 250 bo), (m7, iA D 250 sh), (m8, iA D 36 f1), (m9, iA D 36 f2), (m10, iA D 2778 pk)] (fun _ => True) (fun _ => zB (zBl w F L T S k = true)) (fun _ => [(m0, .inr (6, [.ref m1, .ref m2, .ref m3, .int (zI ((sv : Nat) : Int)), .int (zI rf), .ref m4, .int (zI ((len : Nat) : Int)), .int (zI ((sp : Nat) : Int)), .int (zI nu), .int (zI rk), .int (zI rt), .int (zI ra), .ref m5, .ref m6, .int (zI bm), .ref m7, .ref m8, .ref m9, .ref m10, .long (zL ha)])), (m1, iA D 771 NW), (m2, iA D 3084 PA), (m3, iA D 771 AS), (m4, iA D 150 tb), (m5, iA D 250 st), (m6, iA D 250 bo), (m7, iA D 250 sh), (m8, iA D 36 f1), (m9, iA D 36 f2), (m10, iA D 2778 pk)]) := by
  refine CI_of (by decide) (Nat.le_of_ble_eq_true rfl) ?_
  intro p e s m args below meth cd A Q hQ hC hr hnm
  have hC : ZC p s m args meth cd A D 7 cX6_isBlocked RX6 := hC
  have hg0 := hg
  obtain ⟨hn, hK, hT, hU, hM⟩ := hg0
  obtain ⟨hw4, hF, hL⟩ := hw
  show Z p l e ({ frames := 2, cells := 0, slots := 0, locals := 42 } : Room) s m args below meth cd A D Q 7 0 0 [(m0, .inr (6, [.ref m1, .ref m2, .ref m3, .int (zI ((sv : Nat) : Int)), .int (zI rf), .ref m4, .int (zI ((len : Nat) : Int)), .int (zI ((sp : Nat) : Int)), .int (zI nu), .int (zI rk), .int (zI rt), .int (zI ra), .ref m5, .ref m6, .int (zI bm), .ref m7, .ref m8, .ref m9, .ref m10, .long (zL ha)])), (m1, iA D 771 NW), (m2, iA D 3084 PA), (m3, iA D 771 AS), (m4, iA D 150 tb), (m5, iA D 250 st), (m6, iA D 250 bo), (m7, iA D 250 sh), (m8, iA D 36 f1), (m9, iA D 36 f2), (m10, iA D 2778 pk)] [(0, .ref m0), (1, .int (zI ((k : Nat) : Int)))] [] 0
  refine zz_iconst hC (dk DX6_isBlocked_0k 0 rfl) ?_
  refine zz_istore_n hC (ls' := [(0, .ref m0), (1, .int (zI ((k : Nat) : Int))), (2, .int (zI 0))]) [1, 2, 0] (dk DX6_isBlocked_0k 1 rfl) rfl (by decide) rfl ?_
  refine zz_iconst hC (dk DX6_isBlocked_0k 2 rfl) ?_
  refine zz_istore_n hC (ls' := [(0, .ref m0), (1, .int (zI ((k : Nat) : Int))), (2, .int (zI 0)), (3, .int (zI 0))]) [1, 2, 3, 0] (dk DX6_isBlocked_0k 3 rfl) rfl (by decide) rfl ?_
  have LP4 : ∀ (fuel4 : Nat) (i : Nat) (b : Int), (i ≤ w) → (b = zB (zBlk i F L (zPh T S k) = true)) → (b = 0 ∨ b = 1) → w - i < fuel4 → Z p l e ({ frames := 2, cells := 0, slots := 0, locals := 42 } : Room) s m args below meth cd A D Q 7 0 0 [(m0, .inr (6, [.ref m1, .ref m2, .ref m3, .int (zI ((sv : Nat) : Int)), .int (zI rf), .ref m4, .int (zI ((len : Nat) : Int)), .int (zI ((sp : Nat) : Int)), .int (zI nu), .int (zI rk), .int (zI rt), .int (zI ra), .ref m5, .ref m6, .int (zI bm), .ref m7, .ref m8, .ref m9, .ref m10, .long (zL ha)])), (m1, iA D 771 NW), (m2, iA D 3084 PA), (m3, iA D 771 AS), (m4, iA D 150 tb), (m5, iA D 250 st), (m6, iA D 250 bo), (m7, iA D 250 sh), (m8, iA D 36 f1), (m9, iA D 36 f2), (m10, iA D 2778 pk)] [(0, .ref m0), (1, .int (zI ((k : Nat) : Int))), (2, .int (zI b)), (3, .int (zI ((i : Nat) : Int)))] [] 4 := by
    intro fuel4
    induction fuel4 with
    | zero => intro i b hi hb hbr hfu; exact absurd hfu (Nat.not_lt_zero _)
    | succ fuel4 ih4 =>
      intro i b hi hb hbr hfu4
      refine zz_iload_n hC 3 (dk DX6_isBlocked_0k 4 rfl) rfl rfl ?_
      refine zz_aload_n hC 0 (dk DX6_isBlocked_0k 5 rfl) rfl rfl ?_
      refine zz_get hC F_X6_7 0 rfl rfl (dk DX6_isBlocked_0k 6 rfl) ?_
      refine zz_bipush hC (dk DX6_isBlocked_0k 7 rfl) (by decide) ?_
      refine zz_iald hC 11 1 rfl rfl (by omega) (dk DX6_isBlocked_0k 8 rfl) ?_
      rw [hN.2.1]
      refine zz_icmp_ge hC 102 (dk DX6_isBlocked_0k 9 rfl) (by decide) ⟨⟨by omega, by omega⟩, ⟨by omega, by omega⟩⟩ (fun c1 => ?_) (fun c1 => ?_)
      · refine zz_iload_n hC 2 (dk DX6_isBlocked_0k 57 rfl) rfl rfl ?_
        exact zz_zret hC hQ hr () trivial (by have e : w = i := (by omega); unfold zBl; rw [e]; exact hb) (by omega) [0, 1, 2, 3, 4, 5, 6, 7, 8, 9, 10] rfl rfl ⟨Nat.le_refl _, Nat.le_refl _⟩ (dk DX6_isBlocked_0k 58 rfl)
      · refine zz_aload_n hC 0 (dk DX6_isBlocked_0k 10 rfl) rfl rfl ?_
        refine zz_get hC F_X6_7 0 rfl rfl (dk DX6_isBlocked_0k 11 rfl) ?_
        refine zz_bipush hC (dk DX6_isBlocked_0k 12 rfl) (by decide) ?_
        refine zz_iconst hC (dk DX6_isBlocked_0k 13 rfl) ?_
        refine zz_iload_n hC 3 (dk DX6_isBlocked_0k 14 rfl) rfl rfl ?_
        refine zz_imul hC (dk DX6_isBlocked_0k 15 rfl) ?_
        refine zz_iadd hC (dk DX6_isBlocked_0k 16 rfl) ?_
        refine zz_iald hC (12 + (2 * i)) 1 rfl (by omega) (by omega) (dk DX6_isBlocked_0k 17 rfl) ?_
        rw [(hN.2.2.1 i (by omega)).1]
        have hf2 := hF i (by omega)
        refine zz_istore hC (ls' := [(0, .ref m0), (1, .int (zI ((k : Nat) : Int))), (2, .int (zI b)), (3, .int (zI ((i : Nat) : Int))), (4, .int (zI (F i)))]) [1, 2, 3, 4, 0] (dk DX6_isBlocked_0k 18 rfl) (by decide) rfl ?_
        refine zz_aload_n hC 0 (dk DX6_isBlocked_0k 19 rfl) rfl rfl ?_
        refine zz_get hC F_X6_7 0 rfl rfl (dk DX6_isBlocked_0k 20 rfl) ?_
        refine zz_bipush hC (dk DX6_isBlocked_0k 21 rfl) (by decide) ?_
        refine zz_iconst hC (dk DX6_isBlocked_0k 22 rfl) ?_
        refine zz_iload_n hC 3 (dk DX6_isBlocked_0k 23 rfl) rfl rfl ?_
        refine zz_imul hC (dk DX6_isBlocked_0k 24 rfl) ?_
        refine zz_iadd hC (dk DX6_isBlocked_0k 25 rfl) ?_
        refine zz_iconst hC (dk DX6_isBlocked_0k 26 rfl) ?_
        refine zz_iadd hC (dk DX6_isBlocked_0k 27 rfl) ?_
        refine zz_iald hC ((12 + (2 * i)) + 1) 1 rfl (by omega) (by omega) (dk DX6_isBlocked_0k 28 rfl) ?_
        rw [(hN.2.2.1 i (by omega)).2]
        have hf3 := hL i (by omega)
        refine zz_istore hC (ls' := [(0, .ref m0), (1, .int (zI ((k : Nat) : Int))), (2, .int (zI b)), (3, .int (zI ((i : Nat) : Int))), (4, .int (zI (F i))), (5, .int (zI (L i)))]) [1, 2, 3, 4, 5, 0] (dk DX6_isBlocked_0k 29 rfl) (by decide) rfl ?_
        refine zz_aload_n hC 0 (dk DX6_isBlocked_0k 30 rfl) rfl rfl ?_
        refine zz_iload_n hC 1 (dk DX6_isBlocked_0k 31 rfl) rfl rfl ?_
        refine zz_pureVi hC (c_X6_phase l D m0 m1 m2 m3 m4 m5 m6 m7 m8 m9 m10 NW PA AS tb st bo sh f1 f2 pk sv len sp rf nu rk rt ra bm ha n w K T U S F L k hN hg hs (by omega)) G_X6_113 H_X6_phase ⟨Nat.le_of_ble_eq_true rfl, Nat.le_of_ble_eq_true rfl⟩ rfl [0, 1, 2, 3, 4, 5, 6, 7, 8, 9, 10] rfl rfl 0 6 ⟨rfl, rfl, rfl⟩ (As := [.int (zI ((k : Nat) : Int))]) (rest := []) (Nat.le_of_ble_eq_true rfl) rfl ⟨Nat.le_of_ble_eq_true rfl, Nat.le_of_ble_eq_true rfl⟩ (dk DX6_isBlocked_0k 32 rfl) ⟨rfl, rfl⟩ ?_
        have hf4 := (show 0 ≤ zPh T S k ∧ zPh T S k < 360 from zPh_in)
        refine zz_istore hC (ls' := [(0, .ref m0), (1, .int (zI ((k : Nat) : Int))), (2, .int (zI b)), (3, .int (zI ((i : Nat) : Int))), (4, .int (zI (F i))), (5, .int (zI (L i))), (6, .int (zI (zPh T S k)))]) [1, 2, 3, 4, 5, 6, 0] (dk DX6_isBlocked_0k 33 rfl) (by decide) rfl ?_
        refine zz_iload_n hC 2 (dk DX6_isBlocked_0k 34 rfl) rfl rfl ?_
        refine zz_if_ne hC 90 (dk DX6_isBlocked_0k 35 rfl) (by decide) ⟨by omega, by omega⟩ (fun c5 => ?_) (fun c5 => ?_)
        · refine zz_iconst hC (dk DX6_isBlocked_0k 51 rfl) ?_
          refine zz_goto hC 95 (dk DX6_isBlocked_0k 52 rfl) (by decide) ?_
          refine zz_istore_n hC (ls' := [(0, .ref m0), (1, .int (zI ((k : Nat) : Int))), (2, .int (zI 1)), (3, .int (zI ((i : Nat) : Int))), (4, .int (zI (F i))), (5, .int (zI (L i))), (6, .int (zI (zPh T S k)))]) [1, 2, 0, 3, 4, 5, 6] (dk DX6_isBlocked_0k 54 rfl) rfl (by decide) rfl ?_
          refine zz_iinc hC ((i + 1 : Nat) : Int) (ls' := [(0, .ref m0), (1, .int (zI ((k : Nat) : Int))), (2, .int (zI 1)), (3, .int (zI ((i + 1 : Nat) : Int))), (4, .int (zI (F i))), (5, .int (zI (L i))), (6, .int (zI (zPh T S k)))]) 3 [1, 2, 3, 0, 4, 5, 6] (dk DX6_isBlocked_0k 55 rfl) rfl (by omega) (by decide) rfl ?_
          refine zz_goto hC 4 (dk DX6_isBlocked_0k 56 rfl) (by decide) ?_
          refine zz_ls [0, 1, 2, 3] rfl ?_
          exact ih4 (i + 1) 1 (by omega) (bk_s hb (by omega)) (by omega) (by omega)
        · refine zz_iload hC 4 (dk DX6_isBlocked_0k 36 rfl) rfl ?_
          refine zz_iload hC 5 (dk DX6_isBlocked_0k 37 rfl) rfl ?_
          refine zz_icmp_gt hC 76 (dk DX6_isBlocked_0k 38 rfl) (by decide) ⟨⟨by omega, by omega⟩, ⟨by omega, by omega⟩⟩ (fun c6 => ?_) (fun c6 => ?_)
          · refine zz_iload hC 6 (dk DX6_isBlocked_0k 45 rfl) rfl ?_
            refine zz_iload hC 4 (dk DX6_isBlocked_0k 46 rfl) rfl ?_
            refine zz_icmp_ge hC 90 (dk DX6_isBlocked_0k 47 rfl) (by decide) ⟨⟨by omega, by omega⟩, ⟨by omega, by omega⟩⟩ (fun c7 => ?_) (fun c7 => ?_)
            · refine zz_iconst hC (dk DX6_isBlocked_0k 51 rfl) ?_
              refine zz_goto hC 95 (dk DX6_isBlocked_0k 52 rfl) (by decide) ?_
              refine zz_istore_n hC (ls' := [(0, .ref m0), (1, .int (zI ((k : Nat) : Int))), (2, .int (zI 1)), (3, .int (zI ((i : Nat) : Int))), (4, .int (zI (F i))), (5, .int (zI (L i))), (6, .int (zI (zPh T S k)))]) [1, 2, 0, 3, 4, 5, 6] (dk DX6_isBlocked_0k 54 rfl) rfl (by decide) rfl ?_
              refine zz_iinc hC ((i + 1 : Nat) : Int) (ls' := [(0, .ref m0), (1, .int (zI ((k : Nat) : Int))), (2, .int (zI 1)), (3, .int (zI ((i + 1 : Nat) : Int))), (4, .int (zI (F i))), (5, .int (zI (L i))), (6, .int (zI (zPh T S k)))]) 3 [1, 2, 3, 0, 4, 5, 6] (dk DX6_isBlocked_0k 55 rfl) rfl (by omega) (by decide) rfl ?_
              refine zz_goto hC 4 (dk DX6_isBlocked_0k 56 rfl) (by decide) ?_
              refine zz_ls [0, 1, 2, 3] rfl ?_
              exact ih4 (i + 1) 1 (by omega) (bk_s hb (by omega)) (by omega) (by omega)
            · refine zz_iload hC 6 (dk DX6_isBlocked_0k 48 rfl) rfl ?_
              refine zz_iload hC 5 (dk DX6_isBlocked_0k 49 rfl) rfl ?_
              refine zz_icmp_gt hC 94 (dk DX6_isBlocked_0k 50 rfl) (by decide) ⟨⟨by omega, by omega⟩, ⟨by omega, by omega⟩⟩ (fun c8 => ?_) (fun c8 => ?_)
              · refine zz_iconst hC (dk DX6_isBlocked_0k 53 rfl) ?_
                refine zz_istore_n hC (ls' := [(0, .ref m0), (1, .int (zI ((k : Nat) : Int))), (2, .int (zI 0)), (3, .int (zI ((i : Nat) : Int))), (4, .int (zI (F i))), (5, .int (zI (L i))), (6, .int (zI (zPh T S k)))]) [1, 2, 0, 3, 4, 5, 6] (dk DX6_isBlocked_0k 54 rfl) rfl (by decide) rfl ?_
                refine zz_iinc hC ((i + 1 : Nat) : Int) (ls' := [(0, .ref m0), (1, .int (zI ((k : Nat) : Int))), (2, .int (zI 0)), (3, .int (zI ((i + 1 : Nat) : Int))), (4, .int (zI (F i))), (5, .int (zI (L i))), (6, .int (zI (zPh T S k)))]) 3 [1, 2, 3, 0, 4, 5, 6] (dk DX6_isBlocked_0k 55 rfl) rfl (by omega) (by decide) rfl ?_
                refine zz_goto hC 4 (dk DX6_isBlocked_0k 56 rfl) (by decide) ?_
                refine zz_ls [0, 1, 2, 3] rfl ?_
                exact ih4 (i + 1) 0 (by omega) (bk_k hb (by omega) (by omega)) (by omega) (by omega)
              · refine zz_iconst hC (dk DX6_isBlocked_0k 51 rfl) ?_
                refine zz_goto hC 95 (dk DX6_isBlocked_0k 52 rfl) (by decide) ?_
                refine zz_istore_n hC (ls' := [(0, .ref m0), (1, .int (zI ((k : Nat) : Int))), (2, .int (zI 1)), (3, .int (zI ((i : Nat) : Int))), (4, .int (zI (F i))), (5, .int (zI (L i))), (6, .int (zI (zPh T S k)))]) [1, 2, 0, 3, 4, 5, 6] (dk DX6_isBlocked_0k 54 rfl) rfl (by decide) rfl ?_
                refine zz_iinc hC ((i + 1 : Nat) : Int) (ls' := [(0, .ref m0), (1, .int (zI ((k : Nat) : Int))), (2, .int (zI 1)), (3, .int (zI ((i + 1 : Nat) : Int))), (4, .int (zI (F i))), (5, .int (zI (L i))), (6, .int (zI (zPh T S k)))]) 3 [1, 2, 3, 0, 4, 5, 6] (dk DX6_isBlocked_0k 55 rfl) rfl (by omega) (by decide) rfl ?_
                refine zz_goto hC 4 (dk DX6_isBlocked_0k 56 rfl) (by decide) ?_
                refine zz_ls [0, 1, 2, 3] rfl ?_
                exact ih4 (i + 1) 1 (by omega) (bk_s hb (by omega)) (by omega) (by omega)
          · refine zz_iload hC 6 (dk DX6_isBlocked_0k 39 rfl) rfl ?_
            refine zz_iload hC 4 (dk DX6_isBlocked_0k 40 rfl) rfl ?_
            refine zz_iload hC 5 (dk DX6_isBlocked_0k 41 rfl) rfl ?_
            refine zz_pureSi hC (c_X6_within l D (zPh T S k) (F i) (L i) (by omega)) G_X6_52 H_X6_within.2 ⟨Nat.le_of_ble_eq_true rfl, Nat.le_of_ble_eq_true rfl⟩ rfl [] rfl rfl (As := [.int (zI (zPh T S k)), .int (zI (F i)), .int (zI (L i))]) (rest := []) (Nat.le_of_ble_eq_true rfl) rfl ⟨Nat.le_of_ble_eq_true rfl, Nat.le_of_ble_eq_true rfl⟩ (dk DX6_isBlocked_0k 42 rfl) ⟨rfl, rfl⟩ ?_
            refine zz_ifb_eq hC 94 (dk DX6_isBlocked_0k 43 rfl) (by decide) (fun c9 => ?_) (fun c9 => ?_)
            · refine zz_iconst hC (dk DX6_isBlocked_0k 53 rfl) ?_
              refine zz_istore_n hC (ls' := [(0, .ref m0), (1, .int (zI ((k : Nat) : Int))), (2, .int (zI 0)), (3, .int (zI ((i : Nat) : Int))), (4, .int (zI (F i))), (5, .int (zI (L i))), (6, .int (zI (zPh T S k)))]) [1, 2, 0, 3, 4, 5, 6] (dk DX6_isBlocked_0k 54 rfl) rfl (by decide) rfl ?_
              refine zz_iinc hC ((i + 1 : Nat) : Int) (ls' := [(0, .ref m0), (1, .int (zI ((k : Nat) : Int))), (2, .int (zI 0)), (3, .int (zI ((i + 1 : Nat) : Int))), (4, .int (zI (F i))), (5, .int (zI (L i))), (6, .int (zI (zPh T S k)))]) 3 [1, 2, 3, 0, 4, 5, 6] (dk DX6_isBlocked_0k 55 rfl) rfl (by omega) (by decide) rfl ?_
              refine zz_goto hC 4 (dk DX6_isBlocked_0k 56 rfl) (by decide) ?_
              refine zz_ls [0, 1, 2, 3] rfl ?_
              exact ih4 (i + 1) 0 (by omega) (bk_k hb (by omega) (by omega)) (by omega) (by omega)
            · refine zz_goto hC 90 (dk DX6_isBlocked_0k 44 rfl) (by decide) ?_
              refine zz_iconst hC (dk DX6_isBlocked_0k 51 rfl) ?_
              refine zz_goto hC 95 (dk DX6_isBlocked_0k 52 rfl) (by decide) ?_
              refine zz_istore_n hC (ls' := [(0, .ref m0), (1, .int (zI ((k : Nat) : Int))), (2, .int (zI 1)), (3, .int (zI ((i : Nat) : Int))), (4, .int (zI (F i))), (5, .int (zI (L i))), (6, .int (zI (zPh T S k)))]) [1, 2, 0, 3, 4, 5, 6] (dk DX6_isBlocked_0k 54 rfl) rfl (by decide) rfl ?_
              refine zz_iinc hC ((i + 1 : Nat) : Int) (ls' := [(0, .ref m0), (1, .int (zI ((k : Nat) : Int))), (2, .int (zI 1)), (3, .int (zI ((i + 1 : Nat) : Int))), (4, .int (zI (F i))), (5, .int (zI (L i))), (6, .int (zI (zPh T S k)))]) 3 [1, 2, 3, 0, 4, 5, 6] (dk DX6_isBlocked_0k 55 rfl) rfl (by omega) (by decide) rfl ?_
              refine zz_goto hC 4 (dk DX6_isBlocked_0k 56 rfl) (by decide) ?_
              refine zz_ls [0, 1, 2, 3] rfl ?_
              exact ih4 (i + 1) 1 (by omega) (bk_s hb (by omega)) (by omega) (by omega)
  refine zz_ls [0, 1, 2, 3] rfl ?_
  exact LP4 _ 0 0 (by omega) rfl (by omega) (Nat.lt_succ_self _)
set_option maxHeartbeats 4000000 in
set_option maxRecDepth 100000 in
theorem c_X6_isGated (l : Launch) (D : zG) (m0 : Nat) (m1 : Nat) (m2 : Nat) (m3 : Nat) (m4 : Nat) (m5 : Nat) (m6 : Nat) (m7 : Nat) (m8 : Nat) (m9 : Nat) (m10 : Nat) (NW : Nat → Int) (PA : Nat → Int) (AS : Nat → Int) (tb : Nat → Int) (st : Nat → Int) (bo : Nat → Int) (sh : Nat → Int) (f1 : Nat → Int) (f2 : Nat → Int) (pk : Nat → Int) (sv : Nat) (len : Nat) (sp : Nat) (rf : Int) (nu : Int) (rk : Int) (rt : Int) (ra : Int) (bm : Int) (ha : Int) (n : Nat) (w : Nat) (K : Nat → Int) (T : Nat → Int) (U : Nat → Int) (S : Nat → Int) (F : Nat → Int) (L : Nat → Int) (k : Nat) (gl : Int) (gw : Int) (hN : zRow NW n K T U S F L w) (hg : zLog n K T U) (hk : k < n) (hgl : 0 ≤ gl ∧ gl ≤ 2000) (hgw : 0 ≤ gw ∧ gw ≤ 100) : CI (S := Unit) l yX6_isGated cX6_isGated 5 ((some .boolean)) ({ frames := 1, cells := 0, slots := 0, locals := 21 } : Room) D [.ref m0, .int (zI ((k : Nat) : Int)), .int (zI gl), .int (zI gw)] [(m0, .inr (6, [.ref m1, .ref m2, .ref m3, .int (zI ((sv : Nat) : Int)), .int (zI rf), .ref m4, .int (zI ((len : Nat) : Int)), .int (zI ((sp : Nat) : Int)), .int (zI nu), .int (zI rk), .int (zI rt), .int (zI ra), .ref m5, .ref m6, .int (zI bm), .ref m7, .ref m8, .ref m9, .ref m10, .long (zL ha)])), (m1, iA D 771 NW), (m2, iA D 3084 PA), (m3, iA D 771 AS), (m4, iA D 150 tb), (m5, iA D 250 st), (m6, iA D 250 bo), (m7, iA D 250 sh), (m8, iA D 36 f1), (m9, iA D 36 f2), (m10, iA D 2778 pk)] (fun _ => True) (fun _ => zB (zGat n K T U gl gw k = true)) (fun _ => [(m0, .inr (6, [.ref m1, .ref m2, .ref m3, .int (zI ((sv : Nat) : Int)), .int (zI rf), .ref m4, .int (zI ((len : Nat) : Int)), .int (zI ((sp : Nat) : Int)), .int (zI nu), .int (zI rk), .int (zI rt), .int (zI ra), .ref m5, .ref m6, .int (zI bm), .ref m7, .ref m8, .ref m9, .ref m10, .long (zL ha)])), (m1, iA D 771 NW), (m2, iA D 3084 PA), (m3, iA D 771 AS), (m4, iA D 150 tb), (m5, iA D 250 st), (m6, iA D 250 bo), (m7, iA D 250 sh), (m8, iA D 36 f1), (m9, iA D 36 f2), (m10, iA D 2778 pk)]) := by
  refine CI_of (by decide) (Nat.le_of_ble_eq_true rfl) ?_
  intro p e s m args below meth cd A Q hQ hC hr hnm
  have hC : ZC p s m args meth cd A D 5 cX6_isGated RX6 := hC
  have hg0 := hg
  obtain ⟨hn, hK, hT, hU, hM⟩ := hg0
  show Z p l e ({ frames := 1, cells := 0, slots := 0, locals := 21 } : Room) s m args below meth cd A D Q 5 0 0 [(m0, .inr (6, [.ref m1, .ref m2, .ref m3, .int (zI ((sv : Nat) : Int)), .int (zI rf), .ref m4, .int (zI ((len : Nat) : Int)), .int (zI ((sp : Nat) : Int)), .int (zI nu), .int (zI rk), .int (zI rt), .int (zI ra), .ref m5, .ref m6, .int (zI bm), .ref m7, .ref m8, .ref m9, .ref m10, .long (zL ha)])), (m1, iA D 771 NW), (m2, iA D 3084 PA), (m3, iA D 771 AS), (m4, iA D 150 tb), (m5, iA D 250 st), (m6, iA D 250 bo), (m7, iA D 250 sh), (m8, iA D 36 f1), (m9, iA D 36 f2), (m10, iA D 2778 pk)] [(0, .ref m0), (1, .int (zI ((k : Nat) : Int))), (2, .int (zI gl)), (3, .int (zI gw))] [] 0
  refine zz_iconst hC (dk DX6_isGated_0k 0 rfl) ?_
  refine zz_istore hC (ls' := [(0, .ref m0), (1, .int (zI ((k : Nat) : Int))), (2, .int (zI gl)), (3, .int (zI gw)), (4, .int (zI 0))]) [1, 2, 3, 4, 0] (dk DX6_isGated_0k 1 rfl) (by decide) rfl ?_
  have LP3 : ∀ (fuel3 : Nat) (a : Nat), (a ≤ n) → (zGat a K T U gl gw k = false) → n - a < fuel3 → Z p l e ({ frames := 1, cells := 0, slots := 0, locals := 21 } : Room) s m args below meth cd A D Q 5 0 0 [(m0, .inr (6, [.ref m1, .ref m2, .ref m3, .int (zI ((sv : Nat) : Int)), .int (zI rf), .ref m4, .int (zI ((len : Nat) : Int)), .int (zI ((sp : Nat) : Int)), .int (zI nu), .int (zI rk), .int (zI rt), .int (zI ra), .ref m5, .ref m6, .int (zI bm), .ref m7, .ref m8, .ref m9, .ref m10, .long (zL ha)])), (m1, iA D 771 NW), (m2, iA D 3084 PA), (m3, iA D 771 AS), (m4, iA D 150 tb), (m5, iA D 250 st), (m6, iA D 250 bo), (m7, iA D 250 sh), (m8, iA D 36 f1), (m9, iA D 36 f2), (m10, iA D 2778 pk)] [(0, .ref m0), (1, .int (zI ((k : Nat) : Int))), (2, .int (zI gl)), (3, .int (zI gw)), (4, .int (zI ((a : Nat) : Int)))] [] 3 := by
    intro fuel3
    induction fuel3 with
    | zero => intro a hi hb hfu; exact absurd hfu (Nat.not_lt_zero _)
    | succ fuel3 ih3 =>
      intro a hi hb hfu3
      refine zz_iload hC 4 (dk DX6_isGated_0k 2 rfl) rfl ?_
      refine zz_aload_n hC 0 (dk DX6_isGated_0k 3 rfl) rfl rfl ?_
      refine zz_get hC F_X6_7 0 rfl rfl (dk DX6_isGated_0k 4 rfl) ?_
      refine zz_bipush hC (dk DX6_isGated_0k 5 rfl) (by decide) ?_
      refine zz_iald hC 20 1 rfl rfl (by omega) (dk DX6_isGated_0k 6 rfl) ?_
      rw [hN.2.2.2.1]
      refine zz_icmp_ge hC 65 (dk DX6_isGated_0k 7 rfl) (by decide) ⟨⟨by omega, by omega⟩, ⟨by omega, by omega⟩⟩ (fun c1 => ?_) (fun c1 => ?_)
      · refine zz_iconst hC (dk DX6_isGated_0k 33 rfl) ?_
        exact zz_zret hC hQ hr () trivial (zB_f (by have e : n = a := (by omega); rw [e, hb]; decide)).symm (by decide) [0, 1, 2, 3, 4, 5, 6, 7, 8, 9, 10] rfl rfl ⟨Nat.le_refl _, Nat.le_refl _⟩ (dk DX6_isGated_0k 34 rfl)
      · refine zz_aload_n hC 0 (dk DX6_isGated_0k 8 rfl) rfl rfl ?_
        refine zz_iload hC 4 (dk DX6_isGated_0k 9 rfl) rfl ?_
        refine zz_pureVi hC (c_X6_kind l D m0 m1 m2 m3 m4 m5 m6 m7 m8 m9 m10 NW PA AS tb st bo sh f1 f2 pk sv len sp rf nu rk rt ra bm ha n w K T U S F L a hN hg (by omega)) G_X6_116 H_X6_kind ⟨Nat.le_of_ble_eq_true rfl, Nat.le_of_ble_eq_true rfl⟩ rfl [0, 1, 2, 3, 4, 5, 6, 7, 8, 9, 10] rfl rfl 0 6 ⟨rfl, rfl, rfl⟩ (As := [.int (zI ((a : Nat) : Int))]) (rest := []) (Nat.le_of_ble_eq_true rfl) rfl ⟨Nat.le_of_ble_eq_true rfl, Nat.le_of_ble_eq_true rfl⟩ (dk DX6_isGated_0k 10 rfl) ⟨rfl, rfl⟩ ?_
        have hf2 := hK a (by omega)
        refine zz_iconst hC (dk DX6_isGated_0k 11 rfl) ?_
        refine zz_icmp_ne hC 59 (dk DX6_isGated_0k 12 rfl) (by decide) ⟨⟨by omega, by omega⟩, (by decide)⟩ (fun c3 => ?_) (fun c3 => ?_)
        · refine zz_iinc hC ((a + 1 : Nat) : Int) (ls' := [(0, .ref m0), (1, .int (zI ((k : Nat) : Int))), (2, .int (zI gl)), (3, .int (zI gw)), (4, .int (zI ((a + 1 : Nat) : Int)))]) 4 [1, 2, 3, 4, 0] (dk DX6_isGated_0k 31 rfl) rfl (by omega) (by decide) rfl ?_
          refine zz_goto hC 3 (dk DX6_isGated_0k 32 rfl) (by decide) ?_
          refine zz_ls [0, 1, 2, 3, 4] rfl ?_
          exact ih3 (a + 1) (by omega) (gt_n hb (by omega)) (by omega)
        · refine zz_aload_n hC 0 (dk DX6_isGated_0k 13 rfl) rfl rfl ?_
          refine zz_iload hC 4 (dk DX6_isGated_0k 14 rfl) rfl ?_
          refine zz_pureVi hC (c_X6_amplitude l D m0 m1 m2 m3 m4 m5 m6 m7 m8 m9 m10 NW PA AS tb st bo sh f1 f2 pk sv len sp rf nu rk rt ra bm ha n w K T U S F L a hN hg (by omega)) G_X6_119 H_X6_amplitude ⟨Nat.le_of_ble_eq_true rfl, Nat.le_of_ble_eq_true rfl⟩ rfl [0, 1, 2, 3, 4, 5, 6, 7, 8, 9, 10] rfl rfl 0 6 ⟨rfl, rfl, rfl⟩ (As := [.int (zI ((a : Nat) : Int))]) (rest := []) (Nat.le_of_ble_eq_true rfl) rfl ⟨Nat.le_of_ble_eq_true rfl, Nat.le_of_ble_eq_true rfl⟩ (dk DX6_isGated_0k 15 rfl) ⟨rfl, rfl⟩ ?_
          have hf4 := hU a (by omega)
          refine zz_pureSi hC (c_X6_size l D (U a) (by omega)) G_X6_122 H_X6_size.2 ⟨Nat.le_of_ble_eq_true rfl, Nat.le_of_ble_eq_true rfl⟩ rfl [] rfl rfl (As := [.int (zI (U a))]) (rest := []) (Nat.le_of_ble_eq_true rfl) rfl ⟨Nat.le_of_ble_eq_true rfl, Nat.le_of_ble_eq_true rfl⟩ (dk DX6_isGated_0k 16 rfl) ⟨rfl, rfl⟩ ?_
          refine zz_iload_n hC 2 (dk DX6_isGated_0k 17 rfl) rfl rfl ?_
          refine zz_icmp_lt hC 59 (dk DX6_isGated_0k 18 rfl) (by decide) ⟨⟨by omega, by omega⟩, ⟨by omega, by omega⟩⟩ (fun c5 => ?_) (fun c5 => ?_)
          · refine zz_iinc hC ((a + 1 : Nat) : Int) (ls' := [(0, .ref m0), (1, .int (zI ((k : Nat) : Int))), (2, .int (zI gl)), (3, .int (zI gw)), (4, .int (zI ((a + 1 : Nat) : Int)))]) 4 [1, 2, 3, 4, 0] (dk DX6_isGated_0k 31 rfl) rfl (by omega) (by decide) rfl ?_
            refine zz_goto hC 3 (dk DX6_isGated_0k 32 rfl) (by decide) ?_
            refine zz_ls [0, 1, 2, 3, 4] rfl ?_
            exact ih3 (a + 1) (by omega) (gt_n hb (by omega)) (by omega)
          · refine zz_aload_n hC 0 (dk DX6_isGated_0k 19 rfl) rfl rfl ?_
            refine zz_iload hC 4 (dk DX6_isGated_0k 20 rfl) rfl ?_
            refine zz_pureVi hC (c_X6_time l D m0 m1 m2 m3 m4 m5 m6 m7 m8 m9 m10 NW PA AS tb st bo sh f1 f2 pk sv len sp rf nu rk rt ra bm ha n w K T U S F L a hN hg (by omega)) G_X6_69 H_X6_time ⟨Nat.le_of_ble_eq_true rfl, Nat.le_of_ble_eq_true rfl⟩ rfl [0, 1, 2, 3, 4, 5, 6, 7, 8, 9, 10] rfl rfl 0 6 ⟨rfl, rfl, rfl⟩ (As := [.int (zI ((a : Nat) : Int))]) (rest := []) (Nat.le_of_ble_eq_true rfl) rfl ⟨Nat.le_of_ble_eq_true rfl, Nat.le_of_ble_eq_true rfl⟩ (dk DX6_isGated_0k 21 rfl) ⟨rfl, rfl⟩ ?_
            have hf6 := hT a (by omega)
            refine zz_aload_n hC 0 (dk DX6_isGated_0k 22 rfl) rfl rfl ?_
            refine zz_iload_n hC 1 (dk DX6_isGated_0k 23 rfl) rfl rfl ?_
            refine zz_pureVi hC (c_X6_time l D m0 m1 m2 m3 m4 m5 m6 m7 m8 m9 m10 NW PA AS tb st bo sh f1 f2 pk sv len sp rf nu rk rt ra bm ha n w K T U S F L k hN hg (by omega)) G_X6_69 H_X6_time ⟨Nat.le_of_ble_eq_true rfl, Nat.le_of_ble_eq_true rfl⟩ rfl [0, 1, 2, 3, 4, 5, 6, 7, 8, 9, 10] rfl rfl 0 6 ⟨rfl, rfl, rfl⟩ (As := [.int (zI ((k : Nat) : Int))]) (rest := [.int (zI (T a))]) (Nat.le_of_ble_eq_true rfl) rfl ⟨Nat.le_of_ble_eq_true rfl, Nat.le_of_ble_eq_true rfl⟩ (dk DX6_isGated_0k 24 rfl) ⟨rfl, rfl⟩ ?_
            have hf7 := hT k (by omega)
            refine zz_isub hC (dk DX6_isGated_0k 25 rfl) ?_
            refine zz_pureSi hC (c_X6_size l D ((T a) - (T k)) (by omega)) G_X6_122 H_X6_size.2 ⟨Nat.le_of_ble_eq_true rfl, Nat.le_of_ble_eq_true rfl⟩ rfl [] rfl rfl (As := [.int (zI ((T a) - (T k)))]) (rest := []) (Nat.le_of_ble_eq_true rfl) rfl ⟨Nat.le_of_ble_eq_true rfl, Nat.le_of_ble_eq_true rfl⟩ (dk DX6_isGated_0k 26 rfl) ⟨rfl, rfl⟩ ?_
            refine zz_iload_n hC 3 (dk DX6_isGated_0k 27 rfl) rfl rfl ?_
            refine zz_icmp_gt hC 59 (dk DX6_isGated_0k 28 rfl) (by decide) ⟨⟨by omega, by omega⟩, ⟨by omega, by omega⟩⟩ (fun c8 => ?_) (fun c8 => ?_)
            · refine zz_iinc hC ((a + 1 : Nat) : Int) (ls' := [(0, .ref m0), (1, .int (zI ((k : Nat) : Int))), (2, .int (zI gl)), (3, .int (zI gw)), (4, .int (zI ((a + 1 : Nat) : Int)))]) 4 [1, 2, 3, 4, 0] (dk DX6_isGated_0k 31 rfl) rfl (by omega) (by decide) rfl ?_
              refine zz_goto hC 3 (dk DX6_isGated_0k 32 rfl) (by decide) ?_
              refine zz_ls [0, 1, 2, 3, 4] rfl ?_
              exact ih3 (a + 1) (by omega) (gt_n hb (by omega)) (by omega)
            · refine zz_iconst hC (dk DX6_isGated_0k 29 rfl) ?_
              exact zz_zret hC hQ hr () trivial (zB_t (show zGat n K T U gl gw k = true from gt_y (show a < n by omega) (by omega) (by omega) (by omega))).symm (by decide) [0, 1, 2, 3, 4, 5, 6, 7, 8, 9, 10] rfl rfl ⟨Nat.le_refl _, Nat.le_refl _⟩ (dk DX6_isGated_0k 30 rfl)
  refine zz_ls [0, 1, 2, 3, 4] rfl ?_
  exact LP3 _ 0 (by omega) rfl (Nat.lt_succ_self _)
set_option maxHeartbeats 4000000 in
set_option maxRecDepth 100000 in
theorem c_X6_shuts (l : Launch) (D : zG) (m0 : Nat) (m1 : Nat) (m2 : Nat) (m3 : Nat) (m4 : Nat) (m5 : Nat) (m6 : Nat) (m7 : Nat) (m8 : Nat) (m9 : Nat) (m10 : Nat) (NW : Nat → Int) (PA : Nat → Int) (AS : Nat → Int) (tb : Nat → Int) (st : Nat → Int) (bo : Nat → Int) (sh : Nat → Int) (f1 : Nat → Int) (f2 : Nat → Int) (pk : Nat → Int) (sv : Nat) (len : Nat) (sp : Nat) (rf : Int) (nu : Int) (rk : Int) (rt : Int) (ra : Int) (bm : Int) (ha : Int) (n : Nat) (w : Nat) (K : Nat → Int) (T : Nat → Int) (U : Nat → Int) (S : Nat → Int) (F : Nat → Int) (L : Nat → Int) (gl : Int) (gw : Int) (hN : zRow NW n K T U S F L w) (hg : zLog n K T U) (hs : zSet S) (hw : zWin w F L) (hgl : 0 ≤ gl ∧ gl ≤ 2000) (hgw : 0 ≤ gw ∧ gw ≤ 100) : CV (S := Nat → Int) l yX6_shuts cX6_shuts 4 (none) ({ frames := 3, cells := 0, slots := 0, locals := 68 } : Room) D [.ref m0, .int (zI gl), .int (zI gw)] [(m0, .inr (6, [.ref m1, .ref m2, .ref m3, .int (zI ((sv : Nat) : Int)), .int (zI rf), .ref m4, .int (zI ((len : Nat) : Int)), .int (zI ((sp : Nat) : Int)), .int (zI nu), .int (zI rk), .int (zI rt), .int (zI ra), .ref m5, .ref m6, .int (zI bm), .ref m7, .ref m8, .ref m9, .ref m10, .long (zL ha)])), (m1, iA D 771 NW), (m2, iA D 3084 PA), (m3, iA D 771 AS), (m4, iA D 150 tb), (m5, iA D 250 st), (m6, iA D 250 bo), (m7, iA D 250 sh), (m8, iA D 36 f1), (m9, iA D 36 f2), (m10, iA D 2778 pk)] (fun u => ∀ j, j < n → u j = zSh0 K (zGat n K T U gl gw) (zBl w F L T S) j)  (fun u => [(m0, .inr (6, [.ref m1, .ref m2, .ref m3, .int (zI ((sv : Nat) : Int)), .int (zI rf), .ref m4, .int (zI ((len : Nat) : Int)), .int (zI ((sp : Nat) : Int)), .int (zI nu), .int (zI rk), .int (zI rt), .int (zI ra), .ref m5, .ref m6, .int (zI bm), .ref m7, .ref m8, .ref m9, .ref m10, .long (zL ha)])), (m1, iA D 771 NW), (m2, iA D 3084 PA), (m3, iA D 771 AS), (m4, iA D 150 tb), (m5, iA D 250 st), (m6, iA D 250 bo), (m7, iA D 250 u), (m8, iA D 36 f1), (m9, iA D 36 f2), (m10, iA D 2778 pk)]) := by
  refine CV_of (by decide) (Nat.le_of_ble_eq_true rfl) ?_
  intro p e s m args below meth cd A Q hQ hC hr hnm
  have hC : ZC p s m args meth cd A D 4 cX6_shuts RX6 := hC
  have hg0 := hg
  obtain ⟨hn, hK, hT, hU, hM⟩ := hg0
  show Z p l e ({ frames := 3, cells := 0, slots := 0, locals := 68 } : Room) s m args below meth cd A D Q 4 0 0 [(m0, .inr (6, [.ref m1, .ref m2, .ref m3, .int (zI ((sv : Nat) : Int)), .int (zI rf), .ref m4, .int (zI ((len : Nat) : Int)), .int (zI ((sp : Nat) : Int)), .int (zI nu), .int (zI rk), .int (zI rt), .int (zI ra), .ref m5, .ref m6, .int (zI bm), .ref m7, .ref m8, .ref m9, .ref m10, .long (zL ha)])), (m1, iA D 771 NW), (m2, iA D 3084 PA), (m3, iA D 771 AS), (m4, iA D 150 tb), (m5, iA D 250 st), (m6, iA D 250 bo), (m7, iA D 250 sh), (m8, iA D 36 f1), (m9, iA D 36 f2), (m10, iA D 2778 pk)] [(0, .ref m0), (1, .int (zI gl)), (2, .int (zI gw))] [] 0
  refine zz_iconst hC (dk DX6_shuts_0k 0 rfl) ?_
  refine zz_istore_n hC (ls' := [(0, .ref m0), (1, .int (zI gl)), (2, .int (zI gw)), (3, .int (zI 0))]) [1, 2, 3, 0] (dk DX6_shuts_0k 1 rfl) rfl (by decide) rfl ?_
  have LP2 : ∀ (fuel2 : Nat) (i : Nat) (sh1 : Nat → Int), (i ≤ n) → (∀ j, j < i → sh1 j = zSh0 K (zGat n K T U gl gw) (zBl w F L T S) j) → n - i < fuel2 → Z p l e ({ frames := 3, cells := 0, slots := 0, locals := 68 } : Room) s m args below meth cd A D Q 4 0 0 [(m0, .inr (6, [.ref m1, .ref m2, .ref m3, .int (zI ((sv : Nat) : Int)), .int (zI rf), .ref m4, .int (zI ((len : Nat) : Int)), .int (zI ((sp : Nat) : Int)), .int (zI nu), .int (zI rk), .int (zI rt), .int (zI ra), .ref m5, .ref m6, .int (zI bm), .ref m7, .ref m8, .ref m9, .ref m10, .long (zL ha)])), (m1, iA D 771 NW), (m2, iA D 3084 PA), (m3, iA D 771 AS), (m4, iA D 150 tb), (m5, iA D 250 st), (m6, iA D 250 bo), (m7, iA D 250 sh1), (m8, iA D 36 f1), (m9, iA D 36 f2), (m10, iA D 2778 pk)] [(0, .ref m0), (1, .int (zI gl)), (2, .int (zI gw)), (3, .int (zI ((i : Nat) : Int)))] [] 2 := by
    intro fuel2
    induction fuel2 with
    | zero => intro i sh1 hi hsh hfu; exact absurd hfu (Nat.not_lt_zero _)
    | succ fuel2 ih2 =>
      intro i sh1 hi hsh hfu2
      refine zz_iload_n hC 3 (dk DX6_shuts_0k 2 rfl) rfl rfl ?_
      refine zz_aload_n hC 0 (dk DX6_shuts_0k 3 rfl) rfl rfl ?_
      refine zz_get hC F_X6_7 0 rfl rfl (dk DX6_shuts_0k 4 rfl) ?_
      refine zz_bipush hC (dk DX6_shuts_0k 5 rfl) (by decide) ?_
      refine zz_iald hC 20 1 rfl rfl (by omega) (dk DX6_shuts_0k 6 rfl) ?_
      rw [hN.2.2.2.1]
      refine zz_icmp_ge hC 70 (dk DX6_shuts_0k 7 rfl) (by decide) ⟨⟨by omega, by omega⟩, ⟨by omega, by omega⟩⟩ (fun c1 => ?_) (fun c1 => ?_)
      · exact zz_ret hC hQ hr sh1 (fun j hj => hsh j (by omega)) [0, 1, 2, 3, 4, 5, 6, 7, 8, 9, 10] rfl rfl ⟨Nat.le_refl _, Nat.le_refl _⟩ (dk DX6_shuts_0k 39 rfl)
      · refine zz_aload_n hC 0 (dk DX6_shuts_0k 8 rfl) rfl rfl ?_
        refine zz_get hC F_X6_28 0 rfl rfl (dk DX6_shuts_0k 9 rfl) ?_
        refine zz_iload_n hC 3 (dk DX6_shuts_0k 10 rfl) rfl rfl ?_
        refine zz_aload_n hC 0 (dk DX6_shuts_0k 11 rfl) rfl rfl ?_
        refine zz_iload_n hC 3 (dk DX6_shuts_0k 12 rfl) rfl rfl ?_
        refine zz_pureVi hC (c_X6_kind l D m0 m1 m2 m3 m4 m5 m6 m7 m8 m9 m10 NW PA AS tb st bo sh1 f1 f2 pk sv len sp rf nu rk rt ra bm ha n w K T U S F L i hN hg (by omega)) G_X6_116 H_X6_kind ⟨Nat.le_of_ble_eq_true rfl, Nat.le_of_ble_eq_true rfl⟩ rfl [0, 1, 2, 3, 4, 5, 6, 7, 8, 9, 10] rfl rfl 0 6 ⟨rfl, rfl, rfl⟩ (As := [.int (zI ((i : Nat) : Int))]) (rest := [.int (zI ((i : Nat) : Int)), .ref m7]) (Nat.le_of_ble_eq_true rfl) rfl ⟨Nat.le_of_ble_eq_true rfl, Nat.le_of_ble_eq_true rfl⟩ (dk DX6_shuts_0k 13 rfl) ⟨rfl, rfl⟩ ?_
        have hf2 := hK i (by omega)
        refine zz_if_ne hC 56 (dk DX6_shuts_0k 14 rfl) (by decide) ⟨by omega, by omega⟩ (fun c3 => ?_) (fun c3 => ?_)
        · refine zz_iconst hC (dk DX6_shuts_0k 31 rfl) ?_
          refine zz_aload_n hC 0 (dk DX6_shuts_0k 32 rfl) rfl rfl ?_
          refine zz_iload_n hC 3 (dk DX6_shuts_0k 33 rfl) rfl rfl ?_
          refine zz_pureVi hC (c_X6_kind l D m0 m1 m2 m3 m4 m5 m6 m7 m8 m9 m10 NW PA AS tb st bo sh1 f1 f2 pk sv len sp rf nu rk rt ra bm ha n w K T U S F L i hN hg (by omega)) G_X6_116 H_X6_kind ⟨Nat.le_of_ble_eq_true rfl, Nat.le_of_ble_eq_true rfl⟩ rfl [0, 1, 2, 3, 4, 5, 6, 7, 8, 9, 10] rfl rfl 0 6 ⟨rfl, rfl, rfl⟩ (As := [.int (zI ((i : Nat) : Int))]) (rest := [.int (zI 4), .int (zI ((i : Nat) : Int)), .ref m7]) (Nat.le_of_ble_eq_true rfl) rfl ⟨Nat.le_of_ble_eq_true rfl, Nat.le_of_ble_eq_true rfl⟩ (dk DX6_shuts_0k 34 rfl) ⟨rfl, rfl⟩ ?_
          have hf4 := hK i (by omega)
          refine zz_iadd hC (dk DX6_shuts_0k 35 rfl) ?_
          refine zz_iast hC (ws' := [(m0, .inr (6, [.ref m1, .ref m2, .ref m3, .int (zI ((sv : Nat) : Int)), .int (zI rf), .ref m4, .int (zI ((len : Nat) : Int)), .int (zI ((sp : Nat) : Int)), .int (zI nu), .int (zI rk), .int (zI rt), .int (zI ra), .ref m5, .ref m6, .int (zI bm), .ref m7, .ref m8, .ref m9, .ref m10, .long (zL ha)])), (m1, iA D 771 NW), (m2, iA D 3084 PA), (m3, iA D 771 AS), (m4, iA D 150 tb), (m5, iA D 250 st), (m6, iA D 250 bo), (m7, iA D 250 (zU sh1 i (4 + (K i)))), (m8, iA D 36 f1), (m9, iA D 36 f2), (m10, iA D 2778 pk)]) i 7 rfl rfl (by omega) rfl (dk DX6_shuts_0k 36 rfl) ?_
          refine zz_iinc hC ((i + 1 : Nat) : Int) (ls' := [(0, .ref m0), (1, .int (zI gl)), (2, .int (zI gw)), (3, .int (zI ((i + 1 : Nat) : Int)))]) 3 [1, 2, 3, 0] (dk DX6_shuts_0k 37 rfl) rfl (by omega) (by decide) rfl ?_
          refine zz_goto hC 2 (dk DX6_shuts_0k 38 rfl) (by decide) ?_
          refine zz_ls [0, 1, 2, 3] rfl ?_
          exact ih2 (i + 1) (zU sh1 i (4 + (K i))) (by omega) (fill_s (sh_o (by omega)) hsh) (by omega)
        · refine zz_aload_n hC 0 (dk DX6_shuts_0k 15 rfl) rfl rfl ?_
          refine zz_iload_n hC 3 (dk DX6_shuts_0k 16 rfl) rfl rfl ?_
          refine zz_iload_n hC 1 (dk DX6_shuts_0k 17 rfl) rfl rfl ?_
          refine zz_iload_n hC 2 (dk DX6_shuts_0k 18 rfl) rfl rfl ?_
          refine zz_pureVi hC (c_X6_isGated l D m0 m1 m2 m3 m4 m5 m6 m7 m8 m9 m10 NW PA AS tb st bo sh1 f1 f2 pk sv len sp rf nu rk rt ra bm ha n w K T U S F L i gl gw hN hg (by omega) (by omega) (by omega)) G_X6_125 H_X6_isGated ⟨Nat.le_of_ble_eq_true rfl, Nat.le_of_ble_eq_true rfl⟩ rfl [0, 1, 2, 3, 4, 5, 6, 7, 8, 9, 10] rfl rfl 0 6 ⟨rfl, rfl, rfl⟩ (As := [.int (zI ((i : Nat) : Int)), .int (zI gl), .int (zI gw)]) (rest := [.int (zI ((i : Nat) : Int)), .ref m7]) (Nat.le_of_ble_eq_true rfl) rfl ⟨Nat.le_of_ble_eq_true rfl, Nat.le_of_ble_eq_true rfl⟩ (dk DX6_shuts_0k 19 rfl) ⟨rfl, rfl⟩ ?_
          refine zz_ifb_eq hC 40 (dk DX6_shuts_0k 20 rfl) (by decide) (fun c5 => ?_) (fun c5 => ?_)
          · refine zz_aload_n hC 0 (dk DX6_shuts_0k 23 rfl) rfl rfl ?_
            refine zz_iload_n hC 3 (dk DX6_shuts_0k 24 rfl) rfl rfl ?_
            refine zz_pureVi hC (c_X6_isBlocked l D m0 m1 m2 m3 m4 m5 m6 m7 m8 m9 m10 NW PA AS tb st bo sh1 f1 f2 pk sv len sp rf nu rk rt ra bm ha n w K T U S F L i hN hg hs hw (by omega)) G_X6_128 H_X6_isBlocked ⟨Nat.le_of_ble_eq_true rfl, Nat.le_of_ble_eq_true rfl⟩ rfl [0, 1, 2, 3, 4, 5, 6, 7, 8, 9, 10] rfl rfl 0 6 ⟨rfl, rfl, rfl⟩ (As := [.int (zI ((i : Nat) : Int))]) (rest := [.int (zI ((i : Nat) : Int)), .ref m7]) (Nat.le_of_ble_eq_true rfl) rfl ⟨Nat.le_of_ble_eq_true rfl, Nat.le_of_ble_eq_true rfl⟩ (dk DX6_shuts_0k 25 rfl) ⟨rfl, rfl⟩ ?_
            refine zz_ifb_eq hC 52 (dk DX6_shuts_0k 26 rfl) (by decide) (fun c6 => ?_) (fun c6 => ?_)
            · refine zz_iconst hC (dk DX6_shuts_0k 29 rfl) ?_
              refine zz_goto hC 63 (dk DX6_shuts_0k 30 rfl) (by decide) ?_
              refine zz_iast hC (ws' := [(m0, .inr (6, [.ref m1, .ref m2, .ref m3, .int (zI ((sv : Nat) : Int)), .int (zI rf), .ref m4, .int (zI ((len : Nat) : Int)), .int (zI ((sp : Nat) : Int)), .int (zI nu), .int (zI rk), .int (zI rt), .int (zI ra), .ref m5, .ref m6, .int (zI bm), .ref m7, .ref m8, .ref m9, .ref m10, .long (zL ha)])), (m1, iA D 771 NW), (m2, iA D 3084 PA), (m3, iA D 771 AS), (m4, iA D 150 tb), (m5, iA D 250 st), (m6, iA D 250 bo), (m7, iA D 250 (zU sh1 i 0)), (m8, iA D 36 f1), (m9, iA D 36 f2), (m10, iA D 2778 pk)]) i 7 rfl rfl (by omega) rfl (dk DX6_shuts_0k 36 rfl) ?_
              refine zz_iinc hC ((i + 1 : Nat) : Int) (ls' := [(0, .ref m0), (1, .int (zI gl)), (2, .int (zI gw)), (3, .int (zI ((i + 1 : Nat) : Int)))]) 3 [1, 2, 3, 0] (dk DX6_shuts_0k 37 rfl) rfl (by omega) (by decide) rfl ?_
              refine zz_goto hC 2 (dk DX6_shuts_0k 38 rfl) (by decide) ?_
              refine zz_ls [0, 1, 2, 3] rfl ?_
              exact ih2 (i + 1) (zU sh1 i 0) (by omega) (fill_s (sh_a (by omega) (by assumption) (by assumption)) hsh) (by omega)
            · refine zz_iconst hC (dk DX6_shuts_0k 27 rfl) ?_
              refine zz_goto hC 63 (dk DX6_shuts_0k 28 rfl) (by decide) ?_
              refine zz_iast hC (ws' := [(m0, .inr (6, [.ref m1, .ref m2, .ref m3, .int (zI ((sv : Nat) : Int)), .int (zI rf), .ref m4, .int (zI ((len : Nat) : Int)), .int (zI ((sp : Nat) : Int)), .int (zI nu), .int (zI rk), .int (zI rt), .int (zI ra), .ref m5, .ref m6, .int (zI bm), .ref m7, .ref m8, .ref m9, .ref m10, .long (zL ha)])), (m1, iA D 771 NW), (m2, iA D 3084 PA), (m3, iA D 771 AS), (m4, iA D 150 tb), (m5, iA D 250 st), (m6, iA D 250 bo), (m7, iA D 250 (zU sh1 i 3)), (m8, iA D 36 f1), (m9, iA D 36 f2), (m10, iA D 2778 pk)]) i 7 rfl rfl (by omega) rfl (dk DX6_shuts_0k 36 rfl) ?_
              refine zz_iinc hC ((i + 1 : Nat) : Int) (ls' := [(0, .ref m0), (1, .int (zI gl)), (2, .int (zI gw)), (3, .int (zI ((i + 1 : Nat) : Int)))]) 3 [1, 2, 3, 0] (dk DX6_shuts_0k 37 rfl) rfl (by omega) (by decide) rfl ?_
              refine zz_goto hC 2 (dk DX6_shuts_0k 38 rfl) (by decide) ?_
              refine zz_ls [0, 1, 2, 3] rfl ?_
              exact ih2 (i + 1) (zU sh1 i 3) (by omega) (fill_s (sh_b (by omega) (by assumption) (by assumption)) hsh) (by omega)
          · refine zz_iconst hC (dk DX6_shuts_0k 21 rfl) ?_
            refine zz_goto hC 63 (dk DX6_shuts_0k 22 rfl) (by decide) ?_
            refine zz_iast hC (ws' := [(m0, .inr (6, [.ref m1, .ref m2, .ref m3, .int (zI ((sv : Nat) : Int)), .int (zI rf), .ref m4, .int (zI ((len : Nat) : Int)), .int (zI ((sp : Nat) : Int)), .int (zI nu), .int (zI rk), .int (zI rt), .int (zI ra), .ref m5, .ref m6, .int (zI bm), .ref m7, .ref m8, .ref m9, .ref m10, .long (zL ha)])), (m1, iA D 771 NW), (m2, iA D 3084 PA), (m3, iA D 771 AS), (m4, iA D 150 tb), (m5, iA D 250 st), (m6, iA D 250 bo), (m7, iA D 250 (zU sh1 i 2)), (m8, iA D 36 f1), (m9, iA D 36 f2), (m10, iA D 2778 pk)]) i 7 rfl rfl (by omega) rfl (dk DX6_shuts_0k 36 rfl) ?_
            refine zz_iinc hC ((i + 1 : Nat) : Int) (ls' := [(0, .ref m0), (1, .int (zI gl)), (2, .int (zI gw)), (3, .int (zI ((i + 1 : Nat) : Int)))]) 3 [1, 2, 3, 0] (dk DX6_shuts_0k 37 rfl) rfl (by omega) (by decide) rfl ?_
            refine zz_goto hC 2 (dk DX6_shuts_0k 38 rfl) (by decide) ?_
            refine zz_ls [0, 1, 2, 3] rfl ?_
            exact ih2 (i + 1) (zU sh1 i 2) (by omega) (fill_s (sh_g (by omega) (by assumption)) hsh) (by omega)
  refine zz_ls [0, 1, 2, 3] rfl ?_
  exact LP2 _ 0 sh (by omega) (fun j hj => absurd hj (by omega)) (Nat.lt_succ_self _)
