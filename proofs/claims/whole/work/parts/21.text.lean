set_option maxHeartbeats 4000000 in
set_option maxRecDepth 100000 in
theorem c_X1_next (l : Launch) (D : zG) (p0 : Nat) (p1 : Nat) (p2 : Nat) (p3 : Nat) (p4 : Nat) (tb : Nat → Int) (kk : Nat → Int) (tt : Nat → Int) (ta : Nat → Int) (len : Nat) (fo : Nat) (q : Nat) (er : Int) (hl : len ≤ 150) (hb : ∀ j, j < len → 0 ≤ tb j ∧ tb j ≤ 127) (hq : q ≤ 150) : CI (S := Unit) l yX1_next cX1_next 1 ((some .int)) ({ frames := 0, cells := 0, slots := 0, locals := 0 } : Room) D [.ref p0] [(p0, .inr (1, [.ref p1, .int (zI ((len : Nat) : Int)), .ref p2, .ref p3, .ref p4, .int (zI ((fo : Nat) : Int)), .int (zI ((q : Nat) : Int)), .int (zI er)])), (p1, iA D 150 tb), (p2, iA D 30 kk), (p3, iA D 30 tt), (p4, iA D 30 ta)] (fun _ => True) (fun _ => (zNx tb len q)) (fun _ => [(p0, .inr (1, [.ref p1, .int (zI ((len : Nat) : Int)), .ref p2, .ref p3, .ref p4, .int (zI ((fo : Nat) : Int)), .int (zI ((q : Nat) : Int)), .int (zI er)])), (p1, iA D 150 tb), (p2, iA D 30 kk), (p3, iA D 30 tt), (p4, iA D 30 ta)]) := by
  refine CI_of (by decide) (Nat.le_of_ble_eq_true rfl) ?_
  intro p e s m args below meth cd A Q hQ hC hr hnm
  have hC : ZC p s m args meth cd A D 1 cX1_next RX1 := hC
  show Z p l e ({ frames := 0, cells := 0, slots := 0, locals := 0 } : Room) s m args below meth cd A D Q 1 0 0 [(p0, .inr (1, [.ref p1, .int (zI ((len : Nat) : Int)), .ref p2, .ref p3, .ref p4, .int (zI ((fo : Nat) : Int)), .int (zI ((q : Nat) : Int)), .int (zI er)])), (p1, iA D 150 tb), (p2, iA D 30 kk), (p3, iA D 30 tt), (p4, iA D 30 ta)] [(0, .ref p0)] [] 0
  refine zz_aload_n hC 0 (dk DX1_next_0k 0 rfl) rfl rfl ?_
  refine zz_get hC F_X1_31 0 rfl rfl (dk DX1_next_0k 1 rfl) ?_
  refine zz_aload_n hC 0 (dk DX1_next_0k 2 rfl) rfl rfl ?_
  refine zz_get hC F_X1_15 0 rfl rfl (dk DX1_next_0k 3 rfl) ?_
  refine zz_icmp_ge hC 33 (dk DX1_next_0k 4 rfl) (by decide) ⟨⟨by omega, by omega⟩, ⟨by omega, by omega⟩⟩ (fun c1 => ?_) (fun c1 => ?_)
  · refine zz_iconst hC (dk DX1_next_0k 15 rfl) ?_
    exact zz_iret hC hQ hr () trivial (by unfold zNx; rw [if_neg (by omega)]) [0, 1, 2, 3, 4] rfl rfl ⟨Nat.le_refl _, Nat.le_refl _⟩ (dk DX1_next_0k 16 rfl)
  · refine zz_aload_n hC 0 (dk DX1_next_0k 5 rfl) rfl rfl ?_
    refine zz_get hC F_X1_31 0 rfl rfl (dk DX1_next_0k 6 rfl) ?_
    refine zz_sipush hC (dk DX1_next_0k 7 rfl) (by decide) ?_
    refine zz_icmp_ge hC 33 (dk DX1_next_0k 8 rfl) (by decide) ⟨⟨by omega, by omega⟩, (by decide)⟩ (fun c2 => ?_) (fun c2 => ?_)
    · exfalso; omega
    · refine zz_aload_n hC 0 (dk DX1_next_0k 9 rfl) rfl rfl ?_
      refine zz_get hC F_X1_9 0 rfl rfl (dk DX1_next_0k 10 rfl) ?_
      refine zz_aload_n hC 0 (dk DX1_next_0k 11 rfl) rfl rfl ?_
      refine zz_get hC F_X1_31 0 rfl rfl (dk DX1_next_0k 12 rfl) ?_
      refine zz_iald hC q 1 rfl rfl (by omega) (dk DX1_next_0k 13 rfl) ?_
      have hf3 := hb q (by omega)
      refine zz_goto hC 34 (dk DX1_next_0k 14 rfl) (by decide) ?_
      exact zz_iret hC hQ hr () trivial (by unfold zNx; rw [if_pos (by omega)]) [0, 1, 2, 3, 4] rfl rfl ⟨Nat.le_refl _, Nat.le_refl _⟩ (dk DX1_next_0k 16 rfl)
set_option maxHeartbeats 4000000 in
set_option maxRecDepth 100000 in
theorem c_X1_isDigitNext (l : Launch) (D : zG) (p0 : Nat) (p1 : Nat) (p2 : Nat) (p3 : Nat) (p4 : Nat) (tb : Nat → Int) (kk : Nat → Int) (tt : Nat → Int) (ta : Nat → Int) (len : Nat) (fo : Nat) (q : Nat) (er : Int) (hl : len ≤ 150) (hb : ∀ j, j < len → 0 ≤ tb j ∧ tb j ≤ 127) (hq : q ≤ 150) : CI (S := Unit) l yX1_isDigitNext cX1_isDigitNext 2 ((some .boolean)) ({ frames := 1, cells := 0, slots := 0, locals := 20 } : Room) D [.ref p0] [(p0, .inr (1, [.ref p1, .int (zI ((len : Nat) : Int)), .ref p2, .ref p3, .ref p4, .int (zI ((fo : Nat) : Int)), .int (zI ((q : Nat) : Int)), .int (zI er)])), (p1, iA D 150 tb), (p2, iA D 30 kk), (p3, iA D 30 tt), (p4, iA D 30 ta)] (fun _ => True) (fun _ => zB (zDg tb len q = true)) (fun _ => [(p0, .inr (1, [.ref p1, .int (zI ((len : Nat) : Int)), .ref p2, .ref p3, .ref p4, .int (zI ((fo : Nat) : Int)), .int (zI ((q : Nat) : Int)), .int (zI er)])), (p1, iA D 150 tb), (p2, iA D 30 kk), (p3, iA D 30 tt), (p4, iA D 30 ta)]) := by
  refine CI_of (by decide) (Nat.le_of_ble_eq_true rfl) ?_
  intro p e s m args below meth cd A Q hQ hC hr hnm
  have hC : ZC p s m args meth cd A D 2 cX1_isDigitNext RX1 := hC
  have hx := zNx_in (q := q) hb
  show Z p l e ({ frames := 1, cells := 0, slots := 0, locals := 20 } : Room) s m args below meth cd A D Q 2 0 0 [(p0, .inr (1, [.ref p1, .int (zI ((len : Nat) : Int)), .ref p2, .ref p3, .ref p4, .int (zI ((fo : Nat) : Int)), .int (zI ((q : Nat) : Int)), .int (zI er)])), (p1, iA D 150 tb), (p2, iA D 30 kk), (p3, iA D 30 tt), (p4, iA D 30 ta)] [(0, .ref p0)] [] 0
  refine zz_aload_n hC 0 (dk DX1_isDigitNext_0k 0 rfl) rfl rfl ?_
  refine zz_pureVi hC (c_X1_next l D p0 p1 p2 p3 p4 tb kk tt ta len fo q er hl hb (by omega)) G_X1_56 H_X1_next ⟨Nat.le_of_ble_eq_true rfl, Nat.le_of_ble_eq_true rfl⟩ rfl [0, 1, 2, 3, 4] rfl rfl 0 1 ⟨rfl, rfl, rfl⟩ (As := []) (rest := []) (Nat.le_of_ble_eq_true rfl) rfl ⟨Nat.le_of_ble_eq_true rfl, Nat.le_of_ble_eq_true rfl⟩ (dk DX1_isDigitNext_0k 1 rfl) ⟨rfl, rfl⟩ ?_
  refine zz_istore_n hC (ls' := [(0, .ref p0), (1, .int (zI (zNx tb len q)))]) [1, 0] (dk DX1_isDigitNext_0k 2 rfl) rfl (by decide) rfl ?_
  refine zz_iload_n hC 1 (dk DX1_isDigitNext_0k 3 rfl) rfl rfl ?_
  refine zz_bipush hC (dk DX1_isDigitNext_0k 4 rfl) (by decide) ?_
  refine zz_icmp_lt hC 21 (dk DX1_isDigitNext_0k 5 rfl) (by decide) ⟨⟨by omega, by omega⟩, (by decide)⟩ (fun c1 => ?_) (fun c1 => ?_)
  · refine zz_iconst hC (dk DX1_isDigitNext_0k 11 rfl) ?_
    exact zz_zret hC hQ hr () trivial (zB_f (by rw [zDg_iff]; omega)).symm (by decide) [0, 1, 2, 3, 4] rfl rfl ⟨Nat.le_refl _, Nat.le_refl _⟩ (dk DX1_isDigitNext_0k 12 rfl)
  · refine zz_iload_n hC 1 (dk DX1_isDigitNext_0k 6 rfl) rfl rfl ?_
    refine zz_bipush hC (dk DX1_isDigitNext_0k 7 rfl) (by decide) ?_
    refine zz_icmp_gt hC 21 (dk DX1_isDigitNext_0k 8 rfl) (by decide) ⟨⟨by omega, by omega⟩, (by decide)⟩ (fun c2 => ?_) (fun c2 => ?_)
    · refine zz_iconst hC (dk DX1_isDigitNext_0k 11 rfl) ?_
      exact zz_zret hC hQ hr () trivial (zB_f (by rw [zDg_iff]; omega)).symm (by decide) [0, 1, 2, 3, 4] rfl rfl ⟨Nat.le_refl _, Nat.le_refl _⟩ (dk DX1_isDigitNext_0k 12 rfl)
    · refine zz_iconst hC (dk DX1_isDigitNext_0k 9 rfl) ?_
      refine zz_goto hC 22 (dk DX1_isDigitNext_0k 10 rfl) (by decide) ?_
      exact zz_zret hC hQ hr () trivial (zB_t (zDg_iff.mpr ⟨by omega, by omega⟩)).symm (by decide) [0, 1, 2, 3, 4] rfl rfl ⟨Nat.le_refl _, Nat.le_refl _⟩ (dk DX1_isDigitNext_0k 12 rfl)
set_option maxHeartbeats 4000000 in
set_option maxRecDepth 100000 in
theorem c_X1_step_n (l : Launch) (D : zG) (p0 : Nat) (p1 : Nat) (p2 : Nat) (p3 : Nat) (p4 : Nat) (tb : Nat → Int) (kk : Nat → Int) (tt : Nat → Int) (ta : Nat → Int) (len : Nat) (fo : Nat) (q : Nat) (er : Int) (v : Int) (her : -1 ≤ er ∧ er ≤ 200) (hne : er ≠ -1) : CV (S := Unit) l yX1_step cX1_step 2 (none) ({ frames := 0, cells := 0, slots := 0, locals := 0 } : Room) D [.ref p0, .int (zI v)] [(p0, .inr (1, [.ref p1, .int (zI ((len : Nat) : Int)), .ref p2, .ref p3, .ref p4, .int (zI ((fo : Nat) : Int)), .int (zI ((q : Nat) : Int)), .int (zI er)])), (p1, iA D 150 tb), (p2, iA D 30 kk), (p3, iA D 30 tt), (p4, iA D 30 ta)] (fun u => True)  (fun u => [(p0, .inr (1, [.ref p1, .int (zI ((len : Nat) : Int)), .ref p2, .ref p3, .ref p4, .int (zI ((fo : Nat) : Int)), .int (zI ((q : Nat) : Int)), .int (zI er)])), (p1, iA D 150 tb), (p2, iA D 30 kk), (p3, iA D 30 tt), (p4, iA D 30 ta)]) := by
  refine CV_of (by decide) (Nat.le_of_ble_eq_true rfl) ?_
  intro p e s m args below meth cd A Q hQ hC hr hnm
  have hC : ZC p s m args meth cd A D 2 cX1_step RX1 := hC
  show Z p l e ({ frames := 0, cells := 0, slots := 0, locals := 0 } : Room) s m args below meth cd A D Q 2 0 0 [(p0, .inr (1, [.ref p1, .int (zI ((len : Nat) : Int)), .ref p2, .ref p3, .ref p4, .int (zI ((fo : Nat) : Int)), .int (zI ((q : Nat) : Int)), .int (zI er)])), (p1, iA D 150 tb), (p2, iA D 30 kk), (p3, iA D 30 tt), (p4, iA D 30 ta)] [(0, .ref p0), (1, .int (zI v))] [] 0
  refine zz_aload_n hC 0 (dk DX1_step_0k 0 rfl) rfl rfl ?_
  refine zz_get hC F_X1_34 0 rfl rfl (dk DX1_step_0k 1 rfl) ?_
  refine zz_iconst hC (dk DX1_step_0k 2 rfl) ?_
  refine zz_icmp_ne hC 33 (dk DX1_step_0k 3 rfl) (by decide) ⟨⟨by omega, by omega⟩, (by decide)⟩ (fun c1 => ?_) (fun c1 => ?_)
  · exact zz_ret hC hQ hr () trivial [0, 1, 2, 3, 4] rfl rfl ⟨Nat.le_refl _, Nat.le_refl _⟩ (dk DX1_step_0k 17 rfl)
  · exfalso; omega
set_option maxHeartbeats 4000000 in
set_option maxRecDepth 100000 in
theorem c_X1_step_y (l : Launch) (D : zG) (p0 : Nat) (p1 : Nat) (p2 : Nat) (p3 : Nat) (p4 : Nat) (tb : Nat → Int) (kk : Nat → Int) (tt : Nat → Int) (ta : Nat → Int) (len : Nat) (fo : Nat) (q : Nat) (hq : q ≤ 150) : CV (S := Unit) l yX1_step cX1_step 2 (none) ({ frames := 0, cells := 0, slots := 0, locals := 0 } : Room) D [.ref p0, .int (zI 1)] [(p0, .inr (1, [.ref p1, .int (zI ((len : Nat) : Int)), .ref p2, .ref p3, .ref p4, .int (zI ((fo : Nat) : Int)), .int (zI ((q : Nat) : Int)), .int (zI (-1))])), (p1, iA D 150 tb), (p2, iA D 30 kk), (p3, iA D 30 tt), (p4, iA D 30 ta)] (fun u => True)  (fun u => [(p0, .inr (1, [.ref p1, .int (zI ((len : Nat) : Int)), .ref p2, .ref p3, .ref p4, .int (zI ((fo : Nat) : Int)), .int (zI ((q + 1 : Nat) : Int)), .int (zI (-1))])), (p1, iA D 150 tb), (p2, iA D 30 kk), (p3, iA D 30 tt), (p4, iA D 30 ta)]) := by
  refine CV_of (by decide) (Nat.le_of_ble_eq_true rfl) ?_
  intro p e s m args below meth cd A Q hQ hC hr hnm
  have hC : ZC p s m args meth cd A D 2 cX1_step RX1 := hC
  show Z p l e ({ frames := 0, cells := 0, slots := 0, locals := 0 } : Room) s m args below meth cd A D Q 2 0 0 [(p0, .inr (1, [.ref p1, .int (zI ((len : Nat) : Int)), .ref p2, .ref p3, .ref p4, .int (zI ((fo : Nat) : Int)), .int (zI ((q : Nat) : Int)), .int (zI (-1))])), (p1, iA D 150 tb), (p2, iA D 30 kk), (p3, iA D 30 tt), (p4, iA D 30 ta)] [(0, .ref p0), (1, .int (zI 1))] [] 0
  refine zz_aload_n hC 0 (dk DX1_step_0k 0 rfl) rfl rfl ?_
  refine zz_get hC F_X1_34 0 rfl rfl (dk DX1_step_0k 1 rfl) ?_
  refine zz_iconst hC (dk DX1_step_0k 2 rfl) ?_
  refine zz_icmp_ne hC 33 (dk DX1_step_0k 3 rfl) (by decide) ⟨(by decide), (by decide)⟩ (fun c1 => ?_) (fun c1 => ?_)
  · exfalso; omega
  · refine zz_iload_n hC 1 (dk DX1_step_0k 4 rfl) rfl rfl ?_
    refine zz_if_eq hC 25 (dk DX1_step_0k 5 rfl) (by decide) (by decide) (fun c2 => ?_) (fun c2 => ?_)
    · exfalso; omega
    · refine zz_aload_n hC 0 (dk DX1_step_0k 6 rfl) rfl rfl ?_
      refine zz_dup hC (dk DX1_step_0k 7 rfl) rfl ?_
      refine zz_get hC F_X1_31 0 rfl rfl (dk DX1_step_0k 8 rfl) ?_
      refine zz_iconst hC (dk DX1_step_0k 9 rfl) ?_
      refine zz_iadd hC (dk DX1_step_0k 10 rfl) ?_
      refine zz_put hC F_X1_31 fc_X1 rfl (tyX1_ok 6 (by decide)) 0 (ws' := [(p0, .inr (1, [.ref p1, .int (zI ((len : Nat) : Int)), .ref p2, .ref p3, .ref p4, .int (zI ((fo : Nat) : Int)), .int (zI ((q + 1 : Nat) : Int)), .int (zI (-1))])), (p1, iA D 150 tb), (p2, iA D 30 kk), (p3, iA D 30 tt), (p4, iA D 30 ta)]) rfl rfl rfl (Nat.le_of_ble_eq_true rfl) rfl (dk DX1_step_0k 11 rfl) ?_
      refine zz_goto hC 33 (dk DX1_step_0k 12 rfl) (by decide) ?_
      exact zz_ret hC hQ hr () trivial [0, 1, 2, 3, 4] rfl rfl ⟨Nat.le_refl _, Nat.le_refl _⟩ (dk DX1_step_0k 17 rfl)
set_option maxHeartbeats 4000000 in
set_option maxRecDepth 100000 in
theorem c_X1_step_e (l : Launch) (D : zG) (p0 : Nat) (p1 : Nat) (p2 : Nat) (p3 : Nat) (p4 : Nat) (tb : Nat → Int) (kk : Nat → Int) (tt : Nat → Int) (ta : Nat → Int) (len : Nat) (fo : Nat) (q : Nat) (hq : q ≤ 150) : CV (S := Unit) l yX1_step cX1_step 2 (none) ({ frames := 0, cells := 0, slots := 0, locals := 0 } : Room) D [.ref p0, .int (zI 0)] [(p0, .inr (1, [.ref p1, .int (zI ((len : Nat) : Int)), .ref p2, .ref p3, .ref p4, .int (zI ((fo : Nat) : Int)), .int (zI ((q : Nat) : Int)), .int (zI (-1))])), (p1, iA D 150 tb), (p2, iA D 30 kk), (p3, iA D 30 tt), (p4, iA D 30 ta)] (fun u => True)  (fun u => [(p0, .inr (1, [.ref p1, .int (zI ((len : Nat) : Int)), .ref p2, .ref p3, .ref p4, .int (zI ((fo : Nat) : Int)), .int (zI ((q : Nat) : Int)), .int (zI ((q : Nat) : Int))])), (p1, iA D 150 tb), (p2, iA D 30 kk), (p3, iA D 30 tt), (p4, iA D 30 ta)]) := by
  refine CV_of (by decide) (Nat.le_of_ble_eq_true rfl) ?_
  intro p e s m args below meth cd A Q hQ hC hr hnm
  have hC : ZC p s m args meth cd A D 2 cX1_step RX1 := hC
  show Z p l e ({ frames := 0, cells := 0, slots := 0, locals := 0 } : Room) s m args below meth cd A D Q 2 0 0 [(p0, .inr (1, [.ref p1, .int (zI ((len : Nat) : Int)), .ref p2, .ref p3, .ref p4, .int (zI ((fo : Nat) : Int)), .int (zI ((q : Nat) : Int)), .int (zI (-1))])), (p1, iA D 150 tb), (p2, iA D 30 kk), (p3, iA D 30 tt), (p4, iA D 30 ta)] [(0, .ref p0), (1, .int (zI 0))] [] 0
  refine zz_aload_n hC 0 (dk DX1_step_0k 0 rfl) rfl rfl ?_
  refine zz_get hC F_X1_34 0 rfl rfl (dk DX1_step_0k 1 rfl) ?_
  refine zz_iconst hC (dk DX1_step_0k 2 rfl) ?_
  refine zz_icmp_ne hC 33 (dk DX1_step_0k 3 rfl) (by decide) ⟨(by decide), (by decide)⟩ (fun c1 => ?_) (fun c1 => ?_)
  · exfalso; omega
  · refine zz_iload_n hC 1 (dk DX1_step_0k 4 rfl) rfl rfl ?_
    refine zz_if_eq hC 25 (dk DX1_step_0k 5 rfl) (by decide) (by decide) (fun c2 => ?_) (fun c2 => ?_)
    · refine zz_aload_n hC 0 (dk DX1_step_0k 13 rfl) rfl rfl ?_
      refine zz_aload_n hC 0 (dk DX1_step_0k 14 rfl) rfl rfl ?_
      refine zz_get hC F_X1_31 0 rfl rfl (dk DX1_step_0k 15 rfl) ?_
      refine zz_put hC F_X1_34 fc_X1 rfl (tyX1_ok 7 (by decide)) 0 (ws' := [(p0, .inr (1, [.ref p1, .int (zI ((len : Nat) : Int)), .ref p2, .ref p3, .ref p4, .int (zI ((fo : Nat) : Int)), .int (zI ((q : Nat) : Int)), .int (zI ((q : Nat) : Int))])), (p1, iA D 150 tb), (p2, iA D 30 kk), (p3, iA D 30 tt), (p4, iA D 30 ta)]) rfl rfl rfl (Nat.le_of_ble_eq_true rfl) rfl (dk DX1_step_0k 16 rfl) ?_
      exact zz_ret hC hQ hr () trivial [0, 1, 2, 3, 4] rfl rfl ⟨Nat.le_refl _, Nat.le_refl _⟩ (dk DX1_step_0k 17 rfl)
    · exfalso; omega
set_option maxHeartbeats 4000000 in
set_option maxRecDepth 100000 in
theorem c_X1_readKind (l : Launch) (D : zG) (p0 : Nat) (p1 : Nat) (p2 : Nat) (p3 : Nat) (p4 : Nat) (tb : Nat → Int) (kk : Nat → Int) (tt : Nat → Int) (ta : Nat → Int) (len : Nat) (fo : Nat) (q : Nat) (hl : len ≤ 150) (hb : ∀ j, j < len → 0 ≤ tb j ∧ tb j ≤ 127) (hq : q ≤ 150) : CI (S := Nat × Int) l yX1_readKind cX1_readKind 3 ((some .int)) ({ frames := 1, cells := 0, slots := 0, locals := 21 } : Room) D [.ref p0] [(p0, .inr (1, [.ref p1, .int (zI ((len : Nat) : Int)), .ref p2, .ref p3, .ref p4, .int (zI ((fo : Nat) : Int)), .int (zI ((q : Nat) : Int)), .int (zI (-1))])), (p1, iA D 150 tb), (p2, iA D 30 kk), (p3, iA D 30 tt), (p4, iA D 30 ta)] (fun u => zRk tb len q u) (fun u => (zKd (zNx tb len q))) (fun u => [(p0, .inr (1, [.ref p1, .int (zI ((len : Nat) : Int)), .ref p2, .ref p3, .ref p4, .int (zI ((fo : Nat) : Int)), .int (zI ((u.1 : Nat) : Int)), .int (zI u.2)])), (p1, iA D 150 tb), (p2, iA D 30 kk), (p3, iA D 30 tt), (p4, iA D 30 ta)]) := by
  refine CI_of (by decide) (Nat.le_of_ble_eq_true rfl) ?_
  intro p e s m args below meth cd A Q hQ hC hr hnm
  have hC : ZC p s m args meth cd A D 3 cX1_readKind RX1 := hC
  have hx := zNx_in (q := q) hb
  show Z p l e ({ frames := 1, cells := 0, slots := 0, locals := 21 } : Room) s m args below meth cd A D Q 3 0 0 [(p0, .inr (1, [.ref p1, .int (zI ((len : Nat) : Int)), .ref p2, .ref p3, .ref p4, .int (zI ((fo : Nat) : Int)), .int (zI ((q : Nat) : Int)), .int (zI (-1))])), (p1, iA D 150 tb), (p2, iA D 30 kk), (p3, iA D 30 tt), (p4, iA D 30 ta)] [(0, .ref p0)] [] 0
  refine zz_aload_n hC 0 (dk DX1_readKind_0k 0 rfl) rfl rfl ?_
  refine zz_pureVi hC (c_X1_next l D p0 p1 p2 p3 p4 tb kk tt ta len fo q (-1) hl hb (by omega)) G_X1_56 H_X1_next ⟨Nat.le_of_ble_eq_true rfl, Nat.le_of_ble_eq_true rfl⟩ rfl [0, 1, 2, 3, 4] rfl rfl 0 1 ⟨rfl, rfl, rfl⟩ (As := []) (rest := []) (Nat.le_of_ble_eq_true rfl) rfl ⟨Nat.le_of_ble_eq_true rfl, Nat.le_of_ble_eq_true rfl⟩ (dk DX1_readKind_0k 1 rfl) ⟨rfl, rfl⟩ ?_
  refine zz_istore_n hC (ls' := [(0, .ref p0), (1, .int (zI (zNx tb len q)))]) [1, 0] (dk DX1_readKind_0k 2 rfl) rfl (by decide) rfl ?_
  refine zz_iload_n hC 1 (dk DX1_readKind_0k 3 rfl) rfl rfl ?_
  refine zz_bipush hC (dk DX1_readKind_0k 4 rfl) (by decide) ?_
  refine zz_icmp_ne hC 15 (dk DX1_readKind_0k 5 rfl) (by decide) ⟨⟨by omega, by omega⟩, (by decide)⟩ (fun c1 => ?_) (fun c1 => ?_)
  · refine zz_iload_n hC 1 (dk DX1_readKind_0k 8 rfl) rfl rfl ?_
    refine zz_bipush hC (dk DX1_readKind_0k 9 rfl) (by decide) ?_
    refine zz_icmp_ne hC 25 (dk DX1_readKind_0k 10 rfl) (by decide) ⟨⟨by omega, by omega⟩, (by decide)⟩ (fun c2 => ?_) (fun c2 => ?_)
    · refine zz_iconst hC (dk DX1_readKind_0k 13 rfl) ?_
      refine zz_istore_n hC (ls' := [(0, .ref p0), (1, .int (zI (zNx tb len q))), (2, .int (zI 2))]) [1, 2, 0] (dk DX1_readKind_0k 14 rfl) rfl (by decide) rfl ?_
      refine zz_aload_n hC 0 (dk DX1_readKind_0k 15 rfl) rfl rfl ?_
      refine zz_iload_n hC 1 (dk DX1_readKind_0k 16 rfl) rfl rfl ?_
      refine zz_bipush hC (dk DX1_readKind_0k 17 rfl) (by decide) ?_
      refine zz_icmp_eq hC 46 (dk DX1_readKind_0k 18 rfl) (by decide) ⟨⟨by omega, by omega⟩, (by decide)⟩ (fun c3 => ?_) (fun c3 => ?_)
      · refine zz_iconst hC (dk DX1_readKind_0k 25 rfl) ?_
        refine zz_goto hC 51 (dk DX1_readKind_0k 26 rfl) (by decide) ?_
        refine zz_callVv hC (wr := []) (c_X1_step_y l D p0 p1 p2 p3 p4 tb kk tt ta len fo q (by omega)) G_X1_59 H_X1_step ⟨Nat.le_of_ble_eq_true rfl, Nat.le_of_ble_eq_true rfl⟩ rfl [0, 1, 2, 3, 4] [] rfl rfl ⟨rfl, rfl, by decide⟩ 0 1 ⟨rfl, rfl, rfl⟩ (As := [.int (zI 1)]) (rest := []) (Nat.le_of_ble_eq_true rfl) rfl ⟨Nat.le_of_ble_eq_true rfl, Nat.le_of_ble_eq_true rfl⟩ (dk DX1_readKind_0k 28 rfl) ⟨rfl, rfl⟩ (wb := fun u4 => [(p0, .inr (1, [.ref p1, .int (zI ((len : Nat) : Int)), .ref p2, .ref p3, .ref p4, .int (zI ((fo : Nat) : Int)), .int (zI ((q + 1 : Nat) : Int)), .int (zI (-1))])), (p1, iA D 150 tb), (p2, iA D 30 kk), (p3, iA D 30 tt), (p4, iA D 30 ta)]) [0, 1, 2, 3, 4] rfl (fun _ => rfl) (fun u4 hu4 => ?_)
        refine zz_iload_n hC 2 (dk DX1_readKind_0k 29 rfl) rfl rfl ?_
        exact zz_iret hC hQ hr (q + 1, (-1)) ⟨fun h => absurd (by unfold zKo; omega) h, fun _ => ⟨rfl, rfl⟩⟩ (by unfold zKd; rw [if_neg (by omega), if_neg (by omega)]) [0, 1, 2, 3, 4] rfl rfl ⟨Nat.le_refl _, Nat.le_refl _⟩ (dk DX1_readKind_0k 30 rfl)
      · refine zz_iload_n hC 1 (dk DX1_readKind_0k 19 rfl) rfl rfl ?_
        refine zz_bipush hC (dk DX1_readKind_0k 20 rfl) (by decide) ?_
        refine zz_icmp_eq hC 46 (dk DX1_readKind_0k 21 rfl) (by decide) ⟨⟨by omega, by omega⟩, (by decide)⟩ (fun c5 => ?_) (fun c5 => ?_)
        · refine zz_iconst hC (dk DX1_readKind_0k 25 rfl) ?_
          refine zz_goto hC 51 (dk DX1_readKind_0k 26 rfl) (by decide) ?_
          refine zz_callVv hC (wr := []) (c_X1_step_y l D p0 p1 p2 p3 p4 tb kk tt ta len fo q (by omega)) G_X1_59 H_X1_step ⟨Nat.le_of_ble_eq_true rfl, Nat.le_of_ble_eq_true rfl⟩ rfl [0, 1, 2, 3, 4] [] rfl rfl ⟨rfl, rfl, by decide⟩ 0 1 ⟨rfl, rfl, rfl⟩ (As := [.int (zI 1)]) (rest := []) (Nat.le_of_ble_eq_true rfl) rfl ⟨Nat.le_of_ble_eq_true rfl, Nat.le_of_ble_eq_true rfl⟩ (dk DX1_readKind_0k 28 rfl) ⟨rfl, rfl⟩ (wb := fun u6 => [(p0, .inr (1, [.ref p1, .int (zI ((len : Nat) : Int)), .ref p2, .ref p3, .ref p4, .int (zI ((fo : Nat) : Int)), .int (zI ((q + 1 : Nat) : Int)), .int (zI (-1))])), (p1, iA D 150 tb), (p2, iA D 30 kk), (p3, iA D 30 tt), (p4, iA D 30 ta)]) [0, 1, 2, 3, 4] rfl (fun _ => rfl) (fun u6 hu6 => ?_)
          refine zz_iload_n hC 2 (dk DX1_readKind_0k 29 rfl) rfl rfl ?_
          exact zz_iret hC hQ hr (q + 1, (-1)) ⟨fun h => absurd (by unfold zKo; omega) h, fun _ => ⟨rfl, rfl⟩⟩ (by unfold zKd; rw [if_neg (by omega), if_neg (by omega)]) [0, 1, 2, 3, 4] rfl rfl ⟨Nat.le_refl _, Nat.le_refl _⟩ (dk DX1_readKind_0k 30 rfl)
        · refine zz_iload_n hC 1 (dk DX1_readKind_0k 22 rfl) rfl rfl ?_
          refine zz_bipush hC (dk DX1_readKind_0k 23 rfl) (by decide) ?_
          refine zz_icmp_ne hC 50 (dk DX1_readKind_0k 24 rfl) (by decide) ⟨⟨by omega, by omega⟩, (by decide)⟩ (fun c7 => ?_) (fun c7 => ?_)
          · refine zz_iconst hC (dk DX1_readKind_0k 27 rfl) ?_
            refine zz_callVv hC (wr := []) (c_X1_step_e l D p0 p1 p2 p3 p4 tb kk tt ta len fo q (by omega)) G_X1_59 H_X1_step ⟨Nat.le_of_ble_eq_true rfl, Nat.le_of_ble_eq_true rfl⟩ rfl [0, 1, 2, 3, 4] [] rfl rfl ⟨rfl, rfl, by decide⟩ 0 1 ⟨rfl, rfl, rfl⟩ (As := [.int (zI 0)]) (rest := []) (Nat.le_of_ble_eq_true rfl) rfl ⟨Nat.le_of_ble_eq_true rfl, Nat.le_of_ble_eq_true rfl⟩ (dk DX1_readKind_0k 28 rfl) ⟨rfl, rfl⟩ (wb := fun u8 => [(p0, .inr (1, [.ref p1, .int (zI ((len : Nat) : Int)), .ref p2, .ref p3, .ref p4, .int (zI ((fo : Nat) : Int)), .int (zI ((q : Nat) : Int)), .int (zI ((q : Nat) : Int))])), (p1, iA D 150 tb), (p2, iA D 30 kk), (p3, iA D 30 tt), (p4, iA D 30 ta)]) [0, 1, 2, 3, 4] rfl (fun _ => rfl) (fun u8 hu8 => ?_)
            refine zz_iload_n hC 2 (dk DX1_readKind_0k 29 rfl) rfl rfl ?_
            exact zz_iret hC hQ hr (q, ((q : Nat) : Int)) ⟨fun _ => ⟨rfl, rfl⟩, fun h => absurd h (by unfold zKo; omega)⟩ (by unfold zKd; rw [if_neg (by omega), if_neg (by omega)]) [0, 1, 2, 3, 4] rfl rfl ⟨Nat.le_refl _, Nat.le_refl _⟩ (dk DX1_readKind_0k 30 rfl)
          · refine zz_iconst hC (dk DX1_readKind_0k 25 rfl) ?_
            refine zz_goto hC 51 (dk DX1_readKind_0k 26 rfl) (by decide) ?_
            refine zz_callVv hC (wr := []) (c_X1_step_y l D p0 p1 p2 p3 p4 tb kk tt ta len fo q (by omega)) G_X1_59 H_X1_step ⟨Nat.le_of_ble_eq_true rfl, Nat.le_of_ble_eq_true rfl⟩ rfl [0, 1, 2, 3, 4] [] rfl rfl ⟨rfl, rfl, by decide⟩ 0 1 ⟨rfl, rfl, rfl⟩ (As := [.int (zI 1)]) (rest := []) (Nat.le_of_ble_eq_true rfl) rfl ⟨Nat.le_of_ble_eq_true rfl, Nat.le_of_ble_eq_true rfl⟩ (dk DX1_readKind_0k 28 rfl) ⟨rfl, rfl⟩ (wb := fun u9 => [(p0, .inr (1, [.ref p1, .int (zI ((len : Nat) : Int)), .ref p2, .ref p3, .ref p4, .int (zI ((fo : Nat) : Int)), .int (zI ((q + 1 : Nat) : Int)), .int (zI (-1))])), (p1, iA D 150 tb), (p2, iA D 30 kk), (p3, iA D 30 tt), (p4, iA D 30 ta)]) [0, 1, 2, 3, 4] rfl (fun _ => rfl) (fun u9 hu9 => ?_)
            refine zz_iload_n hC 2 (dk DX1_readKind_0k 29 rfl) rfl rfl ?_
            exact zz_iret hC hQ hr (q + 1, (-1)) ⟨fun h => absurd (by unfold zKo; omega) h, fun _ => ⟨rfl, rfl⟩⟩ (by unfold zKd; rw [if_neg (by omega), if_neg (by omega)]) [0, 1, 2, 3, 4] rfl rfl ⟨Nat.le_refl _, Nat.le_refl _⟩ (dk DX1_readKind_0k 30 rfl)
    · refine zz_iconst hC (dk DX1_readKind_0k 11 rfl) ?_
      refine zz_goto hC 26 (dk DX1_readKind_0k 12 rfl) (by decide) ?_
      refine zz_istore_n hC (ls' := [(0, .ref p0), (1, .int (zI (zNx tb len q))), (2, .int (zI 1))]) [1, 2, 0] (dk DX1_readKind_0k 14 rfl) rfl (by decide) rfl ?_
      refine zz_aload_n hC 0 (dk DX1_readKind_0k 15 rfl) rfl rfl ?_
      refine zz_iload_n hC 1 (dk DX1_readKind_0k 16 rfl) rfl rfl ?_
      refine zz_bipush hC (dk DX1_readKind_0k 17 rfl) (by decide) ?_
      refine zz_icmp_eq hC 46 (dk DX1_readKind_0k 18 rfl) (by decide) ⟨⟨by omega, by omega⟩, (by decide)⟩ (fun c10 => ?_) (fun c10 => ?_)
      · refine zz_iconst hC (dk DX1_readKind_0k 25 rfl) ?_
        refine zz_goto hC 51 (dk DX1_readKind_0k 26 rfl) (by decide) ?_
        refine zz_callVv hC (wr := []) (c_X1_step_y l D p0 p1 p2 p3 p4 tb kk tt ta len fo q (by omega)) G_X1_59 H_X1_step ⟨Nat.le_of_ble_eq_true rfl, Nat.le_of_ble_eq_true rfl⟩ rfl [0, 1, 2, 3, 4] [] rfl rfl ⟨rfl, rfl, by decide⟩ 0 1 ⟨rfl, rfl, rfl⟩ (As := [.int (zI 1)]) (rest := []) (Nat.le_of_ble_eq_true rfl) rfl ⟨Nat.le_of_ble_eq_true rfl, Nat.le_of_ble_eq_true rfl⟩ (dk DX1_readKind_0k 28 rfl) ⟨rfl, rfl⟩ (wb := fun u11 => [(p0, .inr (1, [.ref p1, .int (zI ((len : Nat) : Int)), .ref p2, .ref p3, .ref p4, .int (zI ((fo : Nat) : Int)), .int (zI ((q + 1 : Nat) : Int)), .int (zI (-1))])), (p1, iA D 150 tb), (p2, iA D 30 kk), (p3, iA D 30 tt), (p4, iA D 30 ta)]) [0, 1, 2, 3, 4] rfl (fun _ => rfl) (fun u11 hu11 => ?_)
        refine zz_iload_n hC 2 (dk DX1_readKind_0k 29 rfl) rfl rfl ?_
        exact zz_iret hC hQ hr (q + 1, (-1)) ⟨fun h => absurd (by unfold zKo; omega) h, fun _ => ⟨rfl, rfl⟩⟩ (by unfold zKd; rw [if_neg (by omega), if_pos (by omega)]) [0, 1, 2, 3, 4] rfl rfl ⟨Nat.le_refl _, Nat.le_refl _⟩ (dk DX1_readKind_0k 30 rfl)
      · refine zz_iload_n hC 1 (dk DX1_readKind_0k 19 rfl) rfl rfl ?_
        refine zz_bipush hC (dk DX1_readKind_0k 20 rfl) (by decide) ?_
        refine zz_icmp_eq hC 46 (dk DX1_readKind_0k 21 rfl) (by decide) ⟨⟨by omega, by omega⟩, (by decide)⟩ (fun c12 => ?_) (fun c12 => ?_)
        · refine zz_iconst hC (dk DX1_readKind_0k 25 rfl) ?_
          refine zz_goto hC 51 (dk DX1_readKind_0k 26 rfl) (by decide) ?_
          refine zz_callVv hC (wr := []) (c_X1_step_y l D p0 p1 p2 p3 p4 tb kk tt ta len fo q (by omega)) G_X1_59 H_X1_step ⟨Nat.le_of_ble_eq_true rfl, Nat.le_of_ble_eq_true rfl⟩ rfl [0, 1, 2, 3, 4] [] rfl rfl ⟨rfl, rfl, by decide⟩ 0 1 ⟨rfl, rfl, rfl⟩ (As := [.int (zI 1)]) (rest := []) (Nat.le_of_ble_eq_true rfl) rfl ⟨Nat.le_of_ble_eq_true rfl, Nat.le_of_ble_eq_true rfl⟩ (dk DX1_readKind_0k 28 rfl) ⟨rfl, rfl⟩ (wb := fun u13 => [(p0, .inr (1, [.ref p1, .int (zI ((len : Nat) : Int)), .ref p2, .ref p3, .ref p4, .int (zI ((fo : Nat) : Int)), .int (zI ((q + 1 : Nat) : Int)), .int (zI (-1))])), (p1, iA D 150 tb), (p2, iA D 30 kk), (p3, iA D 30 tt), (p4, iA D 30 ta)]) [0, 1, 2, 3, 4] rfl (fun _ => rfl) (fun u13 hu13 => ?_)
          refine zz_iload_n hC 2 (dk DX1_readKind_0k 29 rfl) rfl rfl ?_
          exact zz_iret hC hQ hr (q + 1, (-1)) ⟨fun h => absurd (by unfold zKo; omega) h, fun _ => ⟨rfl, rfl⟩⟩ (by unfold zKd; rw [if_neg (by omega), if_pos (by omega)]) [0, 1, 2, 3, 4] rfl rfl ⟨Nat.le_refl _, Nat.le_refl _⟩ (dk DX1_readKind_0k 30 rfl)
        · refine zz_iload_n hC 1 (dk DX1_readKind_0k 22 rfl) rfl rfl ?_
          refine zz_bipush hC (dk DX1_readKind_0k 23 rfl) (by decide) ?_
          refine zz_icmp_ne hC 50 (dk DX1_readKind_0k 24 rfl) (by decide) ⟨⟨by omega, by omega⟩, (by decide)⟩ (fun c14 => ?_) (fun c14 => ?_)
          · refine zz_iconst hC (dk DX1_readKind_0k 27 rfl) ?_
            refine zz_callVv hC (wr := []) (c_X1_step_e l D p0 p1 p2 p3 p4 tb kk tt ta len fo q (by omega)) G_X1_59 H_X1_step ⟨Nat.le_of_ble_eq_true rfl, Nat.le_of_ble_eq_true rfl⟩ rfl [0, 1, 2, 3, 4] [] rfl rfl ⟨rfl, rfl, by decide⟩ 0 1 ⟨rfl, rfl, rfl⟩ (As := [.int (zI 0)]) (rest := []) (Nat.le_of_ble_eq_true rfl) rfl ⟨Nat.le_of_ble_eq_true rfl, Nat.le_of_ble_eq_true rfl⟩ (dk DX1_readKind_0k 28 rfl) ⟨rfl, rfl⟩ (wb := fun u15 => [(p0, .inr (1, [.ref p1, .int (zI ((len : Nat) : Int)), .ref p2, .ref p3, .ref p4, .int (zI ((fo : Nat) : Int)), .int (zI ((q : Nat) : Int)), .int (zI ((q : Nat) : Int))])), (p1, iA D 150 tb), (p2, iA D 30 kk), (p3, iA D 30 tt), (p4, iA D 30 ta)]) [0, 1, 2, 3, 4] rfl (fun _ => rfl) (fun u15 hu15 => ?_)
            refine zz_iload_n hC 2 (dk DX1_readKind_0k 29 rfl) rfl rfl ?_
            exact zz_iret hC hQ hr (q, ((q : Nat) : Int)) ⟨fun _ => ⟨rfl, rfl⟩, fun h => absurd h (by unfold zKo; omega)⟩ (by unfold zKd; rw [if_neg (by omega), if_pos (by omega)]) [0, 1, 2, 3, 4] rfl rfl ⟨Nat.le_refl _, Nat.le_refl _⟩ (dk DX1_readKind_0k 30 rfl)
          · refine zz_iconst hC (dk DX1_readKind_0k 25 rfl) ?_
            refine zz_goto hC 51 (dk DX1_readKind_0k 26 rfl) (by decide) ?_
            refine zz_callVv hC (wr := []) (c_X1_step_y l D p0 p1 p2 p3 p4 tb kk tt ta len fo q (by omega)) G_X1_59 H_X1_step ⟨Nat.le_of_ble_eq_true rfl, Nat.le_of_ble_eq_true rfl⟩ rfl [0, 1, 2, 3, 4] [] rfl rfl ⟨rfl, rfl, by decide⟩ 0 1 ⟨rfl, rfl, rfl⟩ (As := [.int (zI 1)]) (rest := []) (Nat.le_of_ble_eq_true rfl) rfl ⟨Nat.le_of_ble_eq_true rfl, Nat.le_of_ble_eq_true rfl⟩ (dk DX1_readKind_0k 28 rfl) ⟨rfl, rfl⟩ (wb := fun u16 => [(p0, .inr (1, [.ref p1, .int (zI ((len : Nat) : Int)), .ref p2, .ref p3, .ref p4, .int (zI ((fo : Nat) : Int)), .int (zI ((q + 1 : Nat) : Int)), .int (zI (-1))])), (p1, iA D 150 tb), (p2, iA D 30 kk), (p3, iA D 30 tt), (p4, iA D 30 ta)]) [0, 1, 2, 3, 4] rfl (fun _ => rfl) (fun u16 hu16 => ?_)
            refine zz_iload_n hC 2 (dk DX1_readKind_0k 29 rfl) rfl rfl ?_
            exact zz_iret hC hQ hr (q + 1, (-1)) ⟨fun h => absurd (by unfold zKo; omega) h, fun _ => ⟨rfl, rfl⟩⟩ (by unfold zKd; rw [if_neg (by omega), if_pos (by omega)]) [0, 1, 2, 3, 4] rfl rfl ⟨Nat.le_refl _, Nat.le_refl _⟩ (dk DX1_readKind_0k 30 rfl)
  · refine zz_iconst hC (dk DX1_readKind_0k 6 rfl) ?_
    refine zz_goto hC 26 (dk DX1_readKind_0k 7 rfl) (by decide) ?_
    refine zz_istore_n hC (ls' := [(0, .ref p0), (1, .int (zI (zNx tb len q))), (2, .int (zI 0))]) [1, 2, 0] (dk DX1_readKind_0k 14 rfl) rfl (by decide) rfl ?_
    refine zz_aload_n hC 0 (dk DX1_readKind_0k 15 rfl) rfl rfl ?_
    refine zz_iload_n hC 1 (dk DX1_readKind_0k 16 rfl) rfl rfl ?_
    refine zz_bipush hC (dk DX1_readKind_0k 17 rfl) (by decide) ?_
    refine zz_icmp_eq hC 46 (dk DX1_readKind_0k 18 rfl) (by decide) ⟨⟨by omega, by omega⟩, (by decide)⟩ (fun c17 => ?_) (fun c17 => ?_)
    · refine zz_iconst hC (dk DX1_readKind_0k 25 rfl) ?_
      refine zz_goto hC 51 (dk DX1_readKind_0k 26 rfl) (by decide) ?_
      refine zz_callVv hC (wr := []) (c_X1_step_y l D p0 p1 p2 p3 p4 tb kk tt ta len fo q (by omega)) G_X1_59 H_X1_step ⟨Nat.le_of_ble_eq_true rfl, Nat.le_of_ble_eq_true rfl⟩ rfl [0, 1, 2, 3, 4] [] rfl rfl ⟨rfl, rfl, by decide⟩ 0 1 ⟨rfl, rfl, rfl⟩ (As := [.int (zI 1)]) (rest := []) (Nat.le_of_ble_eq_true rfl) rfl ⟨Nat.le_of_ble_eq_true rfl, Nat.le_of_ble_eq_true rfl⟩ (dk DX1_readKind_0k 28 rfl) ⟨rfl, rfl⟩ (wb := fun u18 => [(p0, .inr (1, [.ref p1, .int (zI ((len : Nat) : Int)), .ref p2, .ref p3, .ref p4, .int (zI ((fo : Nat) : Int)), .int (zI ((q + 1 : Nat) : Int)), .int (zI (-1))])), (p1, iA D 150 tb), (p2, iA D 30 kk), (p3, iA D 30 tt), (p4, iA D 30 ta)]) [0, 1, 2, 3, 4] rfl (fun _ => rfl) (fun u18 hu18 => ?_)
      refine zz_iload_n hC 2 (dk DX1_readKind_0k 29 rfl) rfl rfl ?_
      exact zz_iret hC hQ hr (q + 1, (-1)) ⟨fun h => absurd (by unfold zKo; omega) h, fun _ => ⟨rfl, rfl⟩⟩ (by unfold zKd; rw [if_pos (by omega)]) [0, 1, 2, 3, 4] rfl rfl ⟨Nat.le_refl _, Nat.le_refl _⟩ (dk DX1_readKind_0k 30 rfl)
    · refine zz_iload_n hC 1 (dk DX1_readKind_0k 19 rfl) rfl rfl ?_
      refine zz_bipush hC (dk DX1_readKind_0k 20 rfl) (by decide) ?_
      refine zz_icmp_eq hC 46 (dk DX1_readKind_0k 21 rfl) (by decide) ⟨⟨by omega, by omega⟩, (by decide)⟩ (fun c19 => ?_) (fun c19 => ?_)
      · refine zz_iconst hC (dk DX1_readKind_0k 25 rfl) ?_
        refine zz_goto hC 51 (dk DX1_readKind_0k 26 rfl) (by decide) ?_
        refine zz_callVv hC (wr := []) (c_X1_step_y l D p0 p1 p2 p3 p4 tb kk tt ta len fo q (by omega)) G_X1_59 H_X1_step ⟨Nat.le_of_ble_eq_true rfl, Nat.le_of_ble_eq_true rfl⟩ rfl [0, 1, 2, 3, 4] [] rfl rfl ⟨rfl, rfl, by decide⟩ 0 1 ⟨rfl, rfl, rfl⟩ (As := [.int (zI 1)]) (rest := []) (Nat.le_of_ble_eq_true rfl) rfl ⟨Nat.le_of_ble_eq_true rfl, Nat.le_of_ble_eq_true rfl⟩ (dk DX1_readKind_0k 28 rfl) ⟨rfl, rfl⟩ (wb := fun u20 => [(p0, .inr (1, [.ref p1, .int (zI ((len : Nat) : Int)), .ref p2, .ref p3, .ref p4, .int (zI ((fo : Nat) : Int)), .int (zI ((q + 1 : Nat) : Int)), .int (zI (-1))])), (p1, iA D 150 tb), (p2, iA D 30 kk), (p3, iA D 30 tt), (p4, iA D 30 ta)]) [0, 1, 2, 3, 4] rfl (fun _ => rfl) (fun u20 hu20 => ?_)
        refine zz_iload_n hC 2 (dk DX1_readKind_0k 29 rfl) rfl rfl ?_
        exact zz_iret hC hQ hr (q + 1, (-1)) ⟨fun h => absurd (by unfold zKo; omega) h, fun _ => ⟨rfl, rfl⟩⟩ (by unfold zKd; rw [if_pos (by omega)]) [0, 1, 2, 3, 4] rfl rfl ⟨Nat.le_refl _, Nat.le_refl _⟩ (dk DX1_readKind_0k 30 rfl)
      · refine zz_iload_n hC 1 (dk DX1_readKind_0k 22 rfl) rfl rfl ?_
        refine zz_bipush hC (dk DX1_readKind_0k 23 rfl) (by decide) ?_
        refine zz_icmp_ne hC 50 (dk DX1_readKind_0k 24 rfl) (by decide) ⟨⟨by omega, by omega⟩, (by decide)⟩ (fun c21 => ?_) (fun c21 => ?_)
        · refine zz_iconst hC (dk DX1_readKind_0k 27 rfl) ?_
          refine zz_callVv hC (wr := []) (c_X1_step_e l D p0 p1 p2 p3 p4 tb kk tt ta len fo q (by omega)) G_X1_59 H_X1_step ⟨Nat.le_of_ble_eq_true rfl, Nat.le_of_ble_eq_true rfl⟩ rfl [0, 1, 2, 3, 4] [] rfl rfl ⟨rfl, rfl, by decide⟩ 0 1 ⟨rfl, rfl, rfl⟩ (As := [.int (zI 0)]) (rest := []) (Nat.le_of_ble_eq_true rfl) rfl ⟨Nat.le_of_ble_eq_true rfl, Nat.le_of_ble_eq_true rfl⟩ (dk DX1_readKind_0k 28 rfl) ⟨rfl, rfl⟩ (wb := fun u22 => [(p0, .inr (1, [.ref p1, .int (zI ((len : Nat) : Int)), .ref p2, .ref p3, .ref p4, .int (zI ((fo : Nat) : Int)), .int (zI ((q : Nat) : Int)), .int (zI ((q : Nat) : Int))])), (p1, iA D 150 tb), (p2, iA D 30 kk), (p3, iA D 30 tt), (p4, iA D 30 ta)]) [0, 1, 2, 3, 4] rfl (fun _ => rfl) (fun u22 hu22 => ?_)
          refine zz_iload_n hC 2 (dk DX1_readKind_0k 29 rfl) rfl rfl ?_
          exact zz_iret hC hQ hr (q, ((q : Nat) : Int)) ⟨fun _ => ⟨rfl, rfl⟩, fun h => absurd h (by unfold zKo; omega)⟩ (by unfold zKd; rw [if_pos (by omega)]) [0, 1, 2, 3, 4] rfl rfl ⟨Nat.le_refl _, Nat.le_refl _⟩ (dk DX1_readKind_0k 30 rfl)
        · refine zz_iconst hC (dk DX1_readKind_0k 25 rfl) ?_
          refine zz_goto hC 51 (dk DX1_readKind_0k 26 rfl) (by decide) ?_
          refine zz_callVv hC (wr := []) (c_X1_step_y l D p0 p1 p2 p3 p4 tb kk tt ta len fo q (by omega)) G_X1_59 H_X1_step ⟨Nat.le_of_ble_eq_true rfl, Nat.le_of_ble_eq_true rfl⟩ rfl [0, 1, 2, 3, 4] [] rfl rfl ⟨rfl, rfl, by decide⟩ 0 1 ⟨rfl, rfl, rfl⟩ (As := [.int (zI 1)]) (rest := []) (Nat.le_of_ble_eq_true rfl) rfl ⟨Nat.le_of_ble_eq_true rfl, Nat.le_of_ble_eq_true rfl⟩ (dk DX1_readKind_0k 28 rfl) ⟨rfl, rfl⟩ (wb := fun u23 => [(p0, .inr (1, [.ref p1, .int (zI ((len : Nat) : Int)), .ref p2, .ref p3, .ref p4, .int (zI ((fo : Nat) : Int)), .int (zI ((q + 1 : Nat) : Int)), .int (zI (-1))])), (p1, iA D 150 tb), (p2, iA D 30 kk), (p3, iA D 30 tt), (p4, iA D 30 ta)]) [0, 1, 2, 3, 4] rfl (fun _ => rfl) (fun u23 hu23 => ?_)
          refine zz_iload_n hC 2 (dk DX1_readKind_0k 29 rfl) rfl rfl ?_
          exact zz_iret hC hQ hr (q + 1, (-1)) ⟨fun h => absurd (by unfold zKo; omega) h, fun _ => ⟨rfl, rfl⟩⟩ (by unfold zKd; rw [if_pos (by omega)]) [0, 1, 2, 3, 4] rfl rfl ⟨Nat.le_refl _, Nat.le_refl _⟩ (dk DX1_readKind_0k 30 rfl)
set_option maxHeartbeats 4000000 in
set_option maxRecDepth 100000 in
theorem c_X1_readNumber_a (l : Launch) (D : zG) (p0 : Nat) (p1 : Nat) (p2 : Nat) (p3 : Nat) (p4 : Nat) (tb : Nat → Int) (kk : Nat → Int) (tt : Nat → Int) (ta : Nat → Int) (len : Nat) (fo : Nat) (q : Nat) (er : Int) (hl : len ≤ 150) (hb : ∀ j, j < len → 0 ≤ tb j ∧ tb j ≤ 127) (hq : q ≤ 150) (her : -1 ≤ er ∧ er ≤ 200) (hne : er ≠ -1) : CI (S := Nat × Int × Int) l yX1_readNumber cX1_readNumber 3 ((some .int)) ({ frames := 2, cells := 0, slots := 0, locals := 41 } : Room) D [.ref p0] [(p0, .inr (1, [.ref p1, .int (zI ((len : Nat) : Int)), .ref p2, .ref p3, .ref p4, .int (zI ((fo : Nat) : Int)), .int (zI ((q : Nat) : Int)), .int (zI er)])), (p1, iA D 150 tb), (p2, iA D 30 kk), (p3, iA D 30 tt), (p4, iA D 30 ta)] (fun u => zRn tb len q er u) (fun u => u.2.2) (fun u => [(p0, .inr (1, [.ref p1, .int (zI ((len : Nat) : Int)), .ref p2, .ref p3, .ref p4, .int (zI ((fo : Nat) : Int)), .int (zI ((u.1 : Nat) : Int)), .int (zI u.2.1)])), (p1, iA D 150 tb), (p2, iA D 30 kk), (p3, iA D 30 tt), (p4, iA D 30 ta)]) := by
  refine CI_of (by decide) (Nat.le_of_ble_eq_true rfl) ?_
  intro p e s m args below meth cd A Q hQ hC hr hnm
  have hC : ZC p s m args meth cd A D 3 cX1_readNumber RX1 := hC
  have hx := zNx_in (q := q) hb
  show Z p l e ({ frames := 2, cells := 0, slots := 0, locals := 41 } : Room) s m args below meth cd A D Q 3 0 0 [(p0, .inr (1, [.ref p1, .int (zI ((len : Nat) : Int)), .ref p2, .ref p3, .ref p4, .int (zI ((fo : Nat) : Int)), .int (zI ((q : Nat) : Int)), .int (zI er)])), (p1, iA D 150 tb), (p2, iA D 30 kk), (p3, iA D 30 tt), (p4, iA D 30 ta)] [(0, .ref p0)] [] 0
  refine zz_aload_n hC 0 (dk DX1_readNumber_0k 0 rfl) rfl rfl ?_
  refine zz_pureVi hC (c_X1_next l D p0 p1 p2 p3 p4 tb kk tt ta len fo q er hl hb (by omega)) G_X1_56 H_X1_next ⟨Nat.le_of_ble_eq_true rfl, Nat.le_of_ble_eq_true rfl⟩ rfl [0, 1, 2, 3, 4] rfl rfl 0 1 ⟨rfl, rfl, rfl⟩ (As := []) (rest := []) (Nat.le_of_ble_eq_true rfl) rfl ⟨Nat.le_of_ble_eq_true rfl, Nat.le_of_ble_eq_true rfl⟩ (dk DX1_readNumber_0k 1 rfl) ⟨rfl, rfl⟩ ?_
  refine zz_bipush hC (dk DX1_readNumber_0k 2 rfl) (by decide) ?_
  refine zz_isub hC (dk DX1_readNumber_0k 3 rfl) ?_
  refine zz_istore_n hC (ls' := [(0, .ref p0), (1, .int (zI ((zNx tb len q) - 48)))]) [1, 0] (dk DX1_readNumber_0k 4 rfl) rfl (by decide) rfl ?_
  refine zz_aload_n hC 0 (dk DX1_readNumber_0k 5 rfl) rfl rfl ?_
  refine zz_aload_n hC 0 (dk DX1_readNumber_0k 6 rfl) rfl rfl ?_
  refine zz_pureVi hC (c_X1_isDigitNext l D p0 p1 p2 p3 p4 tb kk tt ta len fo q er hl hb (by omega)) G_X1_63 H_X1_isDigitNext ⟨Nat.le_of_ble_eq_true rfl, Nat.le_of_ble_eq_true rfl⟩ rfl [0, 1, 2, 3, 4] rfl rfl 0 1 ⟨rfl, rfl, rfl⟩ (As := []) (rest := [.ref p0]) (Nat.le_of_ble_eq_true rfl) rfl ⟨Nat.le_of_ble_eq_true rfl, Nat.le_of_ble_eq_true rfl⟩ (dk DX1_readNumber_0k 7 rfl) ⟨rfl, rfl⟩ ?_
  refine zz_callVv hC (wr := []) (c_X1_step_n l D p0 p1 p2 p3 p4 tb kk tt ta len fo q er (zB (zDg tb len q = true)) (by omega) (by omega)) G_X1_59 H_X1_step ⟨Nat.le_of_ble_eq_true rfl, Nat.le_of_ble_eq_true rfl⟩ rfl [0, 1, 2, 3, 4] [] rfl rfl ⟨rfl, rfl, by decide⟩ 0 1 ⟨rfl, rfl, rfl⟩ (As := [.int (zI (zB (zDg tb len q = true)))]) (rest := []) (Nat.le_of_ble_eq_true rfl) rfl ⟨Nat.le_of_ble_eq_true rfl, Nat.le_of_ble_eq_true rfl⟩ (dk DX1_readNumber_0k 8 rfl) ⟨rfl, rfl⟩ (wb := fun u1 => [(p0, .inr (1, [.ref p1, .int (zI ((len : Nat) : Int)), .ref p2, .ref p3, .ref p4, .int (zI ((fo : Nat) : Int)), .int (zI ((q : Nat) : Int)), .int (zI er)])), (p1, iA D 150 tb), (p2, iA D 30 kk), (p3, iA D 30 tt), (p4, iA D 30 ta)]) [0, 1, 2, 3, 4] rfl (fun _ => rfl) (fun u1 hu1 => ?_)
  refine zz_iconst hC (dk DX1_readNumber_0k 9 rfl) ?_
  refine zz_istore_n hC (ls' := [(0, .ref p0), (1, .int (zI ((zNx tb len q) - 48))), (2, .int (zI 1))]) [1, 2, 0] (dk DX1_readNumber_0k 10 rfl) rfl (by decide) rfl ?_
  refine zz_iload_n hC 2 (dk DX1_readNumber_0k 11 rfl) rfl rfl ?_
  refine zz_iconst hC (dk DX1_readNumber_0k 12 rfl) ?_
  refine zz_icmp_ge hC 67 (dk DX1_readNumber_0k 13 rfl) (by decide) ⟨(by decide), (by decide)⟩ (fun c2 => ?_) (fun c2 => ?_)
  · exfalso; omega
  · refine zz_aload_n hC 0 (dk DX1_readNumber_0k 14 rfl) rfl rfl ?_
    refine zz_get hC F_X1_34 0 rfl rfl (dk DX1_readNumber_0k 15 rfl) ?_
    refine zz_iconst hC (dk DX1_readNumber_0k 16 rfl) ?_
    refine zz_icmp_ne hC 67 (dk DX1_readNumber_0k 17 rfl) (by decide) ⟨⟨by omega, by omega⟩, (by decide)⟩ (fun c3 => ?_) (fun c3 => ?_)
    · refine zz_iload_n hC 1 (dk DX1_readNumber_0k 38 rfl) rfl rfl ?_
      exact zz_iret hC hQ hr (q, er, ((zNx tb len q) - 48)) ⟨fun _ => ⟨rfl, rfl⟩, fun h => absurd h hne, fun h => absurd h hne⟩ rfl [0, 1, 2, 3, 4] rfl rfl ⟨Nat.le_refl _, Nat.le_refl _⟩ (dk DX1_readNumber_0k 39 rfl)
    · exfalso; omega
set_option maxHeartbeats 4000000 in
set_option maxRecDepth 100000 in
theorem c_X1_readNumber_b (l : Launch) (D : zG) (p0 : Nat) (p1 : Nat) (p2 : Nat) (p3 : Nat) (p4 : Nat) (tb : Nat → Int) (kk : Nat → Int) (tt : Nat → Int) (ta : Nat → Int) (len : Nat) (fo : Nat) (q : Nat) (er : Int) (hl : len ≤ 150) (hb : ∀ j, j < len → 0 ≤ tb j ∧ tb j ≤ 127) (hq : q ≤ 150) (her : -1 ≤ er ∧ er ≤ 200) (heq : er = -1) (hd : ¬ zDg tb len q = true) : CI (S := Nat × Int × Int) l yX1_readNumber cX1_readNumber 3 ((some .int)) ({ frames := 2, cells := 0, slots := 0, locals := 41 } : Room) D [.ref p0] [(p0, .inr (1, [.ref p1, .int (zI ((len : Nat) : Int)), .ref p2, .ref p3, .ref p4, .int (zI ((fo : Nat) : Int)), .int (zI ((q : Nat) : Int)), .int (zI er)])), (p1, iA D 150 tb), (p2, iA D 30 kk), (p3, iA D 30 tt), (p4, iA D 30 ta)] (fun u => zRn tb len q er u) (fun u => u.2.2) (fun u => [(p0, .inr (1, [.ref p1, .int (zI ((len : Nat) : Int)), .ref p2, .ref p3, .ref p4, .int (zI ((fo : Nat) : Int)), .int (zI ((u.1 : Nat) : Int)), .int (zI u.2.1)])), (p1, iA D 150 tb), (p2, iA D 30 kk), (p3, iA D 30 tt), (p4, iA D 30 ta)]) := by
  refine CI_of (by decide) (Nat.le_of_ble_eq_true rfl) ?_
  intro p e s m args below meth cd A Q hQ hC hr hnm
  have hC : ZC p s m args meth cd A D 3 cX1_readNumber RX1 := hC
  subst heq
  show Z p l e ({ frames := 2, cells := 0, slots := 0, locals := 41 } : Room) s m args below meth cd A D Q 3 0 0 [(p0, .inr (1, [.ref p1, .int (zI ((len : Nat) : Int)), .ref p2, .ref p3, .ref p4, .int (zI ((fo : Nat) : Int)), .int (zI ((q : Nat) : Int)), .int (zI (-1))])), (p1, iA D 150 tb), (p2, iA D 30 kk), (p3, iA D 30 tt), (p4, iA D 30 ta)] [(0, .ref p0)] [] 0
  refine zz_aload_n hC 0 (dk DX1_readNumber_0k 0 rfl) rfl rfl ?_
  refine zz_pureVi hC (c_X1_next l D p0 p1 p2 p3 p4 tb kk tt ta len fo q (-1) hl hb (by omega)) G_X1_56 H_X1_next ⟨Nat.le_of_ble_eq_true rfl, Nat.le_of_ble_eq_true rfl⟩ rfl [0, 1, 2, 3, 4] rfl rfl 0 1 ⟨rfl, rfl, rfl⟩ (As := []) (rest := []) (Nat.le_of_ble_eq_true rfl) rfl ⟨Nat.le_of_ble_eq_true rfl, Nat.le_of_ble_eq_true rfl⟩ (dk DX1_readNumber_0k 1 rfl) ⟨rfl, rfl⟩ ?_
  refine zz_bipush hC (dk DX1_readNumber_0k 2 rfl) (by decide) ?_
  refine zz_isub hC (dk DX1_readNumber_0k 3 rfl) ?_
  refine zz_istore_n hC (ls' := [(0, .ref p0), (1, .int (zI ((zNx tb len q) - 48)))]) [1, 0] (dk DX1_readNumber_0k 4 rfl) rfl (by decide) rfl ?_
  refine zz_aload_n hC 0 (dk DX1_readNumber_0k 5 rfl) rfl rfl ?_
  refine zz_aload_n hC 0 (dk DX1_readNumber_0k 6 rfl) rfl rfl ?_
  refine zz_pureVi hC (c_X1_isDigitNext l D p0 p1 p2 p3 p4 tb kk tt ta len fo q (-1) hl hb (by omega)) G_X1_63 H_X1_isDigitNext ⟨Nat.le_of_ble_eq_true rfl, Nat.le_of_ble_eq_true rfl⟩ rfl [0, 1, 2, 3, 4] rfl rfl 0 1 ⟨rfl, rfl, rfl⟩ (As := []) (rest := [.ref p0]) (Nat.le_of_ble_eq_true rfl) rfl ⟨Nat.le_of_ble_eq_true rfl, Nat.le_of_ble_eq_true rfl⟩ (dk DX1_readNumber_0k 7 rfl) ⟨rfl, rfl⟩ ?_
  rw [zB_f hd]
  refine zz_callVv hC (wr := []) (c_X1_step_e l D p0 p1 p2 p3 p4 tb kk tt ta len fo q (by omega)) G_X1_59 H_X1_step ⟨Nat.le_of_ble_eq_true rfl, Nat.le_of_ble_eq_true rfl⟩ rfl [0, 1, 2, 3, 4] [] rfl rfl ⟨rfl, rfl, by decide⟩ 0 1 ⟨rfl, rfl, rfl⟩ (As := [.int (zI 0)]) (rest := []) (Nat.le_of_ble_eq_true rfl) rfl ⟨Nat.le_of_ble_eq_true rfl, Nat.le_of_ble_eq_true rfl⟩ (dk DX1_readNumber_0k 8 rfl) ⟨rfl, rfl⟩ (wb := fun u1 => [(p0, .inr (1, [.ref p1, .int (zI ((len : Nat) : Int)), .ref p2, .ref p3, .ref p4, .int (zI ((fo : Nat) : Int)), .int (zI ((q : Nat) : Int)), .int (zI ((q : Nat) : Int))])), (p1, iA D 150 tb), (p2, iA D 30 kk), (p3, iA D 30 tt), (p4, iA D 30 ta)]) [0, 1, 2, 3, 4] rfl (fun _ => rfl) (fun u1 hu1 => ?_)
  refine zz_iconst hC (dk DX1_readNumber_0k 9 rfl) ?_
  refine zz_istore_n hC (ls' := [(0, .ref p0), (1, .int (zI ((zNx tb len q) - 48))), (2, .int (zI 1))]) [1, 2, 0] (dk DX1_readNumber_0k 10 rfl) rfl (by decide) rfl ?_
  refine zz_iload_n hC 2 (dk DX1_readNumber_0k 11 rfl) rfl rfl ?_
  refine zz_iconst hC (dk DX1_readNumber_0k 12 rfl) ?_
  refine zz_icmp_ge hC 67 (dk DX1_readNumber_0k 13 rfl) (by decide) ⟨(by decide), (by decide)⟩ (fun c2 => ?_) (fun c2 => ?_)
  · exfalso; omega
  · refine zz_aload_n hC 0 (dk DX1_readNumber_0k 14 rfl) rfl rfl ?_
    refine zz_get hC F_X1_34 0 rfl rfl (dk DX1_readNumber_0k 15 rfl) ?_
    refine zz_iconst hC (dk DX1_readNumber_0k 16 rfl) ?_
    refine zz_icmp_ne hC 67 (dk DX1_readNumber_0k 17 rfl) (by decide) ⟨⟨by omega, by omega⟩, (by decide)⟩ (fun c3 => ?_) (fun c3 => ?_)
    · refine zz_iload_n hC 1 (dk DX1_readNumber_0k 38 rfl) rfl rfl ?_
      exact zz_iret hC hQ hr (q, ((q : Nat) : Int), ((zNx tb len q) - 48)) ⟨fun h => absurd rfl h, fun _ _ => ⟨rfl, rfl⟩, fun _ h => absurd h hd⟩ rfl [0, 1, 2, 3, 4] rfl rfl ⟨Nat.le_refl _, Nat.le_refl _⟩ (dk DX1_readNumber_0k 39 rfl)
    · exfalso; omega
set_option maxHeartbeats 4000000 in
set_option maxRecDepth 100000 in
theorem c_X1_readNumber_c (l : Launch) (D : zG) (p0 : Nat) (p1 : Nat) (p2 : Nat) (p3 : Nat) (p4 : Nat) (tb : Nat → Int) (kk : Nat → Int) (tt : Nat → Int) (ta : Nat → Int) (len : Nat) (fo : Nat) (q : Nat) (er : Int) (hl : len ≤ 150) (hb : ∀ j, j < len → 0 ≤ tb j ∧ tb j ≤ 127) (hq : q ≤ 150) (her : -1 ≤ er ∧ er ≤ 200) (heq : er = -1) (hd : zDg tb len q = true) : CI (S := Nat × Int × Int) l yX1_readNumber cX1_readNumber 3 ((some .int)) ({ frames := 2, cells := 0, slots := 0, locals := 41 } : Room) D [.ref p0] [(p0, .inr (1, [.ref p1, .int (zI ((len : Nat) : Int)), .ref p2, .ref p3, .ref p4, .int (zI ((fo : Nat) : Int)), .int (zI ((q : Nat) : Int)), .int (zI er)])), (p1, iA D 150 tb), (p2, iA D 30 kk), (p3, iA D 30 tt), (p4, iA D 30 ta)] (fun u => zRn tb len q er u) (fun u => u.2.2) (fun u => [(p0, .inr (1, [.ref p1, .int (zI ((len : Nat) : Int)), .ref p2, .ref p3, .ref p4, .int (zI ((fo : Nat) : Int)), .int (zI ((u.1 : Nat) : Int)), .int (zI u.2.1)])), (p1, iA D 150 tb), (p2, iA D 30 kk), (p3, iA D 30 tt), (p4, iA D 30 ta)]) := by
  refine CI_of (by decide) (Nat.le_of_ble_eq_true rfl) ?_
  intro p e s m args below meth cd A Q hQ hC hr hnm
  have hC : ZC p s m args meth cd A D 3 cX1_readNumber RX1 := hC
  subst heq
  have hdl := zDg_lt hd
  show Z p l e ({ frames := 2, cells := 0, slots := 0, locals := 41 } : Room) s m args below meth cd A D Q 3 0 0 [(p0, .inr (1, [.ref p1, .int (zI ((len : Nat) : Int)), .ref p2, .ref p3, .ref p4, .int (zI ((fo : Nat) : Int)), .int (zI ((q : Nat) : Int)), .int (zI (-1))])), (p1, iA D 150 tb), (p2, iA D 30 kk), (p3, iA D 30 tt), (p4, iA D 30 ta)] [(0, .ref p0)] [] 0
  refine zz_aload_n hC 0 (dk DX1_readNumber_0k 0 rfl) rfl rfl ?_
  refine zz_pureVi hC (c_X1_next l D p0 p1 p2 p3 p4 tb kk tt ta len fo q (-1) hl hb (by omega)) G_X1_56 H_X1_next ⟨Nat.le_of_ble_eq_true rfl, Nat.le_of_ble_eq_true rfl⟩ rfl [0, 1, 2, 3, 4] rfl rfl 0 1 ⟨rfl, rfl, rfl⟩ (As := []) (rest := []) (Nat.le_of_ble_eq_true rfl) rfl ⟨Nat.le_of_ble_eq_true rfl, Nat.le_of_ble_eq_true rfl⟩ (dk DX1_readNumber_0k 1 rfl) ⟨rfl, rfl⟩ ?_
  refine zz_bipush hC (dk DX1_readNumber_0k 2 rfl) (by decide) ?_
  refine zz_isub hC (dk DX1_readNumber_0k 3 rfl) ?_
  refine zz_istore_n hC (ls' := [(0, .ref p0), (1, .int (zI ((zNx tb len q) - 48)))]) [1, 0] (dk DX1_readNumber_0k 4 rfl) rfl (by decide) rfl ?_
  refine zz_aload_n hC 0 (dk DX1_readNumber_0k 5 rfl) rfl rfl ?_
  refine zz_aload_n hC 0 (dk DX1_readNumber_0k 6 rfl) rfl rfl ?_
  refine zz_pureVi hC (c_X1_isDigitNext l D p0 p1 p2 p3 p4 tb kk tt ta len fo q (-1) hl hb (by omega)) G_X1_63 H_X1_isDigitNext ⟨Nat.le_of_ble_eq_true rfl, Nat.le_of_ble_eq_true rfl⟩ rfl [0, 1, 2, 3, 4] rfl rfl 0 1 ⟨rfl, rfl, rfl⟩ (As := []) (rest := [.ref p0]) (Nat.le_of_ble_eq_true rfl) rfl ⟨Nat.le_of_ble_eq_true rfl, Nat.le_of_ble_eq_true rfl⟩ (dk DX1_readNumber_0k 7 rfl) ⟨rfl, rfl⟩ ?_
  rw [zB_t hd]
  refine zz_callVv hC (wr := []) (c_X1_step_y l D p0 p1 p2 p3 p4 tb kk tt ta len fo q (by omega)) G_X1_59 H_X1_step ⟨Nat.le_of_ble_eq_true rfl, Nat.le_of_ble_eq_true rfl⟩ rfl [0, 1, 2, 3, 4] [] rfl rfl ⟨rfl, rfl, by decide⟩ 0 1 ⟨rfl, rfl, rfl⟩ (As := [.int (zI 1)]) (rest := []) (Nat.le_of_ble_eq_true rfl) rfl ⟨Nat.le_of_ble_eq_true rfl, Nat.le_of_ble_eq_true rfl⟩ (dk DX1_readNumber_0k 8 rfl) ⟨rfl, rfl⟩ (wb := fun u1 => [(p0, .inr (1, [.ref p1, .int (zI ((len : Nat) : Int)), .ref p2, .ref p3, .ref p4, .int (zI ((fo : Nat) : Int)), .int (zI ((q + 1 : Nat) : Int)), .int (zI (-1))])), (p1, iA D 150 tb), (p2, iA D 30 kk), (p3, iA D 30 tt), (p4, iA D 30 ta)]) [0, 1, 2, 3, 4] rfl (fun _ => rfl) (fun u1 hu1 => ?_)
  refine zz_iconst hC (dk DX1_readNumber_0k 9 rfl) ?_
  refine zz_istore_n hC (ls' := [(0, .ref p0), (1, .int (zI ((zNx tb len q) - 48))), (2, .int (zI 1))]) [1, 2, 0] (dk DX1_readNumber_0k 10 rfl) rfl (by decide) rfl ?_
  refine zz_iload_n hC 2 (dk DX1_readNumber_0k 11 rfl) rfl rfl ?_
  refine zz_iconst hC (dk DX1_readNumber_0k 12 rfl) ?_
  refine zz_icmp_ge hC 67 (dk DX1_readNumber_0k 13 rfl) (by decide) ⟨(by decide), (by decide)⟩ (fun c2 => ?_) (fun c2 => ?_)
  · exfalso; omega
  · refine zz_aload_n hC 0 (dk DX1_readNumber_0k 14 rfl) rfl rfl ?_
    refine zz_get hC F_X1_34 0 rfl rfl (dk DX1_readNumber_0k 15 rfl) ?_
    refine zz_iconst hC (dk DX1_readNumber_0k 16 rfl) ?_
    refine zz_icmp_ne hC 67 (dk DX1_readNumber_0k 17 rfl) (by decide) ⟨(by decide), (by decide)⟩ (fun c3 => ?_) (fun c3 => ?_)
    · exfalso; omega
    · refine zz_aload_n hC 0 (dk DX1_readNumber_0k 18 rfl) rfl rfl ?_
      refine zz_pureVi hC (c_X1_isDigitNext l D p0 p1 p2 p3 p4 tb kk tt ta len fo (q + 1) (-1) hl hb (by omega)) G_X1_63 H_X1_isDigitNext ⟨Nat.le_of_ble_eq_true rfl, Nat.le_of_ble_eq_true rfl⟩ rfl [0, 1, 2, 3, 4] rfl rfl 0 1 ⟨rfl, rfl, rfl⟩ (As := []) (rest := []) (Nat.le_of_ble_eq_true rfl) rfl ⟨Nat.le_of_ble_eq_true rfl, Nat.le_of_ble_eq_true rfl⟩ (dk DX1_readNumber_0k 19 rfl) ⟨rfl, rfl⟩ ?_
      refine zz_ifb_eq hC 67 (dk DX1_readNumber_0k 20 rfl) (by decide) (fun c4 => ?_) (fun c4 => ?_)
      · refine zz_iload_n hC 1 (dk DX1_readNumber_0k 38 rfl) rfl rfl ?_
        exact zz_iret hC hQ hr (q + 1, -1, ((zNx tb len q) - 48)) ⟨fun h => absurd rfl h, fun _ h => absurd hd h, fun _ _ => ⟨(by unfold zNe; rw [if_pos hd, if_neg (by assumption)]), rfl, (by unfold zNv; rw [if_neg (by assumption)]; rfl)⟩⟩ rfl [0, 1, 2, 3, 4] rfl rfl ⟨Nat.le_refl _, Nat.le_refl _⟩ (dk DX1_readNumber_0k 39 rfl)
      · have hdl2 := zDg_lt (by assumption)
        refine zz_iload_n hC 1 (dk DX1_readNumber_0k 21 rfl) rfl rfl ?_
        refine zz_bipush hC (dk DX1_readNumber_0k 22 rfl) (by decide) ?_
        refine zz_imul hC (dk DX1_readNumber_0k 23 rfl) ?_
        refine zz_aload_n hC 0 (dk DX1_readNumber_0k 24 rfl) rfl rfl ?_
        refine zz_pureVi hC (c_X1_next l D p0 p1 p2 p3 p4 tb kk tt ta len fo (q + 1) (-1) hl hb (by omega)) G_X1_56 H_X1_next ⟨Nat.le_of_ble_eq_true rfl, Nat.le_of_ble_eq_true rfl⟩ rfl [0, 1, 2, 3, 4] rfl rfl 0 1 ⟨rfl, rfl, rfl⟩ (As := []) (rest := [.int (zI (((zNx tb len q) - 48) * 10))]) (Nat.le_of_ble_eq_true rfl) rfl ⟨Nat.le_of_ble_eq_true rfl, Nat.le_of_ble_eq_true rfl⟩ (dk DX1_readNumber_0k 25 rfl) ⟨rfl, rfl⟩ ?_
        refine zz_iadd hC (dk DX1_readNumber_0k 26 rfl) ?_
        refine zz_bipush hC (dk DX1_readNumber_0k 27 rfl) (by decide) ?_
        refine zz_isub hC (dk DX1_readNumber_0k 28 rfl) ?_
        refine zz_istore_n hC (ls' := [(0, .ref p0), (1, .int (zI (((((zNx tb len q) - 48) * 10) + (zNx tb len (q + 1))) - 48))), (2, .int (zI 1))]) [1, 0, 2] (dk DX1_readNumber_0k 29 rfl) rfl (by decide) rfl ?_
        refine zz_aload_n hC 0 (dk DX1_readNumber_0k 30 rfl) rfl rfl ?_
        refine zz_dup hC (dk DX1_readNumber_0k 31 rfl) rfl ?_
        refine zz_get hC F_X1_31 0 rfl rfl (dk DX1_readNumber_0k 32 rfl) ?_
        refine zz_iconst hC (dk DX1_readNumber_0k 33 rfl) ?_
        refine zz_iadd hC (dk DX1_readNumber_0k 34 rfl) ?_
        refine zz_put hC F_X1_31 fc_X1 rfl (tyX1_ok 6 (by decide)) 0 (ws' := [(p0, .inr (1, [.ref p1, .int (zI ((len : Nat) : Int)), .ref p2, .ref p3, .ref p4, .int (zI ((fo : Nat) : Int)), .int (zI ((q + 2 : Nat) : Int)), .int (zI (-1))])), (p1, iA D 150 tb), (p2, iA D 30 kk), (p3, iA D 30 tt), (p4, iA D 30 ta)]) rfl rfl rfl (Nat.le_of_ble_eq_true rfl) rfl (dk DX1_readNumber_0k 35 rfl) ?_
        refine zz_iinc hC 2 (ls' := [(0, .ref p0), (1, .int (zI (((((zNx tb len q) - 48) * 10) + (zNx tb len (q + 1))) - 48))), (2, .int (zI 2))]) 2 [1, 2, 0] (dk DX1_readNumber_0k 36 rfl) rfl (by omega) (by decide) rfl ?_
        refine zz_goto hC 18 (dk DX1_readNumber_0k 37 rfl) (by decide) ?_
        refine zz_iload_n hC 2 (dk DX1_readNumber_0k 11 rfl) rfl rfl ?_
        refine zz_iconst hC (dk DX1_readNumber_0k 12 rfl) ?_
        refine zz_icmp_ge hC 67 (dk DX1_readNumber_0k 13 rfl) (by decide) ⟨(by decide), (by decide)⟩ (fun c5 => ?_) (fun c5 => ?_)
        · exfalso; omega
        · refine zz_aload_n hC 0 (dk DX1_readNumber_0k 14 rfl) rfl rfl ?_
          refine zz_get hC F_X1_34 0 rfl rfl (dk DX1_readNumber_0k 15 rfl) ?_
          refine zz_iconst hC (dk DX1_readNumber_0k 16 rfl) ?_
          refine zz_icmp_ne hC 67 (dk DX1_readNumber_0k 17 rfl) (by decide) ⟨(by decide), (by decide)⟩ (fun c6 => ?_) (fun c6 => ?_)
          · exfalso; omega
          · refine zz_aload_n hC 0 (dk DX1_readNumber_0k 18 rfl) rfl rfl ?_
            refine zz_pureVi hC (c_X1_isDigitNext l D p0 p1 p2 p3 p4 tb kk tt ta len fo (q + 2) (-1) hl hb (by omega)) G_X1_63 H_X1_isDigitNext ⟨Nat.le_of_ble_eq_true rfl, Nat.le_of_ble_eq_true rfl⟩ rfl [0, 1, 2, 3, 4] rfl rfl 0 1 ⟨rfl, rfl, rfl⟩ (As := []) (rest := []) (Nat.le_of_ble_eq_true rfl) rfl ⟨Nat.le_of_ble_eq_true rfl, Nat.le_of_ble_eq_true rfl⟩ (dk DX1_readNumber_0k 19 rfl) ⟨rfl, rfl⟩ ?_
            refine zz_ifb_eq hC 67 (dk DX1_readNumber_0k 20 rfl) (by decide) (fun c7 => ?_) (fun c7 => ?_)
            · refine zz_iload_n hC 1 (dk DX1_readNumber_0k 38 rfl) rfl rfl ?_
              exact zz_iret hC hQ hr (q + 2, -1, (((((zNx tb len q) - 48) * 10) + (zNx tb len (q + 1))) - 48)) ⟨fun h => absurd rfl h, fun _ h => absurd hd h, fun _ _ => ⟨(by unfold zNe; rw [if_pos hd, if_pos (by assumption), if_neg (by assumption)]), rfl, (by unfold zNv; rw [if_pos (by assumption), if_neg (by assumption)]; rfl)⟩⟩ rfl [0, 1, 2, 3, 4] rfl rfl ⟨Nat.le_refl _, Nat.le_refl _⟩ (dk DX1_readNumber_0k 39 rfl)
            · have hdl2 := zDg_lt (by assumption)
              refine zz_iload_n hC 1 (dk DX1_readNumber_0k 21 rfl) rfl rfl ?_
              refine zz_bipush hC (dk DX1_readNumber_0k 22 rfl) (by decide) ?_
              refine zz_imul hC (dk DX1_readNumber_0k 23 rfl) ?_
              refine zz_aload_n hC 0 (dk DX1_readNumber_0k 24 rfl) rfl rfl ?_
              refine zz_pureVi hC (c_X1_next l D p0 p1 p2 p3 p4 tb kk tt ta len fo (q + 2) (-1) hl hb (by omega)) G_X1_56 H_X1_next ⟨Nat.le_of_ble_eq_true rfl, Nat.le_of_ble_eq_true rfl⟩ rfl [0, 1, 2, 3, 4] rfl rfl 0 1 ⟨rfl, rfl, rfl⟩ (As := []) (rest := [.int (zI ((((((zNx tb len q) - 48) * 10) + (zNx tb len (q + 1))) - 48) * 10))]) (Nat.le_of_ble_eq_true rfl) rfl ⟨Nat.le_of_ble_eq_true rfl, Nat.le_of_ble_eq_true rfl⟩ (dk DX1_readNumber_0k 25 rfl) ⟨rfl, rfl⟩ ?_
              refine zz_iadd hC (dk DX1_readNumber_0k 26 rfl) ?_
              refine zz_bipush hC (dk DX1_readNumber_0k 27 rfl) (by decide) ?_
              refine zz_isub hC (dk DX1_readNumber_0k 28 rfl) ?_
              refine zz_istore_n hC (ls' := [(0, .ref p0), (1, .int (zI ((((((((zNx tb len q) - 48) * 10) + (zNx tb len (q + 1))) - 48) * 10) + (zNx tb len (q + 2))) - 48))), (2, .int (zI 2))]) [1, 0, 2] (dk DX1_readNumber_0k 29 rfl) rfl (by decide) rfl ?_
              refine zz_aload_n hC 0 (dk DX1_readNumber_0k 30 rfl) rfl rfl ?_
              refine zz_dup hC (dk DX1_readNumber_0k 31 rfl) rfl ?_
              refine zz_get hC F_X1_31 0 rfl rfl (dk DX1_readNumber_0k 32 rfl) ?_
              refine zz_iconst hC (dk DX1_readNumber_0k 33 rfl) ?_
              refine zz_iadd hC (dk DX1_readNumber_0k 34 rfl) ?_
              refine zz_put hC F_X1_31 fc_X1 rfl (tyX1_ok 6 (by decide)) 0 (ws' := [(p0, .inr (1, [.ref p1, .int (zI ((len : Nat) : Int)), .ref p2, .ref p3, .ref p4, .int (zI ((fo : Nat) : Int)), .int (zI ((q + 3 : Nat) : Int)), .int (zI (-1))])), (p1, iA D 150 tb), (p2, iA D 30 kk), (p3, iA D 30 tt), (p4, iA D 30 ta)]) rfl rfl rfl (Nat.le_of_ble_eq_true rfl) rfl (dk DX1_readNumber_0k 35 rfl) ?_
              refine zz_iinc hC 3 (ls' := [(0, .ref p0), (1, .int (zI ((((((((zNx tb len q) - 48) * 10) + (zNx tb len (q + 1))) - 48) * 10) + (zNx tb len (q + 2))) - 48))), (2, .int (zI 3))]) 2 [1, 2, 0] (dk DX1_readNumber_0k 36 rfl) rfl (by omega) (by decide) rfl ?_
              refine zz_goto hC 18 (dk DX1_readNumber_0k 37 rfl) (by decide) ?_
              refine zz_iload_n hC 2 (dk DX1_readNumber_0k 11 rfl) rfl rfl ?_
              refine zz_iconst hC (dk DX1_readNumber_0k 12 rfl) ?_
              refine zz_icmp_ge hC 67 (dk DX1_readNumber_0k 13 rfl) (by decide) ⟨(by decide), (by decide)⟩ (fun c8 => ?_) (fun c8 => ?_)
              · exfalso; omega
              · refine zz_aload_n hC 0 (dk DX1_readNumber_0k 14 rfl) rfl rfl ?_
                refine zz_get hC F_X1_34 0 rfl rfl (dk DX1_readNumber_0k 15 rfl) ?_
                refine zz_iconst hC (dk DX1_readNumber_0k 16 rfl) ?_
                refine zz_icmp_ne hC 67 (dk DX1_readNumber_0k 17 rfl) (by decide) ⟨(by decide), (by decide)⟩ (fun c9 => ?_) (fun c9 => ?_)
                · exfalso; omega
                · refine zz_aload_n hC 0 (dk DX1_readNumber_0k 18 rfl) rfl rfl ?_
                  refine zz_pureVi hC (c_X1_isDigitNext l D p0 p1 p2 p3 p4 tb kk tt ta len fo (q + 3) (-1) hl hb (by omega)) G_X1_63 H_X1_isDigitNext ⟨Nat.le_of_ble_eq_true rfl, Nat.le_of_ble_eq_true rfl⟩ rfl [0, 1, 2, 3, 4] rfl rfl 0 1 ⟨rfl, rfl, rfl⟩ (As := []) (rest := []) (Nat.le_of_ble_eq_true rfl) rfl ⟨Nat.le_of_ble_eq_true rfl, Nat.le_of_ble_eq_true rfl⟩ (dk DX1_readNumber_0k 19 rfl) ⟨rfl, rfl⟩ ?_
                  refine zz_ifb_eq hC 67 (dk DX1_readNumber_0k 20 rfl) (by decide) (fun c10 => ?_) (fun c10 => ?_)
                  · refine zz_iload_n hC 1 (dk DX1_readNumber_0k 38 rfl) rfl rfl ?_
                    exact zz_iret hC hQ hr (q + 3, -1, ((((((((zNx tb len q) - 48) * 10) + (zNx tb len (q + 1))) - 48) * 10) + (zNx tb len (q + 2))) - 48)) ⟨fun h => absurd rfl h, fun _ h => absurd hd h, fun _ _ => ⟨(by unfold zNe; rw [if_pos hd, if_pos (by assumption), if_pos (by assumption), if_neg (by assumption)]), rfl, (by unfold zNv; rw [if_pos (by assumption), if_pos (by assumption), if_neg (by assumption)]; rfl)⟩⟩ rfl [0, 1, 2, 3, 4] rfl rfl ⟨Nat.le_refl _, Nat.le_refl _⟩ (dk DX1_readNumber_0k 39 rfl)
                  · have hdl2 := zDg_lt (by assumption)
                    refine zz_iload_n hC 1 (dk DX1_readNumber_0k 21 rfl) rfl rfl ?_
                    refine zz_bipush hC (dk DX1_readNumber_0k 22 rfl) (by decide) ?_
                    refine zz_imul hC (dk DX1_readNumber_0k 23 rfl) ?_
                    refine zz_aload_n hC 0 (dk DX1_readNumber_0k 24 rfl) rfl rfl ?_
                    refine zz_pureVi hC (c_X1_next l D p0 p1 p2 p3 p4 tb kk tt ta len fo (q + 3) (-1) hl hb (by omega)) G_X1_56 H_X1_next ⟨Nat.le_of_ble_eq_true rfl, Nat.le_of_ble_eq_true rfl⟩ rfl [0, 1, 2, 3, 4] rfl rfl 0 1 ⟨rfl, rfl, rfl⟩ (As := []) (rest := [.int (zI (((((((((zNx tb len q) - 48) * 10) + (zNx tb len (q + 1))) - 48) * 10) + (zNx tb len (q + 2))) - 48) * 10))]) (Nat.le_of_ble_eq_true rfl) rfl ⟨Nat.le_of_ble_eq_true rfl, Nat.le_of_ble_eq_true rfl⟩ (dk DX1_readNumber_0k 25 rfl) ⟨rfl, rfl⟩ ?_
                    refine zz_iadd hC (dk DX1_readNumber_0k 26 rfl) ?_
                    refine zz_bipush hC (dk DX1_readNumber_0k 27 rfl) (by decide) ?_
                    refine zz_isub hC (dk DX1_readNumber_0k 28 rfl) ?_
                    refine zz_istore_n hC (ls' := [(0, .ref p0), (1, .int (zI (((((((((((zNx tb len q) - 48) * 10) + (zNx tb len (q + 1))) - 48) * 10) + (zNx tb len (q + 2))) - 48) * 10) + (zNx tb len (q + 3))) - 48))), (2, .int (zI 3))]) [1, 0, 2] (dk DX1_readNumber_0k 29 rfl) rfl (by decide) rfl ?_
                    refine zz_aload_n hC 0 (dk DX1_readNumber_0k 30 rfl) rfl rfl ?_
                    refine zz_dup hC (dk DX1_readNumber_0k 31 rfl) rfl ?_
                    refine zz_get hC F_X1_31 0 rfl rfl (dk DX1_readNumber_0k 32 rfl) ?_
                    refine zz_iconst hC (dk DX1_readNumber_0k 33 rfl) ?_
                    refine zz_iadd hC (dk DX1_readNumber_0k 34 rfl) ?_
                    refine zz_put hC F_X1_31 fc_X1 rfl (tyX1_ok 6 (by decide)) 0 (ws' := [(p0, .inr (1, [.ref p1, .int (zI ((len : Nat) : Int)), .ref p2, .ref p3, .ref p4, .int (zI ((fo : Nat) : Int)), .int (zI ((q + 4 : Nat) : Int)), .int (zI (-1))])), (p1, iA D 150 tb), (p2, iA D 30 kk), (p3, iA D 30 tt), (p4, iA D 30 ta)]) rfl rfl rfl (Nat.le_of_ble_eq_true rfl) rfl (dk DX1_readNumber_0k 35 rfl) ?_
                    refine zz_iinc hC 4 (ls' := [(0, .ref p0), (1, .int (zI (((((((((((zNx tb len q) - 48) * 10) + (zNx tb len (q + 1))) - 48) * 10) + (zNx tb len (q + 2))) - 48) * 10) + (zNx tb len (q + 3))) - 48))), (2, .int (zI 4))]) 2 [1, 2, 0] (dk DX1_readNumber_0k 36 rfl) rfl (by omega) (by decide) rfl ?_
                    refine zz_goto hC 18 (dk DX1_readNumber_0k 37 rfl) (by decide) ?_
                    refine zz_iload_n hC 2 (dk DX1_readNumber_0k 11 rfl) rfl rfl ?_
                    refine zz_iconst hC (dk DX1_readNumber_0k 12 rfl) ?_
                    refine zz_icmp_ge hC 67 (dk DX1_readNumber_0k 13 rfl) (by decide) ⟨(by decide), (by decide)⟩ (fun c11 => ?_) (fun c11 => ?_)
                    · refine zz_iload_n hC 1 (dk DX1_readNumber_0k 38 rfl) rfl rfl ?_
                      exact zz_iret hC hQ hr (q + 4, -1, (((((((((((zNx tb len q) - 48) * 10) + (zNx tb len (q + 1))) - 48) * 10) + (zNx tb len (q + 2))) - 48) * 10) + (zNx tb len (q + 3))) - 48)) ⟨fun h => absurd rfl h, fun _ h => absurd hd h, fun _ _ => ⟨(by unfold zNe; rw [if_pos hd, if_pos (by assumption), if_pos (by assumption), if_pos (by assumption)]), rfl, (by unfold zNv; rw [if_pos (by assumption), if_pos (by assumption), if_pos (by assumption)]; rfl)⟩⟩ rfl [0, 1, 2, 3, 4] rfl rfl ⟨Nat.le_refl _, Nat.le_refl _⟩ (dk DX1_readNumber_0k 39 rfl)
                    · exfalso; omega
theorem c_X1_readNumber (l : Launch) (D : zG) (p0 : Nat) (p1 : Nat) (p2 : Nat) (p3 : Nat) (p4 : Nat) (tb : Nat → Int) (kk : Nat → Int) (tt : Nat → Int) (ta : Nat → Int) (len : Nat) (fo : Nat) (q : Nat) (er : Int) (hl : len ≤ 150) (hb : ∀ j, j < len → 0 ≤ tb j ∧ tb j ≤ 127) (hq : q ≤ 150) (her : -1 ≤ er ∧ er ≤ 200) : CI (S := Nat × Int × Int) l yX1_readNumber cX1_readNumber 3 ((some .int)) ({ frames := 2, cells := 0, slots := 0, locals := 41 } : Room) D [.ref p0] [(p0, .inr (1, [.ref p1, .int (zI ((len : Nat) : Int)), .ref p2, .ref p3, .ref p4, .int (zI ((fo : Nat) : Int)), .int (zI ((q : Nat) : Int)), .int (zI er)])), (p1, iA D 150 tb), (p2, iA D 30 kk), (p3, iA D 30 tt), (p4, iA D 30 ta)] (fun u => zRn tb len q er u) (fun u => u.2.2) (fun u => [(p0, .inr (1, [.ref p1, .int (zI ((len : Nat) : Int)), .ref p2, .ref p3, .ref p4, .int (zI ((fo : Nat) : Int)), .int (zI ((u.1 : Nat) : Int)), .int (zI u.2.1)])), (p1, iA D 150 tb), (p2, iA D 30 kk), (p3, iA D 30 tt), (p4, iA D 30 ta)]) := by
  by_cases h1 : er = -1
  · by_cases h2 : zDg tb len q = true
    · exact c_X1_readNumber_c l D p0 p1 p2 p3 p4 tb kk tt ta len fo q er hl hb hq her h1 h2
    · exact c_X1_readNumber_b l D p0 p1 p2 p3 p4 tb kk tt ta len fo q er hl hb hq her h1 h2
  · exact c_X1_readNumber_a l D p0 p1 p2 p3 p4 tb kk tt ta len fo q er hl hb hq her h1

set_option maxHeartbeats 4000000 in
set_option maxRecDepth 100000 in
theorem c_X1_readSign_a (l : Launch) (D : zG) (p0 : Nat) (p1 : Nat) (p2 : Nat) (p3 : Nat) (p4 : Nat) (tb : Nat → Int) (kk : Nat → Int) (tt : Nat → Int) (ta : Nat → Int) (len : Nat) (fo : Nat) (q : Nat) (er : Int) (hl : len ≤ 150) (hb : ∀ j, j < len → 0 ≤ tb j ∧ tb j ≤ 127) (hq : q ≤ 150) (her : -1 ≤ er ∧ er ≤ 200) (hne : er ≠ -1) : CI (S := Nat × Int) l yX1_readSign cX1_readSign 2 ((some .int)) ({ frames := 1, cells := 0, slots := 0, locals := 21 } : Room) D [.ref p0] [(p0, .inr (1, [.ref p1, .int (zI ((len : Nat) : Int)), .ref p2, .ref p3, .ref p4, .int (zI ((fo : Nat) : Int)), .int (zI ((q : Nat) : Int)), .int (zI er)])), (p1, iA D 150 tb), (p2, iA D 30 kk), (p3, iA D 30 tt), (p4, iA D 30 ta)] (fun u => zRs tb len q er u) (fun u => (zSg (zNx tb len q))) (fun u => [(p0, .inr (1, [.ref p1, .int (zI ((len : Nat) : Int)), .ref p2, .ref p3, .ref p4, .int (zI ((fo : Nat) : Int)), .int (zI ((u.1 : Nat) : Int)), .int (zI u.2)])), (p1, iA D 150 tb), (p2, iA D 30 kk), (p3, iA D 30 tt), (p4, iA D 30 ta)]) := by
  refine CI_of (by decide) (Nat.le_of_ble_eq_true rfl) ?_
  intro p e s m args below meth cd A Q hQ hC hr hnm
  have hC : ZC p s m args meth cd A D 2 cX1_readSign RX1 := hC
  have hx := zNx_in (q := q) hb
  show Z p l e ({ frames := 1, cells := 0, slots := 0, locals := 21 } : Room) s m args below meth cd A D Q 2 0 0 [(p0, .inr (1, [.ref p1, .int (zI ((len : Nat) : Int)), .ref p2, .ref p3, .ref p4, .int (zI ((fo : Nat) : Int)), .int (zI ((q : Nat) : Int)), .int (zI er)])), (p1, iA D 150 tb), (p2, iA D 30 kk), (p3, iA D 30 tt), (p4, iA D 30 ta)] [(0, .ref p0)] [] 0
  refine zz_aload_n hC 0 (dk DX1_readSign_0k 0 rfl) rfl rfl ?_
  refine zz_pureVi hC (c_X1_next l D p0 p1 p2 p3 p4 tb kk tt ta len fo q er hl hb (by omega)) G_X1_56 H_X1_next ⟨Nat.le_of_ble_eq_true rfl, Nat.le_of_ble_eq_true rfl⟩ rfl [0, 1, 2, 3, 4] rfl rfl 0 1 ⟨rfl, rfl, rfl⟩ (As := []) (rest := []) (Nat.le_of_ble_eq_true rfl) rfl ⟨Nat.le_of_ble_eq_true rfl, Nat.le_of_ble_eq_true rfl⟩ (dk DX1_readSign_0k 1 rfl) ⟨rfl, rfl⟩ ?_
  refine zz_istore_n hC (ls' := [(0, .ref p0), (1, .int (zI (zNx tb len q)))]) [1, 0] (dk DX1_readSign_0k 2 rfl) rfl (by decide) rfl ?_
  refine zz_aload_n hC 0 (dk DX1_readSign_0k 3 rfl) rfl rfl ?_
  refine zz_iload_n hC 1 (dk DX1_readSign_0k 4 rfl) rfl rfl ?_
  refine zz_bipush hC (dk DX1_readSign_0k 5 rfl) (by decide) ?_
  refine zz_icmp_eq hC 18 (dk DX1_readSign_0k 6 rfl) (by decide) ⟨⟨by omega, by omega⟩, (by decide)⟩ (fun c1 => ?_) (fun c1 => ?_)
  · refine zz_iconst hC (dk DX1_readSign_0k 10 rfl) ?_
    refine zz_goto hC 23 (dk DX1_readSign_0k 11 rfl) (by decide) ?_
    refine zz_callVv hC (wr := []) (c_X1_step_n l D p0 p1 p2 p3 p4 tb kk tt ta len fo q er 1 (by omega) (by omega)) G_X1_59 H_X1_step ⟨Nat.le_of_ble_eq_true rfl, Nat.le_of_ble_eq_true rfl⟩ rfl [0, 1, 2, 3, 4] [] rfl rfl ⟨rfl, rfl, by decide⟩ 0 1 ⟨rfl, rfl, rfl⟩ (As := [.int (zI 1)]) (rest := []) (Nat.le_of_ble_eq_true rfl) rfl ⟨Nat.le_of_ble_eq_true rfl, Nat.le_of_ble_eq_true rfl⟩ (dk DX1_readSign_0k 13 rfl) ⟨rfl, rfl⟩ (wb := fun u2 => [(p0, .inr (1, [.ref p1, .int (zI ((len : Nat) : Int)), .ref p2, .ref p3, .ref p4, .int (zI ((fo : Nat) : Int)), .int (zI ((q : Nat) : Int)), .int (zI er)])), (p1, iA D 150 tb), (p2, iA D 30 kk), (p3, iA D 30 tt), (p4, iA D 30 ta)]) [0, 1, 2, 3, 4] rfl (fun _ => rfl) (fun u2 hu2 => ?_)
    refine zz_iload_n hC 1 (dk DX1_readSign_0k 14 rfl) rfl rfl ?_
    refine zz_bipush hC (dk DX1_readSign_0k 15 rfl) (by decide) ?_
    refine zz_icmp_ne hC 36 (dk DX1_readSign_0k 16 rfl) (by decide) ⟨⟨by omega, by omega⟩, (by decide)⟩ (fun c3 => ?_) (fun c3 => ?_)
    · refine zz_iconst hC (dk DX1_readSign_0k 19 rfl) ?_
      exact zz_iret hC hQ hr (q, er) ⟨fun _ => ⟨rfl, rfl⟩, fun h => absurd h hne, fun h => absurd h hne⟩ (by unfold zSg; rw [if_neg (by omega)]) [0, 1, 2, 3, 4] rfl rfl ⟨Nat.le_refl _, Nat.le_refl _⟩ (dk DX1_readSign_0k 20 rfl)
    · refine zz_iconst hC (dk DX1_readSign_0k 17 rfl) ?_
      refine zz_goto hC 37 (dk DX1_readSign_0k 18 rfl) (by decide) ?_
      exact zz_iret hC hQ hr (q, er) ⟨fun _ => ⟨rfl, rfl⟩, fun h => absurd h hne, fun h => absurd h hne⟩ (by unfold zSg; rw [if_pos (by omega)]) [0, 1, 2, 3, 4] rfl rfl ⟨Nat.le_refl _, Nat.le_refl _⟩ (dk DX1_readSign_0k 20 rfl)
  · refine zz_iload_n hC 1 (dk DX1_readSign_0k 7 rfl) rfl rfl ?_
    refine zz_bipush hC (dk DX1_readSign_0k 8 rfl) (by decide) ?_
    refine zz_icmp_ne hC 22 (dk DX1_readSign_0k 9 rfl) (by decide) ⟨⟨by omega, by omega⟩, (by decide)⟩ (fun c4 => ?_) (fun c4 => ?_)
    · refine zz_iconst hC (dk DX1_readSign_0k 12 rfl) ?_
      refine zz_callVv hC (wr := []) (c_X1_step_n l D p0 p1 p2 p3 p4 tb kk tt ta len fo q er 0 (by omega) (by omega)) G_X1_59 H_X1_step ⟨Nat.le_of_ble_eq_true rfl, Nat.le_of_ble_eq_true rfl⟩ rfl [0, 1, 2, 3, 4] [] rfl rfl ⟨rfl, rfl, by decide⟩ 0 1 ⟨rfl, rfl, rfl⟩ (As := [.int (zI 0)]) (rest := []) (Nat.le_of_ble_eq_true rfl) rfl ⟨Nat.le_of_ble_eq_true rfl, Nat.le_of_ble_eq_true rfl⟩ (dk DX1_readSign_0k 13 rfl) ⟨rfl, rfl⟩ (wb := fun u5 => [(p0, .inr (1, [.ref p1, .int (zI ((len : Nat) : Int)), .ref p2, .ref p3, .ref p4, .int (zI ((fo : Nat) : Int)), .int (zI ((q : Nat) : Int)), .int (zI er)])), (p1, iA D 150 tb), (p2, iA D 30 kk), (p3, iA D 30 tt), (p4, iA D 30 ta)]) [0, 1, 2, 3, 4] rfl (fun _ => rfl) (fun u5 hu5 => ?_)
      refine zz_iload_n hC 1 (dk DX1_readSign_0k 14 rfl) rfl rfl ?_
      refine zz_bipush hC (dk DX1_readSign_0k 15 rfl) (by decide) ?_
      refine zz_icmp_ne hC 36 (dk DX1_readSign_0k 16 rfl) (by decide) ⟨⟨by omega, by omega⟩, (by decide)⟩ (fun c6 => ?_) (fun c6 => ?_)
      · refine zz_iconst hC (dk DX1_readSign_0k 19 rfl) ?_
        exact zz_iret hC hQ hr (q, er) ⟨fun _ => ⟨rfl, rfl⟩, fun h => absurd h hne, fun h => absurd h hne⟩ (by unfold zSg; rw [if_neg (by omega)]) [0, 1, 2, 3, 4] rfl rfl ⟨Nat.le_refl _, Nat.le_refl _⟩ (dk DX1_readSign_0k 20 rfl)
      · refine zz_iconst hC (dk DX1_readSign_0k 17 rfl) ?_
        refine zz_goto hC 37 (dk DX1_readSign_0k 18 rfl) (by decide) ?_
        exact zz_iret hC hQ hr (q, er) ⟨fun _ => ⟨rfl, rfl⟩, fun h => absurd h hne, fun h => absurd h hne⟩ (by unfold zSg; rw [if_pos (by omega)]) [0, 1, 2, 3, 4] rfl rfl ⟨Nat.le_refl _, Nat.le_refl _⟩ (dk DX1_readSign_0k 20 rfl)
    · refine zz_iconst hC (dk DX1_readSign_0k 10 rfl) ?_
      refine zz_goto hC 23 (dk DX1_readSign_0k 11 rfl) (by decide) ?_
      refine zz_callVv hC (wr := []) (c_X1_step_n l D p0 p1 p2 p3 p4 tb kk tt ta len fo q er 1 (by omega) (by omega)) G_X1_59 H_X1_step ⟨Nat.le_of_ble_eq_true rfl, Nat.le_of_ble_eq_true rfl⟩ rfl [0, 1, 2, 3, 4] [] rfl rfl ⟨rfl, rfl, by decide⟩ 0 1 ⟨rfl, rfl, rfl⟩ (As := [.int (zI 1)]) (rest := []) (Nat.le_of_ble_eq_true rfl) rfl ⟨Nat.le_of_ble_eq_true rfl, Nat.le_of_ble_eq_true rfl⟩ (dk DX1_readSign_0k 13 rfl) ⟨rfl, rfl⟩ (wb := fun u7 => [(p0, .inr (1, [.ref p1, .int (zI ((len : Nat) : Int)), .ref p2, .ref p3, .ref p4, .int (zI ((fo : Nat) : Int)), .int (zI ((q : Nat) : Int)), .int (zI er)])), (p1, iA D 150 tb), (p2, iA D 30 kk), (p3, iA D 30 tt), (p4, iA D 30 ta)]) [0, 1, 2, 3, 4] rfl (fun _ => rfl) (fun u7 hu7 => ?_)
      refine zz_iload_n hC 1 (dk DX1_readSign_0k 14 rfl) rfl rfl ?_
      refine zz_bipush hC (dk DX1_readSign_0k 15 rfl) (by decide) ?_
      refine zz_icmp_ne hC 36 (dk DX1_readSign_0k 16 rfl) (by decide) ⟨⟨by omega, by omega⟩, (by decide)⟩ (fun c8 => ?_) (fun c8 => ?_)
      · refine zz_iconst hC (dk DX1_readSign_0k 19 rfl) ?_
        exact zz_iret hC hQ hr (q, er) ⟨fun _ => ⟨rfl, rfl⟩, fun h => absurd h hne, fun h => absurd h hne⟩ (by unfold zSg; rw [if_neg (by omega)]) [0, 1, 2, 3, 4] rfl rfl ⟨Nat.le_refl _, Nat.le_refl _⟩ (dk DX1_readSign_0k 20 rfl)
      · refine zz_iconst hC (dk DX1_readSign_0k 17 rfl) ?_
        refine zz_goto hC 37 (dk DX1_readSign_0k 18 rfl) (by decide) ?_
        exact zz_iret hC hQ hr (q, er) ⟨fun _ => ⟨rfl, rfl⟩, fun h => absurd h hne, fun h => absurd h hne⟩ (by unfold zSg; rw [if_pos (by omega)]) [0, 1, 2, 3, 4] rfl rfl ⟨Nat.le_refl _, Nat.le_refl _⟩ (dk DX1_readSign_0k 20 rfl)
set_option maxHeartbeats 4000000 in
set_option maxRecDepth 100000 in
theorem c_X1_readSign_b (l : Launch) (D : zG) (p0 : Nat) (p1 : Nat) (p2 : Nat) (p3 : Nat) (p4 : Nat) (tb : Nat → Int) (kk : Nat → Int) (tt : Nat → Int) (ta : Nat → Int) (len : Nat) (fo : Nat) (q : Nat) (er : Int) (hl : len ≤ 150) (hb : ∀ j, j < len → 0 ≤ tb j ∧ tb j ≤ 127) (hq : q ≤ 150) (her : -1 ≤ er ∧ er ≤ 200) (heq : er = -1) : CI (S := Nat × Int) l yX1_readSign cX1_readSign 2 ((some .int)) ({ frames := 1, cells := 0, slots := 0, locals := 21 } : Room) D [.ref p0] [(p0, .inr (1, [.ref p1, .int (zI ((len : Nat) : Int)), .ref p2, .ref p3, .ref p4, .int (zI ((fo : Nat) : Int)), .int (zI ((q : Nat) : Int)), .int (zI er)])), (p1, iA D 150 tb), (p2, iA D 30 kk), (p3, iA D 30 tt), (p4, iA D 30 ta)] (fun u => zRs tb len q er u) (fun u => (zSg (zNx tb len q))) (fun u => [(p0, .inr (1, [.ref p1, .int (zI ((len : Nat) : Int)), .ref p2, .ref p3, .ref p4, .int (zI ((fo : Nat) : Int)), .int (zI ((u.1 : Nat) : Int)), .int (zI u.2)])), (p1, iA D 150 tb), (p2, iA D 30 kk), (p3, iA D 30 tt), (p4, iA D 30 ta)]) := by
  refine CI_of (by decide) (Nat.le_of_ble_eq_true rfl) ?_
  intro p e s m args below meth cd A Q hQ hC hr hnm
  have hC : ZC p s m args meth cd A D 2 cX1_readSign RX1 := hC
  subst heq
  have hx := zNx_in (q := q) hb
  show Z p l e ({ frames := 1, cells := 0, slots := 0, locals := 21 } : Room) s m args below meth cd A D Q 2 0 0 [(p0, .inr (1, [.ref p1, .int (zI ((len : Nat) : Int)), .ref p2, .ref p3, .ref p4, .int (zI ((fo : Nat) : Int)), .int (zI ((q : Nat) : Int)), .int (zI (-1))])), (p1, iA D 150 tb), (p2, iA D 30 kk), (p3, iA D 30 tt), (p4, iA D 30 ta)] [(0, .ref p0)] [] 0
  refine zz_aload_n hC 0 (dk DX1_readSign_0k 0 rfl) rfl rfl ?_
  refine zz_pureVi hC (c_X1_next l D p0 p1 p2 p3 p4 tb kk tt ta len fo q (-1) hl hb (by omega)) G_X1_56 H_X1_next ⟨Nat.le_of_ble_eq_true rfl, Nat.le_of_ble_eq_true rfl⟩ rfl [0, 1, 2, 3, 4] rfl rfl 0 1 ⟨rfl, rfl, rfl⟩ (As := []) (rest := []) (Nat.le_of_ble_eq_true rfl) rfl ⟨Nat.le_of_ble_eq_true rfl, Nat.le_of_ble_eq_true rfl⟩ (dk DX1_readSign_0k 1 rfl) ⟨rfl, rfl⟩ ?_
  refine zz_istore_n hC (ls' := [(0, .ref p0), (1, .int (zI (zNx tb len q)))]) [1, 0] (dk DX1_readSign_0k 2 rfl) rfl (by decide) rfl ?_
  refine zz_aload_n hC 0 (dk DX1_readSign_0k 3 rfl) rfl rfl ?_
  refine zz_iload_n hC 1 (dk DX1_readSign_0k 4 rfl) rfl rfl ?_
  refine zz_bipush hC (dk DX1_readSign_0k 5 rfl) (by decide) ?_
  refine zz_icmp_eq hC 18 (dk DX1_readSign_0k 6 rfl) (by decide) ⟨⟨by omega, by omega⟩, (by decide)⟩ (fun c1 => ?_) (fun c1 => ?_)
  · refine zz_iconst hC (dk DX1_readSign_0k 10 rfl) ?_
    refine zz_goto hC 23 (dk DX1_readSign_0k 11 rfl) (by decide) ?_
    refine zz_callVv hC (wr := []) (c_X1_step_y l D p0 p1 p2 p3 p4 tb kk tt ta len fo q (by omega)) G_X1_59 H_X1_step ⟨Nat.le_of_ble_eq_true rfl, Nat.le_of_ble_eq_true rfl⟩ rfl [0, 1, 2, 3, 4] [] rfl rfl ⟨rfl, rfl, by decide⟩ 0 1 ⟨rfl, rfl, rfl⟩ (As := [.int (zI 1)]) (rest := []) (Nat.le_of_ble_eq_true rfl) rfl ⟨Nat.le_of_ble_eq_true rfl, Nat.le_of_ble_eq_true rfl⟩ (dk DX1_readSign_0k 13 rfl) ⟨rfl, rfl⟩ (wb := fun u2 => [(p0, .inr (1, [.ref p1, .int (zI ((len : Nat) : Int)), .ref p2, .ref p3, .ref p4, .int (zI ((fo : Nat) : Int)), .int (zI ((q + 1 : Nat) : Int)), .int (zI (-1))])), (p1, iA D 150 tb), (p2, iA D 30 kk), (p3, iA D 30 tt), (p4, iA D 30 ta)]) [0, 1, 2, 3, 4] rfl (fun _ => rfl) (fun u2 hu2 => ?_)
    refine zz_iload_n hC 1 (dk DX1_readSign_0k 14 rfl) rfl rfl ?_
    refine zz_bipush hC (dk DX1_readSign_0k 15 rfl) (by decide) ?_
    refine zz_icmp_ne hC 36 (dk DX1_readSign_0k 16 rfl) (by decide) ⟨⟨by omega, by omega⟩, (by decide)⟩ (fun c3 => ?_) (fun c3 => ?_)
    · refine zz_iconst hC (dk DX1_readSign_0k 19 rfl) ?_
      exact zz_iret hC hQ hr (q + 1, (-1)) ⟨fun h => absurd rfl h, fun _ h => absurd (by unfold zSo; omega) h, fun _ _ => ⟨rfl, rfl⟩⟩ (by unfold zSg; rw [if_neg (by omega)]) [0, 1, 2, 3, 4] rfl rfl ⟨Nat.le_refl _, Nat.le_refl _⟩ (dk DX1_readSign_0k 20 rfl)
    · refine zz_iconst hC (dk DX1_readSign_0k 17 rfl) ?_
      refine zz_goto hC 37 (dk DX1_readSign_0k 18 rfl) (by decide) ?_
      exact zz_iret hC hQ hr (q + 1, (-1)) ⟨fun h => absurd rfl h, fun _ h => absurd (by unfold zSo; omega) h, fun _ _ => ⟨rfl, rfl⟩⟩ (by unfold zSg; rw [if_pos (by omega)]) [0, 1, 2, 3, 4] rfl rfl ⟨Nat.le_refl _, Nat.le_refl _⟩ (dk DX1_readSign_0k 20 rfl)
  · refine zz_iload_n hC 1 (dk DX1_readSign_0k 7 rfl) rfl rfl ?_
    refine zz_bipush hC (dk DX1_readSign_0k 8 rfl) (by decide) ?_
    refine zz_icmp_ne hC 22 (dk DX1_readSign_0k 9 rfl) (by decide) ⟨⟨by omega, by omega⟩, (by decide)⟩ (fun c4 => ?_) (fun c4 => ?_)
    · refine zz_iconst hC (dk DX1_readSign_0k 12 rfl) ?_
      refine zz_callVv hC (wr := []) (c_X1_step_e l D p0 p1 p2 p3 p4 tb kk tt ta len fo q (by omega)) G_X1_59 H_X1_step ⟨Nat.le_of_ble_eq_true rfl, Nat.le_of_ble_eq_true rfl⟩ rfl [0, 1, 2, 3, 4] [] rfl rfl ⟨rfl, rfl, by decide⟩ 0 1 ⟨rfl, rfl, rfl⟩ (As := [.int (zI 0)]) (rest := []) (Nat.le_of_ble_eq_true rfl) rfl ⟨Nat.le_of_ble_eq_true rfl, Nat.le_of_ble_eq_true rfl⟩ (dk DX1_readSign_0k 13 rfl) ⟨rfl, rfl⟩ (wb := fun u5 => [(p0, .inr (1, [.ref p1, .int (zI ((len : Nat) : Int)), .ref p2, .ref p3, .ref p4, .int (zI ((fo : Nat) : Int)), .int (zI ((q : Nat) : Int)), .int (zI ((q : Nat) : Int))])), (p1, iA D 150 tb), (p2, iA D 30 kk), (p3, iA D 30 tt), (p4, iA D 30 ta)]) [0, 1, 2, 3, 4] rfl (fun _ => rfl) (fun u5 hu5 => ?_)
      refine zz_iload_n hC 1 (dk DX1_readSign_0k 14 rfl) rfl rfl ?_
      refine zz_bipush hC (dk DX1_readSign_0k 15 rfl) (by decide) ?_
      refine zz_icmp_ne hC 36 (dk DX1_readSign_0k 16 rfl) (by decide) ⟨⟨by omega, by omega⟩, (by decide)⟩ (fun c6 => ?_) (fun c6 => ?_)
      · refine zz_iconst hC (dk DX1_readSign_0k 19 rfl) ?_
        exact zz_iret hC hQ hr (q, ((q : Nat) : Int)) ⟨fun h => absurd rfl h, fun _ _ => ⟨rfl, rfl⟩, fun _ h => absurd h (by unfold zSo; omega)⟩ (by unfold zSg; rw [if_neg (by omega)]) [0, 1, 2, 3, 4] rfl rfl ⟨Nat.le_refl _, Nat.le_refl _⟩ (dk DX1_readSign_0k 20 rfl)
      · refine zz_iconst hC (dk DX1_readSign_0k 17 rfl) ?_
        refine zz_goto hC 37 (dk DX1_readSign_0k 18 rfl) (by decide) ?_
        exact zz_iret hC hQ hr (q, ((q : Nat) : Int)) ⟨fun h => absurd rfl h, fun _ _ => ⟨rfl, rfl⟩, fun _ h => absurd h (by unfold zSo; omega)⟩ (by unfold zSg; rw [if_pos (by omega)]) [0, 1, 2, 3, 4] rfl rfl ⟨Nat.le_refl _, Nat.le_refl _⟩ (dk DX1_readSign_0k 20 rfl)
    · refine zz_iconst hC (dk DX1_readSign_0k 10 rfl) ?_
      refine zz_goto hC 23 (dk DX1_readSign_0k 11 rfl) (by decide) ?_
      refine zz_callVv hC (wr := []) (c_X1_step_y l D p0 p1 p2 p3 p4 tb kk tt ta len fo q (by omega)) G_X1_59 H_X1_step ⟨Nat.le_of_ble_eq_true rfl, Nat.le_of_ble_eq_true rfl⟩ rfl [0, 1, 2, 3, 4] [] rfl rfl ⟨rfl, rfl, by decide⟩ 0 1 ⟨rfl, rfl, rfl⟩ (As := [.int (zI 1)]) (rest := []) (Nat.le_of_ble_eq_true rfl) rfl ⟨Nat.le_of_ble_eq_true rfl, Nat.le_of_ble_eq_true rfl⟩ (dk DX1_readSign_0k 13 rfl) ⟨rfl, rfl⟩ (wb := fun u7 => [(p0, .inr (1, [.ref p1, .int (zI ((len : Nat) : Int)), .ref p2, .ref p3, .ref p4, .int (zI ((fo : Nat) : Int)), .int (zI ((q + 1 : Nat) : Int)), .int (zI (-1))])), (p1, iA D 150 tb), (p2, iA D 30 kk), (p3, iA D 30 tt), (p4, iA D 30 ta)]) [0, 1, 2, 3, 4] rfl (fun _ => rfl) (fun u7 hu7 => ?_)
      refine zz_iload_n hC 1 (dk DX1_readSign_0k 14 rfl) rfl rfl ?_
      refine zz_bipush hC (dk DX1_readSign_0k 15 rfl) (by decide) ?_
      refine zz_icmp_ne hC 36 (dk DX1_readSign_0k 16 rfl) (by decide) ⟨⟨by omega, by omega⟩, (by decide)⟩ (fun c8 => ?_) (fun c8 => ?_)
      · refine zz_iconst hC (dk DX1_readSign_0k 19 rfl) ?_
        exact zz_iret hC hQ hr (q + 1, (-1)) ⟨fun h => absurd rfl h, fun _ h => absurd (by unfold zSo; omega) h, fun _ _ => ⟨rfl, rfl⟩⟩ (by unfold zSg; rw [if_neg (by omega)]) [0, 1, 2, 3, 4] rfl rfl ⟨Nat.le_refl _, Nat.le_refl _⟩ (dk DX1_readSign_0k 20 rfl)
      · refine zz_iconst hC (dk DX1_readSign_0k 17 rfl) ?_
        refine zz_goto hC 37 (dk DX1_readSign_0k 18 rfl) (by decide) ?_
        exact zz_iret hC hQ hr (q + 1, (-1)) ⟨fun h => absurd rfl h, fun _ h => absurd (by unfold zSo; omega) h, fun _ _ => ⟨rfl, rfl⟩⟩ (by unfold zSg; rw [if_pos (by omega)]) [0, 1, 2, 3, 4] rfl rfl ⟨Nat.le_refl _, Nat.le_refl _⟩ (dk DX1_readSign_0k 20 rfl)
theorem c_X1_readSign (l : Launch) (D : zG) (p0 : Nat) (p1 : Nat) (p2 : Nat) (p3 : Nat) (p4 : Nat) (tb : Nat → Int) (kk : Nat → Int) (tt : Nat → Int) (ta : Nat → Int) (len : Nat) (fo : Nat) (q : Nat) (er : Int) (hl : len ≤ 150) (hb : ∀ j, j < len → 0 ≤ tb j ∧ tb j ≤ 127) (hq : q ≤ 150) (her : -1 ≤ er ∧ er ≤ 200) : CI (S := Nat × Int) l yX1_readSign cX1_readSign 2 ((some .int)) ({ frames := 1, cells := 0, slots := 0, locals := 21 } : Room) D [.ref p0] [(p0, .inr (1, [.ref p1, .int (zI ((len : Nat) : Int)), .ref p2, .ref p3, .ref p4, .int (zI ((fo : Nat) : Int)), .int (zI ((q : Nat) : Int)), .int (zI er)])), (p1, iA D 150 tb), (p2, iA D 30 kk), (p3, iA D 30 tt), (p4, iA D 30 ta)] (fun u => zRs tb len q er u) (fun u => (zSg (zNx tb len q))) (fun u => [(p0, .inr (1, [.ref p1, .int (zI ((len : Nat) : Int)), .ref p2, .ref p3, .ref p4, .int (zI ((fo : Nat) : Int)), .int (zI ((u.1 : Nat) : Int)), .int (zI u.2)])), (p1, iA D 150 tb), (p2, iA D 30 kk), (p3, iA D 30 tt), (p4, iA D 30 ta)]) := by
  by_cases h1 : er = -1
  · exact c_X1_readSign_b l D p0 p1 p2 p3 p4 tb kk tt ta len fo q er hl hb hq her h1
  · exact c_X1_readSign_a l D p0 p1 p2 p3 p4 tb kk tt ta len fo q er hl hb hq her h1

set_option maxHeartbeats 4000000 in
set_option maxRecDepth 100000 in
theorem c_X1_readSemicolon_a (l : Launch) (D : zG) (p0 : Nat) (p1 : Nat) (p2 : Nat) (p3 : Nat) (p4 : Nat) (tb : Nat → Int) (kk : Nat → Int) (tt : Nat → Int) (ta : Nat → Int) (len : Nat) (fo : Nat) (q : Nat) (er : Int) (hl : len ≤ 150) (hb : ∀ j, j < len → 0 ≤ tb j ∧ tb j ≤ 127) (hq : q ≤ 150) (her : -1 ≤ er ∧ er ≤ 200) (hne : er ≠ -1) : CV (S := Nat × Int) l yX1_readSemicolon cX1_readSemicolon 1 (none) ({ frames := 1, cells := 0, slots := 0, locals := 21 } : Room) D [.ref p0] [(p0, .inr (1, [.ref p1, .int (zI ((len : Nat) : Int)), .ref p2, .ref p3, .ref p4, .int (zI ((fo : Nat) : Int)), .int (zI ((q : Nat) : Int)), .int (zI er)])), (p1, iA D 150 tb), (p2, iA D 30 kk), (p3, iA D 30 tt), (p4, iA D 30 ta)] (fun u => zRc tb len q er u)  (fun u => [(p0, .inr (1, [.ref p1, .int (zI ((len : Nat) : Int)), .ref p2, .ref p3, .ref p4, .int (zI ((fo : Nat) : Int)), .int (zI ((u.1 : Nat) : Int)), .int (zI u.2)])), (p1, iA D 150 tb), (p2, iA D 30 kk), (p3, iA D 30 tt), (p4, iA D 30 ta)]) := by
  refine CV_of (by decide) (Nat.le_of_ble_eq_true rfl) ?_
  intro p e s m args below meth cd A Q hQ hC hr hnm
  have hC : ZC p s m args meth cd A D 1 cX1_readSemicolon RX1 := hC
  have hx := zNx_in (q := q) hb
  show Z p l e ({ frames := 1, cells := 0, slots := 0, locals := 21 } : Room) s m args below meth cd A D Q 1 0 0 [(p0, .inr (1, [.ref p1, .int (zI ((len : Nat) : Int)), .ref p2, .ref p3, .ref p4, .int (zI ((fo : Nat) : Int)), .int (zI ((q : Nat) : Int)), .int (zI er)])), (p1, iA D 150 tb), (p2, iA D 30 kk), (p3, iA D 30 tt), (p4, iA D 30 ta)] [(0, .ref p0)] [] 0
  refine zz_aload_n hC 0 (dk DX1_readSemicolon_0k 0 rfl) rfl rfl ?_
  refine zz_aload_n hC 0 (dk DX1_readSemicolon_0k 1 rfl) rfl rfl ?_
  refine zz_pureVi hC (c_X1_next l D p0 p1 p2 p3 p4 tb kk tt ta len fo q er hl hb (by omega)) G_X1_56 H_X1_next ⟨Nat.le_of_ble_eq_true rfl, Nat.le_of_ble_eq_true rfl⟩ rfl [0, 1, 2, 3, 4] rfl rfl 0 1 ⟨rfl, rfl, rfl⟩ (As := []) (rest := [.ref p0]) (Nat.le_of_ble_eq_true rfl) rfl ⟨Nat.le_of_ble_eq_true rfl, Nat.le_of_ble_eq_true rfl⟩ (dk DX1_readSemicolon_0k 2 rfl) ⟨rfl, rfl⟩ ?_
  refine zz_bipush hC (dk DX1_readSemicolon_0k 3 rfl) (by decide) ?_
  refine zz_icmp_ne hC 14 (dk DX1_readSemicolon_0k 4 rfl) (by decide) ⟨⟨by omega, by omega⟩, (by decide)⟩ (fun c1 => ?_) (fun c1 => ?_)
  · refine zz_iconst hC (dk DX1_readSemicolon_0k 7 rfl) ?_
    refine zz_callVv hC (wr := []) (c_X1_step_n l D p0 p1 p2 p3 p4 tb kk tt ta len fo q er 0 (by omega) (by omega)) G_X1_59 H_X1_step ⟨Nat.le_of_ble_eq_true rfl, Nat.le_of_ble_eq_true rfl⟩ rfl [0, 1, 2, 3, 4] [] rfl rfl ⟨rfl, rfl, by decide⟩ 0 1 ⟨rfl, rfl, rfl⟩ (As := [.int (zI 0)]) (rest := []) (Nat.le_of_ble_eq_true rfl) rfl ⟨Nat.le_of_ble_eq_true rfl, Nat.le_of_ble_eq_true rfl⟩ (dk DX1_readSemicolon_0k 8 rfl) ⟨rfl, rfl⟩ (wb := fun u2 => [(p0, .inr (1, [.ref p1, .int (zI ((len : Nat) : Int)), .ref p2, .ref p3, .ref p4, .int (zI ((fo : Nat) : Int)), .int (zI ((q : Nat) : Int)), .int (zI er)])), (p1, iA D 150 tb), (p2, iA D 30 kk), (p3, iA D 30 tt), (p4, iA D 30 ta)]) [0, 1, 2, 3, 4] rfl (fun _ => rfl) (fun u2 hu2 => ?_)
    exact zz_ret hC hQ hr (q, er) ⟨fun _ => ⟨rfl, rfl⟩, fun h => absurd h hne, fun h => absurd h hne⟩ [0, 1, 2, 3, 4] rfl rfl ⟨Nat.le_refl _, Nat.le_refl _⟩ (dk DX1_readSemicolon_0k 9 rfl)
  · refine zz_iconst hC (dk DX1_readSemicolon_0k 5 rfl) ?_
    refine zz_goto hC 15 (dk DX1_readSemicolon_0k 6 rfl) (by decide) ?_
    refine zz_callVv hC (wr := []) (c_X1_step_n l D p0 p1 p2 p3 p4 tb kk tt ta len fo q er 1 (by omega) (by omega)) G_X1_59 H_X1_step ⟨Nat.le_of_ble_eq_true rfl, Nat.le_of_ble_eq_true rfl⟩ rfl [0, 1, 2, 3, 4] [] rfl rfl ⟨rfl, rfl, by decide⟩ 0 1 ⟨rfl, rfl, rfl⟩ (As := [.int (zI 1)]) (rest := []) (Nat.le_of_ble_eq_true rfl) rfl ⟨Nat.le_of_ble_eq_true rfl, Nat.le_of_ble_eq_true rfl⟩ (dk DX1_readSemicolon_0k 8 rfl) ⟨rfl, rfl⟩ (wb := fun u3 => [(p0, .inr (1, [.ref p1, .int (zI ((len : Nat) : Int)), .ref p2, .ref p3, .ref p4, .int (zI ((fo : Nat) : Int)), .int (zI ((q : Nat) : Int)), .int (zI er)])), (p1, iA D 150 tb), (p2, iA D 30 kk), (p3, iA D 30 tt), (p4, iA D 30 ta)]) [0, 1, 2, 3, 4] rfl (fun _ => rfl) (fun u3 hu3 => ?_)
    exact zz_ret hC hQ hr (q, er) ⟨fun _ => ⟨rfl, rfl⟩, fun h => absurd h hne, fun h => absurd h hne⟩ [0, 1, 2, 3, 4] rfl rfl ⟨Nat.le_refl _, Nat.le_refl _⟩ (dk DX1_readSemicolon_0k 9 rfl)
set_option maxHeartbeats 4000000 in
set_option maxRecDepth 100000 in
theorem c_X1_readSemicolon_b (l : Launch) (D : zG) (p0 : Nat) (p1 : Nat) (p2 : Nat) (p3 : Nat) (p4 : Nat) (tb : Nat → Int) (kk : Nat → Int) (tt : Nat → Int) (ta : Nat → Int) (len : Nat) (fo : Nat) (q : Nat) (er : Int) (hl : len ≤ 150) (hb : ∀ j, j < len → 0 ≤ tb j ∧ tb j ≤ 127) (hq : q ≤ 150) (her : -1 ≤ er ∧ er ≤ 200) (heq : er = -1) : CV (S := Nat × Int) l yX1_readSemicolon cX1_readSemicolon 1 (none) ({ frames := 1, cells := 0, slots := 0, locals := 21 } : Room) D [.ref p0] [(p0, .inr (1, [.ref p1, .int (zI ((len : Nat) : Int)), .ref p2, .ref p3, .ref p4, .int (zI ((fo : Nat) : Int)), .int (zI ((q : Nat) : Int)), .int (zI er)])), (p1, iA D 150 tb), (p2, iA D 30 kk), (p3, iA D 30 tt), (p4, iA D 30 ta)] (fun u => zRc tb len q er u)  (fun u => [(p0, .inr (1, [.ref p1, .int (zI ((len : Nat) : Int)), .ref p2, .ref p3, .ref p4, .int (zI ((fo : Nat) : Int)), .int (zI ((u.1 : Nat) : Int)), .int (zI u.2)])), (p1, iA D 150 tb), (p2, iA D 30 kk), (p3, iA D 30 tt), (p4, iA D 30 ta)]) := by
  refine CV_of (by decide) (Nat.le_of_ble_eq_true rfl) ?_
  intro p e s m args below meth cd A Q hQ hC hr hnm
  have hC : ZC p s m args meth cd A D 1 cX1_readSemicolon RX1 := hC
  subst heq
  have hx := zNx_in (q := q) hb
  show Z p l e ({ frames := 1, cells := 0, slots := 0, locals := 21 } : Room) s m args below meth cd A D Q 1 0 0 [(p0, .inr (1, [.ref p1, .int (zI ((len : Nat) : Int)), .ref p2, .ref p3, .ref p4, .int (zI ((fo : Nat) : Int)), .int (zI ((q : Nat) : Int)), .int (zI (-1))])), (p1, iA D 150 tb), (p2, iA D 30 kk), (p3, iA D 30 tt), (p4, iA D 30 ta)] [(0, .ref p0)] [] 0
  refine zz_aload_n hC 0 (dk DX1_readSemicolon_0k 0 rfl) rfl rfl ?_
  refine zz_aload_n hC 0 (dk DX1_readSemicolon_0k 1 rfl) rfl rfl ?_
  refine zz_pureVi hC (c_X1_next l D p0 p1 p2 p3 p4 tb kk tt ta len fo q (-1) hl hb (by omega)) G_X1_56 H_X1_next ⟨Nat.le_of_ble_eq_true rfl, Nat.le_of_ble_eq_true rfl⟩ rfl [0, 1, 2, 3, 4] rfl rfl 0 1 ⟨rfl, rfl, rfl⟩ (As := []) (rest := [.ref p0]) (Nat.le_of_ble_eq_true rfl) rfl ⟨Nat.le_of_ble_eq_true rfl, Nat.le_of_ble_eq_true rfl⟩ (dk DX1_readSemicolon_0k 2 rfl) ⟨rfl, rfl⟩ ?_
  refine zz_bipush hC (dk DX1_readSemicolon_0k 3 rfl) (by decide) ?_
  refine zz_icmp_ne hC 14 (dk DX1_readSemicolon_0k 4 rfl) (by decide) ⟨⟨by omega, by omega⟩, (by decide)⟩ (fun c1 => ?_) (fun c1 => ?_)
  · refine zz_iconst hC (dk DX1_readSemicolon_0k 7 rfl) ?_
    refine zz_callVv hC (wr := []) (c_X1_step_e l D p0 p1 p2 p3 p4 tb kk tt ta len fo q (by omega)) G_X1_59 H_X1_step ⟨Nat.le_of_ble_eq_true rfl, Nat.le_of_ble_eq_true rfl⟩ rfl [0, 1, 2, 3, 4] [] rfl rfl ⟨rfl, rfl, by decide⟩ 0 1 ⟨rfl, rfl, rfl⟩ (As := [.int (zI 0)]) (rest := []) (Nat.le_of_ble_eq_true rfl) rfl ⟨Nat.le_of_ble_eq_true rfl, Nat.le_of_ble_eq_true rfl⟩ (dk DX1_readSemicolon_0k 8 rfl) ⟨rfl, rfl⟩ (wb := fun u2 => [(p0, .inr (1, [.ref p1, .int (zI ((len : Nat) : Int)), .ref p2, .ref p3, .ref p4, .int (zI ((fo : Nat) : Int)), .int (zI ((q : Nat) : Int)), .int (zI ((q : Nat) : Int))])), (p1, iA D 150 tb), (p2, iA D 30 kk), (p3, iA D 30 tt), (p4, iA D 30 ta)]) [0, 1, 2, 3, 4] rfl (fun _ => rfl) (fun u2 hu2 => ?_)
    exact zz_ret hC hQ hr (q, ((q : Nat) : Int)) ⟨fun h => absurd rfl h, fun _ _ => ⟨rfl, rfl⟩, fun _ h => absurd h (by assumption)⟩ [0, 1, 2, 3, 4] rfl rfl ⟨Nat.le_refl _, Nat.le_refl _⟩ (dk DX1_readSemicolon_0k 9 rfl)
  · refine zz_iconst hC (dk DX1_readSemicolon_0k 5 rfl) ?_
    refine zz_goto hC 15 (dk DX1_readSemicolon_0k 6 rfl) (by decide) ?_
    refine zz_callVv hC (wr := []) (c_X1_step_y l D p0 p1 p2 p3 p4 tb kk tt ta len fo q (by omega)) G_X1_59 H_X1_step ⟨Nat.le_of_ble_eq_true rfl, Nat.le_of_ble_eq_true rfl⟩ rfl [0, 1, 2, 3, 4] [] rfl rfl ⟨rfl, rfl, by decide⟩ 0 1 ⟨rfl, rfl, rfl⟩ (As := [.int (zI 1)]) (rest := []) (Nat.le_of_ble_eq_true rfl) rfl ⟨Nat.le_of_ble_eq_true rfl, Nat.le_of_ble_eq_true rfl⟩ (dk DX1_readSemicolon_0k 8 rfl) ⟨rfl, rfl⟩ (wb := fun u3 => [(p0, .inr (1, [.ref p1, .int (zI ((len : Nat) : Int)), .ref p2, .ref p3, .ref p4, .int (zI ((fo : Nat) : Int)), .int (zI ((q + 1 : Nat) : Int)), .int (zI (-1))])), (p1, iA D 150 tb), (p2, iA D 30 kk), (p3, iA D 30 tt), (p4, iA D 30 ta)]) [0, 1, 2, 3, 4] rfl (fun _ => rfl) (fun u3 hu3 => ?_)
    exact zz_ret hC hQ hr (q + 1, (-1)) ⟨fun h => absurd rfl h, fun _ h => absurd (by assumption) h, fun _ _ => ⟨rfl, rfl⟩⟩ [0, 1, 2, 3, 4] rfl rfl ⟨Nat.le_refl _, Nat.le_refl _⟩ (dk DX1_readSemicolon_0k 9 rfl)
theorem c_X1_readSemicolon (l : Launch) (D : zG) (p0 : Nat) (p1 : Nat) (p2 : Nat) (p3 : Nat) (p4 : Nat) (tb : Nat → Int) (kk : Nat → Int) (tt : Nat → Int) (ta : Nat → Int) (len : Nat) (fo : Nat) (q : Nat) (er : Int) (hl : len ≤ 150) (hb : ∀ j, j < len → 0 ≤ tb j ∧ tb j ≤ 127) (hq : q ≤ 150) (her : -1 ≤ er ∧ er ≤ 200) : CV (S := Nat × Int) l yX1_readSemicolon cX1_readSemicolon 1 (none) ({ frames := 1, cells := 0, slots := 0, locals := 21 } : Room) D [.ref p0] [(p0, .inr (1, [.ref p1, .int (zI ((len : Nat) : Int)), .ref p2, .ref p3, .ref p4, .int (zI ((fo : Nat) : Int)), .int (zI ((q : Nat) : Int)), .int (zI er)])), (p1, iA D 150 tb), (p2, iA D 30 kk), (p3, iA D 30 tt), (p4, iA D 30 ta)] (fun u => zRc tb len q er u)  (fun u => [(p0, .inr (1, [.ref p1, .int (zI ((len : Nat) : Int)), .ref p2, .ref p3, .ref p4, .int (zI ((fo : Nat) : Int)), .int (zI ((u.1 : Nat) : Int)), .int (zI u.2)])), (p1, iA D 150 tb), (p2, iA D 30 kk), (p3, iA D 30 tt), (p4, iA D 30 ta)]) := by
  by_cases h1 : er = -1
  · exact c_X1_readSemicolon_b l D p0 p1 p2 p3 p4 tb kk tt ta len fo q er hl hb hq her h1
  · exact c_X1_readSemicolon_a l D p0 p1 p2 p3 p4 tb kk tt ta len fo q er hl hb hq her h1

set_option maxHeartbeats 4000000 in
set_option maxRecDepth 100000 in
theorem c_X1_readAmplitude (l : Launch) (D : zG) (p0 : Nat) (p1 : Nat) (p2 : Nat) (p3 : Nat) (p4 : Nat) (tb : Nat → Int) (kk : Nat → Int) (tt : Nat → Int) (ta : Nat → Int) (len : Nat) (fo : Nat) (q : Nat) (er : Int) (hl : len ≤ 150) (hb : ∀ j, j < len → 0 ≤ tb j ∧ tb j ≤ 127) (hq : q ≤ 150) (her : -1 ≤ er ∧ er ≤ 200) : CI (S := Nat × Int × Int) l yX1_readAmplitude cX1_readAmplitude 3 ((some .int)) ({ frames := 3, cells := 0, slots := 0, locals := 63 } : Room) D [.ref p0] [(p0, .inr (1, [.ref p1, .int (zI ((len : Nat) : Int)), .ref p2, .ref p3, .ref p4, .int (zI ((fo : Nat) : Int)), .int (zI ((q : Nat) : Int)), .int (zI er)])), (p1, iA D 150 tb), (p2, iA D 30 kk), (p3, iA D 30 tt), (p4, iA D 30 ta)] (fun u => zRa tb len q er u) (fun u => u.2.2) (fun u => [(p0, .inr (1, [.ref p1, .int (zI ((len : Nat) : Int)), .ref p2, .ref p3, .ref p4, .int (zI ((fo : Nat) : Int)), .int (zI ((u.1 : Nat) : Int)), .int (zI u.2.1)])), (p1, iA D 150 tb), (p2, iA D 30 kk), (p3, iA D 30 tt), (p4, iA D 30 ta)]) := by
  refine CI_of (by decide) (Nat.le_of_ble_eq_true rfl) ?_
  intro p e s m args below meth cd A Q hQ hC hr hnm
  have hC : ZC p s m args meth cd A D 3 cX1_readAmplitude RX1 := hC
  show Z p l e ({ frames := 3, cells := 0, slots := 0, locals := 63 } : Room) s m args below meth cd A D Q 3 0 0 [(p0, .inr (1, [.ref p1, .int (zI ((len : Nat) : Int)), .ref p2, .ref p3, .ref p4, .int (zI ((fo : Nat) : Int)), .int (zI ((q : Nat) : Int)), .int (zI er)])), (p1, iA D 150 tb), (p2, iA D 30 kk), (p3, iA D 30 tt), (p4, iA D 30 ta)] [(0, .ref p0)] [] 0
  refine zz_aload_n hC 0 (dk DX1_readAmplitude_0k 0 rfl) rfl rfl ?_
  refine zz_get hC F_X1_31 0 rfl rfl (dk DX1_readAmplitude_0k 1 rfl) ?_
  refine zz_istore_n hC (ls' := [(0, .ref p0), (1, .int (zI ((q : Nat) : Int)))]) [1, 0] (dk DX1_readAmplitude_0k 2 rfl) rfl (by decide) rfl ?_
  refine zz_aload_n hC 0 (dk DX1_readAmplitude_0k 3 rfl) rfl rfl ?_
  refine zz_callVi hC (wr := []) (c_X1_readNumber l D p0 p1 p2 p3 p4 tb kk tt ta len fo q er hl hb (by omega) (by omega)) G_X1_44 H_X1_readNumber ⟨Nat.le_of_ble_eq_true rfl, Nat.le_of_ble_eq_true rfl⟩ rfl [0, 1, 2, 3, 4] [] rfl rfl ⟨rfl, rfl, by decide⟩ 0 1 ⟨rfl, rfl, rfl⟩ (As := []) (rest := []) (Nat.le_of_ble_eq_true rfl) rfl ⟨Nat.le_of_ble_eq_true rfl, Nat.le_of_ble_eq_true rfl⟩ (dk DX1_readAmplitude_0k 4 rfl) ⟨rfl, rfl⟩ (wb := fun u1 => [(p0, .inr (1, [.ref p1, .int (zI ((len : Nat) : Int)), .ref p2, .ref p3, .ref p4, .int (zI ((fo : Nat) : Int)), .int (zI ((u1.1 : Nat) : Int)), .int (zI u1.2.1)])), (p1, iA D 150 tb), (p2, iA D 30 kk), (p3, iA D 30 tt), (p4, iA D 30 ta)]) [0, 1, 2, 3, 4] rfl (fun _ => rfl) (fun u1 hu1 => ?_)
  have hu1r := rn_r hl (by omega) (by omega) hu1
  refine zz_istore_n hC (ls' := [(0, .ref p0), (1, .int (zI ((q : Nat) : Int))), (2, .int (zI u1.2.2))]) [1, 2, 0] (dk DX1_readAmplitude_0k 5 rfl) rfl (by decide) rfl ?_
  refine zz_aload_n hC 0 (dk DX1_readAmplitude_0k 6 rfl) rfl rfl ?_
  refine zz_get hC F_X1_34 0 rfl rfl (dk DX1_readAmplitude_0k 7 rfl) ?_
  refine zz_iconst hC (dk DX1_readAmplitude_0k 8 rfl) ?_
  refine zz_icmp_ne hC 37 (dk DX1_readAmplitude_0k 9 rfl) (by decide) ⟨⟨by omega, by omega⟩, (by decide)⟩ (fun c2 => ?_) (fun c2 => ?_)
  · refine zz_iload_n hC 2 (dk DX1_readAmplitude_0k 19 rfl) rfl rfl ?_
    exact zz_iret hC hQ hr (u1.1, u1.2.1, u1.2.2) (by first | exact ra_no hu1 (by assumption) | exact ra_lo hu1 (by assumption) (by assumption) | exact ra_dg hu1 (by assumption) (by assumption)) rfl [0, 1, 2, 3, 4] rfl rfl ⟨Nat.le_refl _, Nat.le_refl _⟩ (dk DX1_readAmplitude_0k 20 rfl)
  · obtain ⟨he9, hd9, ea9, eb9, ec9⟩ := rn_ok hu1 (by assumption)
    refine zz_iload_n hC 2 (dk DX1_readAmplitude_0k 10 rfl) rfl rfl ?_
    refine zz_sipush hC (dk DX1_readAmplitude_0k 11 rfl) (by decide) ?_
    refine zz_icmp_le hC 37 (dk DX1_readAmplitude_0k 12 rfl) (by decide) ⟨⟨by omega, by omega⟩, (by decide)⟩ (fun c3 => ?_) (fun c3 => ?_)
    · refine zz_iload_n hC 2 (dk DX1_readAmplitude_0k 19 rfl) rfl rfl ?_
      exact zz_iret hC hQ hr (u1.1, u1.2.1, u1.2.2) (by first | exact ra_no hu1 (by assumption) | exact ra_lo hu1 (by assumption) (by assumption) | exact ra_dg hu1 (by assumption) (by assumption)) rfl [0, 1, 2, 3, 4] rfl rfl ⟨Nat.le_refl _, Nat.le_refl _⟩ (dk DX1_readAmplitude_0k 20 rfl)
    · refine zz_aload_n hC 0 (dk DX1_readAmplitude_0k 13 rfl) rfl rfl ?_
      refine zz_pureVi hC (c_X1_isDigitNext l D p0 p1 p2 p3 p4 tb kk tt ta len fo u1.1 u1.2.1 hl hb (by omega)) G_X1_63 H_X1_isDigitNext ⟨Nat.le_of_ble_eq_true rfl, Nat.le_of_ble_eq_true rfl⟩ rfl [0, 1, 2, 3, 4] rfl rfl 0 1 ⟨rfl, rfl, rfl⟩ (As := []) (rest := []) (Nat.le_of_ble_eq_true rfl) rfl ⟨Nat.le_of_ble_eq_true rfl, Nat.le_of_ble_eq_true rfl⟩ (dk DX1_readAmplitude_0k 14 rfl) ⟨rfl, rfl⟩ ?_
      refine zz_ifb_ne hC 37 (dk DX1_readAmplitude_0k 15 rfl) (by decide) (fun c4 => ?_) (fun c4 => ?_)
      · refine zz_iload_n hC 2 (dk DX1_readAmplitude_0k 19 rfl) rfl rfl ?_
        exact zz_iret hC hQ hr (u1.1, u1.2.1, u1.2.2) (by first | exact ra_no hu1 (by assumption) | exact ra_lo hu1 (by assumption) (by assumption) | exact ra_dg hu1 (by assumption) (by assumption)) rfl [0, 1, 2, 3, 4] rfl rfl ⟨Nat.le_refl _, Nat.le_refl _⟩ (dk DX1_readAmplitude_0k 20 rfl)
      · refine zz_aload_n hC 0 (dk DX1_readAmplitude_0k 16 rfl) rfl rfl ?_
        refine zz_iload_n hC 1 (dk DX1_readAmplitude_0k 17 rfl) rfl rfl ?_
        refine zz_put hC F_X1_34 fc_X1 rfl (tyX1_ok 7 (by decide)) 0 (ws' := [(p0, .inr (1, [.ref p1, .int (zI ((len : Nat) : Int)), .ref p2, .ref p3, .ref p4, .int (zI ((fo : Nat) : Int)), .int (zI ((u1.1 : Nat) : Int)), .int (zI ((q : Nat) : Int))])), (p1, iA D 150 tb), (p2, iA D 30 kk), (p3, iA D 30 tt), (p4, iA D 30 ta)]) rfl rfl rfl (Nat.le_of_ble_eq_true rfl) rfl (dk DX1_readAmplitude_0k 18 rfl) ?_
        refine zz_iload_n hC 2 (dk DX1_readAmplitude_0k 19 rfl) rfl rfl ?_
        exact zz_iret hC hQ hr (u1.1, ((q : Nat) : Int), u1.2.2) (ra_hi hu1 (by assumption) (by assumption) (by assumption)) rfl [0, 1, 2, 3, 4] rfl rfl ⟨Nat.le_refl _, Nat.le_refl _⟩ (dk DX1_readAmplitude_0k 20 rfl)
set_option maxHeartbeats 4000000 in
set_option maxRecDepth 100000 in
theorem c_X1_readPulse (l : Launch) (D : zG) (p0 : Nat) (p1 : Nat) (p2 : Nat) (p3 : Nat) (p4 : Nat) (tb : Nat → Int) (kk : Nat → Int) (tt : Nat → Int) (ta : Nat → Int) (len : Nat) (fo : Nat) (q : Nat) (hl : len ≤ 150) (hb : ∀ j, j < len → 0 ≤ tb j ∧ tb j ≤ 127) (hq : q ≤ 150) (hfo : fo < 30) : CV (S := Nat × Nat × (Nat → Int) × (Nat → Int) × (Nat → Int)) l yX1_readPulse cX1_readPulse 5 (none) ({ frames := 4, cells := 0, slots := 0, locals := 85 } : Room) D [.ref p0] [(p0, .inr (1, [.ref p1, .int (zI ((len : Nat) : Int)), .ref p2, .ref p3, .ref p4, .int (zI ((fo : Nat) : Int)), .int (zI ((q : Nat) : Int)), .int (zI (-1))])), (p1, iA D 150 tb), (p2, iA D 30 kk), (p3, iA D 30 tt), (p4, iA D 30 ta)] (fun u => zRp tb len q fo kk tt ta u)  (fun u => [(p0, .inr (1, [.ref p1, .int (zI ((len : Nat) : Int)), .ref p2, .ref p3, .ref p4, .int (zI ((u.2.1 : Nat) : Int)), .int (zI ((u.1 : Nat) : Int)), .int (zI (zPe tb len q))])), (p1, iA D 150 tb), (p2, iA D 30 u.2.2.1), (p3, iA D 30 u.2.2.2.1), (p4, iA D 30 u.2.2.2.2)]) := by
  refine CV_of (by decide) (Nat.le_of_ble_eq_true rfl) ?_
  intro p e s m args below meth cd A Q hQ hC hr hnm
  have hC : ZC p s m args meth cd A D 5 cX1_readPulse RX1 := hC
  show Z p l e ({ frames := 4, cells := 0, slots := 0, locals := 85 } : Room) s m args below meth cd A D Q 5 0 0 [(p0, .inr (1, [.ref p1, .int (zI ((len : Nat) : Int)), .ref p2, .ref p3, .ref p4, .int (zI ((fo : Nat) : Int)), .int (zI ((q : Nat) : Int)), .int (zI (-1))])), (p1, iA D 150 tb), (p2, iA D 30 kk), (p3, iA D 30 tt), (p4, iA D 30 ta)] [(0, .ref p0)] [] 0
  refine zz_aload_n hC 0 (dk DX1_readPulse_0k 0 rfl) rfl rfl ?_
  refine zz_callVi hC (wr := []) (c_X1_readKind l D p0 p1 p2 p3 p4 tb kk tt ta len fo q hl hb (by omega)) G_X1_40 H_X1_readKind ⟨Nat.le_of_ble_eq_true rfl, Nat.le_of_ble_eq_true rfl⟩ rfl [0, 1, 2, 3, 4] [] rfl rfl ⟨rfl, rfl, by decide⟩ 0 1 ⟨rfl, rfl, rfl⟩ (As := []) (rest := []) (Nat.le_of_ble_eq_true rfl) rfl ⟨Nat.le_of_ble_eq_true rfl, Nat.le_of_ble_eq_true rfl⟩ (dk DX1_readPulse_0k 1 rfl) ⟨rfl, rfl⟩ (wb := fun u1 => [(p0, .inr (1, [.ref p1, .int (zI ((len : Nat) : Int)), .ref p2, .ref p3, .ref p4, .int (zI ((fo : Nat) : Int)), .int (zI ((u1.1 : Nat) : Int)), .int (zI u1.2)])), (p1, iA D 150 tb), (p2, iA D 30 kk), (p3, iA D 30 tt), (p4, iA D 30 ta)]) [0, 1, 2, 3, 4] rfl (fun _ => rfl) (fun u1 hu1 => ?_)
  have hu1r := rk_r hl hq hu1
  refine zz_istore_n hC (ls' := [(0, .ref p0), (1, .int (zI (zKd (zNx tb len q))))]) [1, 0] (dk DX1_readPulse_0k 2 rfl) rfl (by decide) rfl ?_
  refine zz_aload_n hC 0 (dk DX1_readPulse_0k 3 rfl) rfl rfl ?_
  refine zz_callVi hC (wr := []) (c_X1_readNumber l D p0 p1 p2 p3 p4 tb kk tt ta len fo u1.1 u1.2 hl hb (by omega) (by omega)) G_X1_44 H_X1_readNumber ⟨Nat.le_of_ble_eq_true rfl, Nat.le_of_ble_eq_true rfl⟩ rfl [0, 1, 2, 3, 4] [] rfl rfl ⟨rfl, rfl, by decide⟩ 0 1 ⟨rfl, rfl, rfl⟩ (As := []) (rest := []) (Nat.le_of_ble_eq_true rfl) rfl ⟨Nat.le_of_ble_eq_true rfl, Nat.le_of_ble_eq_true rfl⟩ (dk DX1_readPulse_0k 4 rfl) ⟨rfl, rfl⟩ (wb := fun u2 => [(p0, .inr (1, [.ref p1, .int (zI ((len : Nat) : Int)), .ref p2, .ref p3, .ref p4, .int (zI ((fo : Nat) : Int)), .int (zI ((u2.1 : Nat) : Int)), .int (zI u2.2.1)])), (p1, iA D 150 tb), (p2, iA D 30 kk), (p3, iA D 30 tt), (p4, iA D 30 ta)]) [0, 1, 2, 3, 4] rfl (fun _ => rfl) (fun u2 hu2 => ?_)
  have hu2r := rn_r hl (by omega) (by omega) hu2
  refine zz_istore_n hC (ls' := [(0, .ref p0), (1, .int (zI (zKd (zNx tb len q)))), (2, .int (zI u2.2.2))]) [1, 2, 0] (dk DX1_readPulse_0k 5 rfl) rfl (by decide) rfl ?_
  refine zz_aload_n hC 0 (dk DX1_readPulse_0k 6 rfl) rfl rfl ?_
  refine zz_callVi hC (wr := []) (c_X1_readSign l D p0 p1 p2 p3 p4 tb kk tt ta len fo u2.1 u2.2.1 hl hb (by omega) (by omega)) G_X1_47 H_X1_readSign ⟨Nat.le_of_ble_eq_true rfl, Nat.le_of_ble_eq_true rfl⟩ rfl [0, 1, 2, 3, 4] [] rfl rfl ⟨rfl, rfl, by decide⟩ 0 1 ⟨rfl, rfl, rfl⟩ (As := []) (rest := []) (Nat.le_of_ble_eq_true rfl) rfl ⟨Nat.le_of_ble_eq_true rfl, Nat.le_of_ble_eq_true rfl⟩ (dk DX1_readPulse_0k 7 rfl) ⟨rfl, rfl⟩ (wb := fun u3 => [(p0, .inr (1, [.ref p1, .int (zI ((len : Nat) : Int)), .ref p2, .ref p3, .ref p4, .int (zI ((fo : Nat) : Int)), .int (zI ((u3.1 : Nat) : Int)), .int (zI u3.2)])), (p1, iA D 150 tb), (p2, iA D 30 kk), (p3, iA D 30 tt), (p4, iA D 30 ta)]) [0, 1, 2, 3, 4] rfl (fun _ => rfl) (fun u3 hu3 => ?_)
  have hu3r := rs_r hl (by omega) (by omega) hu3
  refine zz_istore_n hC (ls' := [(0, .ref p0), (1, .int (zI (zKd (zNx tb len q)))), (2, .int (zI u2.2.2)), (3, .int (zI (zSg (zNx tb len u2.1))))]) [1, 2, 3, 0] (dk DX1_readPulse_0k 8 rfl) rfl (by decide) rfl ?_
  refine zz_aload_n hC 0 (dk DX1_readPulse_0k 9 rfl) rfl rfl ?_
  refine zz_callVi hC (wr := []) (c_X1_readAmplitude l D p0 p1 p2 p3 p4 tb kk tt ta len fo u3.1 u3.2 hl hb (by omega) (by omega)) G_X1_50 H_X1_readAmplitude ⟨Nat.le_of_ble_eq_true rfl, Nat.le_of_ble_eq_true rfl⟩ rfl [0, 1, 2, 3, 4] [] rfl rfl ⟨rfl, rfl, by decide⟩ 0 1 ⟨rfl, rfl, rfl⟩ (As := []) (rest := []) (Nat.le_of_ble_eq_true rfl) rfl ⟨Nat.le_of_ble_eq_true rfl, Nat.le_of_ble_eq_true rfl⟩ (dk DX1_readPulse_0k 10 rfl) ⟨rfl, rfl⟩ (wb := fun u4 => [(p0, .inr (1, [.ref p1, .int (zI ((len : Nat) : Int)), .ref p2, .ref p3, .ref p4, .int (zI ((fo : Nat) : Int)), .int (zI ((u4.1 : Nat) : Int)), .int (zI u4.2.1)])), (p1, iA D 150 tb), (p2, iA D 30 kk), (p3, iA D 30 tt), (p4, iA D 30 ta)]) [0, 1, 2, 3, 4] rfl (fun _ => rfl) (fun u4 hu4 => ?_)
  have hu4r := ra_r hl (by omega) (by omega) hu4
  refine zz_istore hC (ls' := [(0, .ref p0), (1, .int (zI (zKd (zNx tb len q)))), (2, .int (zI u2.2.2)), (3, .int (zI (zSg (zNx tb len u2.1)))), (4, .int (zI u4.2.2))]) [1, 2, 3, 4, 0] (dk DX1_readPulse_0k 11 rfl) (by decide) rfl ?_
  refine zz_aload_n hC 0 (dk DX1_readPulse_0k 12 rfl) rfl rfl ?_
  refine zz_callVv hC (wr := []) (c_X1_readSemicolon l D p0 p1 p2 p3 p4 tb kk tt ta len fo u4.1 u4.2.1 hl hb (by omega) (by omega)) G_X1_53 H_X1_readSemicolon ⟨Nat.le_of_ble_eq_true rfl, Nat.le_of_ble_eq_true rfl⟩ rfl [0, 1, 2, 3, 4] [] rfl rfl ⟨rfl, rfl, by decide⟩ 0 1 ⟨rfl, rfl, rfl⟩ (As := []) (rest := []) (Nat.le_of_ble_eq_true rfl) rfl ⟨Nat.le_of_ble_eq_true rfl, Nat.le_of_ble_eq_true rfl⟩ (dk DX1_readPulse_0k 13 rfl) ⟨rfl, rfl⟩ (wb := fun u5 => [(p0, .inr (1, [.ref p1, .int (zI ((len : Nat) : Int)), .ref p2, .ref p3, .ref p4, .int (zI ((fo : Nat) : Int)), .int (zI ((u5.1 : Nat) : Int)), .int (zI u5.2)])), (p1, iA D 150 tb), (p2, iA D 30 kk), (p3, iA D 30 tt), (p4, iA D 30 ta)]) [0, 1, 2, 3, 4] rfl (fun _ => rfl) (fun u5 hu5 => ?_)
  have hu5r := rc_r hl (by omega) (by omega) hu5
  have hall := rp_all hu1 hu2 hu3 hu4 hu5
  refine zz_aload_n hC 0 (dk DX1_readPulse_0k 14 rfl) rfl rfl ?_
  refine zz_get hC F_X1_34 0 rfl rfl (dk DX1_readPulse_0k 15 rfl) ?_
  refine zz_iconst hC (dk DX1_readPulse_0k 16 rfl) ?_
  refine zz_icmp_ne hC 85 (dk DX1_readPulse_0k 17 rfl) (by decide) ⟨⟨by omega, by omega⟩, (by decide)⟩ (fun c6 => ?_) (fun c6 => ?_)
  · have hc9 : u5.2 ≠ -1 := by assumption
    rw [hall.1] at hc9 ⊢
    exact zz_ret hC hQ hr (u5.1, fo, kk, tt, ta) (rp_n hu5r.1 hc9) [0, 1, 2, 3, 4] rfl rfl ⟨Nat.le_refl _, Nat.le_refl _⟩ (dk DX1_readPulse_0k 48 rfl)
  · have hc9 : u5.2 = -1 := by assumption
    refine zz_aload_n hC 0 (dk DX1_readPulse_0k 18 rfl) rfl rfl ?_
    refine zz_get hC F_X1_28 0 rfl rfl (dk DX1_readPulse_0k 19 rfl) ?_
    refine zz_bipush hC (dk DX1_readPulse_0k 20 rfl) (by decide) ?_
    refine zz_icmp_ge hC 85 (dk DX1_readPulse_0k 21 rfl) (by decide) ⟨⟨by omega, by omega⟩, (by decide)⟩ (fun c7 => ?_) (fun c7 => ?_)
    · exfalso; omega
    · refine zz_aload_n hC 0 (dk DX1_readPulse_0k 22 rfl) rfl rfl ?_
      refine zz_get hC F_X1_19 0 rfl rfl (dk DX1_readPulse_0k 23 rfl) ?_
      refine zz_aload_n hC 0 (dk DX1_readPulse_0k 24 rfl) rfl rfl ?_
      refine zz_get hC F_X1_28 0 rfl rfl (dk DX1_readPulse_0k 25 rfl) ?_
      refine zz_iload_n hC 1 (dk DX1_readPulse_0k 26 rfl) rfl rfl ?_
      refine zz_iast hC (ws' := [(p0, .inr (1, [.ref p1, .int (zI ((len : Nat) : Int)), .ref p2, .ref p3, .ref p4, .int (zI ((fo : Nat) : Int)), .int (zI ((u5.1 : Nat) : Int)), .int (zI u5.2)])), (p1, iA D 150 tb), (p2, iA D 30 (zU kk fo (zKd (zNx tb len q)))), (p3, iA D 30 tt), (p4, iA D 30 ta)]) fo 2 rfl rfl (by omega) rfl (dk DX1_readPulse_0k 27 rfl) ?_
      refine zz_aload_n hC 0 (dk DX1_readPulse_0k 28 rfl) rfl rfl ?_
      refine zz_get hC F_X1_22 0 rfl rfl (dk DX1_readPulse_0k 29 rfl) ?_
      refine zz_aload_n hC 0 (dk DX1_readPulse_0k 30 rfl) rfl rfl ?_
      refine zz_get hC F_X1_28 0 rfl rfl (dk DX1_readPulse_0k 31 rfl) ?_
      refine zz_iload_n hC 2 (dk DX1_readPulse_0k 32 rfl) rfl rfl ?_
      refine zz_iast hC (ws' := [(p0, .inr (1, [.ref p1, .int (zI ((len : Nat) : Int)), .ref p2, .ref p3, .ref p4, .int (zI ((fo : Nat) : Int)), .int (zI ((u5.1 : Nat) : Int)), .int (zI u5.2)])), (p1, iA D 150 tb), (p2, iA D 30 (zU kk fo (zKd (zNx tb len q)))), (p3, iA D 30 (zU tt fo u2.2.2)), (p4, iA D 30 ta)]) fo 3 rfl rfl (by omega) rfl (dk DX1_readPulse_0k 33 rfl) ?_
      refine zz_aload_n hC 0 (dk DX1_readPulse_0k 34 rfl) rfl rfl ?_
      refine zz_get hC F_X1_25 0 rfl rfl (dk DX1_readPulse_0k 35 rfl) ?_
      refine zz_aload_n hC 0 (dk DX1_readPulse_0k 36 rfl) rfl rfl ?_
      refine zz_get hC F_X1_28 0 rfl rfl (dk DX1_readPulse_0k 37 rfl) ?_
      refine zz_iload_n hC 3 (dk DX1_readPulse_0k 38 rfl) rfl rfl ?_
      refine zz_iload hC 4 (dk DX1_readPulse_0k 39 rfl) rfl ?_
      refine zz_imul hC (dk DX1_readPulse_0k 40 rfl) ?_
      refine zz_iast hC (ws' := [(p0, .inr (1, [.ref p1, .int (zI ((len : Nat) : Int)), .ref p2, .ref p3, .ref p4, .int (zI ((fo : Nat) : Int)), .int (zI ((u5.1 : Nat) : Int)), .int (zI u5.2)])), (p1, iA D 150 tb), (p2, iA D 30 (zU kk fo (zKd (zNx tb len q)))), (p3, iA D 30 (zU tt fo u2.2.2)), (p4, iA D 30 (zU ta fo ((zSg (zNx tb len u2.1)) * u4.2.2)))]) fo 4 rfl rfl (by omega) rfl (dk DX1_readPulse_0k 41 rfl) ?_
      refine zz_aload_n hC 0 (dk DX1_readPulse_0k 42 rfl) rfl rfl ?_
      refine zz_dup hC (dk DX1_readPulse_0k 43 rfl) rfl ?_
      refine zz_get hC F_X1_28 0 rfl rfl (dk DX1_readPulse_0k 44 rfl) ?_
      refine zz_iconst hC (dk DX1_readPulse_0k 45 rfl) ?_
      refine zz_iadd hC (dk DX1_readPulse_0k 46 rfl) ?_
      refine zz_put hC F_X1_28 fc_X1 rfl (tyX1_ok 5 (by decide)) 0 (ws' := [(p0, .inr (1, [.ref p1, .int (zI ((len : Nat) : Int)), .ref p2, .ref p3, .ref p4, .int (zI ((fo + 1 : Nat) : Int)), .int (zI ((u5.1 : Nat) : Int)), .int (zI u5.2)])), (p1, iA D 150 tb), (p2, iA D 30 (zU kk fo (zKd (zNx tb len q)))), (p3, iA D 30 (zU tt fo u2.2.2)), (p4, iA D 30 (zU ta fo ((zSg (zNx tb len u2.1)) * u4.2.2)))]) rfl rfl rfl (Nat.le_of_ble_eq_true rfl) rfl (dk DX1_readPulse_0k 47 rfl) ?_
      rw [hall.1] at hc9 ⊢
      exact zz_ret hC hQ hr (u5.1, fo + 1, zU kk fo (zKd (zNx tb len q)), zU tt fo u2.2.2, zU ta fo ((zSg (zNx tb len u2.1)) * u4.2.2)) (rp_y hu5r.1 hall.2 hc9 rfl) [0, 1, 2, 3, 4] rfl rfl ⟨Nat.le_refl _, Nat.le_refl _⟩ (dk DX1_readPulse_0k 48 rfl)
set_option maxHeartbeats 4000000 in
set_option maxRecDepth 100000 in
theorem c_X1_read (l : Launch) (D : zG) (p0 : Nat) (p1 : Nat) (p2 : Nat) (p3 : Nat) (p4 : Nat) (tb : Nat → Int) (kk : Nat → Int) (tt : Nat → Int) (ta : Nat → Int) (len : Nat) (fo : Nat) (q : Nat) (er : Int) (hl : len ≤ 150) (hb : ∀ j, j < len → 0 ≤ tb j ∧ tb j ≤ 127) : CI (S := Nat × Int × Nat × (Nat → Int) × (Nat → Int) × (Nat → Int)) l yX1_read cX1_read 2 ((some .int)) ({ frames := 5, cells := 0, slots := 0, locals := 109 } : Room) D [.ref p0] [(p0, .inr (1, [.ref p1, .int (zI ((len : Nat) : Int)), .ref p2, .ref p3, .ref p4, .int (zI ((fo : Nat) : Int)), .int (zI ((q : Nat) : Int)), .int (zI er)])), (p1, iA D 150 tb), (p2, iA D 30 kk), (p3, iA D 30 tt), (p4, iA D 30 ta)] (fun u => (zTxt tb len u.2.2.1 u.2.1 ∧ zTa tb len u.2.2.2.1 u.2.2.2.2.1 u.2.2.2.2.2 u.2.2.1 ∧ u.2.2.1 ≤ 30) ∧ u.1 ≤ 150 ∧ -1 ≤ u.2.1 ∧ u.2.1 ≤ 200) (fun u => u.2.1) (fun u => [(p0, .inr (1, [.ref p1, .int (zI ((len : Nat) : Int)), .ref p2, .ref p3, .ref p4, .int (zI ((u.2.2.1 : Nat) : Int)), .int (zI ((u.1 : Nat) : Int)), .int (zI u.2.1)])), (p1, iA D 150 tb), (p2, iA D 30 u.2.2.2.1), (p3, iA D 30 u.2.2.2.2.1), (p4, iA D 30 u.2.2.2.2.2)]) := by
  refine CI_of (by decide) (Nat.le_of_ble_eq_true rfl) ?_
  intro p e s m args below meth cd A Q hQ hC hr hnm
  have hC : ZC p s m args meth cd A D 2 cX1_read RX1 := hC
  show Z p l e ({ frames := 5, cells := 0, slots := 0, locals := 109 } : Room) s m args below meth cd A D Q 2 0 0 [(p0, .inr (1, [.ref p1, .int (zI ((len : Nat) : Int)), .ref p2, .ref p3, .ref p4, .int (zI ((fo : Nat) : Int)), .int (zI ((q : Nat) : Int)), .int (zI er)])), (p1, iA D 150 tb), (p2, iA D 30 kk), (p3, iA D 30 tt), (p4, iA D 30 ta)] [(0, .ref p0)] [] 0
  refine zz_aload_n hC 0 (dk DX1_read_0k 0 rfl) rfl rfl ?_
  refine zz_iconst hC (dk DX1_read_0k 1 rfl) ?_
  refine zz_put hC F_X1_28 fc_X1 rfl (tyX1_ok 5 (by decide)) 0 (ws' := [(p0, .inr (1, [.ref p1, .int (zI ((len : Nat) : Int)), .ref p2, .ref p3, .ref p4, .int (zI 0), .int (zI ((q : Nat) : Int)), .int (zI er)])), (p1, iA D 150 tb), (p2, iA D 30 kk), (p3, iA D 30 tt), (p4, iA D 30 ta)]) rfl rfl rfl (Nat.le_of_ble_eq_true rfl) rfl (dk DX1_read_0k 2 rfl) ?_
  refine zz_aload_n hC 0 (dk DX1_read_0k 3 rfl) rfl rfl ?_
  refine zz_iconst hC (dk DX1_read_0k 4 rfl) ?_
  refine zz_put hC F_X1_31 fc_X1 rfl (tyX1_ok 6 (by decide)) 0 (ws' := [(p0, .inr (1, [.ref p1, .int (zI ((len : Nat) : Int)), .ref p2, .ref p3, .ref p4, .int (zI 0), .int (zI 0), .int (zI er)])), (p1, iA D 150 tb), (p2, iA D 30 kk), (p3, iA D 30 tt), (p4, iA D 30 ta)]) rfl rfl rfl (Nat.le_of_ble_eq_true rfl) rfl (dk DX1_read_0k 5 rfl) ?_
  refine zz_aload_n hC 0 (dk DX1_read_0k 6 rfl) rfl rfl ?_
  refine zz_iconst hC (dk DX1_read_0k 7 rfl) ?_
  refine zz_put hC F_X1_34 fc_X1 rfl (tyX1_ok 7 (by decide)) 0 (ws' := [(p0, .inr (1, [.ref p1, .int (zI ((len : Nat) : Int)), .ref p2, .ref p3, .ref p4, .int (zI 0), .int (zI 0), .int (zI (-1))])), (p1, iA D 150 tb), (p2, iA D 30 kk), (p3, iA D 30 tt), (p4, iA D 30 ta)]) rfl rfl rfl (Nat.le_of_ble_eq_true rfl) rfl (dk DX1_read_0k 8 rfl) ?_
  refine zz_iconst hC (dk DX1_read_0k 9 rfl) ?_
  refine zz_istore_n hC (ls' := [(0, .ref p0), (1, .int (zI 0))]) [1, 0] (dk DX1_read_0k 10 rfl) rfl (by decide) rfl ?_
  have LP17 : ∀ (fuel17 : Nat) (i : Nat) (q1 : Nat) (er1 : Int) (fo1 : Nat) (kk1 : Nat → Int) (tt1 : Nat → Int) (ta1 : Nat → Int), (i ≤ 30) → (zRl tb len i q1 fo1 er1 kk1 tt1 ta1) → (q1 ≤ 150 ∧ -1 ≤ er1 ∧ er1 ≤ 200) → 30 - i < fuel17 → Z p l e ({ frames := 5, cells := 0, slots := 0, locals := 109 } : Room) s m args below meth cd A D Q 2 0 0 [(p0, .inr (1, [.ref p1, .int (zI ((len : Nat) : Int)), .ref p2, .ref p3, .ref p4, .int (zI ((fo1 : Nat) : Int)), .int (zI ((q1 : Nat) : Int)), .int (zI er1)])), (p1, iA D 150 tb), (p2, iA D 30 kk1), (p3, iA D 30 tt1), (p4, iA D 30 ta1)] [(0, .ref p0), (1, .int (zI ((i : Nat) : Int)))] [] 17 := by
    intro fuel17
    induction fuel17 with
    | zero => intro i q1 er1 fo1 kk1 tt1 ta1 hi hm hr1 hfu; exact absurd hfu (Nat.not_lt_zero _)
    | succ fuel17 ih17 =>
      intro i q1 er1 fo1 kk1 tt1 ta1 hi hm hr1 hfu17
      refine zz_iload_n hC 1 (dk DX1_read_0k 11 rfl) rfl rfl ?_
      refine zz_bipush hC (dk DX1_read_0k 12 rfl) (by decide) ?_
      refine zz_icmp_ge hC 52 (dk DX1_read_0k 13 rfl) (by decide) ⟨⟨by omega, by omega⟩, (by decide)⟩ (fun c1 => ?_) (fun c1 => ?_)
      · refine zz_aload_n hC 0 (dk DX1_read_0k 27 rfl) rfl rfl ?_
        refine zz_get hC F_X1_34 0 rfl rfl (dk DX1_read_0k 28 rfl) ?_
        exact zz_iret hC hQ hr (q1, er1, fo1, kk1, tt1, ta1) ⟨rl_e hl hm (by first | exact Or.inl (by omega) | exact Or.inr (Or.inl (by omega)) | exact Or.inr (Or.inr (by assumption))) hi, hr1.1, hr1.2.1, hr1.2.2⟩ rfl [0, 1, 2, 3, 4] rfl rfl ⟨Nat.le_refl _, Nat.le_refl _⟩ (dk DX1_read_0k 29 rfl)
      · refine zz_aload_n hC 0 (dk DX1_read_0k 14 rfl) rfl rfl ?_
        refine zz_get hC F_X1_31 0 rfl rfl (dk DX1_read_0k 15 rfl) ?_
        refine zz_aload_n hC 0 (dk DX1_read_0k 16 rfl) rfl rfl ?_
        refine zz_get hC F_X1_15 0 rfl rfl (dk DX1_read_0k 17 rfl) ?_
        refine zz_icmp_ge hC 52 (dk DX1_read_0k 18 rfl) (by decide) ⟨⟨by omega, by omega⟩, ⟨by omega, by omega⟩⟩ (fun c2 => ?_) (fun c2 => ?_)
        · refine zz_aload_n hC 0 (dk DX1_read_0k 27 rfl) rfl rfl ?_
          refine zz_get hC F_X1_34 0 rfl rfl (dk DX1_read_0k 28 rfl) ?_
          exact zz_iret hC hQ hr (q1, er1, fo1, kk1, tt1, ta1) ⟨rl_e hl hm (by first | exact Or.inl (by omega) | exact Or.inr (Or.inl (by omega)) | exact Or.inr (Or.inr (by assumption))) hi, hr1.1, hr1.2.1, hr1.2.2⟩ rfl [0, 1, 2, 3, 4] rfl rfl ⟨Nat.le_refl _, Nat.le_refl _⟩ (dk DX1_read_0k 29 rfl)
        · refine zz_aload_n hC 0 (dk DX1_read_0k 19 rfl) rfl rfl ?_
          refine zz_get hC F_X1_34 0 rfl rfl (dk DX1_read_0k 20 rfl) ?_
          refine zz_iconst hC (dk DX1_read_0k 21 rfl) ?_
          refine zz_icmp_ne hC 52 (dk DX1_read_0k 22 rfl) (by decide) ⟨⟨by omega, by omega⟩, (by decide)⟩ (fun c3 => ?_) (fun c3 => ?_)
          · refine zz_aload_n hC 0 (dk DX1_read_0k 27 rfl) rfl rfl ?_
            refine zz_get hC F_X1_34 0 rfl rfl (dk DX1_read_0k 28 rfl) ?_
            exact zz_iret hC hQ hr (q1, er1, fo1, kk1, tt1, ta1) ⟨rl_e hl hm (by first | exact Or.inl (by omega) | exact Or.inr (Or.inl (by omega)) | exact Or.inr (Or.inr (by assumption))) hi, hr1.1, hr1.2.1, hr1.2.2⟩ rfl [0, 1, 2, 3, 4] rfl rfl ⟨Nat.le_refl _, Nat.le_refl _⟩ (dk DX1_read_0k 29 rfl)
          · have he9 : er1 = -1 := by assumption
            subst he9
            have hfo9 : fo1 = i := hm.elim (fun h => h.2.1) (fun h => absurd rfl h.1)
            refine zz_aload_n hC 0 (dk DX1_read_0k 23 rfl) rfl rfl ?_
            refine zz_callVv hC (wr := []) (c_X1_readPulse l D p0 p1 p2 p3 p4 tb kk1 tt1 ta1 len fo1 q1 hl hb (by omega) (by omega)) G_X1_37 H_X1_readPulse ⟨Nat.le_of_ble_eq_true rfl, Nat.le_of_ble_eq_true rfl⟩ rfl [0, 1, 2, 3, 4] [] rfl rfl ⟨rfl, rfl, by decide⟩ 0 1 ⟨rfl, rfl, rfl⟩ (As := []) (rest := []) (Nat.le_of_ble_eq_true rfl) rfl ⟨Nat.le_of_ble_eq_true rfl, Nat.le_of_ble_eq_true rfl⟩ (dk DX1_read_0k 24 rfl) ⟨rfl, rfl⟩ (wb := fun u4 => [(p0, .inr (1, [.ref p1, .int (zI ((len : Nat) : Int)), .ref p2, .ref p3, .ref p4, .int (zI ((u4.2.1 : Nat) : Int)), .int (zI ((u4.1 : Nat) : Int)), .int (zI (zPe tb len q1))])), (p1, iA D 150 tb), (p2, iA D 30 u4.2.2.1), (p3, iA D 30 u4.2.2.2.1), (p4, iA D 30 u4.2.2.2.2)]) [0, 1, 2, 3, 4] rfl (fun _ => rfl) (fun u4 hu4 => ?_)
            refine zz_iinc hC ((i + 1 : Nat) : Int) (ls' := [(0, .ref p0), (1, .int (zI ((i + 1 : Nat) : Int)))]) 1 [1, 0] (dk DX1_read_0k 25 rfl) rfl (by omega) (by decide) rfl ?_
            refine zz_goto hC 17 (dk DX1_read_0k 26 rfl) (by decide) ?_
            refine zz_ls [0, 1] rfl ?_
            exact ih17 (i + 1) u4.1 (zPe tb len q1) u4.2.1 u4.2.2.1 u4.2.2.2.1 u4.2.2.2.2 (by omega) (rl_s (by omega) (by omega) rfl hm hu4) (by have h8 := hu4.1; have h9 := zPe_in (tb := tb) hl (show q1 < len by omega); omega) (by omega)
  refine zz_ls [0, 1] rfl ?_
  exact LP17 _ 0 0 (-1) 0 kk tt ta (by omega) (Or.inl ⟨rfl, rfl, rfl, fun j hj => absurd hj (by omega), fun j hj => absurd hj (by omega)⟩) (by omega) (Nat.lt_succ_self _)
set_option maxHeartbeats 4000000 in
set_option maxRecDepth 100000 in
theorem c_X1_add (l : Launch) (D : zG) (p0 : Nat) (p1 : Nat) (p2 : Nat) (p3 : Nat) (p4 : Nat) (tb : Nat → Int) (kk : Nat → Int) (tt : Nat → Int) (ta : Nat → Int) (len : Nat) (fo : Nat) (q : Nat) (er : Int) (v : Int) (hl : len < 150) : CV (S := Unit) l yX1_add cX1_add 2 (none) ({ frames := 0, cells := 0, slots := 0, locals := 0 } : Room) D [.ref p0, .int (zI v)] [(p0, .inr (1, [.ref p1, .int (zI ((len : Nat) : Int)), .ref p2, .ref p3, .ref p4, .int (zI ((fo : Nat) : Int)), .int (zI ((q : Nat) : Int)), .int (zI er)])), (p1, iA D 150 tb), (p2, iA D 30 kk), (p3, iA D 30 tt), (p4, iA D 30 ta)] (fun u => True)  (fun u => [(p0, .inr (1, [.ref p1, .int (zI ((len + 1 : Nat) : Int)), .ref p2, .ref p3, .ref p4, .int (zI ((fo : Nat) : Int)), .int (zI ((q : Nat) : Int)), .int (zI er)])), (p1, iA D 150 (zU tb len v)), (p2, iA D 30 kk), (p3, iA D 30 tt), (p4, iA D 30 ta)]) := by
  refine CV_of (by decide) (Nat.le_of_ble_eq_true rfl) ?_
  intro p e s m args below meth cd A Q hQ hC hr hnm
  have hC : ZC p s m args meth cd A D 2 cX1_add RX1 := hC
  show Z p l e ({ frames := 0, cells := 0, slots := 0, locals := 0 } : Room) s m args below meth cd A D Q 2 0 0 [(p0, .inr (1, [.ref p1, .int (zI ((len : Nat) : Int)), .ref p2, .ref p3, .ref p4, .int (zI ((fo : Nat) : Int)), .int (zI ((q : Nat) : Int)), .int (zI er)])), (p1, iA D 150 tb), (p2, iA D 30 kk), (p3, iA D 30 tt), (p4, iA D 30 ta)] [(0, .ref p0), (1, .int (zI v))] [] 0
  refine zz_aload_n hC 0 (dk DX1_add_0k 0 rfl) rfl rfl ?_
  refine zz_get hC F_X1_15 0 rfl rfl (dk DX1_add_0k 1 rfl) ?_
  refine zz_sipush hC (dk DX1_add_0k 2 rfl) (by decide) ?_
  refine zz_icmp_ge hC 30 (dk DX1_add_0k 3 rfl) (by decide) ⟨⟨by omega, by omega⟩, (by decide)⟩ (fun c1 => ?_) (fun c1 => ?_)
  · exfalso; omega
  · refine zz_aload_n hC 0 (dk DX1_add_0k 4 rfl) rfl rfl ?_
    refine zz_get hC F_X1_9 0 rfl rfl (dk DX1_add_0k 5 rfl) ?_
    refine zz_aload_n hC 0 (dk DX1_add_0k 6 rfl) rfl rfl ?_
    refine zz_get hC F_X1_15 0 rfl rfl (dk DX1_add_0k 7 rfl) ?_
    refine zz_iload_n hC 1 (dk DX1_add_0k 8 rfl) rfl rfl ?_
    refine zz_iast hC (ws' := [(p0, .inr (1, [.ref p1, .int (zI ((len : Nat) : Int)), .ref p2, .ref p3, .ref p4, .int (zI ((fo : Nat) : Int)), .int (zI ((q : Nat) : Int)), .int (zI er)])), (p1, iA D 150 (zU tb len v)), (p2, iA D 30 kk), (p3, iA D 30 tt), (p4, iA D 30 ta)]) len 1 rfl rfl (by omega) rfl (dk DX1_add_0k 9 rfl) ?_
    refine zz_aload_n hC 0 (dk DX1_add_0k 10 rfl) rfl rfl ?_
    refine zz_dup hC (dk DX1_add_0k 11 rfl) rfl ?_
    refine zz_get hC F_X1_15 0 rfl rfl (dk DX1_add_0k 12 rfl) ?_
    refine zz_iconst hC (dk DX1_add_0k 13 rfl) ?_
    refine zz_iadd hC (dk DX1_add_0k 14 rfl) ?_
    refine zz_put hC F_X1_15 fc_X1 rfl (tyX1_ok 1 (by decide)) 0 (ws' := [(p0, .inr (1, [.ref p1, .int (zI ((len + 1 : Nat) : Int)), .ref p2, .ref p3, .ref p4, .int (zI ((fo : Nat) : Int)), .int (zI ((q : Nat) : Int)), .int (zI er)])), (p1, iA D 150 (zU tb len v)), (p2, iA D 30 kk), (p3, iA D 30 tt), (p4, iA D 30 ta)]) rfl rfl rfl (Nat.le_of_ble_eq_true rfl) rfl (dk DX1_add_0k 15 rfl) ?_
    exact zz_ret hC hQ hr () trivial [0, 1, 2, 3, 4] rfl rfl ⟨Nat.le_refl _, Nat.le_refl _⟩ (dk DX1_add_0k 16 rfl)
