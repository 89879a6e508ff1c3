set_option maxHeartbeats 4000000 in
set_option maxRecDepth 100000 in
theorem c_X3_absolute (l : Launch) (D : zG) (h0 : Nat) (h1 : Nat) (h2 : Nat) (h3 : Nat) (h4 : Nat) (h5 : Nat) (h6 : Nat) (S : Nat → Int) (F : Nat → Int) (L : Nat → Int) (K : Nat → Int) (T : Nat → Int) (U : Nat → Int) (w : Nat) (n : Nat) (k : Nat) (hg : zLog n K T U) (hk : k < n) : CI (S := Unit) l yX3_absolute cX3_absolute 2 ((some .int)) ({ frames := 1, cells := 0, slots := 0, locals := 40 } : Room) D [.ref h0, .int (zI ((k : Nat) : Int))] [(h0, .inr (3, [.ref h1, .ref h2, .ref h3, .ref h4, .ref h5, .ref h6, .int (zI ((w : Nat) : Int)), .int (zI ((n : Nat) : Int))])), (h1, iA D 11 S), (h2, iA D 4 F), (h3, iA D 4 L), (h4, iA D 250 K), (h5, iA D 250 T), (h6, iA D 250 U)] (fun _ => True) (fun _ => (((U k).natAbs : Nat) : Int)) (fun _ => [(h0, .inr (3, [.ref h1, .ref h2, .ref h3, .ref h4, .ref h5, .ref h6, .int (zI ((w : Nat) : Int)), .int (zI ((n : Nat) : Int))])), (h1, iA D 11 S), (h2, iA D 4 F), (h3, iA D 4 L), (h4, iA D 250 K), (h5, iA D 250 T), (h6, iA D 250 U)]) := by
  refine CI_of (by decide) (Nat.le_of_ble_eq_true rfl) ?_
  intro p e s m args below meth cd A Q hQ hC hr hnm
  have hC : ZC p s m args meth cd A D 2 cX3_absolute RX3 := hC
  obtain ⟨hn, hK, hT, hU, hM⟩ := hg
  show Z p l e ({ frames := 1, cells := 0, slots := 0, locals := 40 } : Room) s m args below meth cd A D Q 2 0 0 [(h0, .inr (3, [.ref h1, .ref h2, .ref h3, .ref h4, .ref h5, .ref h6, .int (zI ((w : Nat) : Int)), .int (zI ((n : Nat) : Int))])), (h1, iA D 11 S), (h2, iA D 4 F), (h3, iA D 4 L), (h4, iA D 250 K), (h5, iA D 250 T), (h6, iA D 250 U)] [(0, .ref h0), (1, .int (zI ((k : Nat) : Int)))] [] 0
  refine zz_aload_n hC 0 (dk DX3_absolute_0k 0 rfl) rfl rfl ?_
  refine zz_get hC F_X3_27 0 rfl rfl (dk DX3_absolute_0k 1 rfl) ?_
  refine zz_iload_n hC 1 (dk DX3_absolute_0k 2 rfl) rfl rfl ?_
  refine zz_iald hC k 6 rfl rfl (by omega) (dk DX3_absolute_0k 3 rfl) ?_
  have hf1 := hU k (by omega)
  refine zz_mabs hC Q_X3_46 Q_mabs ⟨Nat.le_of_ble_eq_true rfl, Nat.le_of_ble_eq_true rfl⟩ ⟨Nat.zero_le _, Nat.zero_le _⟩ ⟨by omega, by omega⟩ (dk DX3_absolute_0k 4 rfl) ?_
  exact zz_iret hC hQ hr () trivial rfl [0, 1, 2, 3, 4, 5, 6] rfl rfl ⟨Nat.le_refl _, Nat.le_refl _⟩ (dk DX3_absolute_0k 5 rfl)
set_option maxHeartbeats 4000000 in
set_option maxRecDepth 100000 in
theorem c_X3_phase (l : Launch) (D : zG) (h0 : Nat) (h1 : Nat) (h2 : Nat) (h3 : Nat) (h4 : Nat) (h5 : Nat) (h6 : Nat) (S : Nat → Int) (F : Nat → Int) (L : Nat → Int) (K : Nat → Int) (T : Nat → Int) (U : Nat → Int) (w : Nat) (n : Nat) (k : Nat) (hg : zLog n K T U) (hs : zSet S) (hk : k < n) : CI (S := Unit) l yX3_phase cX3_phase 2 ((some .int)) ({ frames := 0, cells := 0, slots := 0, locals := 0 } : Room) D [.ref h0, .int (zI ((k : Nat) : Int))] [(h0, .inr (3, [.ref h1, .ref h2, .ref h3, .ref h4, .ref h5, .ref h6, .int (zI ((w : Nat) : Int)), .int (zI ((n : Nat) : Int))])), (h1, iA D 11 S), (h2, iA D 4 F), (h3, iA D 4 L), (h4, iA D 250 K), (h5, iA D 250 T), (h6, iA D 250 U)] (fun _ => True) (fun _ => ((T k + S 0) % 360)) (fun _ => [(h0, .inr (3, [.ref h1, .ref h2, .ref h3, .ref h4, .ref h5, .ref h6, .int (zI ((w : Nat) : Int)), .int (zI ((n : Nat) : Int))])), (h1, iA D 11 S), (h2, iA D 4 F), (h3, iA D 4 L), (h4, iA D 250 K), (h5, iA D 250 T), (h6, iA D 250 U)]) := by
  refine CI_of (by decide) (Nat.le_of_ble_eq_true rfl) ?_
  intro p e s m args below meth cd A Q hQ hC hr hnm
  have hC : ZC p s m args meth cd A D 2 cX3_phase RX3 := hC
  obtain ⟨hn, hK, hT, hU, hM⟩ := hg
  have hs0 := hs.1
  show Z p l e ({ frames := 0, cells := 0, slots := 0, locals := 0 } : Room) s m args below meth cd A D Q 2 0 0 [(h0, .inr (3, [.ref h1, .ref h2, .ref h3, .ref h4, .ref h5, .ref h6, .int (zI ((w : Nat) : Int)), .int (zI ((n : Nat) : Int))])), (h1, iA D 11 S), (h2, iA D 4 F), (h3, iA D 4 L), (h4, iA D 250 K), (h5, iA D 250 T), (h6, iA D 250 U)] [(0, .ref h0), (1, .int (zI ((k : Nat) : Int)))] [] 0
  refine zz_aload_n hC 0 (dk DX3_phase_0k 0 rfl) rfl rfl ?_
  refine zz_get hC F_X3_24 0 rfl rfl (dk DX3_phase_0k 1 rfl) ?_
  refine zz_iload_n hC 1 (dk DX3_phase_0k 2 rfl) rfl rfl ?_
  refine zz_iald hC k 5 rfl rfl (by omega) (dk DX3_phase_0k 3 rfl) ?_
  have hf1 := hT k (by omega)
  refine zz_aload_n hC 0 (dk DX3_phase_0k 4 rfl) rfl rfl ?_
  refine zz_get hC F_X3_9 0 rfl rfl (dk DX3_phase_0k 5 rfl) ?_
  refine zz_iconst hC (dk DX3_phase_0k 6 rfl) ?_
  refine zz_iald hC 0 1 rfl rfl (by omega) (dk DX3_phase_0k 7 rfl) ?_
  refine zz_iadd hC (dk DX3_phase_0k 8 rfl) ?_
  refine zz_sipush hC (dk DX3_phase_0k 9 rfl) (by decide) ?_
  refine zz_irem hC (dk DX3_phase_0k 10 rfl) ⟨⟨⟨by omega, by omega⟩, (by decide)⟩, by omega, by omega⟩ ?_
  exact zz_iret hC hQ hr () trivial rfl [0, 1, 2, 3, 4, 5, 6] rfl rfl ⟨Nat.le_refl _, Nat.le_refl _⟩ (dk DX3_phase_0k 11 rfl)
set_option maxHeartbeats 4000000 in
set_option maxRecDepth 100000 in
theorem c_X3_bin (l : Launch) (D : zG) (h0 : Nat) (h1 : Nat) (h2 : Nat) (h3 : Nat) (h4 : Nat) (h5 : Nat) (h6 : Nat) (S : Nat → Int) (F : Nat → Int) (L : Nat → Int) (K : Nat → Int) (T : Nat → Int) (U : Nat → Int) (w : Nat) (n : Nat) (k : Nat) (hg : zLog n K T U) (hs : zSet S) (hk : k < n) : CI (S := Unit) l yX3_bin cX3_bin 2 ((some .int)) ({ frames := 1, cells := 0, slots := 0, locals := 21 } : Room) D [.ref h0, .int (zI ((k : Nat) : Int))] [(h0, .inr (3, [.ref h1, .ref h2, .ref h3, .ref h4, .ref h5, .ref h6, .int (zI ((w : Nat) : Int)), .int (zI ((n : Nat) : Int))])), (h1, iA D 11 S), (h2, iA D 4 F), (h3, iA D 4 L), (h4, iA D 250 K), (h5, iA D 250 T), (h6, iA D 250 U)] (fun _ => True) (fun _ => ((T k + S 0) % 360 / 10)) (fun _ => [(h0, .inr (3, [.ref h1, .ref h2, .ref h3, .ref h4, .ref h5, .ref h6, .int (zI ((w : Nat) : Int)), .int (zI ((n : Nat) : Int))])), (h1, iA D 11 S), (h2, iA D 4 F), (h3, iA D 4 L), (h4, iA D 250 K), (h5, iA D 250 T), (h6, iA D 250 U)]) := by
  refine CI_of (by decide) (Nat.le_of_ble_eq_true rfl) ?_
  intro p e s m args below meth cd A Q hQ hC hr hnm
  have hC : ZC p s m args meth cd A D 2 cX3_bin RX3 := hC
  have hg0 := hg
  obtain ⟨hn, hK, hT, hU, hM⟩ := hg
  have hs0 := hs.1
  have hT0 := hT k hk
  show Z p l e ({ frames := 1, cells := 0, slots := 0, locals := 21 } : Room) s m args below meth cd A D Q 2 0 0 [(h0, .inr (3, [.ref h1, .ref h2, .ref h3, .ref h4, .ref h5, .ref h6, .int (zI ((w : Nat) : Int)), .int (zI ((n : Nat) : Int))])), (h1, iA D 11 S), (h2, iA D 4 F), (h3, iA D 4 L), (h4, iA D 250 K), (h5, iA D 250 T), (h6, iA D 250 U)] [(0, .ref h0), (1, .int (zI ((k : Nat) : Int)))] [] 0
  refine zz_aload_n hC 0 (dk DX3_bin_0k 0 rfl) rfl rfl ?_
  refine zz_iload_n hC 1 (dk DX3_bin_0k 1 rfl) rfl rfl ?_
  refine zz_pureVi hC (c_X3_phase l D h0 h1 h2 h3 h4 h5 h6 S F L K T U w n k hg0 hs (by omega)) G_X3_52 H_X3_phase ⟨Nat.le_of_ble_eq_true rfl, Nat.le_of_ble_eq_true rfl⟩ rfl [0, 1, 2, 3, 4, 5, 6] rfl rfl 0 3 ⟨rfl, rfl, rfl⟩ (As := [.int (zI ((k : Nat) : Int))]) (rest := []) (Nat.le_of_ble_eq_true rfl) rfl ⟨Nat.le_of_ble_eq_true rfl, Nat.le_of_ble_eq_true rfl⟩ (dk DX3_bin_0k 2 rfl) ⟨rfl, rfl⟩ ?_
  refine zz_bipush hC (dk DX3_bin_0k 3 rfl) (by decide) ?_
  refine zz_idiv hC (dk DX3_bin_0k 4 rfl) ⟨⟨⟨by omega, by omega⟩, (by decide)⟩, by omega, by omega⟩ ?_
  exact zz_iret hC hQ hr () trivial rfl [0, 1, 2, 3, 4, 5, 6] rfl rfl ⟨Nat.le_refl _, Nat.le_refl _⟩ (dk DX3_bin_0k 5 rfl)
set_option maxHeartbeats 4000000 in
set_option maxRecDepth 100000 in
theorem c_X3_lastTime (l : Launch) (D : zG) (h0 : Nat) (h1 : Nat) (h2 : Nat) (h3 : Nat) (h4 : Nat) (h5 : Nat) (h6 : Nat) (S : Nat → Int) (F : Nat → Int) (L : Nat → Int) (K : Nat → Int) (T : Nat → Int) (U : Nat → Int) (w : Nat) (n : Nat) (hg : zLog n K T U) : CI (S := Unit) l yX3_lastTime cX3_lastTime 1 ((some .int)) ({ frames := 0, cells := 0, slots := 0, locals := 0 } : Room) D [.ref h0] [(h0, .inr (3, [.ref h1, .ref h2, .ref h3, .ref h4, .ref h5, .ref h6, .int (zI ((w : Nat) : Int)), .int (zI ((n : Nat) : Int))])), (h1, iA D 11 S), (h2, iA D 4 F), (h3, iA D 4 L), (h4, iA D 250 K), (h5, iA D 250 T), (h6, iA D 250 U)] (fun _ => True) (fun _ => (zLast n T)) (fun _ => [(h0, .inr (3, [.ref h1, .ref h2, .ref h3, .ref h4, .ref h5, .ref h6, .int (zI ((w : Nat) : Int)), .int (zI ((n : Nat) : Int))])), (h1, iA D 11 S), (h2, iA D 4 F), (h3, iA D 4 L), (h4, iA D 250 K), (h5, iA D 250 T), (h6, iA D 250 U)]) := by
  refine CI_of (by decide) (Nat.le_of_ble_eq_true rfl) ?_
  intro p e s m args below meth cd A Q hQ hC hr hnm
  have hC : ZC p s m args meth cd A D 1 cX3_lastTime RX3 := hC
  obtain ⟨hn, hK, hT, hU, hM⟩ := hg
  show Z p l e ({ frames := 0, cells := 0, slots := 0, locals := 0 } : Room) s m args below meth cd A D Q 1 0 0 [(h0, .inr (3, [.ref h1, .ref h2, .ref h3, .ref h4, .ref h5, .ref h6, .int (zI ((w : Nat) : Int)), .int (zI ((n : Nat) : Int))])), (h1, iA D 11 S), (h2, iA D 4 F), (h3, iA D 4 L), (h4, iA D 250 K), (h5, iA D 250 T), (h6, iA D 250 U)] [(0, .ref h0)] [] 0
  refine zz_aload_n hC 0 (dk DX3_lastTime_0k 0 rfl) rfl rfl ?_
  refine zz_get hC F_X3_34 0 rfl rfl (dk DX3_lastTime_0k 1 rfl) ?_
  refine zz_if_le hC 21 (dk DX3_lastTime_0k 2 rfl) (by decide) ⟨by omega, by omega⟩ (fun c1 => ?_) (fun c1 => ?_)
  · refine zz_iconst hC (dk DX3_lastTime_0k 11 rfl) ?_
    exact zz_iret hC hQ hr () trivial (by simp only [zLast]; split <;> first | rfl | omega) [0, 1, 2, 3, 4, 5, 6] rfl rfl ⟨Nat.le_refl _, Nat.le_refl _⟩ (dk DX3_lastTime_0k 12 rfl)
  · refine zz_aload_n hC 0 (dk DX3_lastTime_0k 3 rfl) rfl rfl ?_
    refine zz_get hC F_X3_24 0 rfl rfl (dk DX3_lastTime_0k 4 rfl) ?_
    refine zz_aload_n hC 0 (dk DX3_lastTime_0k 5 rfl) rfl rfl ?_
    refine zz_get hC F_X3_34 0 rfl rfl (dk DX3_lastTime_0k 6 rfl) ?_
    refine zz_iconst hC (dk DX3_lastTime_0k 7 rfl) ?_
    refine zz_isub hC (dk DX3_lastTime_0k 8 rfl) ?_
    refine zz_iald hC (n - 1) 5 rfl (by omega) (by omega) (dk DX3_lastTime_0k 9 rfl) ?_
    have hf2 := hT (n - 1) (by omega)
    refine zz_goto hC 22 (dk DX3_lastTime_0k 10 rfl) (by decide) ?_
    exact zz_iret hC hQ hr () trivial (by simp only [zLast]; split <;> first | rfl | omega) [0, 1, 2, 3, 4, 5, 6] rfl rfl ⟨Nat.le_refl _, Nat.le_refl _⟩ (dk DX3_lastTime_0k 12 rfl)
