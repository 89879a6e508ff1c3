set_option maxHeartbeats 4000000 in
set_option maxRecDepth 100000 in
theorem c_X3_absolute (l : Launch) (D : zG) (h0 : Nat) (h1 : Nat) (h2 : Nat) (h3 : Nat) (h4 : Nat) (h5 : Nat) (h6 : Nat) (S : Nat → Int) (F : Nat → Int) (L : Nat → Int) (K : Nat → Int) (T : Nat → Int) (U : Nat → Int) (w : Nat) (n : Nat) (k : Nat) (hg : zLog n K T U) (hk : k < n) : CI (S := Unit) l yX3_absolute cX3_absolute 2 ((some .int)) ({ frames := 1, cells := 0, slots := 0, locals := 40 } : Room) D [.ref h0, .int (zI ((k : Nat) : Int))] [(h0, .inr (3, [.ref h1, .ref h2, .ref h3, .ref h4, .ref h5, .ref h6, .int (zI ((w : Nat) : Int)), .int (zI ((n : Nat) : Int))])), (h1, iA D 11 S), (h2, iA D 4 F), (h3, iA D 4 L), (h4, iA D 250 K), (h5, iA D 250 T), (h6, iA D 250 U)] (fun _ => True) (fun _ => (((U k).natAbs : Nat) : Int)) (fun _ => [(h0, .inr (3, [.ref h1, .ref h2, .ref h3, .ref h4, .ref h5, .ref h6, .int (zI ((w : Nat) : Int)), .int (zI ((n : Nat) : Int))])), (h1, iA D 11 S), (h2, iA D 4 F), (h3, iA D 4 L), (h4, iA D 250 K), (h5, iA D 250 T), (h6, iA D 250 U)]) := by
  refine CI_of (by decide) (Nat.le_of_ble_eq_true rfl) ?_
  intro p e s m args below meth cd A Q hQ hC hr hnm
  have hC : ZC p s m args meth cd A D 2 cX3_absolute RX3 := hC
  have hg0 := hg
  obtain ⟨hn, hK, hT, hU, hM⟩ := hg0
  show Z p l e ({ frames := 1, cells := 0, slots := 0, locals := 40 } : Room) s m args below meth cd A D Q 2 0 0 [(h0, .inr (3, [.ref h1, .ref h2, .ref h3, .ref h4, .ref h5, .ref h6, .int (zI ((w : Nat) : Int)), .int (zI ((n : Nat) : Int))])), (h1, iA D 11 S), (h2, iA D 4 F), (h3, iA D 4 L), (h4, iA D 250 K), (h5, iA D 250 T), (h6, iA D 250 U)] [(0, .ref h0), (1, .int (zI ((k : Nat) : Int)))] [] 0
  refine zz_aload_n hC 0 (dk DX3_absolute_0k 0 rfl) rfl rfl ?_
  refine zz_get hC F_X3_27 0 rfl rfl (dk DX3_absolute_0k 1 rfl) ?_
  refine zz_iload_n hC 1 (dk DX3_absolute_0k 2 rfl) rfl rfl ?_
  refine zz_iald hC k 6 rfl rfl (by omega) (dk DX3_absolute_0k 3 rfl) ?_
  have hf1 := hU k (by omega)
  refine zz_mabs hC Q_X3_46 Q_mabs ⟨Nat.le_of_ble_eq_true rfl, Nat.le_of_ble_eq_true rfl⟩ ⟨Nat.zero_le _, Nat.zero_le _⟩ ⟨by omega, by omega⟩ (dk DX3_absolute_0k 4 rfl) ?_
  exact zz_iret hC hQ hr () trivial rfl [0, 1, 2, 3, 4, 5, 6] rfl rfl ⟨Nat.le_refl _, Nat.le_refl _⟩ (dk DX3_absolute_0k 5 rfl)
set_option maxHeartbeats 4000000 in
set_option maxRecDepth 100000 in
theorem c_X3_phase (l : Launch) (D : zG) (h0 : Nat) (h1 : Nat) (h2 : Nat) (h3 : Nat) (h4 : Nat) (h5 : Nat) (h6 : Nat) (S : Nat → Int) (F : Nat → Int) (L : Nat → Int) (K : Nat → Int) (T : Nat → Int) (U : Nat → Int) (w : Nat) (n : Nat) (k : Nat) (hg : zLog n K T U) (hs : zSet S) (hk : k < n) : CI (S := Unit) l yX3_phase cX3_phase 2 ((some .int)) ({ frames := 0, cells := 0, slots := 0, locals := 0 } : Room) D [.ref h0, .int (zI ((k : Nat) : Int))] [(h0, .inr (3, [.ref h1, .ref h2, .ref h3, .ref h4, .ref h5, .ref h6, .int (zI ((w : Nat) : Int)), .int (zI ((n : Nat) : Int))])), (h1, iA D 11 S), (h2, iA D 4 F), (h3, iA D 4 L), (h4, iA D 250 K), (h5, iA D 250 T), (h6, iA D 250 U)] (fun _ => True) (fun _ => (zPh T S k)) (fun _ => [(h0, .inr (3, [.ref h1, .ref h2, .ref h3, .ref h4, .ref h5, .ref h6, .int (zI ((w : Nat) : Int)), .int (zI ((n : Nat) : Int))])), (h1, iA D 11 S), (h2, iA D 4 F), (h3, iA D 4 L), (h4, iA D 250 K), (h5, iA D 250 T), (h6, iA D 250 U)]) := by
  refine CI_of (by decide) (Nat.le_of_ble_eq_true rfl) ?_
  intro p e s m args below meth cd A Q hQ hC hr hnm
  have hC : ZC p s m args meth cd A D 2 cX3_phase RX3 := hC
  have hg0 := hg
  obtain ⟨hn, hK, hT, hU, hM⟩ := hg0
  have hs0 := hs.1
  show Z p l e ({ frames := 0, cells := 0, slots := 0, locals := 0 } : Room) s m args below meth cd A D Q 2 0 0 [(h0, .inr (3, [.ref h1, .ref h2, .ref h3, .ref h4, .ref h5, .ref h6, .int (zI ((w : Nat) : Int)), .int (zI ((n : Nat) : Int))])), (h1, iA D 11 S), (h2, iA D 4 F), (h3, iA D 4 L), (h4, iA D 250 K), (h5, iA D 250 T), (h6, iA D 250 U)] [(0, .ref h0), (1, .int (zI ((k : Nat) : Int)))] [] 0
  refine zz_aload_n hC 0 (dk DX3_phase_0k 0 rfl) rfl rfl ?_
  refine zz_get hC F_X3_24 0 rfl rfl (dk DX3_phase_0k 1 rfl) ?_
  refine zz_iload_n hC 1 (dk DX3_phase_0k 2 rfl) rfl rfl ?_
  refine zz_iald hC k 5 rfl rfl (by omega) (dk DX3_phase_0k 3 rfl) ?_
  have hf1 := hT k (by omega)
  refine zz_aload_n hC 0 (dk DX3_phase_0k 4 rfl) rfl rfl ?_
  refine zz_get hC F_X3_9 0 rfl rfl (dk DX3_phase_0k 5 rfl) ?_
  refine zz_iconst hC (dk DX3_phase_0k 6 rfl) ?_
  refine zz_iald hC 0 1 rfl rfl (by omega) (dk DX3_phase_0k 7 rfl) ?_
  refine zz_iadd hC (dk DX3_phase_0k 8 rfl) ?_
  refine zz_sipush hC (dk DX3_phase_0k 9 rfl) (by decide) ?_
  refine zz_irem hC (dk DX3_phase_0k 10 rfl) ⟨⟨⟨by omega, by omega⟩, (by decide)⟩, by omega, by omega⟩ ?_
  exact zz_iret hC hQ hr () trivial rfl [0, 1, 2, 3, 4, 5, 6] rfl rfl ⟨Nat.le_refl _, Nat.le_refl _⟩ (dk DX3_phase_0k 11 rfl)
set_option maxHeartbeats 4000000 in
set_option maxRecDepth 100000 in
theorem c_X3_bin (l : Launch) (D : zG) (h0 : Nat) (h1 : Nat) (h2 : Nat) (h3 : Nat) (h4 : Nat) (h5 : Nat) (h6 : Nat) (S : Nat → Int) (F : Nat → Int) (L : Nat → Int) (K : Nat → Int) (T : Nat → Int) (U : Nat → Int) (w : Nat) (n : Nat) (k : Nat) (hg : zLog n K T U) (hs : zSet S) (hk : k < n) : CI (S := Unit) l yX3_bin cX3_bin 2 ((some .int)) ({ frames := 1, cells := 0, slots := 0, locals := 21 } : Room) D [.ref h0, .int (zI ((k : Nat) : Int))] [(h0, .inr (3, [.ref h1, .ref h2, .ref h3, .ref h4, .ref h5, .ref h6, .int (zI ((w : Nat) : Int)), .int (zI ((n : Nat) : Int))])), (h1, iA D 11 S), (h2, iA D 4 F), (h3, iA D 4 L), (h4, iA D 250 K), (h5, iA D 250 T), (h6, iA D 250 U)] (fun _ => True) (fun _ => (zPh T S k / 10)) (fun _ => [(h0, .inr (3, [.ref h1, .ref h2, .ref h3, .ref h4, .ref h5, .ref h6, .int (zI ((w : Nat) : Int)), .int (zI ((n : Nat) : Int))])), (h1, iA D 11 S), (h2, iA D 4 F), (h3, iA D 4 L), (h4, iA D 250 K), (h5, iA D 250 T), (h6, iA D 250 U)]) := by
  refine CI_of (by decide) (Nat.le_of_ble_eq_true rfl) ?_
  intro p e s m args below meth cd A Q hQ hC hr hnm
  have hC : ZC p s m args meth cd A D 2 cX3_bin RX3 := hC
  have hg0 := hg
  obtain ⟨hn, hK, hT, hU, hM⟩ := hg0
  have hph := zPh_in (T := T) (S := S) (k := k)
  show Z p l e ({ frames := 1, cells := 0, slots := 0, locals := 21 } : Room) s m args below meth cd A D Q 2 0 0 [(h0, .inr (3, [.ref h1, .ref h2, .ref h3, .ref h4, .ref h5, .ref h6, .int (zI ((w : Nat) : Int)), .int (zI ((n : Nat) : Int))])), (h1, iA D 11 S), (h2, iA D 4 F), (h3, iA D 4 L), (h4, iA D 250 K), (h5, iA D 250 T), (h6, iA D 250 U)] [(0, .ref h0), (1, .int (zI ((k : Nat) : Int)))] [] 0
  refine zz_aload_n hC 0 (dk DX3_bin_0k 0 rfl) rfl rfl ?_
  refine zz_iload_n hC 1 (dk DX3_bin_0k 1 rfl) rfl rfl ?_
  refine zz_pureVi hC (c_X3_phase l D h0 h1 h2 h3 h4 h5 h6 S F L K T U w n k hg hs (by omega)) G_X3_52 H_X3_phase ⟨Nat.le_of_ble_eq_true rfl, Nat.le_of_ble_eq_true rfl⟩ rfl [0, 1, 2, 3, 4, 5, 6] rfl rfl 0 3 ⟨rfl, rfl, rfl⟩ (As := [.int (zI ((k : Nat) : Int))]) (rest := []) (Nat.le_of_ble_eq_true rfl) rfl ⟨Nat.le_of_ble_eq_true rfl, Nat.le_of_ble_eq_true rfl⟩ (dk DX3_bin_0k 2 rfl) ⟨rfl, rfl⟩ ?_
  refine zz_bipush hC (dk DX3_bin_0k 3 rfl) (by decide) ?_
  refine zz_idiv hC (dk DX3_bin_0k 4 rfl) ⟨⟨⟨by omega, by omega⟩, (by decide)⟩, by omega, by omega⟩ ?_
  exact zz_iret hC hQ hr () trivial rfl [0, 1, 2, 3, 4, 5, 6] rfl rfl ⟨Nat.le_refl _, Nat.le_refl _⟩ (dk DX3_bin_0k 5 rfl)
set_option maxHeartbeats 4000000 in
set_option maxRecDepth 100000 in
theorem c_X3_lastTime (l : Launch) (D : zG) (h0 : Nat) (h1 : Nat) (h2 : Nat) (h3 : Nat) (h4 : Nat) (h5 : Nat) (h6 : Nat) (S : Nat → Int) (F : Nat → Int) (L : Nat → Int) (K : Nat → Int) (T : Nat → Int) (U : Nat → Int) (w : Nat) (n : Nat) (hg : zLog n K T U) : CI (S := Unit) l yX3_lastTime cX3_lastTime 1 ((some .int)) ({ frames := 0, cells := 0, slots := 0, locals := 0 } : Room) D [.ref h0] [(h0, .inr (3, [.ref h1, .ref h2, .ref h3, .ref h4, .ref h5, .ref h6, .int (zI ((w : Nat) : Int)), .int (zI ((n : Nat) : Int))])), (h1, iA D 11 S), (h2, iA D 4 F), (h3, iA D 4 L), (h4, iA D 250 K), (h5, iA D 250 T), (h6, iA D 250 U)] (fun _ => True) (fun _ => (zLast n T)) (fun _ => [(h0, .inr (3, [.ref h1, .ref h2, .ref h3, .ref h4, .ref h5, .ref h6, .int (zI ((w : Nat) : Int)), .int (zI ((n : Nat) : Int))])), (h1, iA D 11 S), (h2, iA D 4 F), (h3, iA D 4 L), (h4, iA D 250 K), (h5, iA D 250 T), (h6, iA D 250 U)]) := by
  refine CI_of (by decide) (Nat.le_of_ble_eq_true rfl) ?_
  intro p e s m args below meth cd A Q hQ hC hr hnm
  have hC : ZC p s m args meth cd A D 1 cX3_lastTime RX3 := hC
  have hg0 := hg
  obtain ⟨hn, hK, hT, hU, hM⟩ := hg0
  show Z p l e ({ frames := 0, cells := 0, slots := 0, locals := 0 } : Room) s m args below meth cd A D Q 1 0 0 [(h0, .inr (3, [.ref h1, .ref h2, .ref h3, .ref h4, .ref h5, .ref h6, .int (zI ((w : Nat) : Int)), .int (zI ((n : Nat) : Int))])), (h1, iA D 11 S), (h2, iA D 4 F), (h3, iA D 4 L), (h4, iA D 250 K), (h5, iA D 250 T), (h6, iA D 250 U)] [(0, .ref h0)] [] 0
  refine zz_aload_n hC 0 (dk DX3_lastTime_0k 0 rfl) rfl rfl ?_
  refine zz_get hC F_X3_34 0 rfl rfl (dk DX3_lastTime_0k 1 rfl) ?_
  refine zz_if_le hC 21 (dk DX3_lastTime_0k 2 rfl) (by decide) ⟨by omega, by omega⟩ (fun c1 => ?_) (fun c1 => ?_)
  · refine zz_iconst hC (dk DX3_lastTime_0k 11 rfl) ?_
    exact zz_iret hC hQ hr () trivial (by simp only [zLast]; split <;> first | rfl | omega) [0, 1, 2, 3, 4, 5, 6] rfl rfl ⟨Nat.le_refl _, Nat.le_refl _⟩ (dk DX3_lastTime_0k 12 rfl)
  · refine zz_aload_n hC 0 (dk DX3_lastTime_0k 3 rfl) rfl rfl ?_
    refine zz_get hC F_X3_24 0 rfl rfl (dk DX3_lastTime_0k 4 rfl) ?_
    refine zz_aload_n hC 0 (dk DX3_lastTime_0k 5 rfl) rfl rfl ?_
    refine zz_get hC F_X3_34 0 rfl rfl (dk DX3_lastTime_0k 6 rfl) ?_
    refine zz_iconst hC (dk DX3_lastTime_0k 7 rfl) ?_
    refine zz_isub hC (dk DX3_lastTime_0k 8 rfl) ?_
    refine zz_iald hC (n - 1) 5 rfl (by omega) (by omega) (dk DX3_lastTime_0k 9 rfl) ?_
    have hf2 := hT (n - 1) (by omega)
    refine zz_goto hC 22 (dk DX3_lastTime_0k 10 rfl) (by decide) ?_
    exact zz_iret hC hQ hr () trivial (by simp only [zLast]; split <;> first | rfl | omega) [0, 1, 2, 3, 4, 5, 6] rfl rfl ⟨Nat.le_refl _, Nat.le_refl _⟩ (dk DX3_lastTime_0k 12 rfl)
set_option maxHeartbeats 4000000 in
set_option maxRecDepth 100000 in
theorem c_X3_isBlocked (l : Launch) (D : zG) (h0 : Nat) (h1 : Nat) (h2 : Nat) (h3 : Nat) (h4 : Nat) (h5 : Nat) (h6 : Nat) (S : Nat → Int) (F : Nat → Int) (L : Nat → Int) (K : Nat → Int) (T : Nat → Int) (U : Nat → Int) (w : Nat) (n : Nat) (x : Int) (hw : zWin w F L) (hx : 0 ≤ x ∧ x < 360) : CI (S := Unit) l yX3_isBlocked cX3_isBlocked 6 ((some .boolean)) ({ frames := 0, cells := 0, slots := 0, locals := 0 } : Room) D [.ref h0, .int (zI x)] [(h0, .inr (3, [.ref h1, .ref h2, .ref h3, .ref h4, .ref h5, .ref h6, .int (zI ((w : Nat) : Int)), .int (zI ((n : Nat) : Int))])), (h1, iA D 11 S), (h2, iA D 4 F), (h3, iA D 4 L), (h4, iA D 250 K), (h5, iA D 250 T), (h6, iA D 250 U)] (fun _ => True) (fun _ => zB (zBlk w F L x = true)) (fun _ => [(h0, .inr (3, [.ref h1, .ref h2, .ref h3, .ref h4, .ref h5, .ref h6, .int (zI ((w : Nat) : Int)), .int (zI ((n : Nat) : Int))])), (h1, iA D 11 S), (h2, iA D 4 F), (h3, iA D 4 L), (h4, iA D 250 K), (h5, iA D 250 T), (h6, iA D 250 U)]) := by
  refine CI_of (by decide) (Nat.le_of_ble_eq_true rfl) ?_
  intro p e s m args below meth cd A Q hQ hC hr hnm
  have hC : ZC p s m args meth cd A D 6 cX3_isBlocked RX3 := hC
  obtain ⟨hw4, hF, hL⟩ := hw
  show Z p l e ({ frames := 0, cells := 0, slots := 0, locals := 0 } : Room) s m args below meth cd A D Q 6 0 0 [(h0, .inr (3, [.ref h1, .ref h2, .ref h3, .ref h4, .ref h5, .ref h6, .int (zI ((w : Nat) : Int)), .int (zI ((n : Nat) : Int))])), (h1, iA D 11 S), (h2, iA D 4 F), (h3, iA D 4 L), (h4, iA D 250 K), (h5, iA D 250 T), (h6, iA D 250 U)] [(0, .ref h0), (1, .int (zI x))] [] 0
  refine zz_iconst hC (dk DX3_isBlocked_0k 0 rfl) ?_
  refine zz_istore_n hC (ls' := [(0, .ref h0), (1, .int (zI x)), (2, .int (zI 0))]) [1, 2, 0] (dk DX3_isBlocked_0k 1 rfl) rfl (by decide) rfl ?_
  have LP2 : ∀ (fuel2 : Nat) (i : Nat), (i ≤ w) → (zBlk i F L x = false) → w - i < fuel2 → Z p l e ({ frames := 0, cells := 0, slots := 0, locals := 0 } : Room) s m args below meth cd A D Q 6 0 0 [(h0, .inr (3, [.ref h1, .ref h2, .ref h3, .ref h4, .ref h5, .ref h6, .int (zI ((w : Nat) : Int)), .int (zI ((n : Nat) : Int))])), (h1, iA D 11 S), (h2, iA D 4 F), (h3, iA D 4 L), (h4, iA D 250 K), (h5, iA D 250 T), (h6, iA D 250 U)] [(0, .ref h0), (1, .int (zI x)), (2, .int (zI ((i : Nat) : Int)))] [] 2 := by
    intro fuel2
    induction fuel2 with
    | zero => intro i hi hb hfu; exact absurd hfu (Nat.not_lt_zero _)
    | succ fuel2 ih2 =>
      intro i hi hb hfu2
      refine zz_iload_n hC 2 (dk DX3_isBlocked_0k 2 rfl) rfl rfl ?_
      refine zz_aload_n hC 0 (dk DX3_isBlocked_0k 3 rfl) rfl rfl ?_
      refine zz_get hC F_X3_30 0 rfl rfl (dk DX3_isBlocked_0k 4 rfl) ?_
      refine zz_icmp_ge hC 100 (dk DX3_isBlocked_0k 5 rfl) (by decide) ⟨⟨by omega, by omega⟩, ⟨by omega, by omega⟩⟩ (fun c1 => ?_) (fun c1 => ?_)
      · refine zz_iconst hC (dk DX3_isBlocked_0k 54 rfl) ?_
        exact zz_zret hC hQ hr () trivial (zB_f (by have e : w = i := (by omega); rw [e, hb]; decide)).symm (by decide) [0, 1, 2, 3, 4, 5, 6] rfl rfl ⟨Nat.le_refl _, Nat.le_refl _⟩ (dk DX3_isBlocked_0k 55 rfl)
      · refine zz_aload_n hC 0 (dk DX3_isBlocked_0k 6 rfl) rfl rfl ?_
        refine zz_get hC F_X3_18 0 rfl rfl (dk DX3_isBlocked_0k 7 rfl) ?_
        refine zz_iload_n hC 2 (dk DX3_isBlocked_0k 8 rfl) rfl rfl ?_
        refine zz_iald hC i 3 rfl rfl (by omega) (dk DX3_isBlocked_0k 9 rfl) ?_
        have hf2 := hL i (by omega)
        refine zz_aload_n hC 0 (dk DX3_isBlocked_0k 10 rfl) rfl rfl ?_
        refine zz_get hC F_X3_15 0 rfl rfl (dk DX3_isBlocked_0k 11 rfl) ?_
        refine zz_iload_n hC 2 (dk DX3_isBlocked_0k 12 rfl) rfl rfl ?_
        refine zz_iald hC i 2 rfl rfl (by omega) (dk DX3_isBlocked_0k 13 rfl) ?_
        have hf3 := hF i (by omega)
        refine zz_icmp_ge hC 29 (dk DX3_isBlocked_0k 14 rfl) (by decide) ⟨⟨by omega, by omega⟩, ⟨by omega, by omega⟩⟩ (fun c4 => ?_) (fun c4 => ?_)
        · refine zz_iconst hC (dk DX3_isBlocked_0k 17 rfl) ?_
          refine zz_istore_n hC (ls' := [(0, .ref h0), (1, .int (zI x)), (2, .int (zI ((i : Nat) : Int))), (3, .int (zI 0))]) [1, 2, 3, 0] (dk DX3_isBlocked_0k 18 rfl) rfl (by decide) rfl ?_
          refine zz_iload_n hC 1 (dk DX3_isBlocked_0k 19 rfl) rfl rfl ?_
          refine zz_aload_n hC 0 (dk DX3_isBlocked_0k 20 rfl) rfl rfl ?_
          refine zz_get hC F_X3_15 0 rfl rfl (dk DX3_isBlocked_0k 21 rfl) ?_
          refine zz_iload_n hC 2 (dk DX3_isBlocked_0k 22 rfl) rfl rfl ?_
          refine zz_iald hC i 2 rfl rfl (by omega) (dk DX3_isBlocked_0k 23 rfl) ?_
          have hf5 := hF i (by omega)
          refine zz_icmp_lt hC 45 (dk DX3_isBlocked_0k 24 rfl) (by decide) ⟨⟨by omega, by omega⟩, ⟨by omega, by omega⟩⟩ (fun c6 => ?_) (fun c6 => ?_)
          · refine zz_iconst hC (dk DX3_isBlocked_0k 27 rfl) ?_
            refine zz_istore hC (ls' := [(0, .ref h0), (1, .int (zI x)), (2, .int (zI ((i : Nat) : Int))), (3, .int (zI 0)), (4, .int (zI 0))]) [1, 2, 3, 4, 0] (dk DX3_isBlocked_0k 28 rfl) (by decide) rfl ?_
            refine zz_iload_n hC 1 (dk DX3_isBlocked_0k 29 rfl) rfl rfl ?_
            refine zz_aload_n hC 0 (dk DX3_isBlocked_0k 30 rfl) rfl rfl ?_
            refine zz_get hC F_X3_18 0 rfl rfl (dk DX3_isBlocked_0k 31 rfl) ?_
            refine zz_iload_n hC 2 (dk DX3_isBlocked_0k 32 rfl) rfl rfl ?_
            refine zz_iald hC i 3 rfl rfl (by omega) (dk DX3_isBlocked_0k 33 rfl) ?_
            have hf7 := hL i (by omega)
            refine zz_icmp_gt hC 62 (dk DX3_isBlocked_0k 34 rfl) (by decide) ⟨⟨by omega, by omega⟩, ⟨by omega, by omega⟩⟩ (fun c8 => ?_) (fun c8 => ?_)
            · refine zz_iconst hC (dk DX3_isBlocked_0k 37 rfl) ?_
              refine zz_istore hC (ls' := [(0, .ref h0), (1, .int (zI x)), (2, .int (zI ((i : Nat) : Int))), (3, .int (zI 0)), (4, .int (zI 0)), (5, .int (zI 0))]) [1, 2, 3, 4, 5, 0] (dk DX3_isBlocked_0k 38 rfl) (by decide) rfl ?_
              refine zz_iload_n hC 3 (dk DX3_isBlocked_0k 39 rfl) rfl rfl ?_
              refine zz_if_eq hC 82 (dk DX3_isBlocked_0k 40 rfl) (by decide) (by decide) (fun c9 => ?_) (fun c9 => ?_)
              · refine zz_iload hC 4 (dk DX3_isBlocked_0k 46 rfl) rfl ?_
                refine zz_if_eq hC 94 (dk DX3_isBlocked_0k 47 rfl) (by decide) (by decide) (fun c10 => ?_) (fun c10 => ?_)
                · refine zz_iinc hC ((i + 1 : Nat) : Int) (ls' := [(0, .ref h0), (1, .int (zI x)), (2, .int (zI ((i + 1 : Nat) : Int))), (3, .int (zI 0)), (4, .int (zI 0)), (5, .int (zI 0))]) 2 [1, 2, 0, 3, 4, 5] (dk DX3_isBlocked_0k 52 rfl) rfl (by omega) (by decide) rfl ?_
                  refine zz_goto hC 2 (dk DX3_isBlocked_0k 53 rfl) (by decide) ?_
                  refine zz_ls [0, 1, 2] rfl ?_
                  exact ih2 (i + 1) (by omega) (by simp only [zBlk, zAny, Bool.or_eq_false_iff] at hb ⊢; refine ⟨hb, ?_⟩; split <;> simp only [decide_eq_false_iff_not] <;> omega) (by omega)
                · exfalso; omega
              · exfalso; omega
            · refine zz_iconst hC (dk DX3_isBlocked_0k 35 rfl) ?_
              refine zz_goto hC 63 (dk DX3_isBlocked_0k 36 rfl) (by decide) ?_
              refine zz_istore hC (ls' := [(0, .ref h0), (1, .int (zI x)), (2, .int (zI ((i : Nat) : Int))), (3, .int (zI 0)), (4, .int (zI 0)), (5, .int (zI 1))]) [1, 2, 3, 4, 5, 0] (dk DX3_isBlocked_0k 38 rfl) (by decide) rfl ?_
              refine zz_iload_n hC 3 (dk DX3_isBlocked_0k 39 rfl) rfl rfl ?_
              refine zz_if_eq hC 82 (dk DX3_isBlocked_0k 40 rfl) (by decide) (by decide) (fun c11 => ?_) (fun c11 => ?_)
              · refine zz_iload hC 4 (dk DX3_isBlocked_0k 46 rfl) rfl ?_
                refine zz_if_eq hC 94 (dk DX3_isBlocked_0k 47 rfl) (by decide) (by decide) (fun c12 => ?_) (fun c12 => ?_)
                · refine zz_iinc hC ((i + 1 : Nat) : Int) (ls' := [(0, .ref h0), (1, .int (zI x)), (2, .int (zI ((i + 1 : Nat) : Int))), (3, .int (zI 0)), (4, .int (zI 0)), (5, .int (zI 1))]) 2 [1, 2, 0, 3, 4, 5] (dk DX3_isBlocked_0k 52 rfl) rfl (by omega) (by decide) rfl ?_
                  refine zz_goto hC 2 (dk DX3_isBlocked_0k 53 rfl) (by decide) ?_
                  refine zz_ls [0, 1, 2] rfl ?_
                  exact ih2 (i + 1) (by omega) (by simp only [zBlk, zAny, Bool.or_eq_false_iff] at hb ⊢; refine ⟨hb, ?_⟩; split <;> simp only [decide_eq_false_iff_not] <;> omega) (by omega)
                · exfalso; omega
              · exfalso; omega
          · refine zz_iconst hC (dk DX3_isBlocked_0k 25 rfl) ?_
            refine zz_goto hC 46 (dk DX3_isBlocked_0k 26 rfl) (by decide) ?_
            refine zz_istore hC (ls' := [(0, .ref h0), (1, .int (zI x)), (2, .int (zI ((i : Nat) : Int))), (3, .int (zI 0)), (4, .int (zI 1))]) [1, 2, 3, 4, 0] (dk DX3_isBlocked_0k 28 rfl) (by decide) rfl ?_
            refine zz_iload_n hC 1 (dk DX3_isBlocked_0k 29 rfl) rfl rfl ?_
            refine zz_aload_n hC 0 (dk DX3_isBlocked_0k 30 rfl) rfl rfl ?_
            refine zz_get hC F_X3_18 0 rfl rfl (dk DX3_isBlocked_0k 31 rfl) ?_
            refine zz_iload_n hC 2 (dk DX3_isBlocked_0k 32 rfl) rfl rfl ?_
            refine zz_iald hC i 3 rfl rfl (by omega) (dk DX3_isBlocked_0k 33 rfl) ?_
            have hf13 := hL i (by omega)
            refine zz_icmp_gt hC 62 (dk DX3_isBlocked_0k 34 rfl) (by decide) ⟨⟨by omega, by omega⟩, ⟨by omega, by omega⟩⟩ (fun c14 => ?_) (fun c14 => ?_)
            · refine zz_iconst hC (dk DX3_isBlocked_0k 37 rfl) ?_
              refine zz_istore hC (ls' := [(0, .ref h0), (1, .int (zI x)), (2, .int (zI ((i : Nat) : Int))), (3, .int (zI 0)), (4, .int (zI 1)), (5, .int (zI 0))]) [1, 2, 3, 4, 5, 0] (dk DX3_isBlocked_0k 38 rfl) (by decide) rfl ?_
              refine zz_iload_n hC 3 (dk DX3_isBlocked_0k 39 rfl) rfl rfl ?_
              refine zz_if_eq hC 82 (dk DX3_isBlocked_0k 40 rfl) (by decide) (by decide) (fun c15 => ?_) (fun c15 => ?_)
              · refine zz_iload hC 4 (dk DX3_isBlocked_0k 46 rfl) rfl ?_
                refine zz_if_eq hC 94 (dk DX3_isBlocked_0k 47 rfl) (by decide) (by decide) (fun c16 => ?_) (fun c16 => ?_)
                · exfalso; omega
                · refine zz_iload hC 5 (dk DX3_isBlocked_0k 48 rfl) rfl ?_
                  refine zz_if_eq hC 94 (dk DX3_isBlocked_0k 49 rfl) (by decide) (by decide) (fun c17 => ?_) (fun c17 => ?_)
                  · refine zz_iinc hC ((i + 1 : Nat) : Int) (ls' := [(0, .ref h0), (1, .int (zI x)), (2, .int (zI ((i + 1 : Nat) : Int))), (3, .int (zI 0)), (4, .int (zI 1)), (5, .int (zI 0))]) 2 [1, 2, 0, 3, 4, 5] (dk DX3_isBlocked_0k 52 rfl) rfl (by omega) (by decide) rfl ?_
                    refine zz_goto hC 2 (dk DX3_isBlocked_0k 53 rfl) (by decide) ?_
                    refine zz_ls [0, 1, 2] rfl ?_
                    exact ih2 (i + 1) (by omega) (by simp only [zBlk, zAny, Bool.or_eq_false_iff] at hb ⊢; refine ⟨hb, ?_⟩; split <;> simp only [decide_eq_false_iff_not] <;> omega) (by omega)
                  · exfalso; omega
              · exfalso; omega
            · refine zz_iconst hC (dk DX3_isBlocked_0k 35 rfl) ?_
              refine zz_goto hC 63 (dk DX3_isBlocked_0k 36 rfl) (by decide) ?_
              refine zz_istore hC (ls' := [(0, .ref h0), (1, .int (zI x)), (2, .int (zI ((i : Nat) : Int))), (3, .int (zI 0)), (4, .int (zI 1)), (5, .int (zI 1))]) [1, 2, 3, 4, 5, 0] (dk DX3_isBlocked_0k 38 rfl) (by decide) rfl ?_
              refine zz_iload_n hC 3 (dk DX3_isBlocked_0k 39 rfl) rfl rfl ?_
              refine zz_if_eq hC 82 (dk DX3_isBlocked_0k 40 rfl) (by decide) (by decide) (fun c18 => ?_) (fun c18 => ?_)
              · refine zz_iload hC 4 (dk DX3_isBlocked_0k 46 rfl) rfl ?_
                refine zz_if_eq hC 94 (dk DX3_isBlocked_0k 47 rfl) (by decide) (by decide) (fun c19 => ?_) (fun c19 => ?_)
                · exfalso; omega
                · refine zz_iload hC 5 (dk DX3_isBlocked_0k 48 rfl) rfl ?_
                  refine zz_if_eq hC 94 (dk DX3_isBlocked_0k 49 rfl) (by decide) (by decide) (fun c20 => ?_) (fun c20 => ?_)
                  · exfalso; omega
                  · refine zz_iconst hC (dk DX3_isBlocked_0k 50 rfl) ?_
                    exact zz_zret hC hQ hr () trivial (zB_t (show zBlk w F L x = true from zAny_iff.mpr ⟨i, by omega, by (try dsimp only); split <;> simp only [decide_eq_true_eq] <;> omega⟩)).symm (by decide) [0, 1, 2, 3, 4, 5, 6] rfl rfl ⟨Nat.le_refl _, Nat.le_refl _⟩ (dk DX3_isBlocked_0k 51 rfl)
              · exfalso; omega
        · refine zz_iconst hC (dk DX3_isBlocked_0k 15 rfl) ?_
          refine zz_goto hC 30 (dk DX3_isBlocked_0k 16 rfl) (by decide) ?_
          refine zz_istore_n hC (ls' := [(0, .ref h0), (1, .int (zI x)), (2, .int (zI ((i : Nat) : Int))), (3, .int (zI 1))]) [1, 2, 3, 0] (dk DX3_isBlocked_0k 18 rfl) rfl (by decide) rfl ?_
          refine zz_iload_n hC 1 (dk DX3_isBlocked_0k 19 rfl) rfl rfl ?_
          refine zz_aload_n hC 0 (dk DX3_isBlocked_0k 20 rfl) rfl rfl ?_
          refine zz_get hC F_X3_15 0 rfl rfl (dk DX3_isBlocked_0k 21 rfl) ?_
          refine zz_iload_n hC 2 (dk DX3_isBlocked_0k 22 rfl) rfl rfl ?_
          refine zz_iald hC i 2 rfl rfl (by omega) (dk DX3_isBlocked_0k 23 rfl) ?_
          have hf21 := hF i (by omega)
          refine zz_icmp_lt hC 45 (dk DX3_isBlocked_0k 24 rfl) (by decide) ⟨⟨by omega, by omega⟩, ⟨by omega, by omega⟩⟩ (fun c22 => ?_) (fun c22 => ?_)
          · refine zz_iconst hC (dk DX3_isBlocked_0k 27 rfl) ?_
            refine zz_istore hC (ls' := [(0, .ref h0), (1, .int (zI x)), (2, .int (zI ((i : Nat) : Int))), (3, .int (zI 1)), (4, .int (zI 0))]) [1, 2, 3, 4, 0] (dk DX3_isBlocked_0k 28 rfl) (by decide) rfl ?_
            refine zz_iload_n hC 1 (dk DX3_isBlocked_0k 29 rfl) rfl rfl ?_
            refine zz_aload_n hC 0 (dk DX3_isBlocked_0k 30 rfl) rfl rfl ?_
            refine zz_get hC F_X3_18 0 rfl rfl (dk DX3_isBlocked_0k 31 rfl) ?_
            refine zz_iload_n hC 2 (dk DX3_isBlocked_0k 32 rfl) rfl rfl ?_
            refine zz_iald hC i 3 rfl rfl (by omega) (dk DX3_isBlocked_0k 33 rfl) ?_
            have hf23 := hL i (by omega)
            refine zz_icmp_gt hC 62 (dk DX3_isBlocked_0k 34 rfl) (by decide) ⟨⟨by omega, by omega⟩, ⟨by omega, by omega⟩⟩ (fun c24 => ?_) (fun c24 => ?_)
            · refine zz_iconst hC (dk DX3_isBlocked_0k 37 rfl) ?_
              refine zz_istore hC (ls' := [(0, .ref h0), (1, .int (zI x)), (2, .int (zI ((i : Nat) : Int))), (3, .int (zI 1)), (4, .int (zI 0)), (5, .int (zI 0))]) [1, 2, 3, 4, 5, 0] (dk DX3_isBlocked_0k 38 rfl) (by decide) rfl ?_
              refine zz_iload_n hC 3 (dk DX3_isBlocked_0k 39 rfl) rfl rfl ?_
              refine zz_if_eq hC 82 (dk DX3_isBlocked_0k 40 rfl) (by decide) (by decide) (fun c25 => ?_) (fun c25 => ?_)
              · exfalso; omega
              · refine zz_iload hC 4 (dk DX3_isBlocked_0k 41 rfl) rfl ?_
                refine zz_if_ne hC 92 (dk DX3_isBlocked_0k 42 rfl) (by decide) (by decide) (fun c26 => ?_) (fun c26 => ?_)
                · exfalso; omega
                · refine zz_iload hC 5 (dk DX3_isBlocked_0k 43 rfl) rfl ?_
                  refine zz_if_eq hC 94 (dk DX3_isBlocked_0k 44 rfl) (by decide) (by decide) (fun c27 => ?_) (fun c27 => ?_)
                  · refine zz_iinc hC ((i + 1 : Nat) : Int) (ls' := [(0, .ref h0), (1, .int (zI x)), (2, .int (zI ((i + 1 : Nat) : Int))), (3, .int (zI 1)), (4, .int (zI 0)), (5, .int (zI 0))]) 2 [1, 2, 0, 3, 4, 5] (dk DX3_isBlocked_0k 52 rfl) rfl (by omega) (by decide) rfl ?_
                    refine zz_goto hC 2 (dk DX3_isBlocked_0k 53 rfl) (by decide) ?_
                    refine zz_ls [0, 1, 2] rfl ?_
                    exact ih2 (i + 1) (by omega) (by simp only [zBlk, zAny, Bool.or_eq_false_iff] at hb ⊢; refine ⟨hb, ?_⟩; split <;> simp only [decide_eq_false_iff_not] <;> omega) (by omega)
                  · exfalso; omega
            · refine zz_iconst hC (dk DX3_isBlocked_0k 35 rfl) ?_
              refine zz_goto hC 63 (dk DX3_isBlocked_0k 36 rfl) (by decide) ?_
              refine zz_istore hC (ls' := [(0, .ref h0), (1, .int (zI x)), (2, .int (zI ((i : Nat) : Int))), (3, .int (zI 1)), (4, .int (zI 0)), (5, .int (zI 1))]) [1, 2, 3, 4, 5, 0] (dk DX3_isBlocked_0k 38 rfl) (by decide) rfl ?_
              refine zz_iload_n hC 3 (dk DX3_isBlocked_0k 39 rfl) rfl rfl ?_
              refine zz_if_eq hC 82 (dk DX3_isBlocked_0k 40 rfl) (by decide) (by decide) (fun c28 => ?_) (fun c28 => ?_)
              · exfalso; omega
              · refine zz_iload hC 4 (dk DX3_isBlocked_0k 41 rfl) rfl ?_
                refine zz_if_ne hC 92 (dk DX3_isBlocked_0k 42 rfl) (by decide) (by decide) (fun c29 => ?_) (fun c29 => ?_)
                · exfalso; omega
                · refine zz_iload hC 5 (dk DX3_isBlocked_0k 43 rfl) rfl ?_
                  refine zz_if_eq hC 94 (dk DX3_isBlocked_0k 44 rfl) (by decide) (by decide) (fun c30 => ?_) (fun c30 => ?_)
                  · exfalso; omega
                  · refine zz_goto hC 92 (dk DX3_isBlocked_0k 45 rfl) (by decide) ?_
                    refine zz_iconst hC (dk DX3_isBlocked_0k 50 rfl) ?_
                    exact zz_zret hC hQ hr () trivial (zB_t (show zBlk w F L x = true from zAny_iff.mpr ⟨i, by omega, by (try dsimp only); split <;> simp only [decide_eq_true_eq] <;> omega⟩)).symm (by decide) [0, 1, 2, 3, 4, 5, 6] rfl rfl ⟨Nat.le_refl _, Nat.le_refl _⟩ (dk DX3_isBlocked_0k 51 rfl)
          · refine zz_iconst hC (dk DX3_isBlocked_0k 25 rfl) ?_
            refine zz_goto hC 46 (dk DX3_isBlocked_0k 26 rfl) (by decide) ?_
            refine zz_istore hC (ls' := [(0, .ref h0), (1, .int (zI x)), (2, .int (zI ((i : Nat) : Int))), (3, .int (zI 1)), (4, .int (zI 1))]) [1, 2, 3, 4, 0] (dk DX3_isBlocked_0k 28 rfl) (by decide) rfl ?_
            refine zz_iload_n hC 1 (dk DX3_isBlocked_0k 29 rfl) rfl rfl ?_
            refine zz_aload_n hC 0 (dk DX3_isBlocked_0k 30 rfl) rfl rfl ?_
            refine zz_get hC F_X3_18 0 rfl rfl (dk DX3_isBlocked_0k 31 rfl) ?_
            refine zz_iload_n hC 2 (dk DX3_isBlocked_0k 32 rfl) rfl rfl ?_
            refine zz_iald hC i 3 rfl rfl (by omega) (dk DX3_isBlocked_0k 33 rfl) ?_
            have hf31 := hL i (by omega)
            refine zz_icmp_gt hC 62 (dk DX3_isBlocked_0k 34 rfl) (by decide) ⟨⟨by omega, by omega⟩, ⟨by omega, by omega⟩⟩ (fun c32 => ?_) (fun c32 => ?_)
            · refine zz_iconst hC (dk DX3_isBlocked_0k 37 rfl) ?_
              refine zz_istore hC (ls' := [(0, .ref h0), (1, .int (zI x)), (2, .int (zI ((i : Nat) : Int))), (3, .int (zI 1)), (4, .int (zI 1)), (5, .int (zI 0))]) [1, 2, 3, 4, 5, 0] (dk DX3_isBlocked_0k 38 rfl) (by decide) rfl ?_
              refine zz_iload_n hC 3 (dk DX3_isBlocked_0k 39 rfl) rfl rfl ?_
              refine zz_if_eq hC 82 (dk DX3_isBlocked_0k 40 rfl) (by decide) (by decide) (fun c33 => ?_) (fun c33 => ?_)
              · exfalso; omega
              · refine zz_iload hC 4 (dk DX3_isBlocked_0k 41 rfl) rfl ?_
                refine zz_if_ne hC 92 (dk DX3_isBlocked_0k 42 rfl) (by decide) (by decide) (fun c34 => ?_) (fun c34 => ?_)
                · refine zz_iconst hC (dk DX3_isBlocked_0k 50 rfl) ?_
                  exact zz_zret hC hQ hr () trivial (zB_t (show zBlk w F L x = true from zAny_iff.mpr ⟨i, by omega, by (try dsimp only); split <;> simp only [decide_eq_true_eq] <;> omega⟩)).symm (by decide) [0, 1, 2, 3, 4, 5, 6] rfl rfl ⟨Nat.le_refl _, Nat.le_refl _⟩ (dk DX3_isBlocked_0k 51 rfl)
                · exfalso; omega
            · refine zz_iconst hC (dk DX3_isBlocked_0k 35 rfl) ?_
              refine zz_goto hC 63 (dk DX3_isBlocked_0k 36 rfl) (by decide) ?_
              refine zz_istore hC (ls' := [(0, .ref h0), (1, .int (zI x)), (2, .int (zI ((i : Nat) : Int))), (3, .int (zI 1)), (4, .int (zI 1)), (5, .int (zI 1))]) [1, 2, 3, 4, 5, 0] (dk DX3_isBlocked_0k 38 rfl) (by decide) rfl ?_
              refine zz_iload_n hC 3 (dk DX3_isBlocked_0k 39 rfl) rfl rfl ?_
              refine zz_if_eq hC 82 (dk DX3_isBlocked_0k 40 rfl) (by decide) (by decide) (fun c35 => ?_) (fun c35 => ?_)
              · exfalso; omega
              · refine zz_iload hC 4 (dk DX3_isBlocked_0k 41 rfl) rfl ?_
                refine zz_if_ne hC 92 (dk DX3_isBlocked_0k 42 rfl) (by decide) (by decide) (fun c36 => ?_) (fun c36 => ?_)
                · refine zz_iconst hC (dk DX3_isBlocked_0k 50 rfl) ?_
                  exact zz_zret hC hQ hr () trivial (zB_t (show zBlk w F L x = true from zAny_iff.mpr ⟨i, by omega, by (try dsimp only); split <;> simp only [decide_eq_true_eq] <;> omega⟩)).symm (by decide) [0, 1, 2, 3, 4, 5, 6] rfl rfl ⟨Nat.le_refl _, Nat.le_refl _⟩ (dk DX3_isBlocked_0k 51 rfl)
                · exfalso; omega
  refine zz_ls [0, 1, 2] rfl ?_
  exact LP2 _ 0 (by omega) rfl (Nat.lt_succ_self _)
set_option maxHeartbeats 4000000 in
set_option maxRecDepth 100000 in
theorem c_X3_addWindow (l : Launch) (D : zG) (h0 : Nat) (h1 : Nat) (h2 : Nat) (h3 : Nat) (h4 : Nat) (h5 : Nat) (h6 : Nat) (S : Nat → Int) (F : Nat → Int) (L : Nat → Int) (K : Nat → Int) (T : Nat → Int) (U : Nat → Int) (w : Nat) (n : Nat) (x : Int) (y : Int) (hw3 : w < 4) : CV (S := Unit) l yX3_addWindow cX3_addWindow 3 (none) ({ frames := 0, cells := 0, slots := 0, locals := 0 } : Room) D [.ref h0, .int (zI x), .int (zI y)] [(h0, .inr (3, [.ref h1, .ref h2, .ref h3, .ref h4, .ref h5, .ref h6, .int (zI ((w : Nat) : Int)), .int (zI ((n : Nat) : Int))])), (h1, iA D 11 S), (h2, iA D 4 F), (h3, iA D 4 L), (h4, iA D 250 K), (h5, iA D 250 T), (h6, iA D 250 U)] (fun u => True)  (fun u => [(h0, .inr (3, [.ref h1, .ref h2, .ref h3, .ref h4, .ref h5, .ref h6, .int (zI ((w + 1 : Nat) : Int)), .int (zI ((n : Nat) : Int))])), (h1, iA D 11 S), (h2, iA D 4 (zU F w x)), (h3, iA D 4 (zU L w y)), (h4, iA D 250 K), (h5, iA D 250 T), (h6, iA D 250 U)]) := by
  refine CV_of (by decide) (Nat.le_of_ble_eq_true rfl) ?_
  intro p e s m args below meth cd A Q hQ hC hr hnm
  have hC : ZC p s m args meth cd A D 3 cX3_addWindow RX3 := hC
  show Z p l e ({ frames := 0, cells := 0, slots := 0, locals := 0 } : Room) s m args below meth cd A D Q 3 0 0 [(h0, .inr (3, [.ref h1, .ref h2, .ref h3, .ref h4, .ref h5, .ref h6, .int (zI ((w : Nat) : Int)), .int (zI ((n : Nat) : Int))])), (h1, iA D 11 S), (h2, iA D 4 F), (h3, iA D 4 L), (h4, iA D 250 K), (h5, iA D 250 T), (h6, iA D 250 U)] [(0, .ref h0), (1, .int (zI x)), (2, .int (zI y))] [] 0
  refine zz_aload_n hC 0 (dk DX3_addWindow_0k 0 rfl) rfl rfl ?_
  refine zz_get hC F_X3_30 0 rfl rfl (dk DX3_addWindow_0k 1 rfl) ?_
  refine zz_iconst hC (dk DX3_addWindow_0k 2 rfl) ?_
  refine zz_icmp_ge hC 38 (dk DX3_addWindow_0k 3 rfl) (by decide) ⟨⟨by omega, by omega⟩, (by decide)⟩ (fun c1 => ?_) (fun c1 => ?_)
  · exfalso; omega
  · refine zz_aload_n hC 0 (dk DX3_addWindow_0k 4 rfl) rfl rfl ?_
    refine zz_get hC F_X3_15 0 rfl rfl (dk DX3_addWindow_0k 5 rfl) ?_
    refine zz_aload_n hC 0 (dk DX3_addWindow_0k 6 rfl) rfl rfl ?_
    refine zz_get hC F_X3_30 0 rfl rfl (dk DX3_addWindow_0k 7 rfl) ?_
    refine zz_iload_n hC 1 (dk DX3_addWindow_0k 8 rfl) rfl rfl ?_
    refine zz_iast hC (ws' := [(h0, .inr (3, [.ref h1, .ref h2, .ref h3, .ref h4, .ref h5, .ref h6, .int (zI ((w : Nat) : Int)), .int (zI ((n : Nat) : Int))])), (h1, iA D 11 S), (h2, iA D 4 (zU F w x)), (h3, iA D 4 L), (h4, iA D 250 K), (h5, iA D 250 T), (h6, iA D 250 U)]) w 2 rfl rfl (by omega) rfl (dk DX3_addWindow_0k 9 rfl) ?_
    refine zz_aload_n hC 0 (dk DX3_addWindow_0k 10 rfl) rfl rfl ?_
    refine zz_get hC F_X3_18 0 rfl rfl (dk DX3_addWindow_0k 11 rfl) ?_
    refine zz_aload_n hC 0 (dk DX3_addWindow_0k 12 rfl) rfl rfl ?_
    refine zz_get hC F_X3_30 0 rfl rfl (dk DX3_addWindow_0k 13 rfl) ?_
    refine zz_iload_n hC 2 (dk DX3_addWindow_0k 14 rfl) rfl rfl ?_
    refine zz_iast hC (ws' := [(h0, .inr (3, [.ref h1, .ref h2, .ref h3, .ref h4, .ref h5, .ref h6, .int (zI ((w : Nat) : Int)), .int (zI ((n : Nat) : Int))])), (h1, iA D 11 S), (h2, iA D 4 (zU F w x)), (h3, iA D 4 (zU L w y)), (h4, iA D 250 K), (h5, iA D 250 T), (h6, iA D 250 U)]) w 3 rfl rfl (by omega) rfl (dk DX3_addWindow_0k 15 rfl) ?_
    refine zz_aload_n hC 0 (dk DX3_addWindow_0k 16 rfl) rfl rfl ?_
    refine zz_dup hC (dk DX3_addWindow_0k 17 rfl) rfl ?_
    refine zz_get hC F_X3_30 0 rfl rfl (dk DX3_addWindow_0k 18 rfl) ?_
    refine zz_iconst hC (dk DX3_addWindow_0k 19 rfl) ?_
    refine zz_iadd hC (dk DX3_addWindow_0k 20 rfl) ?_
    refine zz_put hC F_X3_30 fc_X3 rfl (tyX3_ok 6 (by decide)) 0 (ws' := [(h0, .inr (3, [.ref h1, .ref h2, .ref h3, .ref h4, .ref h5, .ref h6, .int (zI ((w + 1 : Nat) : Int)), .int (zI ((n : Nat) : Int))])), (h1, iA D 11 S), (h2, iA D 4 (zU F w x)), (h3, iA D 4 (zU L w y)), (h4, iA D 250 K), (h5, iA D 250 T), (h6, iA D 250 U)]) rfl rfl rfl (Nat.le_of_ble_eq_true rfl) rfl (dk DX3_addWindow_0k 21 rfl) ?_
    exact zz_ret hC hQ hr () trivial [0, 1, 2, 3, 4, 5, 6] rfl rfl ⟨Nat.le_refl _, Nat.le_refl _⟩ (dk DX3_addWindow_0k 22 rfl)
set_option maxHeartbeats 4000000 in
set_option maxRecDepth 100000 in
theorem c_X3_addPulse (l : Launch) (D : zG) (h0 : Nat) (h1 : Nat) (h2 : Nat) (h3 : Nat) (h4 : Nat) (h5 : Nat) (h6 : Nat) (S : Nat → Int) (F : Nat → Int) (L : Nat → Int) (K : Nat → Int) (T : Nat → Int) (U : Nat → Int) (w : Nat) (n : Nat) (x : Int) (y : Int) (z : Int) (hn3 : n < 250) : CV (S := Unit) l yX3_addPulse cX3_addPulse 4 (none) ({ frames := 0, cells := 0, slots := 0, locals := 0 } : Room) D [.ref h0, .int (zI x), .int (zI y), .int (zI z)] [(h0, .inr (3, [.ref h1, .ref h2, .ref h3, .ref h4, .ref h5, .ref h6, .int (zI ((w : Nat) : Int)), .int (zI ((n : Nat) : Int))])), (h1, iA D 11 S), (h2, iA D 4 F), (h3, iA D 4 L), (h4, iA D 250 K), (h5, iA D 250 T), (h6, iA D 250 U)] (fun u => True)  (fun u => [(h0, .inr (3, [.ref h1, .ref h2, .ref h3, .ref h4, .ref h5, .ref h6, .int (zI ((w : Nat) : Int)), .int (zI ((n + 1 : Nat) : Int))])), (h1, iA D 11 S), (h2, iA D 4 F), (h3, iA D 4 L), (h4, iA D 250 (zU K n x)), (h5, iA D 250 (zU T n y)), (h6, iA D 250 (zU U n z))]) := by
  refine CV_of (by decide) (Nat.le_of_ble_eq_true rfl) ?_
  intro p e s m args below meth cd A Q hQ hC hr hnm
  have hC : ZC p s m args meth cd A D 4 cX3_addPulse RX3 := hC
  show Z p l e ({ frames := 0, cells := 0, slots := 0, locals := 0 } : Room) s m args below meth cd A D Q 4 0 0 [(h0, .inr (3, [.ref h1, .ref h2, .ref h3, .ref h4, .ref h5, .ref h6, .int (zI ((w : Nat) : Int)), .int (zI ((n : Nat) : Int))])), (h1, iA D 11 S), (h2, iA D 4 F), (h3, iA D 4 L), (h4, iA D 250 K), (h5, iA D 250 T), (h6, iA D 250 U)] [(0, .ref h0), (1, .int (zI x)), (2, .int (zI y)), (3, .int (zI z))] [] 0
  refine zz_aload_n hC 0 (dk DX3_addPulse_0k 0 rfl) rfl rfl ?_
  refine zz_get hC F_X3_34 0 rfl rfl (dk DX3_addPulse_0k 1 rfl) ?_
  refine zz_sipush hC (dk DX3_addPulse_0k 2 rfl) (by decide) ?_
  refine zz_icmp_ge hC 50 (dk DX3_addPulse_0k 3 rfl) (by decide) ⟨⟨by omega, by omega⟩, (by decide)⟩ (fun c1 => ?_) (fun c1 => ?_)
  · exfalso; omega
  · refine zz_aload_n hC 0 (dk DX3_addPulse_0k 4 rfl) rfl rfl ?_
    refine zz_get hC F_X3_21 0 rfl rfl (dk DX3_addPulse_0k 5 rfl) ?_
    refine zz_aload_n hC 0 (dk DX3_addPulse_0k 6 rfl) rfl rfl ?_
    refine zz_get hC F_X3_34 0 rfl rfl (dk DX3_addPulse_0k 7 rfl) ?_
    refine zz_iload_n hC 1 (dk DX3_addPulse_0k 8 rfl) rfl rfl ?_
    refine zz_iast hC (ws' := [(h0, .inr (3, [.ref h1, .ref h2, .ref h3, .ref h4, .ref h5, .ref h6, .int (zI ((w : Nat) : Int)), .int (zI ((n : Nat) : Int))])), (h1, iA D 11 S), (h2, iA D 4 F), (h3, iA D 4 L), (h4, iA D 250 (zU K n x)), (h5, iA D 250 T), (h6, iA D 250 U)]) n 4 rfl rfl (by omega) rfl (dk DX3_addPulse_0k 9 rfl) ?_
    refine zz_aload_n hC 0 (dk DX3_addPulse_0k 10 rfl) rfl rfl ?_
    refine zz_get hC F_X3_24 0 rfl rfl (dk DX3_addPulse_0k 11 rfl) ?_
    refine zz_aload_n hC 0 (dk DX3_addPulse_0k 12 rfl) rfl rfl ?_
    refine zz_get hC F_X3_34 0 rfl rfl (dk DX3_addPulse_0k 13 rfl) ?_
    refine zz_iload_n hC 2 (dk DX3_addPulse_0k 14 rfl) rfl rfl ?_
    refine zz_iast hC (ws' := [(h0, .inr (3, [.ref h1, .ref h2, .ref h3, .ref h4, .ref h5, .ref h6, .int (zI ((w : Nat) : Int)), .int (zI ((n : Nat) : Int))])), (h1, iA D 11 S), (h2, iA D 4 F), (h3, iA D 4 L), (h4, iA D 250 (zU K n x)), (h5, iA D 250 (zU T n y)), (h6, iA D 250 U)]) n 5 rfl rfl (by omega) rfl (dk DX3_addPulse_0k 15 rfl) ?_
    refine zz_aload_n hC 0 (dk DX3_addPulse_0k 16 rfl) rfl rfl ?_
    refine zz_get hC F_X3_27 0 rfl rfl (dk DX3_addPulse_0k 17 rfl) ?_
    refine zz_aload_n hC 0 (dk DX3_addPulse_0k 18 rfl) rfl rfl ?_
    refine zz_get hC F_X3_34 0 rfl rfl (dk DX3_addPulse_0k 19 rfl) ?_
    refine zz_iload_n hC 3 (dk DX3_addPulse_0k 20 rfl) rfl rfl ?_
    refine zz_iast hC (ws' := [(h0, .inr (3, [.ref h1, .ref h2, .ref h3, .ref h4, .ref h5, .ref h6, .int (zI ((w : Nat) : Int)), .int (zI ((n : Nat) : Int))])), (h1, iA D 11 S), (h2, iA D 4 F), (h3, iA D 4 L), (h4, iA D 250 (zU K n x)), (h5, iA D 250 (zU T n y)), (h6, iA D 250 (zU U n z))]) n 6 rfl rfl (by omega) rfl (dk DX3_addPulse_0k 21 rfl) ?_
    refine zz_aload_n hC 0 (dk DX3_addPulse_0k 22 rfl) rfl rfl ?_
    refine zz_dup hC (dk DX3_addPulse_0k 23 rfl) rfl ?_
    refine zz_get hC F_X3_34 0 rfl rfl (dk DX3_addPulse_0k 24 rfl) ?_
    refine zz_iconst hC (dk DX3_addPulse_0k 25 rfl) ?_
    refine zz_iadd hC (dk DX3_addPulse_0k 26 rfl) ?_
    refine zz_put hC F_X3_34 fc_X3 rfl (tyX3_ok 7 (by decide)) 0 (ws' := [(h0, .inr (3, [.ref h1, .ref h2, .ref h3, .ref h4, .ref h5, .ref h6, .int (zI ((w : Nat) : Int)), .int (zI ((n + 1 : Nat) : Int))])), (h1, iA D 11 S), (h2, iA D 4 F), (h3, iA D 4 L), (h4, iA D 250 (zU K n x)), (h5, iA D 250 (zU T n y)), (h6, iA D 250 (zU U n z))]) rfl rfl rfl (Nat.le_of_ble_eq_true rfl) rfl (dk DX3_addPulse_0k 27 rfl) ?_
    exact zz_ret hC hQ hr () trivial [0, 1, 2, 3, 4, 5, 6] rfl rfl ⟨Nat.le_refl _, Nat.le_refl _⟩ (dk DX3_addPulse_0k 28 rfl)
set_option maxHeartbeats 4000000 in
set_option maxRecDepth 100000 in
theorem c_X3_takeFrom (l : Launch) (D : zG) (h0 : Nat) (h1 : Nat) (h2 : Nat) (h3 : Nat) (h4 : Nat) (h5 : Nat) (h6 : Nat) (S : Nat → Int) (F : Nat → Int) (L : Nat → Int) (K : Nat → Int) (T : Nat → Int) (U : Nat → Int) (w : Nat) (n : Nat) (o0 : Nat) (o1 : Nat) (o2 : Nat) (o3 : Nat) (o4 : Nat) (o5 : Nat) (o6 : Nat) (S2 : Nat → Int) (F2 : Nat → Int) (L2 : Nat → Int) (K2 : Nat → Int) (T2 : Nat → Int) (U2 : Nat → Int) (w2 : Nat) (n2 : Nat)  : CV (S := Unit) l yX3_takeFrom cX3_takeFrom 2 (none) ({ frames := 1, cells := 0, slots := 0, locals := 40 } : Room) D [.ref h0, .ref o0] [(h0, .inr (3, [.ref h1, .ref h2, .ref h3, .ref h4, .ref h5, .ref h6, .int (zI ((w : Nat) : Int)), .int (zI ((n : Nat) : Int))])), (h1, iA D 11 S), (h2, iA D 4 F), (h3, iA D 4 L), (h4, iA D 250 K), (h5, iA D 250 T), (h6, iA D 250 U), (o0, .inr (3, [.ref o1, .ref o2, .ref o3, .ref o4, .ref o5, .ref o6, .int (zI ((w2 : Nat) : Int)), .int (zI ((n2 : Nat) : Int))])), (o1, iA D 11 S2), (o2, iA D 4 F2), (o3, iA D 4 L2), (o4, iA D 250 K2), (o5, iA D 250 T2), (o6, iA D 250 U2)] (fun u => True)  (fun u => [(h0, .inr (3, [.ref h1, .ref h2, .ref h3, .ref h4, .ref h5, .ref h6, .int (zI ((w2 : Nat) : Int)), .int (zI ((n2 : Nat) : Int))])), (h1, iA D 11 S2), (h2, iA D 4 F2), (h3, iA D 4 L2), (h4, iA D 250 K2), (h5, iA D 250 T2), (h6, iA D 250 U2), (o0, .inr (3, [.ref o1, .ref o2, .ref o3, .ref o4, .ref o5, .ref o6, .int (zI ((w2 : Nat) : Int)), .int (zI ((n2 : Nat) : Int))])), (o1, iA D 11 S2), (o2, iA D 4 F2), (o3, iA D 4 L2), (o4, iA D 250 K2), (o5, iA D 250 T2), (o6, iA D 250 U2)]) := by
  refine CV_of (by decide) (Nat.le_of_ble_eq_true rfl) ?_
  intro p e s m args below meth cd A Q hQ hC hr hnm
  have hC : ZC p s m args meth cd A D 2 cX3_takeFrom RX3 := hC
  show Z p l e ({ frames := 1, cells := 0, slots := 0, locals := 40 } : Room) s m args below meth cd A D Q 2 0 0 [(h0, .inr (3, [.ref h1, .ref h2, .ref h3, .ref h4, .ref h5, .ref h6, .int (zI ((w : Nat) : Int)), .int (zI ((n : Nat) : Int))])), (h1, iA D 11 S), (h2, iA D 4 F), (h3, iA D 4 L), (h4, iA D 250 K), (h5, iA D 250 T), (h6, iA D 250 U), (o0, .inr (3, [.ref o1, .ref o2, .ref o3, .ref o4, .ref o5, .ref o6, .int (zI ((w2 : Nat) : Int)), .int (zI ((n2 : Nat) : Int))])), (o1, iA D 11 S2), (o2, iA D 4 F2), (o3, iA D 4 L2), (o4, iA D 250 K2), (o5, iA D 250 T2), (o6, iA D 250 U2)] [(0, .ref h0), (1, .ref o0)] [] 0
  refine zz_aload_n hC 1 (dk DX3_takeFrom_0k 0 rfl) rfl rfl ?_
  refine zz_get hC F_X3_9 7 rfl rfl (dk DX3_takeFrom_0k 1 rfl) ?_
  refine zz_iconst hC (dk DX3_takeFrom_0k 2 rfl) ?_
  refine zz_aload_n hC 0 (dk DX3_takeFrom_0k 3 rfl) rfl rfl ?_
  refine zz_get hC F_X3_9 0 rfl rfl (dk DX3_takeFrom_0k 4 rfl) ?_
  refine zz_iconst hC (dk DX3_takeFrom_0k 5 rfl) ?_
  refine zz_bipush hC (dk DX3_takeFrom_0k 6 rfl) (by decide) ?_
  refine zz_copy hC (ws' := [(h0, .inr (3, [.ref h1, .ref h2, .ref h3, .ref h4, .ref h5, .ref h6, .int (zI ((w : Nat) : Int)), .int (zI ((n : Nat) : Int))])), (h1, iA D 11 S2), (h2, iA D 4 F), (h3, iA D 4 L), (h4, iA D 250 K), (h5, iA D 250 T), (h6, iA D 250 U), (o0, .inr (3, [.ref o1, .ref o2, .ref o3, .ref o4, .ref o5, .ref o6, .int (zI ((w2 : Nat) : Int)), .int (zI ((n2 : Nat) : Int))])), (o1, iA D 11 S2), (o2, iA D 4 F2), (o3, iA D 4 L2), (o4, iA D 250 K2), (o5, iA D 250 T2), (o6, iA D 250 U2)]) Q_X3_40 Q_copy 8 1 rfl rfl (by decide) ⟨Nat.le_of_ble_eq_true rfl, Nat.le_of_ble_eq_true rfl⟩ rfl (dk DX3_takeFrom_0k 7 rfl) ?_
  refine zz_aload_n hC 1 (dk DX3_takeFrom_0k 8 rfl) rfl rfl ?_
  refine zz_get hC F_X3_15 7 rfl rfl (dk DX3_takeFrom_0k 9 rfl) ?_
  refine zz_iconst hC (dk DX3_takeFrom_0k 10 rfl) ?_
  refine zz_aload_n hC 0 (dk DX3_takeFrom_0k 11 rfl) rfl rfl ?_
  refine zz_get hC F_X3_15 0 rfl rfl (dk DX3_takeFrom_0k 12 rfl) ?_
  refine zz_iconst hC (dk DX3_takeFrom_0k 13 rfl) ?_
  refine zz_iconst hC (dk DX3_takeFrom_0k 14 rfl) ?_
  refine zz_copy hC (ws' := [(h0, .inr (3, [.ref h1, .ref h2, .ref h3, .ref h4, .ref h5, .ref h6, .int (zI ((w : Nat) : Int)), .int (zI ((n : Nat) : Int))])), (h1, iA D 11 S2), (h2, iA D 4 F2), (h3, iA D 4 L), (h4, iA D 250 K), (h5, iA D 250 T), (h6, iA D 250 U), (o0, .inr (3, [.ref o1, .ref o2, .ref o3, .ref o4, .ref o5, .ref o6, .int (zI ((w2 : Nat) : Int)), .int (zI ((n2 : Nat) : Int))])), (o1, iA D 11 S2), (o2, iA D 4 F2), (o3, iA D 4 L2), (o4, iA D 250 K2), (o5, iA D 250 T2), (o6, iA D 250 U2)]) Q_X3_40 Q_copy 9 2 rfl rfl (by decide) ⟨Nat.le_of_ble_eq_true rfl, Nat.le_of_ble_eq_true rfl⟩ rfl (dk DX3_takeFrom_0k 15 rfl) ?_
  refine zz_aload_n hC 1 (dk DX3_takeFrom_0k 16 rfl) rfl rfl ?_
  refine zz_get hC F_X3_18 7 rfl rfl (dk DX3_takeFrom_0k 17 rfl) ?_
  refine zz_iconst hC (dk DX3_takeFrom_0k 18 rfl) ?_
  refine zz_aload_n hC 0 (dk DX3_takeFrom_0k 19 rfl) rfl rfl ?_
  refine zz_get hC F_X3_18 0 rfl rfl (dk DX3_takeFrom_0k 20 rfl) ?_
  refine zz_iconst hC (dk DX3_takeFrom_0k 21 rfl) ?_
  refine zz_iconst hC (dk DX3_takeFrom_0k 22 rfl) ?_
  refine zz_copy hC (ws' := [(h0, .inr (3, [.ref h1, .ref h2, .ref h3, .ref h4, .ref h5, .ref h6, .int (zI ((w : Nat) : Int)), .int (zI ((n : Nat) : Int))])), (h1, iA D 11 S2), (h2, iA D 4 F2), (h3, iA D 4 L2), (h4, iA D 250 K), (h5, iA D 250 T), (h6, iA D 250 U), (o0, .inr (3, [.ref o1, .ref o2, .ref o3, .ref o4, .ref o5, .ref o6, .int (zI ((w2 : Nat) : Int)), .int (zI ((n2 : Nat) : Int))])), (o1, iA D 11 S2), (o2, iA D 4 F2), (o3, iA D 4 L2), (o4, iA D 250 K2), (o5, iA D 250 T2), (o6, iA D 250 U2)]) Q_X3_40 Q_copy 10 3 rfl rfl (by decide) ⟨Nat.le_of_ble_eq_true rfl, Nat.le_of_ble_eq_true rfl⟩ rfl (dk DX3_takeFrom_0k 23 rfl) ?_
  refine zz_aload_n hC 1 (dk DX3_takeFrom_0k 24 rfl) rfl rfl ?_
  refine zz_get hC F_X3_21 7 rfl rfl (dk DX3_takeFrom_0k 25 rfl) ?_
  refine zz_iconst hC (dk DX3_takeFrom_0k 26 rfl) ?_
  refine zz_aload_n hC 0 (dk DX3_takeFrom_0k 27 rfl) rfl rfl ?_
  refine zz_get hC F_X3_21 0 rfl rfl (dk DX3_takeFrom_0k 28 rfl) ?_
  refine zz_iconst hC (dk DX3_takeFrom_0k 29 rfl) ?_
  refine zz_sipush hC (dk DX3_takeFrom_0k 30 rfl) (by decide) ?_
  refine zz_copy hC (ws' := [(h0, .inr (3, [.ref h1, .ref h2, .ref h3, .ref h4, .ref h5, .ref h6, .int (zI ((w : Nat) : Int)), .int (zI ((n : Nat) : Int))])), (h1, iA D 11 S2), (h2, iA D 4 F2), (h3, iA D 4 L2), (h4, iA D 250 K2), (h5, iA D 250 T), (h6, iA D 250 U), (o0, .inr (3, [.ref o1, .ref o2, .ref o3, .ref o4, .ref o5, .ref o6, .int (zI ((w2 : Nat) : Int)), .int (zI ((n2 : Nat) : Int))])), (o1, iA D 11 S2), (o2, iA D 4 F2), (o3, iA D 4 L2), (o4, iA D 250 K2), (o5, iA D 250 T2), (o6, iA D 250 U2)]) Q_X3_40 Q_copy 11 4 rfl rfl (by decide) ⟨Nat.le_of_ble_eq_true rfl, Nat.le_of_ble_eq_true rfl⟩ rfl (dk DX3_takeFrom_0k 31 rfl) ?_
  refine zz_aload_n hC 1 (dk DX3_takeFrom_0k 32 rfl) rfl rfl ?_
  refine zz_get hC F_X3_24 7 rfl rfl (dk DX3_takeFrom_0k 33 rfl) ?_
  refine zz_iconst hC (dk DX3_takeFrom_0k 34 rfl) ?_
  refine zz_aload_n hC 0 (dk DX3_takeFrom_0k 35 rfl) rfl rfl ?_
  refine zz_get hC F_X3_24 0 rfl rfl (dk DX3_takeFrom_0k 36 rfl) ?_
  refine zz_iconst hC (dk DX3_takeFrom_0k 37 rfl) ?_
  refine zz_sipush hC (dk DX3_takeFrom_0k 38 rfl) (by decide) ?_
  refine zz_copy hC (ws' := [(h0, .inr (3, [.ref h1, .ref h2, .ref h3, .ref h4, .ref h5, .ref h6, .int (zI ((w : Nat) : Int)), .int (zI ((n : Nat) : Int))])), (h1, iA D 11 S2), (h2, iA D 4 F2), (h3, iA D 4 L2), (h4, iA D 250 K2), (h5, iA D 250 T2), (h6, iA D 250 U), (o0, .inr (3, [.ref o1, .ref o2, .ref o3, .ref o4, .ref o5, .ref o6, .int (zI ((w2 : Nat) : Int)), .int (zI ((n2 : Nat) : Int))])), (o1, iA D 11 S2), (o2, iA D 4 F2), (o3, iA D 4 L2), (o4, iA D 250 K2), (o5, iA D 250 T2), (o6, iA D 250 U2)]) Q_X3_40 Q_copy 12 5 rfl rfl (by decide) ⟨Nat.le_of_ble_eq_true rfl, Nat.le_of_ble_eq_true rfl⟩ rfl (dk DX3_takeFrom_0k 39 rfl) ?_
  refine zz_aload_n hC 1 (dk DX3_takeFrom_0k 40 rfl) rfl rfl ?_
  refine zz_get hC F_X3_27 7 rfl rfl (dk DX3_takeFrom_0k 41 rfl) ?_
  refine zz_iconst hC (dk DX3_takeFrom_0k 42 rfl) ?_
  refine zz_aload_n hC 0 (dk DX3_takeFrom_0k 43 rfl) rfl rfl ?_
  refine zz_get hC F_X3_27 0 rfl rfl (dk DX3_takeFrom_0k 44 rfl) ?_
  refine zz_iconst hC (dk DX3_takeFrom_0k 45 rfl) ?_
  refine zz_sipush hC (dk DX3_takeFrom_0k 46 rfl) (by decide) ?_
  refine zz_copy hC (ws' := [(h0, .inr (3, [.ref h1, .ref h2, .ref h3, .ref h4, .ref h5, .ref h6, .int (zI ((w : Nat) : Int)), .int (zI ((n : Nat) : Int))])), (h1, iA D 11 S2), (h2, iA D 4 F2), (h3, iA D 4 L2), (h4, iA D 250 K2), (h5, iA D 250 T2), (h6, iA D 250 U2), (o0, .inr (3, [.ref o1, .ref o2, .ref o3, .ref o4, .ref o5, .ref o6, .int (zI ((w2 : Nat) : Int)), .int (zI ((n2 : Nat) : Int))])), (o1, iA D 11 S2), (o2, iA D 4 F2), (o3, iA D 4 L2), (o4, iA D 250 K2), (o5, iA D 250 T2), (o6, iA D 250 U2)]) Q_X3_40 Q_copy 13 6 rfl rfl (by decide) ⟨Nat.le_of_ble_eq_true rfl, Nat.le_of_ble_eq_true rfl⟩ rfl (dk DX3_takeFrom_0k 47 rfl) ?_
  refine zz_aload_n hC 0 (dk DX3_takeFrom_0k 48 rfl) rfl rfl ?_
  refine zz_aload_n hC 1 (dk DX3_takeFrom_0k 49 rfl) rfl rfl ?_
  refine zz_get hC F_X3_30 7 rfl rfl (dk DX3_takeFrom_0k 50 rfl) ?_
  refine zz_put hC F_X3_30 fc_X3 rfl (tyX3_ok 6 (by decide)) 0 (ws' := [(h0, .inr (3, [.ref h1, .ref h2, .ref h3, .ref h4, .ref h5, .ref h6, .int (zI ((w2 : Nat) : Int)), .int (zI ((n : Nat) : Int))])), (h1, iA D 11 S2), (h2, iA D 4 F2), (h3, iA D 4 L2), (h4, iA D 250 K2), (h5, iA D 250 T2), (h6, iA D 250 U2), (o0, .inr (3, [.ref o1, .ref o2, .ref o3, .ref o4, .ref o5, .ref o6, .int (zI ((w2 : Nat) : Int)), .int (zI ((n2 : Nat) : Int))])), (o1, iA D 11 S2), (o2, iA D 4 F2), (o3, iA D 4 L2), (o4, iA D 250 K2), (o5, iA D 250 T2), (o6, iA D 250 U2)]) rfl rfl rfl (Nat.le_of_ble_eq_true rfl) rfl (dk DX3_takeFrom_0k 51 rfl) ?_
  refine zz_aload_n hC 0 (dk DX3_takeFrom_0k 52 rfl) rfl rfl ?_
  refine zz_aload_n hC 1 (dk DX3_takeFrom_0k 53 rfl) rfl rfl ?_
  refine zz_get hC F_X3_34 7 rfl rfl (dk DX3_takeFrom_0k 54 rfl) ?_
  refine zz_put hC F_X3_34 fc_X3 rfl (tyX3_ok 7 (by decide)) 0 (ws' := [(h0, .inr (3, [.ref h1, .ref h2, .ref h3, .ref h4, .ref h5, .ref h6, .int (zI ((w2 : Nat) : Int)), .int (zI ((n2 : Nat) : Int))])), (h1, iA D 11 S2), (h2, iA D 4 F2), (h3, iA D 4 L2), (h4, iA D 250 K2), (h5, iA D 250 T2), (h6, iA D 250 U2), (o0, .inr (3, [.ref o1, .ref o2, .ref o3, .ref o4, .ref o5, .ref o6, .int (zI ((w2 : Nat) : Int)), .int (zI ((n2 : Nat) : Int))])), (o1, iA D 11 S2), (o2, iA D 4 F2), (o3, iA D 4 L2), (o4, iA D 250 K2), (o5, iA D 250 T2), (o6, iA D 250 U2)]) rfl rfl rfl (Nat.le_of_ble_eq_true rfl) rfl (dk DX3_takeFrom_0k 55 rfl) ?_
  exact zz_ret hC hQ hr () trivial [0, 1, 2, 3, 4, 5, 6, 7, 8, 9, 10, 11, 12, 13] rfl rfl ⟨Nat.le_refl _, Nat.le_refl _⟩ (dk DX3_takeFrom_0k 56 rfl)
set_option maxHeartbeats 4000000 in
set_option maxRecDepth 100000 in
theorem c_X3_dropBefore (l : Launch) (D : zG) (h0 : Nat) (h1 : Nat) (h2 : Nat) (h3 : Nat) (h4 : Nat) (h5 : Nat) (h6 : Nat) (S : Nat → Int) (F : Nat → Int) (L : Nat → Int) (K : Nat → Int) (T : Nat → Int) (U : Nat → Int) (w : Nat) (n : Nat) (t : Int) (hg : zLog n K T U) (ht : 0 ≤ t ∧ t ≤ 1000000) : CI (S := (Nat → Int) × (Nat → Int) × (Nat → Int)) l yX3_dropBefore cX3_dropBefore 4 ((some .int)) ({ frames := 0, cells := 0, slots := 0, locals := 0 } : Room) D [.ref h0, .int (zI t)] [(h0, .inr (3, [.ref h1, .ref h2, .ref h3, .ref h4, .ref h5, .ref h6, .int (zI ((w : Nat) : Int)), .int (zI ((n : Nat) : Int))])), (h1, iA D 11 S), (h2, iA D 4 F), (h3, iA D 4 L), (h4, iA D 250 K), (h5, iA D 250 T), (h6, iA D 250 U)] (fun u => ∀ j, j < n - zGone T t n → u.1 j = K (j + zGone T t n) ∧ u.2.1 j = T (j + zGone T t n) ∧ u.2.2 j = U (j + zGone T t n)) (fun u => ((zGone T t n : Nat) : Int)) (fun u => [(h0, .inr (3, [.ref h1, .ref h2, .ref h3, .ref h4, .ref h5, .ref h6, .int (zI ((w : Nat) : Int)), .int (zI ((n - zGone T t n : Nat) : Int))])), (h1, iA D 11 S), (h2, iA D 4 F), (h3, iA D 4 L), (h4, iA D 250 u.1), (h5, iA D 250 u.2.1), (h6, iA D 250 u.2.2)]) := by
  refine CI_of (by decide) (Nat.le_of_ble_eq_true rfl) ?_
  intro p e s m args below meth cd A Q hQ hC hr hnm
  have hC : ZC p s m args meth cd A D 4 cX3_dropBefore RX3 := hC
  have hg0 := hg
  obtain ⟨hn, hK, hT, hU, hM⟩ := hg0
  show Z p l e ({ frames := 0, cells := 0, slots := 0, locals := 0 } : Room) s m args below meth cd A D Q 4 0 0 [(h0, .inr (3, [.ref h1, .ref h2, .ref h3, .ref h4, .ref h5, .ref h6, .int (zI ((w : Nat) : Int)), .int (zI ((n : Nat) : Int))])), (h1, iA D 11 S), (h2, iA D 4 F), (h3, iA D 4 L), (h4, iA D 250 K), (h5, iA D 250 T), (h6, iA D 250 U)] [(0, .ref h0), (1, .int (zI t))] [] 0
  refine zz_iconst hC (dk DX3_dropBefore_0k 0 rfl) ?_
  refine zz_istore_n hC (ls' := [(0, .ref h0), (1, .int (zI t)), (2, .int (zI 0))]) [1, 2, 0] (dk DX3_dropBefore_0k 1 rfl) rfl (by decide) rfl ?_
  refine zz_iconst hC (dk DX3_dropBefore_0k 2 rfl) ?_
  refine zz_istore_n hC (ls' := [(0, .ref h0), (1, .int (zI t)), (2, .int (zI 0)), (3, .int (zI 0))]) [1, 2, 3, 0] (dk DX3_dropBefore_0k 3 rfl) rfl (by decide) rfl ?_
  have LP4 : ∀ (fuel4 : Nat) (i : Nat) (kept : Nat) (K1 : Nat → Int) (T1 : Nat → Int) (U1 : Nat → Int), (i ≤ n) → (kept + zGone T t i = i) → (∀ j, j < kept → K1 j = K (j + zGone T t i) ∧ T1 j = T (j + zGone T t i) ∧ U1 j = U (j + zGone T t i)) → (∀ j, i ≤ j → K1 j = K j ∧ T1 j = T j ∧ U1 j = U j) → (kept = 0 ∨ ∃ j, j < i ∧ t ≤ T j) → n - i < fuel4 → Z p l e ({ frames := 0, cells := 0, slots := 0, locals := 0 } : Room) s m args below meth cd A D Q 4 0 0 [(h0, .inr (3, [.ref h1, .ref h2, .ref h3, .ref h4, .ref h5, .ref h6, .int (zI ((w : Nat) : Int)), .int (zI ((n : Nat) : Int))])), (h1, iA D 11 S), (h2, iA D 4 F), (h3, iA D 4 L), (h4, iA D 250 K1), (h5, iA D 250 T1), (h6, iA D 250 U1)] [(0, .ref h0), (1, .int (zI t)), (2, .int (zI ((kept : Nat) : Int))), (3, .int (zI ((i : Nat) : Int)))] [] 4 := by
    intro fuel4
    induction fuel4 with
    | zero => intro i kept K1 T1 U1 hi hk hlo hhi hz hfu; exact absurd hfu (Nat.not_lt_zero _)
    | succ fuel4 ih4 =>
      intro i kept K1 T1 U1 hi hk hlo hhi hz hfu4
      refine zz_iload_n hC 3 (dk DX3_dropBefore_0k 4 rfl) rfl rfl ?_
      refine zz_aload_n hC 0 (dk DX3_dropBefore_0k 5 rfl) rfl rfl ?_
      refine zz_get hC F_X3_34 0 rfl rfl (dk DX3_dropBefore_0k 6 rfl) ?_
      refine zz_icmp_ge hC 67 (dk DX3_dropBefore_0k 7 rfl) (by decide) ⟨⟨by omega, by omega⟩, ⟨by omega, by omega⟩⟩ (fun c1 => ?_) (fun c1 => ?_)
      · have e : kept = n - zGone T t n := by have : i = n := (by omega); subst this; omega
        subst e
        refine zz_aload_n hC 0 (dk DX3_dropBefore_0k 41 rfl) rfl rfl ?_
        refine zz_get hC F_X3_34 0 rfl rfl (dk DX3_dropBefore_0k 42 rfl) ?_
        refine zz_iload_n hC 2 (dk DX3_dropBefore_0k 43 rfl) rfl rfl ?_
        refine zz_isub hC (dk DX3_dropBefore_0k 44 rfl) ?_
        refine zz_istore_n hC (ls' := [(0, .ref h0), (1, .int (zI t)), (2, .int (zI ((n - zGone T t n : Nat) : Int))), (3, .int (zI (((n : Nat) : Int) - ((n - zGone T t n : Nat) : Int))))]) [1, 2, 3, 0] (dk DX3_dropBefore_0k 45 rfl) rfl (by decide) rfl ?_
        refine zz_aload_n hC 0 (dk DX3_dropBefore_0k 46 rfl) rfl rfl ?_
        refine zz_iload_n hC 2 (dk DX3_dropBefore_0k 47 rfl) rfl rfl ?_
        refine zz_put hC F_X3_34 fc_X3 rfl (tyX3_ok 7 (by decide)) 0 (ws' := [(h0, .inr (3, [.ref h1, .ref h2, .ref h3, .ref h4, .ref h5, .ref h6, .int (zI ((w : Nat) : Int)), .int (zI ((n - zGone T t n : Nat) : Int))])), (h1, iA D 11 S), (h2, iA D 4 F), (h3, iA D 4 L), (h4, iA D 250 K1), (h5, iA D 250 T1), (h6, iA D 250 U1)]) rfl rfl rfl (Nat.le_of_ble_eq_true rfl) rfl (dk DX3_dropBefore_0k 48 rfl) ?_
        refine zz_iload_n hC 3 (dk DX3_dropBefore_0k 49 rfl) rfl rfl ?_
        exact zz_iret hC hQ hr (K1, T1, U1) (fun j hj => by have e2 : i = n := (by omega); rw [e2] at hlo; exact hlo j hj) (by have h9 : zGone T t n ≤ n := zGone_le; show ((n : Nat) : Int) - ((n - zGone T t n : Nat) : Int) = ((zGone T t n : Nat) : Int); rw [Int.ofNat_sub h9]; omega) [0, 1, 2, 3, 4, 5, 6] rfl rfl ⟨Nat.le_refl _, Nat.le_refl _⟩ (dk DX3_dropBefore_0k 50 rfl)
      · have hTi := (hhi i (Nat.le_refl i)).2.1
        have hTr := hT i (by omega)
        refine zz_aload_n hC 0 (dk DX3_dropBefore_0k 8 rfl) rfl rfl ?_
        refine zz_get hC F_X3_24 0 rfl rfl (dk DX3_dropBefore_0k 9 rfl) ?_
        refine zz_iload_n hC 3 (dk DX3_dropBefore_0k 10 rfl) rfl rfl ?_
        refine zz_iald hC i 5 rfl rfl (by omega) (dk DX3_dropBefore_0k 11 rfl) ?_
        refine zz_iload_n hC 1 (dk DX3_dropBefore_0k 12 rfl) rfl rfl ?_
        refine zz_icmp_lt hC 61 (dk DX3_dropBefore_0k 13 rfl) (by decide) ⟨⟨by omega, by omega⟩, ⟨by omega, by omega⟩⟩ (fun c2 => ?_) (fun c2 => ?_)
        · refine zz_iinc hC ((i + 1 : Nat) : Int) (ls' := [(0, .ref h0), (1, .int (zI t)), (2, .int (zI ((kept : Nat) : Int))), (3, .int (zI ((i + 1 : Nat) : Int)))]) 3 [1, 2, 3, 0] (dk DX3_dropBefore_0k 39 rfl) rfl (by omega) (by decide) rfl ?_
          refine zz_goto hC 4 (dk DX3_dropBefore_0k 40 rfl) (by decide) ?_
          refine zz_ls [0, 1, 2, 3] rfl ?_
          exact ih4 (i + 1) kept K1 T1 U1 (by omega) (drop_k2 hk hTi (by omega) (drop_z hM (by omega) hTi (by omega) hz)) (fun j hj => absurd hj (by rw [drop_z hM (by omega) hTi (by omega) hz]; omega)) (fun j hj => hhi j (by omega)) (Or.inl (drop_z hM (by omega) hTi (by omega) hz)) (by omega)
        · refine zz_aload_n hC 0 (dk DX3_dropBefore_0k 14 rfl) rfl rfl ?_
          refine zz_get hC F_X3_21 0 rfl rfl (dk DX3_dropBefore_0k 15 rfl) ?_
          refine zz_iload_n hC 2 (dk DX3_dropBefore_0k 16 rfl) rfl rfl ?_
          refine zz_aload_n hC 0 (dk DX3_dropBefore_0k 17 rfl) rfl rfl ?_
          refine zz_get hC F_X3_21 0 rfl rfl (dk DX3_dropBefore_0k 18 rfl) ?_
          refine zz_iload_n hC 3 (dk DX3_dropBefore_0k 19 rfl) rfl rfl ?_
          refine zz_iald hC i 4 rfl rfl (by omega) (dk DX3_dropBefore_0k 20 rfl) ?_
          refine zz_iast hC (ws' := [(h0, .inr (3, [.ref h1, .ref h2, .ref h3, .ref h4, .ref h5, .ref h6, .int (zI ((w : Nat) : Int)), .int (zI ((n : Nat) : Int))])), (h1, iA D 11 S), (h2, iA D 4 F), (h3, iA D 4 L), (h4, iA D 250 (zU K1 kept (K1 i))), (h5, iA D 250 T1), (h6, iA D 250 U1)]) kept 4 rfl rfl (by omega) rfl (dk DX3_dropBefore_0k 21 rfl) ?_
          refine zz_aload_n hC 0 (dk DX3_dropBefore_0k 22 rfl) rfl rfl ?_
          refine zz_get hC F_X3_24 0 rfl rfl (dk DX3_dropBefore_0k 23 rfl) ?_
          refine zz_iload_n hC 2 (dk DX3_dropBefore_0k 24 rfl) rfl rfl ?_
          refine zz_aload_n hC 0 (dk DX3_dropBefore_0k 25 rfl) rfl rfl ?_
          refine zz_get hC F_X3_24 0 rfl rfl (dk DX3_dropBefore_0k 26 rfl) ?_
          refine zz_iload_n hC 3 (dk DX3_dropBefore_0k 27 rfl) rfl rfl ?_
          refine zz_iald hC i 5 rfl rfl (by omega) (dk DX3_dropBefore_0k 28 rfl) ?_
          refine zz_iast hC (ws' := [(h0, .inr (3, [.ref h1, .ref h2, .ref h3, .ref h4, .ref h5, .ref h6, .int (zI ((w : Nat) : Int)), .int (zI ((n : Nat) : Int))])), (h1, iA D 11 S), (h2, iA D 4 F), (h3, iA D 4 L), (h4, iA D 250 (zU K1 kept (K1 i))), (h5, iA D 250 (zU T1 kept (T1 i))), (h6, iA D 250 U1)]) kept 5 rfl rfl (by omega) rfl (dk DX3_dropBefore_0k 29 rfl) ?_
          refine zz_aload_n hC 0 (dk DX3_dropBefore_0k 30 rfl) rfl rfl ?_
          refine zz_get hC F_X3_27 0 rfl rfl (dk DX3_dropBefore_0k 31 rfl) ?_
          refine zz_iload_n hC 2 (dk DX3_dropBefore_0k 32 rfl) rfl rfl ?_
          refine zz_aload_n hC 0 (dk DX3_dropBefore_0k 33 rfl) rfl rfl ?_
          refine zz_get hC F_X3_27 0 rfl rfl (dk DX3_dropBefore_0k 34 rfl) ?_
          refine zz_iload_n hC 3 (dk DX3_dropBefore_0k 35 rfl) rfl rfl ?_
          refine zz_iald hC i 6 rfl rfl (by omega) (dk DX3_dropBefore_0k 36 rfl) ?_
          refine zz_iast hC (ws' := [(h0, .inr (3, [.ref h1, .ref h2, .ref h3, .ref h4, .ref h5, .ref h6, .int (zI ((w : Nat) : Int)), .int (zI ((n : Nat) : Int))])), (h1, iA D 11 S), (h2, iA D 4 F), (h3, iA D 4 L), (h4, iA D 250 (zU K1 kept (K1 i))), (h5, iA D 250 (zU T1 kept (T1 i))), (h6, iA D 250 (zU U1 kept (U1 i)))]) kept 6 rfl rfl (by omega) rfl (dk DX3_dropBefore_0k 37 rfl) ?_
          refine zz_iinc hC ((kept + 1 : Nat) : Int) (ls' := [(0, .ref h0), (1, .int (zI t)), (2, .int (zI ((kept + 1 : Nat) : Int))), (3, .int (zI ((i : Nat) : Int)))]) 2 [1, 2, 0, 3] (dk DX3_dropBefore_0k 38 rfl) rfl (by omega) (by decide) rfl ?_
          refine zz_iinc hC ((i + 1 : Nat) : Int) (ls' := [(0, .ref h0), (1, .int (zI t)), (2, .int (zI ((kept + 1 : Nat) : Int))), (3, .int (zI ((i + 1 : Nat) : Int)))]) 3 [1, 2, 3, 0] (dk DX3_dropBefore_0k 39 rfl) rfl (by omega) (by decide) rfl ?_
          refine zz_goto hC 4 (dk DX3_dropBefore_0k 40 rfl) (by decide) ?_
          refine zz_ls [0, 1, 2, 3] rfl ?_
          exact ih4 (i + 1) (kept + 1) (zU K1 kept (K1 i)) (zU T1 kept (T1 i)) (zU U1 kept (U1 i)) (by omega) (drop_k1 hk hTi (by omega)) (drop_lo hk hTi (by omega) (hhi i (Nat.le_refl i)) hlo) (drop_hi hk hhi) (Or.inr ⟨i, by omega, by omega⟩) (by omega)
  refine zz_ls [0, 1, 2, 3] rfl ?_
  exact LP4 _ 0 0 K T U (by omega) rfl (fun j hj => absurd hj (by omega)) (fun j _ => ⟨rfl, rfl, rfl⟩) (Or.inl rfl) (Nat.lt_succ_self _)
