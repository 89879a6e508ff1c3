/-! THE CLAIM OUT OF ONE WALK OF THE LAW'S BODY. Your part is whole_start (and what it stands on); all else here is the same for every law, but numbers. -/
def R_law : String := "DischargeRecorderLaw"
def lw_P (b : Addr) (xs : List Int32) (args : Array Value) (s : State) : Prop := args = #[.ref b] ∧ s.IntsAt b xs ∧ xs.length ≤ 3072 ∧ (Jvm.Cond.and given_1 narrow_1).before args s = true
/-- what a walk over the start with the record d0 says of its end, said of the start itself -/
theorem lw_closed {s t : State} {o : Outcome} {d0 : Drawn} {L : List Loc} {k n : Nat} (hd0 : s.drawn.sameBut d0 lw_cs) (hv : ∃ v, o = .returned v) (hW : (s.setDrawn d0).WarmedH t.vm) (hs : (s.setDrawn d0).sameButNew ({ t with vm := s.vm } : State) L k n) : State.butDraws s t lw_cs (fun t1 => Framed s o t1 L k n) := by
  have h2 : t.drawn = d0 := congrArg State.drawn hs.1
  refine ⟨⟨hv, hW, State.sameButNew.setDrawn hs s.drawn⟩, ?_, by decide⟩
  rw [h2]
  exact hd0
def lw_Q (_ : Array Value) (s : State) (o : Outcome) (t : State) : Prop := o = .returned (some (.int 1)) ∧ State.butDraws s t lw_cs (fun t1 => Framed s o t1 [] 601024 7293034)
def lw_Z (below : List Frame) (a : Array Value) (s : State) : State → Prop := fun t => ∃ o, t.status = .running ∧ Ended t below o ∧ lw_Q a s o t
/-- the law's own end, with 1 on the stack, nothing written that was there before, its room as the claim has it; d0: the record of draws at this point (at the entry s.drawn: begin with 'refine W.base ?_' and 'have hd0 := Drawn.sameBut.refl s.drawn lw_cs') -/
theorem lw_ret {p : Program} {l : Launch} {e : Env} {s : State} {m : MethodId} {below : List Frame} {meth : Method} {c : Code} {b : Nat} {d0 : Drawn} (hd0 : s.drawn.sameBut d0 lw_cs) (hx : p.tables.exec = Jvm.exec) (hb : c.code = code) (hr : meth.sig.returnType = ret) (hlocks : meth.locks = false) {pc : Nat} {H : Heap} {ls : Array Slot} (hdg : decode code pc = .ok (.ireturn, 1)) : W p l e room_1 (s.setDrawn d0) m #[Value.ref b] below meth c H [] 601024 7293034 (lw_Z below #[Value.ref b] s) (F0 m pc ls [.int 1]) := by
  intro T hT X
  obtain ⟨fs, hret, hrun, hended, hW, hframe⟩ := X.leave (v := some (.int 1)) (hlocks := hlocks) (fun h => by rw [hr] at h; cases h)
  have hmeth' : T.vm.method? m = some meth := X.method'
  refine ⟨T.setFrames fs, ?_, .returned (some (.int 1)), hrun, hended, rfl, lw_closed hd0 ⟨_, rfl⟩ hW hframe⟩
  jvm_step X.here [X.here.top, hx, hb, hdg, hmeth', hr, ret, narrow_b1]
  (try refine ⟨rfl, ?_⟩); (try refine ⟨rfl, ?_⟩)
  first | (intro acts; rw [hret _ acts rfl rfl rfl]) | rw [hret _ _ rfl rfl rfl]
  exact Steps.refl _
/-- what holds at the law's entry: the machine, the code, the tables' words (any of lw_tbl by 'hts w (by decide +kernel)'), the script of L ints xs at the cell b, what the Statement gives of the start (any of its parts by flat_of_before) -/
def lw_At (p : Program) (s : State) (m : MethodId) (meth : Method) (c : Code) (b L : Nat) (xs : Nat → Int32) : Prop :=
  p.tables.exec = Jvm.exec ∧ c.code = code ∧ meth.sig.returnType = ret ∧ c.maxLocals = 9 ∧ s.vm.findClass R_law = some m.cls ∧ (∀ w ∈ lw_tbl, w.before #[Value.ref b] s = true) ∧ va_X b L xs s s.heap ∧ b < s.heap.size ∧ meth.locks = false ∧ (Jvm.Cond.and given_1 narrow_1).before #[Value.ref b] s = true
/-! the law's start: what the Statement gives of it -/
def st_F : List Cond := flatC (Jvm.Cond.and given_1 narrow_1)
def st_el (n : String) (f : Nat → Int) : Prop := ∀ j, j < 11 → Cond.eq (.elem (.static "DischargeRecorder" n "[I") (.int (Int32.ofNat j))) (.int (zI (f j))) ∈ st_F
theorem st_el_LOWEST : st_el "LOWEST" zLow := by unfold st_el; decide +kernel
theorem st_ar_LOWEST : Cond.arrayOf (.static "DischargeRecorder" "LOWEST" "[I") .int ∈ st_F ∧ Cond.eq (.length (.static "DischargeRecorder" "LOWEST" "[I")) (.int 11) ∈ st_F ∧ Cond.laysStatic "DischargeRecorder" "LOWEST" "[I" ∈ lw_tbl := ⟨by decide +kernel, by decide +kernel, List.mem_of_getElem? (i := 464) (by decide +kernel)⟩
theorem st_el_HIGHEST : st_el "HIGHEST" zHigh := by unfold st_el; decide +kernel
theorem st_ar_HIGHEST : Cond.arrayOf (.static "DischargeRecorder" "HIGHEST" "[I") .int ∈ st_F ∧ Cond.eq (.length (.static "DischargeRecorder" "HIGHEST" "[I")) (.int 11) ∈ st_F ∧ Cond.laysStatic "DischargeRecorder" "HIGHEST" "[I" ∈ lw_tbl := ⟨by decide +kernel, by decide +kernel, List.mem_of_getElem? (i := 466) (by decide +kernel)⟩
theorem st_el_INITIAL : st_el "INITIAL" zInit := by unfold st_el; decide +kernel
theorem st_ar_INITIAL : Cond.arrayOf (.static "DischargeRecorder" "INITIAL" "[I") .int ∈ st_F ∧ Cond.eq (.length (.static "DischargeRecorder" "INITIAL" "[I")) (.int 11) ∈ st_F ∧ Cond.laysStatic "DischargeRecorder" "INITIAL" "[I" ∈ lw_tbl := ⟨by decide +kernel, by decide +kernel, List.mem_of_getElem? (i := 120) (by decide +kernel)⟩
theorem st_nc : Cond.not (.castable "java/lang/IllegalStateException" "java/lang/IllegalArgumentException") ∈ st_F ∧ Cond.not (.castable "java/lang/IllegalArgumentException" "java/lang/IndexOutOfBoundsException") ∈ st_F := ⟨by decide +kernel, by decide +kernel⟩
theorem st_rf : Cond.isRef (.static Bundle.tN "UNASSIGNED_STACK" Bundle.steD) ∈ st_F ∧ Cond.isRef (.static Bundle.tN "SUPPRESSED_SENTINEL" Bundle.listD) ∈ st_F := ⟨by decide +kernel, by decide +kernel⟩
theorem st_lt : Cond.laysStatic Bundle.tN "UNASSIGNED_STACK" Bundle.steD ∈ lw_tbl ∧ Cond.laysStatic Bundle.tN "SUPPRESSED_SENTINEL" Bundle.listD ∈ lw_tbl ∧ Cond.initialized Bundle.tN ∈ lw_tbl ∧ Cond.initialized "DischargeRecorder" ∈ lw_tbl ∧ Cond.arrayOver (.object "DischargeRecorder$State") ∈ lw_tbl := ⟨List.mem_of_getElem? (i := 494) (by decide +kernel), List.mem_of_getElem? (i := 496) (by decide +kernel), List.mem_of_getElem? (i := 91) (by decide +kernel), List.mem_of_getElem? (i := 84) (by decide +kernel), List.mem_of_getElem? (i := 214) (by decide +kernel)⟩
def st_sb (w : Cond) : Bool := match w with
  | .stringRef own i _ => decide (Cond.exactly (.string own i) "java/lang/String" ∈ st_F)
  | _ => true
theorem st_str : lw_tbl.all st_sb = true := by decide +kernel
theorem st_tab {s : State} {b : Nat} {n : String} {f : Nat → Int} (hts : ∀ w ∈ lw_tbl, w.before #[Value.ref b] s = true) (hs : ∀ w ∈ st_F, w.before #[Value.ref b] s = true) (h1 : st_el n f) (h2 : Cond.arrayOf (.static "DischargeRecorder" n "[I") .int ∈ st_F ∧ Cond.eq (.length (.static "DischargeRecorder" n "[I")) (.int 11) ∈ st_F ∧ Cond.laysStatic "DischargeRecorder" n "[I" ∈ lw_tbl) : zTab n f (fun q => s.heap.size ≤ q) s s.heap := by
  have hA : ∀ a : Nat, a < s.heap.size → ¬ (fun q => s.heap.size ≤ q) a := fun a h => Nat.not_le.mpr h
  obtain ⟨t, ht, hT⟩ := va_Tof (N := 11) (f := fun j => .int (zI (f j))) (tm := .static "DischargeRecorder" n "[I") (ty := .int) (by decide) (hs _ h2.1) (va_eqt (hs _ h2.2.1)) (fun j hj => va_eqt (hs _ (h1 j hj))) hA
  exact ⟨t, va_Zof (hts _ h2.2.2) (hts _ st_lt.2.2.2.1) ht hA, hT⟩
theorem st_GF {s : State} {b : Nat} (hts : ∀ w ∈ lw_tbl, w.before #[Value.ref b] s = true) (hs : ∀ w ∈ st_F, w.before #[Value.ref b] s = true) : zGF (fun q => s.heap.size ≤ q) s s.heap := by
  have hA : ∀ a : Nat, a < s.heap.size → ¬ (fun q => s.heap.size ≤ q) a := fun a h => Nat.not_le.mpr h
  refine ⟨st_tab hts hs st_el_LOWEST st_ar_LOWEST, st_tab hts hs st_el_HIGHEST st_ar_HIGHEST, st_tab hts hs st_el_INITIAL st_ar_INITIAL, vx_Zqof (hts _ st_lt.1) (hts _ st_lt.2.2.1) (hs _ st_rf.1) hA, vx_Zqof (hts _ st_lt.2.1) (hts _ st_lt.2.2.1) (hs _ st_rf.2) hA, fun w hw => ?_, fun is tx hw => ?_, ⟨va_Nc.of (hs _ st_nc.1), va_AO.of (hts _ st_lt.2.2.2.2)⟩, va_Nc.of (hs _ st_nc.2), fun x hx => va_Nw.of rfl (hts _ hx)⟩
  · obtain ⟨h1, h2⟩ := List.mem_filter.mp hw
    have h3 := hts w h1
    cases w <;> first | exact va_Nw.of rfl h3 | exact absurd h2 (by simp [zNestW])
  · have h1 := List.all_eq_true.mp st_str _ hw
    have h2 : Cond.exactly (.string "DischargeRecorder" is) "java/lang/String" ∈ st_F := of_decide_eq_true h1
    obtain ⟨a, c, cell, k, q1, -⟩ := Cond.exactly_spec (args := #[Value.ref b]) (first := s) (o := none) (s := s) (idx := []) (t := .string "DischargeRecorder" is) (cls := "java/lang/String") (hs _ h2)
    exact ⟨a, vk_R.of (hts _ hw) q1⟩
theorem st_arr {s : State} {b : Nat} {ty : FieldType} (h : (Cond.arrayClass ty).before #[Value.ref b] s = true) : ∃ cA : ClassId, ArrOfT s cA ty ∧ s.vm.findClass ("[" ++ ty.toString) = some cA := by
  obtain ⟨cA, kA, comp, h1, h2, h3⟩ := Cond.arrayClass_spec (args := #[Value.ref b]) (first := s) (o := none) (idx := []) h
  exact ⟨cA, fun n z => ⟨fun k h => (by cases h), kA, h2, comp, h3⟩, h1⟩
theorem st_arq {s : State} {b : Nat} (h : (Cond.arrayOver (.object "DischargeRecorder$State")).before #[Value.ref b] s = true) : ∃ cA : ClassId, ArrOfT s cA (.object "DischargeRecorder$State") ∧ va_RA s cA (.object "DischargeRecorder$State") := by
  obtain ⟨comp, cA, kA, h1, h2, h3, h4, h5⟩ := Cond.arrayOver_spec (args := #[Value.ref b]) (first := s) (o := none) (idx := []) h
  exact ⟨cA, fun n z => ⟨fun k h => (by cases h), kA, h3, comp, h4⟩, kA, comp, h3, h4, h1, h5⟩
theorem st_K {s : State} {b : Nat} (hts : ∀ w ∈ lw_tbl, w.before #[Value.ref b] s = true) : ∃ D : zG, va_K D.1 vwCl (zT D) s := by
  obtain ⟨c0, i0, k0⟩ := u_known (C := RX0) (T := TX0) (N := 2) (n := 2) hts (fun w h => lw_all_tbl w (uw_X0 w h)) (hts (.instantiable RX0 2) (List.mem_of_getElem? (i := 208) (by decide +kernel)))
  obtain ⟨c1, i1, k1⟩ := u_known (C := RX1) (T := TX1) (N := 8) (n := 8) hts (fun w h => lw_all_tbl w (uw_X1 w h)) (hts (.instantiable RX1 8) (List.mem_of_getElem? (i := 225) (by decide +kernel)))
  obtain ⟨c2, i2, k2⟩ := u_known (C := RX2) (T := TX2) (N := 6) (n := 6) hts (fun w h => lw_all_tbl w (uw_X2 w h)) (hts (.instantiable RX2 6) (List.mem_of_getElem? (i := 108) (by decide +kernel)))
  obtain ⟨c3, i3, k3⟩ := u_known (C := RX3) (T := TX3) (N := 8) (n := 8) hts (fun w h => lw_all_tbl w (uw_X3 w h)) (hts (.instantiable RX3 8) (List.mem_of_getElem? (i := 114) (by decide +kernel)))
  obtain ⟨c4, i4, k4⟩ := u_known (C := RX4) (T := TX4) (N := 4) (n := 4) hts (fun w h => lw_all_tbl w (uw_X4 w h)) (hts (.instantiable RX4 4) (List.mem_of_getElem? (i := 188) (by decide +kernel)))
  obtain ⟨c5, i5, k5⟩ := u_known (C := RX5) (T := TX5) (N := 7) (n := 7) hts (fun w h => lw_all_tbl w (uw_X5 w h)) (hts (.instantiable RX5 7) (List.mem_of_getElem? (i := 100) (by decide +kernel)))
  obtain ⟨c6, i6, k6⟩ := u_known (C := RX6) (T := TX6) (N := 20) (n := 20) hts (fun w h => lw_all_tbl w (uw_X6 w h)) (hts (.instantiable RX6 20) (List.mem_of_getElem? (i := 806) (by decide +kernel)))
  obtain ⟨a1, b1, d1⟩ := st_arr (hts (.arrayClass .int) (List.mem_of_getElem? (i := 159) (by decide +kernel)))
  obtain ⟨a2, b2, d2⟩ := st_arr (hts (.arrayClass .long) (List.mem_of_getElem? (i := 186) (by decide +kernel)))
  obtain ⟨a3, b3, d3⟩ := st_arr (hts (.arrayClass .boolean) (List.mem_of_getElem? (i := 185) (by decide +kernel)))
  obtain ⟨a4, b4, d4⟩ := st_arq (hts _ st_lt.2.2.2.2)
  obtain ⟨a5, b5, d5⟩ := st_arr (hts (.arrayClass .double) (List.mem_of_getElem? (i := 1137) (by decide +kernel)))
  refine ⟨((fun k => match k with | 0 => c0 | 1 => c1 | 2 => c2 | 3 => c3 | 4 => c4 | 5 => c5 | _ => c6, fun k => match k with | 0 => i0 | 1 => i1 | 2 => i2 | 3 => i3 | 4 => i4 | 5 => i5 | _ => i6), a1, a2, a3, a4, a5), fun k q hq => ?_, fun k q hq => ?_⟩
  · match k, hq with
    | 0, hq => cases hq; exact k0
    | 1, hq => cases hq; exact k1
    | 2, hq => cases hq; exact k2
    | 3, hq => cases hq; exact k3
    | 4, hq => cases hq; exact k4
    | 5, hq => cases hq; exact k5
    | 6, hq => cases hq; exact k6
    | k + 7, hq => simp [vwCl] at hq
  · match k, hq with
    | 0, hq => cases hq; exact ⟨b1, d1⟩
    | 1, hq => cases hq; exact ⟨b2, d2⟩
    | 2, hq => cases hq; exact ⟨b3, d3⟩
    | 3, hq => cases hq; exact ⟨b4, d4⟩
    | 4, hq => cases hq; exact ⟨b5, d5⟩
    | k + 5, hq => simp [zT] at hq
theorem zl_end {p : Program} {l : Launch} {e : Env} {s : State} {m : MethodId} {below : List Frame} {meth : Method} {cd : Code} {D : zG} {b cs sl : Nat} {ws : va_W} {ls : List (Nat × Value)} (hC : ZC p s m #[Value.ref b] meth cd (fun q => s.heap.size ≤ q) D 9 cL_law RL) (hr : meth.sig.returnType = ret) (hc : cs ≤ 601024 ∧ sl ≤ 7293034) {pc : Nat} (hdg : decode cL_law pc = .ok (.ireturn, 1)) : Z p l e room_1 s m #[Value.ref b] below meth cd (fun q => s.heap.size ≤ q) D (lw_Z below #[Value.ref b] s) 9 cs sl ws ls [.int (zI 1)] pc := fun H locs la hP hD hS hl => va_forget (fun q hq => hS.2.2 q hq) (W.widen hc.1 hc.2 (W.base (lw_ret (Drawn.sameBut.refl s.drawn lw_cs) hC.1 hC.2.1 hr hC.2.2.2.2.2.2.2.2 hdg)))
