/-! making: objects, arrays, constructors -/
theorem zT_of {D : zG} {s : State} (hK : va_K D.1 vwCl (zT D) s) (k : Nat) {cA cB : ClassId} {ty : FieldType} (h1 : (zT D)[k]? = some (cB, ty)) (h2 : va_K D.1 vwCl (zT D ++ [(cA, ty)]) s) : cA = cB := by
  have a := (hK.2 k _ h1).2
  have b := (h2.2 5 (cA, ty) (by simp [zT])).2
  cases ty with
  | object C =>
    obtain ⟨k1, c1, x1, x2, x3, x4⟩ := a
    obtain ⟨k2, c2, y1, y2, y3, y4⟩ := b
    exact Option.some.inj (y4.symm.trans x4)
  | _ => exact Option.some.inj (b.symm.trans a)
section ZN
variable {p : Program} {l : Launch} {e : Env} {R : Room} {s : State} {m : MethodId} {args : Array Value} {below : List Frame} {meth : Method} {c : Code} {A : Nat → Prop} {D : zG} {Q : State → Prop} {nL cs sl cs1 sl1 : Nat}
variable {cc : ByteArray} {own : String} {ws : va_W} {ls : List (Nat × Value)} {st : List Value} {pc : Nat}
theorem zz_newa_i (hC : ZC p s m args meth c A D nL cc own) {wq : Nat → va_W} (N : Nat) (harr : Cond.arrayClass .int ∈ lw_all) (hN : N ≤ 100000) (hw : ∀ q : Nat, ws ++ [(q, iA D N (fun _ => 0))] = wq q) (hroom : cs + 1 ≤ R.cells ∧ sl + N ≤ R.slots) (hcz : cs + 1 = cs1 ∧ sl + N = sl1) (hdg : decode cc pc = .ok (.newarray .int, 2)) (k : ∀ q : Nat, Z p l e R s m args below meth c A D Q nL cs1 sl1 (wq q) ls (.ref q :: st) (pc + 2)) : Z p l e R s m args below meth c A D Q nL cs sl ws ls (.int (zI (N : Int)) :: st) pc := fun H locs la hP hD hS hl => by
  have en : (zI (N : Int)).toNatClampNeg = N := by rw [zI_n ⟨by omega, by omega⟩ (by omega)]; omega
  have hneg : ¬ zI (N : Int) < 0 := by rw [zI_0, zI_lt ⟨by omega, by omega⟩ zR_0]; omega
  have hb9 : N * componentBytes .int ≤ 536870912 := Nat.le_trans (Nat.mul_le_mul hN (show componentBytes .int ≤ 8 by decide)) (by decide)
  obtain ⟨h1, h2⟩ := hcz
  subst h1; subst h2
  refine va_newa (D := D.1) (cl := vwCl) (tys := zT D) (atype := .int) (ty := .int) (N' := N) (a0 := (N, .inl (fun _ => zI 0))) hC.1 hC.2.1 (hC.2.2.2.2.1 _ harr) rfl hC.2.2.2.2.2.1 hP hD hS hC.2.2.2.2.2.2.1 (fun _ => rfl) hneg en hb9 hroom.1 hroom.2 hdg (fun q cA H1 hK1 hP1 hD1 hS1 => ?_)
  have hcA : cA = _ := zT_of hC.2.2.2.2.2.1 0 rfl hK1
  subst hcA
  have hk := k q
  rw [← hw q] at hk
  exact hk H1 locs la hP1 hD1 hS1 hl
theorem zz_newa_l (hC : ZC p s m args meth c A D nL cc own) {wq : Nat → va_W} (N : Nat) (harr : Cond.arrayClass .long ∈ lw_all) (hN : N ≤ 100000) (hw : ∀ q : Nat, ws ++ [(q, lA D N (fun _ => 0))] = wq q) (hroom : cs + 1 ≤ R.cells ∧ sl + N ≤ R.slots) (hcz : cs + 1 = cs1 ∧ sl + N = sl1) (hdg : decode cc pc = .ok (.newarray .long, 2)) (k : ∀ q : Nat, Z p l e R s m args below meth c A D Q nL cs1 sl1 (wq q) ls (.ref q :: st) (pc + 2)) : Z p l e R s m args below meth c A D Q nL cs sl ws ls (.int (zI (N : Int)) :: st) pc := fun H locs la hP hD hS hl => by
  have en : (zI (N : Int)).toNatClampNeg = N := by rw [zI_n ⟨by omega, by omega⟩ (by omega)]; omega
  have hneg : ¬ zI (N : Int) < 0 := by rw [zI_0, zI_lt ⟨by omega, by omega⟩ zR_0]; omega
  have hb9 : N * componentBytes .long ≤ 536870912 := Nat.le_trans (Nat.mul_le_mul hN (show componentBytes .long ≤ 8 by decide)) (by decide)
  obtain ⟨h1, h2⟩ := hcz
  subst h1; subst h2
  refine va_newa (D := D.1) (cl := vwCl) (tys := zT D) (atype := .long) (ty := .long) (N' := N) (a0 := (N, .inr (.inl (fun _ => zL 0)))) hC.1 hC.2.1 (hC.2.2.2.2.1 _ harr) rfl hC.2.2.2.2.2.1 hP hD hS hC.2.2.2.2.2.2.1 (fun _ => rfl) hneg en hb9 hroom.1 hroom.2 hdg (fun q cA H1 hK1 hP1 hD1 hS1 => ?_)
  have hcA : cA = _ := zT_of hC.2.2.2.2.2.1 1 rfl hK1
  subst hcA
  have hk := k q
  rw [← hw q] at hk
  exact hk H1 locs la hP1 hD1 hS1 hl
theorem zz_newa_b (hC : ZC p s m args meth c A D nL cc own) {wq : Nat → va_W} (N : Nat) (harr : Cond.arrayClass .boolean ∈ lw_all) (hN : N ≤ 100000) (hw : ∀ q : Nat, ws ++ [(q, bA D N (fun _ => 0))] = wq q) (hroom : cs + 1 ≤ R.cells ∧ sl + N ≤ R.slots) (hcz : cs + 1 = cs1 ∧ sl + N = sl1) (hdg : decode cc pc = .ok (.newarray .boolean, 2)) (k : ∀ q : Nat, Z p l e R s m args below meth c A D Q nL cs1 sl1 (wq q) ls (.ref q :: st) (pc + 2)) : Z p l e R s m args below meth c A D Q nL cs sl ws ls (.int (zI (N : Int)) :: st) pc := fun H locs la hP hD hS hl => by
  have en : (zI (N : Int)).toNatClampNeg = N := by rw [zI_n ⟨by omega, by omega⟩ (by omega)]; omega
  have hneg : ¬ zI (N : Int) < 0 := by rw [zI_0, zI_lt ⟨by omega, by omega⟩ zR_0]; omega
  have hb9 : N * componentBytes .boolean ≤ 536870912 := Nat.le_trans (Nat.mul_le_mul hN (show componentBytes .boolean ≤ 8 by decide)) (by decide)
  obtain ⟨h1, h2⟩ := hcz
  subst h1; subst h2
  refine va_newa (D := D.1) (cl := vwCl) (tys := zT D) (atype := .boolean) (ty := .boolean) (N' := N) (a0 := (N, .inl (fun _ => zI 0))) hC.1 hC.2.1 (hC.2.2.2.2.1 _ harr) rfl hC.2.2.2.2.2.1 hP hD hS hC.2.2.2.2.2.2.1 (fun _ => rfl) hneg en hb9 hroom.1 hroom.2 hdg (fun q cA H1 hK1 hP1 hD1 hS1 => ?_)
  have hcA : cA = _ := zT_of hC.2.2.2.2.2.1 2 rfl hK1
  subst hcA
  have hk := k q
  rw [← hw q] at hk
  exact hk H1 locs la hP1 hD1 hS1 hl
theorem zz_newa_d (hC : ZC p s m args meth c A D nL cc own) {wq : Nat → va_W} (N : Nat) (harr : Cond.arrayClass .double ∈ lw_all) (hN : N ≤ 100000) (hw : ∀ q : Nat, ws ++ [(q, dA D N (fun _ => 0))] = wq q) (hroom : cs + 1 ≤ R.cells ∧ sl + N ≤ R.slots) (hcz : cs + 1 = cs1 ∧ sl + N = sl1) (hdg : decode cc pc = .ok (.newarray .double, 2)) (k : ∀ q : Nat, Z p l e R s m args below meth c A D Q nL cs1 sl1 (wq q) ls (.ref q :: st) (pc + 2)) : Z p l e R s m args below meth c A D Q nL cs sl ws ls (.int (zI (N : Int)) :: st) pc := fun H locs la hP hD hS hl => by
  have en : (zI (N : Int)).toNatClampNeg = N := by rw [zI_n ⟨by omega, by omega⟩ (by omega)]; omega
  have hneg : ¬ zI (N : Int) < 0 := by rw [zI_0, zI_lt ⟨by omega, by omega⟩ zR_0]; omega
  have hb9 : N * componentBytes .double ≤ 536870912 := Nat.le_trans (Nat.mul_le_mul hN (show componentBytes .double ≤ 8 by decide)) (by decide)
  obtain ⟨h1, h2⟩ := hcz
  subst h1; subst h2
  refine va_newa (D := D.1) (cl := vwCl) (tys := zT D) (atype := .double) (ty := .double) (N' := N) (a0 := (N, .inr (.inr (.inr (.inl (fun _ => 0)))))) hC.1 hC.2.1 (hC.2.2.2.2.1 _ harr) rfl hC.2.2.2.2.2.1 hP hD hS hC.2.2.2.2.2.2.1 (fun _ => rfl) hneg en hb9 hroom.1 hroom.2 hdg (fun q cA H1 hK1 hP1 hD1 hS1 => ?_)
  have hcA : cA = _ := zT_of hC.2.2.2.2.2.1 4 rfl hK1
  subst hcA
  have hk := k q
  rw [← hw q] at hk
  exact hk H1 locs la hP1 hD1 hS1 hl
theorem zz_newq (hC : ZC p s m args meth c A D nL cc own) {wq : Nat → va_W} {idx : Nat} (N : Nat) (hlink : Cond.classLink own idx "DischargeRecorder$State" ∈ lw_all) (hN : N ≤ 100000) (hw : ∀ q : Nat, ws ++ [(q, rA D N (fun _ => none))] = wq q) (hroom : cs + 1 ≤ R.cells ∧ sl + N ≤ R.slots) (hcz : cs + 1 = cs1 ∧ sl + N = sl1) (hdg : decode cc pc = .ok (.anewarray idx, 3)) (k : ∀ q : Nat, Z p l e R s m args below meth c A D Q nL cs1 sl1 (wq q) ls (.ref q :: st) (pc + 3)) : Z p l e R s m args below meth c A D Q nL cs sl ws ls (.int (zI (N : Int)) :: st) pc := fun H locs la hP hD hS hl => by
  have en : (zI (N : Int)).toNatClampNeg = N := by rw [zI_n ⟨by omega, by omega⟩ (by omega)]; omega
  have hneg : ¬ zI (N : Int) < 0 := by rw [zI_0, zI_lt ⟨by omega, by omega⟩ zR_0]; omega
  obtain ⟨h1, h2⟩ := hcz
  subst h1; subst h2
  refine va_newq (D := D.1) (cl := vwCl) (tys := zT D) (N' := N) hC.1 hC.2.1 hC.2.2.2.1 (hC.2.2.2.2.1 _ hlink) hC.2.2.2.2.2.2.2.1.2.2.2.2.2.2.2.1.2 hC.2.2.2.2.2.1 hP hD hS hC.2.2.2.2.2.2.1 hneg en (by omega) hroom.1 hroom.2 hdg (fun q cA H1 hK1 hP1 hD1 hS1 => ?_)
  have hcA : cA = _ := zT_of hC.2.2.2.2.2.1 3 rfl hK1
  subst hcA
  have hk := k q
  rw [← hw q] at hk
  exact hk H1 locs la hP1 hD1 hS1 hl
theorem zz_new (hC : ZC p s m args meth c A D nL cc own) {wq : Nat → va_W} {idx ci N : Nat} {C : String} {T : u_T} {ty0 : Nat → FieldType} {fs : List Value} (hc : vwCl[ci]? = some (C, T, N)) (hin : ∀ w ∈ u_ws C T N, w ∈ lw_all) (G : zFC ci C T N ty0) (hl3 : Cond.classLink own idx C ∈ lw_all ∧ Cond.instantiable C N ∈ lw_all ∧ Cond.initialized C ∈ lw_all) (hfs : ∀ j, j < N → defaultValue (ty0 j) = vp_V fs j) (hw : ∀ q : Nat, ws ++ [(q, .inr (ci, fs))] = wq q) (hroom : cs + 1 ≤ R.cells ∧ sl + N ≤ R.slots) (hcz : cs + 1 = cs1 ∧ sl + N = sl1) (hdg : decode cc pc = .ok (.new idx, 3)) (k : ∀ q : Nat, Z p l e R s m args below meth c A D Q nL cs1 sl1 (wq q) ls (.ref q :: st) (pc + 3)) : Z p l e R s m args below meth c A D Q nL cs sl ws ls st pc := fun H locs la hP hD hS hl => by
  obtain ⟨h1, h2⟩ := hcz
  subst h1; subst h2
  refine va_new (D := D.1) (cl := vwCl) (tys := zT D) (ci := ci) (C := C) (T := T) (N := N) (fs := fs) hC.1 hC.2.1 hC.2.2.2.2.1 hin ty0 G.1 hC.2.2.2.1 (hC.2.2.2.2.1 _ hl3.1) (hC.2.2.2.2.1 _ hl3.2.1) (hC.2.2.2.2.1 _ hl3.2.2) hC.2.2.2.2.2.1 hP hD hS hC.2.2.2.2.2.2.1 hc hfs hroom.1 hroom.2 hdg (fun q H1 hP1 hD1 hS1 => ?_)
  have hk := k q
  rw [← hw q] at hk
  exact hk H1 locs la hP1 hD1 hS1 hl
theorem zz_objInit (hC : ZC p s m args meth c A D nL cc own) {idx a : Nat} (h1 : Cond.methodLink own idx Lib.objectInit ∈ lw_all) (h2 : Cond.instanceMethod Lib.objectInit ∈ lw_all ∧ Cond.code Lib.objectInit ⟨#[0xb1]⟩ 1 none ∈ lw_all) (hR : 1 ≤ R.frames ∧ (st.map fun v => v.category).sum + 12 ≤ R.locals) (hdg : decode cc pc = .ok (.invokespecial idx, 3)) (k : Z p l e R s m args below meth c A D Q nL cs sl ws ls st (pc + 3)) : Z p l e R s m args below meth c A D Q nL cs sl ws ls (.ref a :: st) pc := fun H locs la hP hD hS hl => W.objInit hC.1 hC.2.1 hC.2.2.2.1 (hC.2.2.2.2.1 _ h1) (hC.2.2.2.2.1 _ h2.1) (hC.2.2.2.2.1 _ h2.2) (g := F0 m pc la (.ref a :: st)) rfl (by rw [hC.2.2.1]; exact hl.1) rfl hdg hR.1 (by show 2 * 0 + (st.map fun v => v.category).sum + 12 ≤ R.locals; have := hR.2; omega) (k H locs la hP hD hS hl)
theorem zz_callIN {S : Type} {φ : S → Prop} {wo : S → va_W} {y : MethodName} {idx maxL : Nat} {rm : Room} {bytes : ByteArray} {b : Nat} {rest : List Value} {wi wr : va_W} (hC : ZC p s m args meth c A D nL cc own) (hM : CV l y bytes maxL none rm D [.ref b] wi φ wo) (hk : GoodIn lw_all (zW y bytes maxL none) ∧ Cond.methodLinkNest own idx y "DischargeRecorder" ∈ zNest ∧ Cond.initialized y.cls ∈ lw_all ∧ Cond.instanceMethod y ∈ lw_all) (hd : y.name = "<init>" ∧ y.cls ≠ "java/lang/invoke/MethodHandle" ∧ y.cls ≠ "java/lang/invoke/VarHandle" ∧ (parseMethodDescriptor y.desc).map (fun d => d.parameters.length) = some 0) (hR : rm.frames + 1 ≤ R.frames ∧ 8 + (maxL + 11) + rm.locals ≤ R.locals) (isC isR : List Nat) (hiC : isC.map (fun i => ws[i]?) = wi.map some) (hiR : isR.map (fun i => ws[i]?) = wr.map some) (hnd : va_nd isC = true ∧ va_nd isR = true ∧ (∀ i ∈ isR, i ∉ isC)) (hcat : (rest.map fun v => v.category).sum ≤ 8) (hst : st = .ref b :: rest) (hroom : cs + rm.cells ≤ R.cells ∧ sl + rm.slots ≤ R.slots) (hdg : decode cc pc = .ok (.invokespecial idx, 3)) (hcz : cs + rm.cells = cs1 ∧ sl + rm.slots = sl1) {wb : S → va_W} (isB : List Nat) (hnB : va_nd isB = true) (hB9 : ∀ u, isB.map (fun i => (wr ++ wo u)[i]?) = (wb u).map some) (k : ∀ u : S, φ u → Z p l e R s m args below meth c A D Q nL cs1 sl1 (wb u) ls rest (pc + 3)) : Z p l e R s m args below meth c A D Q nL cs sl ws ls st pc := by
  subst hst
  intro H locs la hP hD hS hl
  have hfm : ∀ (is : List Nat) (w : va_W), is.map (fun i => ws[i]?) = w.map some → is.filterMap (fun i => ws[i]?) = w := z_fm ws
  have hPc := hP.sub isC (hfm _ _ hiC)
  have hDc := hD.sub isC hnd.1 hiC
  have hFc := va_free hD hS hC.2.2.2.2.2.2.1 isC hiC
  refine va_callv (va_runIN (host := "DischargeRecorder") (As := []) (rest := rest) ⟨hC.1, hC.2.1, hC.2.2.1, hC.2.2.2.1, hC.2.2.2.2.1⟩ (hM H.size) (⟨va_cnB (host := "DischargeRecorder") 0 hC.2.2.2.2.1 hk.1 rfl rfl rfl (hC.2.2.2.2.2.2.2.1.2.2.2.2.2.1 _ hk.2.1) (hC.2.2.2.2.1 _ hk.2.2.1) hd.2 hR, hd.1, hC.2.2.2.2.1 _ hk.2.2.2⟩) ⟨zPre_blind, fun U hU hW => ⟨rfl, by rw [hU], by rw [hU]; exact hPc, va_K.moved hW.alike hC.2.2.2.2.2.1, hDc.weaken (fun _ _ _ _ => trivial), by rw [hU]; exact zGF.to hW hS.2.1 hFc hC.2.2.2.2.2.2.2.1⟩⟩ rfl rfl hl.1 rfl (lv_room hcat) hdg hroom) hS (fun q _ h => hFc q h) hFc (fun u t H1 locs1 ht hvm hw hB hz1 hk1 hS1 => ?_)
  obtain ⟨hP1, -, hD1⟩ := hB
  have hu := hw
  rw [ht] at hP1
  obtain ⟨hP2, hD2⟩ := va_join hP hD isC isR hiC hiR hnd.2.1 hnd.2.2 hk1 hFc hP1 hD1
  have hk := zz_ws isB hnB (hB9 u) (k u hu)
  rw [← hcz.1, ← hcz.2] at hk
  exact hk H1 locs1 la hP2 hD2 hS1 hl
theorem zz_callI {S : Type} {φ : S → Prop} {wo : S → va_W} {y : MethodName} {idx maxL : Nat} {rm : Room} {bytes : ByteArray} {b : Nat} {rest : List Value} {wi wr : va_W} (hC : ZC p s m args meth c A D nL cc own) (hM : CV l y bytes maxL none rm D [.ref b] wi φ wo) (hk : GoodIn lw_all (zW y bytes maxL none) ∧ Cond.methodLink own idx y ∈ lw_all ∧ Cond.initialized y.cls ∈ lw_all ∧ Cond.instanceMethod y ∈ lw_all) (hd : y.name = "<init>" ∧ y.cls ≠ "java/lang/invoke/MethodHandle" ∧ y.cls ≠ "java/lang/invoke/VarHandle" ∧ (parseMethodDescriptor y.desc).map (fun d => d.parameters.length) = some 0) (hR : rm.frames + 1 ≤ R.frames ∧ 8 + (maxL + 11) + rm.locals ≤ R.locals) (isC isR : List Nat) (hiC : isC.map (fun i => ws[i]?) = wi.map some) (hiR : isR.map (fun i => ws[i]?) = wr.map some) (hnd : va_nd isC = true ∧ va_nd isR = true ∧ (∀ i ∈ isR, i ∉ isC)) (hcat : (rest.map fun v => v.category).sum ≤ 8) (hst : st = .ref b :: rest) (hroom : cs + rm.cells ≤ R.cells ∧ sl + rm.slots ≤ R.slots) (hdg : decode cc pc = .ok (.invokespecial idx, 3)) (hcz : cs + rm.cells = cs1 ∧ sl + rm.slots = sl1) {wb : S → va_W} (isB : List Nat) (hnB : va_nd isB = true) (hB9 : ∀ u, isB.map (fun i => (wr ++ wo u)[i]?) = (wb u).map some) (k : ∀ u : S, φ u → Z p l e R s m args below meth c A D Q nL cs1 sl1 (wb u) ls rest (pc + 3)) : Z p l e R s m args below meth c A D Q nL cs sl ws ls st pc := by
  subst hst
  intro H locs la hP hD hS hl
  have hfm : ∀ (is : List Nat) (w : va_W), is.map (fun i => ws[i]?) = w.map some → is.filterMap (fun i => ws[i]?) = w := z_fm ws
  have hPc := hP.sub isC (hfm _ _ hiC)
  have hDc := hD.sub isC hnd.1 hiC
  have hFc := va_free hD hS hC.2.2.2.2.2.2.1 isC hiC
  refine va_callv (va_runI (As := []) (rest := rest) ⟨hC.1, hC.2.1, hC.2.2.1, hC.2.2.2.1, hC.2.2.2.2.1⟩ (hM H.size) (cwI 0 hC.2.2.2.2.1 hk.1 rfl rfl rfl (hC.2.2.2.2.1 _ hk.2.2.1) (hC.2.2.2.2.1 _ hk.2.1) (hC.2.2.2.2.1 _ hk.2.2.2) hd.1 hd.2 hR) ⟨zPre_blind, fun U hU hW => ⟨rfl, by rw [hU], by rw [hU]; exact hPc, va_K.moved hW.alike hC.2.2.2.2.2.1, hDc.weaken (fun _ _ _ _ => trivial), by rw [hU]; exact zGF.to hW hS.2.1 hFc hC.2.2.2.2.2.2.2.1⟩⟩ rfl rfl hl.1 rfl (lv_room hcat) hdg hroom) hS (fun q _ h => hFc q h) hFc (fun u t H1 locs1 ht hvm hw hB hz1 hk1 hS1 => ?_)
  obtain ⟨hP1, -, hD1⟩ := hB
  have hu := hw
  rw [ht] at hP1
  obtain ⟨hP2, hD2⟩ := va_join hP hD isC isR hiC hiR hnd.2.1 hnd.2.2 hk1 hFc hP1 hD1
  have hk := zz_ws isB hnB (hB9 u) (k u hu)
  rw [← hcz.1, ← hcz.2] at hk
  exact hk H1 locs1 la hP2 hD2 hS1 hl
end ZN
theorem ac_i : Cond.arrayClass .int ∈ lw_all := lw_at 159 (by decide +kernel) rfl
theorem ac_l : Cond.arrayClass .long ∈ lw_all := lw_at 186 (by decide +kernel) rfl
theorem ac_b : Cond.arrayClass .boolean ∈ lw_all := lw_at 185 (by decide +kernel) rfl
theorem ac_d : Cond.arrayClass .double ∈ lw_all := lw_at 1137 (by decide +kernel) rfl
theorem ob_2 : Cond.instanceMethod Lib.objectInit ∈ lw_all ∧ Cond.code Lib.objectInit ⟨#[0xb1]⟩ 1 none ∈ lw_all := ⟨lw_at 105 (by decide +kernel) rfl, lw_at 106 (by decide +kernel) rfl⟩
theorem df_X0 : ∀ j, j < 2 → defaultValue (tyX0 j) = vp_V [.null, .int (zI 0)] j := by
  intro j hj
  rcases (show j = 0 ∨ j = 1 by omega) with rfl | rfl <;> rfl
theorem df_X1 : ∀ j, j < 8 → defaultValue (tyX1 j) = vp_V [.null, .int (zI 0), .null, .null, .null, .int (zI 0), .int (zI 0), .int (zI 0)] j := by
  intro j hj
  rcases (show j = 0 ∨ j = 1 ∨ j = 2 ∨ j = 3 ∨ j = 4 ∨ j = 5 ∨ j = 6 ∨ j = 7 by omega) with rfl | rfl | rfl | rfl | rfl | rfl | rfl | rfl <;> rfl
theorem df_X2 : ∀ j, j < 6 → defaultValue (tyX2 j) = vp_V [.null, .null, .null, .null, .null, .int (zI 0)] j := by
  intro j hj
  rcases (show j = 0 ∨ j = 1 ∨ j = 2 ∨ j = 3 ∨ j = 4 ∨ j = 5 by omega) with rfl | rfl | rfl | rfl | rfl | rfl <;> rfl
theorem df_X3 : ∀ j, j < 8 → defaultValue (tyX3 j) = vp_V [.null, .null, .null, .null, .null, .null, .int (zI 0), .int (zI 0)] j := by
  intro j hj
  rcases (show j = 0 ∨ j = 1 ∨ j = 2 ∨ j = 3 ∨ j = 4 ∨ j = 5 ∨ j = 6 ∨ j = 7 by omega) with rfl | rfl | rfl | rfl | rfl | rfl | rfl | rfl <;> rfl
theorem df_X4 : ∀ j, j < 4 → defaultValue (tyX4 j) = vp_V [.null, .int (zI 0), .int (zI 0), .int (zI 0)] j := by
  intro j hj
  rcases (show j = 0 ∨ j = 1 ∨ j = 2 ∨ j = 3 by omega) with rfl | rfl | rfl | rfl <;> rfl
theorem df_X5 : ∀ j, j < 7 → defaultValue (tyX5 j) = vp_V [.null, .null, .null, .null, .null, .null, .null] j := by
  intro j hj
  rcases (show j = 0 ∨ j = 1 ∨ j = 2 ∨ j = 3 ∨ j = 4 ∨ j = 5 ∨ j = 6 by omega) with rfl | rfl | rfl | rfl | rfl | rfl | rfl <;> rfl
theorem df_X6 : ∀ j, j < 20 → defaultValue (tyX6 j) = vp_V [.null, .null, .null, .int (zI 0), .int (zI 0), .null, .int (zI 0), .int (zI 0), .int (zI 0), .int (zI 0), .int (zI 0), .int (zI 0), .null, .null, .int (zI 0), .null, .null, .null, .null, .long (zL 0)] j := by
  intro j hj
  rcases (show j = 0 ∨ j = 1 ∨ j = 2 ∨ j = 3 ∨ j = 4 ∨ j = 5 ∨ j = 6 ∨ j = 7 ∨ j = 8 ∨ j = 9 ∨ j = 10 ∨ j = 11 ∨ j = 12 ∨ j = 13 ∨ j = 14 ∨ j = 15 ∨ j = 16 ∨ j = 17 ∨ j = 18 ∨ j = 19 by omega) with rfl | rfl | rfl | rfl | rfl | rfl | rfl | rfl | rfl | rfl | rfl | rfl | rfl | rfl | rfl | rfl | rfl | rfl | rfl | rfl <;> rfl
theorem N_L_8 : Cond.classLink RL 8 RX5 ∈ lw_all ∧ Cond.instantiable RX5 7 ∈ lw_all ∧ Cond.initialized RX5 ∈ lw_all := ⟨lw_at 99 (by decide +kernel) rfl, lw_at 100 (by decide +kernel) rfl, lw_at 84 (by decide +kernel) rfl⟩
theorem I_L_81 : GoodIn lw_all (zW yX5_init cX5_init 1 none) ∧ Cond.methodLink RL 81 yX5_init ∈ lw_all ∧ Cond.initialized yX5_init.cls ∈ lw_all ∧ Cond.instanceMethod yX5_init ∈ lw_all := ⟨z_good (lw_at 103 (by decide +kernel) rfl), lw_at 101 (by decide +kernel) rfl, lw_at 84 (by decide +kernel) rfl, lw_at 102 (by decide +kernel) rfl⟩
theorem O_X5_1 : Cond.methodLink RX5 1 Lib.objectInit ∈ lw_all := lw_at 104 (by decide +kernel) rfl
theorem N_X5_7 : Cond.classLink RX5 7 RX2 ∈ lw_all ∧ Cond.instantiable RX2 6 ∈ lw_all ∧ Cond.initialized RX2 ∈ lw_all := ⟨lw_at 107 (by decide +kernel) rfl, lw_at 108 (by decide +kernel) rfl, lw_at 85 (by decide +kernel) rfl⟩
theorem I_X5_9 : GoodIn lw_all (zW yX2_init cX2_init 1 none) ∧ Cond.methodLinkNest RX5 9 yX2_init "DischargeRecorder" ∈ zNest ∧ Cond.initialized yX2_init.cls ∈ lw_all ∧ Cond.instanceMethod yX2_init ∈ lw_all := ⟨z_good (lw_at 111 (by decide +kernel) rfl), zn_at 109 (by decide +kernel) rfl, lw_at 85 (by decide +kernel) rfl, lw_at 110 (by decide +kernel) rfl⟩
theorem O_X2_3 : Cond.methodLink RX2 3 Lib.objectInit ∈ lw_all := lw_at 112 (by decide +kernel) rfl
theorem N_X2_9 : Cond.classLink RX2 9 RX3 ∈ lw_all ∧ Cond.instantiable RX3 8 ∈ lw_all ∧ Cond.initialized RX3 ∈ lw_all := ⟨lw_at 113 (by decide +kernel) rfl, lw_at 114 (by decide +kernel) rfl, lw_at 86 (by decide +kernel) rfl⟩
theorem I_X2_11 : GoodIn lw_all (zW yX3_init cX3_init 2 none) ∧ Cond.methodLinkNest RX2 11 yX3_init "DischargeRecorder" ∈ zNest ∧ Cond.initialized yX3_init.cls ∈ lw_all ∧ Cond.instanceMethod yX3_init ∈ lw_all := ⟨z_good (lw_at 117 (by decide +kernel) rfl), zn_at 115 (by decide +kernel) rfl, lw_at 86 (by decide +kernel) rfl, lw_at 116 (by decide +kernel) rfl⟩
theorem O_X3_3 : Cond.methodLink RX3 3 Lib.objectInit ∈ lw_all := lw_at 118 (by decide +kernel) rfl
theorem N_X5_21 : Cond.classLink RX5 21 RX4 ∈ lw_all ∧ Cond.instantiable RX4 4 ∈ lw_all ∧ Cond.initialized RX4 ∈ lw_all := ⟨lw_at 187 (by decide +kernel) rfl, lw_at 188 (by decide +kernel) rfl, lw_at 87 (by decide +kernel) rfl⟩
theorem I_X5_23 : GoodIn lw_all (zW yX4_init cX4_init 1 none) ∧ Cond.methodLinkNest RX5 23 yX4_init "DischargeRecorder" ∈ zNest ∧ Cond.initialized yX4_init.cls ∈ lw_all ∧ Cond.instanceMethod yX4_init ∈ lw_all := ⟨z_good (lw_at 191 (by decide +kernel) rfl), zn_at 189 (by decide +kernel) rfl, lw_at 87 (by decide +kernel) rfl, lw_at 190 (by decide +kernel) rfl⟩
theorem O_X4_3 : Cond.methodLink RX4 3 Lib.objectInit ∈ lw_all := lw_at 192 (by decide +kernel) rfl
theorem N_X5_28 : Cond.classLink RX5 28 RX0 ∈ lw_all ∧ Cond.instantiable RX0 2 ∈ lw_all ∧ Cond.initialized RX0 ∈ lw_all := ⟨lw_at 207 (by decide +kernel) rfl, lw_at 208 (by decide +kernel) rfl, lw_at 88 (by decide +kernel) rfl⟩
theorem I_X5_30 : GoodIn lw_all (zW yX0_init cX0_init 2 none) ∧ Cond.methodLinkNest RX5 30 yX0_init "DischargeRecorder" ∈ zNest ∧ Cond.initialized yX0_init.cls ∈ lw_all ∧ Cond.instanceMethod yX0_init ∈ lw_all := ⟨z_good (lw_at 211 (by decide +kernel) rfl), zn_at 209 (by decide +kernel) rfl, lw_at 88 (by decide +kernel) rfl, lw_at 210 (by decide +kernel) rfl⟩
theorem O_X0_3 : Cond.methodLink RX0 3 Lib.objectInit ∈ lw_all := lw_at 212 (by decide +kernel) rfl
theorem N_X0_9_0 : Cond.classLink RX0 9 "DischargeRecorder$State" ∈ lw_all := lw_at 213 (by decide +kernel) rfl
theorem N_X0_9 : Cond.classLink RX0 9 RX3 ∈ lw_all ∧ Cond.instantiable RX3 8 ∈ lw_all ∧ Cond.initialized RX3 ∈ lw_all := ⟨lw_at 213 (by decide +kernel) rfl, lw_at 114 (by decide +kernel) rfl, lw_at 86 (by decide +kernel) rfl⟩
theorem I_X0_21 : GoodIn lw_all (zW yX3_init cX3_init 2 none) ∧ Cond.methodLinkNest RX0 21 yX3_init "DischargeRecorder" ∈ zNest ∧ Cond.initialized yX3_init.cls ∈ lw_all ∧ Cond.instanceMethod yX3_init ∈ lw_all := ⟨z_good (lw_at 117 (by decide +kernel) rfl), zn_at 215 (by decide +kernel) rfl, lw_at 86 (by decide +kernel) rfl, lw_at 116 (by decide +kernel) rfl⟩
theorem N_X5_35 : Cond.classLink RX5 35 RX1 ∈ lw_all ∧ Cond.instantiable RX1 8 ∈ lw_all ∧ Cond.initialized RX1 ∈ lw_all := ⟨lw_at 224 (by decide +kernel) rfl, lw_at 225 (by decide +kernel) rfl, lw_at 89 (by decide +kernel) rfl⟩
theorem I_X5_37 : GoodIn lw_all (zW yX1_init cX1_init 1 none) ∧ Cond.methodLinkNest RX5 37 yX1_init "DischargeRecorder" ∈ zNest ∧ Cond.initialized yX1_init.cls ∈ lw_all ∧ Cond.instanceMethod yX1_init ∈ lw_all := ⟨z_good (lw_at 228 (by decide +kernel) rfl), zn_at 226 (by decide +kernel) rfl, lw_at 89 (by decide +kernel) rfl, lw_at 227 (by decide +kernel) rfl⟩
theorem O_X1_3 : Cond.methodLink RX1 3 Lib.objectInit ∈ lw_all := lw_at 229 (by decide +kernel) rfl
theorem N_L_82 : Cond.classLink RL 82 RX6 ∈ lw_all ∧ Cond.instantiable RX6 20 ∈ lw_all ∧ Cond.initialized RX6 ∈ lw_all := ⟨lw_at 805 (by decide +kernel) rfl, lw_at 806 (by decide +kernel) rfl, lw_at 90 (by decide +kernel) rfl⟩
theorem I_L_84 : GoodIn lw_all (zW yX6_init cX6_init 1 none) ∧ Cond.methodLink RL 84 yX6_init ∈ lw_all ∧ Cond.initialized yX6_init.cls ∈ lw_all ∧ Cond.instanceMethod yX6_init ∈ lw_all := ⟨z_good (lw_at 809 (by decide +kernel) rfl), lw_at 807 (by decide +kernel) rfl, lw_at 90 (by decide +kernel) rfl, lw_at 808 (by decide +kernel) rfl⟩
theorem O_X6_1 : Cond.methodLink RX6 1 Lib.objectInit ∈ lw_all := lw_at 810 (by decide +kernel) rfl
theorem HI_X0_init : yX0_init.name = "<init>" ∧ yX0_init.cls ≠ "java/lang/invoke/MethodHandle" ∧ yX0_init.cls ≠ "java/lang/invoke/VarHandle" ∧ (parseMethodDescriptor yX0_init.desc).map (fun d => d.parameters.length) = some 0 := by decide +kernel
theorem HI_X1_init : yX1_init.name = "<init>" ∧ yX1_init.cls ≠ "java/lang/invoke/MethodHandle" ∧ yX1_init.cls ≠ "java/lang/invoke/VarHandle" ∧ (parseMethodDescriptor yX1_init.desc).map (fun d => d.parameters.length) = some 0 := by decide +kernel
theorem HI_X2_init : yX2_init.name = "<init>" ∧ yX2_init.cls ≠ "java/lang/invoke/MethodHandle" ∧ yX2_init.cls ≠ "java/lang/invoke/VarHandle" ∧ (parseMethodDescriptor yX2_init.desc).map (fun d => d.parameters.length) = some 0 := by decide +kernel
theorem HI_X3_init : yX3_init.name = "<init>" ∧ yX3_init.cls ≠ "java/lang/invoke/MethodHandle" ∧ yX3_init.cls ≠ "java/lang/invoke/VarHandle" ∧ (parseMethodDescriptor yX3_init.desc).map (fun d => d.parameters.length) = some 0 := by decide +kernel
theorem HI_X4_init : yX4_init.name = "<init>" ∧ yX4_init.cls ≠ "java/lang/invoke/MethodHandle" ∧ yX4_init.cls ≠ "java/lang/invoke/VarHandle" ∧ (parseMethodDescriptor yX4_init.desc).map (fun d => d.parameters.length) = some 0 := by decide +kernel
theorem HI_X5_init : yX5_init.name = "<init>" ∧ yX5_init.cls ≠ "java/lang/invoke/MethodHandle" ∧ yX5_init.cls ≠ "java/lang/invoke/VarHandle" ∧ (parseMethodDescriptor yX5_init.desc).map (fun d => d.parameters.length) = some 0 := by decide +kernel
theorem HI_X6_init : yX6_init.name = "<init>" ∧ yX6_init.cls ≠ "java/lang/invoke/MethodHandle" ∧ yX6_init.cls ≠ "java/lang/invoke/VarHandle" ∧ (parseMethodDescriptor yX6_init.desc).map (fun d => d.parameters.length) = some 0 := by decide +kernel
