/-! methods with an exception table -/
abbrev zWH (y : MethodName) (c : ByteArray) (n : Nat) (ret : Option FieldType) (hh : List (Nat × Nat × Nat × Nat)) : List Cond := .codeWith y c n ret hh :: lw_all
theorem z_goodH {own : String} {idx : Nat} {y : MethodName} {c : ByteArray} {n : Nat} {ret : Option FieldType} {hh : List (Nat × Nat × Nat × Nat)} (h0 : Cond.methodLink own idx y ∈ lw_all) (h1 : Cond.static y ∈ lw_all) (h2 : Cond.initialized y.cls ∈ lw_all) (h : Cond.codeWith y c n ret hh ∈ lw_all) : GoodIn lw_all (va_wsS own idx y (zWH y c n ret hh)) := fun w hw => by
  rcases List.mem_append.mp hw with hw | hw
  · simp only [List.mem_cons, List.not_mem_nil, or_false] at hw
    rcases hw with rfl | rfl | rfl
    · exact lw_all_good _ h0
    · exact lw_all_good _ h1
    · exact lw_all_good _ h2
  · rcases List.mem_cons.mp hw with hw | hw
    · rw [hw]; exact lw_all_good _ h
    · exact lw_all_good _ hw
def CH {S : Type} (l : Launch) (y : MethodName) (c : ByteArray) (n : Nat) (ret : Option FieldType) (hh : List (Nat × Nat × Nat × Nat)) (rm : Room) (D : zG) (av : List Value) (wi : va_W) (φ : S → Prop) (f : S → Int) (wo : S → va_W) : Prop := ∀ sz : Nat, Met l y (zWH y c n ret hh) rm (va_Pc av (zPre D wi sz)) (va_Qi (fun r u => r = zI (f u) ∧ φ u) (zPost D (va_A wi sz) wo) (va_A wi sz)) rm.cells rm.slots (va_A wi sz)
theorem CH_of {S : Type} {l : Launch} {y : MethodName} {c : ByteArray} {n : Nat} {ret : Option FieldType} {hh : List (Nat × Nat × Nat × Nat)} {rm : Room} {D : zG} {av : List Value} {wi : va_W} {φ : S → Prop} {f : S → Int} {wo : S → va_W} (hy : plainName y.cls = true) (hn : (lg_sl av).length ≤ n) (body : ∀ (p : Program) (e : Env) (s : State) (m : MethodId) (args : Array Value) (below : List Frame) (meth : Method) (cd : Code) (A : Nat → Prop) (Q : State → Prop), Q = MQ below (va_Qi (fun r u => r = zI (f u) ∧ φ u) (zPost D A wo) A) args s rm.cells rm.slots A → ZC p s m args meth cd A D n c y.cls → meth.sig.returnType = ret → cd.exceptionTable.toList = tableOf hh → Z p l e rm s m args below meth cd A D Q n 0 0 wi (lv_args 0 av) [] 0) : CH l y c n ret hh rm D av wi φ f wo := by
  intro sz
  refine va_MetW (cc := c) (maxL := n) (ret := ret) (hh := hh) hy rfl ?_
  intro p e s m args below meth cd s₁ B hml hv
  obtain ⟨rfl, hsz, hP, hK, hD0, hG⟩ := hv
  subst hsz
  have hts := atoms_spec (ws := zWH y c n ret hh) B.pre
  have htab := vx_table (x := y) B (hts _ List.mem_cons_self)
  rw [lg_entry_eq]
  exact body p e s m _ below meth cd (va_A wi s.heap.size) _ rfl ⟨B.exec, B.bytes, hml, findClass_of_methodNamed B.named, fun w hw => hts w (List.mem_cons_of_mem _ hw), hK, fun q h => Or.inr h, hG, B.notSynchronized⟩ B.returns htab s.heap [] _ hP (hD0.self (sz := s.heap.size)) va_S.rf (lv_entry av hn)
/-- a throw that stands at pc, and has not been caught yet -/
def ZX (p : Program) (l : Launch) (e : Env) (R : Room) (s : State) (m : MethodId) (args : Array Value) (below : List Frame) (meth : Method) (c : Code) (A : Nat → Prop) (D : zG) (Q : State → Prop) (nL cs sl : Nat) (ws : va_W) (ls : List (Nat × Value)) (st : List Value) (pc : Nat) (E : String) : Prop :=
  ∀ (H : Heap) (locs : List Loc) (la : Array Slot) (q : Addr) (ce : Cell), va_P D.1 vwCl ws H → va_D A ws → va_S A s.heap H locs → lv_has la nL ls → H[q]? = some ce → ce.vm = .none → s.vm.findClass E = some ce.cls → vx_W p l e R s m args below meth c H locs cs sl Q (F0 m pc la st) q
section ZW
variable {p : Program} {l : Launch} {e : Env} {R : Room} {s : State} {m : MethodId} {args : Array Value} {below : List Frame} {meth : Method} {c : Code} {A : Nat → Prop} {D : zG} {Q : State → Prop} {nL cs sl cs1 sl1 : Nat}
variable {cc : ByteArray} {own : String} {ws : va_W} {ls : List (Nat × Value)} {st : List Value} {pc : Nat}
theorem zx_ws {E : String} (is : List Nat) {ws' : va_W} (hn : va_nd is = true) (h : is.map (fun i => ws[i]?) = ws'.map some) (k : ZX p l e R s m args below meth c A D Q nL cs sl ws' ls st pc E) : ZX p l e R s m args below meth c A D Q nL cs sl ws ls st pc E := fun H locs la q ce hP hD hS hl h1 h2 h3 => k H locs la q ce (hP.sub is (z_fm ws _ _ h)) (hD.sub is hn h) hS hl h1 h2 h3
theorem zz_catch (hC : ZC p s m args meth c A D nL cc own) {E : String} (pre : List ExceptionTableEntry) (x : ExceptionTableEntry) (suf : List ExceptionTableEntry) (hsplit : c.exceptionTable.toList = pre ++ x :: suf) (hpass : ∀ z ∈ pre, z.catchType ≠ 0 ∧ ∃ nm : String, Cond.classLink own z.catchType nm ∈ lw_all ∧ va_Nc E nm s) (hx : covers x pc = true) (h0 : x.catchType ≠ 0) (hlink : Cond.classLink own x.catchType E ∈ lw_all) (hcast : Cond.castable E E ∈ zNest) (k : ∀ q : Nat, Z p l e R s m args below meth c A D Q nL cs sl ws ls ([.ref q]) x.handlerPc) : ZX p l e R s m args below meth c A D Q nL cs sl ws ls st pc E := fun H locs la q ce hP hD hS hl h1 h2 h3 => vx_catch hC.2.2.2.1 pre x suf hsplit (fun z hz => Or.inr ⟨(hpass z hz).1, by obtain ⟨nm, a, b⟩ := (hpass z hz).2; exact ⟨nm, hC.2.2.2.2.1 _ a, b⟩⟩) hx h0 (hC.2.2.2.2.1 _ hlink) (va_Nw.use rfl (hC.2.2.2.2.2.2.2.1.2.2.2.2.2.1 _ hcast)) h1 h2 h3 (k q H locs la hP hD hS hl)
theorem zz_xcalli {S SX : Type} {φ : S → Prop} {f : S → Int} {wo : S → va_W} {χ : String → SX → Prop} {wx : SX → va_W} {y : MethodName} {idx maxL na : Nat} {ret : Option FieldType} {rm : Room} {bytes : ByteArray} {C : String} {b : Nat} {As rest : List Value} {wi wr : va_W} (hC : ZC p s m args meth c A D nL cc own) (hM : XI l y bytes maxL ret rm D (.ref b :: As) wi φ f wo χ wx) (hk : GoodIn lw_all (wsV own idx C y (zW y bytes maxL ret))) (hd : y.cls = C ∧ y.cls ≠ "java/lang/invoke/MethodHandle" ∧ y.cls ≠ "java/lang/invoke/VarHandle" ∧ (parseMethodDescriptor y.desc).map (fun d => d.parameters.length) = some na) (hR : rm.frames + 1 ≤ R.frames ∧ 8 + (maxL + 11) + rm.locals ≤ R.locals) (hn : As.length = na) (isC isR : List Nat) (hiC : isC.map (fun i => ws[i]?) = wi.map some) (hiR : isR.map (fun i => ws[i]?) = wr.map some) (hnd : va_nd isC = true ∧ va_nd isR = true ∧ (∀ i ∈ isR, i ∉ isC)) (q0 ci : Nat) {fs : List Value} {rc : vw_C} (hrc : wi[q0]? = some (b, .inr (ci, fs)) ∧ vwCl[ci]? = some rc ∧ rc.1 = C) (hcat : (rest.map fun v => v.category).sum ≤ 8) (hst : st = As.reverse ++ .ref b :: rest) (hroom : cs + rm.cells ≤ R.cells ∧ sl + rm.slots ≤ R.slots) (hdg : decode cc pc = .ok (.invokevirtual idx, 3)) (hcz : cs + rm.cells = cs1 ∧ sl + rm.slots = sl1) {wb : S → va_W} {wbx : SX → va_W} (isB : List Nat) (hnB : va_nd isB = true) (hB9 : ∀ u, isB.map (fun i => (wr ++ wo u)[i]?) = (wb u).map some) (hB9x : ∀ u, isB.map (fun i => (wr ++ wx u)[i]?) = (wbx u).map some) (kx : ∀ (E : String) (u : SX), χ E u → ZX p l e R s m args below meth c A D Q nL cs1 sl1 (wbx u) ls rest pc E) (k : ∀ u : S, φ u → Z p l e R s m args below meth c A D Q nL cs1 sl1 (wb u) ls (.int (zI (f u)) :: rest) (pc + 3)) : Z p l e R s m args below meth c A D Q nL cs sl ws ls st pc := by
  subst hst
  intro H locs la hP hD hS hl
  have hfm : ∀ (is : List Nat) (w : va_W), is.map (fun i => ws[i]?) = w.map some → is.filterMap (fun i => ws[i]?) = w := z_fm ws
  have hPc := hP.sub isC (hfm _ _ hiC)
  have hDc := hD.sub isC hnd.1 hiC
  have hFc := va_free hD hS hC.2.2.2.2.2.2.1 isC hiC
  refine vx_calli (vx_runV (C := C) (As := As) (rest := rest) ⟨hC.1, hC.2.1, hC.2.2.1, hC.2.2.2.1, hC.2.2.2.2.1⟩ (hM H.size) (cwV na hC.2.2.2.2.1 hk rfl rfl rfl hd hR) ⟨zPre_blind, by rw [← hrc.2.2]; exact va_recv hC.2.2.2.2.2.1 hPc hrc.2.1 hrc.1, fun U hU hW => ⟨rfl, by rw [hU], by rw [hU]; exact hPc, va_K.moved hW.alike hC.2.2.2.2.2.1, hDc.weaken (fun _ _ _ _ => trivial), by rw [hU]; exact zGF.to hW hS.2.1 hFc hC.2.2.2.2.2.2.2.1⟩⟩ rfl hn hl.1 rfl (lv_room hcat) hdg hroom) hS (fun q _ h => hFc q h) hFc (fun q _ h => hFc q h) (fun E ce q9 u t H1 locs1 ht hvm _ hB hz1 hk1 hS1 hce hcv hcl => ?_) (fun rv u t H1 locs1 ht hvm hw hB hz1 hk1 hS1 => ?_)
  · obtain ⟨hx, hP1, -, hD1⟩ := hB
    rw [ht] at hP1
    obtain ⟨hP2, hD2⟩ := va_join hP hD isC isR hiC hiR hnd.2.1 hnd.2.2 hk1 hFc hP1 hD1
    have hk := zx_ws isB hnB (hB9x u) (kx E u hx)
    rw [← hcz.1, ← hcz.2] at hk
    exact hk H1 locs1 la q9 ce hP2 hD2 hS1 hl hce hcv hcl
  · obtain ⟨hP1, -, hD1⟩ := hB
    obtain ⟨hv, hu⟩ := hw
    rw [hv]
    rw [ht] at hP1
    obtain ⟨hP2, hD2⟩ := va_join hP hD isC isR hiC hiR hnd.2.1 hnd.2.2 hk1 hFc hP1 hD1
    have hk := zz_ws isB hnB (hB9 u) (k u hu)
    rw [← hcz.1, ← hcz.2] at hk
    exact hk H1 locs1 la hP2 hD2 hS1 hl
theorem zz_xcalll {S SX : Type} {φ : S → Prop} {f : S → Int} {wo : S → va_W} {χ : String → SX → Prop} {wx : SX → va_W} {y : MethodName} {idx maxL na : Nat} {ret : Option FieldType} {rm : Room} {bytes : ByteArray} {C : String} {b : Nat} {As rest : List Value} {wi wr : va_W} (hC : ZC p s m args meth c A D nL cc own) (hM : XL l y bytes maxL ret rm D (.ref b :: As) wi φ f wo χ wx) (hk : GoodIn lw_all (wsV own idx C y (zW y bytes maxL ret))) (hd : y.cls = C ∧ y.cls ≠ "java/lang/invoke/MethodHandle" ∧ y.cls ≠ "java/lang/invoke/VarHandle" ∧ (parseMethodDescriptor y.desc).map (fun d => d.parameters.length) = some na) (hR : rm.frames + 1 ≤ R.frames ∧ 8 + (maxL + 11) + rm.locals ≤ R.locals) (hn : As.length = na) (isC isR : List Nat) (hiC : isC.map (fun i => ws[i]?) = wi.map some) (hiR : isR.map (fun i => ws[i]?) = wr.map some) (hnd : va_nd isC = true ∧ va_nd isR = true ∧ (∀ i ∈ isR, i ∉ isC)) (q0 ci : Nat) {fs : List Value} {rc : vw_C} (hrc : wi[q0]? = some (b, .inr (ci, fs)) ∧ vwCl[ci]? = some rc ∧ rc.1 = C) (hcat : (rest.map fun v => v.category).sum ≤ 8) (hst : st = As.reverse ++ .ref b :: rest) (hroom : cs + rm.cells ≤ R.cells ∧ sl + rm.slots ≤ R.slots) (hdg : decode cc pc = .ok (.invokevirtual idx, 3)) (hcz : cs + rm.cells = cs1 ∧ sl + rm.slots = sl1) {wb : S → va_W} {wbx : SX → va_W} (isB : List Nat) (hnB : va_nd isB = true) (hB9 : ∀ u, isB.map (fun i => (wr ++ wo u)[i]?) = (wb u).map some) (hB9x : ∀ u, isB.map (fun i => (wr ++ wx u)[i]?) = (wbx u).map some) (kx : ∀ (E : String) (u : SX), χ E u → ZX p l e R s m args below meth c A D Q nL cs1 sl1 (wbx u) ls rest pc E) (k : ∀ u : S, φ u → Z p l e R s m args below meth c A D Q nL cs1 sl1 (wb u) ls (.long (zL (f u)) :: rest) (pc + 3)) : Z p l e R s m args below meth c A D Q nL cs sl ws ls st pc := by
  subst hst
  intro H locs la hP hD hS hl
  have hfm : ∀ (is : List Nat) (w : va_W), is.map (fun i => ws[i]?) = w.map some → is.filterMap (fun i => ws[i]?) = w := z_fm ws
  have hPc := hP.sub isC (hfm _ _ hiC)
  have hDc := hD.sub isC hnd.1 hiC
  have hFc := va_free hD hS hC.2.2.2.2.2.2.1 isC hiC
  refine vx_calll (vx_runV (C := C) (As := As) (rest := rest) ⟨hC.1, hC.2.1, hC.2.2.1, hC.2.2.2.1, hC.2.2.2.2.1⟩ (hM H.size) (cwV na hC.2.2.2.2.1 hk rfl rfl rfl hd hR) ⟨zPre_blind, by rw [← hrc.2.2]; exact va_recv hC.2.2.2.2.2.1 hPc hrc.2.1 hrc.1, fun U hU hW => ⟨rfl, by rw [hU], by rw [hU]; exact hPc, va_K.moved hW.alike hC.2.2.2.2.2.1, hDc.weaken (fun _ _ _ _ => trivial), by rw [hU]; exact zGF.to hW hS.2.1 hFc hC.2.2.2.2.2.2.2.1⟩⟩ rfl hn hl.1 rfl (lv_room hcat) hdg hroom) hS (fun q _ h => hFc q h) hFc (fun q _ h => hFc q h) (fun E ce q9 u t H1 locs1 ht hvm _ hB hz1 hk1 hS1 hce hcv hcl => ?_) (fun rv u t H1 locs1 ht hvm hw hB hz1 hk1 hS1 => ?_)
  · obtain ⟨hx, hP1, -, hD1⟩ := hB
    rw [ht] at hP1
    obtain ⟨hP2, hD2⟩ := va_join hP hD isC isR hiC hiR hnd.2.1 hnd.2.2 hk1 hFc hP1 hD1
    have hk := zx_ws isB hnB (hB9x u) (kx E u hx)
    rw [← hcz.1, ← hcz.2] at hk
    exact hk H1 locs1 la q9 ce hP2 hD2 hS1 hl hce hcv hcl
  · obtain ⟨hP1, -, hD1⟩ := hB
    obtain ⟨hv, hu⟩ := hw
    rw [hv]
    rw [ht] at hP1
    obtain ⟨hP2, hD2⟩ := va_join hP hD isC isR hiC hiR hnd.2.1 hnd.2.2 hk1 hFc hP1 hD1
    have hk := zz_ws isB hnB (hB9 u) (k u hu)
    rw [← hcz.1, ← hcz.2] at hk
    exact hk H1 locs1 la hP2 hD2 hS1 hl
theorem zz_xcalld {S SX : Type} {φ : S → Prop} {f : S → UInt64} {wo : S → va_W} {χ : String → SX → Prop} {wx : SX → va_W} {y : MethodName} {idx maxL na : Nat} {ret : Option FieldType} {rm : Room} {bytes : ByteArray} {C : String} {b : Nat} {As rest : List Value} {wi wr : va_W} (hC : ZC p s m args meth c A D nL cc own) (hM : XD l y bytes maxL ret rm D (.ref b :: As) wi φ f wo χ wx) (hk : GoodIn lw_all (wsV own idx C y (zW y bytes maxL ret))) (hd : y.cls = C ∧ y.cls ≠ "java/lang/invoke/MethodHandle" ∧ y.cls ≠ "java/lang/invoke/VarHandle" ∧ (parseMethodDescriptor y.desc).map (fun d => d.parameters.length) = some na) (hR : rm.frames + 1 ≤ R.frames ∧ 8 + (maxL + 11) + rm.locals ≤ R.locals) (hn : As.length = na) (isC isR : List Nat) (hiC : isC.map (fun i => ws[i]?) = wi.map some) (hiR : isR.map (fun i => ws[i]?) = wr.map some) (hnd : va_nd isC = true ∧ va_nd isR = true ∧ (∀ i ∈ isR, i ∉ isC)) (q0 ci : Nat) {fs : List Value} {rc : vw_C} (hrc : wi[q0]? = some (b, .inr (ci, fs)) ∧ vwCl[ci]? = some rc ∧ rc.1 = C) (hcat : (rest.map fun v => v.category).sum ≤ 8) (hst : st = As.reverse ++ .ref b :: rest) (hroom : cs + rm.cells ≤ R.cells ∧ sl + rm.slots ≤ R.slots) (hdg : decode cc pc = .ok (.invokevirtual idx, 3)) (hcz : cs + rm.cells = cs1 ∧ sl + rm.slots = sl1) {wb : S → va_W} {wbx : SX → va_W} (isB : List Nat) (hnB : va_nd isB = true) (hB9 : ∀ u, isB.map (fun i => (wr ++ wo u)[i]?) = (wb u).map some) (hB9x : ∀ u, isB.map (fun i => (wr ++ wx u)[i]?) = (wbx u).map some) (kx : ∀ (E : String) (u : SX), χ E u → ZX p l e R s m args below meth c A D Q nL cs1 sl1 (wbx u) ls rest pc E) (k : ∀ u : S, φ u → Z p l e R s m args below meth c A D Q nL cs1 sl1 (wb u) ls (.double (f u) :: rest) (pc + 3)) : Z p l e R s m args below meth c A D Q nL cs sl ws ls st pc := by
  subst hst
  intro H locs la hP hD hS hl
  have hfm : ∀ (is : List Nat) (w : va_W), is.map (fun i => ws[i]?) = w.map some → is.filterMap (fun i => ws[i]?) = w := z_fm ws
  have hPc := hP.sub isC (hfm _ _ hiC)
  have hDc := hD.sub isC hnd.1 hiC
  have hFc := va_free hD hS hC.2.2.2.2.2.2.1 isC hiC
  refine vx_calld (vx_runV (C := C) (As := As) (rest := rest) ⟨hC.1, hC.2.1, hC.2.2.1, hC.2.2.2.1, hC.2.2.2.2.1⟩ (hM H.size) (cwV na hC.2.2.2.2.1 hk rfl rfl rfl hd hR) ⟨zPre_blind, by rw [← hrc.2.2]; exact va_recv hC.2.2.2.2.2.1 hPc hrc.2.1 hrc.1, fun U hU hW => ⟨rfl, by rw [hU], by rw [hU]; exact hPc, va_K.moved hW.alike hC.2.2.2.2.2.1, hDc.weaken (fun _ _ _ _ => trivial), by rw [hU]; exact zGF.to hW hS.2.1 hFc hC.2.2.2.2.2.2.2.1⟩⟩ rfl hn hl.1 rfl (lv_room hcat) hdg hroom) hS (fun q _ h => hFc q h) hFc (fun q _ h => hFc q h) (fun E ce q9 u t H1 locs1 ht hvm _ hB hz1 hk1 hS1 hce hcv hcl => ?_) (fun rv u t H1 locs1 ht hvm hw hB hz1 hk1 hS1 => ?_)
  · obtain ⟨hx, hP1, -, hD1⟩ := hB
    rw [ht] at hP1
    obtain ⟨hP2, hD2⟩ := va_join hP hD isC isR hiC hiR hnd.2.1 hnd.2.2 hk1 hFc hP1 hD1
    have hk := zx_ws isB hnB (hB9x u) (kx E u hx)
    rw [← hcz.1, ← hcz.2] at hk
    exact hk H1 locs1 la q9 ce hP2 hD2 hS1 hl hce hcv hcl
  · obtain ⟨hP1, -, hD1⟩ := hB
    obtain ⟨hv, hu⟩ := hw
    rw [hv]
    rw [ht] at hP1
    obtain ⟨hP2, hD2⟩ := va_join hP hD isC isR hiC hiR hnd.2.1 hnd.2.2 hk1 hFc hP1 hD1
    have hk := zz_ws isB hnB (hB9 u) (k u hu)
    rw [← hcz.1, ← hcz.2] at hk
    exact hk H1 locs1 la hP2 hD2 hS1 hl
theorem zz_callH {S : Type} {φ : S → Prop} {f : S → Int} {wo : S → va_W} {y : MethodName} {idx maxL na : Nat} {ret : Option FieldType} {hh : List (Nat × Nat × Nat × Nat)} {rm : Room} {bytes : ByteArray} {As rest : List Value} {wi wr : va_W} (hC : ZC p s m args meth c A D nL cc own) (hM : CH l y bytes maxL ret hh rm D As wi φ f wo) (hk : GoodIn lw_all (va_wsS own idx y (zWH y bytes maxL ret hh))) (hd : y.cls ≠ "java/lang/invoke/MethodHandle" ∧ y.cls ≠ "java/lang/invoke/VarHandle" ∧ (parseMethodDescriptor y.desc).map (fun d => d.parameters.length) = some na) (hR : rm.frames + 1 ≤ R.frames ∧ 8 + (maxL + 11) + rm.locals ≤ R.locals) (hn : As.length = na) (isC isR : List Nat) (hiC : isC.map (fun i => ws[i]?) = wi.map some) (hiR : isR.map (fun i => ws[i]?) = wr.map some) (hnd : va_nd isC = true ∧ va_nd isR = true ∧ (∀ i ∈ isR, i ∉ isC)) (hcat : (rest.map fun v => v.category).sum ≤ 8) (hst : st = As.reverse ++ rest) (hroom : cs + rm.cells ≤ R.cells ∧ sl + rm.slots ≤ R.slots) (hdg : decode cc pc = .ok (.invokestatic idx, 3)) (hcz : cs + rm.cells = cs1 ∧ sl + rm.slots = sl1) {wb : S → va_W} (isB : List Nat) (hnB : va_nd isB = true) (hB9 : ∀ u, isB.map (fun i => (wr ++ wo u)[i]?) = (wb u).map some) (k : ∀ u : S, φ u → Z p l e R s m args below meth c A D Q nL cs1 sl1 (wb u) ls (.int (zI (f u)) :: rest) (pc + 3)) : Z p l e R s m args below meth c A D Q nL cs sl ws ls st pc := by
  subst hst
  intro H locs la hP hD hS hl
  have hfm : ∀ (is : List Nat) (w : va_W), is.map (fun i => ws[i]?) = w.map some → is.filterMap (fun i => ws[i]?) = w := z_fm ws
  have hPc := hP.sub isC (hfm _ _ hiC)
  have hDc := hD.sub isC hnd.1 hiC
  have hFc := va_free hD hS hC.2.2.2.2.2.2.1 isC hiC
  refine va_calli (vx_runSW (As := As) (rest := rest) ⟨hC.1, hC.2.1, hC.2.2.1, hC.2.2.2.1, hC.2.2.2.2.1⟩ (hM H.size) (vx_cwSW na hC.2.2.2.2.1 hk rfl rfl rfl hd hR) ⟨zPre_blind, fun U hU hW => ⟨rfl, by rw [hU], by rw [hU]; exact hPc, va_K.moved hW.alike hC.2.2.2.2.2.1, hDc.weaken (fun _ _ _ _ => trivial), by rw [hU]; exact zGF.to hW hS.2.1 hFc hC.2.2.2.2.2.2.2.1⟩⟩ rfl hn hl.1 rfl (lv_room hcat) hdg hroom) hS (fun q _ h => hFc q h) hFc (fun rv u t H1 locs1 ht hvm hw hB hz1 hk1 hS1 => ?_)
  obtain ⟨hP1, -, hD1⟩ := hB
  obtain ⟨hv, hu⟩ := hw
  rw [hv]
  rw [ht] at hP1
  obtain ⟨hP2, hD2⟩ := va_join hP hD isC isR hiC hiR hnd.2.1 hnd.2.2 hk1 hFc hP1 hD1
  have hk := zz_ws isB hnB (hB9 u) (k u hu)
  rw [← hcz.1, ← hcz.2] at hk
  exact hk H1 locs1 la hP2 hD2 hS1 hl
theorem zz_dast (hC : ZC p s m args meth c A D nL cc own) {a n : Nat} {f : Nat → UInt64} {i : Int} {x : UInt64} {ws' : va_W} (j : Nat) (q0 : Nat) (he : ws[q0]? = some (a, dA D n f)) (hi : i = (j : Int)) (hj : j < n ∧ n ≤ 2147483647) (hw : ws.set q0 (a, dA D n (vf_upd f j x)) = ws') (hdg : decode cc pc = .ok (.dastore, 1)) (kk : Z p l e R s m args below meth c A D Q nL cs sl ws' ls st (pc + 1)) : Z p l e R s m args below meth c A D Q nL cs sl ws ls (.double x :: .int (zI i) :: .ref a :: st) pc := fun H locs la hP hD hS hl => by
  subst hi
  have hin : vp_in (zI (j : Int)) n := zI_in (by omega) (by omega) hj.2
  have hn : (zI (j : Int)).toNatClampNeg = j := by rw [zI_n ⟨by omega, by omega⟩ (by omega)]; omega
  refine va_dast (D := D.1) (cl := vwCl) (tys := zT D) hC.1 hC.2.1 hC.2.2.2.2.2.1 hP hD hS q0 4 he rfl hin hdg (fun H1 locs1 hP1 hD1 hS1 => ?_)
  rw [hn] at hP1 hD1
  exact kk H1 locs1 la (hw ▸ hP1) (hw ▸ hD1) hS1 hl
theorem zz_dald (hC : ZC p s m args meth c A D nL cc own) {a n : Nat} {f : Nat → UInt64} {i : Int} (j : Nat) (q0 : Nat) (he : ws[q0]? = some (a, dA D n f)) (hi : i = (j : Int)) (hj : j < n ∧ n ≤ 2147483647) (hdg : decode cc pc = .ok (.daload, 1)) (kk : Z p l e R s m args below meth c A D Q nL cs sl ws ls (.double (f j) :: st) (pc + 1)) : Z p l e R s m args below meth c A D Q nL cs sl ws ls (.int (zI i) :: .ref a :: st) pc := fun H locs la hP hD hS hl => by
  subst hi
  have hin : vp_in (zI (j : Int)) n := zI_in (by omega) (by omega) hj.2
  have hn : (zI (j : Int)).toNatClampNeg = j := by rw [zI_n ⟨by omega, by omega⟩ (by omega)]; omega
  exact va_dald (D := D.1) (cl := vwCl) (tys := zT D) hC.1 hC.2.1 hC.2.2.2.2.2.1 hP q0 4 he rfl hin hdg (by rw [hn]; exact kk H locs la hP hD hS hl)
def zDc (x y : UInt64) : Int := (Op.cmpValue (FP.dcmp x y) .l).toInt
theorem zz_dcmp (hC : ZC p s m args meth c A D nL cc own) {x y : UInt64} (hdg : decode cc pc = .ok (.dcmp .l, 1)) (kk : Z p l e R s m args below meth c A D Q nL cs sl ws ls (.int (zI (zDc x y)) :: st) (pc + 1)) : Z p l e R s m args below meth c A D Q nL cs sl ws ls (.double y :: .double x :: st) pc := fun H locs la hP hD hS hl => lv_dcmp hC.1 hC.2.1 hdg (by have h := kk H locs la hP hD hS hl; unfold zDc at h; rw [zI_it] at h; exact h)
theorem zDc_in {x y : UInt64} : -2147483648 ≤ zDc x y ∧ zDc x y ≤ 2147483647 := zR_it _
theorem zz_widen {cs2 sl2 : Nat} (h1 : cs ≤ cs2) (h2 : sl ≤ sl2) (k : Z p l e R s m args below meth c A D Q nL cs2 sl2 ws ls st pc) : Z p l e R s m args below meth c A D Q nL cs sl ws ls st pc := fun H locs la hP hD hS hl => W.widen h1 h2 (k H locs la hP hD hS hl)
/-- the script's ints as whole numbers -/
def zX (xs : Nat → Int32) (j : Nat) : Int := (xs j).toInt
theorem zX_in {xs : Nat → Int32} {j : Nat} : -2147483648 ≤ zX xs j ∧ zX xs j ≤ 2147483647 := zR_it _
theorem zz_sld (hC : ZC p s m args meth c A D nL cc own) {b L : Nat} {xs : Nat → Int32} (hX : va_X b L xs s s.heap ∧ b < s.heap.size ∧ ¬ A b ∧ L ≤ 3072) {i : Int} (j : Nat) (hi : i = (j : Int)) (hj : j < L) (hdg : decode cc pc = .ok (.iaload, 1)) (kk : Z p l e R s m args below meth c A D Q nL cs sl ws ls (.int (zI (zX xs j)) :: st) (pc + 1)) : Z p l e R s m args below meth c A D Q nL cs sl ws ls (.int (zI i) :: .ref b :: st) pc := fun H locs la hP hD hS hl => by
  have h4 := hX.2.2.2
  subst hi
  have hin : vp_in (zI (j : Int)) L := zI_in (by omega) (by omega) (by omega)
  have hn : (zI (j : Int)).toNatClampNeg = j := by rw [zI_n ⟨by omega, by omega⟩ (by omega)]; omega
  refine va_sld hC.1 hC.2.1 hX.1 hX.2.1 hX.2.2.1 hS hin hdg ?_
  rw [hn]
  have h := kk H locs la hP hD hS hl
  unfold zX at h
  rw [zI_it] at h
  exact h
theorem zz_slen (hC : ZC p s m args meth c A D nL cc own) {b L : Nat} {xs : Nat → Int32} (hX : va_X b L xs s s.heap ∧ b < s.heap.size ∧ ¬ A b ∧ L ≤ 3072) (hdg : decode cc pc = .ok (.arraylength, 1)) (kk : Z p l e R s m args below meth c A D Q nL cs sl ws ls (.int (zI (L : Int)) :: st) (pc + 1)) : Z p l e R s m args below meth c A D Q nL cs sl ws ls (.ref b :: st) pc := fun H locs la hP hD hS hl => va_slen hC.1 hC.2.1 hX.1 hX.2.1 hX.2.2.1 hS hdg (by have h := kk H locs la hP hD hS hl; have e : zI (L : Int) = Int32.ofNat L := Int32.ofInt_eq_ofNat; rw [e] at h; exact h)
theorem zI_and31 {a : Int} (ha : zR a) : zI a &&& zI 31 = zI (a % 32) := by
  apply Int32.toInt_inj.mp
  rw [zI_ti (show zR (a % 32) by constructor <;> omega)]
  have e : (zI a &&& zI 31).toInt = (zI a).toInt % 32 := by
    generalize zI a = x
    have h : (x &&& zI 31).toBitVec.toNat = x.toBitVec.toNat % 2 ^ 5 := by
      show (x.toBitVec &&& 31#32).toNat = _
      rw [BitVec.toNat_and]
      exact Nat.and_two_pow_sub_one_eq_mod _ 5
    show (x &&& zI 31).toBitVec.toInt = x.toBitVec.toInt % 32
    rw [BitVec.toInt_eq_toNat_cond, BitVec.toInt_eq_toNat_cond, h]
    have h2 := x.toBitVec.isLt
    split <;> split <;> omega
  rw [e, zI_ti ha]
theorem zz_iand31 (hC : ZC p s m args meth c A D nL cc own) {a : Int} (ha : zR a) (hdg : decode cc pc = .ok (.iand, 1)) (kk : Z p l e R s m args below meth c A D Q nL cs sl ws ls (.int (zI (a % 32)) :: st) (pc + 1)) : Z p l e R s m args below meth c A D Q nL cs sl ws ls (.int (zI 31) :: .int (zI a) :: st) pc := fun H locs la hP hD hS hl => lv_iand hC.1 hC.2.1 hdg (by rw [zI_and31 ha]; exact kk H locs la hP hD hS hl)
end ZW
theorem G_L_85 : GoodIn lw_all (va_wsS RL 85 yL_set (zWH yL_set cL_set 5 ((some .int)) [(0, 10, 13, 13)])) := z_goodH (lw_at 452 (by decide +kernel) rfl) (lw_at 453 (by decide +kernel) rfl) (lw_at 83 (by decide +kernel) rfl) (lw_at 454 (by decide +kernel) rfl)
theorem lk_IAE : Cond.classLink RL 13 "java/lang/IllegalArgumentException" ∈ lw_all := lw_at 455 (by decide +kernel) rfl
theorem G_L_94 : GoodIn lw_all (va_wsS RL 94 yL_value (zWH yL_value cL_value 4 ((some .int)) [(0, 9, 12, 13)])) := z_goodH (lw_at 535 (by decide +kernel) rfl) (lw_at 536 (by decide +kernel) rfl) (lw_at 83 (by decide +kernel) rfl) (lw_at 537 (by decide +kernel) rfl)
theorem G_L_98 : GoodIn lw_all (va_wsS RL 98 yL_block (zWH yL_block cL_block 5 ((some .int)) [(0, 10, 13, 13), (0, 10, 17, 22)])) := z_goodH (lw_at 543 (by decide +kernel) rfl) (lw_at 544 (by decide +kernel) rfl) (lw_at 83 (by decide +kernel) rfl) (lw_at 545 (by decide +kernel) rfl)
theorem lk_ISE : Cond.classLink RL 22 "java/lang/IllegalStateException" ∈ lw_all := lw_at 546 (by decide +kernel) rfl
theorem G_L_105 : GoodIn lw_all (va_wsS RL 105 yL_record (zWH yL_record cL_record 6 ((some .int)) [(0, 12, 15, 13), (0, 12, 19, 22)])) := z_goodH (lw_at 572 (by decide +kernel) rfl) (lw_at 573 (by decide +kernel) rfl) (lw_at 83 (by decide +kernel) rfl) (lw_at 574 (by decide +kernel) rfl)
theorem G_L_109 : GoodIn lw_all (va_wsS RL 109 yL_forget (zWH yL_forget cL_forget 4 ((some .int)) [(0, 9, 12, 13)])) := z_goodH (lw_at 581 (by decide +kernel) rfl) (lw_at 582 (by decide +kernel) rfl) (lw_at 83 (by decide +kernel) rfl) (lw_at 583 (by decide +kernel) rfl)
theorem G_L_112 : GoodIn lw_all (va_wsS RL 112 yL_append (zWH yL_append cL_append 4 ((some .int)) [(0, 9, 12, 13), (0, 9, 15, 22)])) := z_goodH (lw_at 593 (by decide +kernel) rfl) (lw_at 594 (by decide +kernel) rfl) (lw_at 83 (by decide +kernel) rfl) (lw_at 595 (by decide +kernel) rfl)
theorem G_L_127 : GoodIn lw_all (va_wsS RL 127 yL_pulse (zWH yL_pulse cL_pulse 5 ((some .int)) [(0, 10, 13, 37), (0, 10, 17, 13)])) := z_goodH (lw_at 606 (by decide +kernel) rfl) (lw_at 607 (by decide +kernel) rfl) (lw_at 83 (by decide +kernel) rfl) (lw_at 608 (by decide +kernel) rfl)
theorem lk_IOB : Cond.classLink RL 37 "java/lang/IndexOutOfBoundsException" ∈ lw_all := lw_at 609 (by decide +kernel) rfl
theorem G_L_130 : GoodIn lw_all (va_wsS RL 130 yL_statuses (zWH yL_statuses cL_statuses 4 ((some .int)) [(0, 9, 12, 13)])) := z_goodH (lw_at 630 (by decide +kernel) rfl) (lw_at 631 (by decide +kernel) rfl) (lw_at 83 (by decide +kernel) rfl) (lw_at 632 (by decide +kernel) rfl)
theorem G_L_133 : GoodIn lw_all (va_wsS RL 133 yL_count (zWH yL_count cL_count 5 ((some .int)) [(0, 10, 13, 13)])) := z_goodH (lw_at 643 (by decide +kernel) rfl) (lw_at 644 (by decide +kernel) rfl) (lw_at 83 (by decide +kernel) rfl) (lw_at 645 (by decide +kernel) rfl)
theorem G_L_136 : GoodIn lw_all (va_wsS RL 136 yL_fullest (zWH yL_fullest cL_fullest 5 ((some .int)) [(0, 10, 13, 13)])) := z_goodH (lw_at 661 (by decide +kernel) rfl) (lw_at 662 (by decide +kernel) rfl) (lw_at 83 (by decide +kernel) rfl) (lw_at 663 (by decide +kernel) rfl)
theorem G_L_139 : GoodIn lw_all (va_wsS RL 139 yL_feature (zWH yL_feature cL_feature 7 ((some .int)) [(0, 13, 16, 13)])) := z_goodH (lw_at 681 (by decide +kernel) rfl) (lw_at 682 (by decide +kernel) rfl) (lw_at 83 (by decide +kernel) rfl) (lw_at 683 (by decide +kernel) rfl)
theorem G_L_143 : GoodIn lw_all (va_wsS RL 143 yL_asymmetry (zWH yL_asymmetry cL_asymmetry 5 ((some .int)) [(0, 9, 12, 13)])) := z_goodH (lw_at 697 (by decide +kernel) rfl) (lw_at 698 (by decide +kernel) rfl) (lw_at 83 (by decide +kernel) rfl) (lw_at 699 (by decide +kernel) rfl)
theorem G_L_147 : GoodIn lw_all (va_wsS RL 147 yL_pattern (zWH yL_pattern cL_pattern 5 ((some .int)) [(0, 10, 13, 13)])) := z_goodH (lw_at 704 (by decide +kernel) rfl) (lw_at 705 (by decide +kernel) rfl) (lw_at 83 (by decide +kernel) rfl) (lw_at 706 (by decide +kernel) rfl)
theorem G_L_150 : GoodIn lw_all (va_wsS RL 150 yL_similarity (zWH yL_similarity cL_similarity 7 ((some .int)) [(0, 14, 17, 13)])) := z_goodH (lw_at 727 (by decide +kernel) rfl) (lw_at 728 (by decide +kernel) rfl) (lw_at 83 (by decide +kernel) rfl) (lw_at 729 (by decide +kernel) rfl)
theorem G_L_157 : GoodIn lw_all (va_wsS RL 157 yL_burst (zWH yL_burst cL_burst 5 ((some .int)) [(0, 9, 12, 37), (0, 9, 16, 13)])) := z_goodH (lw_at 737 (by decide +kernel) rfl) (lw_at 738 (by decide +kernel) rfl) (lw_at 83 (by decide +kernel) rfl) (lw_at 739 (by decide +kernel) rfl)
theorem G_L_160 : GoodIn lw_all (va_wsS RL 160 yL_interval (zWH yL_interval cL_interval 5 ((some .int)) [(0, 9, 12, 37), (0, 9, 16, 13)])) := z_goodH (lw_at 749 (by decide +kernel) rfl) (lw_at 750 (by decide +kernel) rfl) (lw_at 83 (by decide +kernel) rfl) (lw_at 751 (by decide +kernel) rfl)
theorem G_L_168 : GoodIn lw_all (va_wsS RL 168 yL_statusesWith (zWH yL_statusesWith cL_statusesWith 8 ((some .int)) [(0, 16, 19, 13)])) := z_goodH (lw_at 769 (by decide +kernel) rfl) (lw_at 770 (by decide +kernel) rfl) (lw_at 83 (by decide +kernel) rfl) (lw_at 771 (by decide +kernel) rfl)
theorem G_L_172 : GoodIn lw_all (va_wsS RL 172 yL_levelFor (zWH yL_levelFor cL_levelFor 4 ((some .int)) [(0, 9, 12, 13)])) := z_goodH (lw_at 781 (by decide +kernel) rfl) (lw_at 782 (by decide +kernel) rfl) (lw_at 83 (by decide +kernel) rfl) (lw_at 783 (by decide +kernel) rfl)
theorem G_L_175 : GoodIn lw_all (va_wsS RL 175 yL_undo (zWH yL_undo cL_undo 3 ((some .int)) [(0, 8, 11, 22)])) := z_goodH (lw_at 793 (by decide +kernel) rfl) (lw_at 794 (by decide +kernel) rfl) (lw_at 83 (by decide +kernel) rfl) (lw_at 795 (by decide +kernel) rfl)
