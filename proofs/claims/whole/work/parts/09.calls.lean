
/-! contracts: what a method answers and leaves, said of a world -/
def zPre (D : zG) (wi : va_W) (sz : Nat) (U : State) : Prop := U.heap.size = sz ∧ va_P D.1 vwCl wi U.heap ∧ va_K D.1 vwCl (zT D) U ∧ va_D (fun _ => True) wi ∧ zGF (va_A wi sz) U U.heap
def zPost {S : Type} (D : zG) (A : Nat → Prop) (wo : S → va_W) (u : S) (t : State) : Prop := va_P D.1 vwCl (wo u) t.heap ∧ va_K D.1 vwCl (zT D) t ∧ va_D A (wo u)
theorem zPre_blind {D : zG} {wi : va_W} {sz : Nat} {av : List Value} : FrameBlind (va_Pc av (zPre D wi sz)) := fun a U g mk q => by
  obtain ⟨q0, q1, qP, qK, qD, qG⟩ := q
  exact ⟨q0, q1, qP, va_K.moved (u := U) (U := U.calling g mk a) (Vm.Alike.refl U.vm) qK, qD, zGF.same (u := U) (U := U.calling g mk a) rfl qG⟩
theorem z_keepP {D : zG} {ws wi : va_W} {A : Nat → Prop} {H H1 : Heap} (hP : va_P D.1 vwCl ws H) (hD : va_D A ws) (isC : List Nat) (hC : isC.map (fun i => ws[i]?) = wi.map some) (hk : ∀ q : Nat, q < H.size → ¬ va_A wi H.size q → H1[q]? = H[q]?) (hP1 : va_P D.1 vwCl wi H1) : va_P D.1 vwCl ws H1 := by
  intro k q hkq
  by_cases hin : ∃ (j : Nat) (e : va_E), wi[j]? = some (q.1, e)
  · obtain ⟨j, e, hj⟩ := hin
    obtain ⟨i, -, hi⟩ := va_in_of isC hC hj
    have hik : i = k := hD.1 i k _ _ hi hkq rfl
    subst hik
    have he : (q.1, e) = q := Option.some.inj (hi.symm.trans hkq)
    rw [he] at hj
    exact hP1 j q hj
  · have hlt := (hP k q hkq).lt
    exact (hP k q hkq).kept (hk q.1 hlt (fun h => by
      rcases h with ⟨j, e, h⟩ | h
      · exact hin ⟨j, e, h⟩
      · exact absurd hlt (by omega)))

theorem z_fm (ws : va_W) : ∀ (is : List Nat) (w : va_W), is.map (fun i => ws[i]?) = w.map some → is.filterMap (fun i => ws[i]?) = w := by
  intro is
  induction is with
  | nil => intro w h; cases w <;> simp_all
  | cons a t ih =>
    intro w h
    cases w with
    | nil => simp at h
    | cons b w =>
      simp only [List.map_cons, List.cons.injEq] at h
      rw [List.filterMap_cons_some h.1, ih w h.2]

def CI {S : Type} (l : Launch) (y : MethodName) (c : ByteArray) (n : Nat) (ret : Option FieldType) (rm : Room) (D : zG) (av : List Value) (wi : va_W) (φ : S → Prop) (f : S → Int) (wo : S → va_W) : Prop := ∀ sz : Nat, Met l y (zW y c n ret) rm (va_Pc av (zPre D wi sz)) (va_Qi (fun r u => r = zI (f u) ∧ φ u) (zPost D (va_A wi sz) wo) (va_A wi sz)) rm.cells rm.slots (va_A wi sz)
theorem CI_of {S : Type} {l : Launch} {y : MethodName} {c : ByteArray} {n : Nat} {ret : Option FieldType} {rm : Room} {D : zG} {av : List Value} {wi : va_W} {φ : S → Prop} {f : S → Int} {wo : S → va_W} (hy : plainName y.cls = true) (hn : (lg_sl av).length ≤ n) (body : ∀ (p : Program) (e : Env) (s : State) (m : MethodId) (args : Array Value) (below : List Frame) (meth : Method) (cd : Code) (A : Nat → Prop) (Q : State → Prop), Q = MQ below (va_Qi (fun r u => r = zI (f u) ∧ φ u) (zPost D A wo) A) args s rm.cells rm.slots A → ZC p s m args meth cd A D n c y.cls → meth.sig.returnType = ret → meth.name = y.name → Z p l e rm s m args below meth cd A D Q n 0 0 wi (lv_args 0 av) [] 0) : CI l y c n ret rm D av wi φ f wo := by
  intro sz
  refine Met.ofW (cc := c) (maxL := n) (ret := ret) hy rfl ?_
  intro p e s m args below meth cd s₁ B hml hv
  obtain ⟨rfl, hsz, hP, hK, hD0, hG⟩ := hv
  subst hsz
  have hts := atoms_spec (ws := zW y c n ret) B.pre
  rw [lg_entry_eq]
  exact body p e s m _ below meth cd (va_A wi s.heap.size) _ rfl ⟨B.exec, B.bytes, hml, findClass_of_methodNamed B.named, fun w hw => hts w (List.mem_cons_of_mem _ hw), hK, fun q h => Or.inr h, hG, B.notSynchronized⟩ B.returns (name_of_methodNamed B.named B.method).1 s.heap [] _ hP (hD0.self (sz := s.heap.size)) va_S.rf (lv_entry av hn)
def CL {S : Type} (l : Launch) (y : MethodName) (c : ByteArray) (n : Nat) (ret : Option FieldType) (rm : Room) (D : zG) (av : List Value) (wi : va_W) (φ : S → Prop) (f : S → Int) (wo : S → va_W) : Prop := ∀ sz : Nat, Met l y (zW y c n ret) rm (va_Pc av (zPre D wi sz)) (va_Ql (fun r u => r = zL (f u) ∧ φ u) (zPost D (va_A wi sz) wo) (va_A wi sz)) rm.cells rm.slots (va_A wi sz)
theorem CL_of {S : Type} {l : Launch} {y : MethodName} {c : ByteArray} {n : Nat} {ret : Option FieldType} {rm : Room} {D : zG} {av : List Value} {wi : va_W} {φ : S → Prop} {f : S → Int} {wo : S → va_W} (hy : plainName y.cls = true) (hn : (lg_sl av).length ≤ n) (body : ∀ (p : Program) (e : Env) (s : State) (m : MethodId) (args : Array Value) (below : List Frame) (meth : Method) (cd : Code) (A : Nat → Prop) (Q : State → Prop), Q = MQ below (va_Ql (fun r u => r = zL (f u) ∧ φ u) (zPost D A wo) A) args s rm.cells rm.slots A → ZC p s m args meth cd A D n c y.cls → meth.sig.returnType = ret → meth.name = y.name → Z p l e rm s m args below meth cd A D Q n 0 0 wi (lv_args 0 av) [] 0) : CL l y c n ret rm D av wi φ f wo := by
  intro sz
  refine Met.ofW (cc := c) (maxL := n) (ret := ret) hy rfl ?_
  intro p e s m args below meth cd s₁ B hml hv
  obtain ⟨rfl, hsz, hP, hK, hD0, hG⟩ := hv
  subst hsz
  have hts := atoms_spec (ws := zW y c n ret) B.pre
  rw [lg_entry_eq]
  exact body p e s m _ below meth cd (va_A wi s.heap.size) _ rfl ⟨B.exec, B.bytes, hml, findClass_of_methodNamed B.named, fun w hw => hts w (List.mem_cons_of_mem _ hw), hK, fun q h => Or.inr h, hG, B.notSynchronized⟩ B.returns (name_of_methodNamed B.named B.method).1 s.heap [] _ hP (hD0.self (sz := s.heap.size)) va_S.rf (lv_entry av hn)
def CD {S : Type} (l : Launch) (y : MethodName) (c : ByteArray) (n : Nat) (ret : Option FieldType) (rm : Room) (D : zG) (av : List Value) (wi : va_W) (φ : S → Prop) (f : S → UInt64) (wo : S → va_W) : Prop := ∀ sz : Nat, Met l y (zW y c n ret) rm (va_Pc av (zPre D wi sz)) (va_Qd (fun r u => r = f u ∧ φ u) (zPost D (va_A wi sz) wo) (va_A wi sz)) rm.cells rm.slots (va_A wi sz)
theorem CD_of {S : Type} {l : Launch} {y : MethodName} {c : ByteArray} {n : Nat} {ret : Option FieldType} {rm : Room} {D : zG} {av : List Value} {wi : va_W} {φ : S → Prop} {f : S → UInt64} {wo : S → va_W} (hy : plainName y.cls = true) (hn : (lg_sl av).length ≤ n) (body : ∀ (p : Program) (e : Env) (s : State) (m : MethodId) (args : Array Value) (below : List Frame) (meth : Method) (cd : Code) (A : Nat → Prop) (Q : State → Prop), Q = MQ below (va_Qd (fun r u => r = f u ∧ φ u) (zPost D A wo) A) args s rm.cells rm.slots A → ZC p s m args meth cd A D n c y.cls → meth.sig.returnType = ret → meth.name = y.name → Z p l e rm s m args below meth cd A D Q n 0 0 wi (lv_args 0 av) [] 0) : CD l y c n ret rm D av wi φ f wo := by
  intro sz
  refine Met.ofW (cc := c) (maxL := n) (ret := ret) hy rfl ?_
  intro p e s m args below meth cd s₁ B hml hv
  obtain ⟨rfl, hsz, hP, hK, hD0, hG⟩ := hv
  subst hsz
  have hts := atoms_spec (ws := zW y c n ret) B.pre
  rw [lg_entry_eq]
  exact body p e s m _ below meth cd (va_A wi s.heap.size) _ rfl ⟨B.exec, B.bytes, hml, findClass_of_methodNamed B.named, fun w hw => hts w (List.mem_cons_of_mem _ hw), hK, fun q h => Or.inr h, hG, B.notSynchronized⟩ B.returns (name_of_methodNamed B.named B.method).1 s.heap [] _ hP (hD0.self (sz := s.heap.size)) va_S.rf (lv_entry av hn)
def CV {S : Type} (l : Launch) (y : MethodName) (c : ByteArray) (n : Nat) (ret : Option FieldType) (rm : Room) (D : zG) (av : List Value) (wi : va_W) (φ : S → Prop) (wo : S → va_W) : Prop := ∀ sz : Nat, Met l y (zW y c n ret) rm (va_Pc av (zPre D wi sz)) (va_Qv (fun u => φ u) (zPost D (va_A wi sz) wo) (va_A wi sz)) rm.cells rm.slots (va_A wi sz)
theorem CV_of {S : Type} {l : Launch} {y : MethodName} {c : ByteArray} {n : Nat} {ret : Option FieldType} {rm : Room} {D : zG} {av : List Value} {wi : va_W} {φ : S → Prop} {wo : S → va_W} (hy : plainName y.cls = true) (hn : (lg_sl av).length ≤ n) (body : ∀ (p : Program) (e : Env) (s : State) (m : MethodId) (args : Array Value) (below : List Frame) (meth : Method) (cd : Code) (A : Nat → Prop) (Q : State → Prop), Q = MQ below (va_Qv (fun u => φ u) (zPost D A wo) A) args s rm.cells rm.slots A → ZC p s m args meth cd A D n c y.cls → meth.sig.returnType = ret → meth.name = y.name → Z p l e rm s m args below meth cd A D Q n 0 0 wi (lv_args 0 av) [] 0) : CV l y c n ret rm D av wi φ wo := by
  intro sz
  refine Met.ofW (cc := c) (maxL := n) (ret := ret) hy rfl ?_
  intro p e s m args below meth cd s₁ B hml hv
  obtain ⟨rfl, hsz, hP, hK, hD0, hG⟩ := hv
  subst hsz
  have hts := atoms_spec (ws := zW y c n ret) B.pre
  rw [lg_entry_eq]
  exact body p e s m _ below meth cd (va_A wi s.heap.size) _ rfl ⟨B.exec, B.bytes, hml, findClass_of_methodNamed B.named, fun w hw => hts w (List.mem_cons_of_mem _ hw), hK, fun q h => Or.inr h, hG, B.notSynchronized⟩ B.returns (name_of_methodNamed B.named B.method).1 s.heap [] _ hP (hD0.self (sz := s.heap.size)) va_S.rf (lv_entry av hn)
section ZK
variable {p : Program} {l : Launch} {e : Env} {R : Room} {s : State} {m : MethodId} {args : Array Value} {below : List Frame} {meth : Method} {c : Code} {A : Nat → Prop} {D : zG} {Q : State → Prop} {nL cs sl : Nat}
variable {cc : ByteArray} {own : String} {ws : va_W} {ls : List (Nat × Value)} {st : List Value} {pc : Nat}
theorem zz_iret {S : Type} {φ : S → Prop} {f : S → Int} {wo : S → va_W} {mc ms : Nat} (hC : ZC p s m args meth c A D nL cc own) (hQ : Q = MQ below (va_Qi (fun r u => r = zI (f u) ∧ φ u) (zPost D A wo) A) args s mc ms A) (hr : meth.sig.returnType = some .int) (u : S) (hu : φ u) {v : Int} (hv : v = f u) (is : List Nat) (hn : va_nd is = true) (hw : is.map (fun i => ws[i]?) = (wo u).map some) (hc : cs ≤ mc ∧ sl ≤ ms) (hdg : decode cc pc = .ok (.ireturn, 1)) : Z p l e R s m args below meth c A D Q nL cs sl ws ls [.int (zI (v))] pc := by
  subst hQ
  refine zz_ws is hn hw ?_
  intro H locs la hP9 hD9 hS hl
  refine W.widen hc.1 hc.2 ?_
  exact W.iret hC.1 hC.2.1 hr (fun t ht hW => ⟨⟨_, u, rfl, ⟨by rw [hv], hu⟩, by rw [ht]; exact hP9, va_K.moved hW.alike hC.2.2.2.2.2.1, hD9⟩, hS.F ht⟩) hS.2.2 hdg hC.2.2.2.2.2.2.2.2
theorem zz_zret {S : Type} {φ : S → Prop} {f : S → Int} {wo : S → va_W} {mc ms : Nat} (hC : ZC p s m args meth c A D nL cc own) (hQ : Q = MQ below (va_Qi (fun r u => r = zI (f u) ∧ φ u) (zPost D A wo) A) args s mc ms A) (hr : meth.sig.returnType = some .boolean) (u : S) (hu : φ u) {v : Int} (hv : v = f u) (hz : v = 0 ∨ v = 1) (is : List Nat) (hn : va_nd is = true) (hw : is.map (fun i => ws[i]?) = (wo u).map some) (hc : cs ≤ mc ∧ sl ≤ ms) (hdg : decode cc pc = .ok (.ireturn, 1)) : Z p l e R s m args below meth c A D Q nL cs sl ws ls [.int (zI (v))] pc := by
  subst hQ
  refine zz_ws is hn hw ?_
  intro H locs la hP9 hD9 hS hl
  refine W.widen hc.1 hc.2 ?_
  exact W.zret hC.1 hC.2.1 hr (by rcases hz with rfl | rfl <;> rfl) (fun t ht hW => ⟨⟨_, u, rfl, ⟨by rw [hv], hu⟩, by rw [ht]; exact hP9, va_K.moved hW.alike hC.2.2.2.2.2.1, hD9⟩, hS.F ht⟩) hS.2.2 hdg hC.2.2.2.2.2.2.2.2
theorem zz_lret {S : Type} {φ : S → Prop} {f : S → Int} {wo : S → va_W} {mc ms : Nat} (hC : ZC p s m args meth c A D nL cc own) (hQ : Q = MQ below (va_Ql (fun r u => r = zL (f u) ∧ φ u) (zPost D A wo) A) args s mc ms A) (hr : meth.sig.returnType = some .long) (u : S) (hu : φ u) {v : Int} (hv : v = f u) (is : List Nat) (hn : va_nd is = true) (hw : is.map (fun i => ws[i]?) = (wo u).map some) (hc : cs ≤ mc ∧ sl ≤ ms) (hdg : decode cc pc = .ok (.lreturn, 1)) : Z p l e R s m args below meth c A D Q nL cs sl ws ls [.long (zL (v))] pc := by
  subst hQ
  refine zz_ws is hn hw ?_
  intro H locs la hP9 hD9 hS hl
  refine W.widen hc.1 hc.2 ?_
  exact W.lret hC.1 hC.2.1 hr (fun t ht hW => ⟨⟨_, u, rfl, ⟨by rw [hv], hu⟩, by rw [ht]; exact hP9, va_K.moved hW.alike hC.2.2.2.2.2.1, hD9⟩, hS.F ht⟩) hS.2.2 hdg hC.2.2.2.2.2.2.2.2
theorem zz_dret {S : Type} {φ : S → Prop} {f : S → UInt64} {wo : S → va_W} {mc ms : Nat} (hC : ZC p s m args meth c A D nL cc own) (hQ : Q = MQ below (va_Qd (fun r u => r = f u ∧ φ u) (zPost D A wo) A) args s mc ms A) (hr : meth.sig.returnType = some .double) (u : S) (hu : φ u) {v : UInt64} (hv : v = f u) (is : List Nat) (hn : va_nd is = true) (hw : is.map (fun i => ws[i]?) = (wo u).map some) (hc : cs ≤ mc ∧ sl ≤ ms) (hdg : decode cc pc = .ok (.dreturn, 1)) : Z p l e R s m args below meth c A D Q nL cs sl ws ls [.double (v)] pc := by
  subst hQ
  refine zz_ws is hn hw ?_
  intro H locs la hP9 hD9 hS hl
  refine W.widen hc.1 hc.2 ?_
  exact W.dret hC.1 hC.2.1 hr (fun t ht hW => ⟨⟨_, u, rfl, ⟨by rw [hv], hu⟩, by rw [ht]; exact hP9, va_K.moved hW.alike hC.2.2.2.2.2.1, hD9⟩, hS.F ht⟩) hS.2.2 hdg hC.2.2.2.2.2.2.2.2
theorem zz_ret {S : Type} {φ : S → Prop} {wo : S → va_W} {mc ms : Nat} (hC : ZC p s m args meth c A D nL cc own) (hQ : Q = MQ below (va_Qv (fun u => φ u) (zPost D A wo) A) args s mc ms A) (hr : meth.sig.returnType = none) (u : S) (hu : φ u) (is : List Nat) (hn : va_nd is = true) (hw : is.map (fun i => ws[i]?) = (wo u).map some) (hc : cs ≤ mc ∧ sl ≤ ms) (hdg : decode cc pc = .ok (.return_, 1)) : Z p l e R s m args below meth c A D Q nL cs sl ws ls [] pc := by
  subst hQ
  refine zz_ws is hn hw ?_
  intro H locs la hP9 hD9 hS hl
  refine W.widen hc.1 hc.2 ?_
  exact W.vret hC.1 hC.2.1 hr (fun t ht hW => ⟨⟨u, rfl, hu, by rw [ht]; exact hP9, va_K.moved hW.alike hC.2.2.2.2.2.1, hD9⟩, hS.F ht⟩) hS.2.2 hdg hC.2.2.2.2.2.2.2.2
theorem zz_callVi {S : Type} {φ : S → Prop} {f : S → Int} {wo : S → va_W} {cs1 sl1 : Nat} {y : MethodName} {idx maxL na : Nat} {ret : Option FieldType} {rm : Room} {bytes : ByteArray} {C : String} {b : Nat} {As rest : List Value} {wi wr : va_W} (hC : ZC p s m args meth c A D nL cc own) (hM : CI l y bytes maxL ret rm D (.ref b :: As) wi φ f wo) (hk : GoodIn lw_all (wsV own idx C y (zW y bytes maxL ret))) (hd : y.cls = C ∧ y.cls ≠ "java/lang/invoke/MethodHandle" ∧ y.cls ≠ "java/lang/invoke/VarHandle" ∧ (parseMethodDescriptor y.desc).map (fun d => d.parameters.length) = some na) (hR : rm.frames + 1 ≤ R.frames ∧ 8 + (maxL + 11) + rm.locals ≤ R.locals) (hn : As.length = na) (isC isR : List Nat) (hiC : isC.map (fun i => ws[i]?) = wi.map some) (hiR : isR.map (fun i => ws[i]?) = wr.map some) (hnd : va_nd isC = true ∧ va_nd isR = true ∧ (∀ i ∈ isR, i ∉ isC)) (q0 ci : Nat) {fs : List Value} {rc : vw_C} (hrc : wi[q0]? = some (b, .inr (ci, fs)) ∧ vwCl[ci]? = some rc ∧ rc.1 = C) (hcat : (rest.map fun v => v.category).sum ≤ 8) (hst : st = As.reverse ++ .ref b :: rest) (hroom : cs + rm.cells ≤ R.cells ∧ sl + rm.slots ≤ R.slots) (hdg : decode cc pc = .ok (.invokevirtual idx, 3)) (hcz : cs + rm.cells = cs1 ∧ sl + rm.slots = sl1) {wb : S → va_W} (isB : List Nat) (hnB : va_nd isB = true) (hB9 : ∀ u, isB.map (fun i => (wr ++ wo u)[i]?) = (wb u).map some) (k : ∀ u : S, φ u → Z p l e R s m args below meth c A D Q nL cs1 sl1 (wb u) ls (.int (zI (f u)) :: rest) (pc + 3)) : Z p l e R s m args below meth c A D Q nL cs sl ws ls st pc := by
  subst hst
  intro H locs la hP hD hS hl
  have hfm : ∀ (is : List Nat) (w : va_W), is.map (fun i => ws[i]?) = w.map some → is.filterMap (fun i => ws[i]?) = w := z_fm ws
  have hPc := hP.sub isC (hfm _ _ hiC)
  have hDc := hD.sub isC hnd.1 hiC
  have hFc := va_free hD hS hC.2.2.2.2.2.2.1 isC hiC
  refine va_calli (va_runV (As := As) (rest := rest) (C := C) ⟨hC.1, hC.2.1, hC.2.2.1, hC.2.2.2.1, hC.2.2.2.2.1⟩ (hM H.size) (cwV na hC.2.2.2.2.1 hk rfl rfl rfl hd hR) ⟨zPre_blind, by rw [← hrc.2.2]; exact va_recv hC.2.2.2.2.2.1 hPc hrc.2.1 hrc.1, fun U hU hW => ⟨rfl, by rw [hU], by rw [hU]; exact hPc, va_K.moved hW.alike hC.2.2.2.2.2.1, hDc.weaken (fun _ _ _ _ => trivial), by rw [hU]; exact zGF.to hW hS.2.1 hFc hC.2.2.2.2.2.2.2.1⟩⟩ rfl hn hl.1 rfl (lv_room hcat) hdg hroom) hS (fun q _ h => hFc q h) hFc (fun rv u t H1 locs1 ht hvm hw hB hz1 hk1 hS1 => ?_)
  obtain ⟨hP1, -, hD1⟩ := hB
  obtain ⟨hv, hu⟩ := hw
  rw [hv]
  rw [ht] at hP1
  obtain ⟨hP2, hD2⟩ := va_join hP hD isC isR hiC hiR hnd.2.1 hnd.2.2 hk1 hFc hP1 hD1
  have hk := zz_ws isB hnB (hB9 u) (k u hu)
  rw [← hcz.1, ← hcz.2] at hk
  exact hk H1 locs1 la hP2 hD2 hS1 hl
theorem zz_pureVi {v : Int} {y : MethodName} {idx maxL na : Nat} {ret : Option FieldType} {rm : Room} {bytes : ByteArray} {C : String} {b : Nat} {As rest : List Value} {wi : va_W} (hC : ZC p s m args meth c A D nL cc own) (hM : CI (S := Unit) l y bytes maxL ret rm D (.ref b :: As) wi (fun _ => True) (fun _ => v) (fun _ => wi)) (hk : GoodIn lw_all (wsV own idx C y (zW y bytes maxL ret))) (hd : y.cls = C ∧ y.cls ≠ "java/lang/invoke/MethodHandle" ∧ y.cls ≠ "java/lang/invoke/VarHandle" ∧ (parseMethodDescriptor y.desc).map (fun d => d.parameters.length) = some na) (hR : rm.frames + 1 ≤ R.frames ∧ 8 + (maxL + 11) + rm.locals ≤ R.locals) (hn : As.length = na) (isC : List Nat) (hiC : isC.map (fun i => ws[i]?) = wi.map some) (hnd : va_nd isC = true) (q0 ci : Nat) {fs : List Value} {rc : vw_C} (hrc : wi[q0]? = some (b, .inr (ci, fs)) ∧ vwCl[ci]? = some rc ∧ rc.1 = C) (hcat : (rest.map fun v => v.category).sum ≤ 8) (hst : st = As.reverse ++ .ref b :: rest) (hroom : cs + rm.cells ≤ R.cells ∧ sl + rm.slots ≤ R.slots) (hdg : decode cc pc = .ok (.invokevirtual idx, 3)) (hz : rm.cells = 0 ∧ rm.slots = 0) (k : Z p l e R s m args below meth c A D Q nL cs sl ws ls (.int (zI (v)) :: rest) (pc + 3)) : Z p l e R s m args below meth c A D Q nL cs sl ws ls st pc := by
  subst hst
  intro H locs la hP hD hS hl
  have hfm : ∀ (is : List Nat) (w : va_W), is.map (fun i => ws[i]?) = w.map some → is.filterMap (fun i => ws[i]?) = w := z_fm ws
  have hPc := hP.sub isC (hfm _ _ hiC)
  have hDc := hD.sub isC hnd hiC
  have hFc := va_free hD hS hC.2.2.2.2.2.2.1 isC hiC
  refine va_calli (va_runV (As := As) (rest := rest) (C := C) ⟨hC.1, hC.2.1, hC.2.2.1, hC.2.2.2.1, hC.2.2.2.2.1⟩ (hM H.size) (cwV na hC.2.2.2.2.1 hk rfl rfl rfl hd hR) ⟨zPre_blind, by rw [← hrc.2.2]; exact va_recv hC.2.2.2.2.2.1 hPc hrc.2.1 hrc.1, fun U hU hW => ⟨rfl, by rw [hU], by rw [hU]; exact hPc, va_K.moved hW.alike hC.2.2.2.2.2.1, hDc.weaken (fun _ _ _ _ => trivial), by rw [hU]; exact zGF.to hW hS.2.1 hFc hC.2.2.2.2.2.2.2.1⟩⟩ rfl hn hl.1 rfl (lv_room hcat) hdg hroom) hS (fun q _ h => hFc q h) hFc (fun rv u t H1 locs1 ht hvm hw hB hz1 hk1 hS1 => ?_)
  obtain ⟨hP1, -, hD1⟩ := hB
  obtain ⟨hv, hu⟩ := hw
  rw [hv]
  rw [ht] at hP1
  have hP2 := z_keepP hP hD isC hiC hk1 hP1
  have hk : Z p l e R s m args below meth c A D Q nL (cs + rm.cells) (sl + rm.slots) ws ls (.int (zI (v)) :: rest) (pc + 3) := by rw [hz.1, hz.2]; exact k
  exact hk H1 locs1 la hP2 hD hS1 hl
theorem zz_callVl {S : Type} {φ : S → Prop} {f : S → Int} {wo : S → va_W} {cs1 sl1 : Nat} {y : MethodName} {idx maxL na : Nat} {ret : Option FieldType} {rm : Room} {bytes : ByteArray} {C : String} {b : Nat} {As rest : List Value} {wi wr : va_W} (hC : ZC p s m args meth c A D nL cc own) (hM : CL l y bytes maxL ret rm D (.ref b :: As) wi φ f wo) (hk : GoodIn lw_all (wsV own idx C y (zW y bytes maxL ret))) (hd : y.cls = C ∧ y.cls ≠ "java/lang/invoke/MethodHandle" ∧ y.cls ≠ "java/lang/invoke/VarHandle" ∧ (parseMethodDescriptor y.desc).map (fun d => d.parameters.length) = some na) (hR : rm.frames + 1 ≤ R.frames ∧ 8 + (maxL + 11) + rm.locals ≤ R.locals) (hn : As.length = na) (isC isR : List Nat) (hiC : isC.map (fun i => ws[i]?) = wi.map some) (hiR : isR.map (fun i => ws[i]?) = wr.map some) (hnd : va_nd isC = true ∧ va_nd isR = true ∧ (∀ i ∈ isR, i ∉ isC)) (q0 ci : Nat) {fs : List Value} {rc : vw_C} (hrc : wi[q0]? = some (b, .inr (ci, fs)) ∧ vwCl[ci]? = some rc ∧ rc.1 = C) (hcat : (rest.map fun v => v.category).sum ≤ 8) (hst : st = As.reverse ++ .ref b :: rest) (hroom : cs + rm.cells ≤ R.cells ∧ sl + rm.slots ≤ R.slots) (hdg : decode cc pc = .ok (.invokevirtual idx, 3)) (hcz : cs + rm.cells = cs1 ∧ sl + rm.slots = sl1) {wb : S → va_W} (isB : List Nat) (hnB : va_nd isB = true) (hB9 : ∀ u, isB.map (fun i => (wr ++ wo u)[i]?) = (wb u).map some) (k : ∀ u : S, φ u → Z p l e R s m args below meth c A D Q nL cs1 sl1 (wb u) ls (.long (zL (f u)) :: rest) (pc + 3)) : Z p l e R s m args below meth c A D Q nL cs sl ws ls st pc := by
  subst hst
  intro H locs la hP hD hS hl
  have hfm : ∀ (is : List Nat) (w : va_W), is.map (fun i => ws[i]?) = w.map some → is.filterMap (fun i => ws[i]?) = w := z_fm ws
  have hPc := hP.sub isC (hfm _ _ hiC)
  have hDc := hD.sub isC hnd.1 hiC
  have hFc := va_free hD hS hC.2.2.2.2.2.2.1 isC hiC
  refine va_calll (va_runV (As := As) (rest := rest) (C := C) ⟨hC.1, hC.2.1, hC.2.2.1, hC.2.2.2.1, hC.2.2.2.2.1⟩ (hM H.size) (cwV na hC.2.2.2.2.1 hk rfl rfl rfl hd hR) ⟨zPre_blind, by rw [← hrc.2.2]; exact va_recv hC.2.2.2.2.2.1 hPc hrc.2.1 hrc.1, fun U hU hW => ⟨rfl, by rw [hU], by rw [hU]; exact hPc, va_K.moved hW.alike hC.2.2.2.2.2.1, hDc.weaken (fun _ _ _ _ => trivial), by rw [hU]; exact zGF.to hW hS.2.1 hFc hC.2.2.2.2.2.2.2.1⟩⟩ rfl hn hl.1 rfl (lv_room hcat) hdg hroom) hS (fun q _ h => hFc q h) hFc (fun rv u t H1 locs1 ht hvm hw hB hz1 hk1 hS1 => ?_)
  obtain ⟨hP1, -, hD1⟩ := hB
  obtain ⟨hv, hu⟩ := hw
  rw [hv]
  rw [ht] at hP1
  obtain ⟨hP2, hD2⟩ := va_join hP hD isC isR hiC hiR hnd.2.1 hnd.2.2 hk1 hFc hP1 hD1
  have hk := zz_ws isB hnB (hB9 u) (k u hu)
  rw [← hcz.1, ← hcz.2] at hk
  exact hk H1 locs1 la hP2 hD2 hS1 hl
theorem zz_pureVl {v : Int} {y : MethodName} {idx maxL na : Nat} {ret : Option FieldType} {rm : Room} {bytes : ByteArray} {C : String} {b : Nat} {As rest : List Value} {wi : va_W} (hC : ZC p s m args meth c A D nL cc own) (hM : CL (S := Unit) l y bytes maxL ret rm D (.ref b :: As) wi (fun _ => True) (fun _ => v) (fun _ => wi)) (hk : GoodIn lw_all (wsV own idx C y (zW y bytes maxL ret))) (hd : y.cls = C ∧ y.cls ≠ "java/lang/invoke/MethodHandle" ∧ y.cls ≠ "java/lang/invoke/VarHandle" ∧ (parseMethodDescriptor y.desc).map (fun d => d.parameters.length) = some na) (hR : rm.frames + 1 ≤ R.frames ∧ 8 + (maxL + 11) + rm.locals ≤ R.locals) (hn : As.length = na) (isC : List Nat) (hiC : isC.map (fun i => ws[i]?) = wi.map some) (hnd : va_nd isC = true) (q0 ci : Nat) {fs : List Value} {rc : vw_C} (hrc : wi[q0]? = some (b, .inr (ci, fs)) ∧ vwCl[ci]? = some rc ∧ rc.1 = C) (hcat : (rest.map fun v => v.category).sum ≤ 8) (hst : st = As.reverse ++ .ref b :: rest) (hroom : cs + rm.cells ≤ R.cells ∧ sl + rm.slots ≤ R.slots) (hdg : decode cc pc = .ok (.invokevirtual idx, 3)) (hz : rm.cells = 0 ∧ rm.slots = 0) (k : Z p l e R s m args below meth c A D Q nL cs sl ws ls (.long (zL (v)) :: rest) (pc + 3)) : Z p l e R s m args below meth c A D Q nL cs sl ws ls st pc := by
  subst hst
  intro H locs la hP hD hS hl
  have hfm : ∀ (is : List Nat) (w : va_W), is.map (fun i => ws[i]?) = w.map some → is.filterMap (fun i => ws[i]?) = w := z_fm ws
  have hPc := hP.sub isC (hfm _ _ hiC)
  have hDc := hD.sub isC hnd hiC
  have hFc := va_free hD hS hC.2.2.2.2.2.2.1 isC hiC
  refine va_calll (va_runV (As := As) (rest := rest) (C := C) ⟨hC.1, hC.2.1, hC.2.2.1, hC.2.2.2.1, hC.2.2.2.2.1⟩ (hM H.size) (cwV na hC.2.2.2.2.1 hk rfl rfl rfl hd hR) ⟨zPre_blind, by rw [← hrc.2.2]; exact va_recv hC.2.2.2.2.2.1 hPc hrc.2.1 hrc.1, fun U hU hW => ⟨rfl, by rw [hU], by rw [hU]; exact hPc, va_K.moved hW.alike hC.2.2.2.2.2.1, hDc.weaken (fun _ _ _ _ => trivial), by rw [hU]; exact zGF.to hW hS.2.1 hFc hC.2.2.2.2.2.2.2.1⟩⟩ rfl hn hl.1 rfl (lv_room hcat) hdg hroom) hS (fun q _ h => hFc q h) hFc (fun rv u t H1 locs1 ht hvm hw hB hz1 hk1 hS1 => ?_)
  obtain ⟨hP1, -, hD1⟩ := hB
  obtain ⟨hv, hu⟩ := hw
  rw [hv]
  rw [ht] at hP1
  have hP2 := z_keepP hP hD isC hiC hk1 hP1
  have hk : Z p l e R s m args below meth c A D Q nL (cs + rm.cells) (sl + rm.slots) ws ls (.long (zL (v)) :: rest) (pc + 3) := by rw [hz.1, hz.2]; exact k
  exact hk H1 locs1 la hP2 hD hS1 hl
theorem zz_callVd {S : Type} {φ : S → Prop} {f : S → UInt64} {wo : S → va_W} {cs1 sl1 : Nat} {y : MethodName} {idx maxL na : Nat} {ret : Option FieldType} {rm : Room} {bytes : ByteArray} {C : String} {b : Nat} {As rest : List Value} {wi wr : va_W} (hC : ZC p s m args meth c A D nL cc own) (hM : CD l y bytes maxL ret rm D (.ref b :: As) wi φ f wo) (hk : GoodIn lw_all (wsV own idx C y (zW y bytes maxL ret))) (hd : y.cls = C ∧ y.cls ≠ "java/lang/invoke/MethodHandle" ∧ y.cls ≠ "java/lang/invoke/VarHandle" ∧ (parseMethodDescriptor y.desc).map (fun d => d.parameters.length) = some na) (hR : rm.frames + 1 ≤ R.frames ∧ 8 + (maxL + 11) + rm.locals ≤ R.locals) (hn : As.length = na) (isC isR : List Nat) (hiC : isC.map (fun i => ws[i]?) = wi.map some) (hiR : isR.map (fun i => ws[i]?) = wr.map some) (hnd : va_nd isC = true ∧ va_nd isR = true ∧ (∀ i ∈ isR, i ∉ isC)) (q0 ci : Nat) {fs : List Value} {rc : vw_C} (hrc : wi[q0]? = some (b, .inr (ci, fs)) ∧ vwCl[ci]? = some rc ∧ rc.1 = C) (hcat : (rest.map fun v => v.category).sum ≤ 8) (hst : st = As.reverse ++ .ref b :: rest) (hroom : cs + rm.cells ≤ R.cells ∧ sl + rm.slots ≤ R.slots) (hdg : decode cc pc = .ok (.invokevirtual idx, 3)) (hcz : cs + rm.cells = cs1 ∧ sl + rm.slots = sl1) {wb : S → va_W} (isB : List Nat) (hnB : va_nd isB = true) (hB9 : ∀ u, isB.map (fun i => (wr ++ wo u)[i]?) = (wb u).map some) (k : ∀ u : S, φ u → Z p l e R s m args below meth c A D Q nL cs1 sl1 (wb u) ls (.double (f u) :: rest) (pc + 3)) : Z p l e R s m args below meth c A D Q nL cs sl ws ls st pc := by
  subst hst
  intro H locs la hP hD hS hl
  have hfm : ∀ (is : List Nat) (w : va_W), is.map (fun i => ws[i]?) = w.map some → is.filterMap (fun i => ws[i]?) = w := z_fm ws
  have hPc := hP.sub isC (hfm _ _ hiC)
  have hDc := hD.sub isC hnd.1 hiC
  have hFc := va_free hD hS hC.2.2.2.2.2.2.1 isC hiC
  refine va_calld (va_runV (As := As) (rest := rest) (C := C) ⟨hC.1, hC.2.1, hC.2.2.1, hC.2.2.2.1, hC.2.2.2.2.1⟩ (hM H.size) (cwV na hC.2.2.2.2.1 hk rfl rfl rfl hd hR) ⟨zPre_blind, by rw [← hrc.2.2]; exact va_recv hC.2.2.2.2.2.1 hPc hrc.2.1 hrc.1, fun U hU hW => ⟨rfl, by rw [hU], by rw [hU]; exact hPc, va_K.moved hW.alike hC.2.2.2.2.2.1, hDc.weaken (fun _ _ _ _ => trivial), by rw [hU]; exact zGF.to hW hS.2.1 hFc hC.2.2.2.2.2.2.2.1⟩⟩ rfl hn hl.1 rfl (lv_room hcat) hdg hroom) hS (fun q _ h => hFc q h) hFc (fun rv u t H1 locs1 ht hvm hw hB hz1 hk1 hS1 => ?_)
  obtain ⟨hP1, -, hD1⟩ := hB
  obtain ⟨hv, hu⟩ := hw
  rw [hv]
  rw [ht] at hP1
  obtain ⟨hP2, hD2⟩ := va_join hP hD isC isR hiC hiR hnd.2.1 hnd.2.2 hk1 hFc hP1 hD1
  have hk := zz_ws isB hnB (hB9 u) (k u hu)
  rw [← hcz.1, ← hcz.2] at hk
  exact hk H1 locs1 la hP2 hD2 hS1 hl
theorem zz_pureVd {v : UInt64} {y : MethodName} {idx maxL na : Nat} {ret : Option FieldType} {rm : Room} {bytes : ByteArray} {C : String} {b : Nat} {As rest : List Value} {wi : va_W} (hC : ZC p s m args meth c A D nL cc own) (hM : CD (S := Unit) l y bytes maxL ret rm D (.ref b :: As) wi (fun _ => True) (fun _ => v) (fun _ => wi)) (hk : GoodIn lw_all (wsV own idx C y (zW y bytes maxL ret))) (hd : y.cls = C ∧ y.cls ≠ "java/lang/invoke/MethodHandle" ∧ y.cls ≠ "java/lang/invoke/VarHandle" ∧ (parseMethodDescriptor y.desc).map (fun d => d.parameters.length) = some na) (hR : rm.frames + 1 ≤ R.frames ∧ 8 + (maxL + 11) + rm.locals ≤ R.locals) (hn : As.length = na) (isC : List Nat) (hiC : isC.map (fun i => ws[i]?) = wi.map some) (hnd : va_nd isC = true) (q0 ci : Nat) {fs : List Value} {rc : vw_C} (hrc : wi[q0]? = some (b, .inr (ci, fs)) ∧ vwCl[ci]? = some rc ∧ rc.1 = C) (hcat : (rest.map fun v => v.category).sum ≤ 8) (hst : st = As.reverse ++ .ref b :: rest) (hroom : cs + rm.cells ≤ R.cells ∧ sl + rm.slots ≤ R.slots) (hdg : decode cc pc = .ok (.invokevirtual idx, 3)) (hz : rm.cells = 0 ∧ rm.slots = 0) (k : Z p l e R s m args below meth c A D Q nL cs sl ws ls (.double (v) :: rest) (pc + 3)) : Z p l e R s m args below meth c A D Q nL cs sl ws ls st pc := by
  subst hst
  intro H locs la hP hD hS hl
  have hfm : ∀ (is : List Nat) (w : va_W), is.map (fun i => ws[i]?) = w.map some → is.filterMap (fun i => ws[i]?) = w := z_fm ws
  have hPc := hP.sub isC (hfm _ _ hiC)
  have hDc := hD.sub isC hnd hiC
  have hFc := va_free hD hS hC.2.2.2.2.2.2.1 isC hiC
  refine va_calld (va_runV (As := As) (rest := rest) (C := C) ⟨hC.1, hC.2.1, hC.2.2.1, hC.2.2.2.1, hC.2.2.2.2.1⟩ (hM H.size) (cwV na hC.2.2.2.2.1 hk rfl rfl rfl hd hR) ⟨zPre_blind, by rw [← hrc.2.2]; exact va_recv hC.2.2.2.2.2.1 hPc hrc.2.1 hrc.1, fun U hU hW => ⟨rfl, by rw [hU], by rw [hU]; exact hPc, va_K.moved hW.alike hC.2.2.2.2.2.1, hDc.weaken (fun _ _ _ _ => trivial), by rw [hU]; exact zGF.to hW hS.2.1 hFc hC.2.2.2.2.2.2.2.1⟩⟩ rfl hn hl.1 rfl (lv_room hcat) hdg hroom) hS (fun q _ h => hFc q h) hFc (fun rv u t H1 locs1 ht hvm hw hB hz1 hk1 hS1 => ?_)
  obtain ⟨hP1, -, hD1⟩ := hB
  obtain ⟨hv, hu⟩ := hw
  rw [hv]
  rw [ht] at hP1
  have hP2 := z_keepP hP hD isC hiC hk1 hP1
  have hk : Z p l e R s m args below meth c A D Q nL (cs + rm.cells) (sl + rm.slots) ws ls (.double (v) :: rest) (pc + 3) := by rw [hz.1, hz.2]; exact k
  exact hk H1 locs1 la hP2 hD hS1 hl
theorem zz_callVv {S : Type} {φ : S → Prop} {wo : S → va_W} {cs1 sl1 : Nat} {y : MethodName} {idx maxL na : Nat} {ret : Option FieldType} {rm : Room} {bytes : ByteArray} {C : String} {b : Nat} {As rest : List Value} {wi wr : va_W} (hC : ZC p s m args meth c A D nL cc own) (hM : CV l y bytes maxL ret rm D (.ref b :: As) wi φ wo) (hk : GoodIn lw_all (wsV own idx C y (zW y bytes maxL ret))) (hd : y.cls = C ∧ y.cls ≠ "java/lang/invoke/MethodHandle" ∧ y.cls ≠ "java/lang/invoke/VarHandle" ∧ (parseMethodDescriptor y.desc).map (fun d => d.parameters.length) = some na) (hR : rm.frames + 1 ≤ R.frames ∧ 8 + (maxL + 11) + rm.locals ≤ R.locals) (hn : As.length = na) (isC isR : List Nat) (hiC : isC.map (fun i => ws[i]?) = wi.map some) (hiR : isR.map (fun i => ws[i]?) = wr.map some) (hnd : va_nd isC = true ∧ va_nd isR = true ∧ (∀ i ∈ isR, i ∉ isC)) (q0 ci : Nat) {fs : List Value} {rc : vw_C} (hrc : wi[q0]? = some (b, .inr (ci, fs)) ∧ vwCl[ci]? = some rc ∧ rc.1 = C) (hcat : (rest.map fun v => v.category).sum ≤ 8) (hst : st = As.reverse ++ .ref b :: rest) (hroom : cs + rm.cells ≤ R.cells ∧ sl + rm.slots ≤ R.slots) (hdg : decode cc pc = .ok (.invokevirtual idx, 3)) (hcz : cs + rm.cells = cs1 ∧ sl + rm.slots = sl1) {wb : S → va_W} (isB : List Nat) (hnB : va_nd isB = true) (hB9 : ∀ u, isB.map (fun i => (wr ++ wo u)[i]?) = (wb u).map some) (k : ∀ u : S, φ u → Z p l e R s m args below meth c A D Q nL cs1 sl1 (wb u) ls rest (pc + 3)) : Z p l e R s m args below meth c A D Q nL cs sl ws ls st pc := by
  subst hst
  intro H locs la hP hD hS hl
  have hfm : ∀ (is : List Nat) (w : va_W), is.map (fun i => ws[i]?) = w.map some → is.filterMap (fun i => ws[i]?) = w := z_fm ws
  have hPc := hP.sub isC (hfm _ _ hiC)
  have hDc := hD.sub isC hnd.1 hiC
  have hFc := va_free hD hS hC.2.2.2.2.2.2.1 isC hiC
  refine va_callv (va_runV (As := As) (rest := rest) (C := C) ⟨hC.1, hC.2.1, hC.2.2.1, hC.2.2.2.1, hC.2.2.2.2.1⟩ (hM H.size) (cwV na hC.2.2.2.2.1 hk rfl rfl rfl hd hR) ⟨zPre_blind, by rw [← hrc.2.2]; exact va_recv hC.2.2.2.2.2.1 hPc hrc.2.1 hrc.1, fun U hU hW => ⟨rfl, by rw [hU], by rw [hU]; exact hPc, va_K.moved hW.alike hC.2.2.2.2.2.1, hDc.weaken (fun _ _ _ _ => trivial), by rw [hU]; exact zGF.to hW hS.2.1 hFc hC.2.2.2.2.2.2.2.1⟩⟩ rfl hn hl.1 rfl (lv_room hcat) hdg hroom) hS (fun q _ h => hFc q h) hFc (fun u t H1 locs1 ht hvm hw hB hz1 hk1 hS1 => ?_)
  obtain ⟨hP1, -, hD1⟩ := hB
  have hu := hw
  skip
  rw [ht] at hP1
  obtain ⟨hP2, hD2⟩ := va_join hP hD isC isR hiC hiR hnd.2.1 hnd.2.2 hk1 hFc hP1 hD1
  have hk := zz_ws isB hnB (hB9 u) (k u hu)
  rw [← hcz.1, ← hcz.2] at hk
  exact hk H1 locs1 la hP2 hD2 hS1 hl
theorem zz_callNi {S : Type} {φ : S → Prop} {f : S → Int} {wo : S → va_W} {cs1 sl1 : Nat} {y : MethodName} {idx maxL na : Nat} {ret : Option FieldType} {rm : Room} {bytes : ByteArray} {C : String} {b : Nat} {As rest : List Value} {wi wr : va_W} (hC : ZC p s m args meth c A D nL cc own) (hM : CI l y bytes maxL ret rm D (.ref b :: As) wi φ f wo) (hk : GoodIn lw_all (zW y bytes maxL ret) ∧ Cond.methodLinkNest own idx y "DischargeRecorder" ∈ zNest ∧ Cond.initialized y.cls ∈ lw_all ∧ Cond.instanceMethod y ∈ lw_all ∧ Cond.selects C y y ∈ lw_all) (hd : y.cls = C ∧ y.cls ≠ "java/lang/invoke/MethodHandle" ∧ y.cls ≠ "java/lang/invoke/VarHandle" ∧ (parseMethodDescriptor y.desc).map (fun d => d.parameters.length) = some na) (hR : rm.frames + 1 ≤ R.frames ∧ 8 + (maxL + 11) + rm.locals ≤ R.locals) (hn : As.length = na) (isC isR : List Nat) (hiC : isC.map (fun i => ws[i]?) = wi.map some) (hiR : isR.map (fun i => ws[i]?) = wr.map some) (hnd : va_nd isC = true ∧ va_nd isR = true ∧ (∀ i ∈ isR, i ∉ isC)) (q0 ci : Nat) {fs : List Value} {rc : vw_C} (hrc : wi[q0]? = some (b, .inr (ci, fs)) ∧ vwCl[ci]? = some rc ∧ rc.1 = C) (hcat : (rest.map fun v => v.category).sum ≤ 8) (hst : st = As.reverse ++ .ref b :: rest) (hroom : cs + rm.cells ≤ R.cells ∧ sl + rm.slots ≤ R.slots) (hdg : decode cc pc = .ok (.invokevirtual idx, 3)) (hcz : cs + rm.cells = cs1 ∧ sl + rm.slots = sl1) {wb : S → va_W} (isB : List Nat) (hnB : va_nd isB = true) (hB9 : ∀ u, isB.map (fun i => (wr ++ wo u)[i]?) = (wb u).map some) (k : ∀ u : S, φ u → Z p l e R s m args below meth c A D Q nL cs1 sl1 (wb u) ls (.int (zI (f u)) :: rest) (pc + 3)) : Z p l e R s m args below meth c A D Q nL cs sl ws ls st pc := by
  subst hst
  intro H locs la hP hD hS hl
  have hfm : ∀ (is : List Nat) (w : va_W), is.map (fun i => ws[i]?) = w.map some → is.filterMap (fun i => ws[i]?) = w := z_fm ws
  have hPc := hP.sub isC (hfm _ _ hiC)
  have hDc := hD.sub isC hnd.1 hiC
  have hFc := va_free hD hS hC.2.2.2.2.2.2.1 isC hiC
  refine va_calli (va_runVN (As := As) (rest := rest) (C := C) ⟨hC.1, hC.2.1, hC.2.2.1, hC.2.2.2.1, hC.2.2.2.2.1⟩ (hM H.size) (⟨va_cnB (host := "DischargeRecorder") na hC.2.2.2.2.1 hk.1 rfl rfl rfl (hC.2.2.2.2.2.2.2.1.2.2.2.2.2.1 _ hk.2.1) (hC.2.2.2.2.1 _ hk.2.2.1) hd.2 hR, hC.2.2.2.2.1 _ hk.2.2.2.1, hC.2.2.2.2.1 _ hk.2.2.2.2⟩) ⟨zPre_blind, by rw [← hrc.2.2]; exact va_recv hC.2.2.2.2.2.1 hPc hrc.2.1 hrc.1, fun U hU hW => ⟨rfl, by rw [hU], by rw [hU]; exact hPc, va_K.moved hW.alike hC.2.2.2.2.2.1, hDc.weaken (fun _ _ _ _ => trivial), by rw [hU]; exact zGF.to hW hS.2.1 hFc hC.2.2.2.2.2.2.2.1⟩⟩ rfl hn hl.1 rfl (lv_room hcat) hdg hroom) hS (fun q _ h => hFc q h) hFc (fun rv u t H1 locs1 ht hvm hw hB hz1 hk1 hS1 => ?_)
  obtain ⟨hP1, -, hD1⟩ := hB
  obtain ⟨hv, hu⟩ := hw
  rw [hv]
  rw [ht] at hP1
  obtain ⟨hP2, hD2⟩ := va_join hP hD isC isR hiC hiR hnd.2.1 hnd.2.2 hk1 hFc hP1 hD1
  have hk := zz_ws isB hnB (hB9 u) (k u hu)
  rw [← hcz.1, ← hcz.2] at hk
  exact hk H1 locs1 la hP2 hD2 hS1 hl
theorem zz_pureNi {v : Int} {y : MethodName} {idx maxL na : Nat} {ret : Option FieldType} {rm : Room} {bytes : ByteArray} {C : String} {b : Nat} {As rest : List Value} {wi : va_W} (hC : ZC p s m args meth c A D nL cc own) (hM : CI (S := Unit) l y bytes maxL ret rm D (.ref b :: As) wi (fun _ => True) (fun _ => v) (fun _ => wi)) (hk : GoodIn lw_all (zW y bytes maxL ret) ∧ Cond.methodLinkNest own idx y "DischargeRecorder" ∈ zNest ∧ Cond.initialized y.cls ∈ lw_all ∧ Cond.instanceMethod y ∈ lw_all ∧ Cond.selects C y y ∈ lw_all) (hd : y.cls = C ∧ y.cls ≠ "java/lang/invoke/MethodHandle" ∧ y.cls ≠ "java/lang/invoke/VarHandle" ∧ (parseMethodDescriptor y.desc).map (fun d => d.parameters.length) = some na) (hR : rm.frames + 1 ≤ R.frames ∧ 8 + (maxL + 11) + rm.locals ≤ R.locals) (hn : As.length = na) (isC : List Nat) (hiC : isC.map (fun i => ws[i]?) = wi.map some) (hnd : va_nd isC = true) (q0 ci : Nat) {fs : List Value} {rc : vw_C} (hrc : wi[q0]? = some (b, .inr (ci, fs)) ∧ vwCl[ci]? = some rc ∧ rc.1 = C) (hcat : (rest.map fun v => v.category).sum ≤ 8) (hst : st = As.reverse ++ .ref b :: rest) (hroom : cs + rm.cells ≤ R.cells ∧ sl + rm.slots ≤ R.slots) (hdg : decode cc pc = .ok (.invokevirtual idx, 3)) (hz : rm.cells = 0 ∧ rm.slots = 0) (k : Z p l e R s m args below meth c A D Q nL cs sl ws ls (.int (zI (v)) :: rest) (pc + 3)) : Z p l e R s m args below meth c A D Q nL cs sl ws ls st pc := by
  subst hst
  intro H locs la hP hD hS hl
  have hfm : ∀ (is : List Nat) (w : va_W), is.map (fun i => ws[i]?) = w.map some → is.filterMap (fun i => ws[i]?) = w := z_fm ws
  have hPc := hP.sub isC (hfm _ _ hiC)
  have hDc := hD.sub isC hnd hiC
  have hFc := va_free hD hS hC.2.2.2.2.2.2.1 isC hiC
  refine va_calli (va_runVN (As := As) (rest := rest) (C := C) ⟨hC.1, hC.2.1, hC.2.2.1, hC.2.2.2.1, hC.2.2.2.2.1⟩ (hM H.size) (⟨va_cnB (host := "DischargeRecorder") na hC.2.2.2.2.1 hk.1 rfl rfl rfl (hC.2.2.2.2.2.2.2.1.2.2.2.2.2.1 _ hk.2.1) (hC.2.2.2.2.1 _ hk.2.2.1) hd.2 hR, hC.2.2.2.2.1 _ hk.2.2.2.1, hC.2.2.2.2.1 _ hk.2.2.2.2⟩) ⟨zPre_blind, by rw [← hrc.2.2]; exact va_recv hC.2.2.2.2.2.1 hPc hrc.2.1 hrc.1, fun U hU hW => ⟨rfl, by rw [hU], by rw [hU]; exact hPc, va_K.moved hW.alike hC.2.2.2.2.2.1, hDc.weaken (fun _ _ _ _ => trivial), by rw [hU]; exact zGF.to hW hS.2.1 hFc hC.2.2.2.2.2.2.2.1⟩⟩ rfl hn hl.1 rfl (lv_room hcat) hdg hroom) hS (fun q _ h => hFc q h) hFc (fun rv u t H1 locs1 ht hvm hw hB hz1 hk1 hS1 => ?_)
  obtain ⟨hP1, -, hD1⟩ := hB
  obtain ⟨hv, hu⟩ := hw
  rw [hv]
  rw [ht] at hP1
  have hP2 := z_keepP hP hD isC hiC hk1 hP1
  have hk : Z p l e R s m args below meth c A D Q nL (cs + rm.cells) (sl + rm.slots) ws ls (.int (zI (v)) :: rest) (pc + 3) := by rw [hz.1, hz.2]; exact k
  exact hk H1 locs1 la hP2 hD hS1 hl
theorem zz_callNl {S : Type} {φ : S → Prop} {f : S → Int} {wo : S → va_W} {cs1 sl1 : Nat} {y : MethodName} {idx maxL na : Nat} {ret : Option FieldType} {rm : Room} {bytes : ByteArray} {C : String} {b : Nat} {As rest : List Value} {wi wr : va_W} (hC : ZC p s m args meth c A D nL cc own) (hM : CL l y bytes maxL ret rm D (.ref b :: As) wi φ f wo) (hk : GoodIn lw_all (zW y bytes maxL ret) ∧ Cond.methodLinkNest own idx y "DischargeRecorder" ∈ zNest ∧ Cond.initialized y.cls ∈ lw_all ∧ Cond.instanceMethod y ∈ lw_all ∧ Cond.selects C y y ∈ lw_all) (hd : y.cls = C ∧ y.cls ≠ "java/lang/invoke/MethodHandle" ∧ y.cls ≠ "java/lang/invoke/VarHandle" ∧ (parseMethodDescriptor y.desc).map (fun d => d.parameters.length) = some na) (hR : rm.frames + 1 ≤ R.frames ∧ 8 + (maxL + 11) + rm.locals ≤ R.locals) (hn : As.length = na) (isC isR : List Nat) (hiC : isC.map (fun i => ws[i]?) = wi.map some) (hiR : isR.map (fun i => ws[i]?) = wr.map some) (hnd : va_nd isC = true ∧ va_nd isR = true ∧ (∀ i ∈ isR, i ∉ isC)) (q0 ci : Nat) {fs : List Value} {rc : vw_C} (hrc : wi[q0]? = some (b, .inr (ci, fs)) ∧ vwCl[ci]? = some rc ∧ rc.1 = C) (hcat : (rest.map fun v => v.category).sum ≤ 8) (hst : st = As.reverse ++ .ref b :: rest) (hroom : cs + rm.cells ≤ R.cells ∧ sl + rm.slots ≤ R.slots) (hdg : decode cc pc = .ok (.invokevirtual idx, 3)) (hcz : cs + rm.cells = cs1 ∧ sl + rm.slots = sl1) {wb : S → va_W} (isB : List Nat) (hnB : va_nd isB = true) (hB9 : ∀ u, isB.map (fun i => (wr ++ wo u)[i]?) = (wb u).map some) (k : ∀ u : S, φ u → Z p l e R s m args below meth c A D Q nL cs1 sl1 (wb u) ls (.long (zL (f u)) :: rest) (pc + 3)) : Z p l e R s m args below meth c A D Q nL cs sl ws ls st pc := by
  subst hst
  intro H locs la hP hD hS hl
  have hfm : ∀ (is : List Nat) (w : va_W), is.map (fun i => ws[i]?) = w.map some → is.filterMap (fun i => ws[i]?) = w := z_fm ws
  have hPc := hP.sub isC (hfm _ _ hiC)
  have hDc := hD.sub isC hnd.1 hiC
  have hFc := va_free hD hS hC.2.2.2.2.2.2.1 isC hiC
  refine va_calll (va_runVN (As := As) (rest := rest) (C := C) ⟨hC.1, hC.2.1, hC.2.2.1, hC.2.2.2.1, hC.2.2.2.2.1⟩ (hM H.size) (⟨va_cnB (host := "DischargeRecorder") na hC.2.2.2.2.1 hk.1 rfl rfl rfl (hC.2.2.2.2.2.2.2.1.2.2.2.2.2.1 _ hk.2.1) (hC.2.2.2.2.1 _ hk.2.2.1) hd.2 hR, hC.2.2.2.2.1 _ hk.2.2.2.1, hC.2.2.2.2.1 _ hk.2.2.2.2⟩) ⟨zPre_blind, by rw [← hrc.2.2]; exact va_recv hC.2.2.2.2.2.1 hPc hrc.2.1 hrc.1, fun U hU hW => ⟨rfl, by rw [hU], by rw [hU]; exact hPc, va_K.moved hW.alike hC.2.2.2.2.2.1, hDc.weaken (fun _ _ _ _ => trivial), by rw [hU]; exact zGF.to hW hS.2.1 hFc hC.2.2.2.2.2.2.2.1⟩⟩ rfl hn hl.1 rfl (lv_room hcat) hdg hroom) hS (fun q _ h => hFc q h) hFc (fun rv u t H1 locs1 ht hvm hw hB hz1 hk1 hS1 => ?_)
  obtain ⟨hP1, -, hD1⟩ := hB
  obtain ⟨hv, hu⟩ := hw
  rw [hv]
  rw [ht] at hP1
  obtain ⟨hP2, hD2⟩ := va_join hP hD isC isR hiC hiR hnd.2.1 hnd.2.2 hk1 hFc hP1 hD1
  have hk := zz_ws isB hnB (hB9 u) (k u hu)
  rw [← hcz.1, ← hcz.2] at hk
  exact hk H1 locs1 la hP2 hD2 hS1 hl
theorem zz_pureNl {v : Int} {y : MethodName} {idx maxL na : Nat} {ret : Option FieldType} {rm : Room} {bytes : ByteArray} {C : String} {b : Nat} {As rest : List Value} {wi : va_W} (hC : ZC p s m args meth c A D nL cc own) (hM : CL (S := Unit) l y bytes maxL ret rm D (.ref b :: As) wi (fun _ => True) (fun _ => v) (fun _ => wi)) (hk : GoodIn lw_all (zW y bytes maxL ret) ∧ Cond.methodLinkNest own idx y "DischargeRecorder" ∈ zNest ∧ Cond.initialized y.cls ∈ lw_all ∧ Cond.instanceMethod y ∈ lw_all ∧ Cond.selects C y y ∈ lw_all) (hd : y.cls = C ∧ y.cls ≠ "java/lang/invoke/MethodHandle" ∧ y.cls ≠ "java/lang/invoke/VarHandle" ∧ (parseMethodDescriptor y.desc).map (fun d => d.parameters.length) = some na) (hR : rm.frames + 1 ≤ R.frames ∧ 8 + (maxL + 11) + rm.locals ≤ R.locals) (hn : As.length = na) (isC : List Nat) (hiC : isC.map (fun i => ws[i]?) = wi.map some) (hnd : va_nd isC = true) (q0 ci : Nat) {fs : List Value} {rc : vw_C} (hrc : wi[q0]? = some (b, .inr (ci, fs)) ∧ vwCl[ci]? = some rc ∧ rc.1 = C) (hcat : (rest.map fun v => v.category).sum ≤ 8) (hst : st = As.reverse ++ .ref b :: rest) (hroom : cs + rm.cells ≤ R.cells ∧ sl + rm.slots ≤ R.slots) (hdg : decode cc pc = .ok (.invokevirtual idx, 3)) (hz : rm.cells = 0 ∧ rm.slots = 0) (k : Z p l e R s m args below meth c A D Q nL cs sl ws ls (.long (zL (v)) :: rest) (pc + 3)) : Z p l e R s m args below meth c A D Q nL cs sl ws ls st pc := by
  subst hst
  intro H locs la hP hD hS hl
  have hfm : ∀ (is : List Nat) (w : va_W), is.map (fun i => ws[i]?) = w.map some → is.filterMap (fun i => ws[i]?) = w := z_fm ws
  have hPc := hP.sub isC (hfm _ _ hiC)
  have hDc := hD.sub isC hnd hiC
  have hFc := va_free hD hS hC.2.2.2.2.2.2.1 isC hiC
  refine va_calll (va_runVN (As := As) (rest := rest) (C := C) ⟨hC.1, hC.2.1, hC.2.2.1, hC.2.2.2.1, hC.2.2.2.2.1⟩ (hM H.size) (⟨va_cnB (host := "DischargeRecorder") na hC.2.2.2.2.1 hk.1 rfl rfl rfl (hC.2.2.2.2.2.2.2.1.2.2.2.2.2.1 _ hk.2.1) (hC.2.2.2.2.1 _ hk.2.2.1) hd.2 hR, hC.2.2.2.2.1 _ hk.2.2.2.1, hC.2.2.2.2.1 _ hk.2.2.2.2⟩) ⟨zPre_blind, by rw [← hrc.2.2]; exact va_recv hC.2.2.2.2.2.1 hPc hrc.2.1 hrc.1, fun U hU hW => ⟨rfl, by rw [hU], by rw [hU]; exact hPc, va_K.moved hW.alike hC.2.2.2.2.2.1, hDc.weaken (fun _ _ _ _ => trivial), by rw [hU]; exact zGF.to hW hS.2.1 hFc hC.2.2.2.2.2.2.2.1⟩⟩ rfl hn hl.1 rfl (lv_room hcat) hdg hroom) hS (fun q _ h => hFc q h) hFc (fun rv u t H1 locs1 ht hvm hw hB hz1 hk1 hS1 => ?_)
  obtain ⟨hP1, -, hD1⟩ := hB
  obtain ⟨hv, hu⟩ := hw
  rw [hv]
  rw [ht] at hP1
  have hP2 := z_keepP hP hD isC hiC hk1 hP1
  have hk : Z p l e R s m args below meth c A D Q nL (cs + rm.cells) (sl + rm.slots) ws ls (.long (zL (v)) :: rest) (pc + 3) := by rw [hz.1, hz.2]; exact k
  exact hk H1 locs1 la hP2 hD hS1 hl
theorem zz_callNd {S : Type} {φ : S → Prop} {f : S → UInt64} {wo : S → va_W} {cs1 sl1 : Nat} {y : MethodName} {idx maxL na : Nat} {ret : Option FieldType} {rm : Room} {bytes : ByteArray} {C : String} {b : Nat} {As rest : List Value} {wi wr : va_W} (hC : ZC p s m args meth c A D nL cc own) (hM : CD l y bytes maxL ret rm D (.ref b :: As) wi φ f wo) (hk : GoodIn lw_all (zW y bytes maxL ret) ∧ Cond.methodLinkNest own idx y "DischargeRecorder" ∈ zNest ∧ Cond.initialized y.cls ∈ lw_all ∧ Cond.instanceMethod y ∈ lw_all ∧ Cond.selects C y y ∈ lw_all) (hd : y.cls = C ∧ y.cls ≠ "java/lang/invoke/MethodHandle" ∧ y.cls ≠ "java/lang/invoke/VarHandle" ∧ (parseMethodDescriptor y.desc).map (fun d => d.parameters.length) = some na) (hR : rm.frames + 1 ≤ R.frames ∧ 8 + (maxL + 11) + rm.locals ≤ R.locals) (hn : As.length = na) (isC isR : List Nat) (hiC : isC.map (fun i => ws[i]?) = wi.map some) (hiR : isR.map (fun i => ws[i]?) = wr.map some) (hnd : va_nd isC = true ∧ va_nd isR = true ∧ (∀ i ∈ isR, i ∉ isC)) (q0 ci : Nat) {fs : List Value} {rc : vw_C} (hrc : wi[q0]? = some (b, .inr (ci, fs)) ∧ vwCl[ci]? = some rc ∧ rc.1 = C) (hcat : (rest.map fun v => v.category).sum ≤ 8) (hst : st = As.reverse ++ .ref b :: rest) (hroom : cs + rm.cells ≤ R.cells ∧ sl + rm.slots ≤ R.slots) (hdg : decode cc pc = .ok (.invokevirtual idx, 3)) (hcz : cs + rm.cells = cs1 ∧ sl + rm.slots = sl1) {wb : S → va_W} (isB : List Nat) (hnB : va_nd isB = true) (hB9 : ∀ u, isB.map (fun i => (wr ++ wo u)[i]?) = (wb u).map some) (k : ∀ u : S, φ u → Z p l e R s m args below meth c A D Q nL cs1 sl1 (wb u) ls (.double (f u) :: rest) (pc + 3)) : Z p l e R s m args below meth c A D Q nL cs sl ws ls st pc := by
  subst hst
  intro H locs la hP hD hS hl
  have hfm : ∀ (is : List Nat) (w : va_W), is.map (fun i => ws[i]?) = w.map some → is.filterMap (fun i => ws[i]?) = w := z_fm ws
  have hPc := hP.sub isC (hfm _ _ hiC)
  have hDc := hD.sub isC hnd.1 hiC
  have hFc := va_free hD hS hC.2.2.2.2.2.2.1 isC hiC
  refine va_calld (va_runVN (As := As) (rest := rest) (C := C) ⟨hC.1, hC.2.1, hC.2.2.1, hC.2.2.2.1, hC.2.2.2.2.1⟩ (hM H.size) (⟨va_cnB (host := "DischargeRecorder") na hC.2.2.2.2.1 hk.1 rfl rfl rfl (hC.2.2.2.2.2.2.2.1.2.2.2.2.2.1 _ hk.2.1) (hC.2.2.2.2.1 _ hk.2.2.1) hd.2 hR, hC.2.2.2.2.1 _ hk.2.2.2.1, hC.2.2.2.2.1 _ hk.2.2.2.2⟩) ⟨zPre_blind, by rw [← hrc.2.2]; exact va_recv hC.2.2.2.2.2.1 hPc hrc.2.1 hrc.1, fun U hU hW => ⟨rfl, by rw [hU], by rw [hU]; exact hPc, va_K.moved hW.alike hC.2.2.2.2.2.1, hDc.weaken (fun _ _ _ _ => trivial), by rw [hU]; exact zGF.to hW hS.2.1 hFc hC.2.2.2.2.2.2.2.1⟩⟩ rfl hn hl.1 rfl (lv_room hcat) hdg hroom) hS (fun q _ h => hFc q h) hFc (fun rv u t H1 locs1 ht hvm hw hB hz1 hk1 hS1 => ?_)
  obtain ⟨hP1, -, hD1⟩ := hB
  obtain ⟨hv, hu⟩ := hw
  rw [hv]
  rw [ht] at hP1
  obtain ⟨hP2, hD2⟩ := va_join hP hD isC isR hiC hiR hnd.2.1 hnd.2.2 hk1 hFc hP1 hD1
  have hk := zz_ws isB hnB (hB9 u) (k u hu)
  rw [← hcz.1, ← hcz.2] at hk
  exact hk H1 locs1 la hP2 hD2 hS1 hl
theorem zz_pureNd {v : UInt64} {y : MethodName} {idx maxL na : Nat} {ret : Option FieldType} {rm : Room} {bytes : ByteArray} {C : String} {b : Nat} {As rest : List Value} {wi : va_W} (hC : ZC p s m args meth c A D nL cc own) (hM : CD (S := Unit) l y bytes maxL ret rm D (.ref b :: As) wi (fun _ => True) (fun _ => v) (fun _ => wi)) (hk : GoodIn lw_all (zW y bytes maxL ret) ∧ Cond.methodLinkNest own idx y "DischargeRecorder" ∈ zNest ∧ Cond.initialized y.cls ∈ lw_all ∧ Cond.instanceMethod y ∈ lw_all ∧ Cond.selects C y y ∈ lw_all) (hd : y.cls = C ∧ y.cls ≠ "java/lang/invoke/MethodHandle" ∧ y.cls ≠ "java/lang/invoke/VarHandle" ∧ (parseMethodDescriptor y.desc).map (fun d => d.parameters.length) = some na) (hR : rm.frames + 1 ≤ R.frames ∧ 8 + (maxL + 11) + rm.locals ≤ R.locals) (hn : As.length = na) (isC : List Nat) (hiC : isC.map (fun i => ws[i]?) = wi.map some) (hnd : va_nd isC = true) (q0 ci : Nat) {fs : List Value} {rc : vw_C} (hrc : wi[q0]? = some (b, .inr (ci, fs)) ∧ vwCl[ci]? = some rc ∧ rc.1 = C) (hcat : (rest.map fun v => v.category).sum ≤ 8) (hst : st = As.reverse ++ .ref b :: rest) (hroom : cs + rm.cells ≤ R.cells ∧ sl + rm.slots ≤ R.slots) (hdg : decode cc pc = .ok (.invokevirtual idx, 3)) (hz : rm.cells = 0 ∧ rm.slots = 0) (k : Z p l e R s m args below meth c A D Q nL cs sl ws ls (.double (v) :: rest) (pc + 3)) : Z p l e R s m args below meth c A D Q nL cs sl ws ls st pc := by
  subst hst
  intro H locs la hP hD hS hl
  have hfm : ∀ (is : List Nat) (w : va_W), is.map (fun i => ws[i]?) = w.map some → is.filterMap (fun i => ws[i]?) = w := z_fm ws
  have hPc := hP.sub isC (hfm _ _ hiC)
  have hDc := hD.sub isC hnd hiC
  have hFc := va_free hD hS hC.2.2.2.2.2.2.1 isC hiC
  refine va_calld (va_runVN (As := As) (rest := rest) (C := C) ⟨hC.1, hC.2.1, hC.2.2.1, hC.2.2.2.1, hC.2.2.2.2.1⟩ (hM H.size) (⟨va_cnB (host := "DischargeRecorder") na hC.2.2.2.2.1 hk.1 rfl rfl rfl (hC.2.2.2.2.2.2.2.1.2.2.2.2.2.1 _ hk.2.1) (hC.2.2.2.2.1 _ hk.2.2.1) hd.2 hR, hC.2.2.2.2.1 _ hk.2.2.2.1, hC.2.2.2.2.1 _ hk.2.2.2.2⟩) ⟨zPre_blind, by rw [← hrc.2.2]; exact va_recv hC.2.2.2.2.2.1 hPc hrc.2.1 hrc.1, fun U hU hW => ⟨rfl, by rw [hU], by rw [hU]; exact hPc, va_K.moved hW.alike hC.2.2.2.2.2.1, hDc.weaken (fun _ _ _ _ => trivial), by rw [hU]; exact zGF.to hW hS.2.1 hFc hC.2.2.2.2.2.2.2.1⟩⟩ rfl hn hl.1 rfl (lv_room hcat) hdg hroom) hS (fun q _ h => hFc q h) hFc (fun rv u t H1 locs1 ht hvm hw hB hz1 hk1 hS1 => ?_)
  obtain ⟨hP1, -, hD1⟩ := hB
  obtain ⟨hv, hu⟩ := hw
  rw [hv]
  rw [ht] at hP1
  have hP2 := z_keepP hP hD isC hiC hk1 hP1
  have hk : Z p l e R s m args below meth c A D Q nL (cs + rm.cells) (sl + rm.slots) ws ls (.double (v) :: rest) (pc + 3) := by rw [hz.1, hz.2]; exact k
  exact hk H1 locs1 la hP2 hD hS1 hl
theorem zz_callNv {S : Type} {φ : S → Prop} {wo : S → va_W} {cs1 sl1 : Nat} {y : MethodName} {idx maxL na : Nat} {ret : Option FieldType} {rm : Room} {bytes : ByteArray} {C : String} {b : Nat} {As rest : List Value} {wi wr : va_W} (hC : ZC p s m args meth c A D nL cc own) (hM : CV l y bytes maxL ret rm D (.ref b :: As) wi φ wo) (hk : GoodIn lw_all (zW y bytes maxL ret) ∧ Cond.methodLinkNest own idx y "DischargeRecorder" ∈ zNest ∧ Cond.initialized y.cls ∈ lw_all ∧ Cond.instanceMethod y ∈ lw_all ∧ Cond.selects C y y ∈ lw_all) (hd : y.cls = C ∧ y.cls ≠ "java/lang/invoke/MethodHandle" ∧ y.cls ≠ "java/lang/invoke/VarHandle" ∧ (parseMethodDescriptor y.desc).map (fun d => d.parameters.length) = some na) (hR : rm.frames + 1 ≤ R.frames ∧ 8 + (maxL + 11) + rm.locals ≤ R.locals) (hn : As.length = na) (isC isR : List Nat) (hiC : isC.map (fun i => ws[i]?) = wi.map some) (hiR : isR.map (fun i => ws[i]?) = wr.map some) (hnd : va_nd isC = true ∧ va_nd isR = true ∧ (∀ i ∈ isR, i ∉ isC)) (q0 ci : Nat) {fs : List Value} {rc : vw_C} (hrc : wi[q0]? = some (b, .inr (ci, fs)) ∧ vwCl[ci]? = some rc ∧ rc.1 = C) (hcat : (rest.map fun v => v.category).sum ≤ 8) (hst : st = As.reverse ++ .ref b :: rest) (hroom : cs + rm.cells ≤ R.cells ∧ sl + rm.slots ≤ R.slots) (hdg : decode cc pc = .ok (.invokevirtual idx, 3)) (hcz : cs + rm.cells = cs1 ∧ sl + rm.slots = sl1) {wb : S → va_W} (isB : List Nat) (hnB : va_nd isB = true) (hB9 : ∀ u, isB.map (fun i => (wr ++ wo u)[i]?) = (wb u).map some) (k : ∀ u : S, φ u → Z p l e R s m args below meth c A D Q nL cs1 sl1 (wb u) ls rest (pc + 3)) : Z p l e R s m args below meth c A D Q nL cs sl ws ls st pc := by
  subst hst
  intro H locs la hP hD hS hl
  have hfm : ∀ (is : List Nat) (w : va_W), is.map (fun i => ws[i]?) = w.map some → is.filterMap (fun i => ws[i]?) = w := z_fm ws
  have hPc := hP.sub isC (hfm _ _ hiC)
  have hDc := hD.sub isC hnd.1 hiC
  have hFc := va_free hD hS hC.2.2.2.2.2.2.1 isC hiC
  refine va_callv (va_runVN (As := As) (rest := rest) (C := C) ⟨hC.1, hC.2.1, hC.2.2.1, hC.2.2.2.1, hC.2.2.2.2.1⟩ (hM H.size) (⟨va_cnB (host := "DischargeRecorder") na hC.2.2.2.2.1 hk.1 rfl rfl rfl (hC.2.2.2.2.2.2.2.1.2.2.2.2.2.1 _ hk.2.1) (hC.2.2.2.2.1 _ hk.2.2.1) hd.2 hR, hC.2.2.2.2.1 _ hk.2.2.2.1, hC.2.2.2.2.1 _ hk.2.2.2.2⟩) ⟨zPre_blind, by rw [← hrc.2.2]; exact va_recv hC.2.2.2.2.2.1 hPc hrc.2.1 hrc.1, fun U hU hW => ⟨rfl, by rw [hU], by rw [hU]; exact hPc, va_K.moved hW.alike hC.2.2.2.2.2.1, hDc.weaken (fun _ _ _ _ => trivial), by rw [hU]; exact zGF.to hW hS.2.1 hFc hC.2.2.2.2.2.2.2.1⟩⟩ rfl hn hl.1 rfl (lv_room hcat) hdg hroom) hS (fun q _ h => hFc q h) hFc (fun u t H1 locs1 ht hvm hw hB hz1 hk1 hS1 => ?_)
  obtain ⟨hP1, -, hD1⟩ := hB
  have hu := hw
  skip
  rw [ht] at hP1
  obtain ⟨hP2, hD2⟩ := va_join hP hD isC isR hiC hiR hnd.2.1 hnd.2.2 hk1 hFc hP1 hD1
  have hk := zz_ws isB hnB (hB9 u) (k u hu)
  rw [← hcz.1, ← hcz.2] at hk
  exact hk H1 locs1 la hP2 hD2 hS1 hl
theorem zz_callSi {S : Type} {φ : S → Prop} {f : S → Int} {wo : S → va_W} {cs1 sl1 : Nat} {y : MethodName} {idx maxL na : Nat} {ret : Option FieldType} {rm : Room} {bytes : ByteArray} {As rest : List Value} {wi wr : va_W} (hC : ZC p s m args meth c A D nL cc own) (hM : CI l y bytes maxL ret rm D As wi φ f wo) (hk : GoodIn lw_all (va_wsS own idx y (zW y bytes maxL ret))) (hd : y.cls ≠ "java/lang/invoke/MethodHandle" ∧ y.cls ≠ "java/lang/invoke/VarHandle" ∧ (parseMethodDescriptor y.desc).map (fun d => d.parameters.length) = some na) (hR : rm.frames + 1 ≤ R.frames ∧ 8 + (maxL + 11) + rm.locals ≤ R.locals) (hn : As.length = na) (isC isR : List Nat) (hiC : isC.map (fun i => ws[i]?) = wi.map some) (hiR : isR.map (fun i => ws[i]?) = wr.map some) (hnd : va_nd isC = true ∧ va_nd isR = true ∧ (∀ i ∈ isR, i ∉ isC)) (hcat : (rest.map fun v => v.category).sum ≤ 8) (hst : st = As.reverse ++ rest) (hroom : cs + rm.cells ≤ R.cells ∧ sl + rm.slots ≤ R.slots) (hdg : decode cc pc = .ok (.invokestatic idx, 3)) (hcz : cs + rm.cells = cs1 ∧ sl + rm.slots = sl1) {wb : S → va_W} (isB : List Nat) (hnB : va_nd isB = true) (hB9 : ∀ u, isB.map (fun i => (wr ++ wo u)[i]?) = (wb u).map some) (k : ∀ u : S, φ u → Z p l e R s m args below meth c A D Q nL cs1 sl1 (wb u) ls (.int (zI (f u)) :: rest) (pc + 3)) : Z p l e R s m args below meth c A D Q nL cs sl ws ls st pc := by
  subst hst
  intro H locs la hP hD hS hl
  have hfm : ∀ (is : List Nat) (w : va_W), is.map (fun i => ws[i]?) = w.map some → is.filterMap (fun i => ws[i]?) = w := z_fm ws
  have hPc := hP.sub isC (hfm _ _ hiC)
  have hDc := hD.sub isC hnd.1 hiC
  have hFc := va_free hD hS hC.2.2.2.2.2.2.1 isC hiC
  refine va_calli (va_runS (As := As) (rest := rest) ⟨hC.1, hC.2.1, hC.2.2.1, hC.2.2.2.1, hC.2.2.2.2.1⟩ (hM H.size) (va_cwS na hC.2.2.2.2.1 hk rfl rfl rfl hd hR) ⟨zPre_blind, fun U hU hW => ⟨rfl, by rw [hU], by rw [hU]; exact hPc, va_K.moved hW.alike hC.2.2.2.2.2.1, hDc.weaken (fun _ _ _ _ => trivial), by rw [hU]; exact zGF.to hW hS.2.1 hFc hC.2.2.2.2.2.2.2.1⟩⟩ rfl hn hl.1 rfl (lv_room hcat) hdg hroom) hS (fun q _ h => hFc q h) hFc (fun rv u t H1 locs1 ht hvm hw hB hz1 hk1 hS1 => ?_)
  obtain ⟨hP1, -, hD1⟩ := hB
  obtain ⟨hv, hu⟩ := hw
  rw [hv]
  rw [ht] at hP1
  obtain ⟨hP2, hD2⟩ := va_join hP hD isC isR hiC hiR hnd.2.1 hnd.2.2 hk1 hFc hP1 hD1
  have hk := zz_ws isB hnB (hB9 u) (k u hu)
  rw [← hcz.1, ← hcz.2] at hk
  exact hk H1 locs1 la hP2 hD2 hS1 hl
theorem zz_pureSi {v : Int} {y : MethodName} {idx maxL na : Nat} {ret : Option FieldType} {rm : Room} {bytes : ByteArray} {As rest : List Value} {wi : va_W} (hC : ZC p s m args meth c A D nL cc own) (hM : CI (S := Unit) l y bytes maxL ret rm D As wi (fun _ => True) (fun _ => v) (fun _ => wi)) (hk : GoodIn lw_all (va_wsS own idx y (zW y bytes maxL ret))) (hd : y.cls ≠ "java/lang/invoke/MethodHandle" ∧ y.cls ≠ "java/lang/invoke/VarHandle" ∧ (parseMethodDescriptor y.desc).map (fun d => d.parameters.length) = some na) (hR : rm.frames + 1 ≤ R.frames ∧ 8 + (maxL + 11) + rm.locals ≤ R.locals) (hn : As.length = na) (isC : List Nat) (hiC : isC.map (fun i => ws[i]?) = wi.map some) (hnd : va_nd isC = true) (hcat : (rest.map fun v => v.category).sum ≤ 8) (hst : st = As.reverse ++ rest) (hroom : cs + rm.cells ≤ R.cells ∧ sl + rm.slots ≤ R.slots) (hdg : decode cc pc = .ok (.invokestatic idx, 3)) (hz : rm.cells = 0 ∧ rm.slots = 0) (k : Z p l e R s m args below meth c A D Q nL cs sl ws ls (.int (zI (v)) :: rest) (pc + 3)) : Z p l e R s m args below meth c A D Q nL cs sl ws ls st pc := by
  subst hst
  intro H locs la hP hD hS hl
  have hfm : ∀ (is : List Nat) (w : va_W), is.map (fun i => ws[i]?) = w.map some → is.filterMap (fun i => ws[i]?) = w := z_fm ws
  have hPc := hP.sub isC (hfm _ _ hiC)
  have hDc := hD.sub isC hnd hiC
  have hFc := va_free hD hS hC.2.2.2.2.2.2.1 isC hiC
  refine va_calli (va_runS (As := As) (rest := rest) ⟨hC.1, hC.2.1, hC.2.2.1, hC.2.2.2.1, hC.2.2.2.2.1⟩ (hM H.size) (va_cwS na hC.2.2.2.2.1 hk rfl rfl rfl hd hR) ⟨zPre_blind, fun U hU hW => ⟨rfl, by rw [hU], by rw [hU]; exact hPc, va_K.moved hW.alike hC.2.2.2.2.2.1, hDc.weaken (fun _ _ _ _ => trivial), by rw [hU]; exact zGF.to hW hS.2.1 hFc hC.2.2.2.2.2.2.2.1⟩⟩ rfl hn hl.1 rfl (lv_room hcat) hdg hroom) hS (fun q _ h => hFc q h) hFc (fun rv u t H1 locs1 ht hvm hw hB hz1 hk1 hS1 => ?_)
  obtain ⟨hP1, -, hD1⟩ := hB
  obtain ⟨hv, hu⟩ := hw
  rw [hv]
  rw [ht] at hP1
  have hP2 := z_keepP hP hD isC hiC hk1 hP1
  have hk : Z p l e R s m args below meth c A D Q nL (cs + rm.cells) (sl + rm.slots) ws ls (.int (zI (v)) :: rest) (pc + 3) := by rw [hz.1, hz.2]; exact k
  exact hk H1 locs1 la hP2 hD hS1 hl
theorem zz_callSl {S : Type} {φ : S → Prop} {f : S → Int} {wo : S → va_W} {cs1 sl1 : Nat} {y : MethodName} {idx maxL na : Nat} {ret : Option FieldType} {rm : Room} {bytes : ByteArray} {As rest : List Value} {wi wr : va_W} (hC : ZC p s m args meth c A D nL cc own) (hM : CL l y bytes maxL ret rm D As wi φ f wo) (hk : GoodIn lw_all (va_wsS own idx y (zW y bytes maxL ret))) (hd : y.cls ≠ "java/lang/invoke/MethodHandle" ∧ y.cls ≠ "java/lang/invoke/VarHandle" ∧ (parseMethodDescriptor y.desc).map (fun d => d.parameters.length) = some na) (hR : rm.frames + 1 ≤ R.frames ∧ 8 + (maxL + 11) + rm.locals ≤ R.locals) (hn : As.length = na) (isC isR : List Nat) (hiC : isC.map (fun i => ws[i]?) = wi.map some) (hiR : isR.map (fun i => ws[i]?) = wr.map some) (hnd : va_nd isC = true ∧ va_nd isR = true ∧ (∀ i ∈ isR, i ∉ isC)) (hcat : (rest.map fun v => v.category).sum ≤ 8) (hst : st = As.reverse ++ rest) (hroom : cs + rm.cells ≤ R.cells ∧ sl + rm.slots ≤ R.slots) (hdg : decode cc pc = .ok (.invokestatic idx, 3)) (hcz : cs + rm.cells = cs1 ∧ sl + rm.slots = sl1) {wb : S → va_W} (isB : List Nat) (hnB : va_nd isB = true) (hB9 : ∀ u, isB.map (fun i => (wr ++ wo u)[i]?) = (wb u).map some) (k : ∀ u : S, φ u → Z p l e R s m args below meth c A D Q nL cs1 sl1 (wb u) ls (.long (zL (f u)) :: rest) (pc + 3)) : Z p l e R s m args below meth c A D Q nL cs sl ws ls st pc := by
  subst hst
  intro H locs la hP hD hS hl
  have hfm : ∀ (is : List Nat) (w : va_W), is.map (fun i => ws[i]?) = w.map some → is.filterMap (fun i => ws[i]?) = w := z_fm ws
  have hPc := hP.sub isC (hfm _ _ hiC)
  have hDc := hD.sub isC hnd.1 hiC
  have hFc := va_free hD hS hC.2.2.2.2.2.2.1 isC hiC
  refine va_calll (va_runS (As := As) (rest := rest) ⟨hC.1, hC.2.1, hC.2.2.1, hC.2.2.2.1, hC.2.2.2.2.1⟩ (hM H.size) (va_cwS na hC.2.2.2.2.1 hk rfl rfl rfl hd hR) ⟨zPre_blind, fun U hU hW => ⟨rfl, by rw [hU], by rw [hU]; exact hPc, va_K.moved hW.alike hC.2.2.2.2.2.1, hDc.weaken (fun _ _ _ _ => trivial), by rw [hU]; exact zGF.to hW hS.2.1 hFc hC.2.2.2.2.2.2.2.1⟩⟩ rfl hn hl.1 rfl (lv_room hcat) hdg hroom) hS (fun q _ h => hFc q h) hFc (fun rv u t H1 locs1 ht hvm hw hB hz1 hk1 hS1 => ?_)
  obtain ⟨hP1, -, hD1⟩ := hB
  obtain ⟨hv, hu⟩ := hw
  rw [hv]
  rw [ht] at hP1
  obtain ⟨hP2, hD2⟩ := va_join hP hD isC isR hiC hiR hnd.2.1 hnd.2.2 hk1 hFc hP1 hD1
  have hk := zz_ws isB hnB (hB9 u) (k u hu)
  rw [← hcz.1, ← hcz.2] at hk
  exact hk H1 locs1 la hP2 hD2 hS1 hl
theorem zz_pureSl {v : Int} {y : MethodName} {idx maxL na : Nat} {ret : Option FieldType} {rm : Room} {bytes : ByteArray} {As rest : List Value} {wi : va_W} (hC : ZC p s m args meth c A D nL cc own) (hM : CL (S := Unit) l y bytes maxL ret rm D As wi (fun _ => True) (fun _ => v) (fun _ => wi)) (hk : GoodIn lw_all (va_wsS own idx y (zW y bytes maxL ret))) (hd : y.cls ≠ "java/lang/invoke/MethodHandle" ∧ y.cls ≠ "java/lang/invoke/VarHandle" ∧ (parseMethodDescriptor y.desc).map (fun d => d.parameters.length) = some na) (hR : rm.frames + 1 ≤ R.frames ∧ 8 + (maxL + 11) + rm.locals ≤ R.locals) (hn : As.length = na) (isC : List Nat) (hiC : isC.map (fun i => ws[i]?) = wi.map some) (hnd : va_nd isC = true) (hcat : (rest.map fun v => v.category).sum ≤ 8) (hst : st = As.reverse ++ rest) (hroom : cs + rm.cells ≤ R.cells ∧ sl + rm.slots ≤ R.slots) (hdg : decode cc pc = .ok (.invokestatic idx, 3)) (hz : rm.cells = 0 ∧ rm.slots = 0) (k : Z p l e R s m args below meth c A D Q nL cs sl ws ls (.long (zL (v)) :: rest) (pc + 3)) : Z p l e R s m args below meth c A D Q nL cs sl ws ls st pc := by
  subst hst
  intro H locs la hP hD hS hl
  have hfm : ∀ (is : List Nat) (w : va_W), is.map (fun i => ws[i]?) = w.map some → is.filterMap (fun i => ws[i]?) = w := z_fm ws
  have hPc := hP.sub isC (hfm _ _ hiC)
  have hDc := hD.sub isC hnd hiC
  have hFc := va_free hD hS hC.2.2.2.2.2.2.1 isC hiC
  refine va_calll (va_runS (As := As) (rest := rest) ⟨hC.1, hC.2.1, hC.2.2.1, hC.2.2.2.1, hC.2.2.2.2.1⟩ (hM H.size) (va_cwS na hC.2.2.2.2.1 hk rfl rfl rfl hd hR) ⟨zPre_blind, fun U hU hW => ⟨rfl, by rw [hU], by rw [hU]; exact hPc, va_K.moved hW.alike hC.2.2.2.2.2.1, hDc.weaken (fun _ _ _ _ => trivial), by rw [hU]; exact zGF.to hW hS.2.1 hFc hC.2.2.2.2.2.2.2.1⟩⟩ rfl hn hl.1 rfl (lv_room hcat) hdg hroom) hS (fun q _ h => hFc q h) hFc (fun rv u t H1 locs1 ht hvm hw hB hz1 hk1 hS1 => ?_)
  obtain ⟨hP1, -, hD1⟩ := hB
  obtain ⟨hv, hu⟩ := hw
  rw [hv]
  rw [ht] at hP1
  have hP2 := z_keepP hP hD isC hiC hk1 hP1
  have hk : Z p l e R s m args below meth c A D Q nL (cs + rm.cells) (sl + rm.slots) ws ls (.long (zL (v)) :: rest) (pc + 3) := by rw [hz.1, hz.2]; exact k
  exact hk H1 locs1 la hP2 hD hS1 hl
theorem zz_callSd {S : Type} {φ : S → Prop} {f : S → UInt64} {wo : S → va_W} {cs1 sl1 : Nat} {y : MethodName} {idx maxL na : Nat} {ret : Option FieldType} {rm : Room} {bytes : ByteArray} {As rest : List Value} {wi wr : va_W} (hC : ZC p s m args meth c A D nL cc own) (hM : CD l y bytes maxL ret rm D As wi φ f wo) (hk : GoodIn lw_all (va_wsS own idx y (zW y bytes maxL ret))) (hd : y.cls ≠ "java/lang/invoke/MethodHandle" ∧ y.cls ≠ "java/lang/invoke/VarHandle" ∧ (parseMethodDescriptor y.desc).map (fun d => d.parameters.length) = some na) (hR : rm.frames + 1 ≤ R.frames ∧ 8 + (maxL + 11) + rm.locals ≤ R.locals) (hn : As.length = na) (isC isR : List Nat) (hiC : isC.map (fun i => ws[i]?) = wi.map some) (hiR : isR.map (fun i => ws[i]?) = wr.map some) (hnd : va_nd isC = true ∧ va_nd isR = true ∧ (∀ i ∈ isR, i ∉ isC)) (hcat : (rest.map fun v => v.category).sum ≤ 8) (hst : st = As.reverse ++ rest) (hroom : cs + rm.cells ≤ R.cells ∧ sl + rm.slots ≤ R.slots) (hdg : decode cc pc = .ok (.invokestatic idx, 3)) (hcz : cs + rm.cells = cs1 ∧ sl + rm.slots = sl1) {wb : S → va_W} (isB : List Nat) (hnB : va_nd isB = true) (hB9 : ∀ u, isB.map (fun i => (wr ++ wo u)[i]?) = (wb u).map some) (k : ∀ u : S, φ u → Z p l e R s m args below meth c A D Q nL cs1 sl1 (wb u) ls (.double (f u) :: rest) (pc + 3)) : Z p l e R s m args below meth c A D Q nL cs sl ws ls st pc := by
  subst hst
  intro H locs la hP hD hS hl
  have hfm : ∀ (is : List Nat) (w : va_W), is.map (fun i => ws[i]?) = w.map some → is.filterMap (fun i => ws[i]?) = w := z_fm ws
  have hPc := hP.sub isC (hfm _ _ hiC)
  have hDc := hD.sub isC hnd.1 hiC
  have hFc := va_free hD hS hC.2.2.2.2.2.2.1 isC hiC
  refine va_calld (va_runS (As := As) (rest := rest) ⟨hC.1, hC.2.1, hC.2.2.1, hC.2.2.2.1, hC.2.2.2.2.1⟩ (hM H.size) (va_cwS na hC.2.2.2.2.1 hk rfl rfl rfl hd hR) ⟨zPre_blind, fun U hU hW => ⟨rfl, by rw [hU], by rw [hU]; exact hPc, va_K.moved hW.alike hC.2.2.2.2.2.1, hDc.weaken (fun _ _ _ _ => trivial), by rw [hU]; exact zGF.to hW hS.2.1 hFc hC.2.2.2.2.2.2.2.1⟩⟩ rfl hn hl.1 rfl (lv_room hcat) hdg hroom) hS (fun q _ h => hFc q h) hFc (fun rv u t H1 locs1 ht hvm hw hB hz1 hk1 hS1 => ?_)
  obtain ⟨hP1, -, hD1⟩ := hB
  obtain ⟨hv, hu⟩ := hw
  rw [hv]
  rw [ht] at hP1
  obtain ⟨hP2, hD2⟩ := va_join hP hD isC isR hiC hiR hnd.2.1 hnd.2.2 hk1 hFc hP1 hD1
  have hk := zz_ws isB hnB (hB9 u) (k u hu)
  rw [← hcz.1, ← hcz.2] at hk
  exact hk H1 locs1 la hP2 hD2 hS1 hl
theorem zz_pureSd {v : UInt64} {y : MethodName} {idx maxL na : Nat} {ret : Option FieldType} {rm : Room} {bytes : ByteArray} {As rest : List Value} {wi : va_W} (hC : ZC p s m args meth c A D nL cc own) (hM : CD (S := Unit) l y bytes maxL ret rm D As wi (fun _ => True) (fun _ => v) (fun _ => wi)) (hk : GoodIn lw_all (va_wsS own idx y (zW y bytes maxL ret))) (hd : y.cls ≠ "java/lang/invoke/MethodHandle" ∧ y.cls ≠ "java/lang/invoke/VarHandle" ∧ (parseMethodDescriptor y.desc).map (fun d => d.parameters.length) = some na) (hR : rm.frames + 1 ≤ R.frames ∧ 8 + (maxL + 11) + rm.locals ≤ R.locals) (hn : As.length = na) (isC : List Nat) (hiC : isC.map (fun i => ws[i]?) = wi.map some) (hnd : va_nd isC = true) (hcat : (rest.map fun v => v.category).sum ≤ 8) (hst : st = As.reverse ++ rest) (hroom : cs + rm.cells ≤ R.cells ∧ sl + rm.slots ≤ R.slots) (hdg : decode cc pc = .ok (.invokestatic idx, 3)) (hz : rm.cells = 0 ∧ rm.slots = 0) (k : Z p l e R s m args below meth c A D Q nL cs sl ws ls (.double (v) :: rest) (pc + 3)) : Z p l e R s m args below meth c A D Q nL cs sl ws ls st pc := by
  subst hst
  intro H locs la hP hD hS hl
  have hfm : ∀ (is : List Nat) (w : va_W), is.map (fun i => ws[i]?) = w.map some → is.filterMap (fun i => ws[i]?) = w := z_fm ws
  have hPc := hP.sub isC (hfm _ _ hiC)
  have hDc := hD.sub isC hnd hiC
  have hFc := va_free hD hS hC.2.2.2.2.2.2.1 isC hiC
  refine va_calld (va_runS (As := As) (rest := rest) ⟨hC.1, hC.2.1, hC.2.2.1, hC.2.2.2.1, hC.2.2.2.2.1⟩ (hM H.size) (va_cwS na hC.2.2.2.2.1 hk rfl rfl rfl hd hR) ⟨zPre_blind, fun U hU hW => ⟨rfl, by rw [hU], by rw [hU]; exact hPc, va_K.moved hW.alike hC.2.2.2.2.2.1, hDc.weaken (fun _ _ _ _ => trivial), by rw [hU]; exact zGF.to hW hS.2.1 hFc hC.2.2.2.2.2.2.2.1⟩⟩ rfl hn hl.1 rfl (lv_room hcat) hdg hroom) hS (fun q _ h => hFc q h) hFc (fun rv u t H1 locs1 ht hvm hw hB hz1 hk1 hS1 => ?_)
  obtain ⟨hP1, -, hD1⟩ := hB
  obtain ⟨hv, hu⟩ := hw
  rw [hv]
  rw [ht] at hP1
  have hP2 := z_keepP hP hD isC hiC hk1 hP1
  have hk : Z p l e R s m args below meth c A D Q nL (cs + rm.cells) (sl + rm.slots) ws ls (.double (v) :: rest) (pc + 3) := by rw [hz.1, hz.2]; exact k
  exact hk H1 locs1 la hP2 hD hS1 hl
theorem zz_callSv {S : Type} {φ : S → Prop} {wo : S → va_W} {cs1 sl1 : Nat} {y : MethodName} {idx maxL na : Nat} {ret : Option FieldType} {rm : Room} {bytes : ByteArray} {As rest : List Value} {wi wr : va_W} (hC : ZC p s m args meth c A D nL cc own) (hM : CV l y bytes maxL ret rm D As wi φ wo) (hk : GoodIn lw_all (va_wsS own idx y (zW y bytes maxL ret))) (hd : y.cls ≠ "java/lang/invoke/MethodHandle" ∧ y.cls ≠ "java/lang/invoke/VarHandle" ∧ (parseMethodDescriptor y.desc).map (fun d => d.parameters.length) = some na) (hR : rm.frames + 1 ≤ R.frames ∧ 8 + (maxL + 11) + rm.locals ≤ R.locals) (hn : As.length = na) (isC isR : List Nat) (hiC : isC.map (fun i => ws[i]?) = wi.map some) (hiR : isR.map (fun i => ws[i]?) = wr.map some) (hnd : va_nd isC = true ∧ va_nd isR = true ∧ (∀ i ∈ isR, i ∉ isC)) (hcat : (rest.map fun v => v.category).sum ≤ 8) (hst : st = As.reverse ++ rest) (hroom : cs + rm.cells ≤ R.cells ∧ sl + rm.slots ≤ R.slots) (hdg : decode cc pc = .ok (.invokestatic idx, 3)) (hcz : cs + rm.cells = cs1 ∧ sl + rm.slots = sl1) {wb : S → va_W} (isB : List Nat) (hnB : va_nd isB = true) (hB9 : ∀ u, isB.map (fun i => (wr ++ wo u)[i]?) = (wb u).map some) (k : ∀ u : S, φ u → Z p l e R s m args below meth c A D Q nL cs1 sl1 (wb u) ls rest (pc + 3)) : Z p l e R s m args below meth c A D Q nL cs sl ws ls st pc := by
  subst hst
  intro H locs la hP hD hS hl
  have hfm : ∀ (is : List Nat) (w : va_W), is.map (fun i => ws[i]?) = w.map some → is.filterMap (fun i => ws[i]?) = w := z_fm ws
  have hPc := hP.sub isC (hfm _ _ hiC)
  have hDc := hD.sub isC hnd.1 hiC
  have hFc := va_free hD hS hC.2.2.2.2.2.2.1 isC hiC
  refine va_callv (va_runS (As := As) (rest := rest) ⟨hC.1, hC.2.1, hC.2.2.1, hC.2.2.2.1, hC.2.2.2.2.1⟩ (hM H.size) (va_cwS na hC.2.2.2.2.1 hk rfl rfl rfl hd hR) ⟨zPre_blind, fun U hU hW => ⟨rfl, by rw [hU], by rw [hU]; exact hPc, va_K.moved hW.alike hC.2.2.2.2.2.1, hDc.weaken (fun _ _ _ _ => trivial), by rw [hU]; exact zGF.to hW hS.2.1 hFc hC.2.2.2.2.2.2.2.1⟩⟩ rfl hn hl.1 rfl (lv_room hcat) hdg hroom) hS (fun q _ h => hFc q h) hFc (fun u t H1 locs1 ht hvm hw hB hz1 hk1 hS1 => ?_)
  obtain ⟨hP1, -, hD1⟩ := hB
  have hu := hw
  skip
  rw [ht] at hP1
  obtain ⟨hP2, hD2⟩ := va_join hP hD isC isR hiC hiR hnd.2.1 hnd.2.2 hk1 hFc hP1 hD1
  have hk := zz_ws isB hnB (hB9 u) (k u hu)
  rw [← hcz.1, ← hcz.2] at hk
  exact hk H1 locs1 la hP2 hD2 hS1 hl
end ZK
