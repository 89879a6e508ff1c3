/-! what a throw needs of the tables -/
def zIsDecl : Cond → Bool
  | .declares _ => true
  | _ => false
theorem tw_of {args : Array Value} {s : State} {A : Nat → Prop} {H : Heap} {L : List Cond} (c : Cond) (h1 : L.all (fun w => decide (w ∈ lw_tbl)) = true) (h2 : L.all (fun w => goodWord w || decide (w = c) || zIsDecl w) = true) (hc : c ∈ zNest) (hco : c.onTables = true) (hts : ∀ w ∈ lw_all, w.before args s = true) (hG : zGF A s H) : ∀ w ∈ L, w.before args s = true := by
  intro w hw
  have a1 := of_decide_eq_true (List.all_eq_true.mp h1 w hw)
  have a2 := List.all_eq_true.mp h2 w hw
  cases hg : goodWord w with
  | true => exact hts w (List.mem_filter.mpr ⟨a1, hg⟩)
  | false =>
    rw [hg] at a2
    simp only [Bool.false_or, Bool.or_eq_true, decide_eq_true_eq] at a2
    rcases a2 with a2 | a2
    · rw [a2]
      exact va_Nw.use hco (hG.2.2.2.2.2.1 c hc)
    · cases w <;> first | exact va_Nw.use rfl (hG.2.2.2.2.2.2.2.2.2 _ a1) | exact absurd a2 (by simp [zIsDecl])

theorem tw_IAE_1 : (vx_atS RX5 63 "java/lang/IllegalArgumentException" ["java/lang/RuntimeException", "java/lang/Exception"]).all (fun w => decide (w ∈ lw_tbl)) = true := by decide +kernel
theorem tw_IAE_2 : (vx_atS RX5 63 "java/lang/IllegalArgumentException" ["java/lang/RuntimeException", "java/lang/Exception"]).all (fun w => goodWord w || decide (w = .castable "java/lang/IllegalArgumentException" "java/lang/IllegalArgumentException") || zIsDecl w) = true := by decide +kernel
theorem tw_IAE_3 : ∀ w ∈ Cond.classLink RX5 59 "java/lang/IllegalArgumentException" :: Cond.initialized "java/lang/IllegalArgumentException" :: vx_atS RX5 63 "java/lang/IllegalArgumentException" ["java/lang/RuntimeException", "java/lang/Exception"], vx_ot w = true := List.all_eq_true.mp (by decide +kernel)
theorem tw_IAE_4 : Cond.classLink RX5 59 "java/lang/IllegalArgumentException" ∈ lw_all ∧ Cond.initialized "java/lang/IllegalArgumentException" ∈ lw_all ∧ Cond.castable "java/lang/IllegalArgumentException" "java/lang/IllegalArgumentException" ∈ zNest := ⟨lw_at 467 (by decide +kernel) rfl, lw_at 94 (by decide +kernel) rfl, zn_at 469 (by decide +kernel) rfl⟩
theorem tw_ISE_1 : (vx_atS RX5 87 "java/lang/IllegalStateException" ["java/lang/RuntimeException", "java/lang/Exception"]).all (fun w => decide (w ∈ lw_tbl)) = true := by decide +kernel
theorem tw_ISE_2 : (vx_atS RX5 87 "java/lang/IllegalStateException" ["java/lang/RuntimeException", "java/lang/Exception"]).all (fun w => goodWord w || decide (w = .castable "java/lang/IllegalStateException" "java/lang/IllegalStateException") || zIsDecl w) = true := by decide +kernel
theorem tw_ISE_3 : ∀ w ∈ Cond.classLink RX5 83 "java/lang/IllegalStateException" :: Cond.initialized "java/lang/IllegalStateException" :: vx_atS RX5 87 "java/lang/IllegalStateException" ["java/lang/RuntimeException", "java/lang/Exception"], vx_ot w = true := List.all_eq_true.mp (by decide +kernel)
theorem tw_ISE_4 : Cond.classLink RX5 83 "java/lang/IllegalStateException" ∈ lw_all ∧ Cond.initialized "java/lang/IllegalStateException" ∈ lw_all ∧ Cond.castable "java/lang/IllegalStateException" "java/lang/IllegalStateException" ∈ zNest := ⟨lw_at 552 (by decide +kernel) rfl, lw_at 96 (by decide +kernel) rfl, zn_at 554 (by decide +kernel) rfl⟩
theorem tw_IOB_1 : (vx_atS RX5 147 "java/lang/IndexOutOfBoundsException" ["java/lang/RuntimeException", "java/lang/Exception"]).all (fun w => decide (w ∈ lw_tbl)) = true := by decide +kernel
theorem tw_IOB_2 : (vx_atS RX5 147 "java/lang/IndexOutOfBoundsException" ["java/lang/RuntimeException", "java/lang/Exception"]).all (fun w => goodWord w || decide (w = .castable "java/lang/IndexOutOfBoundsException" "java/lang/IndexOutOfBoundsException") || zIsDecl w) = true := by decide +kernel
theorem tw_IOB_3 : ∀ w ∈ Cond.classLink RX5 143 "java/lang/IndexOutOfBoundsException" :: Cond.initialized "java/lang/IndexOutOfBoundsException" :: vx_atS RX5 147 "java/lang/IndexOutOfBoundsException" ["java/lang/RuntimeException", "java/lang/Exception"], vx_ot w = true := List.all_eq_true.mp (by decide +kernel)
theorem tw_IOB_4 : Cond.classLink RX5 143 "java/lang/IndexOutOfBoundsException" ∈ lw_all ∧ Cond.initialized "java/lang/IndexOutOfBoundsException" ∈ lw_all ∧ Cond.castable "java/lang/IndexOutOfBoundsException" "java/lang/IndexOutOfBoundsException" ∈ zNest := ⟨lw_at 614 (by decide +kernel) rfl, lw_at 97 (by decide +kernel) rfl, zn_at 616 (by decide +kernel) rfl⟩
theorem str_61 : Cond.stringRef "DischargeRecorder" 61 "what or value is out of range" ∈ lw_tbl := List.mem_of_getElem? (i := 508) (by decide +kernel)
theorem str_75 : Cond.stringRef "DischargeRecorder" 75 "what is out of range" ∈ lw_tbl := List.mem_of_getElem? (i := 542) (by decide +kernel)
theorem str_77 : Cond.stringRef "DischargeRecorder" 77 "first or last is out of range" ∈ lw_tbl := List.mem_of_getElem? (i := 551) (by decide +kernel)
theorem str_85 : Cond.stringRef "DischargeRecorder" 85 "there are 4 windows" ∈ lw_tbl := List.mem_of_getElem? (i := 561) (by decide +kernel)
theorem str_97 : Cond.stringRef "DischargeRecorder" 97 "an argument is out of range" ∈ lw_tbl := List.mem_of_getElem? (i := 579) (by decide +kernel)
theorem str_102 : Cond.stringRef "DischargeRecorder" 102 "there are 250 pulses" ∈ lw_tbl := List.mem_of_getElem? (i := 580) (by decide +kernel)
theorem str_108 : Cond.stringRef "DischargeRecorder" 108 "time is out of range" ∈ lw_tbl := List.mem_of_getElem? (i := 588) (by decide +kernel)
theorem str_114 : Cond.stringRef "DischargeRecorder" 114 "value is out of range" ∈ lw_tbl := List.mem_of_getElem? (i := 600) (by decide +kernel)
theorem str_119 : Cond.stringRef "DischargeRecorder" 119 "the text has 150 bytes" ∈ lw_tbl := List.mem_of_getElem? (i := 601) (by decide +kernel)
theorem str_145 : Cond.stringRef "DischargeRecorder" 145 "there is no such pulse" ∈ lw_tbl := List.mem_of_getElem? (i := 623) (by decide +kernel)
theorem str_155 : Cond.stringRef "DischargeRecorder" 155 "status is out of range" ∈ lw_tbl := List.mem_of_getElem? (i := 637) (by decide +kernel)
theorem str_163 : Cond.stringRef "DischargeRecorder" 163 "bin or level is out of range" ∈ lw_tbl := List.mem_of_getElem? (i := 650) (by decide +kernel)
theorem str_178 : Cond.stringRef "DischargeRecorder" 178 "from or to is out of range" ∈ lw_tbl := List.mem_of_getElem? (i := 671) (by decide +kernel)
theorem str_211 : Cond.stringRef "DischargeRecorder" 211 "there is no such burst" ∈ lw_tbl := List.mem_of_getElem? (i := 744) (by decide +kernel)
theorem str_217 : Cond.stringRef "DischargeRecorder" 217 "interval is out of range" ∈ lw_tbl := List.mem_of_getElem? (i := 756) (by decide +kernel)
theorem str_254 : Cond.stringRef "DischargeRecorder" 254 "most is out of range" ∈ lw_tbl := List.mem_of_getElem? (i := 788) (by decide +kernel)
theorem str_262 : Cond.stringRef "DischargeRecorder" 262 "there is no saved state" ∈ lw_tbl := List.mem_of_getElem? (i := 800) (by decide +kernel)

def zXC {SX : Type} (D : zG) (A : Nat → Prop) (χ : String → SX → Prop) (wx : SX → va_W) : String → State → State → Prop := vx_X (fun _ : SX => True) (fun E u t => χ E u ∧ zPost D A wx u t) A
theorem z_keptP {D : zG} {ws : va_W} {H H1 : Heap} (hP : va_P D.1 vwCl ws H) (hk : ∀ q : Nat, q < H.size → H1[q]? = H[q]?) : va_P D.1 vwCl ws H1 := fun k q hq => (hP k q hq).kept (hk q.1 (hP k q hq).lt)
def XI {S SX : Type} (l : Launch) (y : MethodName) (c : ByteArray) (n : Nat) (ret : Option FieldType) (rm : Room) (D : zG) (av : List Value) (wi : va_W) (φ : S → Prop) (f : S → Int) (wo : S → va_W) (χ : String → SX → Prop) (wx : SX → va_W) : Prop := ∀ sz : Nat, vx_Met l y (zW y c n ret) rm (va_Pc av (zPre D wi sz)) (va_Qi (fun r u => r = zI (f u) ∧ φ u) (zPost D (va_A wi sz) wo) (va_A wi sz)) (zXC D (va_A wi sz) χ wx) rm.cells rm.slots (va_A wi sz)
theorem XI_of {S SX : Type} {l : Launch} {y : MethodName} {c : ByteArray} {n : Nat} {ret : Option FieldType} {rm : Room} {D : zG} {av : List Value} {wi : va_W} {φ : S → Prop} {f : S → Int} {wo : S → va_W} {χ : String → SX → Prop} {wx : SX → va_W} (hy : plainName y.cls = true) (hn : (lg_sl av).length ≤ n) (body : ∀ (p : Program) (e : Env) (s : State) (m : MethodId) (args : Array Value) (below : List Frame) (meth : Method) (cd : Code) (A : Nat → Prop) (Q : State → Prop), Q = vx_MQ below (va_Qi (fun r u => r = zI (f u) ∧ φ u) (zPost D A wo) A) (zXC D A χ wx) args s rm.cells rm.slots A → ZC p s m args meth cd A D n c y.cls → meth.sig.returnType = ret → (∀ x ∈ cd.exceptionTable.toList, False) → Z p l e rm s m args below meth cd A D Q n 0 0 wi (lv_args 0 av) [] 0) : XI l y c n ret rm D av wi φ f wo χ wx := by
  intro sz
  refine vx_ofW (cc := c) (maxL := n) (ret := ret) hy rfl ?_
  intro p e s m args below meth cd s₁ B hml htab hv
  obtain ⟨rfl, hsz, hP, hK, hD0, hG⟩ := hv
  subst hsz
  have hts := atoms_spec (ws := zW y c n ret) B.pre
  rw [lg_entry_eq]
  exact body p e s m _ below meth cd (va_A wi s.heap.size) _ rfl ⟨B.exec, B.bytes, hml, findClass_of_methodNamed B.named, fun w hw => hts w (List.mem_cons_of_mem _ hw), hK, fun q h => Or.inr h, hG, B.notSynchronized⟩ B.returns htab s.heap [] _ hP (hD0.self (sz := s.heap.size)) va_S.rf (lv_entry av hn)
def XL {S SX : Type} (l : Launch) (y : MethodName) (c : ByteArray) (n : Nat) (ret : Option FieldType) (rm : Room) (D : zG) (av : List Value) (wi : va_W) (φ : S → Prop) (f : S → Int) (wo : S → va_W) (χ : String → SX → Prop) (wx : SX → va_W) : Prop := ∀ sz : Nat, vx_Met l y (zW y c n ret) rm (va_Pc av (zPre D wi sz)) (va_Ql (fun r u => r = zL (f u) ∧ φ u) (zPost D (va_A wi sz) wo) (va_A wi sz)) (zXC D (va_A wi sz) χ wx) rm.cells rm.slots (va_A wi sz)
theorem XL_of {S SX : Type} {l : Launch} {y : MethodName} {c : ByteArray} {n : Nat} {ret : Option FieldType} {rm : Room} {D : zG} {av : List Value} {wi : va_W} {φ : S → Prop} {f : S → Int} {wo : S → va_W} {χ : String → SX → Prop} {wx : SX → va_W} (hy : plainName y.cls = true) (hn : (lg_sl av).length ≤ n) (body : ∀ (p : Program) (e : Env) (s : State) (m : MethodId) (args : Array Value) (below : List Frame) (meth : Method) (cd : Code) (A : Nat → Prop) (Q : State → Prop), Q = vx_MQ below (va_Ql (fun r u => r = zL (f u) ∧ φ u) (zPost D A wo) A) (zXC D A χ wx) args s rm.cells rm.slots A → ZC p s m args meth cd A D n c y.cls → meth.sig.returnType = ret → (∀ x ∈ cd.exceptionTable.toList, False) → Z p l e rm s m args below meth cd A D Q n 0 0 wi (lv_args 0 av) [] 0) : XL l y c n ret rm D av wi φ f wo χ wx := by
  intro sz
  refine vx_ofW (cc := c) (maxL := n) (ret := ret) hy rfl ?_
  intro p e s m args below meth cd s₁ B hml htab hv
  obtain ⟨rfl, hsz, hP, hK, hD0, hG⟩ := hv
  subst hsz
  have hts := atoms_spec (ws := zW y c n ret) B.pre
  rw [lg_entry_eq]
  exact body p e s m _ below meth cd (va_A wi s.heap.size) _ rfl ⟨B.exec, B.bytes, hml, findClass_of_methodNamed B.named, fun w hw => hts w (List.mem_cons_of_mem _ hw), hK, fun q h => Or.inr h, hG, B.notSynchronized⟩ B.returns htab s.heap [] _ hP (hD0.self (sz := s.heap.size)) va_S.rf (lv_entry av hn)
def XD {S SX : Type} (l : Launch) (y : MethodName) (c : ByteArray) (n : Nat) (ret : Option FieldType) (rm : Room) (D : zG) (av : List Value) (wi : va_W) (φ : S → Prop) (f : S → UInt64) (wo : S → va_W) (χ : String → SX → Prop) (wx : SX → va_W) : Prop := ∀ sz : Nat, vx_Met l y (zW y c n ret) rm (va_Pc av (zPre D wi sz)) (va_Qd (fun r u => r = f u ∧ φ u) (zPost D (va_A wi sz) wo) (va_A wi sz)) (zXC D (va_A wi sz) χ wx) rm.cells rm.slots (va_A wi sz)
theorem XD_of {S SX : Type} {l : Launch} {y : MethodName} {c : ByteArray} {n : Nat} {ret : Option FieldType} {rm : Room} {D : zG} {av : List Value} {wi : va_W} {φ : S → Prop} {f : S → UInt64} {wo : S → va_W} {χ : String → SX → Prop} {wx : SX → va_W} (hy : plainName y.cls = true) (hn : (lg_sl av).length ≤ n) (body : ∀ (p : Program) (e : Env) (s : State) (m : MethodId) (args : Array Value) (below : List Frame) (meth : Method) (cd : Code) (A : Nat → Prop) (Q : State → Prop), Q = vx_MQ below (va_Qd (fun r u => r = f u ∧ φ u) (zPost D A wo) A) (zXC D A χ wx) args s rm.cells rm.slots A → ZC p s m args meth cd A D n c y.cls → meth.sig.returnType = ret → (∀ x ∈ cd.exceptionTable.toList, False) → Z p l e rm s m args below meth cd A D Q n 0 0 wi (lv_args 0 av) [] 0) : XD l y c n ret rm D av wi φ f wo χ wx := by
  intro sz
  refine vx_ofW (cc := c) (maxL := n) (ret := ret) hy rfl ?_
  intro p e s m args below meth cd s₁ B hml htab hv
  obtain ⟨rfl, hsz, hP, hK, hD0, hG⟩ := hv
  subst hsz
  have hts := atoms_spec (ws := zW y c n ret) B.pre
  rw [lg_entry_eq]
  exact body p e s m _ below meth cd (va_A wi s.heap.size) _ rfl ⟨B.exec, B.bytes, hml, findClass_of_methodNamed B.named, fun w hw => hts w (List.mem_cons_of_mem _ hw), hK, fun q h => Or.inr h, hG, B.notSynchronized⟩ B.returns htab s.heap [] _ hP (hD0.self (sz := s.heap.size)) va_S.rf (lv_entry av hn)
section ZX
variable {p : Program} {l : Launch} {e : Env} {R : Room} {s : State} {m : MethodId} {args : Array Value} {below : List Frame} {meth : Method} {c : Code} {A : Nat → Prop} {D : zG} {Q : State → Prop} {nL cs sl : Nat}
variable {cc : ByteArray} {own : String} {ws : va_W} {ls : List (Nat × Value)} {st : List Value} {pc : Nat}
theorem zz_xiret {S SX : Type} {φ : S → Prop} {f : S → Int} {wo : S → va_W} {χ : String → SX → Prop} {wx : SX → va_W} {mc ms : Nat} (hC : ZC p s m args meth c A D nL cc own) (hQ : Q = vx_MQ below (va_Qi (fun r u => r = zI (f u) ∧ φ u) (zPost D A wo) A) (zXC D A χ wx) args s mc ms A) (hr : meth.sig.returnType = some .int) (u : S) (hu : φ u) {v : Int} (hv : v = f u) (is : List Nat) (hn : va_nd is = true) (hw : is.map (fun i => ws[i]?) = (wo u).map some) (hc : cs ≤ mc ∧ sl ≤ ms) (hdg : decode cc pc = .ok (.ireturn, 1)) : Z p l e R s m args below meth c A D Q nL cs sl ws ls [.int (zI (v))] pc := by
  subst hQ
  refine zz_ws is hn hw ?_
  intro H locs la hP9 hD9 hS hl
  refine vx_ret ?_
  refine W.widen hc.1 hc.2 ?_
  exact W.iret hC.1 hC.2.1 hr (fun t ht hW => ⟨⟨_, u, rfl, ⟨by rw [hv], hu⟩, by rw [ht]; exact hP9, va_K.moved hW.alike hC.2.2.2.2.2.1, hD9⟩, hS.F ht⟩) hS.2.2 hdg hC.2.2.2.2.2.2.2.2
theorem zz_xlret {S SX : Type} {φ : S → Prop} {f : S → Int} {wo : S → va_W} {χ : String → SX → Prop} {wx : SX → va_W} {mc ms : Nat} (hC : ZC p s m args meth c A D nL cc own) (hQ : Q = vx_MQ below (va_Ql (fun r u => r = zL (f u) ∧ φ u) (zPost D A wo) A) (zXC D A χ wx) args s mc ms A) (hr : meth.sig.returnType = some .long) (u : S) (hu : φ u) {v : Int} (hv : v = f u) (is : List Nat) (hn : va_nd is = true) (hw : is.map (fun i => ws[i]?) = (wo u).map some) (hc : cs ≤ mc ∧ sl ≤ ms) (hdg : decode cc pc = .ok (.lreturn, 1)) : Z p l e R s m args below meth c A D Q nL cs sl ws ls [.long (zL (v))] pc := by
  subst hQ
  refine zz_ws is hn hw ?_
  intro H locs la hP9 hD9 hS hl
  refine vx_ret ?_
  refine W.widen hc.1 hc.2 ?_
  exact W.lret hC.1 hC.2.1 hr (fun t ht hW => ⟨⟨_, u, rfl, ⟨by rw [hv], hu⟩, by rw [ht]; exact hP9, va_K.moved hW.alike hC.2.2.2.2.2.1, hD9⟩, hS.F ht⟩) hS.2.2 hdg hC.2.2.2.2.2.2.2.2
theorem zz_xdret {S SX : Type} {φ : S → Prop} {f : S → UInt64} {wo : S → va_W} {χ : String → SX → Prop} {wx : SX → va_W} {mc ms : Nat} (hC : ZC p s m args meth c A D nL cc own) (hQ : Q = vx_MQ below (va_Qd (fun r u => r = f u ∧ φ u) (zPost D A wo) A) (zXC D A χ wx) args s mc ms A) (hr : meth.sig.returnType = some .double) (u : S) (hu : φ u) {v : UInt64} (hv : v = f u) (is : List Nat) (hn : va_nd is = true) (hw : is.map (fun i => ws[i]?) = (wo u).map some) (hc : cs ≤ mc ∧ sl ≤ ms) (hdg : decode cc pc = .ok (.dreturn, 1)) : Z p l e R s m args below meth c A D Q nL cs sl ws ls [.double (v)] pc := by
  subst hQ
  refine zz_ws is hn hw ?_
  intro H locs la hP9 hD9 hS hl
  refine vx_ret ?_
  refine W.widen hc.1 hc.2 ?_
  exact W.dret hC.1 hC.2.1 hr (fun t ht hW => ⟨⟨_, u, rfl, ⟨by rw [hv], hu⟩, by rw [ht]; exact hP9, va_K.moved hW.alike hC.2.2.2.2.2.1, hD9⟩, hS.F ht⟩) hS.2.2 hdg hC.2.2.2.2.2.2.2.2
theorem zz_throw {SX : Type} {Qc : Array Value → State → Outcome → State → Prop} {χ : String → SX → Prop} {wx : SX → va_W} {mc ms : Nat} (hC : ZC p s m args meth c A D nL cc RX5) (hQ : Q = vx_MQ below Qc (zXC D A χ wx) args s mc ms A) (hls : l.stackTraces = false) (htab : ∀ x ∈ c.exceptionTable.toList, False) {cls text : String} {ik is ic : Nat} (hcls : Bundle.fit cls = true) (hw1 : (vx_atS RX5 ic cls ["java/lang/RuntimeException", "java/lang/Exception"]).all (fun w => decide (w ∈ lw_tbl)) = true) (hw2 : (vx_atS RX5 ic cls ["java/lang/RuntimeException", "java/lang/Exception"]).all (fun w => goodWord w || decide (w = .castable cls cls) || zIsDecl w) = true) (hw3 : ∀ w ∈ Cond.classLink RX5 ik cls :: Cond.initialized cls :: vx_atS RX5 ic cls ["java/lang/RuntimeException", "java/lang/Exception"], vx_ot w = true) (hw4 : Cond.classLink RX5 ik cls ∈ lw_all ∧ Cond.initialized cls ∈ lw_all ∧ Cond.castable cls cls ∈ zNest) (hstr : Cond.stringRef "DischargeRecorder" is text ∈ lw_tbl) (u : SX) (hu : χ cls u) (isw : List Nat) (hn : va_nd isw = true) (hw : isw.map (fun i => ws[i]?) = (wx u).map some)
    (d0 : decode cc pc = .ok (.new ik, 3)) (d3 : decode cc (pc + 3) = .ok (.dup, 1)) (d4 : decode cc (pc + 4) = .ok (.ldc is, 2)) (d6 : decode cc (pc + 6) = .ok (.invokespecial ic, 3)) (d9 : decode cc (pc + 9) = .ok (.athrow, 1)) (hR : 5 < R.frames ∧ 90 ≤ R.locals ∧ cs + 1 ≤ R.cells ∧ sl + 6 ≤ R.slots) (hc : cs + 1 ≤ mc ∧ sl + 6 ≤ ms) : Z p l e R s m args below meth c A D Q nL cs sl ws ls [] pc := by
  subst hQ
  refine zz_ws isw hn hw ?_
  obtain ⟨sa, hsa⟩ := hC.2.2.2.2.2.2.2.1.2.2.2.2.2.2.1 is text hstr
  intro H locs la hP9 hD9 hS hl
  exact vx_throwS (own := RX5) (sa := sa) (text := text) (A := A) (names := ["java/lang/RuntimeException", "java/lang/Exception"]) hC.1 hC.2.1 hls hC.2.2.2.1 hcls (by decide) (hC.2.2.2.2.1 _ hw4.1) (hC.2.2.2.2.1 _ hw4.2.1) hsa (tw_of _ hw1 hw2 hw4.2.2 rfl hC.2.2.2.2.1 hC.2.2.2.2.2.2.2.1) hw3 hC.2.2.2.2.2.2.2.1.2.2.2.1 hC.2.2.2.2.2.2.2.1.2.2.2.2.1 hS (by rw [hC.2.2.1]; exact hl.1) d0 d3 d4 d6 d9 (fun x hx => (htab x hx).elim) (by have := hR.1; simpa using this) (by have := hR.2.1; simp only [List.map_nil, List.sum_nil, List.length_cons, List.length_nil]; omega) hR.2.2.1 hR.2.2.2 hC.2.2.2.2.2.2.2.2 (fun t hvm hsz hk => ⟨u, trivial, ⟨hu, z_keptP hP9 hk, va_K.moved hvm hC.2.2.2.2.2.1, hD9⟩, Nat.le_trans hS.1 hsz, fun q h1 h2 => by rw [hk q (Nat.lt_of_lt_of_le h1 hS.1)]; exact hS.2.1 q h1 h2⟩) hS.2.2 hc.1 hc.2
theorem zz_throwW {SX : Type} {Qc : Array Value → State → Outcome → State → Prop} {χ : String → SX → Prop} {wx : SX → va_W} {mc ms : Nat} (hC : ZC p s m args meth c A D nL cc RX5) (hQ : Q = vx_MQ below Qc (zXC D A χ wx) args s mc ms A) (hls : l.stackTraces = false) (htab : ∀ x ∈ c.exceptionTable.toList, False) {cls text : String} {ik is ic : Nat} (hcls : Bundle.fit cls = true) (hw1 : (vx_atS RX5 ic cls ["java/lang/RuntimeException", "java/lang/Exception"]).all (fun w => decide (w ∈ lw_tbl)) = true) (hw2 : (vx_atS RX5 ic cls ["java/lang/RuntimeException", "java/lang/Exception"]).all (fun w => goodWord w || decide (w = .castable cls cls) || zIsDecl w) = true) (hw3 : ∀ w ∈ Cond.classLink RX5 ik cls :: Cond.initialized cls :: vx_atS RX5 ic cls ["java/lang/RuntimeException", "java/lang/Exception"], vx_ot w = true) (hw4 : Cond.classLink RX5 ik cls ∈ lw_all ∧ Cond.initialized cls ∈ lw_all ∧ Cond.castable cls cls ∈ zNest) (hstr : Cond.stringRef "DischargeRecorder" is text ∈ lw_tbl) (u : SX) (hu : χ cls u) (isw : List Nat) (hn : va_nd isw = true) (hw : isw.map (fun i => ws[i]?) = (wx u).map some)
    (d0 : decode cc pc = .ok (.new ik, 3)) (d3 : decode cc (pc + 3) = .ok (.dup, 1)) (d4 : decode cc (pc + 4) = .ok (.ldc_w is, 3)) (d6 : decode cc (pc + 7) = .ok (.invokespecial ic, 3)) (d9 : decode cc (pc + 10) = .ok (.athrow, 1)) (hR : 5 < R.frames ∧ 90 ≤ R.locals ∧ cs + 1 ≤ R.cells ∧ sl + 6 ≤ R.slots) (hc : cs + 1 ≤ mc ∧ sl + 6 ≤ ms) : Z p l e R s m args below meth c A D Q nL cs sl ws ls [] pc := by
  subst hQ
  refine zz_ws isw hn hw ?_
  obtain ⟨sa, hsa⟩ := hC.2.2.2.2.2.2.2.1.2.2.2.2.2.2.1 is text hstr
  intro H locs la hP9 hD9 hS hl
  exact vx_throwSW (own := RX5) (sa := sa) (text := text) (A := A) (names := ["java/lang/RuntimeException", "java/lang/Exception"]) hC.1 hC.2.1 hls hC.2.2.2.1 hcls (by decide) (hC.2.2.2.2.1 _ hw4.1) (hC.2.2.2.2.1 _ hw4.2.1) hsa (tw_of _ hw1 hw2 hw4.2.2 rfl hC.2.2.2.2.1 hC.2.2.2.2.2.2.2.1) hw3 hC.2.2.2.2.2.2.2.1.2.2.2.1 hC.2.2.2.2.2.2.2.1.2.2.2.2.1 hS (by rw [hC.2.2.1]; exact hl.1) d0 d3 d4 d6 d9 (fun x hx => (htab x hx).elim) (by have := hR.1; simpa using this) (by have := hR.2.1; simp only [List.map_nil, List.sum_nil, List.length_cons, List.length_nil]; omega) hR.2.2.1 hR.2.2.2 hC.2.2.2.2.2.2.2.2 (fun t hvm hsz hk => ⟨u, trivial, ⟨hu, z_keptP hP9 hk, va_K.moved hvm hC.2.2.2.2.2.1, hD9⟩, Nat.le_trans hS.1 hsz, fun q h1 h2 => by rw [hk q (Nat.lt_of_lt_of_le h1 hS.1)]; exact hS.2.1 q h1 h2⟩) hS.2.2 hc.1 hc.2
end ZX
