/-! rows for doubles over a state said whole -/
section ZR2
variable {p : Program} {l : Launch} {e : Env} {R : Room} {s : State} {m : MethodId} {args : Array Value} {below : List Frame} {meth : Method} {c : Code} {A : Nat → Prop} {D : zG} {Q : State → Prop} {nL cs sl : Nat}
variable {cc : ByteArray} {own : String} {ws : va_W} {ls : List (Nat × Value)} {st : List Value} {pc : Nat}
theorem zz_l2d (hC : ZC p s m args meth c A D nL cc own) {a : Int} (hdg : decode cc pc = .ok (.l2d, 1)) (k : Z p l e R s m args below meth c A D Q nL cs sl ws ls (.double (FP.l2d (zL a)) :: st) (pc + 1)) : Z p l e R s m args below meth c A D Q nL cs sl ws ls (.long (zL a) :: st) pc := fun H locs la hP hD hS hl => lv_l2d hC.1 hC.2.1 hdg (k H locs la hP hD hS hl)
theorem zz_ddiv (hC : ZC p s m args meth c A D nL cc own) {x y : UInt64} (hne : vf_n64 (FP.ddiv x y)) (hdg : decode cc pc = .ok (.ddiv, 1)) (k : Z p l e R s m args below meth c A D Q nL cs sl ws ls (.double (FP.ddiv x y) :: st) (pc + 1)) : Z p l e R s m args below meth c A D Q nL cs sl ws ls (.double y :: .double x :: st) pc := fun H locs la hP hD hS hl => lv_ddiv hC.1 hC.2.1 hdg hne (k H locs la hP hD hS hl)
theorem zz_dconst0 (hC : ZC p s m args meth c A D nL cc own) (hdg : decode cc pc = .ok (.dconst 0, 1)) (k : Z p l e R s m args below meth c A D Q nL cs sl ws ls (.double FP.dconst0 :: st) (pc + 1)) : Z p l e R s m args below meth c A D Q nL cs sl ws ls st pc := fun H locs la hP hD hS hl => lv_dconst0 hC.1 hC.2.1 hdg (k H locs la hP hD hS hl)
end ZR2
