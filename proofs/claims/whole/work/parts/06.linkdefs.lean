/-- the field k of the class ci, by its place idx in own's pool -/
def zFL (own : String) (idx ci k : Nat) (C : String) (T : u_T) (N : Nat) : Prop := vwCl[ci]? = some (C, T, N) ∧ (∀ w ∈ u_ws C T N, w ∈ lw_all) ∧ k < N ∧ Cond.fieldLink own idx (T k).1 (T k).2.1 (T k).2.2.1 ∈ lw_all
def zFN (own : String) (idx ci k : Nat) (C : String) (T : u_T) (N : Nat) : Prop := vwCl[ci]? = some (C, T, N) ∧ (∀ w ∈ u_ws C T N, w ∈ lw_all) ∧ k < N ∧ Cond.fieldLinkNest own idx (T k).1 (T k).2.1 (T k).2.2.1 "DischargeRecorder" ∈ zNest
/-- what a class's fields are, for writing -/
def zFC (ci : Nat) (C : String) (T : u_T) (N : Nat) (ty : Nat → FieldType) : Prop := (∀ k, k < N → parseFieldDescriptor (T k).2.2.1 = some (ty k)) ∧ (∀ a, a < N → ∀ b, b < N → a ≠ b → (T a).2.1 ≠ (T b).2.1)
theorem z_good {y : MethodName} {c : ByteArray} {n : Nat} {ret : Option FieldType} (h : Cond.code y c n ret ∈ lw_all) : GoodIn lw_all (zW y c n ret) := fun w hw => (List.mem_cons.mp hw).elim (fun e => by rw [e]; exact lw_all_good _ h) (lw_all_good w)
theorem z_goodV {own C : String} {idx : Nat} {y : MethodName} {c : ByteArray} {n : Nat} {ret : Option FieldType} (h0 : Cond.methodLink own idx y ∈ lw_all) (h1 : Cond.instanceMethod y ∈ lw_all) (h2 : Cond.selects C y y ∈ lw_all) (h3 : Cond.initialized C ∈ lw_all) (h : Cond.code y c n ret ∈ lw_all) : GoodIn lw_all (wsV own idx C y (zW y c n ret)) := fun w hw => by
  rcases List.mem_append.mp hw with hw | hw
  · simp only [List.mem_cons, List.not_mem_nil, or_false] at hw
    rcases hw with rfl | rfl | rfl | rfl
    · exact lw_all_good _ h0
    · exact lw_all_good _ h1
    · exact lw_all_good _ h2
    · exact lw_all_good _ h3
  · exact z_good h w hw
theorem z_goodS {own : String} {idx : Nat} {y : MethodName} {c : ByteArray} {n : Nat} {ret : Option FieldType} (h0 : Cond.methodLink own idx y ∈ lw_all) (h1 : Cond.static y ∈ lw_all) (h2 : Cond.initialized y.cls ∈ lw_all) (h : Cond.code y c n ret ∈ lw_all) : GoodIn lw_all (va_wsS own idx y (zW y c n ret)) := fun w hw => by
  rcases List.mem_append.mp hw with hw | hw
  · simp only [List.mem_cons, List.not_mem_nil, or_false] at hw
    rcases hw with rfl | rfl | rfl
    · exact lw_all_good _ h0
    · exact lw_all_good _ h1
    · exact lw_all_good _ h2
  · exact z_good h w hw
