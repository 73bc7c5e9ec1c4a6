/-- private methods of Tokens, called on its two heirs -/
def j_ext : List Cond := [.selects "OneVerb$LandReader" ⟨"OneVerb$Tokens", "skipBlanks", "()V"⟩ ⟨"OneVerb$Tokens", "skipBlanks", "()V"⟩, .selects "OneVerb$SayingReader" ⟨"OneVerb$Tokens", "skipBlanks", "()V"⟩ ⟨"OneVerb$Tokens", "skipBlanks", "()V"⟩, .selects "OneVerb$LandReader" ⟨"OneVerb$Tokens", "scanWord", "()V"⟩ ⟨"OneVerb$Tokens", "scanWord", "()V"⟩, .selects "OneVerb$SayingReader" ⟨"OneVerb$Tokens", "scanWord", "()V"⟩ ⟨"OneVerb$Tokens", "scanWord", "()V"⟩, .selects "OneVerb$LandReader" ⟨"OneVerb$Tokens", "scanNumber", "()V"⟩ ⟨"OneVerb$Tokens", "scanNumber", "()V"⟩, .selects "OneVerb$SayingReader" ⟨"OneVerb$Tokens", "scanNumber", "()V"⟩ ⟨"OneVerb$Tokens", "scanNumber", "()V"⟩]
def j_tbl : List Cond := lw_tbl.filter goodWord ++ j_ext
theorem j_x {w : Cond} (i : Nat) (h : j_ext[i]? = some w) : w ∈ j_tbl := List.mem_append_right _ (List.mem_of_getElem? h)
theorem j_tbl_good : ∀ w ∈ j_tbl, goodWord w = true := by
  intro w hw
  rcases List.mem_append.mp hw with h | h
  · exact (List.mem_filter.mp h).2
  · simp only [j_ext, List.mem_cons, List.not_mem_nil, or_false] at h
    rcases h with rfl | rfl | rfl | rfl | rfl | rfl <;> rfl
theorem j_in {w : Cond} (i : Nat) (h : (lw_tbl[i]? = some w) ∧ goodWord w = true) : w ∈ j_tbl := List.mem_append_left _ (List.mem_filter.mpr ⟨List.mem_of_getElem? h.1, h.2⟩)
theorem j_c1 {w : Cond} (i : Nat) (h : (tables_1_1[i]? = some w) ∧ goodWord w = true) : w ∈ j_tbl := List.mem_append_left _ (List.mem_filter.mpr ⟨List.mem_append_right _ (List.mem_append_left _ (List.mem_of_getElem? h.1)), h.2⟩)
theorem j_c2 {w : Cond} (i : Nat) (h : (tables_1_2[i]? = some w) ∧ goodWord w = true) : w ∈ j_tbl := List.mem_append_left _ (List.mem_filter.mpr ⟨List.mem_append_right _ (List.mem_append_right _ (List.mem_append_left _ (List.mem_of_getElem? h.1))), h.2⟩)
theorem j_c3 {w : Cond} (i : Nat) (h : (tables_1_3[i]? = some w) ∧ goodWord w = true) : w ∈ j_tbl := List.mem_append_left _ (List.mem_filter.mpr ⟨List.mem_append_right _ (List.mem_append_right _ (List.mem_append_right _ (List.mem_append_left _ (List.mem_of_getElem? h.1)))), h.2⟩)
theorem j_c4 {w : Cond} (i : Nat) (h : (tables_1_4[i]? = some w) ∧ goodWord w = true) : w ∈ j_tbl := List.mem_append_left _ (List.mem_filter.mpr ⟨List.mem_append_right _ (List.mem_append_right _ (List.mem_append_right _ (List.mem_append_right _ (List.mem_append_left _ (List.mem_of_getElem? h.1))))), h.2⟩)
theorem j_c5 {w : Cond} (i : Nat) (h : (tables_1_5[i]? = some w) ∧ goodWord w = true) : w ∈ j_tbl := List.mem_append_left _ (List.mem_filter.mpr ⟨List.mem_append_right _ (List.mem_append_right _ (List.mem_append_right _ (List.mem_append_right _ (List.mem_append_right _ (List.mem_append_left _ (List.mem_of_getElem? h.1)))))), h.2⟩)
theorem j_c6 {w : Cond} (i : Nat) (h : (tables_1_6[i]? = some w) ∧ goodWord w = true) : w ∈ j_tbl := List.mem_append_left _ (List.mem_filter.mpr ⟨List.mem_append_right _ (List.mem_append_right _ (List.mem_append_right _ (List.mem_append_right _ (List.mem_append_right _ (List.mem_append_right _ (List.mem_append_left _ (List.mem_of_getElem? h.1))))))), h.2⟩)
theorem j_c7 {w : Cond} (i : Nat) (h : (tables_1_7[i]? = some w) ∧ goodWord w = true) : w ∈ j_tbl := List.mem_append_left _ (List.mem_filter.mpr ⟨List.mem_append_right _ (List.mem_append_right _ (List.mem_append_right _ (List.mem_append_right _ (List.mem_append_right _ (List.mem_append_right _ (List.mem_append_right _ (List.mem_append_left _ (List.mem_of_getElem? h.1)))))))), h.2⟩)
theorem j_c8 {w : Cond} (i : Nat) (h : (tables_1_8[i]? = some w) ∧ goodWord w = true) : w ∈ j_tbl := List.mem_append_left _ (List.mem_filter.mpr ⟨List.mem_append_right _ (List.mem_append_right _ (List.mem_append_right _ (List.mem_append_right _ (List.mem_append_right _ (List.mem_append_right _ (List.mem_append_right _ (List.mem_append_right _ (List.mem_append_left _ (List.mem_of_getElem? h.1))))))))), h.2⟩)
theorem j_c9 {w : Cond} (i : Nat) (h : (tables_1_9[i]? = some w) ∧ goodWord w = true) : w ∈ j_tbl := List.mem_append_left _ (List.mem_filter.mpr ⟨List.mem_append_right _ (List.mem_append_right _ (List.mem_append_right _ (List.mem_append_right _ (List.mem_append_right _ (List.mem_append_right _ (List.mem_append_right _ (List.mem_append_right _ (List.mem_append_right _ (List.mem_append_left _ (List.mem_of_getElem? h.1)))))))))), h.2⟩)
theorem j_c10 {w : Cond} (i : Nat) (h : (tables_1_10[i]? = some w) ∧ goodWord w = true) : w ∈ j_tbl := List.mem_append_left _ (List.mem_filter.mpr ⟨List.mem_append_right _ (List.mem_append_right _ (List.mem_append_right _ (List.mem_append_right _ (List.mem_append_right _ (List.mem_append_right _ (List.mem_append_right _ (List.mem_append_right _ (List.mem_append_right _ (List.mem_append_right _ (List.mem_of_getElem? h.1)))))))))), h.2⟩)
theorem j_sub {ws : List Cond} (h : ∀ w ∈ ws, w ∈ lw_tbl) (hg : ws.all goodWord = true) : ∀ w ∈ ws, w ∈ j_tbl := fun w hw => List.mem_append_left _ (List.mem_filter.mpr ⟨h w hw, List.all_eq_true.mp hg w hw⟩)
theorem j_good {y : MethodName} {cc : ByteArray} {nL : Nat} {ret : Option FieldType} (h : Cond.code y cc nL ret ∈ j_tbl) : GoodIn j_tbl (Cond.code y cc nL ret :: j_tbl) := by
  intro w hw
  have hm : w ∈ j_tbl := by
    rcases List.mem_cons.mp hw with rfl | h1
    · exact h
    · exact h1
  exact ⟨hm, good_of_word (j_tbl_good w hm)⟩
/-- a class of vwCl and its words -/
def j_K (kd : Nat) (Cn : String) (T : u_T) (N : Nat) (ty0 : Nat → FieldType) : Prop := vwCl[kd]? = some (Cn, T, N) ∧ (∀ w ∈ u_ws Cn T N, w ∈ j_tbl) ∧ (∀ k, k < N → parseFieldDescriptor (T k).2.2.1 = some (ty0 k)) ∧ (∀ a, a < N → ∀ b, b < N → a ≠ b → (T a).2.1 ≠ (T b).2.1) ∧ (m_ty kd).length = N ∧ kd < 11 ∧ ∀ k, k < N → defaultValue (ty0 k) = (if (m_ty kd).getD k 0 = 0 then .int 0 else if (m_ty kd).getD k 0 = 1 then .long 0 else .null)
/-- a link to a field, of objects of a kind -/
def j_F (own : String) (idx kd k : Nat) (ty : FieldType) (fin : Bool) : Prop := ∃ (Cn : String) (T : u_T) (N : Nat) (ty0 : Nat → FieldType) (ref : String), j_K kd Cn T N ty0 ∧ k < N ∧ Cond.fieldLink own idx ref (T k).2.1 (T k).2.2.1 ∈ j_tbl ∧ (ref = (T k).1 ∨ Cond.sameField ref (T k).1 (T k).2.1 (T k).2.2.1 ∈ j_tbl) ∧ ty0 k = ty ∧ (T k).2.2.2 = fin
/-- a field that the class itself declares -/
def j_D (own : String) (kd k : Nat) : Prop := ∃ r : vw_C, vwCl[kd]? = some r ∧ (r.2.1 k).1 = own
/-- links of calls: virtual on an object of a kind, static, constructors -/
def j_Lb (own : String) (idx : Nat) (y' : MethodName) (cc' : ByteArray) (nL' : Nat) (ret' : Option FieldType) (n : Nat) : Prop := Cond.methodLink own idx y' ∈ j_tbl ∧ Cond.code y' cc' nL' ret' ∈ j_tbl ∧ Cond.initialized y'.cls ∈ j_tbl ∧ (y'.cls ≠ "java/lang/invoke/MethodHandle" ∧ y'.cls ≠ "java/lang/invoke/VarHandle") ∧ (parseMethodDescriptor y'.desc).map (fun d => d.parameters.length) = some n ∧ nL' ≤ 45
def j_V (own : String) (idx kd : Nat) (y' : MethodName) (cc' : ByteArray) (nL' : Nat) (ret' : Option FieldType) (n : Nat) : Prop := j_Lb own idx y' cc' nL' ret' n ∧ kd < 11 ∧ Cond.instanceMethod y' ∈ j_tbl ∧ ∃ r : vw_C, vwCl[kd]? = some r ∧ Cond.selects r.1 y' y' ∈ j_tbl
def j_S (own : String) (idx : Nat) (y' : MethodName) (cc' : ByteArray) (nL' : Nat) (ret' : Option FieldType) (n : Nat) : Prop := j_Lb own idx y' cc' nL' ret' n ∧ Cond.static y' ∈ j_tbl
def j_I (own : String) (idx : Nat) (y' : MethodName) (cc' : ByteArray) (nL' n : Nat) : Prop := j_Lb own idx y' cc' nL' none n ∧ y'.name = "<init>" ∧ Cond.instanceMethod y' ∈ j_tbl
/-- a method of a superclass, named through a class that inherits it -/
def j_U (own : String) (idx kd : Nat) (owner : String) (x y' : MethodName) (cc' : ByteArray) (nL' : Nat) (ret' : Option FieldType) (n : Nat) : Prop := Cond.methodLink own idx x ∈ j_tbl ∧ Cond.sameMethod x.cls owner x.name x.desc ∈ j_tbl ∧ Cond.instanceMethod y' ∈ j_tbl ∧ Cond.initialized y'.cls ∈ j_tbl ∧ Cond.code y' cc' nL' ret' ∈ j_tbl ∧ y' = ⟨owner, x.name, x.desc⟩ ∧ (owner ≠ "java/lang/invoke/MethodHandle" ∧ owner ≠ "java/lang/invoke/VarHandle") ∧ (parseMethodDescriptor x.desc).map (fun d => d.parameters.length) = some n ∧ nL' ≤ 45 ∧ kd < 11 ∧ ∃ r : vw_C, vwCl[kd]? = some r ∧ Cond.selects r.1 x y' ∈ j_tbl
