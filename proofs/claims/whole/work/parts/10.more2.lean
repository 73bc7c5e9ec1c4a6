theorem n_Meaning_21 : j_IN RX5 21 yX10_init cX10_init 1 0 := ⟨⟨"OneVerb", List.mem_of_getElem? (i := 1) (by decide +kernel)⟩, j_c2 29 (by decide +kernel), j_c1 9 (by decide +kernel), ⟨by decide +kernel, by decide +kernel⟩, by decide +kernel, by omega, rfl, j_c2 28 (by decide +kernel)⟩
theorem n_Finder_30 : j_IN RX2 30 yX10_init cX10_init 1 0 := ⟨⟨"OneVerb", List.mem_of_getElem? (i := 2) (by decide +kernel)⟩, j_c2 29 (by decide +kernel), j_c1 9 (by decide +kernel), ⟨by decide +kernel, by decide +kernel⟩, by decide +kernel, by omega, rfl, j_c2 28 (by decide +kernel)⟩
theorem n_OV_64 : j_IN RX11 64 yX1_init cX1_init 1 0 := ⟨⟨"OneVerb", List.mem_of_getElem? (i := 3) (by decide +kernel)⟩, j_c2 115 (by decide +kernel), j_c1 12 (by decide +kernel), ⟨by decide +kernel, by decide +kernel⟩, by decide +kernel, by omega, rfl, j_c2 114 (by decide +kernel)⟩
theorem n_OV_79 : j_IN RX11 79 yX10_init cX10_init 1 0 := ⟨⟨"OneVerb", List.mem_of_getElem? (i := 4) (by decide +kernel)⟩, j_c2 29 (by decide +kernel), j_c1 9 (by decide +kernel), ⟨by decide +kernel, by decide +kernel⟩, by decide +kernel, by omega, rfl, j_c2 28 (by decide +kernel)⟩
theorem n_Saying_9 : j_IN RX6 9 yX10_init cX10_init 1 0 := ⟨⟨"OneVerb", List.mem_of_getElem? (i := 5) (by decide +kernel)⟩, j_c2 29 (by decide +kernel), j_c1 9 (by decide +kernel), ⟨by decide +kernel, by decide +kernel⟩, by decide +kernel, by omega, rfl, j_c2 28 (by decide +kernel)⟩
theorem m_lk2 {x : Int32} {a b o1 o2 dd : Int} (h0 : x.toInt ≠ a) (h1 : x.toInt ≠ b) : Op.lookupswitch.offset [(a, o1), (b, o2)] dd x.toInt = dd := by
  rw [Op.lookupswitch.offset_cons, Op.lookupswitch.offset_cons, Op.lookupswitch.offset_nil, if_neg (fun h => h0 (by simpa using h.symm)), if_neg (fun h => h1 (by simpa using h.symm))]
theorem m_nIc {v : Int32} (h : 0 ≤ v) : nI v.toNatClampNeg = v := by
  have h0 : (0 : Int) ≤ v.toInt := by simpa using Int32.le_iff_toInt_le.mp h
  apply Int32.toInt_inj.mp
  have h1 : v.toInt < 2 ^ 31 := v.toInt_lt
  rw [nI_toInt (by show v.toInt.toNat < 2 ^ 31; omega)]
  show ((v.toInt.toNat : Nat) : Int) = _
  omega
def x_c {β : Type} (v : Int32) (f : Option β) : Option β := if 0 ≤ v ∧ v.toNatClampNeg < 65536 then f else none
theorem X_pCc {X : j_X} {y : MethodName} {cc : ByteArray} {nL : Nat} {d mc ms : Nat} {Φ : Option Value → m_M → Prop} {pc : Nat} {lv : List (Option Value)} {st : List Value} {g : Nat × Nat} {M : m_M} {α : Type} {e : α → Option Value} (C : j_C0 X y cc nL d mc ms) {f : m_M → Option (α × m_M)} {a kd q idx : Nat} {ty : FieldType} {z : Int32} (F : j_F y.cls idx kd q ty false) (hn : ty = .char) (ht : (m_ty kd)[q]? = some 0) (hd : decode cc pc = .ok (.putfield idx, 3)) (h : m_ok e Φ (x_c z (x_pI kd M a q z f))) (k : ∀ M, m_ok e Φ (f M) → j_J X nL (pc + 3) lv st g M) : j_J X nL pc lv (.int z :: .ref a :: st) g M := by
  obtain ⟨hz, h⟩ := X_gd h
  obtain ⟨hk, h⟩ := X_gd h
  subst hn
  have hp := pk_charN hz.2
  rw [m_nIc hz.1] at hp
  exact j_putI C F hk ht hp.1 hp.2 hd (k _ h)
/-! private methods of a superclass, called on an object of a subclass -/
theorem k_selP {C : String} {x0 y0 y' : MethodName} {args : Array Value} {s : State} (hy : y'.cls ≠ "java/lang/invoke/MethodHandle" ∧ y'.cls ≠ "java/lang/invoke/VarHandle") (hs : (Cond.selects C x0 y0).before args s = true) (hcl : y0.cls = y'.cls) (hpriv : (Cond.privateMethod y').before args s = true) (hinst : (Cond.instanceMethod y').before args s = true) : (Cond.selects C y' y').before args s = true := by
  obtain ⟨c, r, m, q1, q2, q3, q4, k, q5, q6⟩ := Cond.selects_spec hs
  obtain ⟨mk, methM, hnamed, hmethM, -, -⟩ := Cond.instanceMethod_spec hinst
  have hfound : s.methodFound? y'.cls y'.name y'.desc = some mk := State.methodFound?_of_named hnamed hy
  have h1 := findClass_of_methodNamed hnamed
  have h2 := findClass_of_methodNamed q3
  rw [hcl] at h2
  have hcls : mk.cls = m.cls := Option.some.inj (h1.symm.trans h2)
  have hsel : selectMethod {} s.vm c mk = .method mk := selectMethod_private hmethM (Cond.privateMethod_at hpriv mk methM hnamed hmethM)
  simp only [Cond.before, Cond.holds, Cond.value, q1, hfound, hnamed, hsel, hcls, q5]
  simp; exact q6
section J_PRIV
variable {X : j_X} {y : MethodName} {cc : ByteArray} {nL : Nat} {ret : Option FieldType} {d mc ms : Nat} {Φ : Option Value → m_M → Prop} {pc : Nat} {lv : List (Option Value)} {st : List Value} {g : Nat × Nat} {M : m_M}
theorem j_astoreN (C : j_C0 X y cc nL d mc ms) {i : Nat} (hd : decode cc pc = .ok (.astore i, 2)) (hn : i < nL) (k : j_J X nL (pc + 2) (j_s1 lv i .null) st g M) : j_J X nL pc lv (.null :: st) g M := by
  obtain ⟨p, l, e, R, s, m, args, below, meth, c, Q, D, cy, base, ad⟩ := X
  obtain ⟨hx, hb, hml, hown, hts, hK, hbs, hCs, hR0, hname⟩ := C
  intro H locs ls hR hS hl
  obtain ⟨ls', e', h'⟩ := j_store1 (m_v_cat base ad) (v := .null) hl hn rfl
  intro T hT X
  obtain ⟨t, a, b⟩ := k H locs ls' hR hS h' T hT X
  refine ⟨t, ?_, b⟩
  simp only [m_v] at e'
  jvm_step X.here [X.here.top, ↓top_set X.here.top, hx, hb, hd, e', m_v, List.map_cons, Value.isRef]
  exact a
theorem j_astoreO (C : j_C0 X y cc nL d mc ms) {i : Nat} {r : Option Nat} (hd : decode cc pc = .ok (.astore i, 2)) (hn : i < nL) (k : j_J X nL (pc + 2) (j_s1 lv i (va_rf r)) st g M) : j_J X nL pc lv (va_rf r :: st) g M := by
  cases r with
  | none => exact j_astoreN C hd hn k
  | some a => exact j_astore C hd hn k
end J_PRIV
/-- whether a char is one of the eight signs -/
noncomputable def F_X8_isSign (a1 : Int32) (M : m_M) : Option (Int32 × m_M) := some ((if a1 ∈ k_sg then 1 else 0), M)
theorem K_X8_isSign (a1 : Int32) (M : m_M) (Φ : Option Value → m_M → Prop) (h : m_ok e_I Φ (F_X8_isSign a1 M)) : j_Ct yX8_isSign cX8_isSign 1 (some .boolean) 6 0 0 [.int a1] M Φ := sorry
theorem sj_RJ7_304 : j_S RJ7 304 yJ9_min_7cf53 cJ9_min_7cf53 2 (some .int) 2 := ⟨⟨j_c4 174 (by decide +kernel), j_c1 74 (by decide +kernel), j_c1 4 (by decide +kernel), ⟨by decide +kernel, by decide +kernel⟩, by decide +kernel, by omega⟩, j_c1 73 (by decide +kernel)⟩
theorem p_Tok_34_4 : j_V RX8 34 4 yX8_skipBlanks cX8_skipBlanks 1 none 0 := ⟨⟨j_c3 13 (by decide +kernel), j_c3 16 (by decide +kernel), j_c1 5 (by decide +kernel), ⟨by decide +kernel, by decide +kernel⟩, by decide +kernel, by omega⟩, by omega, j_c3 15 (by decide +kernel), _, rfl, j_x 0 rfl⟩
theorem p_Tok_34_7 : j_V RX8 34 7 yX8_skipBlanks cX8_skipBlanks 1 none 0 := ⟨⟨j_c3 13 (by decide +kernel), j_c3 16 (by decide +kernel), j_c1 5 (by decide +kernel), ⟨by decide +kernel, by decide +kernel⟩, by decide +kernel, by omega⟩, by omega, j_c3 15 (by decide +kernel), _, rfl, j_x 1 rfl⟩
theorem p_Tok_51_4 : j_V RX8 51 4 yX8_scanWord cX8_scanWord 1 none 0 := ⟨⟨j_c3 20 (by decide +kernel), j_c3 23 (by decide +kernel), j_c1 5 (by decide +kernel), ⟨by decide +kernel, by decide +kernel⟩, by decide +kernel, by omega⟩, by omega, j_c3 22 (by decide +kernel), _, rfl, j_x 2 rfl⟩
theorem p_Tok_51_7 : j_V RX8 51 7 yX8_scanWord cX8_scanWord 1 none 0 := ⟨⟨j_c3 20 (by decide +kernel), j_c3 23 (by decide +kernel), j_c1 5 (by decide +kernel), ⟨by decide +kernel, by decide +kernel⟩, by decide +kernel, by omega⟩, by omega, j_c3 22 (by decide +kernel), _, rfl, j_x 3 rfl⟩
theorem p_Tok_57_4 : j_V RX8 57 4 yX8_scanNumber cX8_scanNumber 1 none 0 := ⟨⟨j_c3 36 (by decide +kernel), j_c3 39 (by decide +kernel), j_c1 5 (by decide +kernel), ⟨by decide +kernel, by decide +kernel⟩, by decide +kernel, by omega⟩, by omega, j_c3 38 (by decide +kernel), _, rfl, j_x 4 rfl⟩
theorem p_Tok_57_7 : j_V RX8 57 7 yX8_scanNumber cX8_scanNumber 1 none 0 := ⟨⟨j_c3 36 (by decide +kernel), j_c3 39 (by decide +kernel), j_c1 5 (by decide +kernel), ⟨by decide +kernel, by decide +kernel⟩, by decide +kernel, by omega⟩, by omega, j_c3 38 (by decide +kernel), _, rfl, j_x 5 rfl⟩
