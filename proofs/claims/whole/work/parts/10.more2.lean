theorem n_Meaning_21 : j_IN RX5 21 yX10_init cX10_init 1 0 := ⟨⟨"OneVerb", List.mem_of_getElem? (i := 1) (by decide +kernel)⟩, j_c2 33 (by decide +kernel), j_c1 9 (by decide +kernel), ⟨by decide +kernel, by decide +kernel⟩, by decide +kernel, by omega, rfl, j_c2 32 (by decide +kernel)⟩
theorem n_Finder_30 : j_IN RX2 30 yX10_init cX10_init 1 0 := ⟨⟨"OneVerb", List.mem_of_getElem? (i := 2) (by decide +kernel)⟩, j_c2 33 (by decide +kernel), j_c1 9 (by decide +kernel), ⟨by decide +kernel, by decide +kernel⟩, by decide +kernel, by omega, rfl, j_c2 32 (by decide +kernel)⟩
theorem n_OV_64 : j_IN RX11 64 yX1_init cX1_init 1 0 := ⟨⟨"OneVerb", List.mem_of_getElem? (i := 3) (by decide +kernel)⟩, j_c2 119 (by decide +kernel), j_c1 12 (by decide +kernel), ⟨by decide +kernel, by decide +kernel⟩, by decide +kernel, by omega, rfl, j_c2 118 (by decide +kernel)⟩
theorem n_OV_79 : j_IN RX11 79 yX10_init cX10_init 1 0 := ⟨⟨"OneVerb", List.mem_of_getElem? (i := 4) (by decide +kernel)⟩, j_c2 33 (by decide +kernel), j_c1 9 (by decide +kernel), ⟨by decide +kernel, by decide +kernel⟩, by decide +kernel, by omega, rfl, j_c2 32 (by decide +kernel)⟩
theorem n_Saying_9 : j_IN RX6 9 yX10_init cX10_init 1 0 := ⟨⟨"OneVerb", List.mem_of_getElem? (i := 5) (by decide +kernel)⟩, j_c2 33 (by decide +kernel), j_c1 9 (by decide +kernel), ⟨by decide +kernel, by decide +kernel⟩, by decide +kernel, by omega, rfl, j_c2 32 (by decide +kernel)⟩
theorem m_lk2 {x : Int32} {a b o1 o2 dd : Int} (h0 : x.toInt ≠ a) (h1 : x.toInt ≠ b) : Op.lookupswitch.offset [(a, o1), (b, o2)] dd x.toInt = dd := by
  rw [Op.lookupswitch.offset_cons, Op.lookupswitch.offset_cons, Op.lookupswitch.offset_nil, if_neg (fun h => h0 (by simpa using h.symm)), if_neg (fun h => h1 (by simpa using h.symm))]
theorem m_nIc {v : Int32} (h : 0 ≤ v) : nI v.toNatClampNeg = v := by
  have h0 : (0 : Int) ≤ v.toInt := by simpa using Int32.le_iff_toInt_le.mp h
  apply Int32.toInt_inj.mp
  have h1 : v.toInt < 2 ^ 31 := v.toInt_lt
  rw [nI_toInt (by show v.toInt.toNat < 2 ^ 31; omega)]
  show ((v.toInt.toNat : Nat) : Int) = _
  omega
def x_nn {β : Type} (r : Option Nat) (f : Nat → Option β) : Option β := match r with
  | some a => f a
  | none => none
def x_c {β : Type} (v : Int32) (f : Option β) : Option β := if 0 ≤ v ∧ v.toNatClampNeg < 65536 then f else none
theorem X_pCc {X : j_X} {y : MethodName} {cc : ByteArray} {nL : Nat} {d mc ms : Nat} {Φ : Option Value → m_M → Prop} {pc : Nat} {lv : List (Option Value)} {st : List Value} {g : Nat × Nat} {M : m_M} {α : Type} {e : α → Option Value} (C : j_C0 X y cc nL d mc ms) {f : m_M → Option (α × m_M)} {a kd q idx : Nat} {ty : FieldType} {z : Int32} (F : j_F y.cls idx kd q ty false) (hn : ty = .char) (ht : (m_ty kd)[q]? = some 0) (hd : decode cc pc = .ok (.putfield idx, 3)) (h : m_ok e Φ (x_c z (x_pI kd M a q z f))) (k : ∀ M, m_ok e Φ (f M) → j_J X nL (pc + 3) lv st g M) : j_J X nL pc lv (.int z :: .ref a :: st) g M := by
  obtain ⟨hz, h⟩ := X_gd h
  obtain ⟨hk, h⟩ := X_gd h
  subst hn
  have hp := pk_charN hz.2
  rw [m_nIc hz.1] at hp
  exact j_putI C F hk ht hp.1 hp.2 hd (k _ h)
/-! private methods of a superclass, called on an object of a subclass -/
theorem k_selP {C : String} {x0 y0 y' : MethodName} {args : Array Value} {s : State} (hy : y'.cls ≠ "java/lang/invoke/MethodHandle" ∧ y'.cls ≠ "java/lang/invoke/VarHandle") (hs : (Cond.selects C x0 y0).before args s = true) (hcl : y0.cls = y'.cls) (hpriv : (Cond.privateMethod y').before args s = true) (hinst : (Cond.instanceMethod y').before args s = true) : (Cond.selects C y' y').before args s = true := by
  obtain ⟨c, r, m, q1, q2, q3, q4, k, q5, q6⟩ := Cond.selects_spec hs
  obtain ⟨mk, methM, hnamed, hmethM, -, -⟩ := Cond.instanceMethod_spec hinst
  have hfound : s.methodFound? y'.cls y'.name y'.desc = some mk := State.methodFound?_of_named hnamed hy
  have h1 := findClass_of_methodNamed hnamed
  have h2 := findClass_of_methodNamed q3
  rw [hcl] at h2
  have hcls : mk.cls = m.cls := Option.some.inj (h1.symm.trans h2)
  have hsel : selectMethod {} s.vm c mk = .method mk := selectMethod_private hmethM (Cond.privateMethod_at hpriv mk methM hnamed hmethM)
  simp only [Cond.before, Cond.holds, Cond.value, q1, hfound, hnamed, hsel, hcls, q5]
  simp; exact q6
section J_PRIV
variable {X : j_X} {y : MethodName} {cc : ByteArray} {nL : Nat} {ret : Option FieldType} {d mc ms : Nat} {Φ : Option Value → m_M → Prop} {pc : Nat} {lv : List (Option Value)} {st : List Value} {g : Nat × Nat} {M : m_M}
theorem j_astoreN (C : j_C0 X y cc nL d mc ms) {i : Nat} (hd : decode cc pc = .ok (.astore i, 2)) (hn : i < nL) (k : j_J X nL (pc + 2) (j_s1 lv i .null) st g M) : j_J X nL pc lv (.null :: st) g M := by
  obtain ⟨p, l, e, R, s, m, args, below, meth, c, Q, D, cy, base, ad⟩ := X
  obtain ⟨hx, hb, hml, hown, hts, hK, hbs, hCs, hR0, hname⟩ := C
  intro H locs ls hR hS hl
  obtain ⟨ls', e', h'⟩ := j_store1 (m_v_cat base ad) (v := .null) hl hn rfl
  intro T hT X
  obtain ⟨t, a, b⟩ := k H locs ls' hR hS h' T hT X
  refine ⟨t, ?_, b⟩
  simp only [m_v] at e'
  jvm_step X.here [X.here.top, ↓top_set X.here.top, hx, hb, hd, e', m_v, List.map_cons, Value.isRef]
  exact a
theorem j_astoreO (C : j_C0 X y cc nL d mc ms) {i : Nat} {r : Option Nat} (hd : decode cc pc = .ok (.astore i, 2)) (hn : i < nL) (k : j_J X nL (pc + 2) (j_s1 lv i (va_rf r)) st g M) : j_J X nL pc lv (va_rf r :: st) g M := by
  cases r with
  | none => exact j_astoreN C hd hn k
  | some a => exact j_astore C hd hn k
/-! the text of the signs -/
theorem j_kstr (C : j_C0 X y cc nL d mc ms) (hy : y.cls = "OneVerb$Tokens") (hd : decode cc pc = .ok (.ldc 84, 2)) (k : j_J X nL (pc + 2) lv (.ref (1000000 + 22) :: st) g M) : j_J X nL pc lv st g M := by
  obtain ⟨p, l, e, R, s, m, args, below, meth, c, Q, D, cy, base, ad⟩ := X
  obtain ⟨hx, hb, hml, hown, hts, hK, hbs, hCs, hR0, hname⟩ := C
  intro H locs ls hR hS hl
  have kk := k H locs ls hR hS hl
  simp only [List.map_cons, m_v, m_adc] at kk
  rw [hy] at hown
  exact va_ldcS hx hb hown hCs.2.2.1 hd kk
theorem j_kval (C : j_C0 X y cc nL d mc ms) {idx : Nat} (hw : Cond.fieldLink y.cls idx "java/lang/String" "value" "[B" ∈ j_tbl) (hd : decode cc pc = .ok (.getfield idx, 3)) (k : j_J X nL (pc + 3) lv (.ref (1000000 + 23) :: st) g M) : j_J X nL pc lv (.ref (1000000 + 22) :: st) g M := by
  obtain ⟨p, l, e, R, s, m, args, below, meth, c, Q, D, cy, base, ad⟩ := X
  obtain ⟨hx, hb, hml, hown, hts, hK, hbs, hCs, hR0, hname⟩ := C
  intro H locs ls hR hS hl
  have kk := k H locs ls hR hS hl
  simp only [List.map_cons, m_v, m_adc] at kk ⊢
  exact vk_getf hx hb (hCs.1.2.2.2.2.2.2.2.1 0 (by decide)).2.2.1 hS hown (hts _ hw) (fun x h => h) hd kk
theorem j_kcod (C : j_C0 X y cc nL d mc ms) {idx : Nat} (hw : Cond.fieldLink y.cls idx "java/lang/String" "coder" "B" ∈ j_tbl) (hd : decode cc pc = .ok (.getfield idx, 3)) (k : j_J X nL (pc + 3) lv (.int 0 :: st) g M) : j_J X nL pc lv (.ref (1000000 + 22) :: st) g M := by
  obtain ⟨p, l, e, R, s, m, args, below, meth, c, Q, D, cy, base, ad⟩ := X
  obtain ⟨hx, hb, hml, hown, hts, hK, hbs, hCs, hR0, hname⟩ := C
  intro H locs ls hR hS hl
  have kk := k H locs ls hR hS hl
  simp only [List.map_cons, m_v, m_adc] at kk ⊢
  exact vk_getf hx hb (hCs.1.2.2.2.2.2.2.2.1 0 (by decide)).2.1 hS hown (hts _ hw) (fun x h => h) hd kk
theorem j_kcs (C : j_C0 X y cc nL d mc ms) {idx : Nat} (hw : Cond.fieldLink y.cls idx "java/lang/String" "COMPACT_STRINGS" "Z" ∈ j_tbl) (hd : decode cc pc = .ok (.getstatic idx, 3)) (k : j_J X nL (pc + 3) lv (.int 1 :: st) g M) : j_J X nL pc lv st g M := by
  obtain ⟨p, l, e, R, s, m, args, below, meth, c, Q, D, cy, base, ad⟩ := X
  obtain ⟨hx, hb, hml, hown, hts, hK, hbs, hCs, hR0, hname⟩ := C
  intro H locs ls hR hS hl
  exact va_gets hx hb hCs.1.2.2.2.2.2.2.1 hS hown (hts _ hw) (fun x h => h) hd (k H locs ls hR hS hl)
theorem j_kbl (C : j_C0 X y cc nL d mc ms) (hd : decode cc pc = .ok (.arraylength, 1)) (k : j_J X nL (pc + 1) lv (.int 8 :: st) g M) : j_J X nL pc lv (.ref (1000000 + 23) :: st) g M := by
  obtain ⟨p, l, e, R, s, m, args, below, meth, c, Q, D, cy, base, ad⟩ := X
  obtain ⟨hx, hb, hml, hown, hts, hK, hbs, hCs, hR0, hname⟩ := C
  intro H locs ls hR hS hl
  have kk := k H locs ls hR hS hl
  simp only [List.map_cons, m_v, m_adc] at kk ⊢
  exact va_tlen hx hb (hCs.1.2.2.2.2.2.2.2.1 0 (by decide)).2.2.2 hS rfl hd kk
theorem j_kba (C : j_C0 X y cc nL d mc ms) {i : Int32} (hin : vp_in i 8) (hd : decode cc pc = .ok (.baload, 1)) (k : j_J X nL (pc + 1) lv (.int (k_sg.getD i.toNatClampNeg 0) :: st) g M) : j_J X nL pc lv (.int i :: .ref (1000000 + 23) :: st) g M := by
  obtain ⟨p, l, e, R, s, m, args, below, meth, c, Q, D, cy, base, ad⟩ := X
  obtain ⟨hx, hb, hml, hown, hts, hK, hbs, hCs, hR0, hname⟩ := C
  intro H locs ls hR hS hl
  have kk := k H locs ls hR hS hl
  simp only [List.map_cons, m_v, m_adc] at kk ⊢
  exact va_tb hx hb (hCs.1.2.2.2.2.2.2.2.1 0 (by decide)).2.2.2 hS hin rfl hd kk
theorem j_i2b (C : j_C0 X y cc nL d mc ms) {x : Int32} {v : Int32} (hd : decode cc pc = .ok (.i2b, 1)) (hv : x.toInt8.toInt32 = v) (k : j_J X nL (pc + 1) lv (.int v :: st) g M) : j_J X nL pc lv (.int x :: st) g M := by
  obtain ⟨p, l, e, R, s, m, args, below, meth, c, Q, D, cy, base, ad⟩ := X
  obtain ⟨hx, hb, hml, hown, hts, hK, hbs, hCs, hR0, hname⟩ := C
  intro H locs ls hR hS hl
  exact lv_i2b hx hb hd hv (k H locs ls hR hS hl)
def j_VK (own : String) (idx : Nat) (y' : MethodName) (cc' : ByteArray) (nL' : Nat) (ret' : Option FieldType) (n : Nat) : Prop := j_Lb own idx y' cc' nL' ret' n ∧ Cond.instanceMethod y' ∈ j_tbl ∧ Cond.selects "java/lang/String" y' y' ∈ j_tbl
theorem j_callK (C : j_C0 X y cc nL d mc ms) {idx d' mc' ms' nL' n : Nat} {y' : MethodName} {cc' : ByteArray} {ret' : Option FieldType} {Φ' : Option Value → m_M → Prop} {as rest : List Value} (F : j_VK y.cls idx y' cc' nL' ret' n) (hc : j_Ct y' cc' nL' ret' d' mc' ms' (.ref (1000000 + 22) :: as) M Φ') (hn : as.length = n) (hst : st = as.reverse ++ .ref (1000000 + 22) :: rest) (hdd : d' < d) (hg : g.1 + mc' ≤ mc ∧ g.2 + ms' ≤ ms) (hw : (rest.map fun v => v.category).sum ≤ 8) (hd : decode cc pc = .ok (.invokevirtual idx, 3)) (k : ∀ (v : Option Value) (M' : m_M), Φ' v M' → j_J X nL (pc + 3) lv (v.toList ++ rest) (g.1 + mc', g.2 + ms') M') : j_J X nL pc lv st g M := by
  obtain ⟨p, l, e, R, s, m, args, below, meth, c, Q, D, cy, base, ad⟩ := X
  obtain ⟨hx, hb, hml, hown, hts, hK, hbs, hCs, hR0, hname⟩ := C
  intro H locs ls hR hS hl
  subst hst
  have hw' : ((rest.map (m_v base ad)).map fun v => v.category).sum ≤ 8 := by
    rw [List.map_map]
    have e9 : ((fun v : Value => v.category) ∘ m_v base ad) = fun v : Value => v.category := by funext v; exact m_v_cat base ad v
    rw [e9]; exact hw
  have hg' : g.1 + mc' ≤ R.cells ∧ g.2 + ms' ≤ R.slots := by rw [hR0.2.2.1, hR0.2.2.2]; exact hg
  obtain ⟨FB, hinst, hsel⟩ := F
  have hM := hc l D cy base ad
  refine j_run hS hl (va_runV (C := "java/lang/String") (b := m_ad base ad (1000000 + 22)) (As := as.map (m_v base ad)) ⟨hx, hb, hml, hown, hts⟩ hM ⟨j_Lb.callB hts FB hR0 hdd, hts _ hinst, hts _ hsel⟩ ⟨j_P.blind, by rw [m_adc]; exact vk_recv hCs.1.2.2.2.2.2.2.2 (i := 0) (by decide) hS, fun U hU hW => j_pre (as := .ref (1000000 + 22) :: as) hR hK hCs hbs hS hU hW⟩ rfl (by rw [List.length_map]; exact hn) hl.1 (by simp [m_v]) (lv_room hw') hd hg') k
variable {α : Type} {e : α → Option Value}
theorem X_kba (C : j_C0 X y cc nL d mc ms) {f : Nat → Option (α × m_M)} {i : Int32} (hd : decode cc pc = .ok (.baload, 1)) (h : m_ok e Φ (x_ki 8 i f)) (k : ∀ j, m_ok e Φ (f j) → j_J X nL (pc + 1) lv (.int (k_sg.getD j 0) :: st) g M) : j_J X nL pc lv (.int i :: .ref (1000000 + 23) :: st) g M := by
  obtain ⟨hk, h⟩ := X_gd h
  exact j_kba C (fun q => q.elim (fun q => absurd hk.1 (Int32.not_le.mpr q)) (fun q => by have := hk.2; omega)) hd (k _ h)
theorem X_cK (C : j_C0 X y cc nL d mc ms) {α' : Type} {e' : α' → Option Value} {o : Option (α' × m_M)} {f : α' → m_M → Option (α × m_M)} {idx d' mc' ms' nL' n : Nat} {y' : MethodName} {cc' : ByteArray} {ret' : Option FieldType} {as rest : List Value} {s' : α' → List Value} {g' : Nat × Nat} (F : j_VK y.cls idx y' cc' nL' ret' n) (hc : ∀ Φ', m_ok e' Φ' o → j_Ct y' cc' nL' ret' d' mc' ms' (.ref (1000000 + 22) :: as) M Φ') (hn : as.length = n) (hst : st = as.reverse ++ .ref (1000000 + 22) :: rest) (hs : ∀ w, (e' w).toList ++ rest = s' w) (hdd : d' < d) (hg : g.1 + mc' ≤ mc ∧ g.2 + ms' ≤ ms) (hg' : (g.1 + mc', g.2 + ms') = g') (hw : (rest.map fun v => v.category).sum ≤ 8) (hd : decode cc pc = .ok (.invokevirtual idx, 3)) (h : m_ok e Φ (x_bd o f)) (k : ∀ w M, m_ok e Φ (f w M) → j_J X nL (pc + 3) lv (s' w) g' M) : j_J X nL pc lv st g M := by
  subst hg'
  refine j_callK C F (hc _ (m_ok_bd h)) hn hst hdd hg hw hd fun v M' hv => ?_
  obtain ⟨w, rfl, h2⟩ := hv
  rw [hs]
  exact k w M' h2
end J_PRIV

theorem sj_RJ0_637 : j_S RJ0 637 yJ1_indexOf_4cfef cJ1_indexOf_4cfef 4 (some .int) 4 := ⟨⟨j_c3 70 (by decide +kernel), j_c3 72 (by decide +kernel), j_c1 17 (by decide +kernel), ⟨by decide +kernel, by decide +kernel⟩, by decide +kernel, by omega⟩, j_c3 71 (by decide +kernel)⟩
theorem sj_RJ1_88 : j_S RJ1 88 yJ1_canEncode_9a6ad cJ1_canEncode_9a6ad 1 (some .boolean) 1 := ⟨⟨j_c3 73 (by decide +kernel), j_c3 75 (by decide +kernel), j_c1 17 (by decide +kernel), ⟨by decide +kernel, by decide +kernel⟩, by decide +kernel, by omega⟩, j_c3 74 (by decide +kernel)⟩
theorem sj_RJ1_92 : j_S RJ1 92 yJ9_max_7cf53 cJ9_max_7cf53 2 (some .int) 2 := ⟨⟨j_c3 76 (by decide +kernel), j_c1 80 (by decide +kernel), j_c1 4 (by decide +kernel), ⟨by decide +kernel, by decide +kernel⟩, by decide +kernel, by omega⟩, j_c1 79 (by decide +kernel)⟩
theorem sj_RJ1_38 : j_S RJ1 38 yJ9_min_7cf53 cJ9_min_7cf53 2 (some .int) 2 := ⟨⟨j_c3 77 (by decide +kernel), j_c1 74 (by decide +kernel), j_c1 4 (by decide +kernel), ⟨by decide +kernel, by decide +kernel⟩, by decide +kernel, by omega⟩, j_c1 73 (by decide +kernel)⟩
theorem sj_RJ1_95 : j_S RJ1 95 yJ1_indexOfChar_4cfef cJ1_indexOfChar_4cfef 6 (some .int) 4 := ⟨⟨j_c3 78 (by decide +kernel), j_c3 80 (by decide +kernel), j_c1 17 (by decide +kernel), ⟨by decide +kernel, by decide +kernel⟩, by decide +kernel, by omega⟩, j_c3 79 (by decide +kernel)⟩
theorem sj_RJ0_1062 : j_S RJ0 1062 yJ3_checkFromToIndex_8c36e cJ3_checkFromToIndex_8c36e 4 (some .int) 4 := ⟨⟨j_c3 101 (by decide +kernel), j_c3 103 (by decide +kernel), j_c1 19 (by decide +kernel), ⟨by decide +kernel, by decide +kernel⟩, by decide +kernel, by omega⟩, j_c3 102 (by decide +kernel)⟩
theorem sj_RJ7_304 : j_S RJ7 304 yJ9_min_7cf53 cJ9_min_7cf53 2 (some .int) 2 := ⟨⟨j_c4 174 (by decide +kernel), j_c1 74 (by decide +kernel), j_c1 4 (by decide +kernel), ⟨by decide +kernel, by decide +kernel⟩, by decide +kernel, by omega⟩, j_c1 73 (by decide +kernel)⟩
theorem p_Tok_34_4 : j_V RX8 34 4 yX8_skipBlanks cX8_skipBlanks 1 none 0 := ⟨⟨j_c3 17 (by decide +kernel), j_c3 20 (by decide +kernel), j_c1 5 (by decide +kernel), ⟨by decide +kernel, by decide +kernel⟩, by decide +kernel, by omega⟩, by omega, j_c3 19 (by decide +kernel), _, rfl, j_x 0 rfl⟩
theorem p_Tok_34_7 : j_V RX8 34 7 yX8_skipBlanks cX8_skipBlanks 1 none 0 := ⟨⟨j_c3 17 (by decide +kernel), j_c3 20 (by decide +kernel), j_c1 5 (by decide +kernel), ⟨by decide +kernel, by decide +kernel⟩, by decide +kernel, by omega⟩, by omega, j_c3 19 (by decide +kernel), _, rfl, j_x 1 rfl⟩
theorem p_Tok_51_4 : j_V RX8 51 4 yX8_scanWord cX8_scanWord 1 none 0 := ⟨⟨j_c3 24 (by decide +kernel), j_c3 27 (by decide +kernel), j_c1 5 (by decide +kernel), ⟨by decide +kernel, by decide +kernel⟩, by decide +kernel, by omega⟩, by omega, j_c3 26 (by decide +kernel), _, rfl, j_x 2 rfl⟩
theorem p_Tok_51_7 : j_V RX8 51 7 yX8_scanWord cX8_scanWord 1 none 0 := ⟨⟨j_c3 24 (by decide +kernel), j_c3 27 (by decide +kernel), j_c1 5 (by decide +kernel), ⟨by decide +kernel, by decide +kernel⟩, by decide +kernel, by omega⟩, by omega, j_c3 26 (by decide +kernel), _, rfl, j_x 3 rfl⟩
theorem p_Tok_57_4 : j_V RX8 57 4 yX8_scanNumber cX8_scanNumber 1 none 0 := ⟨⟨j_c3 40 (by decide +kernel), j_c3 43 (by decide +kernel), j_c1 5 (by decide +kernel), ⟨by decide +kernel, by decide +kernel⟩, by decide +kernel, by omega⟩, by omega, j_c3 42 (by decide +kernel), _, rfl, j_x 4 rfl⟩
theorem p_Tok_57_7 : j_V RX8 57 7 yX8_scanNumber cX8_scanNumber 1 none 0 := ⟨⟨j_c3 40 (by decide +kernel), j_c3 43 (by decide +kernel), j_c1 5 (by decide +kernel), ⟨by decide +kernel, by decide +kernel⟩, by decide +kernel, by omega⟩, by omega, j_c3 42 (by decide +kernel), _, rfl, j_x 5 rfl⟩
theorem kq_RX8_86 : j_VK RX8 86 yJ0_indexOf_0f7a4 cJ0_indexOf_0f7a4 2 (some .int) 1 := ⟨⟨j_c3 48 (by decide +kernel), j_c3 51 (by decide +kernel), j_c1 16 (by decide +kernel), ⟨by decide +kernel, by decide +kernel⟩, by decide +kernel, by omega⟩, j_c3 49 (by decide +kernel), j_c3 50 (by decide +kernel)⟩
theorem kq_RJ0_633 : j_VK RJ0 633 yJ0_indexOf_7cf53 cJ0_indexOf_7cf53 3 (some .int) 2 := ⟨⟨j_c3 52 (by decide +kernel), j_c3 55 (by decide +kernel), j_c1 16 (by decide +kernel), ⟨by decide +kernel, by decide +kernel⟩, by decide +kernel, by omega⟩, j_c3 53 (by decide +kernel), j_c3 54 (by decide +kernel)⟩
theorem kq_RJ0_492 : j_VK RJ0 492 yJ0_isLatin1_aae02 cJ0_isLatin1_aae02 1 (some .boolean) 0 := ⟨⟨j_c3 56 (by decide +kernel), j_c3 59 (by decide +kernel), j_c1 16 (by decide +kernel), ⟨by decide +kernel, by decide +kernel⟩, by decide +kernel, by omega⟩, j_c3 57 (by decide +kernel), j_c3 58 (by decide +kernel)⟩
theorem kq_RJ0_505 : j_VK RJ0 505 yJ0_length_8abf5 cJ0_length_8abf5 1 (some .int) 0 := ⟨⟨j_c3 62 (by decide +kernel), j_c3 65 (by decide +kernel), j_c1 16 (by decide +kernel), ⟨by decide +kernel, by decide +kernel⟩, by decide +kernel, by omega⟩, j_c3 63 (by decide +kernel), j_c3 64 (by decide +kernel)⟩
theorem kq_RJ0_335 : j_VK RJ0 335 yJ0_coder_7d493 cJ0_coder_7d493 1 (some .byte) 0 := ⟨⟨j_c3 66 (by decide +kernel), j_c3 69 (by decide +kernel), j_c1 16 (by decide +kernel), ⟨by decide +kernel, by decide +kernel⟩, by decide +kernel, by omega⟩, j_c3 67 (by decide +kernel), j_c3 68 (by decide +kernel)⟩
