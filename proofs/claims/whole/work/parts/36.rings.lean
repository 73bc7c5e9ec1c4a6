theorem dX11_rings_0 : decode cX11_rings 0 = .ok (.aload_n 0, 1) := by decide +kernel
theorem dX11_rings_1 : decode cX11_rings 1 = .ok (.getfield 58, 3) := by decide +kernel
theorem dX11_rings_4 : decode cX11_rings 4 = .ok (.iload_n 1, 1) := by decide +kernel
theorem dX11_rings_5 : decode cX11_rings 5 = .ok (.invokevirtual 265, 3) := by decide +kernel
theorem dX11_rings_8 : decode cX11_rings 8 = .ok (.ifCond .ne 14, 3) := by decide +kernel
theorem dX11_rings_11 : decode cX11_rings 11 = .ok (.new 268, 3) := by decide +kernel
theorem dX11_rings_14 : decode cX11_rings 14 = .ok (.dup, 1) := by decide +kernel
theorem dX11_rings_15 : decode cX11_rings 15 = .ok (.ldc_w 270, 3) := by decide +kernel
theorem dX11_rings_18 : decode cX11_rings 18 = .ok (.invokespecial 272, 3) := by decide +kernel
theorem dX11_rings_21 : decode cX11_rings 21 = .ok (.athrow, 1) := by decide +kernel
theorem dX11_rings_22 : decode cX11_rings 22 = .ok (.aload_n 0, 1) := by decide +kernel
theorem dX11_rings_23 : decode cX11_rings 23 = .ok (.getfield 58, 3) := by decide +kernel
theorem dX11_rings_26 : decode cX11_rings 26 = .ok (.iload_n 1, 1) := by decide +kernel
theorem dX11_rings_27 : decode cX11_rings 27 = .ok (.aload_n 0, 1) := by decide +kernel
theorem dX11_rings_28 : decode cX11_rings 28 = .ok (.getfield 16, 3) := by decide +kernel
theorem dX11_rings_31 : decode cX11_rings 31 = .ok (.aload_n 0, 1) := by decide +kernel
theorem dX11_rings_32 : decode cX11_rings 32 = .ok (.getfield 65, 3) := by decide +kernel
theorem dX11_rings_35 : decode cX11_rings 35 = .ok (.getfield 119, 3) := by decide +kernel
theorem dX11_rings_38 : decode cX11_rings 38 = .ok (.iconst 1, 1) := by decide +kernel
theorem dX11_rings_39 : decode cX11_rings 39 = .ok (.iadd, 1) := by decide +kernel
theorem dX11_rings_40 : decode cX11_rings 40 = .ok (.invokevirtual 162, 3) := by decide +kernel
theorem dX11_rings_43 : decode cX11_rings 43 = .ok (.invokevirtual 275, 3) := by decide +kernel
theorem dX11_rings_46 : decode cX11_rings 46 = .ok (.ireturn, 1) := by decide +kernel
theorem dL_rings_0 : decode cL_rings 0 = .ok (.aload_n 2, 1) := by decide +kernel
theorem dL_rings_1 : decode cL_rings 1 = .ok (.iconst 0, 1) := by decide +kernel
theorem dL_rings_2 : decode cL_rings 2 = .ok (.aload_n 0, 1) := by decide +kernel
theorem dL_rings_3 : decode cL_rings 3 = .ok (.iload_n 1, 1) := by decide +kernel
theorem dL_rings_4 : decode cL_rings 4 = .ok (.invokevirtual 7, 3) := by decide +kernel
theorem dL_rings_7 : decode cL_rings 7 = .ok (.i2l, 1) := by decide +kernel
theorem dL_rings_8 : decode cL_rings 8 = .ok (.lastore, 1) := by decide +kernel
theorem dL_rings_9 : decode cL_rings 9 = .ok (.goto 6, 3) := by decide +kernel
theorem dL_rings_12 : decode cL_rings 12 = .ok (.astore_n 3, 1) := by decide +kernel
theorem dL_rings_13 : decode cL_rings 13 = .ok (.iconst 1, 1) := by decide +kernel
theorem dL_rings_14 : decode cL_rings 14 = .ok (.ireturn, 1) := by decide +kernel
theorem dL_rings_15 : decode cL_rings 15 = .ok (.iconst 0, 1) := by decide +kernel
theorem dL_rings_16 : decode cL_rings 16 = .ok (.ireturn, 1) := by decide +kernel
/-! rings: of the class, which may throw; of the law, which catches -/
def e_Q (r : Option Int32) : Option Value := r.map Value.int
def k_ΦQ (Θ : Option Int32 → m_M → Prop) : Option Value → m_M → Prop := fun v M' => match v with
  | some (.int r) => Θ (some r) M'
  | _ => Θ none M'
def k_XC (D : va_G) (cy : Nat → ClassId) (base : Nat) (ad : Nat → Nat) (Θ : m_M → Prop) : String → State → State → Prop := fun E st t => E = "java/util/NoSuchElementException" ∧ (∃ M', Θ M' ∧ m_Rel D cy base ad M' t.heap) ∧ va_F (fun q => base ≤ q) st t
def j_CX (X : j_X) (y : MethodName) (cc : ByteArray) (nL d mc ms : Nat) (Θ : Option Int32 → m_M → Prop) : Prop := j_C0 X y cc nL d mc ms ∧ match X with
  | (_, l, _, _, s, _, args, below, meth, c, Q, D, cy, base, ad) => l.stackTraces = false ∧ meth.sig.returnType = some .int ∧ meth.locks = false ∧ (∀ x ∈ c.exceptionTable.toList, False) ∧ Q = vx_MQ below (j_Q D cy base ad (fun v M' => ∃ r, v = some (.int r) ∧ Θ (some r) M')) (k_XC D cy base ad (Θ none)) args s mc ms (fun q => base ≤ q)
theorem kx_in : ∀ w ∈ (kx_at "OneVerb" 272 "java/util/NoSuchElementException" "java/lang/RuntimeException" 13 prog_34_method_4_code ["java/lang/Exception"]).filter goodWord, w ∈ lw_tbl := by decide +kernel
theorem kx_bad : ∀ w ∈ (kx_at "OneVerb" 272 "java/util/NoSuchElementException" "java/lang/RuntimeException" 13 prog_34_method_4_code ["java/lang/Exception"]).filter (fun w => !goodWord w), w ∈ k_ew := by decide +kernel
theorem kx_ot : ∀ w ∈ Cond.classLink "OneVerb" 268 "java/util/NoSuchElementException" :: Cond.initialized "java/util/NoSuchElementException" :: kx_at "OneVerb" 272 "java/util/NoSuchElementException" "java/lang/RuntimeException" 13 prog_34_method_4_code ["java/lang/Exception"], vx_ot w = true := by decide +kernel
theorem k_ew_at {args : Array Value} {s : State} (h : ∀ w ∈ k_ew, va_Nw w s) : ∀ w ∈ k_ew, w.before args s = true := by
  intro w hw
  have h1 := h w hw
  simp only [k_ew, List.mem_cons, List.not_mem_nil, or_false] at hw
  rcases hw with rfl | rfl | rfl | rfl
  · exact va_Nw.use rfl h1
  · exact va_Nw.use rfl h1
  · exact va_Nw.use rfl h1
  · exact va_Nw.use rfl h1
theorem zz0 : decode prog_34_method_4_code 0 = .ok (.aload_n 0, 1) := by decide +kernel
theorem zz1 : decode prog_34_method_4_code 1 = .ok (.aload_n 1, 1) := by decide +kernel
theorem zz2 : decode prog_34_method_4_code 2 = .ok (.invokespecial 13, 3) := by decide +kernel
theorem zz5 : decode prog_34_method_4_code 5 = .ok (.return_, 1) := by decide +kernel
section J_RINGS
variable {X : j_X} {nL d mc ms : Nat} {Θ : Option Int32 → m_M → Prop} {pc : Nat} {lv : List (Option Value)} {st : List Value} {g : Nat × Nat} {M : m_M}
theorem k_qret {y : MethodName} {cc : ByteArray} (C : j_CX X y cc nL d mc ms Θ) {v : Int32} (h : m_ok e_Q (k_ΦQ Θ) (some (some v, M))) (hd : decode cc pc = .ok (.ireturn, 1)) : j_J X nL pc lv [.int v] (0, 0) M := by
  obtain ⟨p, l, e, R, s, m, args, below, meth, c, Q, D, cy, base, ad⟩ := X
  obtain ⟨⟨hx, hb, hml, hown, hts, hK, hbs, hCs, hR0, hname⟩, hst, hret, hlocks, hxt, hQ⟩ := C
  intro H locs ls hR hS hl
  subst hQ
  refine vx_ret ?_
  refine W.widen (Nat.zero_le mc) (Nat.zero_le ms) ?_
  exact W.iret hx hb hret (fun t ht hW => ⟨⟨some (.int v), M, rfl, ⟨v, rfl, h⟩, by rw [ht]; exact hR⟩, hS.F ht⟩) (fun q hq => hS.2.2 q hq) hd
theorem k_thr (C : j_CX X yX11_rings cX11_rings 2 d 1 6 Θ) (hN : m_N M < 1000000) (h : m_ok e_Q (k_ΦQ Θ) (some (none, m_new M 18 6))) (hdd : 10 ≤ d := by decide) : j_J X 2 11 lv [] (0, 0) M := by
  obtain ⟨p, l, e, R, s, m, args, below, meth, c, Q, D, cy, base, ad⟩ := X
  obtain ⟨⟨hx, hb, hml, hown, hts, hK, hbs, hCs, hR0, hname⟩, hst, hret, hlocks, hxt, hQ⟩ := C
  intro H locs ls hR hS hl
  subst hQ
  have hgw : ∀ w ∈ (kx_at "OneVerb" 272 "java/util/NoSuchElementException" "java/lang/RuntimeException" 13 prog_34_method_4_code ["java/lang/Exception"]).filter goodWord, w.before args s = true := fun w hw => hts w (List.mem_append_left _ (List.mem_filter.mpr ⟨kx_in w hw, (List.mem_filter.mp hw).2⟩))
  have hcl : (Cond.classLink "OneVerb" 268 "java/util/NoSuchElementException").before args s = true := hts _ (j_c7 5 (by decide +kernel))
  have hin : (Cond.initialized "java/util/NoSuchElementException").before args s = true := hts _ (j_c1 28 (by decide +kernel))
  refine k_make (A := fun q => base ≤ q) (b13 := prog_34_method_4_code) (i13 := 13) (own := "OneVerb") (cls := "java/util/NoSuchElementException") (Yc := "java/lang/RuntimeException") (names := ["java/lang/Exception"]) (ik := 268) (is := 270) (ic := 272) (sa := ad 24) hx hb hst zz0 zz1 zz2 zz5 hown (by decide) (by decide) (by decide) hcl hin hCs.2.2.2.1 (vx_hat hgw kx_bad (k_ew_at hCs.2.2.2.2.2.1.1)) kx_ot hCs.2.2.2.2.2.2.1 hCs.2.2.2.2.2.2.2 hS (hl.1.trans hml.symm) dX11_rings_11 dX11_rings_14 dX11_rings_15 dX11_rings_18
    (by have := hR0.1; show 1 + 4 < R.frames; omega) (by have := hR0.2.1; show 0 + (13 * (1 + 2) + 43) ≤ R.locals; omega) (by rw [hR0.2.2.1]; decide) (by rw [hR0.2.2.2]; decide) fun H1 e1 e2 e3 => ?_
  obtain ⟨ce, c1, c2, c3⟩ := e3
  refine vx_athrow hx hb dX11_rings_21 ?_
  have hS1 : va_S (fun q => base ≤ q) s.heap H1 locs := ⟨Nat.le_trans hS.1 (by rw [e1]; exact Nat.le_succ _), fun q h1 h2 => (e2 q (Nat.lt_of_lt_of_le h1 hS.1)).trans (hS.2.1 q h1 h2), hS.2.2⟩
  exact vx_out (E := "java/util/NoSuchElementException") (fun x hx => (hxt x hx).elim) hlocks c1 c2 c3 (fun t ht hal => ⟨rfl, ⟨m_new M 18 6, h, by rw [ht]; exact hR.new hN (fun h => absurd h (by decide)) e1 e2⟩, hS1.F ht⟩) hS.2.2 (by decide) (by decide)

end J_RINGS
noncomputable def F_X11_rings (a0 : Nat) (a1 : Int32) (M : m_M) : Option (Option Int32 × m_M) :=
  x_gN 9 M a0 8 fun v1 =>
  x_cV 0 M v1 (F_X0_areChoices v1 a1 M) fun v2 M1 =>
  if v2 = 0 then (
    if m_N M1 < 1000000 then some (none, m_new M1 18 6) else none
  ) else
  x_gN 9 M1 a0 8 fun v3 =>
  x_gN 9 M1 a0 2 fun v4 =>
  x_gN 9 M1 a0 9 fun v5 =>
  x_gI 1 M1 v5 0 fun v6 =>
  x_cV 3 M1 v4 (F_X3_verbOf v4 (v6 + (1 : Int32)) M1) fun v7 M2 =>
  x_cV 0 M2 v3 (F_X0_verbRung v3 a1 v7 M2) fun v8 M3 =>
  some (some v8, M3)
set_option maxHeartbeats 4000000 in
theorem J_X11_rings {X : j_X} {Θ : Option Int32 → m_M → Prop} (C : j_CX X yX11_rings cX11_rings 2 10 1 6 Θ) (a0 : Nat) (a1 : Int32) (M : m_M) (h : m_ok e_Q (k_ΦQ Θ) (F_X11_rings a0 a1 M)) : j_J X 2 0 [some (.ref a0), some (.int a1)] [] (0, 0) M := by
  have C0 := C.1
  unfold F_X11_rings at h
  refine j_aload_n C0 (pc := 0) dX11_rings_0 rfl ?_
  refine X_gN C0 (pc := 1) f_OV_58_9 rfl dX11_rings_1 h (fun v1 h => ?_)
  refine j_iload_n C0 (pc := 4) dX11_rings_4 rfl ?_
  refine X_cV C0 (pc := 5) (e' := e_I) (as := [.int a1]) (rest := []) (s' := fun w => .int w :: []) (g' := (0, 0)) v_OV_265_0 (fun Ψ hΨ => K_X0_areChoices v1 a1 M Ψ hΨ) rfl rfl (fun _ => rfl) (by decide) (by decide) rfl (Nat.le_of_ble_eq_true rfl) dX11_rings_5 h (fun v2 M1 h => ?_)
  refine j_if_ne C0 (pc := 8) (tgt := 22) dX11_rings_8 (by decide) (fun hc => ?_) (fun hc => ?_)
  · replace h := (X_if h).2 hc
    refine j_aload_n C0 (pc := 22) dX11_rings_22 rfl ?_
    refine X_gN C0 (pc := 23) f_OV_58_9 rfl dX11_rings_23 h (fun v3 h => ?_)
    refine j_iload_n C0 (pc := 26) dX11_rings_26 rfl ?_
    refine j_aload_n C0 (pc := 27) dX11_rings_27 rfl ?_
    refine X_gN C0 (pc := 28) f_OV_16_9 rfl dX11_rings_28 h (fun v4 h => ?_)
    refine j_aload_n C0 (pc := 31) dX11_rings_31 rfl ?_
    refine X_gN C0 (pc := 32) f_OV_65_9 rfl dX11_rings_32 h (fun v5 h => ?_)
    refine X_gI C0 (pc := 35) f_OV_119_1 rfl dX11_rings_35 h (fun v6 h => ?_)
    refine j_iconst C0 (pc := 38) dX11_rings_38 (v := (1 : Int32)) (by decide) ?_
    refine j_iadd C0 (pc := 39) dX11_rings_39 ?_
    refine X_cV C0 (pc := 40) (e' := e_I) (as := [.int (v6 + (1 : Int32))]) (rest := [.int a1, .ref v3]) (s' := fun w => .int w :: [.int a1, .ref v3]) (g' := (0, 0)) v_OV_162_3 (fun Ψ hΨ => K_X3_verbOf v4 (v6 + (1 : Int32)) M1 Ψ hΨ) rfl rfl (fun _ => rfl) (by decide) (by decide) rfl (Nat.le_of_ble_eq_true rfl) dX11_rings_40 h (fun v7 M2 h => ?_)
    refine X_cV C0 (pc := 43) (e' := e_I) (as := [.int a1, .int v7]) (rest := []) (s' := fun w => .int w :: []) (g' := (0, 0)) v_OV_275_0 (fun Ψ hΨ => K_X0_verbRung v3 a1 v7 M2 Ψ hΨ) rfl rfl (fun _ => rfl) (by decide) (by decide) rfl (Nat.le_of_ble_eq_true rfl) dX11_rings_43 h (fun v8 M3 h => ?_)
    exact k_qret C h dX11_rings_46
  · replace h := (X_if h).1 hc
    exact k_thr C (X_gd h).1 (X_gd h).2
theorem K_X11_rings (a0 : Nat) (a1 : Int32) (M : m_M) (Θ : Option Int32 → m_M → Prop) (h : m_ok e_Q (k_ΦQ Θ) (F_X11_rings a0 a1 M)) (l : Launch) (hst : l.stackTraces = false) (D : va_G) (cy : Nat → ClassId) (base : Nat) (ad : Nat → Nat) : vx_Met l yX11_rings (Cond.code yX11_rings cX11_rings 2 (some .int) :: j_tbl) (j_rm 10 1 6) (j_P D cy base ad [.ref a0, .int a1] M) (j_Q D cy base ad (fun v M' => ∃ r, v = some (.int r) ∧ Θ (some r) M')) (k_XC D cy base ad (Θ none)) 1 6 (fun q => base ≤ q) := by
  refine vx_ofW (cc := cX11_rings) (maxL := 2) (ret := some .int) (by decide +kernel) rfl ?_
  intro p e s m args below meth c s₁ B hml hxt hv
  obtain ⟨rfl, hR, hK, hCs⟩ := hv
  have hts0 := atoms_spec (ws := Cond.code yX11_rings cX11_rings 2 (some .int) :: j_tbl) B.pre
  have hts : ∀ w ∈ j_tbl, w.before (([.ref a0, .int a1].map (m_v base ad)).toArray) s = true := fun w hw => hts0 w (List.mem_cons_of_mem _ hw)
  have hown : s.vm.findClass yX11_rings.cls = some m.cls := findClass_of_methodNamed B.named
  have hb0 : base ≤ s.heap.size := by rw [hR.1]; omega
  have hj := J_X11_rings (X := (p, l, e, (headSpec (Cond.code yX11_rings cX11_rings 2 (some .int) :: j_tbl) (j_rm 10 1 6)).room, s, m, ([Value.ref a0, .int a1].map (m_v base ad)).toArray, below, meth, c, vx_MQ below (j_Q D cy base ad (fun v M' => ∃ r, v = some (.int r) ∧ Θ (some r) M')) (k_XC D cy base ad (Θ none)) (([Value.ref a0, .int a1].map (m_v base ad)).toArray) s 1 6 (fun q => base ≤ q), D, cy, base, ad)) (Θ := Θ)
    ⟨⟨B.exec, B.bytes, hml, hown, hts, hK, hb0, hCs, ⟨Nat.le_refl _, Nat.le_refl _, rfl, rfl⟩, (name_of_methodNamed B.named B.method).1⟩, hst, B.returns, B.notSynchronized, hxt, rfl⟩ a0 a1 M h
  rw [lg_entry_eq]
  exact hj s.heap [] _ hR va_S.rf (j_entry (m_v_cat base ad) [.ref a0, .int a1] (Nat.le_of_ble_eq_true rfl))
/-- the law's own rings: 1 where the class throws -/
noncomputable def F_L_rings (a1 : Nat) (a2 : Int32) (a3 : Nat) (M : m_M) : Option (Int32 × m_M) :=
  if m_K M a1 = 9 then x_bd (F_X11_rings a1 a2 M) fun r M1 => match r with
  | none => some ((1 : Int32), M1)
  | some v => x_sL M1 a3 (0 : Int32) v.toInt64 fun M2 => some ((0 : Int32), M2)
  else none
theorem k_mq {F : m_M → Option Int32 → Option (Int32 × m_M)} {Φ : Option Value → m_M → Prop} {o : Option (Option Int32 × m_M)} (h : m_ok e_I Φ (x_bd o fun r M1 => F M1 r)) : m_ok e_Q (k_ΦQ (fun r M1 => m_ok e_I Φ (F M1 r))) o := by
  cases o with
  | none => exact h.elim
  | some q =>
    obtain ⟨r, M1⟩ := q
    cases r with
    | none => exact h
    | some v => exact h
theorem v_Law_rings : j_V RL 7 9 yX11_rings cX11_rings 2 (some .int) 1 := ⟨⟨j_c7 0 (by decide +kernel), j_c7 3 (by decide +kernel), j_c1 1 (by decide +kernel), ⟨by decide +kernel, by decide +kernel⟩, by decide +kernel, by omega⟩, by omega, j_c7 1 (by decide +kernel), _, rfl, j_c7 2 (by decide +kernel)⟩
theorem C_L_rings : Cond.codeWith yL_rings cL_rings 4 (some .int) [(0, 9, 12, 13)] ∈ j_tbl := j_c6 238 (by decide +kernel)
set_option maxHeartbeats 4000000 in
theorem J_L_rings {X : j_X} {Φ : Option Value → m_M → Prop} (C : j_C X yL_rings cL_rings 4 (some .int) 12 1 6 Φ) (hst : X.2.1.stackTraces = false) (htab : X.2.2.2.2.2.2.2.2.2.1.exceptionTable.toList = tableOf [(0, 9, 12, 13)]) (a1 : Nat) (a2 : Int32) (a3 : Nat) (M : m_M) (h : m_ok e_I Φ (F_L_rings a1 a2 a3 M)) : j_J X 4 0 [some (.ref a1), some (.int a2), some (.ref a3), none] [] (0, 0) M := by
  have C0 := C.1
  obtain ⟨hk9, h⟩ := X_gd h
  refine j_aload_n C0 (pc := 0) dL_rings_0 rfl ?_
  refine j_iconst C0 (pc := 1) dL_rings_1 (v := (0 : Int32)) (by decide) ?_
  refine j_aload_n C0 (pc := 2) dL_rings_2 rfl ?_
  refine j_iload_n C0 (pc := 3) dL_rings_3 rfl ?_
  have hback : ∀ (r9 : Int32) (M' : m_M), m_ok e_I Φ (x_sL M' a3 (0 : Int32) r9.toInt64 fun M2 => some ((0 : Int32), M2)) → j_J X 4 7 [some (.ref a1), some (.int a2), some (.ref a3), none] [.int r9, .int 0, .ref a3] (1, 6) M' := by
    intro r9 M' hΘ
    refine j_i2l C0 (pc := 7) dL_rings_7 rfl ?_
    refine X_last C0 (pc := 8) dL_rings_8 hΘ (fun M2 h => ?_)
    refine j_goto C0 (pc := 9) (tgt := 15) dL_rings_9 (by decide) ?_
    refine j_iconst C0 (pc := 15) dL_rings_15 (v := (0 : Int32)) (by decide) ?_
    exact j_iret C (pc := 16) rfl h dL_rings_16 (by decide)
  obtain ⟨p, l, e, R, s, m, args, below, meth, c, Q, D, cy, base, ad⟩ := X
  intro H locs ls hR hS hl
  obtain ⟨⟨hx, hb, hml, hown, hts, hK, hbs, hCs, hR0, hname⟩, hret, hlocks, hQ⟩ := C
  obtain ⟨FB, hk11, hinst, r, hr1, hsel⟩ := v_Law_rings
  obtain ⟨h1, h2⟩ := m_lt hk9 (by omega)
  obtain ⟨r2, g1, cell, q1, q2, q3, q4⟩ := j_obj hR h1 h2 hk11
  cases g1.symm.trans hr1
  have hM := K_X11_rings a1 a2 M _ (k_mq h) l hst D cy base ad
  have hrun := vx_runV (e := e) (C := r.1) (b := m_ad base ad a1) (As := [Value.int a2].map (m_v base ad)) (cells := 0) (slots := 0) (H := H) (locs := locs) (below := below) (meth := meth) (g := F0 m 4 ls ([Value.int a2, .ref a1, .int 0, .ref a3].map (m_v base ad))) (rest := [Value.int 0, .ref a3].map (m_v base ad)) ⟨hx, hb, hml, hown, hts⟩ hM ⟨j_Lb.callB hts FB hR0 (by decide), hts _ hinst, hts _ hsel⟩ ⟨j_P.blind, ⟨cell, by rw [m_ad_lt hR h1]; exact q1, by rw [q3]; rfl, by rw [q2]; exact (hK.1 9 r hr1).2.1⟩, fun U hU hW => j_pre (as := [.ref a1, .int a2]) hR hK hCs hbs hS hU hW⟩ rfl rfl hl.1 rfl (lv_room (Nat.le_of_ble_eq_true rfl)) dL_rings_4 (by rw [hR0.2.2.1, hR0.2.2.2]; decide)
  intro T hT X0
  rcases hrun T hT X0 with ⟨v, st₀, t, T', L, h0, X', hL, e1, e2, ⟨⟨v', M', hv, ⟨r9, hr9, hΘ⟩, hRel⟩, hz, hk⟩, stp⟩ | ⟨q, st₀, t, T', L, E, ce, h0, X', hL, e1, e2, ⟨hE, ⟨M', hΘ, hRel⟩, hz, hk⟩, hce, hcv, hcc, stp⟩
  · have hv : v = v'.map (m_v base ad) := Outcome.returned.inj hv
    subst hv; subst hr9
    obtain ⟨k1, k2, k3⟩ := vx_keep h0 e1 hS (fun q _ h => h) (fun q h => h) hL ⟨hz, hk⟩
    obtain ⟨t2, a1, b1⟩ := hback r9 M' hΘ T'.heap (locs ++ L) ls (by rw [e1]; exact hRel) k3 hl T' rfl X'
    exact ⟨t2, stp t2 a1, b1⟩
  · subst hE
    subst hQ
    obtain ⟨k1, k2, k3⟩ := vx_keep h0 e1 hS (fun q _ h => h) (fun q h => h) hL ⟨hz, hk⟩
    have hx9 : vx_W p l e R s m args below meth c T'.heap (locs ++ L) (0 + 1) (0 + 6) (MQ below (j_Q D cy base ad Φ) args s 1 6 (fun q => base ≤ q)) (F0 m 4 ls ([Value.int 0, .ref a3].map (m_v base ad))) q := by
      refine vx_catch (own := "OneVerbLaw") (name := "java/util/NoSuchElementException") (ce := ce) hown [] ⟨0, 9, 12, 13⟩ [] (by rw [htab]; rfl) (fun z hz => (List.not_mem_nil hz).elim) rfl (by decide) (hts _ (j_c6 239 (by decide +kernel))) (k_ew_at hCs.2.2.2.2.2.1.1 _ List.mem_cons_self) (by rw [e1]; exact hce) hcv hcc ?_
      have hlh : lv_has ls 4 [] := ⟨hl.1, hl.2.1, fun q hq => (List.not_mem_nil hq).elim⟩
      refine lv_astore_n hx hb dL_rings_12 rfl hlh (by decide) rfl fun ls' hl' => ?_
      refine lv_iconst hx hb (v := (1 : Int32)) dL_rings_13 (by decide) ?_
      exact W.iret hx hb hret (fun t9 ht hW => ⟨⟨some (.int 1), M', rfl, hΘ, by rw [ht, e1]; exact hRel⟩, k3.F ht⟩) (fun q hq => k3.2.2 q hq) dL_rings_14
    obtain ⟨t2, a1, b1⟩ := hx9 T' rfl X'
    exact ⟨t2, stp.trans a1, b1⟩
theorem K_L_rings (a1 : Nat) (a2 : Int32) (a3 : Nat) (M : m_M) (Φ : Option Value → m_M → Prop) (h : m_ok e_I Φ (F_L_rings a1 a2 a3 M)) (l : Launch) (hst : l.stackTraces = false) (D : va_G) (cy : Nat → ClassId) (base : Nat) (ad : Nat → Nat) : Met l yL_rings (Cond.codeWith yL_rings cL_rings 4 (some .int) [(0, 9, 12, 13)] :: j_tbl) (j_rm 12 1 6) (j_P D cy base ad [.ref a1, .int a2, .ref a3] M) (j_Q D cy base ad Φ) 1 6 (fun q => base ≤ q) := by
  refine va_MetW (cc := cL_rings) (maxL := 4) (ret := some .int) (hh := [(0, 9, 12, 13)]) (by decide +kernel) rfl ?_
  intro p e s m args below meth c s₁ B hml hv
  obtain ⟨rfl, hR, hK, hCs⟩ := hv
  have hts0 := atoms_spec (ws := Cond.codeWith yL_rings cL_rings 4 (some .int) [(0, 9, 12, 13)] :: j_tbl) B.pre
  have hts : ∀ w ∈ j_tbl, w.before (([.ref a1, .int a2, .ref a3].map (m_v base ad)).toArray) s = true := fun w hw => hts0 w (List.mem_cons_of_mem _ hw)
  have hown : s.vm.findClass yL_rings.cls = some m.cls := findClass_of_methodNamed B.named
  have hb0 : base ≤ s.heap.size := by rw [hR.1]; omega
  have htab := vx_table (x := yL_rings) B (hts0 _ List.mem_cons_self)
  have hj := J_L_rings (X := (p, l, e, (headSpec (Cond.codeWith yL_rings cL_rings 4 (some .int) [(0, 9, 12, 13)] :: j_tbl) (j_rm 12 1 6)).room, s, m, ([Value.ref a1, .int a2, .ref a3].map (m_v base ad)).toArray, below, meth, c, MQ below (j_Q D cy base ad Φ) (([Value.ref a1, .int a2, .ref a3].map (m_v base ad)).toArray) s 1 6 (fun q => base ≤ q), D, cy, base, ad)) (Φ := Φ)
    ⟨⟨B.exec, B.bytes, hml, hown, hts, hK, hb0, hCs, ⟨Nat.le_refl _, Nat.le_refl _, rfl, rfl⟩, (name_of_methodNamed B.named B.method).1⟩, B.returns, B.notSynchronized, rfl⟩ hst htab a1 a2 a3 M h
  rw [lg_entry_eq]
  exact hj s.heap [] _ hR va_S.rf (j_entry (m_v_cat base ad) [.ref a1, .int a2, .ref a3] (Nat.le_of_ble_eq_true rfl))
theorem j_goodW {y : MethodName} {cc : ByteArray} {nL : Nat} {ret : Option FieldType} {hh : List (Nat × Nat × Nat × Nat)} (own : String) (idx : Nat) (h1 : Cond.methodLink own idx y ∈ j_tbl) (h2 : Cond.static y ∈ j_tbl) (h3 : Cond.initialized y.cls ∈ j_tbl) (h : Cond.codeWith y cc nL ret hh ∈ j_tbl) : GoodIn j_tbl (va_wsS own idx y (Cond.codeWith y cc nL ret hh :: j_tbl)) := by
  intro w hw
  have hm : w ∈ j_tbl := by
    simp only [va_wsS, List.cons_append, List.nil_append, List.mem_cons] at hw
    rcases hw with rfl | rfl | rfl | rfl | h9
    · exact h1
    · exact h2
    · exact h3
    · exact h
    · exact h9
  exact ⟨hm, good_of_word (j_tbl_good w hm)⟩
section J_RINGSC
variable {X : j_X} {nL : Nat} {d mc ms : Nat} {Φ : Option Value → m_M → Prop} {pc : Nat} {lv : List (Option Value)} {st : List Value} {g : Nat × Nat} {M : m_M} {α : Type} {e : α → Option Value}
theorem X_rings (C : j_C0 X yL_law cL_law nL d mc ms) (hst : X.2.1.stackTraces = false) {a1 a3 : Nat} {a2 : Int32} {f : Int32 → m_M → Option (α × m_M)} {g' : Nat × Nat} (hdd : 12 < d) (hg : g.1 + 1 ≤ mc ∧ g.2 + 6 ≤ ms) (hg' : (g.1 + 1, g.2 + 6) = g') (hw : (st.map fun v => v.category).sum ≤ 8) (hd : decode cL_law pc = .ok (.invokestatic 119, 3)) (h : m_ok e Φ (x_bd (F_L_rings a1 a2 a3 M) f)) (k : ∀ w M, m_ok e Φ (f w M) → j_J X nL (pc + 3) lv (.int w :: st) g' M) : j_J X nL pc lv (.ref a3 :: .int a2 :: .ref a1 :: st) g M := by
  subst hg'
  have hM := K_L_rings a1 a2 a3 M _ (m_ok_bd (e' := e_I) h)
  obtain ⟨p, l, e9, R, s, m, args, below, meth, c, Q, D, cy, base, ad⟩ := X
  obtain ⟨hx, hb, hml, hown, hts, hK, hbs, hCs, hR0, hname⟩ := C
  intro H locs ls hR hS hl
  have hw' : ((st.map (m_v base ad)).map fun v => v.category).sum ≤ 8 := by
    rw [List.map_map]
    have e9 : ((fun v : Value => v.category) ∘ m_v base ad) = fun v : Value => v.category := by funext v; exact m_v_cat base ad v
    rw [e9]; exact hw
  have hg' : g.1 + 1 ≤ R.cells ∧ g.2 + 6 ≤ R.slots := by rw [hR0.2.2.1, hR0.2.2.2]; exact hg
  refine j_run hS hl (vx_runSW (own := yL_law.cls) (As := [Value.ref a1, .int a2, .ref a3].map (m_v base ad)) ⟨hx, hb, hml, hown, hts⟩ (hM l hst D cy base ad) (vx_cwSW 3 hts (j_goodW yL_law.cls 119 (j_c6 236 (by decide +kernel)) (j_c6 237 (by decide +kernel)) (j_c1 0 (by decide +kernel)) C_L_rings) rfl rfl rfl ⟨by decide +kernel, by decide +kernel, by decide +kernel⟩ ⟨by have := hR0.1; show 12 + 1 ≤ R.frames; omega, by have := hR0.2.1; show 8 + (4 + 11) + 64 * 12 ≤ R.locals; omega⟩) ⟨j_P.blind, fun U hU hW => j_pre (as := [.ref a1, .int a2, .ref a3]) hR hK hCs hbs hS hU hW⟩ rfl rfl hl.1 (by simp) (lv_room hw') hd hg') (fun v M' hv => ?_)
  obtain ⟨w, rfl, h2⟩ := hv
  exact k w M' h2
end J_RINGSC

