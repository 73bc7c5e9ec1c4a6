theorem dX12_verb_0 : decode cX12_verb 0 = .ok (.aload_n 0, 1) := by decide +kernel
theorem dX12_verb_1 : decode cX12_verb 1 = .ok (.iconst 0, 1) := by decide +kernel
theorem dX12_verb_2 : decode cX12_verb 2 = .ok (.putfield 163, 3) := by decide +kernel
theorem dX12_verb_5 : decode cX12_verb 5 = .ok (.iload_n 1, 1) := by decide +kernel
theorem dX12_verb_6 : decode cX12_verb 6 = .ok (.ifCond .ge 7, 3) := by decide +kernel
theorem dX12_verb_9 : decode cX12_verb 9 = .ok (.iconst (-1), 1) := by decide +kernel
theorem dX12_verb_10 : decode cX12_verb 10 = .ok (.goto 8, 3) := by decide +kernel
theorem dX12_verb_13 : decode cX12_verb 13 = .ok (.aload_n 0, 1) := by decide +kernel
theorem dX12_verb_14 : decode cX12_verb 14 = .ok (.iload_n 1, 1) := by decide +kernel
theorem dX12_verb_15 : decode cX12_verb 15 = .ok (.invokevirtual 436, 3) := by decide +kernel
theorem dX12_verb_18 : decode cX12_verb 18 = .ok (.ireturn, 1) := by decide +kernel
noncomputable def F_X12_verb (a0 : Nat) (a1 : Int32) (M : m_M) : Option (Int32 × m_M) :=
  x_pI 10 M a0 0 (0 : Int32) fun M1 =>
  if 0 ≤ a1 then (
    x_cV 10 M1 a0 (F_X12_verbOf a0 a1 M1) fun v1 M2 =>
    some (v1, M2)
  ) else
  some ((-1 : Int32), M1)
set_option maxHeartbeats 4000000 in
theorem K_X12_verb (a0 : Nat) (a1 : Int32) (M : m_M) (Φ : Option Value → m_M → Prop) (h : m_ok e_I Φ (F_X12_verb a0 a1 M)) : j_Ct yX12_verb cX12_verb 2 (some .int) 2 0 0 [.ref a0, .int a1] M Φ := by
  refine j_Ct.of (by decide +kernel) (Nat.le_of_ble_eq_true rfl) fun X C => ?_
  have C0 := C.1
  show j_J X 2 0 [some (.ref a0), some (.int a1)] [] (0, 0) M
  unfold F_X12_verb at h
  refine j_aload_n C0 (pc := 0) dX12_verb_0 rfl ?_
  refine j_iconst C0 (pc := 1) dX12_verb_1 (v := (0 : Int32)) (by decide) ?_
  refine X_pI C0 (pc := 2) f_OM_163_10 rfl rfl dX12_verb_2 h (fun M1 h => ?_)
  refine j_iload_n C0 (pc := 5) dX12_verb_5 rfl ?_
  refine j_if_ge C0 (pc := 6) (tgt := 13) dX12_verb_6 (by decide) (fun hc => ?_) (fun hc => ?_)
  · replace h := (X_if h).1 hc
    refine j_aload_n C0 (pc := 13) dX12_verb_13 rfl ?_
    refine j_iload_n C0 (pc := 14) dX12_verb_14 rfl ?_
    refine X_cV C0 (pc := 15) (e' := e_I) (as := [.int a1]) (rest := []) (s' := fun w => .int w :: []) (g' := (0, 0)) v_OM_436_10 (fun Ψ hΨ => K_X12_verbOf a0 a1 M1 Ψ hΨ) rfl rfl (fun _ => rfl) (by decide) (by decide) rfl (Nat.le_of_ble_eq_true rfl) dX12_verb_15 h (fun v1 M2 h => ?_)
    exact j_iret C rfl h dX12_verb_18 (by decide)
  · replace h := (X_if h).2 hc
    refine j_iconst C0 (pc := 9) dX12_verb_9 (v := (-1 : Int32)) (by decide) ?_
    refine j_goto C0 (pc := 10) (tgt := 18) dX12_verb_10 (by decide) ?_
    exact j_iret C rfl h dX12_verb_18 (by decide)
theorem dX12_worlds_0 : decode cX12_worlds 0 = .ok (.aload_n 0, 1) := by decide +kernel
theorem dX12_worlds_1 : decode cX12_worlds 1 = .ok (.iconst 0, 1) := by decide +kernel
theorem dX12_worlds_2 : decode cX12_worlds 2 = .ok (.putfield 163, 3) := by decide +kernel
theorem dX12_worlds_5 : decode cX12_worlds 5 = .ok (.iload_n 1, 1) := by decide +kernel
theorem dX12_worlds_6 : decode cX12_worlds 6 = .ok (.iconst 0, 1) := by decide +kernel
theorem dX12_worlds_7 : decode cX12_worlds 7 = .ok (.iconst 1, 1) := by decide +kernel
theorem dX12_worlds_8 : decode cX12_worlds 8 = .ok (.invokestatic 279, 3) := by decide +kernel
theorem dX12_worlds_11 : decode cX12_worlds 11 = .ok (.ifCond .ne 5, 3) := by decide +kernel
theorem dX12_worlds_14 : decode cX12_worlds 14 = .ok (.iconst (-1), 1) := by decide +kernel
theorem dX12_worlds_15 : decode cX12_worlds 15 = .ok (.ireturn, 1) := by decide +kernel
theorem dX12_worlds_16 : decode cX12_worlds 16 = .ok (.aload_n 0, 1) := by decide +kernel
theorem dX12_worlds_17 : decode cX12_worlds 17 = .ok (.invokevirtual 463, 3) := by decide +kernel
theorem dX12_worlds_20 : decode cX12_worlds 20 = .ok (.iload_n 1, 1) := by decide +kernel
theorem dX12_worlds_21 : decode cX12_worlds 21 = .ok (.ifCond .ne 10, 3) := by decide +kernel
theorem dX12_worlds_24 : decode cX12_worlds 24 = .ok (.aload_n 0, 1) := by decide +kernel
theorem dX12_worlds_25 : decode cX12_worlds 25 = .ok (.getfield 383, 3) := by decide +kernel
theorem dX12_worlds_28 : decode cX12_worlds 28 = .ok (.goto 12, 3) := by decide +kernel
theorem dX12_worlds_31 : decode cX12_worlds 31 = .ok (.aload_n 0, 1) := by decide +kernel
theorem dX12_worlds_32 : decode cX12_worlds 32 = .ok (.aload_n 0, 1) := by decide +kernel
theorem dX12_worlds_33 : decode cX12_worlds 33 = .ok (.getfield 135, 3) := by decide +kernel
theorem dX12_worlds_36 : decode cX12_worlds 36 = .ok (.iconst 0, 1) := by decide +kernel
theorem dX12_worlds_37 : decode cX12_worlds 37 = .ok (.invokevirtual 455, 3) := by decide +kernel
theorem dX12_worlds_40 : decode cX12_worlds 40 = .ok (.ireturn, 1) := by decide +kernel
noncomputable def F_X12_worlds (a0 : Nat) (a1 : Int32) (M : m_M) : Option (Int32 × m_M) :=
  x_pI 10 M a0 0 (0 : Int32) fun M1 =>
  x_bd (F_X12_within a1 (0 : Int32) (1 : Int32) M1) fun v1 M2 =>
  if v1 = 0 then (
    some ((-1 : Int32), M2)
  ) else
  x_cV 10 M2 a0 (F_X12_leaves a0 M2) fun _ M3 =>
  if a1 = 0 then (
    x_gI 10 M3 a0 42 fun v4 =>
    some (v4, M3)
  ) else
  x_gN 10 M3 a0 62 fun v2 =>
  x_cV 10 M3 a0 (F_X12_countOf a0 v2 (0 : Int32) M3) fun v3 M4 =>
  some (v3, M4)
set_option maxHeartbeats 4000000 in
theorem K_X12_worlds (a0 : Nat) (a1 : Int32) (M : m_M) (Φ : Option Value → m_M → Prop) (h : m_ok e_I Φ (F_X12_worlds a0 a1 M)) : j_Ct yX12_worlds cX12_worlds 2 (some .int) 4 0 0 [.ref a0, .int a1] M Φ := by
  refine j_Ct.of (by decide +kernel) (Nat.le_of_ble_eq_true rfl) fun X C => ?_
  have C0 := C.1
  show j_J X 2 0 [some (.ref a0), some (.int a1)] [] (0, 0) M
  unfold F_X12_worlds at h
  refine j_aload_n C0 (pc := 0) dX12_worlds_0 rfl ?_
  refine j_iconst C0 (pc := 1) dX12_worlds_1 (v := (0 : Int32)) (by decide) ?_
  refine X_pI C0 (pc := 2) f_OM_163_10 rfl rfl dX12_worlds_2 h (fun M1 h => ?_)
  refine j_iload_n C0 (pc := 5) dX12_worlds_5 rfl ?_
  refine j_iconst C0 (pc := 6) dX12_worlds_6 (v := (0 : Int32)) (by decide) ?_
  refine j_iconst C0 (pc := 7) dX12_worlds_7 (v := (1 : Int32)) (by decide) ?_
  refine X_cS C0 (pc := 8) (e' := e_I) (as := [.int a1, .int (0 : Int32), .int (1 : Int32)]) (rest := []) (s' := fun w => .int w :: []) (g' := (0, 0)) s_OM_279 (fun Ψ hΨ => K_X12_within a1 (0 : Int32) (1 : Int32) M1 Ψ hΨ) rfl rfl (fun _ => rfl) (by decide) (by decide) rfl (Nat.le_of_ble_eq_true rfl) dX12_worlds_8 h (fun v1 M2 h => ?_)
  refine j_if_ne C0 (pc := 11) (tgt := 16) dX12_worlds_11 (by decide) (fun hc => ?_) (fun hc => ?_)
  · replace h := (X_if h).2 hc
    refine j_aload_n C0 (pc := 16) dX12_worlds_16 rfl ?_
    refine X_cV C0 (pc := 17) (e' := e_V) (as := []) (rest := []) (s' := fun _ => []) (g' := (0, 0)) v_OM_463_10 (fun Ψ hΨ => K_X12_leaves a0 M2 Ψ hΨ) rfl rfl (fun _ => rfl) (by decide) (by decide) rfl (Nat.le_of_ble_eq_true rfl) dX12_worlds_17 h (fun _ M3 h => ?_)
    refine j_iload_n C0 (pc := 20) dX12_worlds_20 rfl ?_
    refine j_if_ne C0 (pc := 21) (tgt := 31) dX12_worlds_21 (by decide) (fun hc => ?_) (fun hc => ?_)
    · replace h := (X_if h).2 hc
      refine j_aload_n C0 (pc := 31) dX12_worlds_31 rfl ?_
      refine j_aload_n C0 (pc := 32) dX12_worlds_32 rfl ?_
      refine X_gN C0 (pc := 33) f_OM_135_10 rfl dX12_worlds_33 h (fun v2 h => ?_)
      refine j_iconst C0 (pc := 36) dX12_worlds_36 (v := (0 : Int32)) (by decide) ?_
      refine X_cV C0 (pc := 37) (e' := e_I) (as := [.ref v2, .int (0 : Int32)]) (rest := []) (s' := fun w => .int w :: []) (g' := (0, 0)) v_OM_455_10 (fun Ψ hΨ => K_X12_countOf a0 v2 (0 : Int32) M3 Ψ hΨ) rfl rfl (fun _ => rfl) (by decide) (by decide) rfl (Nat.le_of_ble_eq_true rfl) dX12_worlds_37 h (fun v3 M4 h => ?_)
      exact j_iret C rfl h dX12_worlds_40 (by decide)
    · replace h := (X_if h).1 hc
      refine j_aload_n C0 (pc := 24) dX12_worlds_24 rfl ?_
      refine X_gI C0 (pc := 25) f_OM_383_10 rfl dX12_worlds_25 h (fun v4 h => ?_)
      refine j_goto C0 (pc := 28) (tgt := 40) dX12_worlds_28 (by decide) ?_
      exact j_iret C rfl h dX12_worlds_40 (by decide)
  · replace h := (X_if h).1 hc
    refine j_iconst C0 (pc := 14) dX12_worlds_14 (v := (-1 : Int32)) (by decide) ?_
    exact j_iret C rfl h dX12_worlds_15 (by decide)
theorem dX12_year_0 : decode cX12_year 0 = .ok (.aload_n 0, 1) := by decide +kernel
theorem dX12_year_1 : decode cX12_year 1 = .ok (.iconst 0, 1) := by decide +kernel
theorem dX12_year_2 : decode cX12_year 2 = .ok (.putfield 163, 3) := by decide +kernel
theorem dX12_year_5 : decode cX12_year 5 = .ok (.iload_n 1, 1) := by decide +kernel
theorem dX12_year_6 : decode cX12_year 6 = .ok (.iconst 0, 1) := by decide +kernel
theorem dX12_year_7 : decode cX12_year 7 = .ok (.sipush 9999, 3) := by decide +kernel
theorem dX12_year_10 : decode cX12_year 10 = .ok (.invokestatic 279, 3) := by decide +kernel
theorem dX12_year_13 : decode cX12_year 13 = .ok (.ifCond .eq 40, 3) := by decide +kernel
theorem dX12_year_16 : decode cX12_year 16 = .ok (.iload_n 2, 1) := by decide +kernel
theorem dX12_year_17 : decode cX12_year 17 = .ok (.iconst 1, 1) := by decide +kernel
theorem dX12_year_18 : decode cX12_year 18 = .ok (.bipush 60, 2) := by decide +kernel
theorem dX12_year_20 : decode cX12_year 20 = .ok (.invokestatic 279, 3) := by decide +kernel
theorem dX12_year_23 : decode cX12_year 23 = .ok (.ifCond .eq 30, 3) := by decide +kernel
theorem dX12_year_26 : decode cX12_year 26 = .ok (.iload_n 3, 1) := by decide +kernel
theorem dX12_year_27 : decode cX12_year 27 = .ok (.iconst 0, 1) := by decide +kernel
theorem dX12_year_28 : decode cX12_year 28 = .ok (.iconst 2, 1) := by decide +kernel
theorem dX12_year_29 : decode cX12_year 29 = .ok (.invokestatic 279, 3) := by decide +kernel
theorem dX12_year_32 : decode cX12_year 32 = .ok (.ifCond .eq 21, 3) := by decide +kernel
theorem dX12_year_35 : decode cX12_year 35 = .ok (.aload_n 0, 1) := by decide +kernel
theorem dX12_year_36 : decode cX12_year 36 = .ok (.getfield 13, 3) := by decide +kernel
theorem dX12_year_39 : decode cX12_year 39 = .ok (.iconst 3, 1) := by decide +kernel
theorem dX12_year_40 : decode cX12_year 40 = .ok (.iaload, 1) := by decide +kernel
theorem dX12_year_41 : decode cX12_year 41 = .ok (.ifCond .eq 12, 3) := by decide +kernel
theorem dX12_year_44 : decode cX12_year 44 = .ok (.aload_n 0, 1) := by decide +kernel
theorem dX12_year_45 : decode cX12_year 45 = .ok (.getfield 13, 3) := by decide +kernel
theorem dX12_year_48 : decode cX12_year 48 = .ok (.iconst 1, 1) := by decide +kernel
theorem dX12_year_49 : decode cX12_year 49 = .ok (.iaload, 1) := by decide +kernel
theorem dX12_year_50 : decode cX12_year 50 = .ok (.ifCond .ne 5, 3) := by decide +kernel
theorem dX12_year_53 : decode cX12_year 53 = .ok (.iconst (-1), 1) := by decide +kernel
theorem dX12_year_54 : decode cX12_year 54 = .ok (.ireturn, 1) := by decide +kernel
theorem dX12_year_55 : decode cX12_year 55 = .ok (.aload_n 0, 1) := by decide +kernel
theorem dX12_year_56 : decode cX12_year 56 = .ok (.iload_n 1, 1) := by decide +kernel
theorem dX12_year_57 : decode cX12_year 57 = .ok (.i2l, 1) := by decide +kernel
theorem dX12_year_58 : decode cX12_year 58 = .ok (.putfield 567, 3) := by decide +kernel
theorem dX12_year_61 : decode cX12_year 61 = .ok (.aload_n 0, 1) := by decide +kernel
theorem dX12_year_62 : decode cX12_year 62 = .ok (.invokevirtual 463, 3) := by decide +kernel
theorem dX12_year_65 : decode cX12_year 65 = .ok (.iconst 0, 1) := by decide +kernel
theorem dX12_year_66 : decode cX12_year 66 = .ok (.istore 4, 2) := by decide +kernel
theorem dX12_year_68 : decode cX12_year 68 = .ok (.iconst 0, 1) := by decide +kernel
theorem dX12_year_69 : decode cX12_year 69 = .ok (.istore 5, 2) := by decide +kernel
theorem dX12_year_71 : decode cX12_year 71 = .ok (.iconst 0, 1) := by decide +kernel
theorem dX12_year_72 : decode cX12_year 72 = .ok (.istore 6, 2) := by decide +kernel
theorem dX12_year_74 : decode cX12_year 74 = .ok (.iload 6, 2) := by decide +kernel
theorem dX12_year_76 : decode cX12_year 76 = .ok (.iload_n 2, 1) := by decide +kernel
theorem dX12_year_77 : decode cX12_year 77 = .ok (.if_icmp .ge 194, 3) := by decide +kernel
theorem dX12_year_80 : decode cX12_year 80 = .ok (.aload_n 0, 1) := by decide +kernel
theorem dX12_year_81 : decode cX12_year 81 = .ok (.bipush 10, 2) := by decide +kernel
theorem dX12_year_83 : decode cX12_year 83 = .ok (.invokevirtual 578, 3) := by decide +kernel
theorem dX12_year_86 : decode cX12_year 86 = .ok (.istore 7, 2) := by decide +kernel
theorem dX12_year_88 : decode cX12_year 88 = .ok (.iload 7, 2) := by decide +kernel
theorem dX12_year_90 : decode cX12_year 90 = .ok (.ifCond .ne 7, 3) := by decide +kernel
theorem dX12_year_93 : decode cX12_year 93 = .ok (.iconst (-1), 1) := by decide +kernel
theorem dX12_year_94 : decode cX12_year 94 = .ok (.goto 33, 3) := by decide +kernel
theorem dX12_year_97 : decode cX12_year 97 = .ok (.iload 7, 2) := by decide +kernel
theorem dX12_year_99 : decode cX12_year 99 = .ok (.iconst 1, 1) := by decide +kernel
theorem dX12_year_100 : decode cX12_year 100 = .ok (.if_icmp .ne 16, 3) := by decide +kernel
theorem dX12_year_103 : decode cX12_year 103 = .ok (.aload_n 0, 1) := by decide +kernel
theorem dX12_year_104 : decode cX12_year 104 = .ok (.aload_n 0, 1) := by decide +kernel
theorem dX12_year_105 : decode cX12_year 105 = .ok (.getfield 13, 3) := by decide +kernel
theorem dX12_year_108 : decode cX12_year 108 = .ok (.iconst 3, 1) := by decide +kernel
theorem dX12_year_109 : decode cX12_year 109 = .ok (.iaload, 1) := by decide +kernel
theorem dX12_year_110 : decode cX12_year 110 = .ok (.invokevirtual 578, 3) := by decide +kernel
theorem dX12_year_113 : decode cX12_year 113 = .ok (.goto 14, 3) := by decide +kernel
theorem dX12_year_116 : decode cX12_year 116 = .ok (.aload_n 0, 1) := by decide +kernel
theorem dX12_year_117 : decode cX12_year 117 = .ok (.aload_n 0, 1) := by decide +kernel
theorem dX12_year_118 : decode cX12_year 118 = .ok (.getfield 433, 3) := by decide +kernel
theorem dX12_year_121 : decode cX12_year 121 = .ok (.iload 6, 2) := by decide +kernel
theorem dX12_year_123 : decode cX12_year 123 = .ok (.iadd, 1) := by decide +kernel
theorem dX12_year_124 : decode cX12_year 124 = .ok (.invokevirtual 436, 3) := by decide +kernel
theorem dX12_year_127 : decode cX12_year 127 = .ok (.istore 8, 2) := by decide +kernel
theorem dX12_year_129 : decode cX12_year 129 = .ok (.iload 8, 2) := by decide +kernel
theorem dX12_year_131 : decode cX12_year 131 = .ok (.ifCond .ge 9, 3) := by decide +kernel
theorem dX12_year_134 : decode cX12_year 134 = .ok (.iinc 5 1, 3) := by decide +kernel
theorem dX12_year_137 : decode cX12_year 137 = .ok (.goto 50, 3) := by decide +kernel
theorem dX12_year_140 : decode cX12_year 140 = .ok (.aload_n 0, 1) := by decide +kernel
theorem dX12_year_141 : decode cX12_year 141 = .ok (.aload_n 0, 1) := by decide +kernel
theorem dX12_year_142 : decode cX12_year 142 = .ok (.getfield 13, 3) := by decide +kernel
theorem dX12_year_145 : decode cX12_year 145 = .ok (.iconst 1, 1) := by decide +kernel
theorem dX12_year_146 : decode cX12_year 146 = .ok (.iaload, 1) := by decide +kernel
theorem dX12_year_147 : decode cX12_year 147 = .ok (.invokevirtual 578, 3) := by decide +kernel
theorem dX12_year_150 : decode cX12_year 150 = .ok (.istore 9, 2) := by decide +kernel
theorem dX12_year_152 : decode cX12_year 152 = .ok (.aload_n 0, 1) := by decide +kernel
theorem dX12_year_153 : decode cX12_year 153 = .ok (.aload_n 0, 1) := by decide +kernel
theorem dX12_year_154 : decode cX12_year 154 = .ok (.getfield 13, 3) := by decide +kernel
theorem dX12_year_157 : decode cX12_year 157 = .ok (.iconst 1, 1) := by decide +kernel
theorem dX12_year_158 : decode cX12_year 158 = .ok (.iaload, 1) := by decide +kernel
theorem dX12_year_159 : decode cX12_year 159 = .ok (.invokevirtual 578, 3) := by decide +kernel
theorem dX12_year_162 : decode cX12_year 162 = .ok (.istore 10, 2) := by decide +kernel
theorem dX12_year_164 : decode cX12_year 164 = .ok (.iload 4, 2) := by decide +kernel
theorem dX12_year_166 : decode cX12_year 166 = .ok (.aload_n 0, 1) := by decide +kernel
theorem dX12_year_167 : decode cX12_year 167 = .ok (.iload 8, 2) := by decide +kernel
theorem dX12_year_169 : decode cX12_year 169 = .ok (.iload 9, 2) := by decide +kernel
theorem dX12_year_171 : decode cX12_year 171 = .ok (.iload 10, 2) := by decide +kernel
theorem dX12_year_173 : decode cX12_year 173 = .ok (.invokevirtual 581, 3) := by decide +kernel
theorem dX12_year_176 : decode cX12_year 176 = .ok (.ifCond .eq 7, 3) := by decide +kernel
theorem dX12_year_179 : decode cX12_year 179 = .ok (.iconst 1, 1) := by decide +kernel
theorem dX12_year_180 : decode cX12_year 180 = .ok (.goto 4, 3) := by decide +kernel
theorem dX12_year_183 : decode cX12_year 183 = .ok (.iconst 0, 1) := by decide +kernel
theorem dX12_year_184 : decode cX12_year 184 = .ok (.iadd, 1) := by decide +kernel
theorem dX12_year_185 : decode cX12_year 185 = .ok (.istore 4, 2) := by decide +kernel
theorem dX12_year_187 : decode cX12_year 187 = .ok (.iconst 0, 1) := by decide +kernel
theorem dX12_year_188 : decode cX12_year 188 = .ok (.istore 9, 2) := by decide +kernel
theorem dX12_year_190 : decode cX12_year 190 = .ok (.iload 9, 2) := by decide +kernel
theorem dX12_year_192 : decode cX12_year 192 = .ok (.aload_n 0, 1) := by decide +kernel
theorem dX12_year_193 : decode cX12_year 193 = .ok (.getfield 108, 3) := by decide +kernel
theorem dX12_year_196 : decode cX12_year 196 = .ok (.iconst 1, 1) := by decide +kernel
theorem dX12_year_197 : decode cX12_year 197 = .ok (.iaload, 1) := by decide +kernel
theorem dX12_year_198 : decode cX12_year 198 = .ok (.if_icmp .ge 67, 3) := by decide +kernel
theorem dX12_year_201 : decode cX12_year 201 = .ok (.iconst 0, 1) := by decide +kernel
theorem dX12_year_202 : decode cX12_year 202 = .ok (.istore 10, 2) := by decide +kernel
theorem dX12_year_204 : decode cX12_year 204 = .ok (.iload 10, 2) := by decide +kernel
theorem dX12_year_206 : decode cX12_year 206 = .ok (.bipush 16, 2) := by decide +kernel
theorem dX12_year_208 : decode cX12_year 208 = .ok (.if_icmp .ge 51, 3) := by decide +kernel
theorem dX12_year_211 : decode cX12_year 211 = .ok (.aload_n 0, 1) := by decide +kernel
theorem dX12_year_212 : decode cX12_year 212 = .ok (.getfield 105, 3) := by decide +kernel
theorem dX12_year_215 : decode cX12_year 215 = .ok (.iload 9, 2) := by decide +kernel
theorem dX12_year_217 : decode cX12_year 217 = .ok (.iaload, 1) := by decide +kernel
theorem dX12_year_218 : decode cX12_year 218 = .ok (.aload_n 0, 1) := by decide +kernel
theorem dX12_year_219 : decode cX12_year 219 = .ok (.getfield 433, 3) := by decide +kernel
theorem dX12_year_222 : decode cX12_year 222 = .ok (.iload 6, 2) := by decide +kernel
theorem dX12_year_224 : decode cX12_year 224 = .ok (.iadd, 1) := by decide +kernel
theorem dX12_year_225 : decode cX12_year 225 = .ok (.iconst 1, 1) := by decide +kernel
theorem dX12_year_226 : decode cX12_year 226 = .ok (.iadd, 1) := by decide +kernel
theorem dX12_year_227 : decode cX12_year 227 = .ok (.if_icmp .ne 32, 3) := by decide +kernel
theorem dX12_year_230 : decode cX12_year 230 = .ok (.aload_n 0, 1) := by decide +kernel
theorem dX12_year_231 : decode cX12_year 231 = .ok (.getfield 135, 3) := by decide +kernel
theorem dX12_year_234 : decode cX12_year 234 = .ok (.iload 10, 2) := by decide +kernel
theorem dX12_year_236 : decode cX12_year 236 = .ok (.dup2, 1) := by decide +kernel
theorem dX12_year_237 : decode cX12_year 237 = .ok (.laload, 1) := by decide +kernel
theorem dX12_year_238 : decode cX12_year 238 = .ok (.aload_n 0, 1) := by decide +kernel
theorem dX12_year_239 : decode cX12_year 239 = .ok (.getfield 99, 3) := by decide +kernel
theorem dX12_year_242 : decode cX12_year 242 = .ok (.bipush 16, 2) := by decide +kernel
theorem dX12_year_244 : decode cX12_year 244 = .ok (.iload 9, 2) := by decide +kernel
theorem dX12_year_246 : decode cX12_year 246 = .ok (.imul, 1) := by decide +kernel
theorem dX12_year_247 : decode cX12_year 247 = .ok (.iload 10, 2) := by decide +kernel
theorem dX12_year_249 : decode cX12_year 249 = .ok (.iadd, 1) := by decide +kernel
theorem dX12_year_250 : decode cX12_year 250 = .ok (.laload, 1) := by decide +kernel
theorem dX12_year_251 : decode cX12_year 251 = .ok (.land, 1) := by decide +kernel
theorem dX12_year_252 : decode cX12_year 252 = .ok (.lastore, 1) := by decide +kernel
theorem dX12_year_253 : decode cX12_year 253 = .ok (.iinc 10 1, 3) := by decide +kernel
theorem dX12_year_256 : decode cX12_year 256 = .ok (.goto (-52), 3) := by decide +kernel
theorem dX12_year_259 : decode cX12_year 259 = .ok (.iinc 9 1, 3) := by decide +kernel
theorem dX12_year_262 : decode cX12_year 262 = .ok (.goto (-72), 3) := by decide +kernel
theorem dX12_year_265 : decode cX12_year 265 = .ok (.iinc 6 1, 3) := by decide +kernel
theorem dX12_year_268 : decode cX12_year 268 = .ok (.goto (-194), 3) := by decide +kernel
theorem dX12_year_271 : decode cX12_year 271 = .ok (.iload_n 3, 1) := by decide +kernel
theorem dX12_year_272 : decode cX12_year 272 = .ok (.ifCond .ne 8, 3) := by decide +kernel
theorem dX12_year_275 : decode cX12_year 275 = .ok (.iload 4, 2) := by decide +kernel
theorem dX12_year_277 : decode cX12_year 277 = .ok (.goto 22, 3) := by decide +kernel
theorem dX12_year_280 : decode cX12_year 280 = .ok (.iload_n 3, 1) := by decide +kernel
theorem dX12_year_281 : decode cX12_year 281 = .ok (.iconst 1, 1) := by decide +kernel
theorem dX12_year_282 : decode cX12_year 282 = .ok (.if_icmp .ne 8, 3) := by decide +kernel
theorem dX12_year_285 : decode cX12_year 285 = .ok (.iload 5, 2) := by decide +kernel
theorem dX12_year_287 : decode cX12_year 287 = .ok (.goto 12, 3) := by decide +kernel
theorem dX12_year_290 : decode cX12_year 290 = .ok (.aload_n 0, 1) := by decide +kernel
theorem dX12_year_291 : decode cX12_year 291 = .ok (.aload_n 0, 1) := by decide +kernel
theorem dX12_year_292 : decode cX12_year 292 = .ok (.getfield 135, 3) := by decide +kernel
theorem dX12_year_295 : decode cX12_year 295 = .ok (.iconst 0, 1) := by decide +kernel
theorem dX12_year_296 : decode cX12_year 296 = .ok (.invokevirtual 455, 3) := by decide +kernel
theorem dX12_year_299 : decode cX12_year 299 = .ok (.ireturn, 1) := by decide +kernel
noncomputable def F_X12_year_204 (k259 : Nat → Int32 → Int32 → Int32 → Int32 → Int32 → Int32 → m_M → Option (Int32 × m_M)) : Nat → Nat → Int32 → Int32 → Int32 → Int32 → Int32 → Int32 → Int32 → m_M → Option (Int32 × m_M)
  | 0, _, _, _, _, _, _, _, _, _ => none
  | n + 1, v1, v2, v3, v4, v5, v6, v7, v8, M =>
    if (16 : Int32) ≤ v8 then (
      k259 v1 v2 v3 v4 v5 v6 v7 M
    ) else
    x_gN 10 M v1 50 fun v9 =>
    x_aI 12 M v9 v7 fun v10 =>
    x_gI 10 M v1 53 fun v11 =>
    if v10 = ((v11 + v6) + (1 : Int32)) then (
      x_gN 10 M v1 62 fun v12 =>
      x_aL M v12 v8 fun v13 =>
      x_gN 10 M v1 48 fun v14 =>
      x_aL M v14 (((16 : Int32) * v7) + v8) fun v15 =>
      x_sL M v12 v8 (v13 &&& v15) fun M1 =>
      m_let (v8 + (1 : Int32)) fun v16 =>
      F_X12_year_204 k259 n v1 v2 v3 v4 v5 v6 v7 v16 M1
    ) else
    k259 v1 v2 v3 v4 v5 v6 v7 M
noncomputable def F_X12_year_190 (k265 : Nat → Int32 → Int32 → Int32 → Int32 → Int32 → m_M → Option (Int32 × m_M)) : Nat → Nat → Int32 → Int32 → Int32 → Int32 → Int32 → Int32 → m_M → Option (Int32 × m_M)
  | 0, _, _, _, _, _, _, _, _ => none
  | n + 1, v1, v2, v3, v4, v5, v6, v7, M =>
    x_gN 10 M v1 51 fun v8 =>
    x_aI 12 M v8 (1 : Int32) fun v9 =>
    if v9 ≤ v7 then (
      k265 v1 v2 v3 v4 v5 v6 M
    ) else
    m_let (fun (v10 : Nat) (v11 : Int32) (v12 : Int32) (v13 : Int32) (v14 : Int32) (v15 : Int32) (v16 : Int32) (M1 : m_M) =>
      m_let (v16 + (1 : Int32)) fun v17 =>
      F_X12_year_190 k265 n v10 v11 v12 v13 v14 v15 v17 M1
    ) fun (k259 : Nat → Int32 → Int32 → Int32 → Int32 → Int32 → Int32 → m_M → Option (Int32 × m_M)) =>
    F_X12_year_204 k259 m_FU v1 v2 v3 v4 v5 v6 v7 (0 : Int32) M
noncomputable def F_X12_year_74 (k271 : Nat → Int32 → Int32 → Int32 → m_M → Option (Int32 × m_M)) : Nat → Nat → Int32 → Int32 → Int32 → Int32 → Int32 → m_M → Option (Int32 × m_M)
  | 0, _, _, _, _, _, _, _ => none
  | n + 1, v1, v2, v3, v4, v5, v6, M =>
    if v2 ≤ v6 then (
      k271 v1 v3 v4 v5 M
    ) else
    m_let (fun (v7 : Nat) (v8 : Int32) (v9 : Int32) (v10 : Int32) (v11 : Int32) (v12 : Int32) (v13 : Int32) (M1 : m_M) =>
      m_let (fun (v14 : Nat) (v15 : Int32) (v16 : Int32) (v17 : Int32) (v18 : Int32) (v19 : Int32) (M2 : m_M) =>
        m_let (fun (v20 : Nat) (v21 : Int32) (v22 : Int32) (v23 : Int32) (v24 : Int32) (v25 : Int32) (M3 : m_M) =>
          m_let (v25 + (1 : Int32)) fun v26 =>
          F_X12_year_74 k271 n v20 v21 v22 v23 v24 v26 M3
        ) fun (k265 : Nat → Int32 → Int32 → Int32 → Int32 → Int32 → m_M → Option (Int32 × m_M)) =>
        F_X12_year_190 k265 m_FU v14 v15 v16 v17 v18 v19 (0 : Int32) M2
      ) fun (k187 : Nat → Int32 → Int32 → Int32 → Int32 → Int32 → m_M → Option (Int32 × m_M)) =>
      if 0 ≤ v13 then (
        m_let (fun (v27 : Nat) (v28 : Int32) (v29 : Int32) (v30 : Int32) (v31 : Int32) (v32 : Int32) (v33 : Int32) (M4 : m_M) =>
          m_let (v32 + v33) fun v34 =>
          k187 v27 v28 v29 v34 v30 v31 M4
        ) fun (k184 : Nat → Int32 → Int32 → Int32 → Int32 → Int32 → Int32 → m_M → Option (Int32 × m_M)) =>
        x_gN 10 M1 v7 10 fun v35 =>
        x_aI 12 M1 v35 (1 : Int32) fun v36 =>
        x_cV 10 M1 v7 (F_X12_draws v7 v36 M1) fun v37 M5 =>
        x_gN 10 M5 v7 10 fun v38 =>
        x_aI 12 M5 v38 (1 : Int32) fun v39 =>
        x_cV 10 M5 v7 (F_X12_draws v7 v39 M5) fun v40 M6 =>
        x_cV 10 M6 v7 (F_X12_tells0 v7 v13 v37 v40 M6) fun v41 M7 =>
        if v41 = 0 then (
          k184 v7 v8 v9 v11 v12 v10 (0 : Int32) M7
        ) else
        k184 v7 v8 v9 v11 v12 v10 (1 : Int32) M7
      ) else
      m_let (v11 + (1 : Int32)) fun v42 =>
      k187 v7 v8 v9 v10 v42 v12 M1
    ) fun (k127 : Nat → Int32 → Int32 → Int32 → Int32 → Int32 → Int32 → m_M → Option (Int32 × m_M)) =>
    x_cV 10 M v1 (F_X12_draws v1 (10 : Int32) M) fun v43 M8 =>
    if v43 = 0 then (
      k127 v1 v2 v3 v4 v5 v6 (-1 : Int32) M8
    ) else
    if v43 = (1 : Int32) then (
      x_gN 10 M8 v1 10 fun v46 =>
      x_aI 12 M8 v46 (3 : Int32) fun v47 =>
      x_cV 10 M8 v1 (F_X12_draws v1 v47 M8) fun v48 M10 =>
      k127 v1 v2 v3 v4 v5 v6 v48 M10
    ) else
    x_gI 10 M8 v1 53 fun v44 =>
    x_cV 10 M8 v1 (F_X12_verbOf v1 (v44 + v6) M8) fun v45 M9 =>
    k127 v1 v2 v3 v4 v5 v6 v45 M9
noncomputable def F_X12_year (a0 : Nat) (a1 : Int32) (a2 : Int32) (a3 : Int32) (M : m_M) : Option (Int32 × m_M) :=
  x_pI 10 M a0 0 (0 : Int32) fun M1 =>
  x_bd (F_X12_within a1 (0 : Int32) (9999 : Int32) M1) fun v1 M2 =>
  if v1 = 0 then (
    some ((-1 : Int32), M2)
  ) else
  x_bd (F_X12_within a2 (1 : Int32) (60 : Int32) M2) fun v2 M3 =>
  if v2 = 0 then (
    some ((-1 : Int32), M3)
  ) else
  x_bd (F_X12_within a3 (0 : Int32) (2 : Int32) M3) fun v3 M4 =>
  if v3 = 0 then (
    some ((-1 : Int32), M4)
  ) else
  x_gN 10 M4 a0 10 fun v4 =>
  x_aI 12 M4 v4 (3 : Int32) fun v5 =>
  if v5 = 0 then (
    some ((-1 : Int32), M4)
  ) else
  x_gN 10 M4 a0 10 fun v6 =>
  x_aI 12 M4 v6 (1 : Int32) fun v7 =>
  if v7 = 0 then (
    some ((-1 : Int32), M4)
  ) else
  x_pL 10 M4 a0 73 a1.toInt64 fun M5 =>
  x_cV 10 M5 a0 (F_X12_leaves a0 M5) fun _ M6 =>
  m_let (fun (v8 : Nat) (v9 : Int32) (v10 : Int32) (v11 : Int32) (M7 : m_M) =>
    if v9 = 0 then (
      some (v10, M7)
    ) else
    if v9 = (1 : Int32) then (
      some (v11, M7)
    ) else
    x_gN 10 M7 v8 62 fun v12 =>
    x_cV 10 M7 v8 (F_X12_countOf v8 v12 (0 : Int32) M7) fun v13 M8 =>
    some (v13, M8)
  ) fun (k271 : Nat → Int32 → Int32 → Int32 → m_M → Option (Int32 × m_M)) =>
  F_X12_year_74 k271 m_FU a0 a2 a3 (0 : Int32) (0 : Int32) (0 : Int32) M6
set_option maxHeartbeats 4000000 in
theorem L_X12_year_204 {X : j_X} {Φ : Option Value → m_M → Prop} (C : j_C X yX12_year cX12_year 11 (some .int) 8 0 0 Φ) {k259 : Nat → Int32 → Int32 → Int32 → Int32 → Int32 → Int32 → m_M → Option (Int32 × m_M)} (hk259 : ∀ (p0 : Nat) (p1 : Int32) (p2 : Int32) (p3 : Int32) (p4 : Int32) (p5 : Int32) (p6 : Int32) (M : m_M), m_ok e_I Φ (k259 p0 p1 p2 p3 p4 p5 p6 M) → j_J X 11 259 [some (.ref p0), none, some (.int p1), some (.int p2), some (.int p3), some (.int p4), some (.int p5), none, none, some (.int p6), none] [] (0, 0) M) : ∀ (n : Nat) (v1 : Nat) (v2 : Int32) (v3 : Int32) (v4 : Int32) (v5 : Int32) (v6 : Int32) (v7 : Int32) (v8 : Int32) (M : m_M), m_ok e_I Φ (F_X12_year_204 k259 n v1 v2 v3 v4 v5 v6 v7 v8 M) → j_J X 11 204 [some (.ref v1), none, some (.int v2), some (.int v3), some (.int v4), some (.int v5), some (.int v6), none, none, some (.int v7), some (.int v8)] [] (0, 0) M := by
  have C0 := C.1
  intro n
  induction n with
  | zero => intro v1 v2 v3 v4 v5 v6 v7 v8 M h; exact False.elim h
  | succ n ih =>
    intro v1 v2 v3 v4 v5 v6 v7 v8 M h
    rw [F_X12_year_204] at h
    refine j_iload C0 (pc := 204) dX12_year_204 rfl ?_
    refine j_bipush C0 (pc := 206) dX12_year_206 (v := (16 : Int32)) (by decide) ?_
    refine j_icmp_ge C0 (pc := 208) (tgt := 259) dX12_year_208 (by decide) (fun hc => ?_) (fun hc => ?_)
    · replace h := (X_if h).1 hc
      exact j_J.wq (hk259 v1 v2 v3 v4 v5 v6 v7 M h) (And.intro rfl (And.intro rfl (And.intro rfl (And.intro rfl (And.intro rfl (And.intro rfl (And.intro rfl (trivial))))))))
    · replace h := (X_if h).2 hc
      refine j_aload_n C0 (pc := 211) dX12_year_211 rfl ?_
      refine X_gN C0 (pc := 212) f_OM_105_10 rfl dX12_year_212 h (fun v9 h => ?_)
      refine j_iload C0 (pc := 215) dX12_year_215 rfl ?_
      refine X_iald C0 (pc := 217) dX12_year_217 h (fun v10 h => ?_)
      refine j_aload_n C0 (pc := 218) dX12_year_218 rfl ?_
      refine X_gI C0 (pc := 219) f_OM_433_10 rfl dX12_year_219 h (fun v11 h => ?_)
      refine j_iload C0 (pc := 222) dX12_year_222 rfl ?_
      refine j_iadd C0 (pc := 224) dX12_year_224 ?_
      refine j_iconst C0 (pc := 225) dX12_year_225 (v := (1 : Int32)) (by decide) ?_
      refine j_iadd C0 (pc := 226) dX12_year_226 ?_
      refine j_icmp_ne C0 (pc := 227) (tgt := 259) dX12_year_227 (by decide) (fun hc => ?_) (fun hc => ?_)
      · replace h := (X_if h).2 hc
        exact j_J.wq (hk259 v1 v2 v3 v4 v5 v6 v7 M h) (And.intro rfl (And.intro rfl (And.intro rfl (And.intro rfl (And.intro rfl (And.intro rfl (And.intro rfl (trivial))))))))
      · replace h := (X_if h).1 hc
        refine j_aload_n C0 (pc := 230) dX12_year_230 rfl ?_
        refine X_gN C0 (pc := 231) f_OM_135_10 rfl dX12_year_231 h (fun v12 h => ?_)
        refine j_iload C0 (pc := 234) dX12_year_234 rfl ?_
        refine j_dup2 C0 (pc := 236) dX12_year_236 rfl rfl ?_
        refine X_lald C0 (pc := 237) dX12_year_237 h (fun v13 h => ?_)
        refine j_aload_n C0 (pc := 238) dX12_year_238 rfl ?_
        refine X_gN C0 (pc := 239) f_OM_99_10 rfl dX12_year_239 h (fun v14 h => ?_)
        refine j_bipush C0 (pc := 242) dX12_year_242 (v := (16 : Int32)) (by decide) ?_
        refine j_iload C0 (pc := 244) dX12_year_244 rfl ?_
        refine j_imul C0 (pc := 246) dX12_year_246 ?_
        refine j_iload C0 (pc := 247) dX12_year_247 rfl ?_
        refine j_iadd C0 (pc := 249) dX12_year_249 ?_
        refine X_lald C0 (pc := 250) dX12_year_250 h (fun v15 h => ?_)
        refine j_land C0 (pc := 251) dX12_year_251 ?_
        refine X_last C0 (pc := 252) dX12_year_252 h (fun M1 h => ?_)
        refine j_iinc C0 (pc := 253) dX12_year_253 (v := v8 + (1 : Int32)) rfl (Nat.le_of_ble_eq_true rfl) (by rfl) ?_
        refine X_let (G := fun w => j_J X 11 256 [some (.ref v1), none, some (.int v2), some (.int v3), some (.int v4), some (.int v5), some (.int v6), none, none, some (.int v7), some (.int w)] [] (0, 0) M1) h (fun v16 h => ?_)
        refine j_goto C0 (pc := 256) (tgt := 204) dX12_year_256 (by decide) ?_
        exact j_J.wq (ih v1 v2 v3 v4 v5 v6 v7 v16 M1 h) (And.intro rfl (And.intro rfl (And.intro rfl (And.intro rfl (And.intro rfl (And.intro rfl (And.intro rfl (And.intro rfl (trivial)))))))))
set_option maxHeartbeats 4000000 in
theorem L_X12_year_190 {X : j_X} {Φ : Option Value → m_M → Prop} (C : j_C X yX12_year cX12_year 11 (some .int) 8 0 0 Φ) {k265 : Nat → Int32 → Int32 → Int32 → Int32 → Int32 → m_M → Option (Int32 × m_M)} (hk265 : ∀ (p0 : Nat) (p1 : Int32) (p2 : Int32) (p3 : Int32) (p4 : Int32) (p5 : Int32) (M : m_M), m_ok e_I Φ (k265 p0 p1 p2 p3 p4 p5 M) → j_J X 11 265 [some (.ref p0), none, some (.int p1), some (.int p2), some (.int p3), some (.int p4), some (.int p5), none, none, none, none] [] (0, 0) M) : ∀ (n : Nat) (v1 : Nat) (v2 : Int32) (v3 : Int32) (v4 : Int32) (v5 : Int32) (v6 : Int32) (v7 : Int32) (M : m_M), m_ok e_I Φ (F_X12_year_190 k265 n v1 v2 v3 v4 v5 v6 v7 M) → j_J X 11 190 [some (.ref v1), none, some (.int v2), some (.int v3), some (.int v4), some (.int v5), some (.int v6), none, none, some (.int v7), none] [] (0, 0) M := by
  have C0 := C.1
  intro n
  induction n with
  | zero => intro v1 v2 v3 v4 v5 v6 v7 M h; exact False.elim h
  | succ n ih =>
    intro v1 v2 v3 v4 v5 v6 v7 M h
    rw [F_X12_year_190] at h
    refine j_iload C0 (pc := 190) dX12_year_190 rfl ?_
    refine j_aload_n C0 (pc := 192) dX12_year_192 rfl ?_
    refine X_gN C0 (pc := 193) f_OM_108_10 rfl dX12_year_193 h (fun v8 h => ?_)
    refine j_iconst C0 (pc := 196) dX12_year_196 (v := (1 : Int32)) (by decide) ?_
    refine X_iald C0 (pc := 197) dX12_year_197 h (fun v9 h => ?_)
    refine j_icmp_ge C0 (pc := 198) (tgt := 265) dX12_year_198 (by decide) (fun hc => ?_) (fun hc => ?_)
    · replace h := (X_if h).1 hc
      exact j_J.wq (hk265 v1 v2 v3 v4 v5 v6 M h) (And.intro rfl (And.intro rfl (And.intro rfl (And.intro rfl (And.intro rfl (And.intro rfl (trivial)))))))
    · replace h := (X_if h).2 hc
      refine j_iconst C0 (pc := 201) dX12_year_201 (v := (0 : Int32)) (by decide) ?_
      refine j_istore C0 (pc := 202) dX12_year_202 (Nat.le_of_ble_eq_true rfl) ?_
      show j_J X 11 204 [some (.ref v1), none, some (.int v2), some (.int v3), some (.int v4), some (.int v5), some (.int v6), none, none, some (.int v7), some (.int (0 : Int32))] [] (0, 0) M
      refine X_join (fun (kj : Nat → Int32 → Int32 → Int32 → Int32 → Int32 → Int32 → m_M → Option (Int32 × m_M)) => ∀ (p0 : Nat) (p1 : Int32) (p2 : Int32) (p3 : Int32) (p4 : Int32) (p5 : Int32) (p6 : Int32) (M : m_M), m_ok e_I Φ (kj p0 p1 p2 p3 p4 p5 p6 M) → j_J X 11 259 [some (.ref p0), none, some (.int p1), some (.int p2), some (.int p3), some (.int p4), some (.int p5), none, none, some (.int p6), none] [] (0, 0) M) h (fun v10 v11 v12 v13 v14 v15 v16 M1 h => ?_) (fun k259 hk259 h => ?_)
      · refine j_iinc C0 (pc := 259) dX12_year_259 (v := v16 + (1 : Int32)) rfl (Nat.le_of_ble_eq_true rfl) (by rfl) ?_
        refine X_let (G := fun w => j_J X 11 262 [some (.ref v10), none, some (.int v11), some (.int v12), some (.int v13), some (.int v14), some (.int v15), none, none, some (.int w), none] [] (0, 0) M1) h (fun v17 h => ?_)
        refine j_goto C0 (pc := 262) (tgt := 190) dX12_year_262 (by decide) ?_
        exact j_J.wq (ih v10 v11 v12 v13 v14 v15 v17 M1 h) (And.intro rfl (And.intro rfl (And.intro rfl (And.intro rfl (And.intro rfl (And.intro rfl (And.intro rfl (trivial))))))))
      · exact j_J.wq (L_X12_year_204 C hk259 m_FU v1 v2 v3 v4 v5 v6 v7 (0 : Int32) M h) (And.intro rfl (And.intro rfl (And.intro rfl (And.intro rfl (And.intro rfl (And.intro rfl (And.intro rfl (And.intro rfl (trivial)))))))))
set_option maxHeartbeats 4000000 in
theorem L_X12_year_74 {X : j_X} {Φ : Option Value → m_M → Prop} (C : j_C X yX12_year cX12_year 11 (some .int) 8 0 0 Φ) {k271 : Nat → Int32 → Int32 → Int32 → m_M → Option (Int32 × m_M)} (hk271 : ∀ (p0 : Nat) (p1 : Int32) (p2 : Int32) (p3 : Int32) (M : m_M), m_ok e_I Φ (k271 p0 p1 p2 p3 M) → j_J X 11 271 [some (.ref p0), none, none, some (.int p1), some (.int p2), some (.int p3), none, none, none, none, none] [] (0, 0) M) : ∀ (n : Nat) (v1 : Nat) (v2 : Int32) (v3 : Int32) (v4 : Int32) (v5 : Int32) (v6 : Int32) (M : m_M), m_ok e_I Φ (F_X12_year_74 k271 n v1 v2 v3 v4 v5 v6 M) → j_J X 11 74 [some (.ref v1), none, some (.int v2), some (.int v3), some (.int v4), some (.int v5), some (.int v6), none, none, none, none] [] (0, 0) M := by
  have C0 := C.1
  intro n
  induction n with
  | zero => intro v1 v2 v3 v4 v5 v6 M h; exact False.elim h
  | succ n ih =>
    intro v1 v2 v3 v4 v5 v6 M h
    rw [F_X12_year_74] at h
    refine j_iload C0 (pc := 74) dX12_year_74 rfl ?_
    refine j_iload_n C0 (pc := 76) dX12_year_76 rfl ?_
    refine j_icmp_ge C0 (pc := 77) (tgt := 271) dX12_year_77 (by decide) (fun hc => ?_) (fun hc => ?_)
    · replace h := (X_if h).1 hc
      exact j_J.wq (hk271 v1 v3 v4 v5 M h) (And.intro rfl (And.intro rfl (And.intro rfl (And.intro rfl (trivial)))))
    · replace h := (X_if h).2 hc
      refine X_join (fun (kj : Nat → Int32 → Int32 → Int32 → Int32 → Int32 → Int32 → m_M → Option (Int32 × m_M)) => ∀ (p0 : Nat) (p1 : Int32) (p2 : Int32) (p3 : Int32) (p4 : Int32) (p5 : Int32) (p6 : Int32) (M : m_M), m_ok e_I Φ (kj p0 p1 p2 p3 p4 p5 p6 M) → j_J X 11 127 [some (.ref p0), none, some (.int p1), some (.int p2), some (.int p3), some (.int p4), some (.int p5), none, none, none, none] [.int p6] (0, 0) M) h (fun v7 v8 v9 v10 v11 v12 v13 M1 h => ?_) (fun k127 hk127 h => ?_)
      · refine X_join (fun (kj : Nat → Int32 → Int32 → Int32 → Int32 → Int32 → m_M → Option (Int32 × m_M)) => ∀ (p0 : Nat) (p1 : Int32) (p2 : Int32) (p3 : Int32) (p4 : Int32) (p5 : Int32) (M : m_M), m_ok e_I Φ (kj p0 p1 p2 p3 p4 p5 M) → j_J X 11 187 [some (.ref p0), none, some (.int p1), some (.int p2), some (.int p3), some (.int p4), some (.int p5), none, none, none, none] [] (0, 0) M) h (fun v14 v15 v16 v17 v18 v19 M2 h => ?_) (fun k187 hk187 h => ?_)
        · refine j_iconst C0 (pc := 187) dX12_year_187 (v := (0 : Int32)) (by decide) ?_
          refine j_istore C0 (pc := 188) dX12_year_188 (Nat.le_of_ble_eq_true rfl) ?_
          show j_J X 11 190 [some (.ref v14), none, some (.int v15), some (.int v16), some (.int v17), some (.int v18), some (.int v19), none, none, some (.int (0 : Int32)), none] [] (0, 0) M2
          refine X_join (fun (kj : Nat → Int32 → Int32 → Int32 → Int32 → Int32 → m_M → Option (Int32 × m_M)) => ∀ (p0 : Nat) (p1 : Int32) (p2 : Int32) (p3 : Int32) (p4 : Int32) (p5 : Int32) (M : m_M), m_ok e_I Φ (kj p0 p1 p2 p3 p4 p5 M) → j_J X 11 265 [some (.ref p0), none, some (.int p1), some (.int p2), some (.int p3), some (.int p4), some (.int p5), none, none, none, none] [] (0, 0) M) h (fun v20 v21 v22 v23 v24 v25 M3 h => ?_) (fun k265 hk265 h => ?_)
          · refine j_iinc C0 (pc := 265) dX12_year_265 (v := v25 + (1 : Int32)) rfl (Nat.le_of_ble_eq_true rfl) (by rfl) ?_
            refine X_let (G := fun w => j_J X 11 268 [some (.ref v20), none, some (.int v21), some (.int v22), some (.int v23), some (.int v24), some (.int w), none, none, none, none] [] (0, 0) M3) h (fun v26 h => ?_)
            refine j_goto C0 (pc := 268) (tgt := 74) dX12_year_268 (by decide) ?_
            exact j_J.wq (ih v20 v21 v22 v23 v24 v26 M3 h) (And.intro rfl (And.intro rfl (And.intro rfl (And.intro rfl (And.intro rfl (And.intro rfl (trivial)))))))
          · exact j_J.wq (L_X12_year_190 C hk265 m_FU v14 v15 v16 v17 v18 v19 (0 : Int32) M2 h) (And.intro rfl (And.intro rfl (And.intro rfl (And.intro rfl (And.intro rfl (And.intro rfl (And.intro rfl (trivial))))))))
        · refine j_istore C0 (pc := 127) dX12_year_127 (Nat.le_of_ble_eq_true rfl) ?_
          show j_J X 11 129 [some (.ref v7), none, some (.int v8), some (.int v9), some (.int v10), some (.int v11), some (.int v12), none, some (.int v13), none, none] [] (0, 0) M1
          refine j_iload C0 (pc := 129) dX12_year_129 rfl ?_
          refine j_if_ge C0 (pc := 131) (tgt := 140) dX12_year_131 (by decide) (fun hc => ?_) (fun hc => ?_)
          · replace h := (X_if h).1 hc
            refine X_join (fun (kj : Nat → Int32 → Int32 → Int32 → Int32 → Int32 → Int32 → m_M → Option (Int32 × m_M)) => ∀ (p0 : Nat) (p1 : Int32) (p2 : Int32) (p3 : Int32) (p4 : Int32) (p5 : Int32) (p6 : Int32) (M : m_M), m_ok e_I Φ (kj p0 p1 p2 p3 p4 p5 p6 M) → j_J X 11 184 [some (.ref p0), none, some (.int p1), some (.int p2), none, some (.int p3), some (.int p4), none, none, none, none] [.int p6, .int p5] (0, 0) M) h (fun v27 v28 v29 v30 v31 v32 v33 M4 h => ?_) (fun k184 hk184 h => ?_)
            · refine j_iadd C0 (pc := 184) dX12_year_184 ?_
              refine X_let (G := fun w => j_J X 11 185 [some (.ref v27), none, some (.int v28), some (.int v29), none, some (.int v30), some (.int v31), none, none, none, none] (.int w :: []) (0, 0) M4) h (fun v34 h => ?_)
              refine j_istore C0 (pc := 185) dX12_year_185 (Nat.le_of_ble_eq_true rfl) ?_
              show j_J X 11 187 [some (.ref v27), none, some (.int v28), some (.int v29), some (.int v34), some (.int v30), some (.int v31), none, none, none, none] [] (0, 0) M4
              exact j_J.wq (hk187 v27 v28 v29 v34 v30 v31 M4 h) (And.intro rfl (And.intro rfl (And.intro rfl (And.intro rfl (And.intro rfl (And.intro rfl (trivial)))))))
            · refine j_aload_n C0 (pc := 140) dX12_year_140 rfl ?_
              refine j_aload_n C0 (pc := 141) dX12_year_141 rfl ?_
              refine X_gN C0 (pc := 142) f_OM_13_10 rfl dX12_year_142 h (fun v35 h => ?_)
              refine j_iconst C0 (pc := 145) dX12_year_145 (v := (1 : Int32)) (by decide) ?_
              refine X_iald C0 (pc := 146) dX12_year_146 h (fun v36 h => ?_)
              refine X_cV C0 (pc := 147) (e' := e_I) (as := [.int v36]) (rest := []) (s' := fun w => .int w :: []) (g' := (0, 0)) v_OM_578_10 (fun Ψ hΨ => K_X12_draws v7 v36 M1 Ψ hΨ) rfl rfl (fun _ => rfl) (by decide) (by decide) rfl (Nat.le_of_ble_eq_true rfl) dX12_year_147 h (fun v37 M5 h => ?_)
              refine j_istore C0 (pc := 150) dX12_year_150 (Nat.le_of_ble_eq_true rfl) ?_
              show j_J X 11 152 [some (.ref v7), none, some (.int v8), some (.int v9), some (.int v10), some (.int v11), some (.int v12), none, some (.int v13), some (.int v37), none] [] (0, 0) M5
              refine j_aload_n C0 (pc := 152) dX12_year_152 rfl ?_
              refine j_aload_n C0 (pc := 153) dX12_year_153 rfl ?_
              refine X_gN C0 (pc := 154) f_OM_13_10 rfl dX12_year_154 h (fun v38 h => ?_)
              refine j_iconst C0 (pc := 157) dX12_year_157 (v := (1 : Int32)) (by decide) ?_
              refine X_iald C0 (pc := 158) dX12_year_158 h (fun v39 h => ?_)
              refine X_cV C0 (pc := 159) (e' := e_I) (as := [.int v39]) (rest := []) (s' := fun w => .int w :: []) (g' := (0, 0)) v_OM_578_10 (fun Ψ hΨ => K_X12_draws v7 v39 M5 Ψ hΨ) rfl rfl (fun _ => rfl) (by decide) (by decide) rfl (Nat.le_of_ble_eq_true rfl) dX12_year_159 h (fun v40 M6 h => ?_)
              refine j_istore C0 (pc := 162) dX12_year_162 (Nat.le_of_ble_eq_true rfl) ?_
              show j_J X 11 164 [some (.ref v7), none, some (.int v8), some (.int v9), some (.int v10), some (.int v11), some (.int v12), none, some (.int v13), some (.int v37), some (.int v40)] [] (0, 0) M6
              refine j_iload C0 (pc := 164) dX12_year_164 rfl ?_
              refine j_aload_n C0 (pc := 166) dX12_year_166 rfl ?_
              refine j_iload C0 (pc := 167) dX12_year_167 rfl ?_
              refine j_iload C0 (pc := 169) dX12_year_169 rfl ?_
              refine j_iload C0 (pc := 171) dX12_year_171 rfl ?_
              refine X_cV C0 (pc := 173) (e' := e_I) (as := [.int v13, .int v37, .int v40]) (rest := [.int v10]) (s' := fun w => .int w :: [.int v10]) (g' := (0, 0)) v_OM_581_10 (fun Ψ hΨ => K_X12_tells0 v7 v13 v37 v40 M6 Ψ hΨ) rfl rfl (fun _ => rfl) (by decide) (by decide) rfl (Nat.le_of_ble_eq_true rfl) dX12_year_173 h (fun v41 M7 h => ?_)
              refine j_if_eq C0 (pc := 176) (tgt := 183) dX12_year_176 (by decide) (fun hc => ?_) (fun hc => ?_)
              · replace h := (X_if h).1 hc
                refine j_iconst C0 (pc := 183) dX12_year_183 (v := (0 : Int32)) (by decide) ?_
                exact j_J.wq (hk184 v7 v8 v9 v11 v12 v10 (0 : Int32) M7 h) (And.intro rfl (And.intro rfl (And.intro rfl (And.intro rfl (And.intro rfl (trivial))))))
              · replace h := (X_if h).2 hc
                refine j_iconst C0 (pc := 179) dX12_year_179 (v := (1 : Int32)) (by decide) ?_
                refine j_goto C0 (pc := 180) (tgt := 184) dX12_year_180 (by decide) ?_
                exact j_J.wq (hk184 v7 v8 v9 v11 v12 v10 (1 : Int32) M7 h) (And.intro rfl (And.intro rfl (And.intro rfl (And.intro rfl (And.intro rfl (trivial))))))
          · replace h := (X_if h).2 hc
            refine j_iinc C0 (pc := 134) dX12_year_134 (v := v11 + (1 : Int32)) rfl (Nat.le_of_ble_eq_true rfl) (by rfl) ?_
            refine X_let (G := fun w => j_J X 11 137 [some (.ref v7), none, some (.int v8), some (.int v9), some (.int v10), some (.int w), some (.int v12), none, some (.int v13), none, none] [] (0, 0) M1) h (fun v42 h => ?_)
            refine j_goto C0 (pc := 137) (tgt := 187) dX12_year_137 (by decide) ?_
            exact j_J.wq (hk187 v7 v8 v9 v10 v42 v12 M1 h) (And.intro rfl (And.intro rfl (And.intro rfl (And.intro rfl (And.intro rfl (And.intro rfl (trivial)))))))
      · refine j_aload_n C0 (pc := 80) dX12_year_80 rfl ?_
        refine j_bipush C0 (pc := 81) dX12_year_81 (v := (10 : Int32)) (by decide) ?_
        refine X_cV C0 (pc := 83) (e' := e_I) (as := [.int (10 : Int32)]) (rest := []) (s' := fun w => .int w :: []) (g' := (0, 0)) v_OM_578_10 (fun Ψ hΨ => K_X12_draws v1 (10 : Int32) M Ψ hΨ) rfl rfl (fun _ => rfl) (by decide) (by decide) rfl (Nat.le_of_ble_eq_true rfl) dX12_year_83 h (fun v43 M8 h => ?_)
        refine j_istore C0 (pc := 86) dX12_year_86 (Nat.le_of_ble_eq_true rfl) ?_
        show j_J X 11 88 [some (.ref v1), none, some (.int v2), some (.int v3), some (.int v4), some (.int v5), some (.int v6), some (.int v43), none, none, none] [] (0, 0) M8
        refine j_iload C0 (pc := 88) dX12_year_88 rfl ?_
        refine j_if_ne C0 (pc := 90) (tgt := 97) dX12_year_90 (by decide) (fun hc => ?_) (fun hc => ?_)
        · replace h := (X_if h).2 hc
          refine j_iload C0 (pc := 97) dX12_year_97 rfl ?_
          refine j_iconst C0 (pc := 99) dX12_year_99 (v := (1 : Int32)) (by decide) ?_
          refine j_icmp_ne C0 (pc := 100) (tgt := 116) dX12_year_100 (by decide) (fun hc => ?_) (fun hc => ?_)
          · replace h := (X_if h).2 hc
            refine j_aload_n C0 (pc := 116) dX12_year_116 rfl ?_
            refine j_aload_n C0 (pc := 117) dX12_year_117 rfl ?_
            refine X_gI C0 (pc := 118) f_OM_433_10 rfl dX12_year_118 h (fun v44 h => ?_)
            refine j_iload C0 (pc := 121) dX12_year_121 rfl ?_
            refine j_iadd C0 (pc := 123) dX12_year_123 ?_
            refine X_cV C0 (pc := 124) (e' := e_I) (as := [.int (v44 + v6)]) (rest := []) (s' := fun w => .int w :: []) (g' := (0, 0)) v_OM_436_10 (fun Ψ hΨ => K_X12_verbOf v1 (v44 + v6) M8 Ψ hΨ) rfl rfl (fun _ => rfl) (by decide) (by decide) rfl (Nat.le_of_ble_eq_true rfl) dX12_year_124 h (fun v45 M9 h => ?_)
            exact j_J.wq (hk127 v1 v2 v3 v4 v5 v6 v45 M9 h) (And.intro rfl (And.intro rfl (And.intro rfl (And.intro rfl (And.intro rfl (And.intro rfl (trivial)))))))
          · replace h := (X_if h).1 hc
            refine j_aload_n C0 (pc := 103) dX12_year_103 rfl ?_
            refine j_aload_n C0 (pc := 104) dX12_year_104 rfl ?_
            refine X_gN C0 (pc := 105) f_OM_13_10 rfl dX12_year_105 h (fun v46 h => ?_)
            refine j_iconst C0 (pc := 108) dX12_year_108 (v := (3 : Int32)) (by decide) ?_
            refine X_iald C0 (pc := 109) dX12_year_109 h (fun v47 h => ?_)
            refine X_cV C0 (pc := 110) (e' := e_I) (as := [.int v47]) (rest := []) (s' := fun w => .int w :: []) (g' := (0, 0)) v_OM_578_10 (fun Ψ hΨ => K_X12_draws v1 v47 M8 Ψ hΨ) rfl rfl (fun _ => rfl) (by decide) (by decide) rfl (Nat.le_of_ble_eq_true rfl) dX12_year_110 h (fun v48 M10 h => ?_)
            refine j_goto C0 (pc := 113) (tgt := 127) dX12_year_113 (by decide) ?_
            exact j_J.wq (hk127 v1 v2 v3 v4 v5 v6 v48 M10 h) (And.intro rfl (And.intro rfl (And.intro rfl (And.intro rfl (And.intro rfl (And.intro rfl (trivial)))))))
        · replace h := (X_if h).1 hc
          refine j_iconst C0 (pc := 93) dX12_year_93 (v := (-1 : Int32)) (by decide) ?_
          refine j_goto C0 (pc := 94) (tgt := 127) dX12_year_94 (by decide) ?_
          exact j_J.wq (hk127 v1 v2 v3 v4 v5 v6 (-1 : Int32) M8 h) (And.intro rfl (And.intro rfl (And.intro rfl (And.intro rfl (And.intro rfl (And.intro rfl (trivial)))))))
set_option maxHeartbeats 4000000 in
theorem K_X12_year (a0 : Nat) (a1 : Int32) (a2 : Int32) (a3 : Int32) (M : m_M) (Φ : Option Value → m_M → Prop) (h : m_ok e_I Φ (F_X12_year a0 a1 a2 a3 M)) : j_Ct yX12_year cX12_year 11 (some .int) 8 0 0 [.ref a0, .int a1, .int a2, .int a3] M Φ := by
  refine j_Ct.of (by decide +kernel) (Nat.le_of_ble_eq_true rfl) fun X C => ?_
  have C0 := C.1
  show j_J X 11 0 [some (.ref a0), some (.int a1), some (.int a2), some (.int a3), none, none, none, none, none, none, none] [] (0, 0) M
  unfold F_X12_year at h
  refine j_aload_n C0 (pc := 0) dX12_year_0 rfl ?_
  refine j_iconst C0 (pc := 1) dX12_year_1 (v := (0 : Int32)) (by decide) ?_
  refine X_pI C0 (pc := 2) f_OM_163_10 rfl rfl dX12_year_2 h (fun M1 h => ?_)
  refine j_iload_n C0 (pc := 5) dX12_year_5 rfl ?_
  refine j_iconst C0 (pc := 6) dX12_year_6 (v := (0 : Int32)) (by decide) ?_
  refine j_sipush C0 (pc := 7) dX12_year_7 (v := (9999 : Int32)) (by decide) ?_
  refine X_cS C0 (pc := 10) (e' := e_I) (as := [.int a1, .int (0 : Int32), .int (9999 : Int32)]) (rest := []) (s' := fun w => .int w :: []) (g' := (0, 0)) s_OM_279 (fun Ψ hΨ => K_X12_within a1 (0 : Int32) (9999 : Int32) M1 Ψ hΨ) rfl rfl (fun _ => rfl) (by decide) (by decide) rfl (Nat.le_of_ble_eq_true rfl) dX12_year_10 h (fun v1 M2 h => ?_)
  refine j_if_eq C0 (pc := 13) (tgt := 53) dX12_year_13 (by decide) (fun hc => ?_) (fun hc => ?_)
  · replace h := (X_if h).1 hc
    refine j_iconst C0 (pc := 53) dX12_year_53 (v := (-1 : Int32)) (by decide) ?_
    exact j_iret C rfl h dX12_year_54 (by decide)
  · replace h := (X_if h).2 hc
    refine j_iload_n C0 (pc := 16) dX12_year_16 rfl ?_
    refine j_iconst C0 (pc := 17) dX12_year_17 (v := (1 : Int32)) (by decide) ?_
    refine j_bipush C0 (pc := 18) dX12_year_18 (v := (60 : Int32)) (by decide) ?_
    refine X_cS C0 (pc := 20) (e' := e_I) (as := [.int a2, .int (1 : Int32), .int (60 : Int32)]) (rest := []) (s' := fun w => .int w :: []) (g' := (0, 0)) s_OM_279 (fun Ψ hΨ => K_X12_within a2 (1 : Int32) (60 : Int32) M2 Ψ hΨ) rfl rfl (fun _ => rfl) (by decide) (by decide) rfl (Nat.le_of_ble_eq_true rfl) dX12_year_20 h (fun v2 M3 h => ?_)
    refine j_if_eq C0 (pc := 23) (tgt := 53) dX12_year_23 (by decide) (fun hc => ?_) (fun hc => ?_)
    · replace h := (X_if h).1 hc
      refine j_iconst C0 (pc := 53) dX12_year_53 (v := (-1 : Int32)) (by decide) ?_
      exact j_iret C rfl h dX12_year_54 (by decide)
    · replace h := (X_if h).2 hc
      refine j_iload_n C0 (pc := 26) dX12_year_26 rfl ?_
      refine j_iconst C0 (pc := 27) dX12_year_27 (v := (0 : Int32)) (by decide) ?_
      refine j_iconst C0 (pc := 28) dX12_year_28 (v := (2 : Int32)) (by decide) ?_
      refine X_cS C0 (pc := 29) (e' := e_I) (as := [.int a3, .int (0 : Int32), .int (2 : Int32)]) (rest := []) (s' := fun w => .int w :: []) (g' := (0, 0)) s_OM_279 (fun Ψ hΨ => K_X12_within a3 (0 : Int32) (2 : Int32) M3 Ψ hΨ) rfl rfl (fun _ => rfl) (by decide) (by decide) rfl (Nat.le_of_ble_eq_true rfl) dX12_year_29 h (fun v3 M4 h => ?_)
      refine j_if_eq C0 (pc := 32) (tgt := 53) dX12_year_32 (by decide) (fun hc => ?_) (fun hc => ?_)
      · replace h := (X_if h).1 hc
        refine j_iconst C0 (pc := 53) dX12_year_53 (v := (-1 : Int32)) (by decide) ?_
        exact j_iret C rfl h dX12_year_54 (by decide)
      · replace h := (X_if h).2 hc
        refine j_aload_n C0 (pc := 35) dX12_year_35 rfl ?_
        refine X_gN C0 (pc := 36) f_OM_13_10 rfl dX12_year_36 h (fun v4 h => ?_)
        refine j_iconst C0 (pc := 39) dX12_year_39 (v := (3 : Int32)) (by decide) ?_
        refine X_iald C0 (pc := 40) dX12_year_40 h (fun v5 h => ?_)
        refine j_if_eq C0 (pc := 41) (tgt := 53) dX12_year_41 (by decide) (fun hc => ?_) (fun hc => ?_)
        · replace h := (X_if h).1 hc
          refine j_iconst C0 (pc := 53) dX12_year_53 (v := (-1 : Int32)) (by decide) ?_
          exact j_iret C rfl h dX12_year_54 (by decide)
        · replace h := (X_if h).2 hc
          refine j_aload_n C0 (pc := 44) dX12_year_44 rfl ?_
          refine X_gN C0 (pc := 45) f_OM_13_10 rfl dX12_year_45 h (fun v6 h => ?_)
          refine j_iconst C0 (pc := 48) dX12_year_48 (v := (1 : Int32)) (by decide) ?_
          refine X_iald C0 (pc := 49) dX12_year_49 h (fun v7 h => ?_)
          refine j_if_ne C0 (pc := 50) (tgt := 55) dX12_year_50 (by decide) (fun hc => ?_) (fun hc => ?_)
          · replace h := (X_if h).2 hc
            refine j_aload_n C0 (pc := 55) dX12_year_55 rfl ?_
            refine j_iload_n C0 (pc := 56) dX12_year_56 rfl ?_
            refine j_i2l C0 (pc := 57) dX12_year_57 (v := a1.toInt64) rfl ?_
            refine X_pL C0 (pc := 58) f_OM_567_10 rfl rfl dX12_year_58 h (fun M5 h => ?_)
            refine j_aload_n C0 (pc := 61) dX12_year_61 rfl ?_
            refine X_cV C0 (pc := 62) (e' := e_V) (as := []) (rest := []) (s' := fun _ => []) (g' := (0, 0)) v_OM_463_10 (fun Ψ hΨ => K_X12_leaves a0 M5 Ψ hΨ) rfl rfl (fun _ => rfl) (by decide) (by decide) rfl (Nat.le_of_ble_eq_true rfl) dX12_year_62 h (fun _ M6 h => ?_)
            refine j_iconst C0 (pc := 65) dX12_year_65 (v := (0 : Int32)) (by decide) ?_
            refine j_istore C0 (pc := 66) dX12_year_66 (Nat.le_of_ble_eq_true rfl) ?_
            show j_J X 11 68 [some (.ref a0), some (.int a1), some (.int a2), some (.int a3), some (.int (0 : Int32)), none, none, none, none, none, none] [] (0, 0) M6
            refine j_iconst C0 (pc := 68) dX12_year_68 (v := (0 : Int32)) (by decide) ?_
            refine j_istore C0 (pc := 69) dX12_year_69 (Nat.le_of_ble_eq_true rfl) ?_
            show j_J X 11 71 [some (.ref a0), some (.int a1), some (.int a2), some (.int a3), some (.int (0 : Int32)), some (.int (0 : Int32)), none, none, none, none, none] [] (0, 0) M6
            refine j_iconst C0 (pc := 71) dX12_year_71 (v := (0 : Int32)) (by decide) ?_
            refine j_istore C0 (pc := 72) dX12_year_72 (Nat.le_of_ble_eq_true rfl) ?_
            show j_J X 11 74 [some (.ref a0), some (.int a1), some (.int a2), some (.int a3), some (.int (0 : Int32)), some (.int (0 : Int32)), some (.int (0 : Int32)), none, none, none, none] [] (0, 0) M6
            refine X_join (fun (kj : Nat → Int32 → Int32 → Int32 → m_M → Option (Int32 × m_M)) => ∀ (p0 : Nat) (p1 : Int32) (p2 : Int32) (p3 : Int32) (M : m_M), m_ok e_I Φ (kj p0 p1 p2 p3 M) → j_J X 11 271 [some (.ref p0), none, none, some (.int p1), some (.int p2), some (.int p3), none, none, none, none, none] [] (0, 0) M) h (fun v8 v9 v10 v11 M7 h => ?_) (fun k271 hk271 h => ?_)
            · refine j_iload_n C0 (pc := 271) dX12_year_271 rfl ?_
              refine j_if_ne C0 (pc := 272) (tgt := 280) dX12_year_272 (by decide) (fun hc => ?_) (fun hc => ?_)
              · replace h := (X_if h).2 hc
                refine j_iload_n C0 (pc := 280) dX12_year_280 rfl ?_
                refine j_iconst C0 (pc := 281) dX12_year_281 (v := (1 : Int32)) (by decide) ?_
                refine j_icmp_ne C0 (pc := 282) (tgt := 290) dX12_year_282 (by decide) (fun hc => ?_) (fun hc => ?_)
                · replace h := (X_if h).2 hc
                  refine j_aload_n C0 (pc := 290) dX12_year_290 rfl ?_
                  refine j_aload_n C0 (pc := 291) dX12_year_291 rfl ?_
                  refine X_gN C0 (pc := 292) f_OM_135_10 rfl dX12_year_292 h (fun v12 h => ?_)
                  refine j_iconst C0 (pc := 295) dX12_year_295 (v := (0 : Int32)) (by decide) ?_
                  refine X_cV C0 (pc := 296) (e' := e_I) (as := [.ref v12, .int (0 : Int32)]) (rest := []) (s' := fun w => .int w :: []) (g' := (0, 0)) v_OM_455_10 (fun Ψ hΨ => K_X12_countOf v8 v12 (0 : Int32) M7 Ψ hΨ) rfl rfl (fun _ => rfl) (by decide) (by decide) rfl (Nat.le_of_ble_eq_true rfl) dX12_year_296 h (fun v13 M8 h => ?_)
                  exact j_iret C rfl h dX12_year_299 (by decide)
                · replace h := (X_if h).1 hc
                  refine j_iload C0 (pc := 285) dX12_year_285 rfl ?_
                  refine j_goto C0 (pc := 287) (tgt := 299) dX12_year_287 (by decide) ?_
                  exact j_iret C rfl h dX12_year_299 (by decide)
              · replace h := (X_if h).1 hc
                refine j_iload C0 (pc := 275) dX12_year_275 rfl ?_
                refine j_goto C0 (pc := 277) (tgt := 299) dX12_year_277 (by decide) ?_
                exact j_iret C rfl h dX12_year_299 (by decide)
            · exact j_J.wq (L_X12_year_74 C hk271 m_FU a0 a2 a3 (0 : Int32) (0 : Int32) (0 : Int32) M6 h) (And.intro rfl (And.intro rfl (And.intro rfl (And.intro rfl (And.intro rfl (And.intro rfl (trivial)))))))
          · replace h := (X_if h).1 hc
            refine j_iconst C0 (pc := 53) dX12_year_53 (v := (-1 : Int32)) (by decide) ?_
            exact j_iret C rfl h dX12_year_54 (by decide)
