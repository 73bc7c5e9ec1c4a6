theorem dX3_spot_0 : decode cX3_spot 0 = .ok (.aload_n 3, 1) := by decide +kernel
theorem dX3_spot_1 : decode cX3_spot 1 = .ok (.invokevirtual 161, 3) := by decide +kernel
theorem dX3_spot_4 : decode cX3_spot 4 = .ok (.aload_n 0, 1) := by decide +kernel
theorem dX3_spot_5 : decode cX3_spot 5 = .ok (.iload_n 1, 1) := by decide +kernel
theorem dX3_spot_6 : decode cX3_spot 6 = .ok (.invokevirtual 141, 3) := by decide +kernel
theorem dX3_spot_9 : decode cX3_spot 9 = .ok (.ifCond .eq 31, 3) := by decide +kernel
theorem dX3_spot_12 : decode cX3_spot 12 = .ok (.aload_n 0, 1) := by decide +kernel
theorem dX3_spot_13 : decode cX3_spot 13 = .ok (.iload_n 2, 1) := by decide +kernel
theorem dX3_spot_14 : decode cX3_spot 14 = .ok (.invokevirtual 166, 3) := by decide +kernel
theorem dX3_spot_17 : decode cX3_spot 17 = .ok (.ifCond .eq 23, 3) := by decide +kernel
theorem dX3_spot_20 : decode cX3_spot 20 = .ok (.aload_n 0, 1) := by decide +kernel
theorem dX3_spot_21 : decode cX3_spot 21 = .ok (.getfield 43, 3) := by decide +kernel
theorem dX3_spot_24 : decode cX3_spot 24 = .ok (.iload_n 1, 1) := by decide +kernel
theorem dX3_spot_25 : decode cX3_spot 25 = .ok (.iload_n 2, 1) := by decide +kernel
theorem dX3_spot_26 : decode cX3_spot 26 = .ok (.iconst 0, 1) := by decide +kernel
theorem dX3_spot_27 : decode cX3_spot 27 = .ok (.invokestatic 118, 3) := by decide +kernel
theorem dX3_spot_30 : decode cX3_spot 30 = .ok (.aload_n 3, 1) := by decide +kernel
theorem dX3_spot_31 : decode cX3_spot 31 = .ok (.getfield 169, 3) := by decide +kernel
theorem dX3_spot_34 : decode cX3_spot 34 = .ok (.iconst 0, 1) := by decide +kernel
theorem dX3_spot_35 : decode cX3_spot 35 = .ok (.bipush 16, 2) := by decide +kernel
theorem dX3_spot_37 : decode cX3_spot 37 = .ok (.invokestatic 77, 3) := by decide +kernel
theorem dX3_spot_40 : decode cX3_spot 40 = .ok (.return_, 1) := by decide +kernel
noncomputable def F_X3_spot (a0 : Nat) (a1 : Int32) (a2 : Int32) (a3 : Nat) (M : m_M) : Option (Unit × m_M) :=
  x_cV 8 M a3 (F_X10_clear a3 M) fun _ M1 =>
  x_cV 3 M1 a0 (F_X3_isThing a0 a1 M1) fun v1 M2 =>
  if v1 = 0 then (
    some ((), M2)
  ) else
  x_cV 3 M2 a0 (F_X3_isPlace a0 a2 M2) fun v2 M3 =>
  if v2 = 0 then (
    some ((), M3)
  ) else
  x_gN 3 M3 a0 16 fun v3 =>
  x_bd (F_X3_spotIndex a1 a2 (0 : Int32) M3) fun v4 M4 =>
  x_gN 8 M4 a3 0 fun v5 =>
  x_cpL M4 v3 v4 v5 (0 : Int32) (16 : Int32) fun M5 =>
  some ((), M5)
set_option maxHeartbeats 4000000 in
theorem K_X3_spot (a0 : Nat) (a1 : Int32) (a2 : Int32) (a3 : Nat) (M : m_M) (Φ : Option Value → m_M → Prop) (h : m_ok e_V Φ (F_X3_spot a0 a1 a2 a3 M)) : j_Ct yX3_spot cX3_spot 4 none 3 0 0 [.ref a0, .int a1, .int a2, .ref a3] M Φ := by
  refine j_Ct.of (by decide +kernel) (Nat.le_of_ble_eq_true rfl) fun X C => ?_
  have C0 := C.1
  show j_J X 4 0 [some (.ref a0), some (.int a1), some (.int a2), some (.ref a3)] [] (0, 0) M
  unfold F_X3_spot at h
  refine j_aload_n C0 (pc := 0) dX3_spot_0 rfl ?_
  refine X_cV C0 (pc := 1) (e' := e_V) (as := []) (rest := []) (s' := fun _ => []) (g' := (0, 0)) v_Land_161_8 (fun Ψ hΨ => K_X10_clear a3 M Ψ hΨ) rfl rfl (fun _ => rfl) (by decide) (by decide) rfl (Nat.le_of_ble_eq_true rfl) dX3_spot_1 h (fun _ M1 h => ?_)
  refine j_aload_n C0 (pc := 4) dX3_spot_4 rfl ?_
  refine j_iload_n C0 (pc := 5) dX3_spot_5 rfl ?_
  refine X_cV C0 (pc := 6) (e' := e_I) (as := [.int a1]) (rest := []) (s' := fun w => .int w :: []) (g' := (0, 0)) v_Land_141_3 (fun Ψ hΨ => K_X3_isThing a0 a1 M1 Ψ hΨ) rfl rfl (fun _ => rfl) (by decide) (by decide) rfl (Nat.le_of_ble_eq_true rfl) dX3_spot_6 h (fun v1 M2 h => ?_)
  refine j_if_eq C0 (pc := 9) (tgt := 40) dX3_spot_9 (by decide) (fun hc => ?_) (fun hc => ?_)
  · replace h := (X_if h).1 hc
    exact j_vret C rfl h dX3_spot_40 (by decide)
  · replace h := (X_if h).2 hc
    refine j_aload_n C0 (pc := 12) dX3_spot_12 rfl ?_
    refine j_iload_n C0 (pc := 13) dX3_spot_13 rfl ?_
    refine X_cV C0 (pc := 14) (e' := e_I) (as := [.int a2]) (rest := []) (s' := fun w => .int w :: []) (g' := (0, 0)) v_Land_166_3 (fun Ψ hΨ => K_X3_isPlace a0 a2 M2 Ψ hΨ) rfl rfl (fun _ => rfl) (by decide) (by decide) rfl (Nat.le_of_ble_eq_true rfl) dX3_spot_14 h (fun v2 M3 h => ?_)
    refine j_if_eq C0 (pc := 17) (tgt := 40) dX3_spot_17 (by decide) (fun hc => ?_) (fun hc => ?_)
    · replace h := (X_if h).1 hc
      exact j_vret C rfl h dX3_spot_40 (by decide)
    · replace h := (X_if h).2 hc
      refine j_aload_n C0 (pc := 20) dX3_spot_20 rfl ?_
      refine X_gN C0 (pc := 21) f_Land_43_3 rfl dX3_spot_21 h (fun v3 h => ?_)
      refine j_iload_n C0 (pc := 24) dX3_spot_24 rfl ?_
      refine j_iload_n C0 (pc := 25) dX3_spot_25 rfl ?_
      refine j_iconst C0 (pc := 26) dX3_spot_26 (v := (0 : Int32)) (by decide) ?_
      refine X_cS C0 (pc := 27) (e' := e_I) (as := [.int a1, .int a2, .int (0 : Int32)]) (rest := [.ref v3]) (s' := fun w => .int w :: [.ref v3]) (g' := (0, 0)) s_Land_118 (fun Ψ hΨ => K_X3_spotIndex a1 a2 (0 : Int32) M3 Ψ hΨ) rfl rfl (fun _ => rfl) (by decide) (by decide) rfl (Nat.le_of_ble_eq_true rfl) dX3_spot_27 h (fun v4 M4 h => ?_)
      refine j_aload_n C0 (pc := 30) dX3_spot_30 rfl ?_
      refine X_gN C0 (pc := 31) f_Land_169_8 rfl dX3_spot_31 h (fun v5 h => ?_)
      refine j_iconst C0 (pc := 34) dX3_spot_34 (v := (0 : Int32)) (by decide) ?_
      refine j_bipush C0 (pc := 35) dX3_spot_35 (v := (16 : Int32)) (by decide) ?_
      refine X_copyL C0 (pc := 37) ⟨j_c4 65 (by decide +kernel), j_c4 67 (by decide +kernel), j_c4 66 (by decide +kernel), j_c1 21 (by decide +kernel)⟩ (by decide) (Nat.le_of_ble_eq_true rfl) dX3_spot_37 h (fun M5 h => ?_)
      exact j_vret C rfl h dX3_spot_40 (by decide)
theorem dX11_sure_0 : decode cX11_sure 0 = .ok (.aload_n 0, 1) := by decide +kernel
theorem dX11_sure_1 : decode cX11_sure 1 = .ok (.getfield 16, 3) := by decide +kernel
theorem dX11_sure_4 : decode cX11_sure 4 = .ok (.iload_n 1, 1) := by decide +kernel
theorem dX11_sure_5 : decode cX11_sure 5 = .ok (.invokevirtual 156, 3) := by decide +kernel
theorem dX11_sure_8 : decode cX11_sure 8 = .ok (.ifCond .eq 14, 3) := by decide +kernel
theorem dX11_sure_11 : decode cX11_sure 11 = .ok (.aload_n 0, 1) := by decide +kernel
theorem dX11_sure_12 : decode cX11_sure 12 = .ok (.getfield 16, 3) := by decide +kernel
theorem dX11_sure_15 : decode cX11_sure 15 = .ok (.iload_n 2, 1) := by decide +kernel
theorem dX11_sure_16 : decode cX11_sure 16 = .ok (.invokevirtual 220, 3) := by decide +kernel
theorem dX11_sure_19 : decode cX11_sure 19 = .ok (.ifCond .ne 5, 3) := by decide +kernel
theorem dX11_sure_22 : decode cX11_sure 22 = .ok (.iconst (-1), 1) := by decide +kernel
theorem dX11_sure_23 : decode cX11_sure 23 = .ok (.ireturn, 1) := by decide +kernel
theorem dX11_sure_24 : decode cX11_sure 24 = .ok (.aload_n 0, 1) := by decide +kernel
theorem dX11_sure_25 : decode cX11_sure 25 = .ok (.invokevirtual 189, 3) := by decide +kernel
theorem dX11_sure_28 : decode cX11_sure 28 = .ok (.aload_n 0, 1) := by decide +kernel
theorem dX11_sure_29 : decode cX11_sure 29 = .ok (.getfield 80, 3) := by decide +kernel
theorem dX11_sure_32 : decode cX11_sure 32 = .ok (.invokevirtual 223, 3) := by decide +kernel
theorem dX11_sure_35 : decode cX11_sure 35 = .ok (.ifCond .eq 5, 3) := by decide +kernel
theorem dX11_sure_38 : decode cX11_sure 38 = .ok (.iconst (-1), 1) := by decide +kernel
theorem dX11_sure_39 : decode cX11_sure 39 = .ok (.ireturn, 1) := by decide +kernel
theorem dX11_sure_40 : decode cX11_sure 40 = .ok (.aload_n 0, 1) := by decide +kernel
theorem dX11_sure_41 : decode cX11_sure 41 = .ok (.getfield 16, 3) := by decide +kernel
theorem dX11_sure_44 : decode cX11_sure 44 = .ok (.iload_n 1, 1) := by decide +kernel
theorem dX11_sure_45 : decode cX11_sure 45 = .ok (.iload_n 2, 1) := by decide +kernel
theorem dX11_sure_46 : decode cX11_sure 46 = .ok (.aload_n 0, 1) := by decide +kernel
theorem dX11_sure_47 : decode cX11_sure 47 = .ok (.getfield 84, 3) := by decide +kernel
theorem dX11_sure_50 : decode cX11_sure 50 = .ok (.invokevirtual 226, 3) := by decide +kernel
theorem dX11_sure_53 : decode cX11_sure 53 = .ok (.aload_n 0, 1) := by decide +kernel
theorem dX11_sure_54 : decode cX11_sure 54 = .ok (.getfield 84, 3) := by decide +kernel
theorem dX11_sure_57 : decode cX11_sure 57 = .ok (.aload_n 0, 1) := by decide +kernel
theorem dX11_sure_58 : decode cX11_sure 58 = .ok (.getfield 80, 3) := by decide +kernel
theorem dX11_sure_61 : decode cX11_sure 61 = .ok (.invokevirtual 216, 3) := by decide +kernel
theorem dX11_sure_64 : decode cX11_sure 64 = .ok (.aload_n 0, 1) := by decide +kernel
theorem dX11_sure_65 : decode cX11_sure 65 = .ok (.getfield 84, 3) := by decide +kernel
theorem dX11_sure_68 : decode cX11_sure 68 = .ok (.invokevirtual 223, 3) := by decide +kernel
theorem dX11_sure_71 : decode cX11_sure 71 = .ok (.ifCond .eq 5, 3) := by decide +kernel
theorem dX11_sure_74 : decode cX11_sure 74 = .ok (.iconst 0, 1) := by decide +kernel
theorem dX11_sure_75 : decode cX11_sure 75 = .ok (.ireturn, 1) := by decide +kernel
theorem dX11_sure_76 : decode cX11_sure 76 = .ok (.aload_n 0, 1) := by decide +kernel
theorem dX11_sure_77 : decode cX11_sure 77 = .ok (.getfield 84, 3) := by decide +kernel
theorem dX11_sure_80 : decode cX11_sure 80 = .ok (.aload_n 0, 1) := by decide +kernel
theorem dX11_sure_81 : decode cX11_sure 81 = .ok (.getfield 80, 3) := by decide +kernel
theorem dX11_sure_84 : decode cX11_sure 84 = .ok (.invokevirtual 212, 3) := by decide +kernel
theorem dX11_sure_87 : decode cX11_sure 87 = .ok (.ifCond .eq 7, 3) := by decide +kernel
theorem dX11_sure_90 : decode cX11_sure 90 = .ok (.iconst 1, 1) := by decide +kernel
theorem dX11_sure_91 : decode cX11_sure 91 = .ok (.goto 4, 3) := by decide +kernel
theorem dX11_sure_94 : decode cX11_sure 94 = .ok (.iconst 2, 1) := by decide +kernel
theorem dX11_sure_95 : decode cX11_sure 95 = .ok (.ireturn, 1) := by decide +kernel
noncomputable def F_X11_sure (a0 : Nat) (a1 : Int32) (a2 : Int32) (M : m_M) : Option (Int32 × m_M) :=
  x_gN 9 M a0 2 fun v1 =>
  x_cV 3 M v1 (F_X3_isThing v1 a1 M) fun v2 M1 =>
  if v2 = 0 then (
    some ((-1 : Int32), M1)
  ) else
  x_gN 9 M1 a0 2 fun v3 =>
  x_cV 3 M1 v3 (F_X3_isPlace v3 a2 M1) fun v4 M2 =>
  if v4 = 0 then (
    some ((-1 : Int32), M2)
  ) else
  x_cV 9 M2 a0 (F_X11_findLeft a0 M2) fun _ M3 =>
  x_gN 9 M3 a0 12 fun v5 =>
  x_cV 8 M3 v5 (F_X10_isEmpty v5 M3) fun v6 M4 =>
  if v6 = 0 then (
    x_gN 9 M4 a0 2 fun v7 =>
    x_gN 9 M4 a0 13 fun v8 =>
    x_cV 3 M4 v7 (F_X3_spot v7 a1 a2 v8 M4) fun _ M5 =>
    x_gN 9 M5 a0 13 fun v9 =>
    x_gN 9 M5 a0 12 fun v10 =>
    x_cV 8 M5 v9 (F_X10_keep v9 v10 M5) fun _ M6 =>
    x_gN 9 M6 a0 13 fun v11 =>
    x_cV 8 M6 v11 (F_X10_isEmpty v11 M6) fun v12 M7 =>
    if v12 = 0 then (
      x_gN 9 M7 a0 13 fun v13 =>
      x_gN 9 M7 a0 12 fun v14 =>
      x_cV 8 M7 v13 (F_X10_isLike v13 v14 M7) fun v15 M8 =>
      if v15 = 0 then (
        some ((2 : Int32), M8)
      ) else
      some ((1 : Int32), M8)
    ) else
    some ((0 : Int32), M7)
  ) else
  some ((-1 : Int32), M4)
set_option maxHeartbeats 4000000 in
theorem K_X11_sure (a0 : Nat) (a1 : Int32) (a2 : Int32) (M : m_M) (Φ : Option Value → m_M → Prop) (h : m_ok e_I Φ (F_X11_sure a0 a1 a2 M)) : j_Ct yX11_sure cX11_sure 3 (some .int) 5 0 0 [.ref a0, .int a1, .int a2] M Φ := by
  refine j_Ct.of (by decide +kernel) (Nat.le_of_ble_eq_true rfl) fun X C => ?_
  have C0 := C.1
  show j_J X 3 0 [some (.ref a0), some (.int a1), some (.int a2)] [] (0, 0) M
  unfold F_X11_sure at h
  refine j_aload_n C0 (pc := 0) dX11_sure_0 rfl ?_
  refine X_gN C0 (pc := 1) f_OV_16_9 rfl dX11_sure_1 h (fun v1 h => ?_)
  refine j_iload_n C0 (pc := 4) dX11_sure_4 rfl ?_
  refine X_cV C0 (pc := 5) (e' := e_I) (as := [.int a1]) (rest := []) (s' := fun w => .int w :: []) (g' := (0, 0)) v_OV_156_3 (fun Ψ hΨ => K_X3_isThing v1 a1 M Ψ hΨ) rfl rfl (fun _ => rfl) (by decide) (by decide) rfl (Nat.le_of_ble_eq_true rfl) dX11_sure_5 h (fun v2 M1 h => ?_)
  refine j_if_eq C0 (pc := 8) (tgt := 22) dX11_sure_8 (by decide) (fun hc => ?_) (fun hc => ?_)
  · replace h := (X_if h).1 hc
    refine j_iconst C0 (pc := 22) dX11_sure_22 (v := (-1 : Int32)) (by decide) ?_
    exact j_iret C rfl h dX11_sure_23 (by decide)
  · replace h := (X_if h).2 hc
    refine j_aload_n C0 (pc := 11) dX11_sure_11 rfl ?_
    refine X_gN C0 (pc := 12) f_OV_16_9 rfl dX11_sure_12 h (fun v3 h => ?_)
    refine j_iload_n C0 (pc := 15) dX11_sure_15 rfl ?_
    refine X_cV C0 (pc := 16) (e' := e_I) (as := [.int a2]) (rest := []) (s' := fun w => .int w :: []) (g' := (0, 0)) v_OV_220_3 (fun Ψ hΨ => K_X3_isPlace v3 a2 M1 Ψ hΨ) rfl rfl (fun _ => rfl) (by decide) (by decide) rfl (Nat.le_of_ble_eq_true rfl) dX11_sure_16 h (fun v4 M2 h => ?_)
    refine j_if_ne C0 (pc := 19) (tgt := 24) dX11_sure_19 (by decide) (fun hc => ?_) (fun hc => ?_)
    · replace h := (X_if h).2 hc
      refine j_aload_n C0 (pc := 24) dX11_sure_24 rfl ?_
      refine X_cV C0 (pc := 25) (e' := e_V) (as := []) (rest := []) (s' := fun _ => []) (g' := (0, 0)) v_OV_189_9 (fun Ψ hΨ => K_X11_findLeft a0 M2 Ψ hΨ) rfl rfl (fun _ => rfl) (by decide) (by decide) rfl (Nat.le_of_ble_eq_true rfl) dX11_sure_25 h (fun _ M3 h => ?_)
      refine j_aload_n C0 (pc := 28) dX11_sure_28 rfl ?_
      refine X_gN C0 (pc := 29) f_OV_80_9 rfl dX11_sure_29 h (fun v5 h => ?_)
      refine X_cV C0 (pc := 32) (e' := e_I) (as := []) (rest := []) (s' := fun w => .int w :: []) (g' := (0, 0)) v_OV_223_8 (fun Ψ hΨ => K_X10_isEmpty v5 M3 Ψ hΨ) rfl rfl (fun _ => rfl) (by decide) (by decide) rfl (Nat.le_of_ble_eq_true rfl) dX11_sure_32 h (fun v6 M4 h => ?_)
      refine j_if_eq C0 (pc := 35) (tgt := 40) dX11_sure_35 (by decide) (fun hc => ?_) (fun hc => ?_)
      · replace h := (X_if h).1 hc
        refine j_aload_n C0 (pc := 40) dX11_sure_40 rfl ?_
        refine X_gN C0 (pc := 41) f_OV_16_9 rfl dX11_sure_41 h (fun v7 h => ?_)
        refine j_iload_n C0 (pc := 44) dX11_sure_44 rfl ?_
        refine j_iload_n C0 (pc := 45) dX11_sure_45 rfl ?_
        refine j_aload_n C0 (pc := 46) dX11_sure_46 rfl ?_
        refine X_gN C0 (pc := 47) f_OV_84_9 rfl dX11_sure_47 h (fun v8 h => ?_)
        refine X_cV C0 (pc := 50) (e' := e_V) (as := [.int a1, .int a2, .ref v8]) (rest := []) (s' := fun _ => []) (g' := (0, 0)) v_OV_226_3 (fun Ψ hΨ => K_X3_spot v7 a1 a2 v8 M4 Ψ hΨ) rfl rfl (fun _ => rfl) (by decide) (by decide) rfl (Nat.le_of_ble_eq_true rfl) dX11_sure_50 h (fun _ M5 h => ?_)
        refine j_aload_n C0 (pc := 53) dX11_sure_53 rfl ?_
        refine X_gN C0 (pc := 54) f_OV_84_9 rfl dX11_sure_54 h (fun v9 h => ?_)
        refine j_aload_n C0 (pc := 57) dX11_sure_57 rfl ?_
        refine X_gN C0 (pc := 58) f_OV_80_9 rfl dX11_sure_58 h (fun v10 h => ?_)
        refine X_cV C0 (pc := 61) (e' := e_V) (as := [.ref v10]) (rest := []) (s' := fun _ => []) (g' := (0, 0)) v_OV_216_8 (fun Ψ hΨ => K_X10_keep v9 v10 M5 Ψ hΨ) rfl rfl (fun _ => rfl) (by decide) (by decide) rfl (Nat.le_of_ble_eq_true rfl) dX11_sure_61 h (fun _ M6 h => ?_)
        refine j_aload_n C0 (pc := 64) dX11_sure_64 rfl ?_
        refine X_gN C0 (pc := 65) f_OV_84_9 rfl dX11_sure_65 h (fun v11 h => ?_)
        refine X_cV C0 (pc := 68) (e' := e_I) (as := []) (rest := []) (s' := fun w => .int w :: []) (g' := (0, 0)) v_OV_223_8 (fun Ψ hΨ => K_X10_isEmpty v11 M6 Ψ hΨ) rfl rfl (fun _ => rfl) (by decide) (by decide) rfl (Nat.le_of_ble_eq_true rfl) dX11_sure_68 h (fun v12 M7 h => ?_)
        refine j_if_eq C0 (pc := 71) (tgt := 76) dX11_sure_71 (by decide) (fun hc => ?_) (fun hc => ?_)
        · replace h := (X_if h).1 hc
          refine j_aload_n C0 (pc := 76) dX11_sure_76 rfl ?_
          refine X_gN C0 (pc := 77) f_OV_84_9 rfl dX11_sure_77 h (fun v13 h => ?_)
          refine j_aload_n C0 (pc := 80) dX11_sure_80 rfl ?_
          refine X_gN C0 (pc := 81) f_OV_80_9 rfl dX11_sure_81 h (fun v14 h => ?_)
          refine X_cV C0 (pc := 84) (e' := e_I) (as := [.ref v14]) (rest := []) (s' := fun w => .int w :: []) (g' := (0, 0)) v_OV_212_8 (fun Ψ hΨ => K_X10_isLike v13 v14 M7 Ψ hΨ) rfl rfl (fun _ => rfl) (by decide) (by decide) rfl (Nat.le_of_ble_eq_true rfl) dX11_sure_84 h (fun v15 M8 h => ?_)
          refine j_if_eq C0 (pc := 87) (tgt := 94) dX11_sure_87 (by decide) (fun hc => ?_) (fun hc => ?_)
          · replace h := (X_if h).1 hc
            refine j_iconst C0 (pc := 94) dX11_sure_94 (v := (2 : Int32)) (by decide) ?_
            exact j_iret C rfl h dX11_sure_95 (by decide)
          · replace h := (X_if h).2 hc
            refine j_iconst C0 (pc := 90) dX11_sure_90 (v := (1 : Int32)) (by decide) ?_
            refine j_goto C0 (pc := 91) (tgt := 95) dX11_sure_91 (by decide) ?_
            exact j_iret C rfl h dX11_sure_95 (by decide)
        · replace h := (X_if h).2 hc
          refine j_iconst C0 (pc := 74) dX11_sure_74 (v := (0 : Int32)) (by decide) ?_
          exact j_iret C rfl h dX11_sure_75 (by decide)
      · replace h := (X_if h).2 hc
        refine j_iconst C0 (pc := 38) dX11_sure_38 (v := (-1 : Int32)) (by decide) ?_
        exact j_iret C rfl h dX11_sure_39 (by decide)
    · replace h := (X_if h).1 hc
      refine j_iconst C0 (pc := 22) dX11_sure_22 (v := (-1 : Int32)) (by decide) ?_
      exact j_iret C rfl h dX11_sure_23 (by decide)
theorem dX11_tells_0 : decode cX11_tells 0 = .ok (.aload_n 0, 1) := by decide +kernel
theorem dX11_tells_1 : decode cX11_tells 1 = .ok (.getfield 16, 3) := by decide +kernel
theorem dX11_tells_4 : decode cX11_tells 4 = .ok (.iload_n 1, 1) := by decide +kernel
theorem dX11_tells_5 : decode cX11_tells 5 = .ok (.invokevirtual 192, 3) := by decide +kernel
theorem dX11_tells_8 : decode cX11_tells 8 = .ok (.ifCond .ne 5, 3) := by decide +kernel
theorem dX11_tells_11 : decode cX11_tells 11 = .ok (.iconst (-1), 1) := by decide +kernel
theorem dX11_tells_12 : decode cX11_tells 12 = .ok (.ireturn, 1) := by decide +kernel
theorem dX11_tells_13 : decode cX11_tells 13 = .ok (.aload_n 0, 1) := by decide +kernel
theorem dX11_tells_14 : decode cX11_tells 14 = .ok (.invokevirtual 301, 3) := by decide +kernel
theorem dX11_tells_17 : decode cX11_tells 17 = .ok (.istore_n 2, 1) := by decide +kernel
theorem dX11_tells_18 : decode cX11_tells 18 = .ok (.iconst (-1), 1) := by decide +kernel
theorem dX11_tells_19 : decode cX11_tells 19 = .ok (.istore_n 3, 1) := by decide +kernel
theorem dX11_tells_20 : decode cX11_tells 20 = .ok (.iconst 0, 1) := by decide +kernel
theorem dX11_tells_21 : decode cX11_tells 21 = .ok (.istore 4, 2) := by decide +kernel
theorem dX11_tells_23 : decode cX11_tells 23 = .ok (.iconst 0, 1) := by decide +kernel
theorem dX11_tells_24 : decode cX11_tells 24 = .ok (.istore 5, 2) := by decide +kernel
theorem dX11_tells_26 : decode cX11_tells 26 = .ok (.iload 5, 2) := by decide +kernel
theorem dX11_tells_28 : decode cX11_tells 28 = .ok (.sipush 400, 3) := by decide +kernel
theorem dX11_tells_31 : decode cX11_tells 31 = .ok (.if_icmp .ge 45, 3) := by decide +kernel
theorem dX11_tells_34 : decode cX11_tells 34 = .ok (.aload_n 0, 1) := by decide +kernel
theorem dX11_tells_35 : decode cX11_tells 35 = .ok (.getfield 16, 3) := by decide +kernel
theorem dX11_tells_38 : decode cX11_tells 38 = .ok (.iload 5, 2) := by decide +kernel
theorem dX11_tells_40 : decode cX11_tells 40 = .ok (.invokevirtual 198, 3) := by decide +kernel
theorem dX11_tells_43 : decode cX11_tells 43 = .ok (.ifCond .eq 27, 3) := by decide +kernel
theorem dX11_tells_46 : decode cX11_tells 46 = .ok (.aload_n 0, 1) := by decide +kernel
theorem dX11_tells_47 : decode cX11_tells 47 = .ok (.iload 5, 2) := by decide +kernel
theorem dX11_tells_49 : decode cX11_tells 49 = .ok (.iload_n 1, 1) := by decide +kernel
theorem dX11_tells_50 : decode cX11_tells 50 = .ok (.iload_n 2, 1) := by decide +kernel
theorem dX11_tells_51 : decode cX11_tells 51 = .ok (.invokevirtual 304, 3) := by decide +kernel
theorem dX11_tells_54 : decode cX11_tells 54 = .ok (.istore 6, 2) := by decide +kernel
theorem dX11_tells_56 : decode cX11_tells 56 = .ok (.iload 6, 2) := by decide +kernel
theorem dX11_tells_58 : decode cX11_tells 58 = .ok (.iload 4, 2) := by decide +kernel
theorem dX11_tells_60 : decode cX11_tells 60 = .ok (.if_icmp .le 10, 3) := by decide +kernel
theorem dX11_tells_63 : decode cX11_tells 63 = .ok (.iload 6, 2) := by decide +kernel
theorem dX11_tells_65 : decode cX11_tells 65 = .ok (.istore 4, 2) := by decide +kernel
theorem dX11_tells_67 : decode cX11_tells 67 = .ok (.iload 5, 2) := by decide +kernel
theorem dX11_tells_69 : decode cX11_tells 69 = .ok (.istore_n 3, 1) := by decide +kernel
theorem dX11_tells_70 : decode cX11_tells 70 = .ok (.iinc 5 1, 3) := by decide +kernel
theorem dX11_tells_73 : decode cX11_tells 73 = .ok (.goto (-47), 3) := by decide +kernel
theorem dX11_tells_76 : decode cX11_tells 76 = .ok (.iload_n 3, 1) := by decide +kernel
theorem dX11_tells_77 : decode cX11_tells 77 = .ok (.ireturn, 1) := by decide +kernel
noncomputable def F_X11_tells_26 : Nat → Nat → Int32 → Int32 → Int32 → Int32 → Int32 → m_M → Option (Int32 × m_M)
  | 0, _, _, _, _, _, _, _ => none
  | n + 1, v1, v2, v3, v4, v5, v6, M =>
    if (400 : Int32) ≤ v6 then (
      some (v4, M)
    ) else
    m_let (fun (v7 : Nat) (v8 : Int32) (v9 : Int32) (v10 : Int32) (v11 : Int32) (v12 : Int32) (M1 : m_M) =>
      m_let (v12 + (1 : Int32)) fun v13 =>
      F_X11_tells_26 n v7 v8 v9 v10 v11 v13 M1
    ) fun (k70 : Nat → Int32 → Int32 → Int32 → Int32 → Int32 → m_M → Option (Int32 × m_M)) =>
    x_gN 9 M v1 2 fun v14 =>
    x_cV 3 M v14 (F_X3_isClause v14 v6 M) fun v15 M2 =>
    if v15 = 0 then (
      k70 v1 v2 v3 v4 v5 v6 M2
    ) else
    x_cV 9 M2 v1 (F_X11_evennessOf v1 v6 v2 v3 M2) fun v16 M3 =>
    if v16 ≤ v5 then (
      k70 v1 v2 v3 v4 v5 v6 M3
    ) else
    k70 v1 v2 v3 v6 v16 v6 M3
noncomputable def F_X11_tells (a0 : Nat) (a1 : Int32) (M : m_M) : Option (Int32 × m_M) :=
  x_gN 9 M a0 2 fun v1 =>
  x_cV 3 M v1 (F_X3_isWorld v1 a1 M) fun v2 M1 =>
  if v2 = 0 then (
    some ((-1 : Int32), M1)
  ) else
  x_cV 9 M1 a0 (F_X11_knows a0 M1) fun v3 M2 =>
  F_X11_tells_26 m_FU a0 a1 v3 (-1 : Int32) (0 : Int32) (0 : Int32) M2
set_option maxHeartbeats 4000000 in
theorem L_X11_tells_26 {X : j_X} {Φ : Option Value → m_M → Prop} (C : j_C X yX11_tells cX11_tells 7 (some .int) 7 0 0 Φ) : ∀ (n : Nat) (v1 : Nat) (v2 : Int32) (v3 : Int32) (v4 : Int32) (v5 : Int32) (v6 : Int32) (M : m_M), m_ok e_I Φ (F_X11_tells_26 n v1 v2 v3 v4 v5 v6 M) → j_J X 7 26 [some (.ref v1), some (.int v2), some (.int v3), some (.int v4), some (.int v5), some (.int v6), none] [] (0, 0) M := by
  have C0 := C.1
  intro n
  induction n with
  | zero => intro v1 v2 v3 v4 v5 v6 M h; exact False.elim h
  | succ n ih =>
    intro v1 v2 v3 v4 v5 v6 M h
    rw [F_X11_tells_26] at h
    refine j_iload C0 (pc := 26) dX11_tells_26 rfl ?_
    refine j_sipush C0 (pc := 28) dX11_tells_28 (v := (400 : Int32)) (by decide) ?_
    refine j_icmp_ge C0 (pc := 31) (tgt := 76) dX11_tells_31 (by decide) (fun hc => ?_) (fun hc => ?_)
    · replace h := (X_if h).1 hc
      refine j_iload_n C0 (pc := 76) dX11_tells_76 rfl ?_
      exact j_iret C rfl h dX11_tells_77 (by decide)
    · replace h := (X_if h).2 hc
      refine X_join (fun (kj : Nat → Int32 → Int32 → Int32 → Int32 → Int32 → m_M → Option (Int32 × m_M)) => ∀ (p0 : Nat) (p1 : Int32) (p2 : Int32) (p3 : Int32) (p4 : Int32) (p5 : Int32) (M : m_M), m_ok e_I Φ (kj p0 p1 p2 p3 p4 p5 M) → j_J X 7 70 [some (.ref p0), some (.int p1), some (.int p2), some (.int p3), some (.int p4), some (.int p5), none] [] (0, 0) M) h (fun v7 v8 v9 v10 v11 v12 M1 h => ?_) (fun k70 hk70 h => ?_)
      · refine j_iinc C0 (pc := 70) dX11_tells_70 (v := v12 + (1 : Int32)) rfl (Nat.le_of_ble_eq_true rfl) (by rfl) ?_
        refine X_let (G := fun w => j_J X 7 73 [some (.ref v7), some (.int v8), some (.int v9), some (.int v10), some (.int v11), some (.int w), none] [] (0, 0) M1) h (fun v13 h => ?_)
        refine j_goto C0 (pc := 73) (tgt := 26) dX11_tells_73 (by decide) ?_
        exact j_J.wq (ih v7 v8 v9 v10 v11 v13 M1 h) (And.intro rfl (And.intro rfl (And.intro rfl (And.intro rfl (And.intro rfl (And.intro rfl (trivial)))))))
      · refine j_aload_n C0 (pc := 34) dX11_tells_34 rfl ?_
        refine X_gN C0 (pc := 35) f_OV_16_9 rfl dX11_tells_35 h (fun v14 h => ?_)
        refine j_iload C0 (pc := 38) dX11_tells_38 rfl ?_
        refine X_cV C0 (pc := 40) (e' := e_I) (as := [.int v6]) (rest := []) (s' := fun w => .int w :: []) (g' := (0, 0)) v_OV_198_3 (fun Ψ hΨ => K_X3_isClause v14 v6 M Ψ hΨ) rfl rfl (fun _ => rfl) (by decide) (by decide) rfl (Nat.le_of_ble_eq_true rfl) dX11_tells_40 h (fun v15 M2 h => ?_)
        refine j_if_eq C0 (pc := 43) (tgt := 70) dX11_tells_43 (by decide) (fun hc => ?_) (fun hc => ?_)
        · replace h := (X_if h).1 hc
          exact j_J.wq (hk70 v1 v2 v3 v4 v5 v6 M2 h) (And.intro rfl (And.intro rfl (And.intro rfl (And.intro rfl (And.intro rfl (And.intro rfl (trivial)))))))
        · replace h := (X_if h).2 hc
          refine j_aload_n C0 (pc := 46) dX11_tells_46 rfl ?_
          refine j_iload C0 (pc := 47) dX11_tells_47 rfl ?_
          refine j_iload_n C0 (pc := 49) dX11_tells_49 rfl ?_
          refine j_iload_n C0 (pc := 50) dX11_tells_50 rfl ?_
          refine X_cV C0 (pc := 51) (e' := e_I) (as := [.int v6, .int v2, .int v3]) (rest := []) (s' := fun w => .int w :: []) (g' := (0, 0)) v_OV_304_9 (fun Ψ hΨ => K_X11_evennessOf v1 v6 v2 v3 M2 Ψ hΨ) rfl rfl (fun _ => rfl) (by decide) (by decide) rfl (Nat.le_of_ble_eq_true rfl) dX11_tells_51 h (fun v16 M3 h => ?_)
          refine j_istore C0 (pc := 54) dX11_tells_54 (Nat.le_of_ble_eq_true rfl) ?_
          show j_J X 7 56 [some (.ref v1), some (.int v2), some (.int v3), some (.int v4), some (.int v5), some (.int v6), some (.int v16)] [] (0, 0) M3
          refine j_iload C0 (pc := 56) dX11_tells_56 rfl ?_
          refine j_iload C0 (pc := 58) dX11_tells_58 rfl ?_
          refine j_icmp_le C0 (pc := 60) (tgt := 70) dX11_tells_60 (by decide) (fun hc => ?_) (fun hc => ?_)
          · replace h := (X_if h).1 hc
            exact j_J.wq (hk70 v1 v2 v3 v4 v5 v6 M3 h) (And.intro rfl (And.intro rfl (And.intro rfl (And.intro rfl (And.intro rfl (And.intro rfl (trivial)))))))
          · replace h := (X_if h).2 hc
            refine j_iload C0 (pc := 63) dX11_tells_63 rfl ?_
            refine j_istore C0 (pc := 65) dX11_tells_65 (Nat.le_of_ble_eq_true rfl) ?_
            show j_J X 7 67 [some (.ref v1), some (.int v2), some (.int v3), some (.int v4), some (.int v16), some (.int v6), some (.int v16)] [] (0, 0) M3
            refine j_iload C0 (pc := 67) dX11_tells_67 rfl ?_
            refine j_istore_n C0 (pc := 69) dX11_tells_69 (Nat.le_of_ble_eq_true rfl) ?_
            show j_J X 7 70 [some (.ref v1), some (.int v2), some (.int v3), some (.int v6), some (.int v16), some (.int v6), some (.int v16)] [] (0, 0) M3
            exact j_J.wq (hk70 v1 v2 v3 v6 v16 v6 M3 h) (And.intro rfl (And.intro rfl (And.intro rfl (And.intro rfl (And.intro rfl (And.intro rfl (trivial)))))))
set_option maxHeartbeats 4000000 in
theorem K_X11_tells (a0 : Nat) (a1 : Int32) (M : m_M) (Φ : Option Value → m_M → Prop) (h : m_ok e_I Φ (F_X11_tells a0 a1 M)) : j_Ct yX11_tells cX11_tells 7 (some .int) 7 0 0 [.ref a0, .int a1] M Φ := by
  refine j_Ct.of (by decide +kernel) (Nat.le_of_ble_eq_true rfl) fun X C => ?_
  have C0 := C.1
  show j_J X 7 0 [some (.ref a0), some (.int a1), none, none, none, none, none] [] (0, 0) M
  unfold F_X11_tells at h
  refine j_aload_n C0 (pc := 0) dX11_tells_0 rfl ?_
  refine X_gN C0 (pc := 1) f_OV_16_9 rfl dX11_tells_1 h (fun v1 h => ?_)
  refine j_iload_n C0 (pc := 4) dX11_tells_4 rfl ?_
  refine X_cV C0 (pc := 5) (e' := e_I) (as := [.int a1]) (rest := []) (s' := fun w => .int w :: []) (g' := (0, 0)) v_OV_192_3 (fun Ψ hΨ => K_X3_isWorld v1 a1 M Ψ hΨ) rfl rfl (fun _ => rfl) (by decide) (by decide) rfl (Nat.le_of_ble_eq_true rfl) dX11_tells_5 h (fun v2 M1 h => ?_)
  refine j_if_ne C0 (pc := 8) (tgt := 13) dX11_tells_8 (by decide) (fun hc => ?_) (fun hc => ?_)
  · replace h := (X_if h).2 hc
    refine j_aload_n C0 (pc := 13) dX11_tells_13 rfl ?_
    refine X_cV C0 (pc := 14) (e' := e_I) (as := []) (rest := []) (s' := fun w => .int w :: []) (g' := (0, 0)) v_OV_301_9 (fun Ψ hΨ => K_X11_knows a0 M1 Ψ hΨ) rfl rfl (fun _ => rfl) (by decide) (by decide) rfl (Nat.le_of_ble_eq_true rfl) dX11_tells_14 h (fun v3 M2 h => ?_)
    refine j_istore_n C0 (pc := 17) dX11_tells_17 (Nat.le_of_ble_eq_true rfl) ?_
    show j_J X 7 18 [some (.ref a0), some (.int a1), some (.int v3), none, none, none, none] [] (0, 0) M2
    refine j_iconst C0 (pc := 18) dX11_tells_18 (v := (-1 : Int32)) (by decide) ?_
    refine j_istore_n C0 (pc := 19) dX11_tells_19 (Nat.le_of_ble_eq_true rfl) ?_
    show j_J X 7 20 [some (.ref a0), some (.int a1), some (.int v3), some (.int (-1 : Int32)), none, none, none] [] (0, 0) M2
    refine j_iconst C0 (pc := 20) dX11_tells_20 (v := (0 : Int32)) (by decide) ?_
    refine j_istore C0 (pc := 21) dX11_tells_21 (Nat.le_of_ble_eq_true rfl) ?_
    show j_J X 7 23 [some (.ref a0), some (.int a1), some (.int v3), some (.int (-1 : Int32)), some (.int (0 : Int32)), none, none] [] (0, 0) M2
    refine j_iconst C0 (pc := 23) dX11_tells_23 (v := (0 : Int32)) (by decide) ?_
    refine j_istore C0 (pc := 24) dX11_tells_24 (Nat.le_of_ble_eq_true rfl) ?_
    show j_J X 7 26 [some (.ref a0), some (.int a1), some (.int v3), some (.int (-1 : Int32)), some (.int (0 : Int32)), some (.int (0 : Int32)), none] [] (0, 0) M2
    exact j_J.wq (L_X11_tells_26 C m_FU a0 a1 v3 (-1 : Int32) (0 : Int32) (0 : Int32) M2 h) (And.intro rfl (And.intro rfl (And.intro rfl (And.intro rfl (And.intro rfl (And.intro rfl (trivial)))))))
  · replace h := (X_if h).1 hc
    refine j_iconst C0 (pc := 11) dX11_tells_11 (v := (-1 : Int32)) (by decide) ?_
    exact j_iret C rfl h dX11_tells_12 (by decide)
theorem dX11_thing_0 : decode cX11_thing 0 = .ok (.aload_n 0, 1) := by decide +kernel
theorem dX11_thing_1 : decode cX11_thing 1 = .ok (.getfield 16, 3) := by decide +kernel
theorem dX11_thing_4 : decode cX11_thing 4 = .ok (.iload_n 1, 1) := by decide +kernel
theorem dX11_thing_5 : decode cX11_thing 5 = .ok (.invokevirtual 156, 3) := by decide +kernel
theorem dX11_thing_8 : decode cX11_thing 8 = .ok (.ifCond .eq 15, 3) := by decide +kernel
theorem dX11_thing_11 : decode cX11_thing 11 = .ok (.aload_n 0, 1) := by decide +kernel
theorem dX11_thing_12 : decode cX11_thing 12 = .ok (.getfield 16, 3) := by decide +kernel
theorem dX11_thing_15 : decode cX11_thing 15 = .ok (.getfield 159, 3) := by decide +kernel
theorem dX11_thing_18 : decode cX11_thing 18 = .ok (.iload_n 1, 1) := by decide +kernel
theorem dX11_thing_19 : decode cX11_thing 19 = .ok (.iaload, 1) := by decide +kernel
theorem dX11_thing_20 : decode cX11_thing 20 = .ok (.goto 4, 3) := by decide +kernel
theorem dX11_thing_23 : decode cX11_thing 23 = .ok (.iconst (-1), 1) := by decide +kernel
theorem dX11_thing_24 : decode cX11_thing 24 = .ok (.ireturn, 1) := by decide +kernel
noncomputable def F_X11_thing (a0 : Nat) (a1 : Int32) (M : m_M) : Option (Int32 × m_M) :=
  x_gN 9 M a0 2 fun v1 =>
  x_cV 3 M v1 (F_X3_isThing v1 a1 M) fun v2 M1 =>
  if v2 = 0 then (
    some ((-1 : Int32), M1)
  ) else
  x_gN 9 M1 a0 2 fun v3 =>
  x_gN 3 M1 v3 7 fun v4 =>
  x_aI 12 M1 v4 a1 fun v5 =>
  some (v5, M1)
set_option maxHeartbeats 4000000 in
theorem K_X11_thing (a0 : Nat) (a1 : Int32) (M : m_M) (Φ : Option Value → m_M → Prop) (h : m_ok e_I Φ (F_X11_thing a0 a1 M)) : j_Ct yX11_thing cX11_thing 2 (some .int) 2 0 0 [.ref a0, .int a1] M Φ := by
  refine j_Ct.of (by decide +kernel) (Nat.le_of_ble_eq_true rfl) fun X C => ?_
  have C0 := C.1
  show j_J X 2 0 [some (.ref a0), some (.int a1)] [] (0, 0) M
  unfold F_X11_thing at h
  refine j_aload_n C0 (pc := 0) dX11_thing_0 rfl ?_
  refine X_gN C0 (pc := 1) f_OV_16_9 rfl dX11_thing_1 h (fun v1 h => ?_)
  refine j_iload_n C0 (pc := 4) dX11_thing_4 rfl ?_
  refine X_cV C0 (pc := 5) (e' := e_I) (as := [.int a1]) (rest := []) (s' := fun w => .int w :: []) (g' := (0, 0)) v_OV_156_3 (fun Ψ hΨ => K_X3_isThing v1 a1 M Ψ hΨ) rfl rfl (fun _ => rfl) (by decide) (by decide) rfl (Nat.le_of_ble_eq_true rfl) dX11_thing_5 h (fun v2 M1 h => ?_)
  refine j_if_eq C0 (pc := 8) (tgt := 23) dX11_thing_8 (by decide) (fun hc => ?_) (fun hc => ?_)
  · replace h := (X_if h).1 hc
    refine j_iconst C0 (pc := 23) dX11_thing_23 (v := (-1 : Int32)) (by decide) ?_
    exact j_iret C rfl h dX11_thing_24 (by decide)
  · replace h := (X_if h).2 hc
    refine j_aload_n C0 (pc := 11) dX11_thing_11 rfl ?_
    refine X_gN C0 (pc := 12) f_OV_16_9 rfl dX11_thing_12 h (fun v3 h => ?_)
    refine X_gN C0 (pc := 15) f_OV_159_3 rfl dX11_thing_15 h (fun v4 h => ?_)
    refine j_iload_n C0 (pc := 18) dX11_thing_18 rfl ?_
    refine X_iald C0 (pc := 19) dX11_thing_19 h (fun v5 h => ?_)
    refine j_goto C0 (pc := 20) (tgt := 24) dX11_thing_20 (by decide) ?_
    exact j_iret C rfl h dX11_thing_24 (by decide)
theorem dX2_findTogether_0 : decode cX2_findTogether 0 = .ok (.iconst 0, 1) := by decide +kernel
theorem dX2_findTogether_1 : decode cX2_findTogether 1 = .ok (.istore_n 3, 1) := by decide +kernel
theorem dX2_findTogether_2 : decode cX2_findTogether 2 = .ok (.iload_n 3, 1) := by decide +kernel
theorem dX2_findTogether_3 : decode cX2_findTogether 3 = .ok (.iload_n 1, 1) := by decide +kernel
theorem dX2_findTogether_4 : decode cX2_findTogether 4 = .ok (.if_icmp .ge 87, 3) := by decide +kernel
theorem dX2_findTogether_7 : decode cX2_findTogether 7 = .ok (.aload_n 0, 1) := by decide +kernel
theorem dX2_findTogether_8 : decode cX2_findTogether 8 = .ok (.aload_n 0, 1) := by decide +kernel
theorem dX2_findTogether_9 : decode cX2_findTogether 9 = .ok (.getfield 31, 3) := by decide +kernel
theorem dX2_findTogether_12 : decode cX2_findTogether 12 = .ok (.aload_n 0, 1) := by decide +kernel
theorem dX2_findTogether_13 : decode cX2_findTogether 13 = .ok (.getfield 15, 3) := by decide +kernel
theorem dX2_findTogether_16 : decode cX2_findTogether 16 = .ok (.aload_n 0, 1) := by decide +kernel
theorem dX2_findTogether_17 : decode cX2_findTogether 17 = .ok (.getfield 22, 3) := by decide +kernel
theorem dX2_findTogether_20 : decode cX2_findTogether 20 = .ok (.iload_n 3, 1) := by decide +kernel
theorem dX2_findTogether_21 : decode cX2_findTogether 21 = .ok (.iaload, 1) := by decide +kernel
theorem dX2_findTogether_22 : decode cX2_findTogether 22 = .ok (.invokevirtual 93, 3) := by decide +kernel
theorem dX2_findTogether_25 : decode cX2_findTogether 25 = .ok (.iconst 0, 1) := by decide +kernel
theorem dX2_findTogether_26 : decode cX2_findTogether 26 = .ok (.istore 4, 2) := by decide +kernel
theorem dX2_findTogether_28 : decode cX2_findTogether 28 = .ok (.iload 4, 2) := by decide +kernel
theorem dX2_findTogether_30 : decode cX2_findTogether 30 = .ok (.iload_n 2, 1) := by decide +kernel
theorem dX2_findTogether_31 : decode cX2_findTogether 31 = .ok (.if_icmp .ge 54, 3) := by decide +kernel
theorem dX2_findTogether_34 : decode cX2_findTogether 34 = .ok (.aload_n 0, 1) := by decide +kernel
theorem dX2_findTogether_35 : decode cX2_findTogether 35 = .ok (.aload_n 0, 1) := by decide +kernel
theorem dX2_findTogether_36 : decode cX2_findTogether 36 = .ok (.getfield 35, 3) := by decide +kernel
theorem dX2_findTogether_39 : decode cX2_findTogether 39 = .ok (.aload_n 0, 1) := by decide +kernel
theorem dX2_findTogether_40 : decode cX2_findTogether 40 = .ok (.getfield 19, 3) := by decide +kernel
theorem dX2_findTogether_43 : decode cX2_findTogether 43 = .ok (.aload_n 0, 1) := by decide +kernel
theorem dX2_findTogether_44 : decode cX2_findTogether 44 = .ok (.getfield 25, 3) := by decide +kernel
theorem dX2_findTogether_47 : decode cX2_findTogether 47 = .ok (.iload 4, 2) := by decide +kernel
theorem dX2_findTogether_49 : decode cX2_findTogether 49 = .ok (.iaload, 1) := by decide +kernel
theorem dX2_findTogether_50 : decode cX2_findTogether 50 = .ok (.invokevirtual 81, 3) := by decide +kernel
theorem dX2_findTogether_53 : decode cX2_findTogether 53 = .ok (.ifCond .eq 26, 3) := by decide +kernel
theorem dX2_findTogether_56 : decode cX2_findTogether 56 = .ok (.aload_n 0, 1) := by decide +kernel
theorem dX2_findTogether_57 : decode cX2_findTogether 57 = .ok (.aload_n 0, 1) := by decide +kernel
theorem dX2_findTogether_58 : decode cX2_findTogether 58 = .ok (.getfield 22, 3) := by decide +kernel
theorem dX2_findTogether_61 : decode cX2_findTogether 61 = .ok (.iload_n 3, 1) := by decide +kernel
theorem dX2_findTogether_62 : decode cX2_findTogether 62 = .ok (.iaload, 1) := by decide +kernel
theorem dX2_findTogether_63 : decode cX2_findTogether 63 = .ok (.putfield 100, 3) := by decide +kernel
theorem dX2_findTogether_66 : decode cX2_findTogether 66 = .ok (.aload_n 0, 1) := by decide +kernel
theorem dX2_findTogether_67 : decode cX2_findTogether 67 = .ok (.aload_n 0, 1) := by decide +kernel
theorem dX2_findTogether_68 : decode cX2_findTogether 68 = .ok (.getfield 25, 3) := by decide +kernel
theorem dX2_findTogether_71 : decode cX2_findTogether 71 = .ok (.iload 4, 2) := by decide +kernel
theorem dX2_findTogether_73 : decode cX2_findTogether 73 = .ok (.iaload, 1) := by decide +kernel
theorem dX2_findTogether_74 : decode cX2_findTogether 74 = .ok (.putfield 103, 3) := by decide +kernel
theorem dX2_findTogether_77 : decode cX2_findTogether 77 = .ok (.iconst 1, 1) := by decide +kernel
theorem dX2_findTogether_78 : decode cX2_findTogether 78 = .ok (.ireturn, 1) := by decide +kernel
theorem dX2_findTogether_79 : decode cX2_findTogether 79 = .ok (.iinc 4 1, 3) := by decide +kernel
theorem dX2_findTogether_82 : decode cX2_findTogether 82 = .ok (.goto (-54), 3) := by decide +kernel
theorem dX2_findTogether_85 : decode cX2_findTogether 85 = .ok (.iinc 3 1, 3) := by decide +kernel
theorem dX2_findTogether_88 : decode cX2_findTogether 88 = .ok (.goto (-86), 3) := by decide +kernel
theorem dX2_findTogether_91 : decode cX2_findTogether 91 = .ok (.iconst 0, 1) := by decide +kernel
theorem dX2_findTogether_92 : decode cX2_findTogether 92 = .ok (.ireturn, 1) := by decide +kernel
noncomputable def F_X2_findTogether_28 (k56 : Nat → Int32 → Int32 → m_M → Option (Int32 × m_M)) (k85 : Nat → Int32 → Int32 → Int32 → m_M → Option (Int32 × m_M)) : Nat → Nat → Int32 → Int32 → Int32 → Int32 → m_M → Option (Int32 × m_M)
  | 0, _, _, _, _, _, _ => none
  | n + 1, v1, v2, v3, v4, v5, M =>
    if v3 ≤ v5 then (
      k85 v1 v2 v3 v4 M
    ) else
    x_gN 2 M v1 11 fun v6 =>
    x_gN 2 M v1 7 fun v7 =>
    x_gN 2 M v1 9 fun v8 =>
    x_aI 12 M v8 v5 fun v9 =>
    x_cV 2 M v1 (F_X2_isApart v1 v6 v7 v9 M) fun v10 M1 =>
    if v10 = 0 then (
      m_let (v5 + (1 : Int32)) fun v11 =>
      F_X2_findTogether_28 k56 k85 n v1 v2 v3 v4 v11 M1
    ) else
    k56 v1 v4 v5 M1
noncomputable def F_X2_findTogether_2 (k56 : Nat → Int32 → Int32 → m_M → Option (Int32 × m_M)) : Nat → Nat → Int32 → Int32 → Int32 → m_M → Option (Int32 × m_M)
  | 0, _, _, _, _, _ => none
  | n + 1, v1, v2, v3, v4, M =>
    if v2 ≤ v4 then (
      some ((0 : Int32), M)
    ) else
    x_gN 2 M v1 10 fun v5 =>
    x_gN 2 M v1 6 fun v6 =>
    x_gN 2 M v1 8 fun v7 =>
    x_aI 12 M v7 v4 fun v8 =>
    x_cV 2 M v1 (F_X2_findRest v1 v5 v6 v8 M) fun _ M1 =>
    m_let (fun (v9 : Nat) (v10 : Int32) (v11 : Int32) (v12 : Int32) (M2 : m_M) =>
      m_let (v12 + (1 : Int32)) fun v13 =>
      F_X2_findTogether_2 k56 n v9 v10 v11 v13 M2
    ) fun (k85 : Nat → Int32 → Int32 → Int32 → m_M → Option (Int32 × m_M)) =>
    F_X2_findTogether_28 k56 k85 m_FU v1 v2 v3 v4 (0 : Int32) M1
noncomputable def F_X2_findTogether (a0 : Nat) (a1 : Int32) (a2 : Int32) (M : m_M) : Option (Int32 × m_M) :=
  m_let (fun (v1 : Nat) (v2 : Int32) (v3 : Int32) (M1 : m_M) =>
    x_gN 2 M1 v1 8 fun v4 =>
    x_aI 12 M1 v4 v2 fun v5 =>
    x_pI 2 M1 v1 2 v5 fun M2 =>
    x_gN 2 M2 v1 9 fun v6 =>
    x_aI 12 M2 v6 v3 fun v7 =>
    x_pI 2 M2 v1 3 v7 fun M3 =>
    some ((1 : Int32), M3)
  ) fun (k56 : Nat → Int32 → Int32 → m_M → Option (Int32 × m_M)) =>
  F_X2_findTogether_2 k56 m_FU a0 a1 a2 (0 : Int32) M
set_option maxHeartbeats 4000000 in
theorem L_X2_findTogether_28 {X : j_X} {Φ : Option Value → m_M → Prop} (C : j_C X yX2_findTogether cX2_findTogether 5 (some .boolean) 5 0 0 Φ) {k56 : Nat → Int32 → Int32 → m_M → Option (Int32 × m_M)} {k85 : Nat → Int32 → Int32 → Int32 → m_M → Option (Int32 × m_M)} (hk56 : ∀ (p0 : Nat) (p1 : Int32) (p2 : Int32) (M : m_M), m_ok e_I Φ (k56 p0 p1 p2 M) → j_J X 5 56 [some (.ref p0), none, none, some (.int p1), some (.int p2)] [] (0, 0) M) (hk85 : ∀ (p0 : Nat) (p1 : Int32) (p2 : Int32) (p3 : Int32) (M : m_M), m_ok e_I Φ (k85 p0 p1 p2 p3 M) → j_J X 5 85 [some (.ref p0), some (.int p1), some (.int p2), some (.int p3), none] [] (0, 0) M) : ∀ (n : Nat) (v1 : Nat) (v2 : Int32) (v3 : Int32) (v4 : Int32) (v5 : Int32) (M : m_M), m_ok e_I Φ (F_X2_findTogether_28 k56 k85 n v1 v2 v3 v4 v5 M) → j_J X 5 28 [some (.ref v1), some (.int v2), some (.int v3), some (.int v4), some (.int v5)] [] (0, 0) M := by
  have C0 := C.1
  intro n
  induction n with
  | zero => intro v1 v2 v3 v4 v5 M h; exact False.elim h
  | succ n ih =>
    intro v1 v2 v3 v4 v5 M h
    rw [F_X2_findTogether_28] at h
    refine j_iload C0 (pc := 28) dX2_findTogether_28 rfl ?_
    refine j_iload_n C0 (pc := 30) dX2_findTogether_30 rfl ?_
    refine j_icmp_ge C0 (pc := 31) (tgt := 85) dX2_findTogether_31 (by decide) (fun hc => ?_) (fun hc => ?_)
    · replace h := (X_if h).1 hc
      exact j_J.wq (hk85 v1 v2 v3 v4 M h) (And.intro rfl (And.intro rfl (And.intro rfl (And.intro rfl (trivial)))))
    · replace h := (X_if h).2 hc
      refine j_aload_n C0 (pc := 34) dX2_findTogether_34 rfl ?_
      refine j_aload_n C0 (pc := 35) dX2_findTogether_35 rfl ?_
      refine X_gN C0 (pc := 36) f_Finder_35_2 rfl dX2_findTogether_36 h (fun v6 h => ?_)
      refine j_aload_n C0 (pc := 39) dX2_findTogether_39 rfl ?_
      refine X_gN C0 (pc := 40) f_Finder_19_2 rfl dX2_findTogether_40 h (fun v7 h => ?_)
      refine j_aload_n C0 (pc := 43) dX2_findTogether_43 rfl ?_
      refine X_gN C0 (pc := 44) f_Finder_25_2 rfl dX2_findTogether_44 h (fun v8 h => ?_)
      refine j_iload C0 (pc := 47) dX2_findTogether_47 rfl ?_
      refine X_iald C0 (pc := 49) dX2_findTogether_49 h (fun v9 h => ?_)
      refine X_cV C0 (pc := 50) (e' := e_I) (as := [.ref v6, .ref v7, .int v9]) (rest := []) (s' := fun w => .int w :: []) (g' := (0, 0)) v_Finder_81_2 (fun Ψ hΨ => K_X2_isApart v1 v6 v7 v9 M Ψ hΨ) rfl rfl (fun _ => rfl) (by decide) (by decide) rfl (Nat.le_of_ble_eq_true rfl) dX2_findTogether_50 h (fun v10 M1 h => ?_)
      refine j_if_eq C0 (pc := 53) (tgt := 79) dX2_findTogether_53 (by decide) (fun hc => ?_) (fun hc => ?_)
      · replace h := (X_if h).1 hc
        refine j_iinc C0 (pc := 79) dX2_findTogether_79 (v := v5 + (1 : Int32)) rfl (Nat.le_of_ble_eq_true rfl) (by rfl) ?_
        refine X_let (G := fun w => j_J X 5 82 [some (.ref v1), some (.int v2), some (.int v3), some (.int v4), some (.int w)] [] (0, 0) M1) h (fun v11 h => ?_)
        refine j_goto C0 (pc := 82) (tgt := 28) dX2_findTogether_82 (by decide) ?_
        exact j_J.wq (ih v1 v2 v3 v4 v11 M1 h) (And.intro rfl (And.intro rfl (And.intro rfl (And.intro rfl (And.intro rfl (trivial))))))
      · replace h := (X_if h).2 hc
        exact j_J.wq (hk56 v1 v4 v5 M1 h) (And.intro rfl (And.intro rfl (And.intro rfl (trivial))))
set_option maxHeartbeats 4000000 in
theorem L_X2_findTogether_2 {X : j_X} {Φ : Option Value → m_M → Prop} (C : j_C X yX2_findTogether cX2_findTogether 5 (some .boolean) 5 0 0 Φ) {k56 : Nat → Int32 → Int32 → m_M → Option (Int32 × m_M)} (hk56 : ∀ (p0 : Nat) (p1 : Int32) (p2 : Int32) (M : m_M), m_ok e_I Φ (k56 p0 p1 p2 M) → j_J X 5 56 [some (.ref p0), none, none, some (.int p1), some (.int p2)] [] (0, 0) M) : ∀ (n : Nat) (v1 : Nat) (v2 : Int32) (v3 : Int32) (v4 : Int32) (M : m_M), m_ok e_I Φ (F_X2_findTogether_2 k56 n v1 v2 v3 v4 M) → j_J X 5 2 [some (.ref v1), some (.int v2), some (.int v3), some (.int v4), none] [] (0, 0) M := by
  have C0 := C.1
  intro n
  induction n with
  | zero => intro v1 v2 v3 v4 M h; exact False.elim h
  | succ n ih =>
    intro v1 v2 v3 v4 M h
    rw [F_X2_findTogether_2] at h
    refine j_iload_n C0 (pc := 2) dX2_findTogether_2 rfl ?_
    refine j_iload_n C0 (pc := 3) dX2_findTogether_3 rfl ?_
    refine j_icmp_ge C0 (pc := 4) (tgt := 91) dX2_findTogether_4 (by decide) (fun hc => ?_) (fun hc => ?_)
    · replace h := (X_if h).1 hc
      refine j_iconst C0 (pc := 91) dX2_findTogether_91 (v := (0 : Int32)) (by decide) ?_
      exact j_zret C rfl (by decide) h dX2_findTogether_92 (by decide)
    · replace h := (X_if h).2 hc
      refine j_aload_n C0 (pc := 7) dX2_findTogether_7 rfl ?_
      refine j_aload_n C0 (pc := 8) dX2_findTogether_8 rfl ?_
      refine X_gN C0 (pc := 9) f_Finder_31_2 rfl dX2_findTogether_9 h (fun v5 h => ?_)
      refine j_aload_n C0 (pc := 12) dX2_findTogether_12 rfl ?_
      refine X_gN C0 (pc := 13) f_Finder_15_2 rfl dX2_findTogether_13 h (fun v6 h => ?_)
      refine j_aload_n C0 (pc := 16) dX2_findTogether_16 rfl ?_
      refine X_gN C0 (pc := 17) f_Finder_22_2 rfl dX2_findTogether_17 h (fun v7 h => ?_)
      refine j_iload_n C0 (pc := 20) dX2_findTogether_20 rfl ?_
      refine X_iald C0 (pc := 21) dX2_findTogether_21 h (fun v8 h => ?_)
      refine X_cV C0 (pc := 22) (e' := e_V) (as := [.ref v5, .ref v6, .int v8]) (rest := []) (s' := fun _ => []) (g' := (0, 0)) v_Finder_93_2 (fun Ψ hΨ => K_X2_findRest v1 v5 v6 v8 M Ψ hΨ) rfl rfl (fun _ => rfl) (by decide) (by decide) rfl (Nat.le_of_ble_eq_true rfl) dX2_findTogether_22 h (fun _ M1 h => ?_)
      refine j_iconst C0 (pc := 25) dX2_findTogether_25 (v := (0 : Int32)) (by decide) ?_
      refine j_istore C0 (pc := 26) dX2_findTogether_26 (Nat.le_of_ble_eq_true rfl) ?_
      show j_J X 5 28 [some (.ref v1), some (.int v2), some (.int v3), some (.int v4), some (.int (0 : Int32))] [] (0, 0) M1
      refine X_join (fun (kj : Nat → Int32 → Int32 → Int32 → m_M → Option (Int32 × m_M)) => ∀ (p0 : Nat) (p1 : Int32) (p2 : Int32) (p3 : Int32) (M : m_M), m_ok e_I Φ (kj p0 p1 p2 p3 M) → j_J X 5 85 [some (.ref p0), some (.int p1), some (.int p2), some (.int p3), none] [] (0, 0) M) h (fun v9 v10 v11 v12 M2 h => ?_) (fun k85 hk85 h => ?_)
      · refine j_iinc C0 (pc := 85) dX2_findTogether_85 (v := v12 + (1 : Int32)) rfl (Nat.le_of_ble_eq_true rfl) (by rfl) ?_
        refine X_let (G := fun w => j_J X 5 88 [some (.ref v9), some (.int v10), some (.int v11), some (.int w), none] [] (0, 0) M2) h (fun v13 h => ?_)
        refine j_goto C0 (pc := 88) (tgt := 2) dX2_findTogether_88 (by decide) ?_
        exact j_J.wq (ih v9 v10 v11 v13 M2 h) (And.intro rfl (And.intro rfl (And.intro rfl (And.intro rfl (trivial)))))
      · exact j_J.wq (L_X2_findTogether_28 C hk56 hk85 m_FU v1 v2 v3 v4 (0 : Int32) M1 h) (And.intro rfl (And.intro rfl (And.intro rfl (And.intro rfl (And.intro rfl (trivial))))))
set_option maxHeartbeats 4000000 in
theorem K_X2_findTogether (a0 : Nat) (a1 : Int32) (a2 : Int32) (M : m_M) (Φ : Option Value → m_M → Prop) (h : m_ok e_I Φ (F_X2_findTogether a0 a1 a2 M)) : j_Ct yX2_findTogether cX2_findTogether 5 (some .boolean) 5 0 0 [.ref a0, .int a1, .int a2] M Φ := by
  refine j_Ct.of (by decide +kernel) (Nat.le_of_ble_eq_true rfl) fun X C => ?_
  have C0 := C.1
  show j_J X 5 0 [some (.ref a0), some (.int a1), some (.int a2), none, none] [] (0, 0) M
  unfold F_X2_findTogether at h
  refine j_iconst C0 (pc := 0) dX2_findTogether_0 (v := (0 : Int32)) (by decide) ?_
  refine j_istore_n C0 (pc := 1) dX2_findTogether_1 (Nat.le_of_ble_eq_true rfl) ?_
  show j_J X 5 2 [some (.ref a0), some (.int a1), some (.int a2), some (.int (0 : Int32)), none] [] (0, 0) M
  refine X_join (fun (kj : Nat → Int32 → Int32 → m_M → Option (Int32 × m_M)) => ∀ (p0 : Nat) (p1 : Int32) (p2 : Int32) (M : m_M), m_ok e_I Φ (kj p0 p1 p2 M) → j_J X 5 56 [some (.ref p0), none, none, some (.int p1), some (.int p2)] [] (0, 0) M) h (fun v1 v2 v3 M1 h => ?_) (fun k56 hk56 h => ?_)
  · refine j_aload_n C0 (pc := 56) dX2_findTogether_56 rfl ?_
    refine j_aload_n C0 (pc := 57) dX2_findTogether_57 rfl ?_
    refine X_gN C0 (pc := 58) f_Finder_22_2 rfl dX2_findTogether_58 h (fun v4 h => ?_)
    refine j_iload_n C0 (pc := 61) dX2_findTogether_61 rfl ?_
    refine X_iald C0 (pc := 62) dX2_findTogether_62 h (fun v5 h => ?_)
    refine X_pI C0 (pc := 63) f_Finder_100_2 rfl rfl dX2_findTogether_63 h (fun M2 h => ?_)
    refine j_aload_n C0 (pc := 66) dX2_findTogether_66 rfl ?_
    refine j_aload_n C0 (pc := 67) dX2_findTogether_67 rfl ?_
    refine X_gN C0 (pc := 68) f_Finder_25_2 rfl dX2_findTogether_68 h (fun v6 h => ?_)
    refine j_iload C0 (pc := 71) dX2_findTogether_71 rfl ?_
    refine X_iald C0 (pc := 73) dX2_findTogether_73 h (fun v7 h => ?_)
    refine X_pI C0 (pc := 74) f_Finder_103_2 rfl rfl dX2_findTogether_74 h (fun M3 h => ?_)
    refine j_iconst C0 (pc := 77) dX2_findTogether_77 (v := (1 : Int32)) (by decide) ?_
    exact j_zret C rfl (by decide) h dX2_findTogether_78 (by decide)
  · exact j_J.wq (L_X2_findTogether_2 C hk56 m_FU a0 a1 a2 (0 : Int32) M h) (And.intro rfl (And.intro rfl (And.intro rfl (And.intro rfl (trivial)))))
theorem dX2_findTwoDays_0 : decode cX2_findTwoDays 0 = .ok (.aload_n 0, 1) := by decide +kernel
theorem dX2_findTwoDays_1 : decode cX2_findTwoDays 1 = .ok (.aload_n 0, 1) := by decide +kernel
theorem dX2_findTwoDays_2 : decode cX2_findTwoDays 2 = .ok (.getfield 38, 3) := by decide +kernel
theorem dX2_findTwoDays_5 : decode cX2_findTwoDays 5 = .ok (.iload_n 2, 1) := by decide +kernel
theorem dX2_findTwoDays_6 : decode cX2_findTwoDays 6 = .ok (.invokevirtual 106, 3) := by decide +kernel
theorem dX2_findTwoDays_9 : decode cX2_findTwoDays 9 = .ok (.aload_n 0, 1) := by decide +kernel
theorem dX2_findTwoDays_10 : decode cX2_findTwoDays 10 = .ok (.getfield 15, 3) := by decide +kernel
theorem dX2_findTwoDays_13 : decode cX2_findTwoDays 13 = .ok (.invokevirtual 46, 3) := by decide +kernel
theorem dX2_findTwoDays_16 : decode cX2_findTwoDays 16 = .ok (.aload_n 0, 1) := by decide +kernel
theorem dX2_findTwoDays_17 : decode cX2_findTwoDays 17 = .ok (.aload_n 1, 1) := by decide +kernel
theorem dX2_findTwoDays_18 : decode cX2_findTwoDays 18 = .ok (.invokevirtual 50, 3) := by decide +kernel
theorem dX2_findTwoDays_21 : decode cX2_findTwoDays 21 = .ok (.aload_n 0, 1) := by decide +kernel
theorem dX2_findTwoDays_22 : decode cX2_findTwoDays 22 = .ok (.aload_n 1, 1) := by decide +kernel
theorem dX2_findTwoDays_23 : decode cX2_findTwoDays 23 = .ok (.aload_n 0, 1) := by decide +kernel
theorem dX2_findTwoDays_24 : decode cX2_findTwoDays 24 = .ok (.getfield 15, 3) := by decide +kernel
theorem dX2_findTwoDays_27 : decode cX2_findTwoDays 27 = .ok (.iconst 0, 1) := by decide +kernel
theorem dX2_findTwoDays_28 : decode cX2_findTwoDays 28 = .ok (.aload_n 0, 1) := by decide +kernel
theorem dX2_findTwoDays_29 : decode cX2_findTwoDays 29 = .ok (.getfield 22, 3) := by decide +kernel
theorem dX2_findTwoDays_32 : decode cX2_findTwoDays 32 = .ok (.invokevirtual 89, 3) := by decide +kernel
theorem dX2_findTwoDays_35 : decode cX2_findTwoDays 35 = .ok (.istore_n 3, 1) := by decide +kernel
theorem dX2_findTwoDays_36 : decode cX2_findTwoDays 36 = .ok (.iconst 0, 1) := by decide +kernel
theorem dX2_findTwoDays_37 : decode cX2_findTwoDays 37 = .ok (.istore 4, 2) := by decide +kernel
theorem dX2_findTwoDays_39 : decode cX2_findTwoDays 39 = .ok (.iconst 1, 1) := by decide +kernel
theorem dX2_findTwoDays_40 : decode cX2_findTwoDays 40 = .ok (.istore 5, 2) := by decide +kernel
theorem dX2_findTwoDays_42 : decode cX2_findTwoDays 42 = .ok (.iload 5, 2) := by decide +kernel
theorem dX2_findTwoDays_44 : decode cX2_findTwoDays 44 = .ok (.bipush 6, 2) := by decide +kernel
theorem dX2_findTwoDays_46 : decode cX2_findTwoDays 46 = .ok (.if_icmp .gt 82, 3) := by decide +kernel
theorem dX2_findTwoDays_49 : decode cX2_findTwoDays 49 = .ok (.aload_n 0, 1) := by decide +kernel
theorem dX2_findTwoDays_50 : decode cX2_findTwoDays 50 = .ok (.getfield 38, 3) := by decide +kernel
theorem dX2_findTwoDays_53 : decode cX2_findTwoDays 53 = .ok (.iload_n 2, 1) := by decide +kernel
theorem dX2_findTwoDays_54 : decode cX2_findTwoDays 54 = .ok (.iload 5, 2) := by decide +kernel
theorem dX2_findTwoDays_56 : decode cX2_findTwoDays 56 = .ok (.iadd, 1) := by decide +kernel
theorem dX2_findTwoDays_57 : decode cX2_findTwoDays 57 = .ok (.invokevirtual 106, 3) := by decide +kernel
theorem dX2_findTwoDays_60 : decode cX2_findTwoDays 60 = .ok (.istore 6, 2) := by decide +kernel
theorem dX2_findTwoDays_62 : decode cX2_findTwoDays 62 = .ok (.iload 6, 2) := by decide +kernel
theorem dX2_findTwoDays_64 : decode cX2_findTwoDays 64 = .ok (.iconst (-1), 1) := by decide +kernel
theorem dX2_findTwoDays_65 : decode cX2_findTwoDays 65 = .ok (.if_icmp .eq 57, 3) := by decide +kernel
theorem dX2_findTwoDays_68 : decode cX2_findTwoDays 68 = .ok (.iload 4, 2) := by decide +kernel
theorem dX2_findTwoDays_70 : decode cX2_findTwoDays 70 = .ok (.iload 6, 2) := by decide +kernel
theorem dX2_findTwoDays_72 : decode cX2_findTwoDays 72 = .ok (.ishr, 1) := by decide +kernel
theorem dX2_findTwoDays_73 : decode cX2_findTwoDays 73 = .ok (.iconst 1, 1) := by decide +kernel
theorem dX2_findTwoDays_74 : decode cX2_findTwoDays 74 = .ok (.iand, 1) := by decide +kernel
theorem dX2_findTwoDays_75 : decode cX2_findTwoDays 75 = .ok (.ifCond .ne 47, 3) := by decide +kernel
theorem dX2_findTwoDays_78 : decode cX2_findTwoDays 78 = .ok (.iload 4, 2) := by decide +kernel
theorem dX2_findTwoDays_80 : decode cX2_findTwoDays 80 = .ok (.iconst 1, 1) := by decide +kernel
theorem dX2_findTwoDays_81 : decode cX2_findTwoDays 81 = .ok (.iload 6, 2) := by decide +kernel
theorem dX2_findTwoDays_83 : decode cX2_findTwoDays 83 = .ok (.ishl, 1) := by decide +kernel
theorem dX2_findTwoDays_84 : decode cX2_findTwoDays 84 = .ok (.ior, 1) := by decide +kernel
theorem dX2_findTwoDays_85 : decode cX2_findTwoDays 85 = .ok (.istore 4, 2) := by decide +kernel
theorem dX2_findTwoDays_87 : decode cX2_findTwoDays 87 = .ok (.aload_n 0, 1) := by decide +kernel
theorem dX2_findTwoDays_88 : decode cX2_findTwoDays 88 = .ok (.iload 6, 2) := by decide +kernel
theorem dX2_findTwoDays_90 : decode cX2_findTwoDays 90 = .ok (.aload_n 0, 1) := by decide +kernel
theorem dX2_findTwoDays_91 : decode cX2_findTwoDays 91 = .ok (.getfield 19, 3) := by decide +kernel
theorem dX2_findTwoDays_94 : decode cX2_findTwoDays 94 = .ok (.invokevirtual 46, 3) := by decide +kernel
theorem dX2_findTwoDays_97 : decode cX2_findTwoDays 97 = .ok (.aload_n 0, 1) := by decide +kernel
theorem dX2_findTwoDays_98 : decode cX2_findTwoDays 98 = .ok (.iload_n 3, 1) := by decide +kernel
theorem dX2_findTwoDays_99 : decode cX2_findTwoDays 99 = .ok (.aload_n 0, 1) := by decide +kernel
theorem dX2_findTwoDays_100 : decode cX2_findTwoDays 100 = .ok (.aload_n 1, 1) := by decide +kernel
theorem dX2_findTwoDays_101 : decode cX2_findTwoDays 101 = .ok (.aload_n 0, 1) := by decide +kernel
theorem dX2_findTwoDays_102 : decode cX2_findTwoDays 102 = .ok (.getfield 19, 3) := by decide +kernel
theorem dX2_findTwoDays_105 : decode cX2_findTwoDays 105 = .ok (.iconst 0, 1) := by decide +kernel
theorem dX2_findTwoDays_106 : decode cX2_findTwoDays 106 = .ok (.aload_n 0, 1) := by decide +kernel
theorem dX2_findTwoDays_107 : decode cX2_findTwoDays 107 = .ok (.getfield 25, 3) := by decide +kernel
theorem dX2_findTwoDays_110 : decode cX2_findTwoDays 110 = .ok (.invokevirtual 89, 3) := by decide +kernel
theorem dX2_findTwoDays_113 : decode cX2_findTwoDays 113 = .ok (.invokevirtual 109, 3) := by decide +kernel
theorem dX2_findTwoDays_116 : decode cX2_findTwoDays 116 = .ok (.ifCond .eq 6, 3) := by decide +kernel
theorem dX2_findTwoDays_119 : decode cX2_findTwoDays 119 = .ok (.iload 5, 2) := by decide +kernel
theorem dX2_findTwoDays_121 : decode cX2_findTwoDays 121 = .ok (.ireturn, 1) := by decide +kernel
theorem dX2_findTwoDays_122 : decode cX2_findTwoDays 122 = .ok (.iinc 5 1, 3) := by decide +kernel
theorem dX2_findTwoDays_125 : decode cX2_findTwoDays 125 = .ok (.goto (-83), 3) := by decide +kernel
theorem dX2_findTwoDays_128 : decode cX2_findTwoDays 128 = .ok (.iconst (-1), 1) := by decide +kernel
theorem dX2_findTwoDays_129 : decode cX2_findTwoDays 129 = .ok (.ireturn, 1) := by decide +kernel
noncomputable def F_X2_findTwoDays_42 : Nat → Nat → Nat → Int32 → Int32 → Int32 → Int32 → m_M → Option (Int32 × m_M)
  | 0, _, _, _, _, _, _, _ => none
  | n + 1, v1, v2, v3, v4, v5, v6, M =>
    if (6 : Int32) < v6 then (
      some ((-1 : Int32), M)
    ) else
    m_let (fun (v7 : Nat) (v8 : Nat) (v9 : Int32) (v10 : Int32) (v11 : Int32) (v12 : Int32) (M1 : m_M) =>
      m_let (v12 + (1 : Int32)) fun v13 =>
      F_X2_findTwoDays_42 n v7 v8 v9 v10 v11 v13 M1
    ) fun (k122 : Nat → Nat → Int32 → Int32 → Int32 → Int32 → m_M → Option (Int32 × m_M)) =>
    x_gN 2 M v1 5 fun v14 =>
    x_cV 3 M v14 (F_X3_verbOf v14 (v3 + v6) M) fun v15 M2 =>
    if v15 = (-1 : Int32) then (
      k122 v1 v2 v3 v4 v5 v6 M2
    ) else
    if ((v5 >>> (v15 &&& 31)) &&& (1 : Int32)) = 0 then (
      m_let (v5 ||| ((1 : Int32) <<< (v15 &&& 31))) fun v16 =>
      x_gN 2 M2 v1 7 fun v17 =>
      x_cV 2 M2 v1 (F_X2_spreadAll v1 v15 v17 M2) fun _ M3 =>
      x_gN 2 M3 v1 7 fun v18 =>
      x_gN 2 M3 v1 9 fun v19 =>
      x_cV 2 M3 v1 (F_X2_listAbove v1 v2 v18 (0 : Int32) v19 M3) fun v20 M4 =>
      x_cV 2 M4 v1 (F_X2_findTogether v1 v4 v20 M4) fun v21 M5 =>
      if v21 = 0 then (
        k122 v1 v2 v3 v4 v16 v6 M5
      ) else
      some (v6, M5)
    ) else
    k122 v1 v2 v3 v4 v5 v6 M2
noncomputable def F_X2_findTwoDays (a0 : Nat) (a1 : Nat) (a2 : Int32) (M : m_M) : Option (Int32 × m_M) :=
  x_gN 2 M a0 5 fun v1 =>
  x_cV 3 M v1 (F_X3_verbOf v1 a2 M) fun v2 M1 =>
  x_gN 2 M1 a0 6 fun v3 =>
  x_cV 2 M1 a0 (F_X2_spreadAll a0 v2 v3 M1) fun _ M2 =>
  x_cV 2 M2 a0 (F_X2_findOutside a0 a1 M2) fun _ M3 =>
  x_gN 2 M3 a0 6 fun v4 =>
  x_gN 2 M3 a0 8 fun v5 =>
  x_cV 2 M3 a0 (F_X2_listAbove a0 a1 v4 (0 : Int32) v5 M3) fun v6 M4 =>
  F_X2_findTwoDays_42 m_FU a0 a1 a2 v6 (0 : Int32) (1 : Int32) M4
set_option maxHeartbeats 4000000 in
theorem L_X2_findTwoDays_42 {X : j_X} {Φ : Option Value → m_M → Prop} (C : j_C X yX2_findTwoDays cX2_findTwoDays 7 (some .int) 7 0 0 Φ) : ∀ (n : Nat) (v1 : Nat) (v2 : Nat) (v3 : Int32) (v4 : Int32) (v5 : Int32) (v6 : Int32) (M : m_M), m_ok e_I Φ (F_X2_findTwoDays_42 n v1 v2 v3 v4 v5 v6 M) → j_J X 7 42 [some (.ref v1), some (.ref v2), some (.int v3), some (.int v4), some (.int v5), some (.int v6), none] [] (0, 0) M := by
  have C0 := C.1
  intro n
  induction n with
  | zero => intro v1 v2 v3 v4 v5 v6 M h; exact False.elim h
  | succ n ih =>
    intro v1 v2 v3 v4 v5 v6 M h
    rw [F_X2_findTwoDays_42] at h
    refine j_iload C0 (pc := 42) dX2_findTwoDays_42 rfl ?_
    refine j_bipush C0 (pc := 44) dX2_findTwoDays_44 (v := (6 : Int32)) (by decide) ?_
    refine j_icmp_gt C0 (pc := 46) (tgt := 128) dX2_findTwoDays_46 (by decide) (fun hc => ?_) (fun hc => ?_)
    · replace h := (X_if h).1 hc
      refine j_iconst C0 (pc := 128) dX2_findTwoDays_128 (v := (-1 : Int32)) (by decide) ?_
      exact j_iret C rfl h dX2_findTwoDays_129 (by decide)
    · replace h := (X_if h).2 hc
      refine X_join (fun (kj : Nat → Nat → Int32 → Int32 → Int32 → Int32 → m_M → Option (Int32 × m_M)) => ∀ (p0 : Nat) (p1 : Nat) (p2 : Int32) (p3 : Int32) (p4 : Int32) (p5 : Int32) (M : m_M), m_ok e_I Φ (kj p0 p1 p2 p3 p4 p5 M) → j_J X 7 122 [some (.ref p0), some (.ref p1), some (.int p2), some (.int p3), some (.int p4), some (.int p5), none] [] (0, 0) M) h (fun v7 v8 v9 v10 v11 v12 M1 h => ?_) (fun k122 hk122 h => ?_)
      · refine j_iinc C0 (pc := 122) dX2_findTwoDays_122 (v := v12 + (1 : Int32)) rfl (Nat.le_of_ble_eq_true rfl) (by rfl) ?_
        refine X_let (G := fun w => j_J X 7 125 [some (.ref v7), some (.ref v8), some (.int v9), some (.int v10), some (.int v11), some (.int w), none] [] (0, 0) M1) h (fun v13 h => ?_)
        refine j_goto C0 (pc := 125) (tgt := 42) dX2_findTwoDays_125 (by decide) ?_
        exact j_J.wq (ih v7 v8 v9 v10 v11 v13 M1 h) (And.intro rfl (And.intro rfl (And.intro rfl (And.intro rfl (And.intro rfl (And.intro rfl (trivial)))))))
      · refine j_aload_n C0 (pc := 49) dX2_findTwoDays_49 rfl ?_
        refine X_gN C0 (pc := 50) f_Finder_38_2 rfl dX2_findTwoDays_50 h (fun v14 h => ?_)
        refine j_iload_n C0 (pc := 53) dX2_findTwoDays_53 rfl ?_
        refine j_iload C0 (pc := 54) dX2_findTwoDays_54 rfl ?_
        refine j_iadd C0 (pc := 56) dX2_findTwoDays_56 ?_
        refine X_cV C0 (pc := 57) (e' := e_I) (as := [.int (v3 + v6)]) (rest := []) (s' := fun w => .int w :: []) (g' := (0, 0)) v_Finder_106_3 (fun Ψ hΨ => K_X3_verbOf v14 (v3 + v6) M Ψ hΨ) rfl rfl (fun _ => rfl) (by decide) (by decide) rfl (Nat.le_of_ble_eq_true rfl) dX2_findTwoDays_57 h (fun v15 M2 h => ?_)
        refine j_istore C0 (pc := 60) dX2_findTwoDays_60 (Nat.le_of_ble_eq_true rfl) ?_
        show j_J X 7 62 [some (.ref v1), some (.ref v2), some (.int v3), some (.int v4), some (.int v5), some (.int v6), some (.int v15)] [] (0, 0) M2
        refine j_iload C0 (pc := 62) dX2_findTwoDays_62 rfl ?_
        refine j_iconst C0 (pc := 64) dX2_findTwoDays_64 (v := (-1 : Int32)) (by decide) ?_
        refine j_icmp_eq C0 (pc := 65) (tgt := 122) dX2_findTwoDays_65 (by decide) (fun hc => ?_) (fun hc => ?_)
        · replace h := (X_if h).1 hc
          exact j_J.wq (hk122 v1 v2 v3 v4 v5 v6 M2 h) (And.intro rfl (And.intro rfl (And.intro rfl (And.intro rfl (And.intro rfl (And.intro rfl (trivial)))))))
        · replace h := (X_if h).2 hc
          refine j_iload C0 (pc := 68) dX2_findTwoDays_68 rfl ?_
          refine j_iload C0 (pc := 70) dX2_findTwoDays_70 rfl ?_
          refine j_ishr C0 (pc := 72) dX2_findTwoDays_72 ?_
          refine j_iconst C0 (pc := 73) dX2_findTwoDays_73 (v := (1 : Int32)) (by decide) ?_
          refine j_iand C0 (pc := 74) dX2_findTwoDays_74 ?_
          refine j_if_ne C0 (pc := 75) (tgt := 122) dX2_findTwoDays_75 (by decide) (fun hc => ?_) (fun hc => ?_)
          · replace h := (X_if h).2 hc
            exact j_J.wq (hk122 v1 v2 v3 v4 v5 v6 M2 h) (And.intro rfl (And.intro rfl (And.intro rfl (And.intro rfl (And.intro rfl (And.intro rfl (trivial)))))))
          · replace h := (X_if h).1 hc
            refine j_iload C0 (pc := 78) dX2_findTwoDays_78 rfl ?_
            refine j_iconst C0 (pc := 80) dX2_findTwoDays_80 (v := (1 : Int32)) (by decide) ?_
            refine j_iload C0 (pc := 81) dX2_findTwoDays_81 rfl ?_
            refine j_ishl C0 (pc := 83) dX2_findTwoDays_83 ?_
            refine j_ior C0 (pc := 84) dX2_findTwoDays_84 ?_
            refine X_let (G := fun w => j_J X 7 85 [some (.ref v1), some (.ref v2), some (.int v3), some (.int v4), some (.int v5), some (.int v6), some (.int v15)] (.int w :: []) (0, 0) M2) h (fun v16 h => ?_)
            refine j_istore C0 (pc := 85) dX2_findTwoDays_85 (Nat.le_of_ble_eq_true rfl) ?_
            show j_J X 7 87 [some (.ref v1), some (.ref v2), some (.int v3), some (.int v4), some (.int v16), some (.int v6), some (.int v15)] [] (0, 0) M2
            refine j_aload_n C0 (pc := 87) dX2_findTwoDays_87 rfl ?_
            refine j_iload C0 (pc := 88) dX2_findTwoDays_88 rfl ?_
            refine j_aload_n C0 (pc := 90) dX2_findTwoDays_90 rfl ?_
            refine X_gN C0 (pc := 91) f_Finder_19_2 rfl dX2_findTwoDays_91 h (fun v17 h => ?_)
            refine X_cV C0 (pc := 94) (e' := e_V) (as := [.int v15, .ref v17]) (rest := []) (s' := fun _ => []) (g' := (0, 0)) v_Finder_46_2 (fun Ψ hΨ => K_X2_spreadAll v1 v15 v17 M2 Ψ hΨ) rfl rfl (fun _ => rfl) (by decide) (by decide) rfl (Nat.le_of_ble_eq_true rfl) dX2_findTwoDays_94 h (fun _ M3 h => ?_)
            refine j_aload_n C0 (pc := 97) dX2_findTwoDays_97 rfl ?_
            refine j_iload_n C0 (pc := 98) dX2_findTwoDays_98 rfl ?_
            refine j_aload_n C0 (pc := 99) dX2_findTwoDays_99 rfl ?_
            refine j_aload_n C0 (pc := 100) dX2_findTwoDays_100 rfl ?_
            refine j_aload_n C0 (pc := 101) dX2_findTwoDays_101 rfl ?_
            refine X_gN C0 (pc := 102) f_Finder_19_2 rfl dX2_findTwoDays_102 h (fun v18 h => ?_)
            refine j_iconst C0 (pc := 105) dX2_findTwoDays_105 (v := (0 : Int32)) (by decide) ?_
            refine j_aload_n C0 (pc := 106) dX2_findTwoDays_106 rfl ?_
            refine X_gN C0 (pc := 107) f_Finder_25_2 rfl dX2_findTwoDays_107 h (fun v19 h => ?_)
            refine X_cV C0 (pc := 110) (e' := e_I) (as := [.ref v2, .ref v18, .int (0 : Int32), .ref v19]) (rest := [.int v4, .ref v1]) (s' := fun w => .int w :: [.int v4, .ref v1]) (g' := (0, 0)) v_Finder_89_2 (fun Ψ hΨ => K_X2_listAbove v1 v2 v18 (0 : Int32) v19 M3 Ψ hΨ) rfl rfl (fun _ => rfl) (by decide) (by decide) rfl (Nat.le_of_ble_eq_true rfl) dX2_findTwoDays_110 h (fun v20 M4 h => ?_)
            refine X_cV C0 (pc := 113) (e' := e_I) (as := [.int v4, .int v20]) (rest := []) (s' := fun w => .int w :: []) (g' := (0, 0)) v_Finder_109_2 (fun Ψ hΨ => K_X2_findTogether v1 v4 v20 M4 Ψ hΨ) rfl rfl (fun _ => rfl) (by decide) (by decide) rfl (Nat.le_of_ble_eq_true rfl) dX2_findTwoDays_113 h (fun v21 M5 h => ?_)
            refine j_if_eq C0 (pc := 116) (tgt := 122) dX2_findTwoDays_116 (by decide) (fun hc => ?_) (fun hc => ?_)
            · replace h := (X_if h).1 hc
              exact j_J.wq (hk122 v1 v2 v3 v4 v16 v6 M5 h) (And.intro rfl (And.intro rfl (And.intro rfl (And.intro rfl (And.intro rfl (And.intro rfl (trivial)))))))
            · replace h := (X_if h).2 hc
              refine j_iload C0 (pc := 119) dX2_findTwoDays_119 rfl ?_
              exact j_iret C rfl h dX2_findTwoDays_121 (by decide)
set_option maxHeartbeats 4000000 in
theorem K_X2_findTwoDays (a0 : Nat) (a1 : Nat) (a2 : Int32) (M : m_M) (Φ : Option Value → m_M → Prop) (h : m_ok e_I Φ (F_X2_findTwoDays a0 a1 a2 M)) : j_Ct yX2_findTwoDays cX2_findTwoDays 7 (some .int) 7 0 0 [.ref a0, .ref a1, .int a2] M Φ := by
  refine j_Ct.of (by decide +kernel) (Nat.le_of_ble_eq_true rfl) fun X C => ?_
  have C0 := C.1
  show j_J X 7 0 [some (.ref a0), some (.ref a1), some (.int a2), none, none, none, none] [] (0, 0) M
  unfold F_X2_findTwoDays at h
  refine j_aload_n C0 (pc := 0) dX2_findTwoDays_0 rfl ?_
  refine j_aload_n C0 (pc := 1) dX2_findTwoDays_1 rfl ?_
  refine X_gN C0 (pc := 2) f_Finder_38_2 rfl dX2_findTwoDays_2 h (fun v1 h => ?_)
  refine j_iload_n C0 (pc := 5) dX2_findTwoDays_5 rfl ?_
  refine X_cV C0 (pc := 6) (e' := e_I) (as := [.int a2]) (rest := [.ref a0]) (s' := fun w => .int w :: [.ref a0]) (g' := (0, 0)) v_Finder_106_3 (fun Ψ hΨ => K_X3_verbOf v1 a2 M Ψ hΨ) rfl rfl (fun _ => rfl) (by decide) (by decide) rfl (Nat.le_of_ble_eq_true rfl) dX2_findTwoDays_6 h (fun v2 M1 h => ?_)
  refine j_aload_n C0 (pc := 9) dX2_findTwoDays_9 rfl ?_
  refine X_gN C0 (pc := 10) f_Finder_15_2 rfl dX2_findTwoDays_10 h (fun v3 h => ?_)
  refine X_cV C0 (pc := 13) (e' := e_V) (as := [.int v2, .ref v3]) (rest := []) (s' := fun _ => []) (g' := (0, 0)) v_Finder_46_2 (fun Ψ hΨ => K_X2_spreadAll a0 v2 v3 M1 Ψ hΨ) rfl rfl (fun _ => rfl) (by decide) (by decide) rfl (Nat.le_of_ble_eq_true rfl) dX2_findTwoDays_13 h (fun _ M2 h => ?_)
  refine j_aload_n C0 (pc := 16) dX2_findTwoDays_16 rfl ?_
  refine j_aload_n C0 (pc := 17) dX2_findTwoDays_17 rfl ?_
  refine X_cV C0 (pc := 18) (e' := e_V) (as := [.ref a1]) (rest := []) (s' := fun _ => []) (g' := (0, 0)) v_Finder_50_2 (fun Ψ hΨ => K_X2_findOutside a0 a1 M2 Ψ hΨ) rfl rfl (fun _ => rfl) (by decide) (by decide) rfl (Nat.le_of_ble_eq_true rfl) dX2_findTwoDays_18 h (fun _ M3 h => ?_)
  refine j_aload_n C0 (pc := 21) dX2_findTwoDays_21 rfl ?_
  refine j_aload_n C0 (pc := 22) dX2_findTwoDays_22 rfl ?_
  refine j_aload_n C0 (pc := 23) dX2_findTwoDays_23 rfl ?_
  refine X_gN C0 (pc := 24) f_Finder_15_2 rfl dX2_findTwoDays_24 h (fun v4 h => ?_)
  refine j_iconst C0 (pc := 27) dX2_findTwoDays_27 (v := (0 : Int32)) (by decide) ?_
  refine j_aload_n C0 (pc := 28) dX2_findTwoDays_28 rfl ?_
  refine X_gN C0 (pc := 29) f_Finder_22_2 rfl dX2_findTwoDays_29 h (fun v5 h => ?_)
  refine X_cV C0 (pc := 32) (e' := e_I) (as := [.ref a1, .ref v4, .int (0 : Int32), .ref v5]) (rest := []) (s' := fun w => .int w :: []) (g' := (0, 0)) v_Finder_89_2 (fun Ψ hΨ => K_X2_listAbove a0 a1 v4 (0 : Int32) v5 M3 Ψ hΨ) rfl rfl (fun _ => rfl) (by decide) (by decide) rfl (Nat.le_of_ble_eq_true rfl) dX2_findTwoDays_32 h (fun v6 M4 h => ?_)
  refine j_istore_n C0 (pc := 35) dX2_findTwoDays_35 (Nat.le_of_ble_eq_true rfl) ?_
  show j_J X 7 36 [some (.ref a0), some (.ref a1), some (.int a2), some (.int v6), none, none, none] [] (0, 0) M4
  refine j_iconst C0 (pc := 36) dX2_findTwoDays_36 (v := (0 : Int32)) (by decide) ?_
  refine j_istore C0 (pc := 37) dX2_findTwoDays_37 (Nat.le_of_ble_eq_true rfl) ?_
  show j_J X 7 39 [some (.ref a0), some (.ref a1), some (.int a2), some (.int v6), some (.int (0 : Int32)), none, none] [] (0, 0) M4
  refine j_iconst C0 (pc := 39) dX2_findTwoDays_39 (v := (1 : Int32)) (by decide) ?_
  refine j_istore C0 (pc := 40) dX2_findTwoDays_40 (Nat.le_of_ble_eq_true rfl) ?_
  show j_J X 7 42 [some (.ref a0), some (.ref a1), some (.int a2), some (.int v6), some (.int (0 : Int32)), some (.int (1 : Int32)), none] [] (0, 0) M4
  exact j_J.wq (L_X2_findTwoDays_42 C m_FU a0 a1 a2 v6 (0 : Int32) (1 : Int32) M4 h) (And.intro rfl (And.intro rfl (And.intro rfl (And.intro rfl (And.intro rfl (And.intro rfl (trivial)))))))
theorem dX11_two_0 : decode cX11_two 0 = .ok (.iload_n 1, 1) := by decide +kernel
theorem dX11_two_1 : decode cX11_two 1 = .ok (.ifCond .lt 30, 3) := by decide +kernel
theorem dX11_two_4 : decode cX11_two 4 = .ok (.iload_n 2, 1) := by decide +kernel
theorem dX11_two_5 : decode cX11_two 5 = .ok (.ifCond .lt 26, 3) := by decide +kernel
theorem dX11_two_8 : decode cX11_two 8 = .ok (.iload_n 2, 1) := by decide +kernel
theorem dX11_two_9 : decode cX11_two 9 = .ok (.iconst 2, 1) := by decide +kernel
theorem dX11_two_10 : decode cX11_two 10 = .ok (.if_icmp .gt 21, 3) := by decide +kernel
theorem dX11_two_13 : decode cX11_two 13 = .ok (.aload_n 0, 1) := by decide +kernel
theorem dX11_two_14 : decode cX11_two 14 = .ok (.getfield 65, 3) := by decide +kernel
theorem dX11_two_17 : decode cX11_two 17 = .ok (.invokevirtual 205, 3) := by decide +kernel
theorem dX11_two_20 : decode cX11_two 20 = .ok (.ifCond .eq 11, 3) := by decide +kernel
theorem dX11_two_23 : decode cX11_two 23 = .ok (.aload_n 0, 1) := by decide +kernel
theorem dX11_two_24 : decode cX11_two 24 = .ok (.invokevirtual 113, 3) := by decide +kernel
theorem dX11_two_27 : decode cX11_two 27 = .ok (.iconst (-1), 1) := by decide +kernel
theorem dX11_two_28 : decode cX11_two 28 = .ok (.if_icmp .ne 5, 3) := by decide +kernel
theorem dX11_two_31 : decode cX11_two 31 = .ok (.iconst (-1), 1) := by decide +kernel
theorem dX11_two_32 : decode cX11_two 32 = .ok (.ireturn, 1) := by decide +kernel
theorem dX11_two_33 : decode cX11_two 33 = .ok (.aload_n 0, 1) := by decide +kernel
theorem dX11_two_34 : decode cX11_two 34 = .ok (.getfield 44, 3) := by decide +kernel
theorem dX11_two_37 : decode cX11_two 37 = .ok (.aload_n 0, 1) := by decide +kernel
theorem dX11_two_38 : decode cX11_two 38 = .ok (.getfield 65, 3) := by decide +kernel
theorem dX11_two_41 : decode cX11_two 41 = .ok (.getfield 140, 3) := by decide +kernel
theorem dX11_two_44 : decode cX11_two 44 = .ok (.aload_n 0, 1) := by decide +kernel
theorem dX11_two_45 : decode cX11_two 45 = .ok (.getfield 16, 3) := by decide +kernel
theorem dX11_two_48 : decode cX11_two 48 = .ok (.iload_n 1, 1) := by decide +kernel
theorem dX11_two_49 : decode cX11_two 49 = .ok (.invokevirtual 162, 3) := by decide +kernel
theorem dX11_two_52 : decode cX11_two 52 = .ok (.aload_n 0, 1) := by decide +kernel
theorem dX11_two_53 : decode cX11_two 53 = .ok (.getfield 84, 3) := by decide +kernel
theorem dX11_two_56 : decode cX11_two 56 = .ok (.invokevirtual 208, 3) := by decide +kernel
theorem dX11_two_59 : decode cX11_two 59 = .ok (.aload_n 0, 1) := by decide +kernel
theorem dX11_two_60 : decode cX11_two 60 = .ok (.getfield 51, 3) := by decide +kernel
theorem dX11_two_63 : decode cX11_two 63 = .ok (.aload_n 0, 1) := by decide +kernel
theorem dX11_two_64 : decode cX11_two 64 = .ok (.getfield 84, 3) := by decide +kernel
theorem dX11_two_67 : decode cX11_two 67 = .ok (.aload_n 0, 1) := by decide +kernel
theorem dX11_two_68 : decode cX11_two 68 = .ok (.getfield 65, 3) := by decide +kernel
theorem dX11_two_71 : decode cX11_two 71 = .ok (.getfield 119, 3) := by decide +kernel
theorem dX11_two_74 : decode cX11_two 74 = .ok (.invokevirtual 257, 3) := by decide +kernel
theorem dX11_two_77 : decode cX11_two 77 = .ok (.istore_n 3, 1) := by decide +kernel
theorem dX11_two_78 : decode cX11_two 78 = .ok (.iload_n 3, 1) := by decide +kernel
theorem dX11_two_79 : decode cX11_two 79 = .ok (.iconst (-1), 1) := by decide +kernel
theorem dX11_two_80 : decode cX11_two 80 = .ok (.if_icmp .ne 5, 3) := by decide +kernel
theorem dX11_two_83 : decode cX11_two 83 = .ok (.iconst (-1), 1) := by decide +kernel
theorem dX11_two_84 : decode cX11_two 84 = .ok (.ireturn, 1) := by decide +kernel
theorem dX11_two_85 : decode cX11_two 85 = .ok (.iload_n 2, 1) := by decide +kernel
theorem dX11_two_86 : decode cX11_two 86 = .ok (.lookupswitch 36 #[(0, 26), (1, 28)], 26) := by decide +kernel
theorem dX11_two_112 : decode cX11_two 112 = .ok (.iload_n 3, 1) := by decide +kernel
theorem dX11_two_113 : decode cX11_two 113 = .ok (.ireturn, 1) := by decide +kernel
theorem dX11_two_114 : decode cX11_two 114 = .ok (.aload_n 0, 1) := by decide +kernel
theorem dX11_two_115 : decode cX11_two 115 = .ok (.getfield 51, 3) := by decide +kernel
theorem dX11_two_118 : decode cX11_two 118 = .ok (.getfield 251, 3) := by decide +kernel
theorem dX11_two_121 : decode cX11_two 121 = .ok (.ireturn, 1) := by decide +kernel
theorem dX11_two_122 : decode cX11_two 122 = .ok (.aload_n 0, 1) := by decide +kernel
theorem dX11_two_123 : decode cX11_two 123 = .ok (.getfield 51, 3) := by decide +kernel
theorem dX11_two_126 : decode cX11_two 126 = .ok (.getfield 254, 3) := by decide +kernel
theorem dX11_two_129 : decode cX11_two 129 = .ok (.ireturn, 1) := by decide +kernel
noncomputable def F_X11_two (a0 : Nat) (a1 : Int32) (a2 : Int32) (M : m_M) : Option (Int32 × m_M) :=
  if a1 < 0 then (
    some ((-1 : Int32), M)
  ) else
  if a2 < 0 then (
    some ((-1 : Int32), M)
  ) else
  if (2 : Int32) < a2 then (
    some ((-1 : Int32), M)
  ) else
  x_gN 9 M a0 9 fun v1 =>
  x_cV 1 M v1 (F_X1_hasAsked v1 M) fun v2 M1 =>
  if v2 = 0 then (
    some ((-1 : Int32), M1)
  ) else
  x_cV 9 M1 a0 (F_X11_verbToday a0 M1) fun v3 M2 =>
  if v3 = (-1 : Int32) then (
    some ((-1 : Int32), M2)
  ) else
  x_gN 9 M2 a0 6 fun v4 =>
  x_gN 9 M2 a0 9 fun v5 =>
  x_gN 1 M2 v5 5 fun v6 =>
  x_gN 9 M2 a0 2 fun v7 =>
  x_cV 3 M2 v7 (F_X3_verbOf v7 a1 M2) fun v8 M3 =>
  x_gN 9 M3 a0 13 fun v9 =>
  x_cV 5 M3 v4 (F_X5_find v4 v6 v8 v9 M3) fun _ M4 =>
  x_gN 9 M4 a0 7 fun v10 =>
  x_gN 9 M4 a0 13 fun v11 =>
  x_gN 9 M4 a0 9 fun v12 =>
  x_gI 1 M4 v12 0 fun v13 =>
  x_cV 2 M4 v10 (F_X2_findTwoDays v10 v11 v13 M4) fun v14 M5 =>
  if v14 = (-1 : Int32) then (
    some ((-1 : Int32), M5)
  ) else
  if a2 = (0 : Int32) then (
    some (v14, M5)
  ) else
  if a2 = (1 : Int32) then (
    x_gN 9 M5 a0 7 fun v15 =>
    x_gI 2 M5 v15 2 fun v16 =>
    some (v16, M5)
  ) else
  x_gN 9 M5 a0 7 fun v17 =>
  x_gI 2 M5 v17 3 fun v18 =>
  some (v18, M5)
set_option maxHeartbeats 4000000 in
theorem K_X11_two (a0 : Nat) (a1 : Int32) (a2 : Int32) (M : m_M) (Φ : Option Value → m_M → Prop) (h : m_ok e_I Φ (F_X11_two a0 a1 a2 M)) : j_Ct yX11_two cX11_two 4 (some .int) 8 0 0 [.ref a0, .int a1, .int a2] M Φ := by
  refine j_Ct.of (by decide +kernel) (Nat.le_of_ble_eq_true rfl) fun X C => ?_
  have C0 := C.1
  show j_J X 4 0 [some (.ref a0), some (.int a1), some (.int a2), none] [] (0, 0) M
  unfold F_X11_two at h
  refine j_iload_n C0 (pc := 0) dX11_two_0 rfl ?_
  refine j_if_lt C0 (pc := 1) (tgt := 31) dX11_two_1 (by decide) (fun hc => ?_) (fun hc => ?_)
  · replace h := (X_if h).1 hc
    refine j_iconst C0 (pc := 31) dX11_two_31 (v := (-1 : Int32)) (by decide) ?_
    exact j_iret C rfl h dX11_two_32 (by decide)
  · replace h := (X_if h).2 hc
    refine j_iload_n C0 (pc := 4) dX11_two_4 rfl ?_
    refine j_if_lt C0 (pc := 5) (tgt := 31) dX11_two_5 (by decide) (fun hc => ?_) (fun hc => ?_)
    · replace h := (X_if h).1 hc
      refine j_iconst C0 (pc := 31) dX11_two_31 (v := (-1 : Int32)) (by decide) ?_
      exact j_iret C rfl h dX11_two_32 (by decide)
    · replace h := (X_if h).2 hc
      refine j_iload_n C0 (pc := 8) dX11_two_8 rfl ?_
      refine j_iconst C0 (pc := 9) dX11_two_9 (v := (2 : Int32)) (by decide) ?_
      refine j_icmp_gt C0 (pc := 10) (tgt := 31) dX11_two_10 (by decide) (fun hc => ?_) (fun hc => ?_)
      · replace h := (X_if h).1 hc
        refine j_iconst C0 (pc := 31) dX11_two_31 (v := (-1 : Int32)) (by decide) ?_
        exact j_iret C rfl h dX11_two_32 (by decide)
      · replace h := (X_if h).2 hc
        refine j_aload_n C0 (pc := 13) dX11_two_13 rfl ?_
        refine X_gN C0 (pc := 14) f_OV_65_9 rfl dX11_two_14 h (fun v1 h => ?_)
        refine X_cV C0 (pc := 17) (e' := e_I) (as := []) (rest := []) (s' := fun w => .int w :: []) (g' := (0, 0)) v_OV_205_1 (fun Ψ hΨ => K_X1_hasAsked v1 M Ψ hΨ) rfl rfl (fun _ => rfl) (by decide) (by decide) rfl (Nat.le_of_ble_eq_true rfl) dX11_two_17 h (fun v2 M1 h => ?_)
        refine j_if_eq C0 (pc := 20) (tgt := 31) dX11_two_20 (by decide) (fun hc => ?_) (fun hc => ?_)
        · replace h := (X_if h).1 hc
          refine j_iconst C0 (pc := 31) dX11_two_31 (v := (-1 : Int32)) (by decide) ?_
          exact j_iret C rfl h dX11_two_32 (by decide)
        · replace h := (X_if h).2 hc
          refine j_aload_n C0 (pc := 23) dX11_two_23 rfl ?_
          refine X_cV C0 (pc := 24) (e' := e_I) (as := []) (rest := []) (s' := fun w => .int w :: []) (g' := (0, 0)) v_OV_113_9 (fun Ψ hΨ => K_X11_verbToday a0 M1 Ψ hΨ) rfl rfl (fun _ => rfl) (by decide) (by decide) rfl (Nat.le_of_ble_eq_true rfl) dX11_two_24 h (fun v3 M2 h => ?_)
          refine j_iconst C0 (pc := 27) dX11_two_27 (v := (-1 : Int32)) (by decide) ?_
          refine j_icmp_ne C0 (pc := 28) (tgt := 33) dX11_two_28 (by decide) (fun hc => ?_) (fun hc => ?_)
          · replace h := (X_if h).2 hc
            refine j_aload_n C0 (pc := 33) dX11_two_33 rfl ?_
            refine X_gN C0 (pc := 34) f_OV_44_9 rfl dX11_two_34 h (fun v4 h => ?_)
            refine j_aload_n C0 (pc := 37) dX11_two_37 rfl ?_
            refine X_gN C0 (pc := 38) f_OV_65_9 rfl dX11_two_38 h (fun v5 h => ?_)
            refine X_gN C0 (pc := 41) f_OV_140_1 rfl dX11_two_41 h (fun v6 h => ?_)
            refine j_aload_n C0 (pc := 44) dX11_two_44 rfl ?_
            refine X_gN C0 (pc := 45) f_OV_16_9 rfl dX11_two_45 h (fun v7 h => ?_)
            refine j_iload_n C0 (pc := 48) dX11_two_48 rfl ?_
            refine X_cV C0 (pc := 49) (e' := e_I) (as := [.int a1]) (rest := [.ref v6, .ref v4]) (s' := fun w => .int w :: [.ref v6, .ref v4]) (g' := (0, 0)) v_OV_162_3 (fun Ψ hΨ => K_X3_verbOf v7 a1 M2 Ψ hΨ) rfl rfl (fun _ => rfl) (by decide) (by decide) rfl (Nat.le_of_ble_eq_true rfl) dX11_two_49 h (fun v8 M3 h => ?_)
            refine j_aload_n C0 (pc := 52) dX11_two_52 rfl ?_
            refine X_gN C0 (pc := 53) f_OV_84_9 rfl dX11_two_53 h (fun v9 h => ?_)
            refine X_cV C0 (pc := 56) (e' := e_V) (as := [.ref v6, .int v8, .ref v9]) (rest := []) (s' := fun _ => []) (g' := (0, 0)) v_OV_208_5 (fun Ψ hΨ => K_X5_find v4 v6 v8 v9 M3 Ψ hΨ) rfl rfl (fun _ => rfl) (by decide) (by decide) rfl (Nat.le_of_ble_eq_true rfl) dX11_two_56 h (fun _ M4 h => ?_)
            refine j_aload_n C0 (pc := 59) dX11_two_59 rfl ?_
            refine X_gN C0 (pc := 60) f_OV_51_9 rfl dX11_two_60 h (fun v10 h => ?_)
            refine j_aload_n C0 (pc := 63) dX11_two_63 rfl ?_
            refine X_gN C0 (pc := 64) f_OV_84_9 rfl dX11_two_64 h (fun v11 h => ?_)
            refine j_aload_n C0 (pc := 67) dX11_two_67 rfl ?_
            refine X_gN C0 (pc := 68) f_OV_65_9 rfl dX11_two_68 h (fun v12 h => ?_)
            refine X_gI C0 (pc := 71) f_OV_119_1 rfl dX11_two_71 h (fun v13 h => ?_)
            refine X_cV C0 (pc := 74) (e' := e_I) (as := [.ref v11, .int v13]) (rest := []) (s' := fun w => .int w :: []) (g' := (0, 0)) v_OV_257_2 (fun Ψ hΨ => K_X2_findTwoDays v10 v11 v13 M4 Ψ hΨ) rfl rfl (fun _ => rfl) (by decide) (by decide) rfl (Nat.le_of_ble_eq_true rfl) dX11_two_74 h (fun v14 M5 h => ?_)
            refine j_istore_n C0 (pc := 77) dX11_two_77 (Nat.le_of_ble_eq_true rfl) ?_
            show j_J X 4 78 [some (.ref a0), some (.int a1), some (.int a2), some (.int v14)] [] (0, 0) M5
            refine j_iload_n C0 (pc := 78) dX11_two_78 rfl ?_
            refine j_iconst C0 (pc := 79) dX11_two_79 (v := (-1 : Int32)) (by decide) ?_
            refine j_icmp_ne C0 (pc := 80) (tgt := 85) dX11_two_80 (by decide) (fun hc => ?_) (fun hc => ?_)
            · replace h := (X_if h).2 hc
              refine j_iload_n C0 (pc := 85) dX11_two_85 rfl ?_
              by_cases hc : a2 = (0 : Int32)
              · replace h := (X_if h).1 hc
                refine j_lookup C0 (pc := 86) (off := 26) (tgt := 112) dX11_two_86 (by decide) (by rw [hc]; decide) (by decide) ?_
                refine j_iload_n C0 (pc := 112) dX11_two_112 rfl ?_
                exact j_iret C rfl h dX11_two_113 (by decide)
              · replace h := (X_if h).2 hc
                have hn0 : ¬ a2 = Int32.ofInt (0) := hc
                by_cases hc : a2 = (1 : Int32)
                · replace h := (X_if h).1 hc
                  refine j_lookup C0 (pc := 86) (off := 28) (tgt := 114) dX11_two_86 (by decide) (by rw [hc]; decide) (by decide) ?_
                  refine j_aload_n C0 (pc := 114) dX11_two_114 rfl ?_
                  refine X_gN C0 (pc := 115) f_OV_51_9 rfl dX11_two_115 h (fun v15 h => ?_)
                  refine X_gI C0 (pc := 118) f_OV_251_2 rfl dX11_two_118 h (fun v16 h => ?_)
                  exact j_iret C rfl h dX11_two_121 (by decide)
                · replace h := (X_if h).2 hc
                  have hn1 : ¬ a2 = Int32.ofInt (1) := hc
                  refine j_lookup C0 (pc := 86) (tgt := 122) dX11_two_86 (by decide) (m_lk2 (m_sw (k := 0) hn0) (m_sw (k := 1) hn1)) (by decide) ?_
                  refine j_aload_n C0 (pc := 122) dX11_two_122 rfl ?_
                  refine X_gN C0 (pc := 123) f_OV_51_9 rfl dX11_two_123 h (fun v17 h => ?_)
                  refine X_gI C0 (pc := 126) f_OV_254_2 rfl dX11_two_126 h (fun v18 h => ?_)
                  exact j_iret C rfl h dX11_two_129 (by decide)
            · replace h := (X_if h).1 hc
              refine j_iconst C0 (pc := 83) dX11_two_83 (v := (-1 : Int32)) (by decide) ?_
              exact j_iret C rfl h dX11_two_84 (by decide)
          · replace h := (X_if h).1 hc
            refine j_iconst C0 (pc := 31) dX11_two_31 (v := (-1 : Int32)) (by decide) ?_
            exact j_iret C rfl h dX11_two_32 (by decide)
theorem dX1_removeSaid_0 : decode cX1_removeSaid 0 = .ok (.iload_n 1, 1) := by decide +kernel
theorem dX1_removeSaid_1 : decode cX1_removeSaid 1 = .ok (.ifCond .lt 11, 3) := by decide +kernel
theorem dX1_removeSaid_4 : decode cX1_removeSaid 4 = .ok (.iload_n 1, 1) := by decide +kernel
theorem dX1_removeSaid_5 : decode cX1_removeSaid 5 = .ok (.aload_n 0, 1) := by decide +kernel
theorem dX1_removeSaid_6 : decode cX1_removeSaid 6 = .ok (.getfield 43, 3) := by decide +kernel
theorem dX1_removeSaid_9 : decode cX1_removeSaid 9 = .ok (.if_icmp .lt 4, 3) := by decide +kernel
theorem dX1_removeSaid_12 : decode cX1_removeSaid 12 = .ok (.return_, 1) := by decide +kernel
theorem dX1_removeSaid_13 : decode cX1_removeSaid 13 = .ok (.aload_n 0, 1) := by decide +kernel
theorem dX1_removeSaid_14 : decode cX1_removeSaid 14 = .ok (.dup, 1) := by decide +kernel
theorem dX1_removeSaid_15 : decode cX1_removeSaid 15 = .ok (.getfield 43, 3) := by decide +kernel
theorem dX1_removeSaid_18 : decode cX1_removeSaid 18 = .ok (.iconst 1, 1) := by decide +kernel
theorem dX1_removeSaid_19 : decode cX1_removeSaid 19 = .ok (.isub, 1) := by decide +kernel
theorem dX1_removeSaid_20 : decode cX1_removeSaid 20 = .ok (.putfield 43, 3) := by decide +kernel
theorem dX1_removeSaid_23 : decode cX1_removeSaid 23 = .ok (.iload_n 1, 1) := by decide +kernel
theorem dX1_removeSaid_24 : decode cX1_removeSaid 24 = .ok (.istore_n 2, 1) := by decide +kernel
theorem dX1_removeSaid_25 : decode cX1_removeSaid 25 = .ok (.iload_n 2, 1) := by decide +kernel
theorem dX1_removeSaid_26 : decode cX1_removeSaid 26 = .ok (.aload_n 0, 1) := by decide +kernel
theorem dX1_removeSaid_27 : decode cX1_removeSaid 27 = .ok (.getfield 43, 3) := by decide +kernel
theorem dX1_removeSaid_30 : decode cX1_removeSaid 30 = .ok (.if_icmp .ge 23, 3) := by decide +kernel
theorem dX1_removeSaid_33 : decode cX1_removeSaid 33 = .ok (.aload_n 0, 1) := by decide +kernel
theorem dX1_removeSaid_34 : decode cX1_removeSaid 34 = .ok (.getfield 20, 3) := by decide +kernel
theorem dX1_removeSaid_37 : decode cX1_removeSaid 37 = .ok (.iload_n 2, 1) := by decide +kernel
theorem dX1_removeSaid_38 : decode cX1_removeSaid 38 = .ok (.aload_n 0, 1) := by decide +kernel
theorem dX1_removeSaid_39 : decode cX1_removeSaid 39 = .ok (.getfield 20, 3) := by decide +kernel
theorem dX1_removeSaid_42 : decode cX1_removeSaid 42 = .ok (.iload_n 2, 1) := by decide +kernel
theorem dX1_removeSaid_43 : decode cX1_removeSaid 43 = .ok (.iconst 1, 1) := by decide +kernel
theorem dX1_removeSaid_44 : decode cX1_removeSaid 44 = .ok (.iadd, 1) := by decide +kernel
theorem dX1_removeSaid_45 : decode cX1_removeSaid 45 = .ok (.aaload, 1) := by decide +kernel
theorem dX1_removeSaid_46 : decode cX1_removeSaid 46 = .ok (.aastore, 1) := by decide +kernel
theorem dX1_removeSaid_47 : decode cX1_removeSaid 47 = .ok (.iinc 2 1, 3) := by decide +kernel
theorem dX1_removeSaid_50 : decode cX1_removeSaid 50 = .ok (.goto (-25), 3) := by decide +kernel
theorem dX1_removeSaid_53 : decode cX1_removeSaid 53 = .ok (.return_, 1) := by decide +kernel
noncomputable def F_X1_removeSaid_25 : Nat → Nat → Int32 → m_M → Option (Unit × m_M)
  | 0, _, _, _ => none
  | n + 1, v1, v2, M =>
    x_gI 1 M v1 1 fun v3 =>
    if v3 ≤ v2 then (
      some ((), M)
    ) else
    x_gN 1 M v1 7 fun v4 =>
    x_gN 1 M v1 7 fun v5 =>
    x_aN 16 M v5 (v2 + (1 : Int32)) fun v6 =>
    x_sR 16 6 M v4 v2 (some v6) fun M1 =>
    m_let (v2 + (1 : Int32)) fun v7 =>
    F_X1_removeSaid_25 n v1 v7 M1
noncomputable def F_X1_removeSaid (a0 : Nat) (a1 : Int32) (M : m_M) : Option (Unit × m_M) :=
  if a1 < 0 then (
    some ((), M)
  ) else
  x_gI 1 M a0 1 fun v1 =>
  if a1 < v1 then (
    x_gI 1 M a0 1 fun v2 =>
    x_pI 1 M a0 1 (v2 - (1 : Int32)) fun M1 =>
    F_X1_removeSaid_25 m_FU a0 a1 M1
  ) else
  some ((), M)
set_option maxHeartbeats 4000000 in
theorem L_X1_removeSaid_25 {X : j_X} {Φ : Option Value → m_M → Prop} (C : j_C X yX1_removeSaid cX1_removeSaid 3 none 1 0 0 Φ) : ∀ (n : Nat) (v1 : Nat) (v2 : Int32) (M : m_M), m_ok e_V Φ (F_X1_removeSaid_25 n v1 v2 M) → j_J X 3 25 [some (.ref v1), none, some (.int v2)] [] (0, 0) M := by
  have C0 := C.1
  intro n
  induction n with
  | zero => intro v1 v2 M h; exact False.elim h
  | succ n ih =>
    intro v1 v2 M h
    rw [F_X1_removeSaid_25] at h
    refine j_iload_n C0 (pc := 25) dX1_removeSaid_25 rfl ?_
    refine j_aload_n C0 (pc := 26) dX1_removeSaid_26 rfl ?_
    refine X_gI C0 (pc := 27) f_Book_43_1 rfl dX1_removeSaid_27 h (fun v3 h => ?_)
    refine j_icmp_ge C0 (pc := 30) (tgt := 53) dX1_removeSaid_30 (by decide) (fun hc => ?_) (fun hc => ?_)
    · replace h := (X_if h).1 hc
      exact j_vret C rfl h dX1_removeSaid_53 (by decide)
    · replace h := (X_if h).2 hc
      refine j_aload_n C0 (pc := 33) dX1_removeSaid_33 rfl ?_
      refine X_gN C0 (pc := 34) f_Book_20_1 rfl dX1_removeSaid_34 h (fun v4 h => ?_)
      refine j_iload_n C0 (pc := 37) dX1_removeSaid_37 rfl ?_
      refine j_aload_n C0 (pc := 38) dX1_removeSaid_38 rfl ?_
      refine X_gN C0 (pc := 39) f_Book_20_1 rfl dX1_removeSaid_39 h (fun v5 h => ?_)
      refine j_iload_n C0 (pc := 42) dX1_removeSaid_42 rfl ?_
      refine j_iconst C0 (pc := 43) dX1_removeSaid_43 (v := (1 : Int32)) (by decide) ?_
      refine j_iadd C0 (pc := 44) dX1_removeSaid_44 ?_
      refine X_aaldN C0 (pc := 45) (by decide) dX1_removeSaid_45 h (fun v6 h => ?_)
      refine X_aastN C0 (pc := 46) (by decide) dX1_removeSaid_46 h (fun M1 h => ?_)
      refine j_iinc C0 (pc := 47) dX1_removeSaid_47 (v := v2 + (1 : Int32)) rfl (Nat.le_of_ble_eq_true rfl) (by rfl) ?_
      refine X_let (G := fun w => j_J X 3 50 [some (.ref v1), none, some (.int w)] [] (0, 0) M1) h (fun v7 h => ?_)
      refine j_goto C0 (pc := 50) (tgt := 25) dX1_removeSaid_50 (by decide) ?_
      exact j_J.wq (ih v1 v7 M1 h) (And.intro rfl (And.intro rfl (trivial)))
set_option maxHeartbeats 4000000 in
theorem K_X1_removeSaid (a0 : Nat) (a1 : Int32) (M : m_M) (Φ : Option Value → m_M → Prop) (h : m_ok e_V Φ (F_X1_removeSaid a0 a1 M)) : j_Ct yX1_removeSaid cX1_removeSaid 3 none 1 0 0 [.ref a0, .int a1] M Φ := by
  refine j_Ct.of (by decide +kernel) (Nat.le_of_ble_eq_true rfl) fun X C => ?_
  have C0 := C.1
  show j_J X 3 0 [some (.ref a0), some (.int a1), none] [] (0, 0) M
  unfold F_X1_removeSaid at h
  refine j_iload_n C0 (pc := 0) dX1_removeSaid_0 rfl ?_
  refine j_if_lt C0 (pc := 1) (tgt := 12) dX1_removeSaid_1 (by decide) (fun hc => ?_) (fun hc => ?_)
  · replace h := (X_if h).1 hc
    exact j_vret C rfl h dX1_removeSaid_12 (by decide)
  · replace h := (X_if h).2 hc
    refine j_iload_n C0 (pc := 4) dX1_removeSaid_4 rfl ?_
    refine j_aload_n C0 (pc := 5) dX1_removeSaid_5 rfl ?_
    refine X_gI C0 (pc := 6) f_Book_43_1 rfl dX1_removeSaid_6 h (fun v1 h => ?_)
    refine j_icmp_lt C0 (pc := 9) (tgt := 13) dX1_removeSaid_9 (by decide) (fun hc => ?_) (fun hc => ?_)
    · replace h := (X_if h).1 hc
      refine j_aload_n C0 (pc := 13) dX1_removeSaid_13 rfl ?_
      refine j_dup C0 (pc := 14) dX1_removeSaid_14 rfl ?_
      refine X_gI C0 (pc := 15) f_Book_43_1 rfl dX1_removeSaid_15 h (fun v2 h => ?_)
      refine j_iconst C0 (pc := 18) dX1_removeSaid_18 (v := (1 : Int32)) (by decide) ?_
      refine j_isub C0 (pc := 19) dX1_removeSaid_19 ?_
      refine X_pI C0 (pc := 20) f_Book_43_1 rfl rfl dX1_removeSaid_20 h (fun M1 h => ?_)
      refine j_iload_n C0 (pc := 23) dX1_removeSaid_23 rfl ?_
      refine j_istore_n C0 (pc := 24) dX1_removeSaid_24 (Nat.le_of_ble_eq_true rfl) ?_
      show j_J X 3 25 [some (.ref a0), some (.int a1), some (.int a1)] [] (0, 0) M1
      exact j_J.wq (L_X1_removeSaid_25 C m_FU a0 a1 M1 h) (And.intro rfl (And.intro rfl (trivial)))
    · replace h := (X_if h).2 hc
      exact j_vret C rfl h dX1_removeSaid_12 (by decide)
theorem dX1_undoLast_0 : decode cX1_undoLast 0 = .ok (.aload_n 0, 1) := by decide +kernel
theorem dX1_undoLast_1 : decode cX1_undoLast 1 = .ok (.getfield 52, 3) := by decide +kernel
theorem dX1_undoLast_4 : decode cX1_undoLast 4 = .ok (.ifCond .ne 5, 3) := by decide +kernel
theorem dX1_undoLast_7 : decode cX1_undoLast 7 = .ok (.iconst 0, 1) := by decide +kernel
theorem dX1_undoLast_8 : decode cX1_undoLast 8 = .ok (.ireturn, 1) := by decide +kernel
theorem dX1_undoLast_9 : decode cX1_undoLast 9 = .ok (.aload_n 0, 1) := by decide +kernel
theorem dX1_undoLast_10 : decode cX1_undoLast 10 = .ok (.dup, 1) := by decide +kernel
theorem dX1_undoLast_11 : decode cX1_undoLast 11 = .ok (.getfield 52, 3) := by decide +kernel
theorem dX1_undoLast_14 : decode cX1_undoLast 14 = .ok (.iconst 1, 1) := by decide +kernel
theorem dX1_undoLast_15 : decode cX1_undoLast 15 = .ok (.isub, 1) := by decide +kernel
theorem dX1_undoLast_16 : decode cX1_undoLast 16 = .ok (.putfield 52, 3) := by decide +kernel
theorem dX1_undoLast_19 : decode cX1_undoLast 19 = .ok (.aload_n 0, 1) := by decide +kernel
theorem dX1_undoLast_20 : decode cX1_undoLast 20 = .ok (.getfield 30, 3) := by decide +kernel
theorem dX1_undoLast_23 : decode cX1_undoLast 23 = .ok (.aload_n 0, 1) := by decide +kernel
theorem dX1_undoLast_24 : decode cX1_undoLast 24 = .ok (.getfield 52, 3) := by decide +kernel
theorem dX1_undoLast_27 : decode cX1_undoLast 27 = .ok (.iaload, 1) := by decide +kernel
theorem dX1_undoLast_28 : decode cX1_undoLast 28 = .ok (.lookupswitch 70 #[(0, 28), (1, 44)], 28) := by decide +kernel
theorem dX1_undoLast_56 : decode cX1_undoLast 56 = .ok (.aload_n 0, 1) := by decide +kernel
theorem dX1_undoLast_57 : decode cX1_undoLast 57 = .ok (.aload_n 0, 1) := by decide +kernel
theorem dX1_undoLast_58 : decode cX1_undoLast 58 = .ok (.getfield 33, 3) := by decide +kernel
theorem dX1_undoLast_61 : decode cX1_undoLast 61 = .ok (.aload_n 0, 1) := by decide +kernel
theorem dX1_undoLast_62 : decode cX1_undoLast 62 = .ok (.getfield 52, 3) := by decide +kernel
theorem dX1_undoLast_65 : decode cX1_undoLast 65 = .ok (.iaload, 1) := by decide +kernel
theorem dX1_undoLast_66 : decode cX1_undoLast 66 = .ok (.invokevirtual 73, 3) := by decide +kernel
theorem dX1_undoLast_69 : decode cX1_undoLast 69 = .ok (.goto 43, 3) := by decide +kernel
theorem dX1_undoLast_72 : decode cX1_undoLast 72 = .ok (.aload_n 0, 1) := by decide +kernel
theorem dX1_undoLast_73 : decode cX1_undoLast 73 = .ok (.aload_n 0, 1) := by decide +kernel
theorem dX1_undoLast_74 : decode cX1_undoLast 74 = .ok (.getfield 33, 3) := by decide +kernel
theorem dX1_undoLast_77 : decode cX1_undoLast 77 = .ok (.aload_n 0, 1) := by decide +kernel
theorem dX1_undoLast_78 : decode cX1_undoLast 78 = .ok (.getfield 52, 3) := by decide +kernel
theorem dX1_undoLast_81 : decode cX1_undoLast 81 = .ok (.iaload, 1) := by decide +kernel
theorem dX1_undoLast_82 : decode cX1_undoLast 82 = .ok (.aload_n 0, 1) := by decide +kernel
theorem dX1_undoLast_83 : decode cX1_undoLast 83 = .ok (.getfield 36, 3) := by decide +kernel
theorem dX1_undoLast_86 : decode cX1_undoLast 86 = .ok (.aload_n 0, 1) := by decide +kernel
theorem dX1_undoLast_87 : decode cX1_undoLast 87 = .ok (.getfield 52, 3) := by decide +kernel
theorem dX1_undoLast_90 : decode cX1_undoLast 90 = .ok (.aaload, 1) := by decide +kernel
theorem dX1_undoLast_91 : decode cX1_undoLast 91 = .ok (.invokevirtual 61, 3) := by decide +kernel
theorem dX1_undoLast_94 : decode cX1_undoLast 94 = .ok (.pop, 1) := by decide +kernel
theorem dX1_undoLast_95 : decode cX1_undoLast 95 = .ok (.goto 17, 3) := by decide +kernel
theorem dX1_undoLast_98 : decode cX1_undoLast 98 = .ok (.aload_n 0, 1) := by decide +kernel
theorem dX1_undoLast_99 : decode cX1_undoLast 99 = .ok (.aload_n 0, 1) := by decide +kernel
theorem dX1_undoLast_100 : decode cX1_undoLast 100 = .ok (.getfield 46, 3) := by decide +kernel
theorem dX1_undoLast_103 : decode cX1_undoLast 103 = .ok (.iconst 1, 1) := by decide +kernel
theorem dX1_undoLast_104 : decode cX1_undoLast 104 = .ok (.isub, 1) := by decide +kernel
theorem dX1_undoLast_105 : decode cX1_undoLast 105 = .ok (.iconst 0, 1) := by decide +kernel
theorem dX1_undoLast_106 : decode cX1_undoLast 106 = .ok (.invokestatic 77, 3) := by decide +kernel
theorem dX1_undoLast_109 : decode cX1_undoLast 109 = .ok (.putfield 46, 3) := by decide +kernel
theorem dX1_undoLast_112 : decode cX1_undoLast 112 = .ok (.iconst 1, 1) := by decide +kernel
theorem dX1_undoLast_113 : decode cX1_undoLast 113 = .ok (.ireturn, 1) := by decide +kernel
noncomputable def F_X1_undoLast (a0 : Nat) (M : m_M) : Option (Int32 × m_M) :=
  x_gI 1 M a0 4 fun v1 =>
  if v1 = 0 then (
    some ((0 : Int32), M)
  ) else
  x_gI 1 M a0 4 fun v2 =>
  x_pI 1 M a0 4 (v2 - (1 : Int32)) fun M1 =>
  x_gN 1 M1 a0 10 fun v3 =>
  x_gI 1 M1 a0 4 fun v4 =>
  x_aI 12 M1 v3 v4 fun v5 =>
  if v5 = (0 : Int32) then (
    x_gN 1 M1 a0 11 fun v6 =>
    x_gI 1 M1 a0 4 fun v7 =>
    x_aI 12 M1 v6 v7 fun v8 =>
    x_cV 1 M1 a0 (F_X1_removeSaid a0 v8 M1) fun _ M2 =>
    some ((1 : Int32), M2)
  ) else
  if v5 = (1 : Int32) then (
    x_gN 1 M1 a0 11 fun v9 =>
    x_gI 1 M1 a0 4 fun v10 =>
    x_aI 12 M1 v9 v10 fun v11 =>
    x_gN 1 M1 a0 12 fun v12 =>
    x_gI 1 M1 a0 4 fun v13 =>
    x_aN 16 M1 v12 v13 fun v14 =>
    x_cV 1 M1 a0 (F_X1_insertSaid a0 v11 v14 M1) fun v15 M3 =>
    some ((1 : Int32), M3)
  ) else
  x_gI 1 M1 a0 2 fun v16 =>
  x_bd (F_J9_max_7cf53 (v16 - (1 : Int32)) (0 : Int32) M1) fun v17 M4 =>
  x_pI 1 M4 a0 2 v17 fun M5 =>
  some ((1 : Int32), M5)
set_option maxHeartbeats 4000000 in
theorem K_X1_undoLast (a0 : Nat) (M : m_M) (Φ : Option Value → m_M → Prop) (h : m_ok e_I Φ (F_X1_undoLast a0 M)) : j_Ct yX1_undoLast cX1_undoLast 1 (some .boolean) 2 0 0 [.ref a0] M Φ := by
  refine j_Ct.of (by decide +kernel) (Nat.le_of_ble_eq_true rfl) fun X C => ?_
  have C0 := C.1
  show j_J X 1 0 [some (.ref a0)] [] (0, 0) M
  unfold F_X1_undoLast at h
  refine j_aload_n C0 (pc := 0) dX1_undoLast_0 rfl ?_
  refine X_gI C0 (pc := 1) f_Book_52_1 rfl dX1_undoLast_1 h (fun v1 h => ?_)
  refine j_if_ne C0 (pc := 4) (tgt := 9) dX1_undoLast_4 (by decide) (fun hc => ?_) (fun hc => ?_)
  · replace h := (X_if h).2 hc
    refine j_aload_n C0 (pc := 9) dX1_undoLast_9 rfl ?_
    refine j_dup C0 (pc := 10) dX1_undoLast_10 rfl ?_
    refine X_gI C0 (pc := 11) f_Book_52_1 rfl dX1_undoLast_11 h (fun v2 h => ?_)
    refine j_iconst C0 (pc := 14) dX1_undoLast_14 (v := (1 : Int32)) (by decide) ?_
    refine j_isub C0 (pc := 15) dX1_undoLast_15 ?_
    refine X_pI C0 (pc := 16) f_Book_52_1 rfl rfl dX1_undoLast_16 h (fun M1 h => ?_)
    refine j_aload_n C0 (pc := 19) dX1_undoLast_19 rfl ?_
    refine X_gN C0 (pc := 20) f_Book_30_1 rfl dX1_undoLast_20 h (fun v3 h => ?_)
    refine j_aload_n C0 (pc := 23) dX1_undoLast_23 rfl ?_
    refine X_gI C0 (pc := 24) f_Book_52_1 rfl dX1_undoLast_24 h (fun v4 h => ?_)
    refine X_iald C0 (pc := 27) dX1_undoLast_27 h (fun v5 h => ?_)
    by_cases hc : v5 = (0 : Int32)
    · replace h := (X_if h).1 hc
      refine j_lookup C0 (pc := 28) (off := 28) (tgt := 56) dX1_undoLast_28 (by decide) (by rw [hc]; decide) (by decide) ?_
      refine j_aload_n C0 (pc := 56) dX1_undoLast_56 rfl ?_
      refine j_aload_n C0 (pc := 57) dX1_undoLast_57 rfl ?_
      refine X_gN C0 (pc := 58) f_Book_33_1 rfl dX1_undoLast_58 h (fun v6 h => ?_)
      refine j_aload_n C0 (pc := 61) dX1_undoLast_61 rfl ?_
      refine X_gI C0 (pc := 62) f_Book_52_1 rfl dX1_undoLast_62 h (fun v7 h => ?_)
      refine X_iald C0 (pc := 65) dX1_undoLast_65 h (fun v8 h => ?_)
      refine X_cV C0 (pc := 66) (e' := e_V) (as := [.int v8]) (rest := []) (s' := fun _ => []) (g' := (0, 0)) v_Book_73_1 (fun Ψ hΨ => K_X1_removeSaid a0 v8 M1 Ψ hΨ) rfl rfl (fun _ => rfl) (by decide) (by decide) rfl (Nat.le_of_ble_eq_true rfl) dX1_undoLast_66 h (fun _ M2 h => ?_)
      refine j_goto C0 (pc := 69) (tgt := 112) dX1_undoLast_69 (by decide) ?_
      refine j_iconst C0 (pc := 112) dX1_undoLast_112 (v := (1 : Int32)) (by decide) ?_
      exact j_zret C rfl (by decide) h dX1_undoLast_113 (by decide)
    · replace h := (X_if h).2 hc
      have hn0 : ¬ v5 = Int32.ofInt (0) := hc
      by_cases hc : v5 = (1 : Int32)
      · replace h := (X_if h).1 hc
        refine j_lookup C0 (pc := 28) (off := 44) (tgt := 72) dX1_undoLast_28 (by decide) (by rw [hc]; decide) (by decide) ?_
        refine j_aload_n C0 (pc := 72) dX1_undoLast_72 rfl ?_
        refine j_aload_n C0 (pc := 73) dX1_undoLast_73 rfl ?_
        refine X_gN C0 (pc := 74) f_Book_33_1 rfl dX1_undoLast_74 h (fun v9 h => ?_)
        refine j_aload_n C0 (pc := 77) dX1_undoLast_77 rfl ?_
        refine X_gI C0 (pc := 78) f_Book_52_1 rfl dX1_undoLast_78 h (fun v10 h => ?_)
        refine X_iald C0 (pc := 81) dX1_undoLast_81 h (fun v11 h => ?_)
        refine j_aload_n C0 (pc := 82) dX1_undoLast_82 rfl ?_
        refine X_gN C0 (pc := 83) f_Book_36_1 rfl dX1_undoLast_83 h (fun v12 h => ?_)
        refine j_aload_n C0 (pc := 86) dX1_undoLast_86 rfl ?_
        refine X_gI C0 (pc := 87) f_Book_52_1 rfl dX1_undoLast_87 h (fun v13 h => ?_)
        refine X_aaldN C0 (pc := 90) (by decide) dX1_undoLast_90 h (fun v14 h => ?_)
        refine X_cV C0 (pc := 91) (e' := e_I) (as := [.int v11, .ref v14]) (rest := []) (s' := fun w => .int w :: []) (g' := (0, 0)) v_Book_61_1 (fun Ψ hΨ => K_X1_insertSaid a0 v11 v14 M1 Ψ hΨ) rfl rfl (fun _ => rfl) (by decide) (by decide) rfl (Nat.le_of_ble_eq_true rfl) dX1_undoLast_91 h (fun v15 M3 h => ?_)
        refine j_pop C0 (pc := 94) dX1_undoLast_94 rfl ?_
        refine j_goto C0 (pc := 95) (tgt := 112) dX1_undoLast_95 (by decide) ?_
        refine j_iconst C0 (pc := 112) dX1_undoLast_112 (v := (1 : Int32)) (by decide) ?_
        exact j_zret C rfl (by decide) h dX1_undoLast_113 (by decide)
      · replace h := (X_if h).2 hc
        have hn1 : ¬ v5 = Int32.ofInt (1) := hc
        refine j_lookup C0 (pc := 28) (tgt := 98) dX1_undoLast_28 (by decide) (m_lk2 (m_sw (k := 0) hn0) (m_sw (k := 1) hn1)) (by decide) ?_
        refine j_aload_n C0 (pc := 98) dX1_undoLast_98 rfl ?_
        refine j_aload_n C0 (pc := 99) dX1_undoLast_99 rfl ?_
        refine X_gI C0 (pc := 100) f_Book_46_1 rfl dX1_undoLast_100 h (fun v16 h => ?_)
        refine j_iconst C0 (pc := 103) dX1_undoLast_103 (v := (1 : Int32)) (by decide) ?_
        refine j_isub C0 (pc := 104) dX1_undoLast_104 ?_
        refine j_iconst C0 (pc := 105) dX1_undoLast_105 (v := (0 : Int32)) (by decide) ?_
        refine X_cS C0 (pc := 106) (e' := e_I) (as := [.int (v16 - (1 : Int32)), .int (0 : Int32)]) (rest := [.ref a0]) (s' := fun w => .int w :: [.ref a0]) (g' := (0, 0)) s_Book_77 (fun Ψ hΨ => K_J9_max_7cf53 (v16 - (1 : Int32)) (0 : Int32) M1 Ψ hΨ) rfl rfl (fun _ => rfl) (by decide) (by decide) rfl (Nat.le_of_ble_eq_true rfl) dX1_undoLast_106 h (fun v17 M4 h => ?_)
        refine X_pI C0 (pc := 109) f_Book_46_1 rfl rfl dX1_undoLast_109 h (fun M5 h => ?_)
        refine j_iconst C0 (pc := 112) dX1_undoLast_112 (v := (1 : Int32)) (by decide) ?_
        exact j_zret C rfl (by decide) h dX1_undoLast_113 (by decide)
  · replace h := (X_if h).1 hc
    refine j_iconst C0 (pc := 7) dX1_undoLast_7 (v := (0 : Int32)) (by decide) ?_
    exact j_zret C rfl (by decide) h dX1_undoLast_8 (by decide)
theorem dX11_undo_0 : decode cX11_undo 0 = .ok (.aload_n 0, 1) := by decide +kernel
theorem dX11_undo_1 : decode cX11_undo 1 = .ok (.getfield 65, 3) := by decide +kernel
theorem dX11_undo_4 : decode cX11_undo 4 = .ok (.invokevirtual 148, 3) := by decide +kernel
theorem dX11_undo_7 : decode cX11_undo 7 = .ok (.ireturn, 1) := by decide +kernel
noncomputable def F_X11_undo (a0 : Nat) (M : m_M) : Option (Int32 × m_M) :=
  x_gN 9 M a0 9 fun v1 =>
  x_cV 1 M v1 (F_X1_undoLast v1 M) fun v2 M1 =>
  x_b v2 <| some (v2, M1)
set_option maxHeartbeats 4000000 in
theorem K_X11_undo (a0 : Nat) (M : m_M) (Φ : Option Value → m_M → Prop) (h : m_ok e_I Φ (F_X11_undo a0 M)) : j_Ct yX11_undo cX11_undo 1 (some .boolean) 3 0 0 [.ref a0] M Φ := by
  refine j_Ct.of (by decide +kernel) (Nat.le_of_ble_eq_true rfl) fun X C => ?_
  have C0 := C.1
  show j_J X 1 0 [some (.ref a0)] [] (0, 0) M
  unfold F_X11_undo at h
  refine j_aload_n C0 (pc := 0) dX11_undo_0 rfl ?_
  refine X_gN C0 (pc := 1) f_OV_65_9 rfl dX11_undo_1 h (fun v1 h => ?_)
  refine X_cV C0 (pc := 4) (e' := e_I) (as := []) (rest := []) (s' := fun w => .int w :: []) (g' := (0, 0)) v_OV_148_1 (fun Ψ hΨ => K_X1_undoLast v1 M Ψ hΨ) rfl rfl (fun _ => rfl) (by decide) (by decide) rfl (Nat.le_of_ble_eq_true rfl) dX11_undo_4 h (fun v2 M1 h => ?_)
  exact j_zret C rfl (by rcases (X_gd h).1 with q | q <;> (rw [q]; rfl)) (X_gd h).2 dX11_undo_7 (by decide)
theorem dX1_takeBack_0 : decode cX1_takeBack 0 = .ok (.aload_n 0, 1) := by decide +kernel
theorem dX1_takeBack_1 : decode cX1_takeBack 1 = .ok (.iload_n 1, 1) := by decide +kernel
theorem dX1_takeBack_2 : decode cX1_takeBack 2 = .ok (.invokevirtual 69, 3) := by decide +kernel
theorem dX1_takeBack_5 : decode cX1_takeBack 5 = .ok (.astore_n 2, 1) := by decide +kernel
theorem dX1_takeBack_6 : decode cX1_takeBack 6 = .ok (.aload_n 2, 1) := by decide +kernel
theorem dX1_takeBack_7 : decode cX1_takeBack 7 = .ok (.ifnonnull 5, 3) := by decide +kernel
theorem dX1_takeBack_10 : decode cX1_takeBack 10 = .ok (.iconst 0, 1) := by decide +kernel
theorem dX1_takeBack_11 : decode cX1_takeBack 11 = .ok (.ireturn, 1) := by decide +kernel
theorem dX1_takeBack_12 : decode cX1_takeBack 12 = .ok (.aload_n 0, 1) := by decide +kernel
theorem dX1_takeBack_13 : decode cX1_takeBack 13 = .ok (.iload_n 1, 1) := by decide +kernel
theorem dX1_takeBack_14 : decode cX1_takeBack 14 = .ok (.invokevirtual 73, 3) := by decide +kernel
theorem dX1_takeBack_17 : decode cX1_takeBack 17 = .ok (.aload_n 0, 1) := by decide +kernel
theorem dX1_takeBack_18 : decode cX1_takeBack 18 = .ok (.iconst 1, 1) := by decide +kernel
theorem dX1_takeBack_19 : decode cX1_takeBack 19 = .ok (.iload_n 1, 1) := by decide +kernel
theorem dX1_takeBack_20 : decode cX1_takeBack 20 = .ok (.aload_n 2, 1) := by decide +kernel
theorem dX1_takeBack_21 : decode cX1_takeBack 21 = .ok (.invokevirtual 65, 3) := by decide +kernel
theorem dX1_takeBack_24 : decode cX1_takeBack 24 = .ok (.iconst 1, 1) := by decide +kernel
theorem dX1_takeBack_25 : decode cX1_takeBack 25 = .ok (.ireturn, 1) := by decide +kernel
noncomputable def F_X1_takeBack (a0 : Nat) (a1 : Int32) (M : m_M) : Option (Int32 × m_M) :=
  x_cV 1 M a0 (F_X1_saidAt a0 a1 M) fun v1 M1 =>
  x_nul v1 (
    some ((0 : Int32), M1)
  ) fun v2 =>
  x_cV 1 M1 a0 (F_X1_removeSaid a0 a1 M1) fun _ M2 =>
  x_cV 1 M2 a0 (F_X1_noteDeed a0 (1 : Int32) a1 v2 M2) fun _ M3 =>
  some ((1 : Int32), M3)
set_option maxHeartbeats 4000000 in
theorem K_X1_takeBack (a0 : Nat) (a1 : Int32) (M : m_M) (Φ : Option Value → m_M → Prop) (h : m_ok e_I Φ (F_X1_takeBack a0 a1 M)) : j_Ct yX1_takeBack cX1_takeBack 3 (some .boolean) 2 0 0 [.ref a0, .int a1] M Φ := by
  refine j_Ct.of (by decide +kernel) (Nat.le_of_ble_eq_true rfl) fun X C => ?_
  have C0 := C.1
  show j_J X 3 0 [some (.ref a0), some (.int a1), none] [] (0, 0) M
  unfold F_X1_takeBack at h
  refine j_aload_n C0 (pc := 0) dX1_takeBack_0 rfl ?_
  refine j_iload_n C0 (pc := 1) dX1_takeBack_1 rfl ?_
  refine X_cV C0 (pc := 2) (e' := e_O) (as := [.int a1]) (rest := []) (s' := fun w => va_rf w :: []) (g' := (0, 0)) v_Book_69_1 (fun Ψ hΨ => K_X1_saidAt a0 a1 M Ψ hΨ) rfl rfl (fun _ => rfl) (by decide) (by decide) rfl (Nat.le_of_ble_eq_true rfl) dX1_takeBack_2 h (fun v1 M1 h => ?_)
  refine j_astore_nO C0 (pc := 5) dX1_takeBack_5 (Nat.le_of_ble_eq_true rfl) ?_
  show j_J X 3 6 [some (.ref a0), some (.int a1), some (va_rf v1)] [] (0, 0) M1
  refine j_aload_nO C0 (pc := 6) dX1_takeBack_6 rfl ?_
  rcases v1 with _ | v2
  · refine j_ifnonnullN C0 (pc := 7) dX1_takeBack_7 ?_
    simp only [x_nul] at h
    refine j_iconst C0 (pc := 10) dX1_takeBack_10 (v := (0 : Int32)) (by decide) ?_
    exact j_zret C rfl (by decide) h dX1_takeBack_11 (by decide)
  · refine j_ifnonnull C0 (pc := 7) (tgt := 12) dX1_takeBack_7 (by decide) ?_
    simp only [x_nul] at h
    refine j_aload_n C0 (pc := 12) dX1_takeBack_12 rfl ?_
    refine j_iload_n C0 (pc := 13) dX1_takeBack_13 rfl ?_
    refine X_cV C0 (pc := 14) (e' := e_V) (as := [.int a1]) (rest := []) (s' := fun _ => []) (g' := (0, 0)) v_Book_73_1 (fun Ψ hΨ => K_X1_removeSaid a0 a1 M1 Ψ hΨ) rfl rfl (fun _ => rfl) (by decide) (by decide) rfl (Nat.le_of_ble_eq_true rfl) dX1_takeBack_14 h (fun _ M2 h => ?_)
    refine j_aload_n C0 (pc := 17) dX1_takeBack_17 rfl ?_
    refine j_iconst C0 (pc := 18) dX1_takeBack_18 (v := (1 : Int32)) (by decide) ?_
    refine j_iload_n C0 (pc := 19) dX1_takeBack_19 rfl ?_
    refine j_aload_n C0 (pc := 20) dX1_takeBack_20 rfl ?_
    refine X_cV C0 (pc := 21) (e' := e_V) (as := [.int (1 : Int32), .int a1, .ref v2]) (rest := []) (s' := fun _ => []) (g' := (0, 0)) v_Book_65_1 (fun Ψ hΨ => K_X1_noteDeed a0 (1 : Int32) a1 v2 M2 Ψ hΨ) rfl rfl (fun _ => rfl) (by decide) (by decide) rfl (Nat.le_of_ble_eq_true rfl) dX1_takeBack_21 h (fun _ M3 h => ?_)
    refine j_iconst C0 (pc := 24) dX1_takeBack_24 (v := (1 : Int32)) (by decide) ?_
    exact j_zret C rfl (by decide) h dX1_takeBack_25 (by decide)
theorem dX11_unsay_0 : decode cX11_unsay 0 = .ok (.aload_n 0, 1) := by decide +kernel
theorem dX11_unsay_1 : decode cX11_unsay 1 = .ok (.getfield 65, 3) := by decide +kernel
theorem dX11_unsay_4 : decode cX11_unsay 4 = .ok (.iload_n 1, 1) := by decide +kernel
theorem dX11_unsay_5 : decode cX11_unsay 5 = .ok (.invokevirtual 144, 3) := by decide +kernel
theorem dX11_unsay_8 : decode cX11_unsay 8 = .ok (.ireturn, 1) := by decide +kernel
noncomputable def F_X11_unsay (a0 : Nat) (a1 : Int32) (M : m_M) : Option (Int32 × m_M) :=
  x_gN 9 M a0 9 fun v1 =>
  x_cV 1 M v1 (F_X1_takeBack v1 a1 M) fun v2 M1 =>
  x_b v2 <| some (v2, M1)
set_option maxHeartbeats 4000000 in
theorem K_X11_unsay (a0 : Nat) (a1 : Int32) (M : m_M) (Φ : Option Value → m_M → Prop) (h : m_ok e_I Φ (F_X11_unsay a0 a1 M)) : j_Ct yX11_unsay cX11_unsay 2 (some .boolean) 3 0 0 [.ref a0, .int a1] M Φ := by
  refine j_Ct.of (by decide +kernel) (Nat.le_of_ble_eq_true rfl) fun X C => ?_
  have C0 := C.1
  show j_J X 2 0 [some (.ref a0), some (.int a1)] [] (0, 0) M
  unfold F_X11_unsay at h
  refine j_aload_n C0 (pc := 0) dX11_unsay_0 rfl ?_
  refine X_gN C0 (pc := 1) f_OV_65_9 rfl dX11_unsay_1 h (fun v1 h => ?_)
  refine j_iload_n C0 (pc := 4) dX11_unsay_4 rfl ?_
  refine X_cV C0 (pc := 5) (e' := e_I) (as := [.int a1]) (rest := []) (s' := fun w => .int w :: []) (g' := (0, 0)) v_OV_144_1 (fun Ψ hΨ => K_X1_takeBack v1 a1 M Ψ hΨ) rfl rfl (fun _ => rfl) (by decide) (by decide) rfl (Nat.le_of_ble_eq_true rfl) dX11_unsay_5 h (fun v2 M1 h => ?_)
  exact j_zret C rfl (by rcases (X_gd h).1 with q | q <;> (rw [q]; rfl)) (X_gd h).2 dX11_unsay_8 (by decide)
theorem dX11_verb_0 : decode cX11_verb 0 = .ok (.aload_n 0, 1) := by decide +kernel
theorem dX11_verb_1 : decode cX11_verb 1 = .ok (.getfield 16, 3) := by decide +kernel
theorem dX11_verb_4 : decode cX11_verb 4 = .ok (.iload_n 1, 1) := by decide +kernel
theorem dX11_verb_5 : decode cX11_verb 5 = .ok (.invokevirtual 162, 3) := by decide +kernel
theorem dX11_verb_8 : decode cX11_verb 8 = .ok (.ireturn, 1) := by decide +kernel
noncomputable def F_X11_verb (a0 : Nat) (a1 : Int32) (M : m_M) : Option (Int32 × m_M) :=
  x_gN 9 M a0 2 fun v1 =>
  x_cV 3 M v1 (F_X3_verbOf v1 a1 M) fun v2 M1 =>
  some (v2, M1)
set_option maxHeartbeats 4000000 in
theorem K_X11_verb (a0 : Nat) (a1 : Int32) (M : m_M) (Φ : Option Value → m_M → Prop) (h : m_ok e_I Φ (F_X11_verb a0 a1 M)) : j_Ct yX11_verb cX11_verb 2 (some .int) 2 0 0 [.ref a0, .int a1] M Φ := by
  refine j_Ct.of (by decide +kernel) (Nat.le_of_ble_eq_true rfl) fun X C => ?_
  have C0 := C.1
  show j_J X 2 0 [some (.ref a0), some (.int a1)] [] (0, 0) M
  unfold F_X11_verb at h
  refine j_aload_n C0 (pc := 0) dX11_verb_0 rfl ?_
  refine X_gN C0 (pc := 1) f_OV_16_9 rfl dX11_verb_1 h (fun v1 h => ?_)
  refine j_iload_n C0 (pc := 4) dX11_verb_4 rfl ?_
  refine X_cV C0 (pc := 5) (e' := e_I) (as := [.int a1]) (rest := []) (s' := fun w => .int w :: []) (g' := (0, 0)) v_OV_162_3 (fun Ψ hΨ => K_X3_verbOf v1 a1 M Ψ hΨ) rfl rfl (fun _ => rfl) (by decide) (by decide) rfl (Nat.le_of_ble_eq_true rfl) dX11_verb_5 h (fun v2 M1 h => ?_)
  exact j_iret C rfl h dX11_verb_8 (by decide)
theorem dX11_worlds_0 : decode cX11_worlds 0 = .ok (.iload_n 1, 1) := by decide +kernel
theorem dX11_worlds_1 : decode cX11_worlds 1 = .ok (.lookupswitch 47 #[(0, 27), (1, 35)], 27) := by decide +kernel
theorem dX11_worlds_28 : decode cX11_worlds 28 = .ok (.aload_n 0, 1) := by decide +kernel
theorem dX11_worlds_29 : decode cX11_worlds 29 = .ok (.getfield 16, 3) := by decide +kernel
theorem dX11_worlds_32 : decode cX11_worlds 32 = .ok (.getfield 186, 3) := by decide +kernel
theorem dX11_worlds_35 : decode cX11_worlds 35 = .ok (.ireturn, 1) := by decide +kernel
theorem dX11_worlds_36 : decode cX11_worlds 36 = .ok (.aload_n 0, 1) := by decide +kernel
theorem dX11_worlds_37 : decode cX11_worlds 37 = .ok (.invokevirtual 189, 3) := by decide +kernel
theorem dX11_worlds_40 : decode cX11_worlds 40 = .ok (.aload_n 0, 1) := by decide +kernel
theorem dX11_worlds_41 : decode cX11_worlds 41 = .ok (.getfield 80, 3) := by decide +kernel
theorem dX11_worlds_44 : decode cX11_worlds 44 = .ok (.invokevirtual 174, 3) := by decide +kernel
theorem dX11_worlds_47 : decode cX11_worlds 47 = .ok (.ireturn, 1) := by decide +kernel
theorem dX11_worlds_48 : decode cX11_worlds 48 = .ok (.iconst (-1), 1) := by decide +kernel
theorem dX11_worlds_49 : decode cX11_worlds 49 = .ok (.ireturn, 1) := by decide +kernel
noncomputable def F_X11_worlds (a0 : Nat) (a1 : Int32) (M : m_M) : Option (Int32 × m_M) :=
  if a1 = (0 : Int32) then (
    x_gN 9 M a0 2 fun v1 =>
    x_gI 3 M v1 3 fun v2 =>
    some (v2, M)
  ) else
  if a1 = (1 : Int32) then (
    x_cV 9 M a0 (F_X11_findLeft a0 M) fun _ M1 =>
    x_gN 9 M1 a0 12 fun v3 =>
    x_cV 8 M1 v3 (F_X10_size v3 M1) fun v4 M2 =>
    some (v4, M2)
  ) else
  some ((-1 : Int32), M)
set_option maxHeartbeats 4000000 in
theorem K_X11_worlds (a0 : Nat) (a1 : Int32) (M : m_M) (Φ : Option Value → m_M → Prop) (h : m_ok e_I Φ (F_X11_worlds a0 a1 M)) : j_Ct yX11_worlds cX11_worlds 2 (some .int) 5 0 0 [.ref a0, .int a1] M Φ := by
  refine j_Ct.of (by decide +kernel) (Nat.le_of_ble_eq_true rfl) fun X C => ?_
  have C0 := C.1
  show j_J X 2 0 [some (.ref a0), some (.int a1)] [] (0, 0) M
  unfold F_X11_worlds at h
  refine j_iload_n C0 (pc := 0) dX11_worlds_0 rfl ?_
  by_cases hc : a1 = (0 : Int32)
  · replace h := (X_if h).1 hc
    refine j_lookup C0 (pc := 1) (off := 27) (tgt := 28) dX11_worlds_1 (by decide) (by rw [hc]; decide) (by decide) ?_
    refine j_aload_n C0 (pc := 28) dX11_worlds_28 rfl ?_
    refine X_gN C0 (pc := 29) f_OV_16_9 rfl dX11_worlds_29 h (fun v1 h => ?_)
    refine X_gI C0 (pc := 32) f_OV_186_3 rfl dX11_worlds_32 h (fun v2 h => ?_)
    exact j_iret C rfl h dX11_worlds_35 (by decide)
  · replace h := (X_if h).2 hc
    have hn0 : ¬ a1 = Int32.ofInt (0) := hc
    by_cases hc : a1 = (1 : Int32)
    · replace h := (X_if h).1 hc
      refine j_lookup C0 (pc := 1) (off := 35) (tgt := 36) dX11_worlds_1 (by decide) (by rw [hc]; decide) (by decide) ?_
      refine j_aload_n C0 (pc := 36) dX11_worlds_36 rfl ?_
      refine X_cV C0 (pc := 37) (e' := e_V) (as := []) (rest := []) (s' := fun _ => []) (g' := (0, 0)) v_OV_189_9 (fun Ψ hΨ => K_X11_findLeft a0 M Ψ hΨ) rfl rfl (fun _ => rfl) (by decide) (by decide) rfl (Nat.le_of_ble_eq_true rfl) dX11_worlds_37 h (fun _ M1 h => ?_)
      refine j_aload_n C0 (pc := 40) dX11_worlds_40 rfl ?_
      refine X_gN C0 (pc := 41) f_OV_80_9 rfl dX11_worlds_41 h (fun v3 h => ?_)
      refine X_cV C0 (pc := 44) (e' := e_I) (as := []) (rest := []) (s' := fun w => .int w :: []) (g' := (0, 0)) v_OV_174_8 (fun Ψ hΨ => K_X10_size v3 M1 Ψ hΨ) rfl rfl (fun _ => rfl) (by decide) (by decide) rfl (Nat.le_of_ble_eq_true rfl) dX11_worlds_44 h (fun v4 M2 h => ?_)
      exact j_iret C rfl h dX11_worlds_47 (by decide)
    · replace h := (X_if h).2 hc
      have hn1 : ¬ a1 = Int32.ofInt (1) := hc
      refine j_lookup C0 (pc := 1) (tgt := 48) dX11_worlds_1 (by decide) (m_lk2 (m_sw (k := 0) hn0) (m_sw (k := 1) hn1)) (by decide) ?_
      refine j_iconst C0 (pc := 48) dX11_worlds_48 (v := (-1 : Int32)) (by decide) ?_
      exact j_iret C rfl h dX11_worlds_49 (by decide)
theorem dX1_keepOrdersOf_0 : decode cX1_keepOrdersOf 0 = .ok (.iconst 0, 1) := by decide +kernel
theorem dX1_keepOrdersOf_1 : decode cX1_keepOrdersOf 1 = .ok (.istore_n 3, 1) := by decide +kernel
theorem dX1_keepOrdersOf_2 : decode cX1_keepOrdersOf 2 = .ok (.iload_n 3, 1) := by decide +kernel
theorem dX1_keepOrdersOf_3 : decode cX1_keepOrdersOf 3 = .ok (.aload_n 0, 1) := by decide +kernel
theorem dX1_keepOrdersOf_4 : decode cX1_keepOrdersOf 4 = .ok (.getfield 46, 3) := by decide +kernel
theorem dX1_keepOrdersOf_7 : decode cX1_keepOrdersOf 7 = .ok (.if_icmp .ge 39, 3) := by decide +kernel
theorem dX1_keepOrdersOf_10 : decode cX1_keepOrdersOf 10 = .ok (.aload_n 0, 1) := by decide +kernel
theorem dX1_keepOrdersOf_11 : decode cX1_keepOrdersOf 11 = .ok (.iload_n 3, 1) := by decide +kernel
theorem dX1_keepOrdersOf_12 : decode cX1_keepOrdersOf 12 = .ok (.invokevirtual 93, 3) := by decide +kernel
theorem dX1_keepOrdersOf_15 : decode cX1_keepOrdersOf 15 = .ok (.astore 4, 2) := by decide +kernel
theorem dX1_keepOrdersOf_17 : decode cX1_keepOrdersOf 17 = .ok (.aload 4, 2) := by decide +kernel
theorem dX1_keepOrdersOf_19 : decode cX1_keepOrdersOf 19 = .ok (.ifnull 21, 3) := by decide +kernel
theorem dX1_keepOrdersOf_22 : decode cX1_keepOrdersOf 22 = .ok (.aload 4, 2) := by decide +kernel
theorem dX1_keepOrdersOf_24 : decode cX1_keepOrdersOf 24 = .ok (.getfield 96, 3) := by decide +kernel
theorem dX1_keepOrdersOf_27 : decode cX1_keepOrdersOf 27 = .ok (.iload_n 1, 1) := by decide +kernel
theorem dX1_keepOrdersOf_28 : decode cX1_keepOrdersOf 28 = .ok (.if_icmp .ne 12, 3) := by decide +kernel
theorem dX1_keepOrdersOf_31 : decode cX1_keepOrdersOf 31 = .ok (.aload_n 2, 1) := by decide +kernel
theorem dX1_keepOrdersOf_32 : decode cX1_keepOrdersOf 32 = .ok (.aload 4, 2) := by decide +kernel
theorem dX1_keepOrdersOf_34 : decode cX1_keepOrdersOf 34 = .ok (.getfield 89, 3) := by decide +kernel
theorem dX1_keepOrdersOf_37 : decode cX1_keepOrdersOf 37 = .ok (.invokevirtual 97, 3) := by decide +kernel
theorem dX1_keepOrdersOf_40 : decode cX1_keepOrdersOf 40 = .ok (.iinc 3 1, 3) := by decide +kernel
theorem dX1_keepOrdersOf_43 : decode cX1_keepOrdersOf 43 = .ok (.goto (-41), 3) := by decide +kernel
theorem dX1_keepOrdersOf_46 : decode cX1_keepOrdersOf 46 = .ok (.return_, 1) := by decide +kernel
noncomputable def F_X1_keepOrdersOf_2 : Nat → Nat → Int32 → Nat → Int32 → m_M → Option (Unit × m_M)
  | 0, _, _, _, _, _ => none
  | n + 1, v1, v2, v3, v4, M =>
    x_gI 1 M v1 2 fun v5 =>
    if v5 ≤ v4 then (
      some ((), M)
    ) else
    m_let (fun (v6 : Nat) (v7 : Int32) (v8 : Nat) (v9 : Int32) (M1 : m_M) =>
      m_let (v9 + (1 : Int32)) fun v10 =>
      F_X1_keepOrdersOf_2 n v6 v7 v8 v10 M1
    ) fun (k40 : Nat → Int32 → Nat → Int32 → m_M → Option (Unit × m_M)) =>
    x_cV 1 M v1 (F_X1_orderAt v1 v4 M) fun v11 M2 =>
    x_nul v11 (
      k40 v1 v2 v3 v4 M2
    ) fun v12 =>
    x_gI 6 M2 v12 2 fun v13 =>
    if v13 = v2 then (
      x_gN 6 M2 v12 3 fun v14 =>
      x_cV 8 M2 v3 (F_X10_keep v3 v14 M2) fun _ M3 =>
      k40 v1 v2 v3 v4 M3
    ) else
    k40 v1 v2 v3 v4 M2
noncomputable def F_X1_keepOrdersOf (a0 : Nat) (a1 : Int32) (a2 : Nat) (M : m_M) : Option (Unit × m_M) :=
  F_X1_keepOrdersOf_2 m_FU a0 a1 a2 (0 : Int32) M
set_option maxHeartbeats 4000000 in
theorem L_X1_keepOrdersOf_2 {X : j_X} {Φ : Option Value → m_M → Prop} (C : j_C X yX1_keepOrdersOf cX1_keepOrdersOf 5 none 2 0 0 Φ) : ∀ (n : Nat) (v1 : Nat) (v2 : Int32) (v3 : Nat) (v4 : Int32) (M : m_M), m_ok e_V Φ (F_X1_keepOrdersOf_2 n v1 v2 v3 v4 M) → j_J X 5 2 [some (.ref v1), some (.int v2), some (.ref v3), some (.int v4), none] [] (0, 0) M := by
  have C0 := C.1
  intro n
  induction n with
  | zero => intro v1 v2 v3 v4 M h; exact False.elim h
  | succ n ih =>
    intro v1 v2 v3 v4 M h
    rw [F_X1_keepOrdersOf_2] at h
    refine j_iload_n C0 (pc := 2) dX1_keepOrdersOf_2 rfl ?_
    refine j_aload_n C0 (pc := 3) dX1_keepOrdersOf_3 rfl ?_
    refine X_gI C0 (pc := 4) f_Book_46_1 rfl dX1_keepOrdersOf_4 h (fun v5 h => ?_)
    refine j_icmp_ge C0 (pc := 7) (tgt := 46) dX1_keepOrdersOf_7 (by decide) (fun hc => ?_) (fun hc => ?_)
    · replace h := (X_if h).1 hc
      exact j_vret C rfl h dX1_keepOrdersOf_46 (by decide)
    · replace h := (X_if h).2 hc
      refine X_join (fun (kj : Nat → Int32 → Nat → Int32 → m_M → Option (Unit × m_M)) => ∀ (p0 : Nat) (p1 : Int32) (p2 : Nat) (p3 : Int32) (M : m_M), m_ok e_V Φ (kj p0 p1 p2 p3 M) → j_J X 5 40 [some (.ref p0), some (.int p1), some (.ref p2), some (.int p3), none] [] (0, 0) M) h (fun v6 v7 v8 v9 M1 h => ?_) (fun k40 hk40 h => ?_)
      · refine j_iinc C0 (pc := 40) dX1_keepOrdersOf_40 (v := v9 + (1 : Int32)) rfl (Nat.le_of_ble_eq_true rfl) (by rfl) ?_
        refine X_let (G := fun w => j_J X 5 43 [some (.ref v6), some (.int v7), some (.ref v8), some (.int w), none] [] (0, 0) M1) h (fun v10 h => ?_)
        refine j_goto C0 (pc := 43) (tgt := 2) dX1_keepOrdersOf_43 (by decide) ?_
        exact j_J.wq (ih v6 v7 v8 v10 M1 h) (And.intro rfl (And.intro rfl (And.intro rfl (And.intro rfl (trivial)))))
      · refine j_aload_n C0 (pc := 10) dX1_keepOrdersOf_10 rfl ?_
        refine j_iload_n C0 (pc := 11) dX1_keepOrdersOf_11 rfl ?_
        refine X_cV C0 (pc := 12) (e' := e_O) (as := [.int v4]) (rest := []) (s' := fun w => va_rf w :: []) (g' := (0, 0)) v_Book_93_1 (fun Ψ hΨ => K_X1_orderAt v1 v4 M Ψ hΨ) rfl rfl (fun _ => rfl) (by decide) (by decide) rfl (Nat.le_of_ble_eq_true rfl) dX1_keepOrdersOf_12 h (fun v11 M2 h => ?_)
        refine j_astoreO C0 (pc := 15) dX1_keepOrdersOf_15 (Nat.le_of_ble_eq_true rfl) ?_
        show j_J X 5 17 [some (.ref v1), some (.int v2), some (.ref v3), some (.int v4), some (va_rf v11)] [] (0, 0) M2
        refine j_aloadO C0 (pc := 17) dX1_keepOrdersOf_17 rfl ?_
        rcases v11 with _ | v12
        · refine j_ifnullN C0 (pc := 19) (tgt := 40) dX1_keepOrdersOf_19 (by decide) ?_
          simp only [x_nul] at h
          exact j_J.wq (hk40 v1 v2 v3 v4 M2 h) (And.intro rfl (And.intro rfl (And.intro rfl (And.intro rfl (trivial)))))
        · refine j_ifnull C0 (pc := 19) dX1_keepOrdersOf_19 ?_
          simp only [x_nul] at h
          refine j_aload C0 (pc := 22) dX1_keepOrdersOf_22 rfl ?_
          refine X_gI C0 (pc := 24) f_Book_96_6 rfl dX1_keepOrdersOf_24 h (fun v13 h => ?_)
          refine j_iload_n C0 (pc := 27) dX1_keepOrdersOf_27 rfl ?_
          refine j_icmp_ne C0 (pc := 28) (tgt := 40) dX1_keepOrdersOf_28 (by decide) (fun hc => ?_) (fun hc => ?_)
          · replace h := (X_if h).2 hc
            exact j_J.wq (hk40 v1 v2 v3 v4 M2 h) (And.intro rfl (And.intro rfl (And.intro rfl (And.intro rfl (trivial)))))
          · replace h := (X_if h).1 hc
            refine j_aload_n C0 (pc := 31) dX1_keepOrdersOf_31 rfl ?_
            refine j_aload C0 (pc := 32) dX1_keepOrdersOf_32 rfl ?_
            refine X_gN C0 (pc := 34) f_Book_89_6 rfl dX1_keepOrdersOf_34 h (fun v14 h => ?_)
            refine X_cV C0 (pc := 37) (e' := e_V) (as := [.ref v14]) (rest := []) (s' := fun _ => []) (g' := (0, 0)) v_Book_97_8 (fun Ψ hΨ => K_X10_keep v3 v14 M2 Ψ hΨ) rfl rfl (fun _ => rfl) (by decide) (by decide) rfl (Nat.le_of_ble_eq_true rfl) dX1_keepOrdersOf_37 h (fun _ M3 h => ?_)
            exact j_J.wq (hk40 v1 v2 v3 v4 M3 h) (And.intro rfl (And.intro rfl (And.intro rfl (And.intro rfl (trivial)))))
set_option maxHeartbeats 4000000 in
theorem K_X1_keepOrdersOf (a0 : Nat) (a1 : Int32) (a2 : Nat) (M : m_M) (Φ : Option Value → m_M → Prop) (h : m_ok e_V Φ (F_X1_keepOrdersOf a0 a1 a2 M)) : j_Ct yX1_keepOrdersOf cX1_keepOrdersOf 5 none 2 0 0 [.ref a0, .int a1, .ref a2] M Φ := by
  refine j_Ct.of (by decide +kernel) (Nat.le_of_ble_eq_true rfl) fun X C => ?_
  have C0 := C.1
  show j_J X 5 0 [some (.ref a0), some (.int a1), some (.ref a2), none, none] [] (0, 0) M
  unfold F_X1_keepOrdersOf at h
  refine j_iconst C0 (pc := 0) dX1_keepOrdersOf_0 (v := (0 : Int32)) (by decide) ?_
  refine j_istore_n C0 (pc := 1) dX1_keepOrdersOf_1 (Nat.le_of_ble_eq_true rfl) ?_
  show j_J X 5 2 [some (.ref a0), some (.int a1), some (.ref a2), some (.int (0 : Int32)), none] [] (0, 0) M
  exact j_J.wq (L_X1_keepOrdersOf_2 C m_FU a0 a1 a2 (0 : Int32) M h) (And.intro rfl (And.intro rfl (And.intro rfl (And.intro rfl (trivial)))))
theorem dX11_year_0 : decode cX11_year 0 = .ok (.iload_n 1, 1) := by decide +kernel
theorem dX11_year_1 : decode cX11_year 1 = .ok (.ifCond .lt 34, 3) := by decide +kernel
theorem dX11_year_4 : decode cX11_year 4 = .ok (.iload_n 1, 1) := by decide +kernel
theorem dX11_year_5 : decode cX11_year 5 = .ok (.sipush 9999, 3) := by decide +kernel
theorem dX11_year_8 : decode cX11_year 8 = .ok (.if_icmp .gt 27, 3) := by decide +kernel
theorem dX11_year_11 : decode cX11_year 11 = .ok (.iload_n 2, 1) := by decide +kernel
theorem dX11_year_12 : decode cX11_year 12 = .ok (.iconst 1, 1) := by decide +kernel
theorem dX11_year_13 : decode cX11_year 13 = .ok (.if_icmp .lt 22, 3) := by decide +kernel
theorem dX11_year_16 : decode cX11_year 16 = .ok (.iload_n 2, 1) := by decide +kernel
theorem dX11_year_17 : decode cX11_year 17 = .ok (.bipush 60, 2) := by decide +kernel
theorem dX11_year_19 : decode cX11_year 19 = .ok (.if_icmp .gt 16, 3) := by decide +kernel
theorem dX11_year_22 : decode cX11_year 22 = .ok (.iload_n 3, 1) := by decide +kernel
theorem dX11_year_23 : decode cX11_year 23 = .ok (.ifCond .lt 12, 3) := by decide +kernel
theorem dX11_year_26 : decode cX11_year 26 = .ok (.iload_n 3, 1) := by decide +kernel
theorem dX11_year_27 : decode cX11_year 27 = .ok (.iconst 2, 1) := by decide +kernel
theorem dX11_year_28 : decode cX11_year 28 = .ok (.if_icmp .gt 7, 3) := by decide +kernel
theorem dX11_year_31 : decode cX11_year 31 = .ok (.iconst 1, 1) := by decide +kernel
theorem dX11_year_32 : decode cX11_year 32 = .ok (.goto 4, 3) := by decide +kernel
theorem dX11_year_35 : decode cX11_year 35 = .ok (.iconst 0, 1) := by decide +kernel
theorem dX11_year_36 : decode cX11_year 36 = .ok (.istore 4, 2) := by decide +kernel
theorem dX11_year_38 : decode cX11_year 38 = .ok (.iload 4, 2) := by decide +kernel
theorem dX11_year_40 : decode cX11_year 40 = .ok (.ifCond .eq 27, 3) := by decide +kernel
theorem dX11_year_43 : decode cX11_year 43 = .ok (.aload_n 0, 1) := by decide +kernel
theorem dX11_year_44 : decode cX11_year 44 = .ok (.getfield 16, 3) := by decide +kernel
theorem dX11_year_47 : decode cX11_year 47 = .ok (.getfield 279, 3) := by decide +kernel
theorem dX11_year_50 : decode cX11_year 50 = .ok (.iconst 2, 1) := by decide +kernel
theorem dX11_year_51 : decode cX11_year 51 = .ok (.iaload, 1) := by decide +kernel
theorem dX11_year_52 : decode cX11_year 52 = .ok (.ifCond .eq 15, 3) := by decide +kernel
theorem dX11_year_55 : decode cX11_year 55 = .ok (.aload_n 0, 1) := by decide +kernel
theorem dX11_year_56 : decode cX11_year 56 = .ok (.getfield 16, 3) := by decide +kernel
theorem dX11_year_59 : decode cX11_year 59 = .ok (.getfield 279, 3) := by decide +kernel
theorem dX11_year_62 : decode cX11_year 62 = .ok (.iconst 0, 1) := by decide +kernel
theorem dX11_year_63 : decode cX11_year 63 = .ok (.iaload, 1) := by decide +kernel
theorem dX11_year_64 : decode cX11_year 64 = .ok (.ifCond .ne 5, 3) := by decide +kernel
theorem dX11_year_67 : decode cX11_year 67 = .ok (.iconst (-1), 1) := by decide +kernel
theorem dX11_year_68 : decode cX11_year 68 = .ok (.ireturn, 1) := by decide +kernel
theorem dX11_year_69 : decode cX11_year 69 = .ok (.aload_n 0, 1) := by decide +kernel
theorem dX11_year_70 : decode cX11_year 70 = .ok (.iload_n 1, 1) := by decide +kernel
theorem dX11_year_71 : decode cX11_year 71 = .ok (.i2l, 1) := by decide +kernel
theorem dX11_year_72 : decode cX11_year 72 = .ok (.putfield 308, 3) := by decide +kernel
theorem dX11_year_75 : decode cX11_year 75 = .ok (.aload_n 0, 1) := by decide +kernel
theorem dX11_year_76 : decode cX11_year 76 = .ok (.invokevirtual 189, 3) := by decide +kernel
theorem dX11_year_79 : decode cX11_year 79 = .ok (.iconst 0, 1) := by decide +kernel
theorem dX11_year_80 : decode cX11_year 80 = .ok (.istore 5, 2) := by decide +kernel
theorem dX11_year_82 : decode cX11_year 82 = .ok (.iconst 0, 1) := by decide +kernel
theorem dX11_year_83 : decode cX11_year 83 = .ok (.istore 6, 2) := by decide +kernel
theorem dX11_year_85 : decode cX11_year 85 = .ok (.iconst 0, 1) := by decide +kernel
theorem dX11_year_86 : decode cX11_year 86 = .ok (.istore 7, 2) := by decide +kernel
theorem dX11_year_88 : decode cX11_year 88 = .ok (.iload 7, 2) := by decide +kernel
theorem dX11_year_90 : decode cX11_year 90 = .ok (.iload_n 2, 1) := by decide +kernel
theorem dX11_year_91 : decode cX11_year 91 = .ok (.if_icmp .ge 72, 3) := by decide +kernel
theorem dX11_year_94 : decode cX11_year 94 = .ok (.aload_n 0, 1) := by decide +kernel
theorem dX11_year_95 : decode cX11_year 95 = .ok (.aload_n 0, 1) := by decide +kernel
theorem dX11_year_96 : decode cX11_year 96 = .ok (.getfield 65, 3) := by decide +kernel
theorem dX11_year_99 : decode cX11_year 99 = .ok (.getfield 119, 3) := by decide +kernel
theorem dX11_year_102 : decode cX11_year 102 = .ok (.iload 7, 2) := by decide +kernel
theorem dX11_year_104 : decode cX11_year 104 = .ok (.iadd, 1) := by decide +kernel
theorem dX11_year_105 : decode cX11_year 105 = .ok (.invokevirtual 312, 3) := by decide +kernel
theorem dX11_year_108 : decode cX11_year 108 = .ok (.istore 8, 2) := by decide +kernel
theorem dX11_year_110 : decode cX11_year 110 = .ok (.iload 8, 2) := by decide +kernel
theorem dX11_year_112 : decode cX11_year 112 = .ok (.iconst (-1), 1) := by decide +kernel
theorem dX11_year_113 : decode cX11_year 113 = .ok (.if_icmp .ne 9, 3) := by decide +kernel
theorem dX11_year_116 : decode cX11_year 116 = .ok (.iinc 6 1, 3) := by decide +kernel
theorem dX11_year_119 : decode cX11_year 119 = .ok (.goto 15, 3) := by decide +kernel
theorem dX11_year_122 : decode cX11_year 122 = .ok (.aload_n 0, 1) := by decide +kernel
theorem dX11_year_123 : decode cX11_year 123 = .ok (.iload 8, 2) := by decide +kernel
theorem dX11_year_125 : decode cX11_year 125 = .ok (.invokevirtual 315, 3) := by decide +kernel
theorem dX11_year_128 : decode cX11_year 128 = .ok (.ifCond .eq 6, 3) := by decide +kernel
theorem dX11_year_131 : decode cX11_year 131 = .ok (.iinc 5 1, 3) := by decide +kernel
theorem dX11_year_134 : decode cX11_year 134 = .ok (.aload_n 0, 1) := by decide +kernel
theorem dX11_year_135 : decode cX11_year 135 = .ok (.getfield 65, 3) := by decide +kernel
theorem dX11_year_138 : decode cX11_year 138 = .ok (.aload_n 0, 1) := by decide +kernel
theorem dX11_year_139 : decode cX11_year 139 = .ok (.getfield 65, 3) := by decide +kernel
theorem dX11_year_142 : decode cX11_year 142 = .ok (.getfield 119, 3) := by decide +kernel
theorem dX11_year_145 : decode cX11_year 145 = .ok (.iload 7, 2) := by decide +kernel
theorem dX11_year_147 : decode cX11_year 147 = .ok (.iadd, 1) := by decide +kernel
theorem dX11_year_148 : decode cX11_year 148 = .ok (.iconst 1, 1) := by decide +kernel
theorem dX11_year_149 : decode cX11_year 149 = .ok (.iadd, 1) := by decide +kernel
theorem dX11_year_150 : decode cX11_year 150 = .ok (.aload_n 0, 1) := by decide +kernel
theorem dX11_year_151 : decode cX11_year 151 = .ok (.getfield 80, 3) := by decide +kernel
theorem dX11_year_154 : decode cX11_year 154 = .ok (.invokevirtual 318, 3) := by decide +kernel
theorem dX11_year_157 : decode cX11_year 157 = .ok (.iinc 7 1, 3) := by decide +kernel
theorem dX11_year_160 : decode cX11_year 160 = .ok (.goto (-72), 3) := by decide +kernel
theorem dX11_year_163 : decode cX11_year 163 = .ok (.iload_n 3, 1) := by decide +kernel
theorem dX11_year_164 : decode cX11_year 164 = .ok (.lookupswitch 34 #[(0, 28), (1, 31)], 28) := by decide +kernel
theorem dX11_year_192 : decode cX11_year 192 = .ok (.iload 5, 2) := by decide +kernel
theorem dX11_year_194 : decode cX11_year 194 = .ok (.ireturn, 1) := by decide +kernel
theorem dX11_year_195 : decode cX11_year 195 = .ok (.iload 6, 2) := by decide +kernel
theorem dX11_year_197 : decode cX11_year 197 = .ok (.ireturn, 1) := by decide +kernel
theorem dX11_year_198 : decode cX11_year 198 = .ok (.aload_n 0, 1) := by decide +kernel
theorem dX11_year_199 : decode cX11_year 199 = .ok (.getfield 80, 3) := by decide +kernel
theorem dX11_year_202 : decode cX11_year 202 = .ok (.invokevirtual 174, 3) := by decide +kernel
theorem dX11_year_205 : decode cX11_year 205 = .ok (.ireturn, 1) := by decide +kernel
noncomputable def F_X11_year_88 (k163 : Nat → Int32 → Int32 → Int32 → m_M → Option (Int32 × m_M)) : Nat → Nat → Int32 → Int32 → Int32 → Int32 → Int32 → m_M → Option (Int32 × m_M)
  | 0, _, _, _, _, _, _, _ => none
  | n + 1, v1, v2, v3, v4, v5, v6, M =>
    if v2 ≤ v6 then (
      k163 v1 v3 v4 v5 M
    ) else
    m_let (fun (v7 : Nat) (v8 : Int32) (v9 : Int32) (v10 : Int32) (v11 : Int32) (v12 : Int32) (M1 : m_M) =>
      x_gN 9 M1 v7 9 fun v13 =>
      x_gN 9 M1 v7 9 fun v14 =>
      x_gI 1 M1 v14 0 fun v15 =>
      x_gN 9 M1 v7 12 fun v16 =>
      x_cV 1 M1 v13 (F_X1_keepOrdersOf v13 ((v15 + v12) + (1 : Int32)) v16 M1) fun _ M2 =>
      m_let (v12 + (1 : Int32)) fun v17 =>
      F_X11_year_88 k163 n v7 v8 v9 v10 v11 v17 M2
    ) fun (k134 : Nat → Int32 → Int32 → Int32 → Int32 → Int32 → m_M → Option (Int32 × m_M)) =>
    x_gN 9 M v1 9 fun v18 =>
    x_gI 1 M v18 0 fun v19 =>
    x_cV 9 M v1 (F_X11_drawVerb v1 (v19 + v6) M) fun v20 M3 =>
    if v20 = (-1 : Int32) then (
      m_let (v5 + (1 : Int32)) fun v23 =>
      k134 v1 v2 v3 v4 v23 v6 M3
    ) else
    x_cV 9 M3 v1 (F_X11_drawClause v1 v20 M3) fun v21 M4 =>
    if v21 = 0 then (
      k134 v1 v2 v3 v4 v5 v6 M4
    ) else
    m_let (v4 + (1 : Int32)) fun v22 =>
    k134 v1 v2 v3 v22 v5 v6 M4
noncomputable def F_X11_year (a0 : Nat) (a1 : Int32) (a2 : Int32) (a3 : Int32) (M : m_M) : Option (Int32 × m_M) :=
  m_let (fun (v1 : Nat) (v2 : Int32) (v3 : Int32) (v4 : Int32) (v5 : Int32) (M1 : m_M) =>
    if v5 = 0 then (
      some ((-1 : Int32), M1)
    ) else
    x_gN 9 M1 v1 2 fun v6 =>
    x_gN 3 M1 v6 6 fun v7 =>
    x_aI 12 M1 v7 (2 : Int32) fun v8 =>
    if v8 = 0 then (
      some ((-1 : Int32), M1)
    ) else
    x_gN 9 M1 v1 2 fun v9 =>
    x_gN 3 M1 v9 6 fun v10 =>
    x_aI 12 M1 v10 (0 : Int32) fun v11 =>
    if v11 = 0 then (
      some ((-1 : Int32), M1)
    ) else
    x_pL 9 M1 v1 15 v2.toInt64 fun M2 =>
    x_cV 9 M2 v1 (F_X11_findLeft v1 M2) fun _ M3 =>
    m_let (fun (v12 : Nat) (v13 : Int32) (v14 : Int32) (v15 : Int32) (M4 : m_M) =>
      if v13 = (0 : Int32) then (
        some (v14, M4)
      ) else
      if v13 = (1 : Int32) then (
        some (v15, M4)
      ) else
      x_gN 9 M4 v12 12 fun v16 =>
      x_cV 8 M4 v16 (F_X10_size v16 M4) fun v17 M5 =>
      some (v17, M5)
    ) fun (k163 : Nat → Int32 → Int32 → Int32 → m_M → Option (Int32 × m_M)) =>
    F_X11_year_88 k163 m_FU v1 v3 v4 (0 : Int32) (0 : Int32) (0 : Int32) M3
  ) fun (k36 : Nat → Int32 → Int32 → Int32 → Int32 → m_M → Option (Int32 × m_M)) =>
  m_let (fun (v18 : Nat) (v19 : Int32) (v20 : Int32) (v21 : Int32) (M6 : m_M) =>
    k36 v18 v19 v20 v21 (0 : Int32) M6
  ) fun (k35 : Nat → Int32 → Int32 → Int32 → m_M → Option (Int32 × m_M)) =>
  if a1 < 0 then (
    k35 a0 a1 a2 a3 M
  ) else
  if (9999 : Int32) < a1 then (
    k35 a0 a1 a2 a3 M
  ) else
  if a2 < (1 : Int32) then (
    k35 a0 a1 a2 a3 M
  ) else
  if (60 : Int32) < a2 then (
    k35 a0 a1 a2 a3 M
  ) else
  if a3 < 0 then (
    k35 a0 a1 a2 a3 M
  ) else
  if (2 : Int32) < a3 then (
    k35 a0 a1 a2 a3 M
  ) else
  k36 a0 a1 a2 a3 (1 : Int32) M
set_option maxHeartbeats 4000000 in
theorem L_X11_year_88 {X : j_X} {Φ : Option Value → m_M → Prop} (C : j_C X yX11_year cX11_year 9 (some .int) 7 0 0 Φ) {k163 : Nat → Int32 → Int32 → Int32 → m_M → Option (Int32 × m_M)} (hk163 : ∀ (p0 : Nat) (p1 : Int32) (p2 : Int32) (p3 : Int32) (M : m_M), m_ok e_I Φ (k163 p0 p1 p2 p3 M) → j_J X 9 163 [some (.ref p0), none, none, some (.int p1), none, some (.int p2), some (.int p3), none, none] [] (0, 0) M) : ∀ (n : Nat) (v1 : Nat) (v2 : Int32) (v3 : Int32) (v4 : Int32) (v5 : Int32) (v6 : Int32) (M : m_M), m_ok e_I Φ (F_X11_year_88 k163 n v1 v2 v3 v4 v5 v6 M) → j_J X 9 88 [some (.ref v1), none, some (.int v2), some (.int v3), none, some (.int v4), some (.int v5), some (.int v6), none] [] (0, 0) M := by
  have C0 := C.1
  intro n
  induction n with
  | zero => intro v1 v2 v3 v4 v5 v6 M h; exact False.elim h
  | succ n ih =>
    intro v1 v2 v3 v4 v5 v6 M h
    rw [F_X11_year_88] at h
    refine j_iload C0 (pc := 88) dX11_year_88 rfl ?_
    refine j_iload_n C0 (pc := 90) dX11_year_90 rfl ?_
    refine j_icmp_ge C0 (pc := 91) (tgt := 163) dX11_year_91 (by decide) (fun hc => ?_) (fun hc => ?_)
    · replace h := (X_if h).1 hc
      exact j_J.wq (hk163 v1 v3 v4 v5 M h) (And.intro rfl (And.intro rfl (And.intro rfl (And.intro rfl (trivial)))))
    · replace h := (X_if h).2 hc
      refine X_join (fun (kj : Nat → Int32 → Int32 → Int32 → Int32 → Int32 → m_M → Option (Int32 × m_M)) => ∀ (p0 : Nat) (p1 : Int32) (p2 : Int32) (p3 : Int32) (p4 : Int32) (p5 : Int32) (M : m_M), m_ok e_I Φ (kj p0 p1 p2 p3 p4 p5 M) → j_J X 9 134 [some (.ref p0), none, some (.int p1), some (.int p2), none, some (.int p3), some (.int p4), some (.int p5), none] [] (0, 0) M) h (fun v7 v8 v9 v10 v11 v12 M1 h => ?_) (fun k134 hk134 h => ?_)
      · refine j_aload_n C0 (pc := 134) dX11_year_134 rfl ?_
        refine X_gN C0 (pc := 135) f_OV_65_9 rfl dX11_year_135 h (fun v13 h => ?_)
        refine j_aload_n C0 (pc := 138) dX11_year_138 rfl ?_
        refine X_gN C0 (pc := 139) f_OV_65_9 rfl dX11_year_139 h (fun v14 h => ?_)
        refine X_gI C0 (pc := 142) f_OV_119_1 rfl dX11_year_142 h (fun v15 h => ?_)
        refine j_iload C0 (pc := 145) dX11_year_145 rfl ?_
        refine j_iadd C0 (pc := 147) dX11_year_147 ?_
        refine j_iconst C0 (pc := 148) dX11_year_148 (v := (1 : Int32)) (by decide) ?_
        refine j_iadd C0 (pc := 149) dX11_year_149 ?_
        refine j_aload_n C0 (pc := 150) dX11_year_150 rfl ?_
        refine X_gN C0 (pc := 151) f_OV_80_9 rfl dX11_year_151 h (fun v16 h => ?_)
        refine X_cV C0 (pc := 154) (e' := e_V) (as := [.int ((v15 + v12) + (1 : Int32)), .ref v16]) (rest := []) (s' := fun _ => []) (g' := (0, 0)) v_OV_318_1 (fun Ψ hΨ => K_X1_keepOrdersOf v13 ((v15 + v12) + (1 : Int32)) v16 M1 Ψ hΨ) rfl rfl (fun _ => rfl) (by decide) (by decide) rfl (Nat.le_of_ble_eq_true rfl) dX11_year_154 h (fun _ M2 h => ?_)
        refine j_iinc C0 (pc := 157) dX11_year_157 (v := v12 + (1 : Int32)) rfl (Nat.le_of_ble_eq_true rfl) (by rfl) ?_
        refine X_let (G := fun w => j_J X 9 160 [some (.ref v7), none, some (.int v8), some (.int v9), none, some (.int v10), some (.int v11), some (.int w), none] [] (0, 0) M2) h (fun v17 h => ?_)
        refine j_goto C0 (pc := 160) (tgt := 88) dX11_year_160 (by decide) ?_
        exact j_J.wq (ih v7 v8 v9 v10 v11 v17 M2 h) (And.intro rfl (And.intro rfl (And.intro rfl (And.intro rfl (And.intro rfl (And.intro rfl (trivial)))))))
      · refine j_aload_n C0 (pc := 94) dX11_year_94 rfl ?_
        refine j_aload_n C0 (pc := 95) dX11_year_95 rfl ?_
        refine X_gN C0 (pc := 96) f_OV_65_9 rfl dX11_year_96 h (fun v18 h => ?_)
        refine X_gI C0 (pc := 99) f_OV_119_1 rfl dX11_year_99 h (fun v19 h => ?_)
        refine j_iload C0 (pc := 102) dX11_year_102 rfl ?_
        refine j_iadd C0 (pc := 104) dX11_year_104 ?_
        refine X_cV C0 (pc := 105) (e' := e_I) (as := [.int (v19 + v6)]) (rest := []) (s' := fun w => .int w :: []) (g' := (0, 0)) v_OV_312_9 (fun Ψ hΨ => K_X11_drawVerb v1 (v19 + v6) M Ψ hΨ) rfl rfl (fun _ => rfl) (by decide) (by decide) rfl (Nat.le_of_ble_eq_true rfl) dX11_year_105 h (fun v20 M3 h => ?_)
        refine j_istore C0 (pc := 108) dX11_year_108 (Nat.le_of_ble_eq_true rfl) ?_
        show j_J X 9 110 [some (.ref v1), none, some (.int v2), some (.int v3), none, some (.int v4), some (.int v5), some (.int v6), some (.int v20)] [] (0, 0) M3
        refine j_iload C0 (pc := 110) dX11_year_110 rfl ?_
        refine j_iconst C0 (pc := 112) dX11_year_112 (v := (-1 : Int32)) (by decide) ?_
        refine j_icmp_ne C0 (pc := 113) (tgt := 122) dX11_year_113 (by decide) (fun hc => ?_) (fun hc => ?_)
        · replace h := (X_if h).2 hc
          refine j_aload_n C0 (pc := 122) dX11_year_122 rfl ?_
          refine j_iload C0 (pc := 123) dX11_year_123 rfl ?_
          refine X_cV C0 (pc := 125) (e' := e_I) (as := [.int v20]) (rest := []) (s' := fun w => .int w :: []) (g' := (0, 0)) v_OV_315_9 (fun Ψ hΨ => K_X11_drawClause v1 v20 M3 Ψ hΨ) rfl rfl (fun _ => rfl) (by decide) (by decide) rfl (Nat.le_of_ble_eq_true rfl) dX11_year_125 h (fun v21 M4 h => ?_)
          refine j_if_eq C0 (pc := 128) (tgt := 134) dX11_year_128 (by decide) (fun hc => ?_) (fun hc => ?_)
          · replace h := (X_if h).1 hc
            exact j_J.wq (hk134 v1 v2 v3 v4 v5 v6 M4 h) (And.intro rfl (And.intro rfl (And.intro rfl (And.intro rfl (And.intro rfl (And.intro rfl (trivial)))))))
          · replace h := (X_if h).2 hc
            refine j_iinc C0 (pc := 131) dX11_year_131 (v := v4 + (1 : Int32)) rfl (Nat.le_of_ble_eq_true rfl) (by rfl) ?_
            refine X_let (G := fun w => j_J X 9 134 [some (.ref v1), none, some (.int v2), some (.int v3), none, some (.int w), some (.int v5), some (.int v6), some (.int v20)] [] (0, 0) M4) h (fun v22 h => ?_)
            exact j_J.wq (hk134 v1 v2 v3 v22 v5 v6 M4 h) (And.intro rfl (And.intro rfl (And.intro rfl (And.intro rfl (And.intro rfl (And.intro rfl (trivial)))))))
        · replace h := (X_if h).1 hc
          refine j_iinc C0 (pc := 116) dX11_year_116 (v := v5 + (1 : Int32)) rfl (Nat.le_of_ble_eq_true rfl) (by rfl) ?_
          refine X_let (G := fun w => j_J X 9 119 [some (.ref v1), none, some (.int v2), some (.int v3), none, some (.int v4), some (.int w), some (.int v6), some (.int v20)] [] (0, 0) M3) h (fun v23 h => ?_)
          refine j_goto C0 (pc := 119) (tgt := 134) dX11_year_119 (by decide) ?_
          exact j_J.wq (hk134 v1 v2 v3 v4 v23 v6 M3 h) (And.intro rfl (And.intro rfl (And.intro rfl (And.intro rfl (And.intro rfl (And.intro rfl (trivial)))))))
set_option maxHeartbeats 4000000 in
theorem K_X11_year (a0 : Nat) (a1 : Int32) (a2 : Int32) (a3 : Int32) (M : m_M) (Φ : Option Value → m_M → Prop) (h : m_ok e_I Φ (F_X11_year a0 a1 a2 a3 M)) : j_Ct yX11_year cX11_year 9 (some .int) 7 0 0 [.ref a0, .int a1, .int a2, .int a3] M Φ := by
  refine j_Ct.of (by decide +kernel) (Nat.le_of_ble_eq_true rfl) fun X C => ?_
  have C0 := C.1
  show j_J X 9 0 [some (.ref a0), some (.int a1), some (.int a2), some (.int a3), none, none, none, none, none] [] (0, 0) M
  unfold F_X11_year at h
  refine X_join (fun (kj : Nat → Int32 → Int32 → Int32 → Int32 → m_M → Option (Int32 × m_M)) => ∀ (p0 : Nat) (p1 : Int32) (p2 : Int32) (p3 : Int32) (p4 : Int32) (M : m_M), m_ok e_I Φ (kj p0 p1 p2 p3 p4 M) → j_J X 9 36 [some (.ref p0), some (.int p1), some (.int p2), some (.int p3), none, none, none, none, none] [.int p4] (0, 0) M) h (fun v1 v2 v3 v4 v5 M1 h => ?_) (fun k36 hk36 h => ?_)
  · refine j_istore C0 (pc := 36) dX11_year_36 (Nat.le_of_ble_eq_true rfl) ?_
    show j_J X 9 38 [some (.ref v1), some (.int v2), some (.int v3), some (.int v4), some (.int v5), none, none, none, none] [] (0, 0) M1
    refine j_iload C0 (pc := 38) dX11_year_38 rfl ?_
    refine j_if_eq C0 (pc := 40) (tgt := 67) dX11_year_40 (by decide) (fun hc => ?_) (fun hc => ?_)
    · replace h := (X_if h).1 hc
      refine j_iconst C0 (pc := 67) dX11_year_67 (v := (-1 : Int32)) (by decide) ?_
      exact j_iret C rfl h dX11_year_68 (by decide)
    · replace h := (X_if h).2 hc
      refine j_aload_n C0 (pc := 43) dX11_year_43 rfl ?_
      refine X_gN C0 (pc := 44) f_OV_16_9 rfl dX11_year_44 h (fun v6 h => ?_)
      refine X_gN C0 (pc := 47) f_OV_279_3 rfl dX11_year_47 h (fun v7 h => ?_)
      refine j_iconst C0 (pc := 50) dX11_year_50 (v := (2 : Int32)) (by decide) ?_
      refine X_iald C0 (pc := 51) dX11_year_51 h (fun v8 h => ?_)
      refine j_if_eq C0 (pc := 52) (tgt := 67) dX11_year_52 (by decide) (fun hc => ?_) (fun hc => ?_)
      · replace h := (X_if h).1 hc
        refine j_iconst C0 (pc := 67) dX11_year_67 (v := (-1 : Int32)) (by decide) ?_
        exact j_iret C rfl h dX11_year_68 (by decide)
      · replace h := (X_if h).2 hc
        refine j_aload_n C0 (pc := 55) dX11_year_55 rfl ?_
        refine X_gN C0 (pc := 56) f_OV_16_9 rfl dX11_year_56 h (fun v9 h => ?_)
        refine X_gN C0 (pc := 59) f_OV_279_3 rfl dX11_year_59 h (fun v10 h => ?_)
        refine j_iconst C0 (pc := 62) dX11_year_62 (v := (0 : Int32)) (by decide) ?_
        refine X_iald C0 (pc := 63) dX11_year_63 h (fun v11 h => ?_)
        refine j_if_ne C0 (pc := 64) (tgt := 69) dX11_year_64 (by decide) (fun hc => ?_) (fun hc => ?_)
        · replace h := (X_if h).2 hc
          refine j_aload_n C0 (pc := 69) dX11_year_69 rfl ?_
          refine j_iload_n C0 (pc := 70) dX11_year_70 rfl ?_
          refine j_i2l C0 (pc := 71) dX11_year_71 (v := v2.toInt64) rfl ?_
          refine X_pL C0 (pc := 72) f_OV_308_9 rfl rfl dX11_year_72 h (fun M2 h => ?_)
          refine j_aload_n C0 (pc := 75) dX11_year_75 rfl ?_
          refine X_cV C0 (pc := 76) (e' := e_V) (as := []) (rest := []) (s' := fun _ => []) (g' := (0, 0)) v_OV_189_9 (fun Ψ hΨ => K_X11_findLeft v1 M2 Ψ hΨ) rfl rfl (fun _ => rfl) (by decide) (by decide) rfl (Nat.le_of_ble_eq_true rfl) dX11_year_76 h (fun _ M3 h => ?_)
          refine j_iconst C0 (pc := 79) dX11_year_79 (v := (0 : Int32)) (by decide) ?_
          refine j_istore C0 (pc := 80) dX11_year_80 (Nat.le_of_ble_eq_true rfl) ?_
          show j_J X 9 82 [some (.ref v1), some (.int v2), some (.int v3), some (.int v4), some (.int v5), some (.int (0 : Int32)), none, none, none] [] (0, 0) M3
          refine j_iconst C0 (pc := 82) dX11_year_82 (v := (0 : Int32)) (by decide) ?_
          refine j_istore C0 (pc := 83) dX11_year_83 (Nat.le_of_ble_eq_true rfl) ?_
          show j_J X 9 85 [some (.ref v1), some (.int v2), some (.int v3), some (.int v4), some (.int v5), some (.int (0 : Int32)), some (.int (0 : Int32)), none, none] [] (0, 0) M3
          refine j_iconst C0 (pc := 85) dX11_year_85 (v := (0 : Int32)) (by decide) ?_
          refine j_istore C0 (pc := 86) dX11_year_86 (Nat.le_of_ble_eq_true rfl) ?_
          show j_J X 9 88 [some (.ref v1), some (.int v2), some (.int v3), some (.int v4), some (.int v5), some (.int (0 : Int32)), some (.int (0 : Int32)), some (.int (0 : Int32)), none] [] (0, 0) M3
          refine X_join (fun (kj : Nat → Int32 → Int32 → Int32 → m_M → Option (Int32 × m_M)) => ∀ (p0 : Nat) (p1 : Int32) (p2 : Int32) (p3 : Int32) (M : m_M), m_ok e_I Φ (kj p0 p1 p2 p3 M) → j_J X 9 163 [some (.ref p0), none, none, some (.int p1), none, some (.int p2), some (.int p3), none, none] [] (0, 0) M) h (fun v12 v13 v14 v15 M4 h => ?_) (fun k163 hk163 h => ?_)
          · refine j_iload_n C0 (pc := 163) dX11_year_163 rfl ?_
            by_cases hc : v13 = (0 : Int32)
            · replace h := (X_if h).1 hc
              refine j_lookup C0 (pc := 164) (off := 28) (tgt := 192) dX11_year_164 (by decide) (by rw [hc]; decide) (by decide) ?_
              refine j_iload C0 (pc := 192) dX11_year_192 rfl ?_
              exact j_iret C rfl h dX11_year_194 (by decide)
            · replace h := (X_if h).2 hc
              have hn0 : ¬ v13 = Int32.ofInt (0) := hc
              by_cases hc : v13 = (1 : Int32)
              · replace h := (X_if h).1 hc
                refine j_lookup C0 (pc := 164) (off := 31) (tgt := 195) dX11_year_164 (by decide) (by rw [hc]; decide) (by decide) ?_
                refine j_iload C0 (pc := 195) dX11_year_195 rfl ?_
                exact j_iret C rfl h dX11_year_197 (by decide)
              · replace h := (X_if h).2 hc
                have hn1 : ¬ v13 = Int32.ofInt (1) := hc
                refine j_lookup C0 (pc := 164) (tgt := 198) dX11_year_164 (by decide) (m_lk2 (m_sw (k := 0) hn0) (m_sw (k := 1) hn1)) (by decide) ?_
                refine j_aload_n C0 (pc := 198) dX11_year_198 rfl ?_
                refine X_gN C0 (pc := 199) f_OV_80_9 rfl dX11_year_199 h (fun v16 h => ?_)
                refine X_cV C0 (pc := 202) (e' := e_I) (as := []) (rest := []) (s' := fun w => .int w :: []) (g' := (0, 0)) v_OV_174_8 (fun Ψ hΨ => K_X10_size v16 M4 Ψ hΨ) rfl rfl (fun _ => rfl) (by decide) (by decide) rfl (Nat.le_of_ble_eq_true rfl) dX11_year_202 h (fun v17 M5 h => ?_)
                exact j_iret C rfl h dX11_year_205 (by decide)
          · exact j_J.wq (L_X11_year_88 C hk163 m_FU v1 v3 v4 (0 : Int32) (0 : Int32) (0 : Int32) M3 h) (And.intro rfl (And.intro rfl (And.intro rfl (And.intro rfl (And.intro rfl (And.intro rfl (trivial)))))))
        · replace h := (X_if h).1 hc
          refine j_iconst C0 (pc := 67) dX11_year_67 (v := (-1 : Int32)) (by decide) ?_
          exact j_iret C rfl h dX11_year_68 (by decide)
  · refine X_join (fun (kj : Nat → Int32 → Int32 → Int32 → m_M → Option (Int32 × m_M)) => ∀ (p0 : Nat) (p1 : Int32) (p2 : Int32) (p3 : Int32) (M : m_M), m_ok e_I Φ (kj p0 p1 p2 p3 M) → j_J X 9 35 [some (.ref p0), some (.int p1), some (.int p2), some (.int p3), none, none, none, none, none] [] (0, 0) M) h (fun v18 v19 v20 v21 M6 h => ?_) (fun k35 hk35 h => ?_)
    · refine j_iconst C0 (pc := 35) dX11_year_35 (v := (0 : Int32)) (by decide) ?_
      exact j_J.wq (hk36 v18 v19 v20 v21 (0 : Int32) M6 h) (And.intro rfl (And.intro rfl (And.intro rfl (And.intro rfl (trivial)))))
    · refine j_iload_n C0 (pc := 0) dX11_year_0 rfl ?_
      refine j_if_lt C0 (pc := 1) (tgt := 35) dX11_year_1 (by decide) (fun hc => ?_) (fun hc => ?_)
      · replace h := (X_if h).1 hc
        exact j_J.wq (hk35 a0 a1 a2 a3 M h) (And.intro rfl (And.intro rfl (And.intro rfl (And.intro rfl (trivial)))))
      · replace h := (X_if h).2 hc
        refine j_iload_n C0 (pc := 4) dX11_year_4 rfl ?_
        refine j_sipush C0 (pc := 5) dX11_year_5 (v := (9999 : Int32)) (by decide) ?_
        refine j_icmp_gt C0 (pc := 8) (tgt := 35) dX11_year_8 (by decide) (fun hc => ?_) (fun hc => ?_)
        · replace h := (X_if h).1 hc
          exact j_J.wq (hk35 a0 a1 a2 a3 M h) (And.intro rfl (And.intro rfl (And.intro rfl (And.intro rfl (trivial)))))
        · replace h := (X_if h).2 hc
          refine j_iload_n C0 (pc := 11) dX11_year_11 rfl ?_
          refine j_iconst C0 (pc := 12) dX11_year_12 (v := (1 : Int32)) (by decide) ?_
          refine j_icmp_lt C0 (pc := 13) (tgt := 35) dX11_year_13 (by decide) (fun hc => ?_) (fun hc => ?_)
          · replace h := (X_if h).1 hc
            exact j_J.wq (hk35 a0 a1 a2 a3 M h) (And.intro rfl (And.intro rfl (And.intro rfl (And.intro rfl (trivial)))))
          · replace h := (X_if h).2 hc
            refine j_iload_n C0 (pc := 16) dX11_year_16 rfl ?_
            refine j_bipush C0 (pc := 17) dX11_year_17 (v := (60 : Int32)) (by decide) ?_
            refine j_icmp_gt C0 (pc := 19) (tgt := 35) dX11_year_19 (by decide) (fun hc => ?_) (fun hc => ?_)
            · replace h := (X_if h).1 hc
              exact j_J.wq (hk35 a0 a1 a2 a3 M h) (And.intro rfl (And.intro rfl (And.intro rfl (And.intro rfl (trivial)))))
            · replace h := (X_if h).2 hc
              refine j_iload_n C0 (pc := 22) dX11_year_22 rfl ?_
              refine j_if_lt C0 (pc := 23) (tgt := 35) dX11_year_23 (by decide) (fun hc => ?_) (fun hc => ?_)
              · replace h := (X_if h).1 hc
                exact j_J.wq (hk35 a0 a1 a2 a3 M h) (And.intro rfl (And.intro rfl (And.intro rfl (And.intro rfl (trivial)))))
              · replace h := (X_if h).2 hc
                refine j_iload_n C0 (pc := 26) dX11_year_26 rfl ?_
                refine j_iconst C0 (pc := 27) dX11_year_27 (v := (2 : Int32)) (by decide) ?_
                refine j_icmp_gt C0 (pc := 28) (tgt := 35) dX11_year_28 (by decide) (fun hc => ?_) (fun hc => ?_)
                · replace h := (X_if h).1 hc
                  exact j_J.wq (hk35 a0 a1 a2 a3 M h) (And.intro rfl (And.intro rfl (And.intro rfl (And.intro rfl (trivial)))))
                · replace h := (X_if h).2 hc
                  refine j_iconst C0 (pc := 31) dX11_year_31 (v := (1 : Int32)) (by decide) ?_
                  refine j_goto C0 (pc := 32) (tgt := 36) dX11_year_32 (by decide) ?_
                  exact j_J.wq (hk36 a0 a1 a2 a3 (1 : Int32) M h) (And.intro rfl (And.intro rfl (And.intro rfl (And.intro rfl (trivial)))))
theorem dX12_adds_0 : decode cX12_adds 0 = .ok (.aload_n 0, 1) := by decide +kernel
theorem dX12_adds_1 : decode cX12_adds 1 = .ok (.getfield 84, 3) := by decide +kernel
theorem dX12_adds_4 : decode cX12_adds 4 = .ok (.aload_n 0, 1) := by decide +kernel
theorem dX12_adds_5 : decode cX12_adds 5 = .ok (.getfield 356, 3) := by decide +kernel
theorem dX12_adds_8 : decode cX12_adds 8 = .ok (.iload_n 1, 1) := by decide +kernel
theorem dX12_adds_9 : decode cX12_adds 9 = .ok (.iastore, 1) := by decide +kernel
theorem dX12_adds_10 : decode cX12_adds 10 = .ok (.aload_n 0, 1) := by decide +kernel
theorem dX12_adds_11 : decode cX12_adds 11 = .ok (.dup, 1) := by decide +kernel
theorem dX12_adds_12 : decode cX12_adds 12 = .ok (.getfield 356, 3) := by decide +kernel
theorem dX12_adds_15 : decode cX12_adds 15 = .ok (.iconst 1, 1) := by decide +kernel
theorem dX12_adds_16 : decode cX12_adds 16 = .ok (.iadd, 1) := by decide +kernel
theorem dX12_adds_17 : decode cX12_adds 17 = .ok (.putfield 356, 3) := by decide +kernel
theorem dX12_adds_20 : decode cX12_adds 20 = .ok (.return_, 1) := by decide +kernel
noncomputable def F_X12_adds (a0 : Nat) (a1 : Int32) (M : m_M) : Option (Unit × m_M) :=
  x_gN 10 M a0 38 fun v1 =>
  x_gI 10 M a0 39 fun v2 =>
  x_sI 12 M v1 v2 a1 fun M1 =>
  x_gI 10 M1 a0 39 fun v3 =>
  x_pI 10 M1 a0 39 (v3 + (1 : Int32)) fun M2 =>
  some ((), M2)
set_option maxHeartbeats 4000000 in
theorem K_X12_adds (a0 : Nat) (a1 : Int32) (M : m_M) (Φ : Option Value → m_M → Prop) (h : m_ok e_V Φ (F_X12_adds a0 a1 M)) : j_Ct yX12_adds cX12_adds 2 none 1 0 0 [.ref a0, .int a1] M Φ := by
  refine j_Ct.of (by decide +kernel) (Nat.le_of_ble_eq_true rfl) fun X C => ?_
  have C0 := C.1
  show j_J X 2 0 [some (.ref a0), some (.int a1)] [] (0, 0) M
  unfold F_X12_adds at h
  refine j_aload_n C0 (pc := 0) dX12_adds_0 rfl ?_
  refine X_gN C0 (pc := 1) f_OM_84_10 rfl dX12_adds_1 h (fun v1 h => ?_)
  refine j_aload_n C0 (pc := 4) dX12_adds_4 rfl ?_
  refine X_gI C0 (pc := 5) f_OM_356_10 rfl dX12_adds_5 h (fun v2 h => ?_)
  refine j_iload_n C0 (pc := 8) dX12_adds_8 rfl ?_
  refine X_iast C0 (pc := 9) dX12_adds_9 h (fun M1 h => ?_)
  refine j_aload_n C0 (pc := 10) dX12_adds_10 rfl ?_
  refine j_dup C0 (pc := 11) dX12_adds_11 rfl ?_
  refine X_gI C0 (pc := 12) f_OM_356_10 rfl dX12_adds_12 h (fun v3 h => ?_)
  refine j_iconst C0 (pc := 15) dX12_adds_15 (v := (1 : Int32)) (by decide) ?_
  refine j_iadd C0 (pc := 16) dX12_adds_16 ?_
  refine X_pI C0 (pc := 17) f_OM_356_10 rfl rfl dX12_adds_17 h (fun M2 h => ?_)
  exact j_vret C rfl h dX12_adds_20 (by decide)
theorem dX12_allOf_0 : decode cX12_allOf 0 = .ok (.iload_n 1, 1) := by decide +kernel
theorem dX12_allOf_1 : decode cX12_allOf 1 = .ok (.aload_n 0, 1) := by decide +kernel
theorem dX12_allOf_2 : decode cX12_allOf 2 = .ok (.getfield 386, 3) := by decide +kernel
theorem dX12_allOf_5 : decode cX12_allOf 5 = .ok (.if_icmp .lt 5, 3) := by decide +kernel
theorem dX12_allOf_8 : decode cX12_allOf 8 = .ok (.lconst 0, 1) := by decide +kernel
theorem dX12_allOf_9 : decode cX12_allOf 9 = .ok (.lreturn, 1) := by decide +kernel
theorem dX12_allOf_10 : decode cX12_allOf 10 = .ok (.iload_n 1, 1) := by decide +kernel
theorem dX12_allOf_11 : decode cX12_allOf 11 = .ok (.aload_n 0, 1) := by decide +kernel
theorem dX12_allOf_12 : decode cX12_allOf 12 = .ok (.getfield 383, 3) := by decide +kernel
theorem dX12_allOf_15 : decode cX12_allOf 15 = .ok (.bipush 64, 2) := by decide +kernel
theorem dX12_allOf_17 : decode cX12_allOf 17 = .ok (.idiv, 1) := by decide +kernel
theorem dX12_allOf_18 : decode cX12_allOf 18 = .ok (.if_icmp .ge 9, 3) := by decide +kernel
theorem dX12_allOf_21 : decode cX12_allOf 21 = .ok (.ldc2_w 453, 3) := by decide +kernel
theorem dX12_allOf_24 : decode cX12_allOf 24 = .ok (.goto 14, 3) := by decide +kernel
theorem dX12_allOf_27 : decode cX12_allOf 27 = .ok (.lconst 1, 1) := by decide +kernel
theorem dX12_allOf_28 : decode cX12_allOf 28 = .ok (.aload_n 0, 1) := by decide +kernel
theorem dX12_allOf_29 : decode cX12_allOf 29 = .ok (.getfield 383, 3) := by decide +kernel
theorem dX12_allOf_32 : decode cX12_allOf 32 = .ok (.bipush 64, 2) := by decide +kernel
theorem dX12_allOf_34 : decode cX12_allOf 34 = .ok (.irem, 1) := by decide +kernel
theorem dX12_allOf_35 : decode cX12_allOf 35 = .ok (.lshl, 1) := by decide +kernel
theorem dX12_allOf_36 : decode cX12_allOf 36 = .ok (.lconst 1, 1) := by decide +kernel
theorem dX12_allOf_37 : decode cX12_allOf 37 = .ok (.lsub, 1) := by decide +kernel
theorem dX12_allOf_38 : decode cX12_allOf 38 = .ok (.lreturn, 1) := by decide +kernel
noncomputable def F_X12_allOf (a0 : Nat) (a1 : Int32) (M : m_M) : Option (Int64 × m_M) :=
  x_gI 10 M a0 43 fun v1 =>
  if a1 < v1 then (
    x_gI 10 M a0 42 fun v2 =>
    x_nz (64 : Int32) <|
    if (v2 / (64 : Int32)) ≤ a1 then (
      x_gI 10 M a0 42 fun v3 =>
      x_nz (64 : Int32) <|
      some (((1 : Int64) <<< ((v3 - v3 / (64 : Int32) * (64 : Int32)).toInt64 &&& 63)) - (1 : Int64), M)
    ) else
    some ((-1 : Int64), M)
  ) else
  some ((0 : Int64), M)
set_option maxHeartbeats 4000000 in
theorem K_X12_allOf (a0 : Nat) (a1 : Int32) (M : m_M) (Φ : Option Value → m_M → Prop) (h : m_ok e_L Φ (F_X12_allOf a0 a1 M)) : j_Ct yX12_allOf cX12_allOf 2 (some .long) 1 0 0 [.ref a0, .int a1] M Φ := by
  refine j_Ct.of (by decide +kernel) (Nat.le_of_ble_eq_true rfl) fun X C => ?_
  have C0 := C.1
  show j_J X 2 0 [some (.ref a0), some (.int a1)] [] (0, 0) M
  unfold F_X12_allOf at h
  refine j_iload_n C0 (pc := 0) dX12_allOf_0 rfl ?_
  refine j_aload_n C0 (pc := 1) dX12_allOf_1 rfl ?_
  refine X_gI C0 (pc := 2) f_OM_386_10 rfl dX12_allOf_2 h (fun v1 h => ?_)
  refine j_icmp_lt C0 (pc := 5) (tgt := 10) dX12_allOf_5 (by decide) (fun hc => ?_) (fun hc => ?_)
  · replace h := (X_if h).1 hc
    refine j_iload_n C0 (pc := 10) dX12_allOf_10 rfl ?_
    refine j_aload_n C0 (pc := 11) dX12_allOf_11 rfl ?_
    refine X_gI C0 (pc := 12) f_OM_383_10 rfl dX12_allOf_12 h (fun v2 h => ?_)
    refine j_bipush C0 (pc := 15) dX12_allOf_15 (v := (64 : Int32)) (by decide) ?_
    refine X_idiv C0 (pc := 17) dX12_allOf_17 h (fun h => ?_)
    refine j_icmp_ge C0 (pc := 18) (tgt := 27) dX12_allOf_18 (by decide) (fun hc => ?_) (fun hc => ?_)
    · replace h := (X_if h).1 hc
      refine j_lconst C0 (pc := 27) dX12_allOf_27 (v := (1 : Int64)) (by decide) ?_
      refine j_aload_n C0 (pc := 28) dX12_allOf_28 rfl ?_
      refine X_gI C0 (pc := 29) f_OM_383_10 rfl dX12_allOf_29 h (fun v3 h => ?_)
      refine j_bipush C0 (pc := 32) dX12_allOf_32 (v := (64 : Int32)) (by decide) ?_
      refine X_irem C0 (pc := 34) dX12_allOf_34 h (fun h => ?_)
      refine j_lshl C0 (pc := 35) dX12_allOf_35 (v := (1 : Int64) <<< ((v3 - v3 / (64 : Int32) * (64 : Int32)).toInt64 &&& 63)) rfl ?_
      refine j_lconst C0 (pc := 36) dX12_allOf_36 (v := (1 : Int64)) (by decide) ?_
      refine j_lsub C0 (pc := 37) dX12_allOf_37 ?_
      exact j_lret C rfl h dX12_allOf_38 (by decide)
    · replace h := (X_if h).2 hc
      refine j_ldc2 C0 (pc := 21) (v := (-1 : Int64)) (j_c9 82 (by decide +kernel)) dX12_allOf_21 ?_
      refine j_goto C0 (pc := 24) (tgt := 38) dX12_allOf_24 (by decide) ?_
      exact j_lret C rfl h dX12_allOf_38 (by decide)
  · replace h := (X_if h).2 hc
    refine j_lconst C0 (pc := 8) dX12_allOf_8 (v := (0 : Int64)) (by decide) ?_
    exact j_lret C rfl h dX12_allOf_9 (by decide)
theorem dX12_areAlike_0 : decode cX12_areAlike 0 = .ok (.iconst 0, 1) := by decide +kernel
theorem dX12_areAlike_1 : decode cX12_areAlike 1 = .ok (.istore 5, 2) := by decide +kernel
theorem dX12_areAlike_3 : decode cX12_areAlike 3 = .ok (.iload 5, 2) := by decide +kernel
theorem dX12_areAlike_5 : decode cX12_areAlike 5 = .ok (.aload_n 0, 1) := by decide +kernel
theorem dX12_areAlike_6 : decode cX12_areAlike 6 = .ok (.getfield 386, 3) := by decide +kernel
theorem dX12_areAlike_9 : decode cX12_areAlike 9 = .ok (.if_icmp .ge 28, 3) := by decide +kernel
theorem dX12_areAlike_12 : decode cX12_areAlike 12 = .ok (.aload_n 1, 1) := by decide +kernel
theorem dX12_areAlike_13 : decode cX12_areAlike 13 = .ok (.iload_n 2, 1) := by decide +kernel
theorem dX12_areAlike_14 : decode cX12_areAlike 14 = .ok (.iload 5, 2) := by decide +kernel
theorem dX12_areAlike_16 : decode cX12_areAlike 16 = .ok (.iadd, 1) := by decide +kernel
theorem dX12_areAlike_17 : decode cX12_areAlike 17 = .ok (.laload, 1) := by decide +kernel
theorem dX12_areAlike_18 : decode cX12_areAlike 18 = .ok (.aload_n 3, 1) := by decide +kernel
theorem dX12_areAlike_19 : decode cX12_areAlike 19 = .ok (.iload 4, 2) := by decide +kernel
theorem dX12_areAlike_21 : decode cX12_areAlike 21 = .ok (.iload 5, 2) := by decide +kernel
theorem dX12_areAlike_23 : decode cX12_areAlike 23 = .ok (.iadd, 1) := by decide +kernel
theorem dX12_areAlike_24 : decode cX12_areAlike 24 = .ok (.laload, 1) := by decide +kernel
theorem dX12_areAlike_25 : decode cX12_areAlike 25 = .ok (.lcmp, 1) := by decide +kernel
theorem dX12_areAlike_26 : decode cX12_areAlike 26 = .ok (.ifCond .eq 5, 3) := by decide +kernel
theorem dX12_areAlike_29 : decode cX12_areAlike 29 = .ok (.iconst 0, 1) := by decide +kernel
theorem dX12_areAlike_30 : decode cX12_areAlike 30 = .ok (.ireturn, 1) := by decide +kernel
theorem dX12_areAlike_31 : decode cX12_areAlike 31 = .ok (.iinc 5 1, 3) := by decide +kernel
theorem dX12_areAlike_34 : decode cX12_areAlike 34 = .ok (.goto (-31), 3) := by decide +kernel
theorem dX12_areAlike_37 : decode cX12_areAlike 37 = .ok (.iconst 1, 1) := by decide +kernel
theorem dX12_areAlike_38 : decode cX12_areAlike 38 = .ok (.ireturn, 1) := by decide +kernel
noncomputable def F_X12_areAlike_3 : Nat → Nat → Nat → Int32 → Nat → Int32 → Int32 → m_M → Option (Int32 × m_M)
  | 0, _, _, _, _, _, _, _ => none
  | n + 1, v1, v2, v3, v4, v5, v6, M =>
    x_gI 10 M v1 43 fun v7 =>
    if v7 ≤ v6 then (
      some ((1 : Int32), M)
    ) else
    x_aL M v2 (v3 + v6) fun v8 =>
    x_aL M v4 (v5 + v6) fun v9 =>
    if (lg_cmp v8 v9) = 0 then (
      m_let (v6 + (1 : Int32)) fun v10 =>
      F_X12_areAlike_3 n v1 v2 v3 v4 v5 v10 M
    ) else
    some ((0 : Int32), M)
noncomputable def F_X12_areAlike (a0 : Nat) (a1 : Nat) (a2 : Int32) (a3 : Nat) (a4 : Int32) (M : m_M) : Option (Int32 × m_M) :=
  F_X12_areAlike_3 m_FU a0 a1 a2 a3 a4 (0 : Int32) M
set_option maxHeartbeats 4000000 in
theorem L_X12_areAlike_3 {X : j_X} {Φ : Option Value → m_M → Prop} (C : j_C X yX12_areAlike cX12_areAlike 6 (some .boolean) 1 0 0 Φ) : ∀ (n : Nat) (v1 : Nat) (v2 : Nat) (v3 : Int32) (v4 : Nat) (v5 : Int32) (v6 : Int32) (M : m_M), m_ok e_I Φ (F_X12_areAlike_3 n v1 v2 v3 v4 v5 v6 M) → j_J X 6 3 [some (.ref v1), some (.ref v2), some (.int v3), some (.ref v4), some (.int v5), some (.int v6)] [] (0, 0) M := by
  have C0 := C.1
  intro n
  induction n with
  | zero => intro v1 v2 v3 v4 v5 v6 M h; exact False.elim h
  | succ n ih =>
    intro v1 v2 v3 v4 v5 v6 M h
    rw [F_X12_areAlike_3] at h
    refine j_iload C0 (pc := 3) dX12_areAlike_3 rfl ?_
    refine j_aload_n C0 (pc := 5) dX12_areAlike_5 rfl ?_
    refine X_gI C0 (pc := 6) f_OM_386_10 rfl dX12_areAlike_6 h (fun v7 h => ?_)
    refine j_icmp_ge C0 (pc := 9) (tgt := 37) dX12_areAlike_9 (by decide) (fun hc => ?_) (fun hc => ?_)
    · replace h := (X_if h).1 hc
      refine j_iconst C0 (pc := 37) dX12_areAlike_37 (v := (1 : Int32)) (by decide) ?_
      exact j_zret C rfl (by decide) h dX12_areAlike_38 (by decide)
    · replace h := (X_if h).2 hc
      refine j_aload_n C0 (pc := 12) dX12_areAlike_12 rfl ?_
      refine j_iload_n C0 (pc := 13) dX12_areAlike_13 rfl ?_
      refine j_iload C0 (pc := 14) dX12_areAlike_14 rfl ?_
      refine j_iadd C0 (pc := 16) dX12_areAlike_16 ?_
      refine X_lald C0 (pc := 17) dX12_areAlike_17 h (fun v8 h => ?_)
      refine j_aload_n C0 (pc := 18) dX12_areAlike_18 rfl ?_
      refine j_iload C0 (pc := 19) dX12_areAlike_19 rfl ?_
      refine j_iload C0 (pc := 21) dX12_areAlike_21 rfl ?_
      refine j_iadd C0 (pc := 23) dX12_areAlike_23 ?_
      refine X_lald C0 (pc := 24) dX12_areAlike_24 h (fun v9 h => ?_)
      refine j_lcmp C0 (pc := 25) dX12_areAlike_25 ?_
      refine j_if_eq C0 (pc := 26) (tgt := 31) dX12_areAlike_26 (by decide) (fun hc => ?_) (fun hc => ?_)
      · replace h := (X_if h).1 hc
        refine j_iinc C0 (pc := 31) dX12_areAlike_31 (v := v6 + (1 : Int32)) rfl (Nat.le_of_ble_eq_true rfl) (by rfl) ?_
        refine X_let (G := fun w => j_J X 6 34 [some (.ref v1), some (.ref v2), some (.int v3), some (.ref v4), some (.int v5), some (.int w)] [] (0, 0) M) h (fun v10 h => ?_)
        refine j_goto C0 (pc := 34) (tgt := 3) dX12_areAlike_34 (by decide) ?_
        exact j_J.wq (ih v1 v2 v3 v4 v5 v10 M h) (And.intro rfl (And.intro rfl (And.intro rfl (And.intro rfl (And.intro rfl (And.intro rfl (trivial)))))))
      · replace h := (X_if h).2 hc
        refine j_iconst C0 (pc := 29) dX12_areAlike_29 (v := (0 : Int32)) (by decide) ?_
        exact j_zret C rfl (by decide) h dX12_areAlike_30 (by decide)
set_option maxHeartbeats 4000000 in
theorem K_X12_areAlike (a0 : Nat) (a1 : Nat) (a2 : Int32) (a3 : Nat) (a4 : Int32) (M : m_M) (Φ : Option Value → m_M → Prop) (h : m_ok e_I Φ (F_X12_areAlike a0 a1 a2 a3 a4 M)) : j_Ct yX12_areAlike cX12_areAlike 6 (some .boolean) 1 0 0 [.ref a0, .ref a1, .int a2, .ref a3, .int a4] M Φ := by
  refine j_Ct.of (by decide +kernel) (Nat.le_of_ble_eq_true rfl) fun X C => ?_
  have C0 := C.1
  show j_J X 6 0 [some (.ref a0), some (.ref a1), some (.int a2), some (.ref a3), some (.int a4), none] [] (0, 0) M
  unfold F_X12_areAlike at h
  refine j_iconst C0 (pc := 0) dX12_areAlike_0 (v := (0 : Int32)) (by decide) ?_
  refine j_istore C0 (pc := 1) dX12_areAlike_1 (Nat.le_of_ble_eq_true rfl) ?_
  show j_J X 6 3 [some (.ref a0), some (.ref a1), some (.int a2), some (.ref a3), some (.int a4), some (.int (0 : Int32))] [] (0, 0) M
  exact j_J.wq (L_X12_areAlike_3 C m_FU a0 a1 a2 a3 a4 (0 : Int32) M h) (And.intro rfl (And.intro rfl (And.intro rfl (And.intro rfl (And.intro rfl (And.intro rfl (trivial)))))))
theorem dX12_areRung_0 : decode cX12_areRung 0 = .ok (.iload_n 1, 1) := by decide +kernel
theorem dX12_areRung_1 : decode cX12_areRung 1 = .ok (.istore_n 2, 1) := by decide +kernel
theorem dX12_areRung_2 : decode cX12_areRung 2 = .ok (.iload_n 1, 1) := by decide +kernel
theorem dX12_areRung_3 : decode cX12_areRung 3 = .ok (.ifCond .lt 7, 3) := by decide +kernel
theorem dX12_areRung_6 : decode cX12_areRung 6 = .ok (.iconst 1, 1) := by decide +kernel
theorem dX12_areRung_7 : decode cX12_areRung 7 = .ok (.goto 4, 3) := by decide +kernel
theorem dX12_areRung_10 : decode cX12_areRung 10 = .ok (.iconst 0, 1) := by decide +kernel
theorem dX12_areRung_11 : decode cX12_areRung 11 = .ok (.istore_n 3, 1) := by decide +kernel
theorem dX12_areRung_12 : decode cX12_areRung 12 = .ok (.iconst 0, 1) := by decide +kernel
theorem dX12_areRung_13 : decode cX12_areRung 13 = .ok (.istore 4, 2) := by decide +kernel
theorem dX12_areRung_15 : decode cX12_areRung 15 = .ok (.iload 4, 2) := by decide +kernel
theorem dX12_areRung_17 : decode cX12_areRung 17 = .ok (.iconst 3, 1) := by decide +kernel
theorem dX12_areRung_18 : decode cX12_areRung 18 = .ok (.if_icmp .ge 72, 3) := by decide +kernel
theorem dX12_areRung_21 : decode cX12_areRung 21 = .ok (.aload_n 0, 1) := by decide +kernel
theorem dX12_areRung_22 : decode cX12_areRung 22 = .ok (.getfield 147, 3) := by decide +kernel
theorem dX12_areRung_25 : decode cX12_areRung 25 = .ok (.iload 4, 2) := by decide +kernel
theorem dX12_areRung_27 : decode cX12_areRung 27 = .ok (.iload_n 2, 1) := by decide +kernel
theorem dX12_areRung_28 : decode cX12_areRung 28 = .ok (.bipush 8, 2) := by decide +kernel
theorem dX12_areRung_30 : decode cX12_areRung 30 = .ok (.irem, 1) := by decide +kernel
theorem dX12_areRung_31 : decode cX12_areRung 31 = .ok (.iastore, 1) := by decide +kernel
theorem dX12_areRung_32 : decode cX12_areRung 32 = .ok (.iload_n 3, 1) := by decide +kernel
theorem dX12_areRung_33 : decode cX12_areRung 33 = .ok (.ifCond .eq 44, 3) := by decide +kernel
theorem dX12_areRung_36 : decode cX12_areRung 36 = .ok (.aload_n 0, 1) := by decide +kernel
theorem dX12_areRung_37 : decode cX12_areRung 37 = .ok (.getfield 147, 3) := by decide +kernel
theorem dX12_areRung_40 : decode cX12_areRung 40 = .ok (.iload 4, 2) := by decide +kernel
theorem dX12_areRung_42 : decode cX12_areRung 42 = .ok (.iaload, 1) := by decide +kernel
theorem dX12_areRung_43 : decode cX12_areRung 43 = .ok (.aload_n 0, 1) := by decide +kernel
theorem dX12_areRung_44 : decode cX12_areRung 44 = .ok (.getfield 13, 3) := by decide +kernel
theorem dX12_areRung_47 : decode cX12_areRung 47 = .ok (.iconst 3, 1) := by decide +kernel
theorem dX12_areRung_48 : decode cX12_areRung 48 = .ok (.iaload, 1) := by decide +kernel
theorem dX12_areRung_49 : decode cX12_areRung 49 = .ok (.if_icmp .gt 28, 3) := by decide +kernel
theorem dX12_areRung_52 : decode cX12_areRung 52 = .ok (.iload 4, 2) := by decide +kernel
theorem dX12_areRung_54 : decode cX12_areRung 54 = .ok (.aload_n 0, 1) := by decide +kernel
theorem dX12_areRung_55 : decode cX12_areRung 55 = .ok (.getfield 13, 3) := by decide +kernel
theorem dX12_areRung_58 : decode cX12_areRung 58 = .ok (.iconst 4, 1) := by decide +kernel
theorem dX12_areRung_59 : decode cX12_areRung 59 = .ok (.iaload, 1) := by decide +kernel
theorem dX12_areRung_60 : decode cX12_areRung 60 = .ok (.if_icmp .lt 13, 3) := by decide +kernel
theorem dX12_areRung_63 : decode cX12_areRung 63 = .ok (.aload_n 0, 1) := by decide +kernel
theorem dX12_areRung_64 : decode cX12_areRung 64 = .ok (.getfield 147, 3) := by decide +kernel
theorem dX12_areRung_67 : decode cX12_areRung 67 = .ok (.iload 4, 2) := by decide +kernel
theorem dX12_areRung_69 : decode cX12_areRung 69 = .ok (.iaload, 1) := by decide +kernel
theorem dX12_areRung_70 : decode cX12_areRung 70 = .ok (.ifCond .ne 7, 3) := by decide +kernel
theorem dX12_areRung_73 : decode cX12_areRung 73 = .ok (.iconst 1, 1) := by decide +kernel
theorem dX12_areRung_74 : decode cX12_areRung 74 = .ok (.goto 4, 3) := by decide +kernel
theorem dX12_areRung_77 : decode cX12_areRung 77 = .ok (.iconst 0, 1) := by decide +kernel
theorem dX12_areRung_78 : decode cX12_areRung 78 = .ok (.istore_n 3, 1) := by decide +kernel
theorem dX12_areRung_79 : decode cX12_areRung 79 = .ok (.iload_n 2, 1) := by decide +kernel
theorem dX12_areRung_80 : decode cX12_areRung 80 = .ok (.bipush 8, 2) := by decide +kernel
theorem dX12_areRung_82 : decode cX12_areRung 82 = .ok (.idiv, 1) := by decide +kernel
theorem dX12_areRung_83 : decode cX12_areRung 83 = .ok (.istore_n 2, 1) := by decide +kernel
theorem dX12_areRung_84 : decode cX12_areRung 84 = .ok (.iinc 4 1, 3) := by decide +kernel
theorem dX12_areRung_87 : decode cX12_areRung 87 = .ok (.goto (-72), 3) := by decide +kernel
theorem dX12_areRung_90 : decode cX12_areRung 90 = .ok (.iload_n 3, 1) := by decide +kernel
theorem dX12_areRung_91 : decode cX12_areRung 91 = .ok (.ifCond .eq 11, 3) := by decide +kernel
theorem dX12_areRung_94 : decode cX12_areRung 94 = .ok (.iload_n 2, 1) := by decide +kernel
theorem dX12_areRung_95 : decode cX12_areRung 95 = .ok (.ifCond .ne 7, 3) := by decide +kernel
theorem dX12_areRung_98 : decode cX12_areRung 98 = .ok (.iconst 1, 1) := by decide +kernel
theorem dX12_areRung_99 : decode cX12_areRung 99 = .ok (.goto 4, 3) := by decide +kernel
theorem dX12_areRung_102 : decode cX12_areRung 102 = .ok (.iconst 0, 1) := by decide +kernel
theorem dX12_areRung_103 : decode cX12_areRung 103 = .ok (.ireturn, 1) := by decide +kernel
noncomputable def F_X12_areRung_15 (k90 : Int32 → Int32 → m_M → Option (Int32 × m_M)) : Nat → Nat → Int32 → Int32 → Int32 → m_M → Option (Int32 × m_M)
  | 0, _, _, _, _, _ => none
  | n + 1, v1, v2, v3, v4, M =>
    if (3 : Int32) ≤ v4 then (
      k90 v2 v3 M
    ) else
    m_let (fun (v5 : Nat) (v6 : Int32) (v7 : Int32) (v8 : Int32) (M1 : m_M) =>
      x_nz (8 : Int32) <|
      m_let (v6 / (8 : Int32)) fun v9 =>
      m_let (v7 + (1 : Int32)) fun v10 =>
      F_X12_areRung_15 k90 n v5 v9 v8 v10 M1
    ) fun (k78 : Nat → Int32 → Int32 → Int32 → m_M → Option (Int32 × m_M)) =>
    m_let (fun (v11 : Nat) (v12 : Int32) (v13 : Int32) (M2 : m_M) =>
      k78 v11 v12 v13 (0 : Int32) M2
    ) fun (k77 : Nat → Int32 → Int32 → m_M → Option (Int32 × m_M)) =>
    x_gN 10 M v1 70 fun v14 =>
    x_nz (8 : Int32) <|
    x_sI 12 M v14 v4 (v2 - v2 / (8 : Int32) * (8 : Int32)) fun M3 =>
    if v3 = 0 then (
      k77 v1 v2 v4 M3
    ) else
    x_gN 10 M3 v1 70 fun v15 =>
    x_aI 12 M3 v15 v4 fun v16 =>
    x_gN 10 M3 v1 10 fun v17 =>
    x_aI 12 M3 v17 (3 : Int32) fun v18 =>
    if v18 < v16 then (
      k77 v1 v2 v4 M3
    ) else
    m_let (fun (v19 : Nat) (v20 : Int32) (v21 : Int32) (M4 : m_M) =>
      k78 v19 v20 v21 (1 : Int32) M4
    ) fun (k73 : Nat → Int32 → Int32 → m_M → Option (Int32 × m_M)) =>
    x_gN 10 M3 v1 10 fun v22 =>
    x_aI 12 M3 v22 (4 : Int32) fun v23 =>
    if v4 < v23 then (
      k73 v1 v2 v4 M3
    ) else
    x_gN 10 M3 v1 70 fun v24 =>
    x_aI 12 M3 v24 v4 fun v25 =>
    if v25 = 0 then (
      k73 v1 v2 v4 M3
    ) else
    k77 v1 v2 v4 M3
noncomputable def F_X12_areRung (a0 : Nat) (a1 : Int32) (M : m_M) : Option (Int32 × m_M) :=
  m_let (fun (v1 : Nat) (v2 : Int32) (v3 : Int32) (M1 : m_M) =>
    m_let (fun (v4 : Int32) (v5 : Int32) (M2 : m_M) =>
      m_let (fun  (M3 : m_M) =>
        some ((0 : Int32), M3)
      ) fun (k102 : m_M → Option (Int32 × m_M)) =>
      if v5 = 0 then (
        k102 M2
      ) else
      if v4 = 0 then (
        some ((1 : Int32), M2)
      ) else
      k102 M2
    ) fun (k90 : Int32 → Int32 → m_M → Option (Int32 × m_M)) =>
    F_X12_areRung_15 k90 m_FU v1 v2 v3 (0 : Int32) M1
  ) fun (k11 : Nat → Int32 → Int32 → m_M → Option (Int32 × m_M)) =>
  if a1 < 0 then (
    k11 a0 a1 (0 : Int32) M
  ) else
  k11 a0 a1 (1 : Int32) M
set_option maxHeartbeats 4000000 in
theorem L_X12_areRung_15 {X : j_X} {Φ : Option Value → m_M → Prop} (C : j_C X yX12_areRung cX12_areRung 5 (some .boolean) 1 0 0 Φ) {k90 : Int32 → Int32 → m_M → Option (Int32 × m_M)} (hk90 : ∀ (p0 : Int32) (p1 : Int32) (M : m_M), m_ok e_I Φ (k90 p0 p1 M) → j_J X 5 90 [none, none, some (.int p0), some (.int p1), none] [] (0, 0) M) : ∀ (n : Nat) (v1 : Nat) (v2 : Int32) (v3 : Int32) (v4 : Int32) (M : m_M), m_ok e_I Φ (F_X12_areRung_15 k90 n v1 v2 v3 v4 M) → j_J X 5 15 [some (.ref v1), none, some (.int v2), some (.int v3), some (.int v4)] [] (0, 0) M := by
  have C0 := C.1
  intro n
  induction n with
  | zero => intro v1 v2 v3 v4 M h; exact False.elim h
  | succ n ih =>
    intro v1 v2 v3 v4 M h
    rw [F_X12_areRung_15] at h
    refine j_iload C0 (pc := 15) dX12_areRung_15 rfl ?_
    refine j_iconst C0 (pc := 17) dX12_areRung_17 (v := (3 : Int32)) (by decide) ?_
    refine j_icmp_ge C0 (pc := 18) (tgt := 90) dX12_areRung_18 (by decide) (fun hc => ?_) (fun hc => ?_)
    · replace h := (X_if h).1 hc
      exact j_J.wq (hk90 v2 v3 M h) (And.intro rfl (And.intro rfl (trivial)))
    · replace h := (X_if h).2 hc
      refine X_join (fun (kj : Nat → Int32 → Int32 → Int32 → m_M → Option (Int32 × m_M)) => ∀ (p0 : Nat) (p1 : Int32) (p2 : Int32) (p3 : Int32) (M : m_M), m_ok e_I Φ (kj p0 p1 p2 p3 M) → j_J X 5 78 [some (.ref p0), none, some (.int p1), none, some (.int p2)] [.int p3] (0, 0) M) h (fun v5 v6 v7 v8 M1 h => ?_) (fun k78 hk78 h => ?_)
      · refine j_istore_n C0 (pc := 78) dX12_areRung_78 (Nat.le_of_ble_eq_true rfl) ?_
        show j_J X 5 79 [some (.ref v5), none, some (.int v6), some (.int v8), some (.int v7)] [] (0, 0) M1
        refine j_iload_n C0 (pc := 79) dX12_areRung_79 rfl ?_
        refine j_bipush C0 (pc := 80) dX12_areRung_80 (v := (8 : Int32)) (by decide) ?_
        refine X_idiv C0 (pc := 82) dX12_areRung_82 h (fun h => ?_)
        refine X_let (G := fun w => j_J X 5 83 [some (.ref v5), none, some (.int v6), some (.int v8), some (.int v7)] (.int w :: []) (0, 0) M1) h (fun v9 h => ?_)
        refine j_istore_n C0 (pc := 83) dX12_areRung_83 (Nat.le_of_ble_eq_true rfl) ?_
        show j_J X 5 84 [some (.ref v5), none, some (.int v9), some (.int v8), some (.int v7)] [] (0, 0) M1
        refine j_iinc C0 (pc := 84) dX12_areRung_84 (v := v7 + (1 : Int32)) rfl (Nat.le_of_ble_eq_true rfl) (by rfl) ?_
        refine X_let (G := fun w => j_J X 5 87 [some (.ref v5), none, some (.int v9), some (.int v8), some (.int w)] [] (0, 0) M1) h (fun v10 h => ?_)
        refine j_goto C0 (pc := 87) (tgt := 15) dX12_areRung_87 (by decide) ?_
        exact j_J.wq (ih v5 v9 v8 v10 M1 h) (And.intro rfl (And.intro rfl (And.intro rfl (And.intro rfl (trivial)))))
      · refine X_join (fun (kj : Nat → Int32 → Int32 → m_M → Option (Int32 × m_M)) => ∀ (p0 : Nat) (p1 : Int32) (p2 : Int32) (M : m_M), m_ok e_I Φ (kj p0 p1 p2 M) → j_J X 5 77 [some (.ref p0), none, some (.int p1), none, some (.int p2)] [] (0, 0) M) h (fun v11 v12 v13 M2 h => ?_) (fun k77 hk77 h => ?_)
        · refine j_iconst C0 (pc := 77) dX12_areRung_77 (v := (0 : Int32)) (by decide) ?_
          exact j_J.wq (hk78 v11 v12 v13 (0 : Int32) M2 h) (And.intro rfl (And.intro rfl (And.intro rfl (trivial))))
        · refine j_aload_n C0 (pc := 21) dX12_areRung_21 rfl ?_
          refine X_gN C0 (pc := 22) f_OM_147_10 rfl dX12_areRung_22 h (fun v14 h => ?_)
          refine j_iload C0 (pc := 25) dX12_areRung_25 rfl ?_
          refine j_iload_n C0 (pc := 27) dX12_areRung_27 rfl ?_
          refine j_bipush C0 (pc := 28) dX12_areRung_28 (v := (8 : Int32)) (by decide) ?_
          refine X_irem C0 (pc := 30) dX12_areRung_30 h (fun h => ?_)
          refine X_iast C0 (pc := 31) dX12_areRung_31 h (fun M3 h => ?_)
          refine j_iload_n C0 (pc := 32) dX12_areRung_32 rfl ?_
          refine j_if_eq C0 (pc := 33) (tgt := 77) dX12_areRung_33 (by decide) (fun hc => ?_) (fun hc => ?_)
          · replace h := (X_if h).1 hc
            exact j_J.wq (hk77 v1 v2 v4 M3 h) (And.intro rfl (And.intro rfl (And.intro rfl (trivial))))
          · replace h := (X_if h).2 hc
            refine j_aload_n C0 (pc := 36) dX12_areRung_36 rfl ?_
            refine X_gN C0 (pc := 37) f_OM_147_10 rfl dX12_areRung_37 h (fun v15 h => ?_)
            refine j_iload C0 (pc := 40) dX12_areRung_40 rfl ?_
            refine X_iald C0 (pc := 42) dX12_areRung_42 h (fun v16 h => ?_)
            refine j_aload_n C0 (pc := 43) dX12_areRung_43 rfl ?_
            refine X_gN C0 (pc := 44) f_OM_13_10 rfl dX12_areRung_44 h (fun v17 h => ?_)
            refine j_iconst C0 (pc := 47) dX12_areRung_47 (v := (3 : Int32)) (by decide) ?_
            refine X_iald C0 (pc := 48) dX12_areRung_48 h (fun v18 h => ?_)
            refine j_icmp_gt C0 (pc := 49) (tgt := 77) dX12_areRung_49 (by decide) (fun hc => ?_) (fun hc => ?_)
            · replace h := (X_if h).1 hc
              exact j_J.wq (hk77 v1 v2 v4 M3 h) (And.intro rfl (And.intro rfl (And.intro rfl (trivial))))
            · replace h := (X_if h).2 hc
              refine X_join (fun (kj : Nat → Int32 → Int32 → m_M → Option (Int32 × m_M)) => ∀ (p0 : Nat) (p1 : Int32) (p2 : Int32) (M : m_M), m_ok e_I Φ (kj p0 p1 p2 M) → j_J X 5 73 [some (.ref p0), none, some (.int p1), none, some (.int p2)] [] (0, 0) M) h (fun v19 v20 v21 M4 h => ?_) (fun k73 hk73 h => ?_)
              · refine j_iconst C0 (pc := 73) dX12_areRung_73 (v := (1 : Int32)) (by decide) ?_
                refine j_goto C0 (pc := 74) (tgt := 78) dX12_areRung_74 (by decide) ?_
                exact j_J.wq (hk78 v19 v20 v21 (1 : Int32) M4 h) (And.intro rfl (And.intro rfl (And.intro rfl (trivial))))
              · refine j_iload C0 (pc := 52) dX12_areRung_52 rfl ?_
                refine j_aload_n C0 (pc := 54) dX12_areRung_54 rfl ?_
                refine X_gN C0 (pc := 55) f_OM_13_10 rfl dX12_areRung_55 h (fun v22 h => ?_)
                refine j_iconst C0 (pc := 58) dX12_areRung_58 (v := (4 : Int32)) (by decide) ?_
                refine X_iald C0 (pc := 59) dX12_areRung_59 h (fun v23 h => ?_)
                refine j_icmp_lt C0 (pc := 60) (tgt := 73) dX12_areRung_60 (by decide) (fun hc => ?_) (fun hc => ?_)
                · replace h := (X_if h).1 hc
                  exact j_J.wq (hk73 v1 v2 v4 M3 h) (And.intro rfl (And.intro rfl (And.intro rfl (trivial))))
                · replace h := (X_if h).2 hc
                  refine j_aload_n C0 (pc := 63) dX12_areRung_63 rfl ?_
                  refine X_gN C0 (pc := 64) f_OM_147_10 rfl dX12_areRung_64 h (fun v24 h => ?_)
                  refine j_iload C0 (pc := 67) dX12_areRung_67 rfl ?_
                  refine X_iald C0 (pc := 69) dX12_areRung_69 h (fun v25 h => ?_)
                  refine j_if_ne C0 (pc := 70) (tgt := 77) dX12_areRung_70 (by decide) (fun hc => ?_) (fun hc => ?_)
                  · replace h := (X_if h).2 hc
                    exact j_J.wq (hk77 v1 v2 v4 M3 h) (And.intro rfl (And.intro rfl (And.intro rfl (trivial))))
                  · replace h := (X_if h).1 hc
                    exact j_J.wq (hk73 v1 v2 v4 M3 h) (And.intro rfl (And.intro rfl (And.intro rfl (trivial))))
set_option maxHeartbeats 4000000 in
theorem K_X12_areRung (a0 : Nat) (a1 : Int32) (M : m_M) (Φ : Option Value → m_M → Prop) (h : m_ok e_I Φ (F_X12_areRung a0 a1 M)) : j_Ct yX12_areRung cX12_areRung 5 (some .boolean) 1 0 0 [.ref a0, .int a1] M Φ := by
  refine j_Ct.of (by decide +kernel) (Nat.le_of_ble_eq_true rfl) fun X C => ?_
  have C0 := C.1
  show j_J X 5 0 [some (.ref a0), some (.int a1), none, none, none] [] (0, 0) M
  unfold F_X12_areRung at h
  refine X_join (fun (kj : Nat → Int32 → Int32 → m_M → Option (Int32 × m_M)) => ∀ (p0 : Nat) (p1 : Int32) (p2 : Int32) (M : m_M), m_ok e_I Φ (kj p0 p1 p2 M) → j_J X 5 11 [some (.ref p0), none, some (.int p1), none, none] [.int p2] (0, 0) M) h (fun v1 v2 v3 M1 h => ?_) (fun k11 hk11 h => ?_)
  · refine j_istore_n C0 (pc := 11) dX12_areRung_11 (Nat.le_of_ble_eq_true rfl) ?_
    show j_J X 5 12 [some (.ref v1), none, some (.int v2), some (.int v3), none] [] (0, 0) M1
    refine j_iconst C0 (pc := 12) dX12_areRung_12 (v := (0 : Int32)) (by decide) ?_
    refine j_istore C0 (pc := 13) dX12_areRung_13 (Nat.le_of_ble_eq_true rfl) ?_
    show j_J X 5 15 [some (.ref v1), none, some (.int v2), some (.int v3), some (.int (0 : Int32))] [] (0, 0) M1
    refine X_join (fun (kj : Int32 → Int32 → m_M → Option (Int32 × m_M)) => ∀ (p0 : Int32) (p1 : Int32) (M : m_M), m_ok e_I Φ (kj p0 p1 M) → j_J X 5 90 [none, none, some (.int p0), some (.int p1), none] [] (0, 0) M) h (fun v4 v5 M2 h => ?_) (fun k90 hk90 h => ?_)
    · refine X_join (fun (kj : m_M → Option (Int32 × m_M)) => ∀  (M : m_M), m_ok e_I Φ (kj M) → j_J X 5 102 [none, none, none, none, none] [] (0, 0) M) h (fun M3 h => ?_) (fun k102 hk102 h => ?_)
      · refine j_iconst C0 (pc := 102) dX12_areRung_102 (v := (0 : Int32)) (by decide) ?_
        exact j_zret C rfl (by decide) h dX12_areRung_103 (by decide)
      · refine j_iload_n C0 (pc := 90) dX12_areRung_90 rfl ?_
        refine j_if_eq C0 (pc := 91) (tgt := 102) dX12_areRung_91 (by decide) (fun hc => ?_) (fun hc => ?_)
        · replace h := (X_if h).1 hc
          exact j_J.wq (hk102 M2 h) (trivial)
        · replace h := (X_if h).2 hc
          refine j_iload_n C0 (pc := 94) dX12_areRung_94 rfl ?_
          refine j_if_ne C0 (pc := 95) (tgt := 102) dX12_areRung_95 (by decide) (fun hc => ?_) (fun hc => ?_)
          · replace h := (X_if h).2 hc
            exact j_J.wq (hk102 M2 h) (trivial)
          · replace h := (X_if h).1 hc
            refine j_iconst C0 (pc := 98) dX12_areRung_98 (v := (1 : Int32)) (by decide) ?_
            refine j_goto C0 (pc := 99) (tgt := 103) dX12_areRung_99 (by decide) ?_
            exact j_zret C rfl (by decide) h dX12_areRung_103 (by decide)
    · exact j_J.wq (L_X12_areRung_15 C hk90 m_FU v1 v2 v3 (0 : Int32) M1 h) (And.intro rfl (And.intro rfl (And.intro rfl (And.intro rfl (trivial)))))
  · refine j_iload_n C0 (pc := 0) dX12_areRung_0 rfl ?_
    refine j_istore_n C0 (pc := 1) dX12_areRung_1 (Nat.le_of_ble_eq_true rfl) ?_
    show j_J X 5 2 [some (.ref a0), some (.int a1), some (.int a1), none, none] [] (0, 0) M
    refine j_iload_n C0 (pc := 2) dX12_areRung_2 rfl ?_
    refine j_if_lt C0 (pc := 3) (tgt := 10) dX12_areRung_3 (by decide) (fun hc => ?_) (fun hc => ?_)
    · replace h := (X_if h).1 hc
      refine j_iconst C0 (pc := 10) dX12_areRung_10 (v := (0 : Int32)) (by decide) ?_
      exact j_J.wq (hk11 a0 a1 (0 : Int32) M h) (And.intro rfl (And.intro rfl (trivial)))
    · replace h := (X_if h).2 hc
      refine j_iconst C0 (pc := 6) dX12_areRung_6 (v := (1 : Int32)) (by decide) ?_
      refine j_goto C0 (pc := 7) (tgt := 11) dX12_areRung_7 (by decide) ?_
      exact j_J.wq (hk11 a0 a1 (1 : Int32) M h) (And.intro rfl (And.intro rfl (trivial)))
theorem dX12_signAt_0 : decode cX12_signAt 0 = .ok (.iload_n 1, 1) := by decide +kernel
theorem dX12_signAt_1 : decode cX12_signAt 1 = .ok (.aload_n 0, 1) := by decide +kernel
theorem dX12_signAt_2 : decode cX12_signAt 2 = .ok (.getfield 172, 3) := by decide +kernel
theorem dX12_signAt_5 : decode cX12_signAt 5 = .ok (.if_icmp .ge 12, 3) := by decide +kernel
theorem dX12_signAt_8 : decode cX12_signAt 8 = .ok (.aload_n 0, 1) := by decide +kernel
theorem dX12_signAt_9 : decode cX12_signAt 9 = .ok (.getfield 7, 3) := by decide +kernel
theorem dX12_signAt_12 : decode cX12_signAt 12 = .ok (.iload_n 1, 1) := by decide +kernel
theorem dX12_signAt_13 : decode cX12_signAt 13 = .ok (.iaload, 1) := by decide +kernel
theorem dX12_signAt_14 : decode cX12_signAt 14 = .ok (.goto 4, 3) := by decide +kernel
theorem dX12_signAt_17 : decode cX12_signAt 17 = .ok (.iconst 0, 1) := by decide +kernel
theorem dX12_signAt_18 : decode cX12_signAt 18 = .ok (.ireturn, 1) := by decide +kernel
noncomputable def F_X12_signAt (a0 : Nat) (a1 : Int32) (M : m_M) : Option (Int32 × m_M) :=
  x_gI 10 M a0 3 fun v1 =>
  if v1 ≤ a1 then (
    some ((0 : Int32), M)
  ) else
  x_gN 10 M a0 2 fun v2 =>
  x_aI 12 M v2 a1 fun v3 =>
  some (v3, M)
set_option maxHeartbeats 4000000 in
theorem K_X12_signAt (a0 : Nat) (a1 : Int32) (M : m_M) (Φ : Option Value → m_M → Prop) (h : m_ok e_I Φ (F_X12_signAt a0 a1 M)) : j_Ct yX12_signAt cX12_signAt 2 (some .int) 1 0 0 [.ref a0, .int a1] M Φ := by
  refine j_Ct.of (by decide +kernel) (Nat.le_of_ble_eq_true rfl) fun X C => ?_
  have C0 := C.1
  show j_J X 2 0 [some (.ref a0), some (.int a1)] [] (0, 0) M
  unfold F_X12_signAt at h
  refine j_iload_n C0 (pc := 0) dX12_signAt_0 rfl ?_
  refine j_aload_n C0 (pc := 1) dX12_signAt_1 rfl ?_
  refine X_gI C0 (pc := 2) f_OM_172_10 rfl dX12_signAt_2 h (fun v1 h => ?_)
  refine j_icmp_ge C0 (pc := 5) (tgt := 17) dX12_signAt_5 (by decide) (fun hc => ?_) (fun hc => ?_)
  · replace h := (X_if h).1 hc
    refine j_iconst C0 (pc := 17) dX12_signAt_17 (v := (0 : Int32)) (by decide) ?_
    exact j_iret C rfl h dX12_signAt_18 (by decide)
  · replace h := (X_if h).2 hc
    refine j_aload_n C0 (pc := 8) dX12_signAt_8 rfl ?_
    refine X_gN C0 (pc := 9) f_OM_7_10 rfl dX12_signAt_9 h (fun v2 h => ?_)
    refine j_iload_n C0 (pc := 12) dX12_signAt_12 rfl ?_
    refine X_iald C0 (pc := 13) dX12_signAt_13 h (fun v3 h => ?_)
    refine j_goto C0 (pc := 14) (tgt := 18) dX12_signAt_14 (by decide) ?_
    exact j_iret C rfl h dX12_signAt_18 (by decide)
theorem dX12_nextToken_0 : decode cX12_nextToken 0 = .ok (.aload_n 0, 1) := by decide +kernel
theorem dX12_nextToken_1 : decode cX12_nextToken 1 = .ok (.getfield 175, 3) := by decide +kernel
theorem dX12_nextToken_4 : decode cX12_nextToken 4 = .ok (.aload_n 0, 1) := by decide +kernel
theorem dX12_nextToken_5 : decode cX12_nextToken 5 = .ok (.getfield 172, 3) := by decide +kernel
theorem dX12_nextToken_8 : decode cX12_nextToken 8 = .ok (.if_icmp .ge 44, 3) := by decide +kernel
theorem dX12_nextToken_11 : decode cX12_nextToken 11 = .ok (.aload_n 0, 1) := by decide +kernel
theorem dX12_nextToken_12 : decode cX12_nextToken 12 = .ok (.getfield 7, 3) := by decide +kernel
theorem dX12_nextToken_15 : decode cX12_nextToken 15 = .ok (.aload_n 0, 1) := by decide +kernel
theorem dX12_nextToken_16 : decode cX12_nextToken 16 = .ok (.getfield 175, 3) := by decide +kernel
theorem dX12_nextToken_19 : decode cX12_nextToken 19 = .ok (.iaload, 1) := by decide +kernel
theorem dX12_nextToken_20 : decode cX12_nextToken 20 = .ok (.bipush 32, 2) := by decide +kernel
theorem dX12_nextToken_22 : decode cX12_nextToken 22 = .ok (.if_icmp .eq 17, 3) := by decide +kernel
theorem dX12_nextToken_25 : decode cX12_nextToken 25 = .ok (.aload_n 0, 1) := by decide +kernel
theorem dX12_nextToken_26 : decode cX12_nextToken 26 = .ok (.getfield 7, 3) := by decide +kernel
theorem dX12_nextToken_29 : decode cX12_nextToken 29 = .ok (.aload_n 0, 1) := by decide +kernel
theorem dX12_nextToken_30 : decode cX12_nextToken 30 = .ok (.getfield 175, 3) := by decide +kernel
theorem dX12_nextToken_33 : decode cX12_nextToken 33 = .ok (.iaload, 1) := by decide +kernel
theorem dX12_nextToken_34 : decode cX12_nextToken 34 = .ok (.bipush 10, 2) := by decide +kernel
theorem dX12_nextToken_36 : decode cX12_nextToken 36 = .ok (.if_icmp .ne 16, 3) := by decide +kernel
theorem dX12_nextToken_39 : decode cX12_nextToken 39 = .ok (.aload_n 0, 1) := by decide +kernel
theorem dX12_nextToken_40 : decode cX12_nextToken 40 = .ok (.dup, 1) := by decide +kernel
theorem dX12_nextToken_41 : decode cX12_nextToken 41 = .ok (.getfield 175, 3) := by decide +kernel
theorem dX12_nextToken_44 : decode cX12_nextToken 44 = .ok (.iconst 1, 1) := by decide +kernel
theorem dX12_nextToken_45 : decode cX12_nextToken 45 = .ok (.iadd, 1) := by decide +kernel
theorem dX12_nextToken_46 : decode cX12_nextToken 46 = .ok (.putfield 175, 3) := by decide +kernel
theorem dX12_nextToken_49 : decode cX12_nextToken 49 = .ok (.goto (-49), 3) := by decide +kernel
theorem dX12_nextToken_52 : decode cX12_nextToken 52 = .ok (.aload_n 0, 1) := by decide +kernel
theorem dX12_nextToken_53 : decode cX12_nextToken 53 = .ok (.aload_n 0, 1) := by decide +kernel
theorem dX12_nextToken_54 : decode cX12_nextToken 54 = .ok (.getfield 175, 3) := by decide +kernel
theorem dX12_nextToken_57 : decode cX12_nextToken 57 = .ok (.putfield 178, 3) := by decide +kernel
theorem dX12_nextToken_60 : decode cX12_nextToken 60 = .ok (.aload_n 0, 1) := by decide +kernel
theorem dX12_nextToken_61 : decode cX12_nextToken 61 = .ok (.lconst 0, 1) := by decide +kernel
theorem dX12_nextToken_62 : decode cX12_nextToken 62 = .ok (.putfield 181, 3) := by decide +kernel
theorem dX12_nextToken_65 : decode cX12_nextToken 65 = .ok (.aload_n 0, 1) := by decide +kernel
theorem dX12_nextToken_66 : decode cX12_nextToken 66 = .ok (.iconst 0, 1) := by decide +kernel
theorem dX12_nextToken_67 : decode cX12_nextToken 67 = .ok (.putfield 185, 3) := by decide +kernel
theorem dX12_nextToken_70 : decode cX12_nextToken 70 = .ok (.aload_n 0, 1) := by decide +kernel
theorem dX12_nextToken_71 : decode cX12_nextToken 71 = .ok (.getfield 175, 3) := by decide +kernel
theorem dX12_nextToken_74 : decode cX12_nextToken 74 = .ok (.aload_n 0, 1) := by decide +kernel
theorem dX12_nextToken_75 : decode cX12_nextToken 75 = .ok (.getfield 172, 3) := by decide +kernel
theorem dX12_nextToken_78 : decode cX12_nextToken 78 = .ok (.if_icmp .ne 9, 3) := by decide +kernel
theorem dX12_nextToken_81 : decode cX12_nextToken 81 = .ok (.aload_n 0, 1) := by decide +kernel
theorem dX12_nextToken_82 : decode cX12_nextToken 82 = .ok (.iconst 0, 1) := by decide +kernel
theorem dX12_nextToken_83 : decode cX12_nextToken 83 = .ok (.putfield 188, 3) := by decide +kernel
theorem dX12_nextToken_86 : decode cX12_nextToken 86 = .ok (.return_, 1) := by decide +kernel
theorem dX12_nextToken_87 : decode cX12_nextToken 87 = .ok (.aload_n 0, 1) := by decide +kernel
theorem dX12_nextToken_88 : decode cX12_nextToken 88 = .ok (.getfield 7, 3) := by decide +kernel
theorem dX12_nextToken_91 : decode cX12_nextToken 91 = .ok (.aload_n 0, 1) := by decide +kernel
theorem dX12_nextToken_92 : decode cX12_nextToken 92 = .ok (.getfield 175, 3) := by decide +kernel
theorem dX12_nextToken_95 : decode cX12_nextToken 95 = .ok (.iaload, 1) := by decide +kernel
theorem dX12_nextToken_96 : decode cX12_nextToken 96 = .ok (.istore_n 1, 1) := by decide +kernel
theorem dX12_nextToken_97 : decode cX12_nextToken 97 = .ok (.iload_n 1, 1) := by decide +kernel
theorem dX12_nextToken_98 : decode cX12_nextToken 98 = .ok (.bipush 97, 2) := by decide +kernel
theorem dX12_nextToken_100 : decode cX12_nextToken 100 = .ok (.if_icmp .lt 112, 3) := by decide +kernel
theorem dX12_nextToken_103 : decode cX12_nextToken 103 = .ok (.iload_n 1, 1) := by decide +kernel
theorem dX12_nextToken_104 : decode cX12_nextToken 104 = .ok (.bipush 122, 2) := by decide +kernel
theorem dX12_nextToken_106 : decode cX12_nextToken 106 = .ok (.if_icmp .gt 106, 3) := by decide +kernel
theorem dX12_nextToken_109 : decode cX12_nextToken 109 = .ok (.aload_n 0, 1) := by decide +kernel
theorem dX12_nextToken_110 : decode cX12_nextToken 110 = .ok (.aload_n 0, 1) := by decide +kernel
theorem dX12_nextToken_111 : decode cX12_nextToken 111 = .ok (.getfield 175, 3) := by decide +kernel
theorem dX12_nextToken_114 : decode cX12_nextToken 114 = .ok (.invokevirtual 191, 3) := by decide +kernel
theorem dX12_nextToken_117 : decode cX12_nextToken 117 = .ok (.bipush 97, 2) := by decide +kernel
theorem dX12_nextToken_119 : decode cX12_nextToken 119 = .ok (.if_icmp .lt 69, 3) := by decide +kernel
theorem dX12_nextToken_122 : decode cX12_nextToken 122 = .ok (.aload_n 0, 1) := by decide +kernel
theorem dX12_nextToken_123 : decode cX12_nextToken 123 = .ok (.aload_n 0, 1) := by decide +kernel
theorem dX12_nextToken_124 : decode cX12_nextToken 124 = .ok (.getfield 175, 3) := by decide +kernel
theorem dX12_nextToken_127 : decode cX12_nextToken 127 = .ok (.invokevirtual 191, 3) := by decide +kernel
theorem dX12_nextToken_130 : decode cX12_nextToken 130 = .ok (.bipush 122, 2) := by decide +kernel
theorem dX12_nextToken_132 : decode cX12_nextToken 132 = .ok (.if_icmp .gt 56, 3) := by decide +kernel
theorem dX12_nextToken_135 : decode cX12_nextToken 135 = .ok (.aload_n 0, 1) := by decide +kernel
theorem dX12_nextToken_136 : decode cX12_nextToken 136 = .ok (.getfield 175, 3) := by decide +kernel
theorem dX12_nextToken_139 : decode cX12_nextToken 139 = .ok (.aload_n 0, 1) := by decide +kernel
theorem dX12_nextToken_140 : decode cX12_nextToken 140 = .ok (.getfield 178, 3) := by decide +kernel
theorem dX12_nextToken_143 : decode cX12_nextToken 143 = .ok (.isub, 1) := by decide +kernel
theorem dX12_nextToken_144 : decode cX12_nextToken 144 = .ok (.bipush 8, 2) := by decide +kernel
theorem dX12_nextToken_146 : decode cX12_nextToken 146 = .ok (.if_icmp .ge 29, 3) := by decide +kernel
theorem dX12_nextToken_149 : decode cX12_nextToken 149 = .ok (.aload_n 0, 1) := by decide +kernel
theorem dX12_nextToken_150 : decode cX12_nextToken 150 = .ok (.aload_n 0, 1) := by decide +kernel
theorem dX12_nextToken_151 : decode cX12_nextToken 151 = .ok (.getfield 181, 3) := by decide +kernel
theorem dX12_nextToken_154 : decode cX12_nextToken 154 = .ok (.ldc2_w 195, 3) := by decide +kernel
theorem dX12_nextToken_157 : decode cX12_nextToken 157 = .ok (.lmul, 1) := by decide +kernel
theorem dX12_nextToken_158 : decode cX12_nextToken 158 = .ok (.aload_n 0, 1) := by decide +kernel
theorem dX12_nextToken_159 : decode cX12_nextToken 159 = .ok (.aload_n 0, 1) := by decide +kernel
theorem dX12_nextToken_160 : decode cX12_nextToken 160 = .ok (.getfield 175, 3) := by decide +kernel
theorem dX12_nextToken_163 : decode cX12_nextToken 163 = .ok (.invokevirtual 191, 3) := by decide +kernel
theorem dX12_nextToken_166 : decode cX12_nextToken 166 = .ok (.i2l, 1) := by decide +kernel
theorem dX12_nextToken_167 : decode cX12_nextToken 167 = .ok (.ladd, 1) := by decide +kernel
theorem dX12_nextToken_168 : decode cX12_nextToken 168 = .ok (.ldc2_w 197, 3) := by decide +kernel
theorem dX12_nextToken_171 : decode cX12_nextToken 171 = .ok (.lsub, 1) := by decide +kernel
theorem dX12_nextToken_172 : decode cX12_nextToken 172 = .ok (.putfield 181, 3) := by decide +kernel
theorem dX12_nextToken_175 : decode cX12_nextToken 175 = .ok (.aload_n 0, 1) := by decide +kernel
theorem dX12_nextToken_176 : decode cX12_nextToken 176 = .ok (.dup, 1) := by decide +kernel
theorem dX12_nextToken_177 : decode cX12_nextToken 177 = .ok (.getfield 175, 3) := by decide +kernel
theorem dX12_nextToken_180 : decode cX12_nextToken 180 = .ok (.iconst 1, 1) := by decide +kernel
theorem dX12_nextToken_181 : decode cX12_nextToken 181 = .ok (.iadd, 1) := by decide +kernel
theorem dX12_nextToken_182 : decode cX12_nextToken 182 = .ok (.putfield 175, 3) := by decide +kernel
theorem dX12_nextToken_185 : decode cX12_nextToken 185 = .ok (.goto (-76), 3) := by decide +kernel
theorem dX12_nextToken_188 : decode cX12_nextToken 188 = .ok (.aload_n 0, 1) := by decide +kernel
theorem dX12_nextToken_189 : decode cX12_nextToken 189 = .ok (.aload_n 0, 1) := by decide +kernel
theorem dX12_nextToken_190 : decode cX12_nextToken 190 = .ok (.getfield 175, 3) := by decide +kernel
theorem dX12_nextToken_193 : decode cX12_nextToken 193 = .ok (.aload_n 0, 1) := by decide +kernel
theorem dX12_nextToken_194 : decode cX12_nextToken 194 = .ok (.getfield 178, 3) := by decide +kernel
theorem dX12_nextToken_197 : decode cX12_nextToken 197 = .ok (.isub, 1) := by decide +kernel
theorem dX12_nextToken_198 : decode cX12_nextToken 198 = .ok (.bipush 8, 2) := by decide +kernel
theorem dX12_nextToken_200 : decode cX12_nextToken 200 = .ok (.if_icmp .le 7, 3) := by decide +kernel
theorem dX12_nextToken_203 : decode cX12_nextToken 203 = .ok (.iconst 4, 1) := by decide +kernel
theorem dX12_nextToken_204 : decode cX12_nextToken 204 = .ok (.goto 4, 3) := by decide +kernel
theorem dX12_nextToken_207 : decode cX12_nextToken 207 = .ok (.iconst 1, 1) := by decide +kernel
theorem dX12_nextToken_208 : decode cX12_nextToken 208 = .ok (.putfield 188, 3) := by decide +kernel
theorem dX12_nextToken_211 : decode cX12_nextToken 211 = .ok (.return_, 1) := by decide +kernel
theorem dX12_nextToken_212 : decode cX12_nextToken 212 = .ok (.iload_n 1, 1) := by decide +kernel
theorem dX12_nextToken_213 : decode cX12_nextToken 213 = .ok (.bipush 48, 2) := by decide +kernel
theorem dX12_nextToken_215 : decode cX12_nextToken 215 = .ok (.if_icmp .lt 107, 3) := by decide +kernel
theorem dX12_nextToken_218 : decode cX12_nextToken 218 = .ok (.iload_n 1, 1) := by decide +kernel
theorem dX12_nextToken_219 : decode cX12_nextToken 219 = .ok (.bipush 57, 2) := by decide +kernel
theorem dX12_nextToken_221 : decode cX12_nextToken 221 = .ok (.if_icmp .gt 101, 3) := by decide +kernel
theorem dX12_nextToken_224 : decode cX12_nextToken 224 = .ok (.aload_n 0, 1) := by decide +kernel
theorem dX12_nextToken_225 : decode cX12_nextToken 225 = .ok (.aload_n 0, 1) := by decide +kernel
theorem dX12_nextToken_226 : decode cX12_nextToken 226 = .ok (.getfield 175, 3) := by decide +kernel
theorem dX12_nextToken_229 : decode cX12_nextToken 229 = .ok (.invokevirtual 191, 3) := by decide +kernel
theorem dX12_nextToken_232 : decode cX12_nextToken 232 = .ok (.bipush 48, 2) := by decide +kernel
theorem dX12_nextToken_234 : decode cX12_nextToken 234 = .ok (.if_icmp .lt 65, 3) := by decide +kernel
theorem dX12_nextToken_237 : decode cX12_nextToken 237 = .ok (.aload_n 0, 1) := by decide +kernel
theorem dX12_nextToken_238 : decode cX12_nextToken 238 = .ok (.aload_n 0, 1) := by decide +kernel
theorem dX12_nextToken_239 : decode cX12_nextToken 239 = .ok (.getfield 175, 3) := by decide +kernel
theorem dX12_nextToken_242 : decode cX12_nextToken 242 = .ok (.invokevirtual 191, 3) := by decide +kernel
theorem dX12_nextToken_245 : decode cX12_nextToken 245 = .ok (.bipush 57, 2) := by decide +kernel
theorem dX12_nextToken_247 : decode cX12_nextToken 247 = .ok (.if_icmp .gt 52, 3) := by decide +kernel
theorem dX12_nextToken_250 : decode cX12_nextToken 250 = .ok (.aload_n 0, 1) := by decide +kernel
theorem dX12_nextToken_251 : decode cX12_nextToken 251 = .ok (.getfield 175, 3) := by decide +kernel
theorem dX12_nextToken_254 : decode cX12_nextToken 254 = .ok (.aload_n 0, 1) := by decide +kernel
theorem dX12_nextToken_255 : decode cX12_nextToken 255 = .ok (.getfield 178, 3) := by decide +kernel
theorem dX12_nextToken_258 : decode cX12_nextToken 258 = .ok (.isub, 1) := by decide +kernel
theorem dX12_nextToken_259 : decode cX12_nextToken 259 = .ok (.iconst 4, 1) := by decide +kernel
theorem dX12_nextToken_260 : decode cX12_nextToken 260 = .ok (.if_icmp .ge 26, 3) := by decide +kernel
theorem dX12_nextToken_263 : decode cX12_nextToken 263 = .ok (.aload_n 0, 1) := by decide +kernel
theorem dX12_nextToken_264 : decode cX12_nextToken 264 = .ok (.aload_n 0, 1) := by decide +kernel
theorem dX12_nextToken_265 : decode cX12_nextToken 265 = .ok (.getfield 185, 3) := by decide +kernel
theorem dX12_nextToken_268 : decode cX12_nextToken 268 = .ok (.bipush 10, 2) := by decide +kernel
theorem dX12_nextToken_270 : decode cX12_nextToken 270 = .ok (.imul, 1) := by decide +kernel
theorem dX12_nextToken_271 : decode cX12_nextToken 271 = .ok (.aload_n 0, 1) := by decide +kernel
theorem dX12_nextToken_272 : decode cX12_nextToken 272 = .ok (.aload_n 0, 1) := by decide +kernel
theorem dX12_nextToken_273 : decode cX12_nextToken 273 = .ok (.getfield 175, 3) := by decide +kernel
theorem dX12_nextToken_276 : decode cX12_nextToken 276 = .ok (.invokevirtual 191, 3) := by decide +kernel
theorem dX12_nextToken_279 : decode cX12_nextToken 279 = .ok (.iadd, 1) := by decide +kernel
theorem dX12_nextToken_280 : decode cX12_nextToken 280 = .ok (.bipush 48, 2) := by decide +kernel
theorem dX12_nextToken_282 : decode cX12_nextToken 282 = .ok (.isub, 1) := by decide +kernel
theorem dX12_nextToken_283 : decode cX12_nextToken 283 = .ok (.putfield 185, 3) := by decide +kernel
theorem dX12_nextToken_286 : decode cX12_nextToken 286 = .ok (.aload_n 0, 1) := by decide +kernel
theorem dX12_nextToken_287 : decode cX12_nextToken 287 = .ok (.dup, 1) := by decide +kernel
theorem dX12_nextToken_288 : decode cX12_nextToken 288 = .ok (.getfield 175, 3) := by decide +kernel
theorem dX12_nextToken_291 : decode cX12_nextToken 291 = .ok (.iconst 1, 1) := by decide +kernel
theorem dX12_nextToken_292 : decode cX12_nextToken 292 = .ok (.iadd, 1) := by decide +kernel
theorem dX12_nextToken_293 : decode cX12_nextToken 293 = .ok (.putfield 175, 3) := by decide +kernel
theorem dX12_nextToken_296 : decode cX12_nextToken 296 = .ok (.goto (-72), 3) := by decide +kernel
theorem dX12_nextToken_299 : decode cX12_nextToken 299 = .ok (.aload_n 0, 1) := by decide +kernel
theorem dX12_nextToken_300 : decode cX12_nextToken 300 = .ok (.aload_n 0, 1) := by decide +kernel
theorem dX12_nextToken_301 : decode cX12_nextToken 301 = .ok (.getfield 175, 3) := by decide +kernel
theorem dX12_nextToken_304 : decode cX12_nextToken 304 = .ok (.aload_n 0, 1) := by decide +kernel
theorem dX12_nextToken_305 : decode cX12_nextToken 305 = .ok (.getfield 178, 3) := by decide +kernel
theorem dX12_nextToken_308 : decode cX12_nextToken 308 = .ok (.isub, 1) := by decide +kernel
theorem dX12_nextToken_309 : decode cX12_nextToken 309 = .ok (.iconst 4, 1) := by decide +kernel
theorem dX12_nextToken_310 : decode cX12_nextToken 310 = .ok (.if_icmp .le 7, 3) := by decide +kernel
theorem dX12_nextToken_313 : decode cX12_nextToken 313 = .ok (.iconst 4, 1) := by decide +kernel
theorem dX12_nextToken_314 : decode cX12_nextToken 314 = .ok (.goto 4, 3) := by decide +kernel
theorem dX12_nextToken_317 : decode cX12_nextToken 317 = .ok (.iconst 2, 1) := by decide +kernel
theorem dX12_nextToken_318 : decode cX12_nextToken 318 = .ok (.putfield 188, 3) := by decide +kernel
theorem dX12_nextToken_321 : decode cX12_nextToken 321 = .ok (.return_, 1) := by decide +kernel
theorem dX12_nextToken_322 : decode cX12_nextToken 322 = .ok (.aload_n 0, 1) := by decide +kernel
theorem dX12_nextToken_323 : decode cX12_nextToken 323 = .ok (.dup, 1) := by decide +kernel
theorem dX12_nextToken_324 : decode cX12_nextToken 324 = .ok (.getfield 175, 3) := by decide +kernel
theorem dX12_nextToken_327 : decode cX12_nextToken 327 = .ok (.iconst 1, 1) := by decide +kernel
theorem dX12_nextToken_328 : decode cX12_nextToken 328 = .ok (.iadd, 1) := by decide +kernel
theorem dX12_nextToken_329 : decode cX12_nextToken 329 = .ok (.putfield 175, 3) := by decide +kernel
theorem dX12_nextToken_332 : decode cX12_nextToken 332 = .ok (.aload_n 0, 1) := by decide +kernel
theorem dX12_nextToken_333 : decode cX12_nextToken 333 = .ok (.iload_n 1, 1) := by decide +kernel
theorem dX12_nextToken_334 : decode cX12_nextToken 334 = .ok (.bipush 40, 2) := by decide +kernel
theorem dX12_nextToken_336 : decode cX12_nextToken 336 = .ok (.if_icmp .lt 9, 3) := by decide +kernel
theorem dX12_nextToken_339 : decode cX12_nextToken 339 = .ok (.iload_n 1, 1) := by decide +kernel
theorem dX12_nextToken_340 : decode cX12_nextToken 340 = .ok (.bipush 43, 2) := by decide +kernel
theorem dX12_nextToken_342 : decode cX12_nextToken 342 = .ok (.if_icmp .le 21, 3) := by decide +kernel
theorem dX12_nextToken_345 : decode cX12_nextToken 345 = .ok (.iload_n 1, 1) := by decide +kernel
theorem dX12_nextToken_346 : decode cX12_nextToken 346 = .ok (.bipush 45, 2) := by decide +kernel
theorem dX12_nextToken_348 : decode cX12_nextToken 348 = .ok (.if_icmp .eq 15, 3) := by decide +kernel
theorem dX12_nextToken_351 : decode cX12_nextToken 351 = .ok (.iload_n 1, 1) := by decide +kernel
theorem dX12_nextToken_352 : decode cX12_nextToken 352 = .ok (.bipush 59, 2) := by decide +kernel
theorem dX12_nextToken_354 : decode cX12_nextToken 354 = .ok (.if_icmp .lt 13, 3) := by decide +kernel
theorem dX12_nextToken_357 : decode cX12_nextToken 357 = .ok (.iload_n 1, 1) := by decide +kernel
theorem dX12_nextToken_358 : decode cX12_nextToken 358 = .ok (.bipush 61, 2) := by decide +kernel
theorem dX12_nextToken_360 : decode cX12_nextToken 360 = .ok (.if_icmp .gt 7, 3) := by decide +kernel
theorem dX12_nextToken_363 : decode cX12_nextToken 363 = .ok (.iconst 3, 1) := by decide +kernel
theorem dX12_nextToken_364 : decode cX12_nextToken 364 = .ok (.goto 4, 3) := by decide +kernel
theorem dX12_nextToken_367 : decode cX12_nextToken 367 = .ok (.iconst 4, 1) := by decide +kernel
theorem dX12_nextToken_368 : decode cX12_nextToken 368 = .ok (.putfield 188, 3) := by decide +kernel
theorem dX12_nextToken_371 : decode cX12_nextToken 371 = .ok (.return_, 1) := by decide +kernel
noncomputable def F_X12_nextToken_224 (k299 : Nat → m_M → Option (Unit × m_M)) : Nat → Nat → m_M → Option (Unit × m_M)
  | 0, _, _ => none
  | n + 1, v1, M =>
    x_gI 10 M v1 4 fun v2 =>
    x_cV 10 M v1 (F_X12_signAt v1 v2 M) fun v3 M1 =>
    if v3 < (48 : Int32) then (
      k299 v1 M1
    ) else
    x_gI 10 M1 v1 4 fun v4 =>
    x_cV 10 M1 v1 (F_X12_signAt v1 v4 M1) fun v5 M2 =>
    if (57 : Int32) < v5 then (
      k299 v1 M2
    ) else
    m_let (fun (v6 : Nat) (M3 : m_M) =>
      x_gI 10 M3 v6 4 fun v7 =>
      x_pI 10 M3 v6 4 (v7 + (1 : Int32)) fun M4 =>
      F_X12_nextToken_224 k299 n v6 M4
    ) fun (k286 : Nat → m_M → Option (Unit × m_M)) =>
    x_gI 10 M2 v1 4 fun v8 =>
    x_gI 10 M2 v1 5 fun v9 =>
    if (4 : Int32) ≤ (v8 - v9) then (
      k286 v1 M2
    ) else
    x_gI 10 M2 v1 8 fun v10 =>
    x_gI 10 M2 v1 4 fun v11 =>
    x_cV 10 M2 v1 (F_X12_signAt v1 v11 M2) fun v12 M5 =>
    x_pI 10 M5 v1 8 (((v10 * (10 : Int32)) + v12) - (48 : Int32)) fun M6 =>
    k286 v1 M6
noncomputable def F_X12_nextToken_109 (k188 : Nat → m_M → Option (Unit × m_M)) : Nat → Nat → m_M → Option (Unit × m_M)
  | 0, _, _ => none
  | n + 1, v1, M =>
    x_gI 10 M v1 4 fun v2 =>
    x_cV 10 M v1 (F_X12_signAt v1 v2 M) fun v3 M1 =>
    if v3 < (97 : Int32) then (
      k188 v1 M1
    ) else
    x_gI 10 M1 v1 4 fun v4 =>
    x_cV 10 M1 v1 (F_X12_signAt v1 v4 M1) fun v5 M2 =>
    if (122 : Int32) < v5 then (
      k188 v1 M2
    ) else
    m_let (fun (v6 : Nat) (M3 : m_M) =>
      x_gI 10 M3 v6 4 fun v7 =>
      x_pI 10 M3 v6 4 (v7 + (1 : Int32)) fun M4 =>
      F_X12_nextToken_109 k188 n v6 M4
    ) fun (k175 : Nat → m_M → Option (Unit × m_M)) =>
    x_gI 10 M2 v1 4 fun v8 =>
    x_gI 10 M2 v1 5 fun v9 =>
    if (8 : Int32) ≤ (v8 - v9) then (
      k175 v1 M2
    ) else
    x_gL 10 M2 v1 7 fun v10 =>
    x_gI 10 M2 v1 4 fun v11 =>
    x_cV 10 M2 v1 (F_X12_signAt v1 v11 M2) fun v12 M5 =>
    x_pL 10 M5 v1 7 (((v10 * (27 : Int64)) + v12.toInt64) - (96 : Int64)) fun M6 =>
    k175 v1 M6
noncomputable def F_X12_nextToken_0 (k52 : Nat → m_M → Option (Unit × m_M)) : Nat → Nat → m_M → Option (Unit × m_M)
  | 0, _, _ => none
  | n + 1, v1, M =>
    x_gI 10 M v1 4 fun v2 =>
    x_gI 10 M v1 3 fun v3 =>
    if v3 ≤ v2 then (
      k52 v1 M
    ) else
    m_let (fun (v4 : Nat) (M1 : m_M) =>
      x_gI 10 M1 v4 4 fun v5 =>
      x_pI 10 M1 v4 4 (v5 + (1 : Int32)) fun M2 =>
      F_X12_nextToken_0 k52 n v4 M2
    ) fun (k39 : Nat → m_M → Option (Unit × m_M)) =>
    x_gN 10 M v1 2 fun v6 =>
    x_gI 10 M v1 4 fun v7 =>
    x_aI 12 M v6 v7 fun v8 =>
    if v8 = (32 : Int32) then (
      k39 v1 M
    ) else
    x_gN 10 M v1 2 fun v9 =>
    x_gI 10 M v1 4 fun v10 =>
    x_aI 12 M v9 v10 fun v11 =>
    if v11 = (10 : Int32) then (
      k39 v1 M
    ) else
    k52 v1 M
noncomputable def F_X12_nextToken (a0 : Nat) (M : m_M) : Option (Unit × m_M) :=
  m_let (fun (v1 : Nat) (M1 : m_M) =>
    x_gI 10 M1 v1 4 fun v2 =>
    x_pI 10 M1 v1 5 v2 fun M2 =>
    x_pL 10 M2 v1 7 (0 : Int64) fun M3 =>
    x_pI 10 M3 v1 8 (0 : Int32) fun M4 =>
    x_gI 10 M4 v1 4 fun v3 =>
    x_gI 10 M4 v1 3 fun v4 =>
    if v3 = v4 then (
      x_pI 10 M4 v1 6 (0 : Int32) fun M19 =>
      some ((), M19)
    ) else
    m_let (fun (v5 : Nat) (v6 : Int32) (M5 : m_M) =>
      m_let (fun (v7 : Nat) (v8 : Int32) (M6 : m_M) =>
        m_let (fun (v9 : Nat) (M7 : m_M) =>
          x_pI 10 M7 v9 6 (3 : Int32) fun M8 =>
          some ((), M8)
        ) fun (k363 : Nat → m_M → Option (Unit × m_M)) =>
        m_let (fun (v10 : Int32) (v11 : Nat) (M9 : m_M) =>
          if v10 = (45 : Int32) then (
            k363 v11 M9
          ) else
          m_let (fun (v12 : Nat) (M10 : m_M) =>
            x_pI 10 M10 v12 6 (4 : Int32) fun M11 =>
            some ((), M11)
          ) fun (k367 : Nat → m_M → Option (Unit × m_M)) =>
          if v10 < (59 : Int32) then (
            k367 v11 M9
          ) else
          if (61 : Int32) < v10 then (
            k367 v11 M9
          ) else
          k363 v11 M9
        ) fun (k345 : Int32 → Nat → m_M → Option (Unit × m_M)) =>
        x_gI 10 M6 v7 4 fun v13 =>
        x_pI 10 M6 v7 4 (v13 + (1 : Int32)) fun M12 =>
        if v8 < (40 : Int32) then (
          k345 v8 v7 M12
        ) else
        if v8 ≤ (43 : Int32) then (
          k363 v7 M12
        ) else
        k345 v8 v7 M12
      ) fun (k322 : Nat → Int32 → m_M → Option (Unit × m_M)) =>
      if v6 < (48 : Int32) then (
        k322 v5 v6 M5
      ) else
      if (57 : Int32) < v6 then (
        k322 v5 v6 M5
      ) else
      m_let (fun (v14 : Nat) (M13 : m_M) =>
        x_gI 10 M13 v14 4 fun v15 =>
        x_gI 10 M13 v14 5 fun v16 =>
        if (v15 - v16) ≤ (4 : Int32) then (
          x_pI 10 M13 v14 6 (2 : Int32) fun M14 =>
          some ((), M14)
        ) else
        x_pI 10 M13 v14 6 (4 : Int32) fun M15 =>
        some ((), M15)
      ) fun (k299 : Nat → m_M → Option (Unit × m_M)) =>
      F_X12_nextToken_224 k299 m_FU v5 M5
    ) fun (k212 : Nat → Int32 → m_M → Option (Unit × m_M)) =>
    x_gN 10 M4 v1 2 fun v17 =>
    x_gI 10 M4 v1 4 fun v18 =>
    x_aI 12 M4 v17 v18 fun v19 =>
    if v19 < (97 : Int32) then (
      k212 v1 v19 M4
    ) else
    if (122 : Int32) < v19 then (
      k212 v1 v19 M4
    ) else
    m_let (fun (v20 : Nat) (M16 : m_M) =>
      x_gI 10 M16 v20 4 fun v21 =>
      x_gI 10 M16 v20 5 fun v22 =>
      if (v21 - v22) ≤ (8 : Int32) then (
        x_pI 10 M16 v20 6 (1 : Int32) fun M17 =>
        some ((), M17)
      ) else
      x_pI 10 M16 v20 6 (4 : Int32) fun M18 =>
      some ((), M18)
    ) fun (k188 : Nat → m_M → Option (Unit × m_M)) =>
    F_X12_nextToken_109 k188 m_FU v1 M4
  ) fun (k52 : Nat → m_M → Option (Unit × m_M)) =>
  F_X12_nextToken_0 k52 m_FU a0 M
set_option maxHeartbeats 4000000 in
theorem L_X12_nextToken_224 {X : j_X} {Φ : Option Value → m_M → Prop} (C : j_C X yX12_nextToken cX12_nextToken 2 none 2 0 0 Φ) {k299 : Nat → m_M → Option (Unit × m_M)} (hk299 : ∀ (p0 : Nat) (M : m_M), m_ok e_V Φ (k299 p0 M) → j_J X 2 299 [some (.ref p0), none] [] (0, 0) M) : ∀ (n : Nat) (v1 : Nat) (M : m_M), m_ok e_V Φ (F_X12_nextToken_224 k299 n v1 M) → j_J X 2 224 [some (.ref v1), none] [] (0, 0) M := by
  have C0 := C.1
  intro n
  induction n with
  | zero => intro v1 M h; exact False.elim h
  | succ n ih =>
    intro v1 M h
    rw [F_X12_nextToken_224] at h
    refine j_aload_n C0 (pc := 224) dX12_nextToken_224 rfl ?_
    refine j_aload_n C0 (pc := 225) dX12_nextToken_225 rfl ?_
    refine X_gI C0 (pc := 226) f_OM_175_10 rfl dX12_nextToken_226 h (fun v2 h => ?_)
    refine X_cV C0 (pc := 229) (e' := e_I) (as := [.int v2]) (rest := []) (s' := fun w => .int w :: []) (g' := (0, 0)) v_OM_191_10 (fun Ψ hΨ => K_X12_signAt v1 v2 M Ψ hΨ) rfl rfl (fun _ => rfl) (by decide) (by decide) rfl (Nat.le_of_ble_eq_true rfl) dX12_nextToken_229 h (fun v3 M1 h => ?_)
    refine j_bipush C0 (pc := 232) dX12_nextToken_232 (v := (48 : Int32)) (by decide) ?_
    refine j_icmp_lt C0 (pc := 234) (tgt := 299) dX12_nextToken_234 (by decide) (fun hc => ?_) (fun hc => ?_)
    · replace h := (X_if h).1 hc
      exact j_J.wq (hk299 v1 M1 h) (And.intro rfl (trivial))
    · replace h := (X_if h).2 hc
      refine j_aload_n C0 (pc := 237) dX12_nextToken_237 rfl ?_
      refine j_aload_n C0 (pc := 238) dX12_nextToken_238 rfl ?_
      refine X_gI C0 (pc := 239) f_OM_175_10 rfl dX12_nextToken_239 h (fun v4 h => ?_)
      refine X_cV C0 (pc := 242) (e' := e_I) (as := [.int v4]) (rest := []) (s' := fun w => .int w :: []) (g' := (0, 0)) v_OM_191_10 (fun Ψ hΨ => K_X12_signAt v1 v4 M1 Ψ hΨ) rfl rfl (fun _ => rfl) (by decide) (by decide) rfl (Nat.le_of_ble_eq_true rfl) dX12_nextToken_242 h (fun v5 M2 h => ?_)
      refine j_bipush C0 (pc := 245) dX12_nextToken_245 (v := (57 : Int32)) (by decide) ?_
      refine j_icmp_gt C0 (pc := 247) (tgt := 299) dX12_nextToken_247 (by decide) (fun hc => ?_) (fun hc => ?_)
      · replace h := (X_if h).1 hc
        exact j_J.wq (hk299 v1 M2 h) (And.intro rfl (trivial))
      · replace h := (X_if h).2 hc
        refine X_join (fun (kj : Nat → m_M → Option (Unit × m_M)) => ∀ (p0 : Nat) (M : m_M), m_ok e_V Φ (kj p0 M) → j_J X 2 286 [some (.ref p0), none] [] (0, 0) M) h (fun v6 M3 h => ?_) (fun k286 hk286 h => ?_)
        · refine j_aload_n C0 (pc := 286) dX12_nextToken_286 rfl ?_
          refine j_dup C0 (pc := 287) dX12_nextToken_287 rfl ?_
          refine X_gI C0 (pc := 288) f_OM_175_10 rfl dX12_nextToken_288 h (fun v7 h => ?_)
          refine j_iconst C0 (pc := 291) dX12_nextToken_291 (v := (1 : Int32)) (by decide) ?_
          refine j_iadd C0 (pc := 292) dX12_nextToken_292 ?_
          refine X_pI C0 (pc := 293) f_OM_175_10 rfl rfl dX12_nextToken_293 h (fun M4 h => ?_)
          refine j_goto C0 (pc := 296) (tgt := 224) dX12_nextToken_296 (by decide) ?_
          exact j_J.wq (ih v6 M4 h) (And.intro rfl (trivial))
        · refine j_aload_n C0 (pc := 250) dX12_nextToken_250 rfl ?_
          refine X_gI C0 (pc := 251) f_OM_175_10 rfl dX12_nextToken_251 h (fun v8 h => ?_)
          refine j_aload_n C0 (pc := 254) dX12_nextToken_254 rfl ?_
          refine X_gI C0 (pc := 255) f_OM_178_10 rfl dX12_nextToken_255 h (fun v9 h => ?_)
          refine j_isub C0 (pc := 258) dX12_nextToken_258 ?_
          refine j_iconst C0 (pc := 259) dX12_nextToken_259 (v := (4 : Int32)) (by decide) ?_
          refine j_icmp_ge C0 (pc := 260) (tgt := 286) dX12_nextToken_260 (by decide) (fun hc => ?_) (fun hc => ?_)
          · replace h := (X_if h).1 hc
            exact j_J.wq (hk286 v1 M2 h) (And.intro rfl (trivial))
          · replace h := (X_if h).2 hc
            refine j_aload_n C0 (pc := 263) dX12_nextToken_263 rfl ?_
            refine j_aload_n C0 (pc := 264) dX12_nextToken_264 rfl ?_
            refine X_gI C0 (pc := 265) f_OM_185_10 rfl dX12_nextToken_265 h (fun v10 h => ?_)
            refine j_bipush C0 (pc := 268) dX12_nextToken_268 (v := (10 : Int32)) (by decide) ?_
            refine j_imul C0 (pc := 270) dX12_nextToken_270 ?_
            refine j_aload_n C0 (pc := 271) dX12_nextToken_271 rfl ?_
            refine j_aload_n C0 (pc := 272) dX12_nextToken_272 rfl ?_
            refine X_gI C0 (pc := 273) f_OM_175_10 rfl dX12_nextToken_273 h (fun v11 h => ?_)
            refine X_cV C0 (pc := 276) (e' := e_I) (as := [.int v11]) (rest := [.int (v10 * (10 : Int32)), .ref v1]) (s' := fun w => .int w :: [.int (v10 * (10 : Int32)), .ref v1]) (g' := (0, 0)) v_OM_191_10 (fun Ψ hΨ => K_X12_signAt v1 v11 M2 Ψ hΨ) rfl rfl (fun _ => rfl) (by decide) (by decide) rfl (Nat.le_of_ble_eq_true rfl) dX12_nextToken_276 h (fun v12 M5 h => ?_)
            refine j_iadd C0 (pc := 279) dX12_nextToken_279 ?_
            refine j_bipush C0 (pc := 280) dX12_nextToken_280 (v := (48 : Int32)) (by decide) ?_
            refine j_isub C0 (pc := 282) dX12_nextToken_282 ?_
            refine X_pI C0 (pc := 283) f_OM_185_10 rfl rfl dX12_nextToken_283 h (fun M6 h => ?_)
            exact j_J.wq (hk286 v1 M6 h) (And.intro rfl (trivial))
set_option maxHeartbeats 4000000 in
theorem L_X12_nextToken_109 {X : j_X} {Φ : Option Value → m_M → Prop} (C : j_C X yX12_nextToken cX12_nextToken 2 none 2 0 0 Φ) {k188 : Nat → m_M → Option (Unit × m_M)} (hk188 : ∀ (p0 : Nat) (M : m_M), m_ok e_V Φ (k188 p0 M) → j_J X 2 188 [some (.ref p0), none] [] (0, 0) M) : ∀ (n : Nat) (v1 : Nat) (M : m_M), m_ok e_V Φ (F_X12_nextToken_109 k188 n v1 M) → j_J X 2 109 [some (.ref v1), none] [] (0, 0) M := by
  have C0 := C.1
  intro n
  induction n with
  | zero => intro v1 M h; exact False.elim h
  | succ n ih =>
    intro v1 M h
    rw [F_X12_nextToken_109] at h
    refine j_aload_n C0 (pc := 109) dX12_nextToken_109 rfl ?_
    refine j_aload_n C0 (pc := 110) dX12_nextToken_110 rfl ?_
    refine X_gI C0 (pc := 111) f_OM_175_10 rfl dX12_nextToken_111 h (fun v2 h => ?_)
    refine X_cV C0 (pc := 114) (e' := e_I) (as := [.int v2]) (rest := []) (s' := fun w => .int w :: []) (g' := (0, 0)) v_OM_191_10 (fun Ψ hΨ => K_X12_signAt v1 v2 M Ψ hΨ) rfl rfl (fun _ => rfl) (by decide) (by decide) rfl (Nat.le_of_ble_eq_true rfl) dX12_nextToken_114 h (fun v3 M1 h => ?_)
    refine j_bipush C0 (pc := 117) dX12_nextToken_117 (v := (97 : Int32)) (by decide) ?_
    refine j_icmp_lt C0 (pc := 119) (tgt := 188) dX12_nextToken_119 (by decide) (fun hc => ?_) (fun hc => ?_)
    · replace h := (X_if h).1 hc
      exact j_J.wq (hk188 v1 M1 h) (And.intro rfl (trivial))
    · replace h := (X_if h).2 hc
      refine j_aload_n C0 (pc := 122) dX12_nextToken_122 rfl ?_
      refine j_aload_n C0 (pc := 123) dX12_nextToken_123 rfl ?_
      refine X_gI C0 (pc := 124) f_OM_175_10 rfl dX12_nextToken_124 h (fun v4 h => ?_)
      refine X_cV C0 (pc := 127) (e' := e_I) (as := [.int v4]) (rest := []) (s' := fun w => .int w :: []) (g' := (0, 0)) v_OM_191_10 (fun Ψ hΨ => K_X12_signAt v1 v4 M1 Ψ hΨ) rfl rfl (fun _ => rfl) (by decide) (by decide) rfl (Nat.le_of_ble_eq_true rfl) dX12_nextToken_127 h (fun v5 M2 h => ?_)
      refine j_bipush C0 (pc := 130) dX12_nextToken_130 (v := (122 : Int32)) (by decide) ?_
      refine j_icmp_gt C0 (pc := 132) (tgt := 188) dX12_nextToken_132 (by decide) (fun hc => ?_) (fun hc => ?_)
      · replace h := (X_if h).1 hc
        exact j_J.wq (hk188 v1 M2 h) (And.intro rfl (trivial))
      · replace h := (X_if h).2 hc
        refine X_join (fun (kj : Nat → m_M → Option (Unit × m_M)) => ∀ (p0 : Nat) (M : m_M), m_ok e_V Φ (kj p0 M) → j_J X 2 175 [some (.ref p0), none] [] (0, 0) M) h (fun v6 M3 h => ?_) (fun k175 hk175 h => ?_)
        · refine j_aload_n C0 (pc := 175) dX12_nextToken_175 rfl ?_
          refine j_dup C0 (pc := 176) dX12_nextToken_176 rfl ?_
          refine X_gI C0 (pc := 177) f_OM_175_10 rfl dX12_nextToken_177 h (fun v7 h => ?_)
          refine j_iconst C0 (pc := 180) dX12_nextToken_180 (v := (1 : Int32)) (by decide) ?_
          refine j_iadd C0 (pc := 181) dX12_nextToken_181 ?_
          refine X_pI C0 (pc := 182) f_OM_175_10 rfl rfl dX12_nextToken_182 h (fun M4 h => ?_)
          refine j_goto C0 (pc := 185) (tgt := 109) dX12_nextToken_185 (by decide) ?_
          exact j_J.wq (ih v6 M4 h) (And.intro rfl (trivial))
        · refine j_aload_n C0 (pc := 135) dX12_nextToken_135 rfl ?_
          refine X_gI C0 (pc := 136) f_OM_175_10 rfl dX12_nextToken_136 h (fun v8 h => ?_)
          refine j_aload_n C0 (pc := 139) dX12_nextToken_139 rfl ?_
          refine X_gI C0 (pc := 140) f_OM_178_10 rfl dX12_nextToken_140 h (fun v9 h => ?_)
          refine j_isub C0 (pc := 143) dX12_nextToken_143 ?_
          refine j_bipush C0 (pc := 144) dX12_nextToken_144 (v := (8 : Int32)) (by decide) ?_
          refine j_icmp_ge C0 (pc := 146) (tgt := 175) dX12_nextToken_146 (by decide) (fun hc => ?_) (fun hc => ?_)
          · replace h := (X_if h).1 hc
            exact j_J.wq (hk175 v1 M2 h) (And.intro rfl (trivial))
          · replace h := (X_if h).2 hc
            refine j_aload_n C0 (pc := 149) dX12_nextToken_149 rfl ?_
            refine j_aload_n C0 (pc := 150) dX12_nextToken_150 rfl ?_
            refine X_gL C0 (pc := 151) f_OM_181_10 rfl dX12_nextToken_151 h (fun v10 h => ?_)
            refine j_ldc2 C0 (pc := 154) (v := (27 : Int64)) (j_c8 97 (by decide +kernel)) dX12_nextToken_154 ?_
            refine j_lmul C0 (pc := 157) dX12_nextToken_157 ?_
            refine j_aload_n C0 (pc := 158) dX12_nextToken_158 rfl ?_
            refine j_aload_n C0 (pc := 159) dX12_nextToken_159 rfl ?_
            refine X_gI C0 (pc := 160) f_OM_175_10 rfl dX12_nextToken_160 h (fun v11 h => ?_)
            refine X_cV C0 (pc := 163) (e' := e_I) (as := [.int v11]) (rest := [.long (v10 * (27 : Int64)), .ref v1]) (s' := fun w => .int w :: [.long (v10 * (27 : Int64)), .ref v1]) (g' := (0, 0)) v_OM_191_10 (fun Ψ hΨ => K_X12_signAt v1 v11 M2 Ψ hΨ) rfl rfl (fun _ => rfl) (by decide) (by decide) rfl (Nat.le_of_ble_eq_true rfl) dX12_nextToken_163 h (fun v12 M5 h => ?_)
            refine j_i2l C0 (pc := 166) dX12_nextToken_166 (v := v12.toInt64) rfl ?_
            refine j_ladd C0 (pc := 167) dX12_nextToken_167 ?_
            refine j_ldc2 C0 (pc := 168) (v := (96 : Int64)) (j_c8 98 (by decide +kernel)) dX12_nextToken_168 ?_
            refine j_lsub C0 (pc := 171) dX12_nextToken_171 ?_
            refine X_pL C0 (pc := 172) f_OM_181_10 rfl rfl dX12_nextToken_172 h (fun M6 h => ?_)
            exact j_J.wq (hk175 v1 M6 h) (And.intro rfl (trivial))
set_option maxHeartbeats 4000000 in
theorem L_X12_nextToken_0 {X : j_X} {Φ : Option Value → m_M → Prop} (C : j_C X yX12_nextToken cX12_nextToken 2 none 2 0 0 Φ) {k52 : Nat → m_M → Option (Unit × m_M)} (hk52 : ∀ (p0 : Nat) (M : m_M), m_ok e_V Φ (k52 p0 M) → j_J X 2 52 [some (.ref p0), none] [] (0, 0) M) : ∀ (n : Nat) (v1 : Nat) (M : m_M), m_ok e_V Φ (F_X12_nextToken_0 k52 n v1 M) → j_J X 2 0 [some (.ref v1), none] [] (0, 0) M := by
  have C0 := C.1
  intro n
  induction n with
  | zero => intro v1 M h; exact False.elim h
  | succ n ih =>
    intro v1 M h
    rw [F_X12_nextToken_0] at h
    refine j_aload_n C0 (pc := 0) dX12_nextToken_0 rfl ?_
    refine X_gI C0 (pc := 1) f_OM_175_10 rfl dX12_nextToken_1 h (fun v2 h => ?_)
    refine j_aload_n C0 (pc := 4) dX12_nextToken_4 rfl ?_
    refine X_gI C0 (pc := 5) f_OM_172_10 rfl dX12_nextToken_5 h (fun v3 h => ?_)
    refine j_icmp_ge C0 (pc := 8) (tgt := 52) dX12_nextToken_8 (by decide) (fun hc => ?_) (fun hc => ?_)
    · replace h := (X_if h).1 hc
      exact j_J.wq (hk52 v1 M h) (And.intro rfl (trivial))
    · replace h := (X_if h).2 hc
      refine X_join (fun (kj : Nat → m_M → Option (Unit × m_M)) => ∀ (p0 : Nat) (M : m_M), m_ok e_V Φ (kj p0 M) → j_J X 2 39 [some (.ref p0), none] [] (0, 0) M) h (fun v4 M1 h => ?_) (fun k39 hk39 h => ?_)
      · refine j_aload_n C0 (pc := 39) dX12_nextToken_39 rfl ?_
        refine j_dup C0 (pc := 40) dX12_nextToken_40 rfl ?_
        refine X_gI C0 (pc := 41) f_OM_175_10 rfl dX12_nextToken_41 h (fun v5 h => ?_)
        refine j_iconst C0 (pc := 44) dX12_nextToken_44 (v := (1 : Int32)) (by decide) ?_
        refine j_iadd C0 (pc := 45) dX12_nextToken_45 ?_
        refine X_pI C0 (pc := 46) f_OM_175_10 rfl rfl dX12_nextToken_46 h (fun M2 h => ?_)
        refine j_goto C0 (pc := 49) (tgt := 0) dX12_nextToken_49 (by decide) ?_
        exact j_J.wq (ih v4 M2 h) (And.intro rfl (trivial))
      · refine j_aload_n C0 (pc := 11) dX12_nextToken_11 rfl ?_
        refine X_gN C0 (pc := 12) f_OM_7_10 rfl dX12_nextToken_12 h (fun v6 h => ?_)
        refine j_aload_n C0 (pc := 15) dX12_nextToken_15 rfl ?_
        refine X_gI C0 (pc := 16) f_OM_175_10 rfl dX12_nextToken_16 h (fun v7 h => ?_)
        refine X_iald C0 (pc := 19) dX12_nextToken_19 h (fun v8 h => ?_)
        refine j_bipush C0 (pc := 20) dX12_nextToken_20 (v := (32 : Int32)) (by decide) ?_
        refine j_icmp_eq C0 (pc := 22) (tgt := 39) dX12_nextToken_22 (by decide) (fun hc => ?_) (fun hc => ?_)
        · replace h := (X_if h).1 hc
          exact j_J.wq (hk39 v1 M h) (And.intro rfl (trivial))
        · replace h := (X_if h).2 hc
          refine j_aload_n C0 (pc := 25) dX12_nextToken_25 rfl ?_
          refine X_gN C0 (pc := 26) f_OM_7_10 rfl dX12_nextToken_26 h (fun v9 h => ?_)
          refine j_aload_n C0 (pc := 29) dX12_nextToken_29 rfl ?_
          refine X_gI C0 (pc := 30) f_OM_175_10 rfl dX12_nextToken_30 h (fun v10 h => ?_)
          refine X_iald C0 (pc := 33) dX12_nextToken_33 h (fun v11 h => ?_)
          refine j_bipush C0 (pc := 34) dX12_nextToken_34 (v := (10 : Int32)) (by decide) ?_
          refine j_icmp_ne C0 (pc := 36) (tgt := 52) dX12_nextToken_36 (by decide) (fun hc => ?_) (fun hc => ?_)
          · replace h := (X_if h).2 hc
            exact j_J.wq (hk52 v1 M h) (And.intro rfl (trivial))
          · replace h := (X_if h).1 hc
            exact j_J.wq (hk39 v1 M h) (And.intro rfl (trivial))
set_option maxHeartbeats 4000000 in
theorem K_X12_nextToken (a0 : Nat) (M : m_M) (Φ : Option Value → m_M → Prop) (h : m_ok e_V Φ (F_X12_nextToken a0 M)) : j_Ct yX12_nextToken cX12_nextToken 2 none 2 0 0 [.ref a0] M Φ := by
  refine j_Ct.of (by decide +kernel) (Nat.le_of_ble_eq_true rfl) fun X C => ?_
  have C0 := C.1
  show j_J X 2 0 [some (.ref a0), none] [] (0, 0) M
  unfold F_X12_nextToken at h
  refine X_join (fun (kj : Nat → m_M → Option (Unit × m_M)) => ∀ (p0 : Nat) (M : m_M), m_ok e_V Φ (kj p0 M) → j_J X 2 52 [some (.ref p0), none] [] (0, 0) M) h (fun v1 M1 h => ?_) (fun k52 hk52 h => ?_)
  · refine j_aload_n C0 (pc := 52) dX12_nextToken_52 rfl ?_
    refine j_aload_n C0 (pc := 53) dX12_nextToken_53 rfl ?_
    refine X_gI C0 (pc := 54) f_OM_175_10 rfl dX12_nextToken_54 h (fun v2 h => ?_)
    refine X_pI C0 (pc := 57) f_OM_178_10 rfl rfl dX12_nextToken_57 h (fun M2 h => ?_)
    refine j_aload_n C0 (pc := 60) dX12_nextToken_60 rfl ?_
    refine j_lconst C0 (pc := 61) dX12_nextToken_61 (v := (0 : Int64)) (by decide) ?_
    refine X_pL C0 (pc := 62) f_OM_181_10 rfl rfl dX12_nextToken_62 h (fun M3 h => ?_)
    refine j_aload_n C0 (pc := 65) dX12_nextToken_65 rfl ?_
    refine j_iconst C0 (pc := 66) dX12_nextToken_66 (v := (0 : Int32)) (by decide) ?_
    refine X_pI C0 (pc := 67) f_OM_185_10 rfl rfl dX12_nextToken_67 h (fun M4 h => ?_)
    refine j_aload_n C0 (pc := 70) dX12_nextToken_70 rfl ?_
    refine X_gI C0 (pc := 71) f_OM_175_10 rfl dX12_nextToken_71 h (fun v3 h => ?_)
    refine j_aload_n C0 (pc := 74) dX12_nextToken_74 rfl ?_
    refine X_gI C0 (pc := 75) f_OM_172_10 rfl dX12_nextToken_75 h (fun v4 h => ?_)
    refine j_icmp_ne C0 (pc := 78) (tgt := 87) dX12_nextToken_78 (by decide) (fun hc => ?_) (fun hc => ?_)
    · replace h := (X_if h).2 hc
      refine X_join (fun (kj : Nat → Int32 → m_M → Option (Unit × m_M)) => ∀ (p0 : Nat) (p1 : Int32) (M : m_M), m_ok e_V Φ (kj p0 p1 M) → j_J X 2 212 [some (.ref p0), some (.int p1)] [] (0, 0) M) h (fun v5 v6 M5 h => ?_) (fun k212 hk212 h => ?_)
      · refine X_join (fun (kj : Nat → Int32 → m_M → Option (Unit × m_M)) => ∀ (p0 : Nat) (p1 : Int32) (M : m_M), m_ok e_V Φ (kj p0 p1 M) → j_J X 2 322 [some (.ref p0), some (.int p1)] [] (0, 0) M) h (fun v7 v8 M6 h => ?_) (fun k322 hk322 h => ?_)
        · refine X_join (fun (kj : Nat → m_M → Option (Unit × m_M)) => ∀ (p0 : Nat) (M : m_M), m_ok e_V Φ (kj p0 M) → j_J X 2 363 [none, none] [.ref p0] (0, 0) M) h (fun v9 M7 h => ?_) (fun k363 hk363 h => ?_)
          · refine j_iconst C0 (pc := 363) dX12_nextToken_363 (v := (3 : Int32)) (by decide) ?_
            refine j_goto C0 (pc := 364) (tgt := 368) dX12_nextToken_364 (by decide) ?_
            refine X_pI C0 (pc := 368) f_OM_188_10 rfl rfl dX12_nextToken_368 h (fun M8 h => ?_)
            exact j_vret C rfl h dX12_nextToken_371 (by decide)
          · refine X_join (fun (kj : Int32 → Nat → m_M → Option (Unit × m_M)) => ∀ (p0 : Int32) (p1 : Nat) (M : m_M), m_ok e_V Φ (kj p0 p1 M) → j_J X 2 345 [none, some (.int p0)] [.ref p1] (0, 0) M) h (fun v10 v11 M9 h => ?_) (fun k345 hk345 h => ?_)
            · refine j_iload_n C0 (pc := 345) dX12_nextToken_345 rfl ?_
              refine j_bipush C0 (pc := 346) dX12_nextToken_346 (v := (45 : Int32)) (by decide) ?_
              refine j_icmp_eq C0 (pc := 348) (tgt := 363) dX12_nextToken_348 (by decide) (fun hc => ?_) (fun hc => ?_)
              · replace h := (X_if h).1 hc
                exact j_J.wq (hk363 v11 M9 h) (trivial)
              · replace h := (X_if h).2 hc
                refine X_join (fun (kj : Nat → m_M → Option (Unit × m_M)) => ∀ (p0 : Nat) (M : m_M), m_ok e_V Φ (kj p0 M) → j_J X 2 367 [none, none] [.ref p0] (0, 0) M) h (fun v12 M10 h => ?_) (fun k367 hk367 h => ?_)
                · refine j_iconst C0 (pc := 367) dX12_nextToken_367 (v := (4 : Int32)) (by decide) ?_
                  refine X_pI C0 (pc := 368) f_OM_188_10 rfl rfl dX12_nextToken_368 h (fun M11 h => ?_)
                  exact j_vret C rfl h dX12_nextToken_371 (by decide)
                · refine j_iload_n C0 (pc := 351) dX12_nextToken_351 rfl ?_
                  refine j_bipush C0 (pc := 352) dX12_nextToken_352 (v := (59 : Int32)) (by decide) ?_
                  refine j_icmp_lt C0 (pc := 354) (tgt := 367) dX12_nextToken_354 (by decide) (fun hc => ?_) (fun hc => ?_)
                  · replace h := (X_if h).1 hc
                    exact j_J.wq (hk367 v11 M9 h) (trivial)
                  · replace h := (X_if h).2 hc
                    refine j_iload_n C0 (pc := 357) dX12_nextToken_357 rfl ?_
                    refine j_bipush C0 (pc := 358) dX12_nextToken_358 (v := (61 : Int32)) (by decide) ?_
                    refine j_icmp_gt C0 (pc := 360) (tgt := 367) dX12_nextToken_360 (by decide) (fun hc => ?_) (fun hc => ?_)
                    · replace h := (X_if h).1 hc
                      exact j_J.wq (hk367 v11 M9 h) (trivial)
                    · replace h := (X_if h).2 hc
                      exact j_J.wq (hk363 v11 M9 h) (trivial)
            · refine j_aload_n C0 (pc := 322) dX12_nextToken_322 rfl ?_
              refine j_dup C0 (pc := 323) dX12_nextToken_323 rfl ?_
              refine X_gI C0 (pc := 324) f_OM_175_10 rfl dX12_nextToken_324 h (fun v13 h => ?_)
              refine j_iconst C0 (pc := 327) dX12_nextToken_327 (v := (1 : Int32)) (by decide) ?_
              refine j_iadd C0 (pc := 328) dX12_nextToken_328 ?_
              refine X_pI C0 (pc := 329) f_OM_175_10 rfl rfl dX12_nextToken_329 h (fun M12 h => ?_)
              refine j_aload_n C0 (pc := 332) dX12_nextToken_332 rfl ?_
              refine j_iload_n C0 (pc := 333) dX12_nextToken_333 rfl ?_
              refine j_bipush C0 (pc := 334) dX12_nextToken_334 (v := (40 : Int32)) (by decide) ?_
              refine j_icmp_lt C0 (pc := 336) (tgt := 345) dX12_nextToken_336 (by decide) (fun hc => ?_) (fun hc => ?_)
              · replace h := (X_if h).1 hc
                exact j_J.wq (hk345 v8 v7 M12 h) (And.intro rfl (trivial))
              · replace h := (X_if h).2 hc
                refine j_iload_n C0 (pc := 339) dX12_nextToken_339 rfl ?_
                refine j_bipush C0 (pc := 340) dX12_nextToken_340 (v := (43 : Int32)) (by decide) ?_
                refine j_icmp_le C0 (pc := 342) (tgt := 363) dX12_nextToken_342 (by decide) (fun hc => ?_) (fun hc => ?_)
                · replace h := (X_if h).1 hc
                  exact j_J.wq (hk363 v7 M12 h) (trivial)
                · replace h := (X_if h).2 hc
                  exact j_J.wq (hk345 v8 v7 M12 h) (And.intro rfl (trivial))
        · refine j_iload_n C0 (pc := 212) dX12_nextToken_212 rfl ?_
          refine j_bipush C0 (pc := 213) dX12_nextToken_213 (v := (48 : Int32)) (by decide) ?_
          refine j_icmp_lt C0 (pc := 215) (tgt := 322) dX12_nextToken_215 (by decide) (fun hc => ?_) (fun hc => ?_)
          · replace h := (X_if h).1 hc
            exact j_J.wq (hk322 v5 v6 M5 h) (And.intro rfl (And.intro rfl (trivial)))
          · replace h := (X_if h).2 hc
            refine j_iload_n C0 (pc := 218) dX12_nextToken_218 rfl ?_
            refine j_bipush C0 (pc := 219) dX12_nextToken_219 (v := (57 : Int32)) (by decide) ?_
            refine j_icmp_gt C0 (pc := 221) (tgt := 322) dX12_nextToken_221 (by decide) (fun hc => ?_) (fun hc => ?_)
            · replace h := (X_if h).1 hc
              exact j_J.wq (hk322 v5 v6 M5 h) (And.intro rfl (And.intro rfl (trivial)))
            · replace h := (X_if h).2 hc
              refine X_join (fun (kj : Nat → m_M → Option (Unit × m_M)) => ∀ (p0 : Nat) (M : m_M), m_ok e_V Φ (kj p0 M) → j_J X 2 299 [some (.ref p0), none] [] (0, 0) M) h (fun v14 M13 h => ?_) (fun k299 hk299 h => ?_)
              · refine j_aload_n C0 (pc := 299) dX12_nextToken_299 rfl ?_
                refine j_aload_n C0 (pc := 300) dX12_nextToken_300 rfl ?_
                refine X_gI C0 (pc := 301) f_OM_175_10 rfl dX12_nextToken_301 h (fun v15 h => ?_)
                refine j_aload_n C0 (pc := 304) dX12_nextToken_304 rfl ?_
                refine X_gI C0 (pc := 305) f_OM_178_10 rfl dX12_nextToken_305 h (fun v16 h => ?_)
                refine j_isub C0 (pc := 308) dX12_nextToken_308 ?_
                refine j_iconst C0 (pc := 309) dX12_nextToken_309 (v := (4 : Int32)) (by decide) ?_
                refine j_icmp_le C0 (pc := 310) (tgt := 317) dX12_nextToken_310 (by decide) (fun hc => ?_) (fun hc => ?_)
                · replace h := (X_if h).1 hc
                  refine j_iconst C0 (pc := 317) dX12_nextToken_317 (v := (2 : Int32)) (by decide) ?_
                  refine X_pI C0 (pc := 318) f_OM_188_10 rfl rfl dX12_nextToken_318 h (fun M14 h => ?_)
                  exact j_vret C rfl h dX12_nextToken_321 (by decide)
                · replace h := (X_if h).2 hc
                  refine j_iconst C0 (pc := 313) dX12_nextToken_313 (v := (4 : Int32)) (by decide) ?_
                  refine j_goto C0 (pc := 314) (tgt := 318) dX12_nextToken_314 (by decide) ?_
                  refine X_pI C0 (pc := 318) f_OM_188_10 rfl rfl dX12_nextToken_318 h (fun M15 h => ?_)
                  exact j_vret C rfl h dX12_nextToken_321 (by decide)
              · exact j_J.wq (L_X12_nextToken_224 C hk299 m_FU v5 M5 h) (And.intro rfl (trivial))
      · refine j_aload_n C0 (pc := 87) dX12_nextToken_87 rfl ?_
        refine X_gN C0 (pc := 88) f_OM_7_10 rfl dX12_nextToken_88 h (fun v17 h => ?_)
        refine j_aload_n C0 (pc := 91) dX12_nextToken_91 rfl ?_
        refine X_gI C0 (pc := 92) f_OM_175_10 rfl dX12_nextToken_92 h (fun v18 h => ?_)
        refine X_iald C0 (pc := 95) dX12_nextToken_95 h (fun v19 h => ?_)
        refine j_istore_n C0 (pc := 96) dX12_nextToken_96 (Nat.le_of_ble_eq_true rfl) ?_
        show j_J X 2 97 [some (.ref v1), some (.int v19)] [] (0, 0) M4
        refine j_iload_n C0 (pc := 97) dX12_nextToken_97 rfl ?_
        refine j_bipush C0 (pc := 98) dX12_nextToken_98 (v := (97 : Int32)) (by decide) ?_
        refine j_icmp_lt C0 (pc := 100) (tgt := 212) dX12_nextToken_100 (by decide) (fun hc => ?_) (fun hc => ?_)
        · replace h := (X_if h).1 hc
          exact j_J.wq (hk212 v1 v19 M4 h) (And.intro rfl (And.intro rfl (trivial)))
        · replace h := (X_if h).2 hc
          refine j_iload_n C0 (pc := 103) dX12_nextToken_103 rfl ?_
          refine j_bipush C0 (pc := 104) dX12_nextToken_104 (v := (122 : Int32)) (by decide) ?_
          refine j_icmp_gt C0 (pc := 106) (tgt := 212) dX12_nextToken_106 (by decide) (fun hc => ?_) (fun hc => ?_)
          · replace h := (X_if h).1 hc
            exact j_J.wq (hk212 v1 v19 M4 h) (And.intro rfl (And.intro rfl (trivial)))
          · replace h := (X_if h).2 hc
            refine X_join (fun (kj : Nat → m_M → Option (Unit × m_M)) => ∀ (p0 : Nat) (M : m_M), m_ok e_V Φ (kj p0 M) → j_J X 2 188 [some (.ref p0), none] [] (0, 0) M) h (fun v20 M16 h => ?_) (fun k188 hk188 h => ?_)
            · refine j_aload_n C0 (pc := 188) dX12_nextToken_188 rfl ?_
              refine j_aload_n C0 (pc := 189) dX12_nextToken_189 rfl ?_
              refine X_gI C0 (pc := 190) f_OM_175_10 rfl dX12_nextToken_190 h (fun v21 h => ?_)
              refine j_aload_n C0 (pc := 193) dX12_nextToken_193 rfl ?_
              refine X_gI C0 (pc := 194) f_OM_178_10 rfl dX12_nextToken_194 h (fun v22 h => ?_)
              refine j_isub C0 (pc := 197) dX12_nextToken_197 ?_
              refine j_bipush C0 (pc := 198) dX12_nextToken_198 (v := (8 : Int32)) (by decide) ?_
              refine j_icmp_le C0 (pc := 200) (tgt := 207) dX12_nextToken_200 (by decide) (fun hc => ?_) (fun hc => ?_)
              · replace h := (X_if h).1 hc
                refine j_iconst C0 (pc := 207) dX12_nextToken_207 (v := (1 : Int32)) (by decide) ?_
                refine X_pI C0 (pc := 208) f_OM_188_10 rfl rfl dX12_nextToken_208 h (fun M17 h => ?_)
                exact j_vret C rfl h dX12_nextToken_211 (by decide)
              · replace h := (X_if h).2 hc
                refine j_iconst C0 (pc := 203) dX12_nextToken_203 (v := (4 : Int32)) (by decide) ?_
                refine j_goto C0 (pc := 204) (tgt := 208) dX12_nextToken_204 (by decide) ?_
                refine X_pI C0 (pc := 208) f_OM_188_10 rfl rfl dX12_nextToken_208 h (fun M18 h => ?_)
                exact j_vret C rfl h dX12_nextToken_211 (by decide)
            · exact j_J.wq (L_X12_nextToken_109 C hk188 m_FU v1 M4 h) (And.intro rfl (trivial))
    · replace h := (X_if h).1 hc
      refine j_aload_n C0 (pc := 81) dX12_nextToken_81 rfl ?_
      refine j_iconst C0 (pc := 82) dX12_nextToken_82 (v := (0 : Int32)) (by decide) ?_
      refine X_pI C0 (pc := 83) f_OM_188_10 rfl rfl dX12_nextToken_83 h (fun M19 h => ?_)
      exact j_vret C rfl h dX12_nextToken_86 (by decide)
  · exact j_J.wq (L_X12_nextToken_0 C hk52 m_FU a0 M h) (And.intro rfl (trivial))
theorem dX12_starts_0 : decode cX12_starts 0 = .ok (.aload_n 0, 1) := by decide +kernel
theorem dX12_starts_1 : decode cX12_starts 1 = .ok (.aload_n 0, 1) := by decide +kernel
theorem dX12_starts_2 : decode cX12_starts 2 = .ok (.getfield 169, 3) := by decide +kernel
theorem dX12_starts_5 : decode cX12_starts 5 = .ok (.putfield 172, 3) := by decide +kernel
theorem dX12_starts_8 : decode cX12_starts 8 = .ok (.aload_n 0, 1) := by decide +kernel
theorem dX12_starts_9 : decode cX12_starts 9 = .ok (.iconst 0, 1) := by decide +kernel
theorem dX12_starts_10 : decode cX12_starts 10 = .ok (.putfield 169, 3) := by decide +kernel
theorem dX12_starts_13 : decode cX12_starts 13 = .ok (.aload_n 0, 1) := by decide +kernel
theorem dX12_starts_14 : decode cX12_starts 14 = .ok (.iconst 0, 1) := by decide +kernel
theorem dX12_starts_15 : decode cX12_starts 15 = .ok (.putfield 175, 3) := by decide +kernel
theorem dX12_starts_18 : decode cX12_starts 18 = .ok (.aload_n 0, 1) := by decide +kernel
theorem dX12_starts_19 : decode cX12_starts 19 = .ok (.invokevirtual 243, 3) := by decide +kernel
theorem dX12_starts_22 : decode cX12_starts 22 = .ok (.return_, 1) := by decide +kernel
noncomputable def F_X12_starts (a0 : Nat) (M : m_M) : Option (Unit × m_M) :=
  x_gI 10 M a0 1 fun v1 =>
  x_pI 10 M a0 3 v1 fun M1 =>
  x_pI 10 M1 a0 1 (0 : Int32) fun M2 =>
  x_pI 10 M2 a0 4 (0 : Int32) fun M3 =>
  x_cV 10 M3 a0 (F_X12_nextToken a0 M3) fun _ M4 =>
  some ((), M4)
set_option maxHeartbeats 4000000 in
theorem K_X12_starts (a0 : Nat) (M : m_M) (Φ : Option Value → m_M → Prop) (h : m_ok e_V Φ (F_X12_starts a0 M)) : j_Ct yX12_starts cX12_starts 1 none 3 0 0 [.ref a0] M Φ := by
  refine j_Ct.of (by decide +kernel) (Nat.le_of_ble_eq_true rfl) fun X C => ?_
  have C0 := C.1
  show j_J X 1 0 [some (.ref a0)] [] (0, 0) M
  unfold F_X12_starts at h
  refine j_aload_n C0 (pc := 0) dX12_starts_0 rfl ?_
  refine j_aload_n C0 (pc := 1) dX12_starts_1 rfl ?_
  refine X_gI C0 (pc := 2) f_OM_169_10 rfl dX12_starts_2 h (fun v1 h => ?_)
  refine X_pI C0 (pc := 5) f_OM_172_10 rfl rfl dX12_starts_5 h (fun M1 h => ?_)
  refine j_aload_n C0 (pc := 8) dX12_starts_8 rfl ?_
  refine j_iconst C0 (pc := 9) dX12_starts_9 (v := (0 : Int32)) (by decide) ?_
  refine X_pI C0 (pc := 10) f_OM_169_10 rfl rfl dX12_starts_10 h (fun M2 h => ?_)
  refine j_aload_n C0 (pc := 13) dX12_starts_13 rfl ?_
  refine j_iconst C0 (pc := 14) dX12_starts_14 (v := (0 : Int32)) (by decide) ?_
  refine X_pI C0 (pc := 15) f_OM_175_10 rfl rfl dX12_starts_15 h (fun M3 h => ?_)
  refine j_aload_n C0 (pc := 18) dX12_starts_18 rfl ?_
  refine X_cV C0 (pc := 19) (e' := e_V) (as := []) (rest := []) (s' := fun _ => []) (g' := (0, 0)) v_OM_243_10 (fun Ψ hΨ => K_X12_nextToken a0 M3 Ψ hΨ) rfl rfl (fun _ => rfl) (by decide) (by decide) rfl (Nat.le_of_ble_eq_true rfl) dX12_starts_19 h (fun _ M4 h => ?_)
  exact j_vret C rfl h dX12_starts_22 (by decide)
theorem dX12_isWord_0 : decode cX12_isWord 0 = .ok (.aload_n 0, 1) := by decide +kernel
theorem dX12_isWord_1 : decode cX12_isWord 1 = .ok (.getfield 188, 3) := by decide +kernel
theorem dX12_isWord_4 : decode cX12_isWord 4 = .ok (.iconst 1, 1) := by decide +kernel
theorem dX12_isWord_5 : decode cX12_isWord 5 = .ok (.if_icmp .ne 16, 3) := by decide +kernel
theorem dX12_isWord_8 : decode cX12_isWord 8 = .ok (.aload_n 0, 1) := by decide +kernel
theorem dX12_isWord_9 : decode cX12_isWord 9 = .ok (.getfield 181, 3) := by decide +kernel
theorem dX12_isWord_12 : decode cX12_isWord 12 = .ok (.lload_n 1, 1) := by decide +kernel
theorem dX12_isWord_13 : decode cX12_isWord 13 = .ok (.lcmp, 1) := by decide +kernel
theorem dX12_isWord_14 : decode cX12_isWord 14 = .ok (.ifCond .ne 7, 3) := by decide +kernel
theorem dX12_isWord_17 : decode cX12_isWord 17 = .ok (.iconst 1, 1) := by decide +kernel
theorem dX12_isWord_18 : decode cX12_isWord 18 = .ok (.goto 4, 3) := by decide +kernel
theorem dX12_isWord_21 : decode cX12_isWord 21 = .ok (.iconst 0, 1) := by decide +kernel
theorem dX12_isWord_22 : decode cX12_isWord 22 = .ok (.ireturn, 1) := by decide +kernel
noncomputable def F_X12_isWord (a0 : Nat) (a1 : Int64) (M : m_M) : Option (Int32 × m_M) :=
  m_let (fun  (M1 : m_M) =>
    some ((0 : Int32), M1)
  ) fun (k21 : m_M → Option (Int32 × m_M)) =>
  x_gI 10 M a0 6 fun v1 =>
  if v1 = (1 : Int32) then (
    x_gL 10 M a0 7 fun v2 =>
    if (lg_cmp v2 a1) = 0 then (
      some ((1 : Int32), M)
    ) else
    k21 M
  ) else
  k21 M
set_option maxHeartbeats 4000000 in
theorem K_X12_isWord (a0 : Nat) (a1 : Int64) (M : m_M) (Φ : Option Value → m_M → Prop) (h : m_ok e_I Φ (F_X12_isWord a0 a1 M)) : j_Ct yX12_isWord cX12_isWord 3 (some .boolean) 1 0 0 [.ref a0, .long a1] M Φ := by
  refine j_Ct.of (by decide +kernel) (Nat.le_of_ble_eq_true rfl) fun X C => ?_
  have C0 := C.1
  show j_J X 3 0 [some (.ref a0), some (.long a1), none] [] (0, 0) M
  unfold F_X12_isWord at h
  refine X_join (fun (kj : m_M → Option (Int32 × m_M)) => ∀  (M : m_M), m_ok e_I Φ (kj M) → j_J X 3 21 [none, none, none] [] (0, 0) M) h (fun M1 h => ?_) (fun k21 hk21 h => ?_)
  · refine j_iconst C0 (pc := 21) dX12_isWord_21 (v := (0 : Int32)) (by decide) ?_
    exact j_zret C rfl (by decide) h dX12_isWord_22 (by decide)
  · refine j_aload_n C0 (pc := 0) dX12_isWord_0 rfl ?_
    refine X_gI C0 (pc := 1) f_OM_188_10 rfl dX12_isWord_1 h (fun v1 h => ?_)
    refine j_iconst C0 (pc := 4) dX12_isWord_4 (v := (1 : Int32)) (by decide) ?_
    refine j_icmp_ne C0 (pc := 5) (tgt := 21) dX12_isWord_5 (by decide) (fun hc => ?_) (fun hc => ?_)
    · replace h := (X_if h).2 hc
      exact j_J.wq (hk21 M h) (trivial)
    · replace h := (X_if h).1 hc
      refine j_aload_n C0 (pc := 8) dX12_isWord_8 rfl ?_
      refine X_gL C0 (pc := 9) f_OM_181_10 rfl dX12_isWord_9 h (fun v2 h => ?_)
      refine j_lload_n C0 (pc := 12) dX12_isWord_12 rfl ?_
      refine j_lcmp C0 (pc := 13) dX12_isWord_13 ?_
      refine j_if_ne C0 (pc := 14) (tgt := 21) dX12_isWord_14 (by decide) (fun hc => ?_) (fun hc => ?_)
      · replace h := (X_if h).2 hc
        exact j_J.wq (hk21 M h) (trivial)
      · replace h := (X_if h).1 hc
        refine j_iconst C0 (pc := 17) dX12_isWord_17 (v := (1 : Int32)) (by decide) ?_
        refine j_goto C0 (pc := 18) (tgt := 22) dX12_isWord_18 (by decide) ?_
        exact j_zret C rfl (by decide) h dX12_isWord_22 (by decide)
theorem dX12_isSign_0 : decode cX12_isSign 0 = .ok (.aload_n 0, 1) := by decide +kernel
theorem dX12_isSign_1 : decode cX12_isSign 1 = .ok (.getfield 188, 3) := by decide +kernel
theorem dX12_isSign_4 : decode cX12_isSign 4 = .ok (.iconst 3, 1) := by decide +kernel
theorem dX12_isSign_5 : decode cX12_isSign 5 = .ok (.if_icmp .ne 20, 3) := by decide +kernel
theorem dX12_isSign_8 : decode cX12_isSign 8 = .ok (.aload_n 0, 1) := by decide +kernel
theorem dX12_isSign_9 : decode cX12_isSign 9 = .ok (.getfield 7, 3) := by decide +kernel
theorem dX12_isSign_12 : decode cX12_isSign 12 = .ok (.aload_n 0, 1) := by decide +kernel
theorem dX12_isSign_13 : decode cX12_isSign 13 = .ok (.getfield 178, 3) := by decide +kernel
theorem dX12_isSign_16 : decode cX12_isSign 16 = .ok (.iaload, 1) := by decide +kernel
theorem dX12_isSign_17 : decode cX12_isSign 17 = .ok (.iload_n 1, 1) := by decide +kernel
theorem dX12_isSign_18 : decode cX12_isSign 18 = .ok (.if_icmp .ne 7, 3) := by decide +kernel
theorem dX12_isSign_21 : decode cX12_isSign 21 = .ok (.iconst 1, 1) := by decide +kernel
theorem dX12_isSign_22 : decode cX12_isSign 22 = .ok (.goto 4, 3) := by decide +kernel
theorem dX12_isSign_25 : decode cX12_isSign 25 = .ok (.iconst 0, 1) := by decide +kernel
theorem dX12_isSign_26 : decode cX12_isSign 26 = .ok (.ireturn, 1) := by decide +kernel
noncomputable def F_X12_isSign (a0 : Nat) (a1 : Int32) (M : m_M) : Option (Int32 × m_M) :=
  m_let (fun  (M1 : m_M) =>
    some ((0 : Int32), M1)
  ) fun (k25 : m_M → Option (Int32 × m_M)) =>
  x_gI 10 M a0 6 fun v1 =>
  if v1 = (3 : Int32) then (
    x_gN 10 M a0 2 fun v2 =>
    x_gI 10 M a0 5 fun v3 =>
    x_aI 12 M v2 v3 fun v4 =>
    if v4 = a1 then (
      some ((1 : Int32), M)
    ) else
    k25 M
  ) else
  k25 M
set_option maxHeartbeats 4000000 in
theorem K_X12_isSign (a0 : Nat) (a1 : Int32) (M : m_M) (Φ : Option Value → m_M → Prop) (h : m_ok e_I Φ (F_X12_isSign a0 a1 M)) : j_Ct yX12_isSign cX12_isSign 2 (some .boolean) 1 0 0 [.ref a0, .int a1] M Φ := by
  refine j_Ct.of (by decide +kernel) (Nat.le_of_ble_eq_true rfl) fun X C => ?_
  have C0 := C.1
  show j_J X 2 0 [some (.ref a0), some (.int a1)] [] (0, 0) M
  unfold F_X12_isSign at h
  refine X_join (fun (kj : m_M → Option (Int32 × m_M)) => ∀  (M : m_M), m_ok e_I Φ (kj M) → j_J X 2 25 [none, none] [] (0, 0) M) h (fun M1 h => ?_) (fun k25 hk25 h => ?_)
  · refine j_iconst C0 (pc := 25) dX12_isSign_25 (v := (0 : Int32)) (by decide) ?_
    exact j_zret C rfl (by decide) h dX12_isSign_26 (by decide)
  · refine j_aload_n C0 (pc := 0) dX12_isSign_0 rfl ?_
    refine X_gI C0 (pc := 1) f_OM_188_10 rfl dX12_isSign_1 h (fun v1 h => ?_)
    refine j_iconst C0 (pc := 4) dX12_isSign_4 (v := (3 : Int32)) (by decide) ?_
    refine j_icmp_ne C0 (pc := 5) (tgt := 25) dX12_isSign_5 (by decide) (fun hc => ?_) (fun hc => ?_)
    · replace h := (X_if h).2 hc
      exact j_J.wq (hk25 M h) (trivial)
    · replace h := (X_if h).1 hc
      refine j_aload_n C0 (pc := 8) dX12_isSign_8 rfl ?_
      refine X_gN C0 (pc := 9) f_OM_7_10 rfl dX12_isSign_9 h (fun v2 h => ?_)
      refine j_aload_n C0 (pc := 12) dX12_isSign_12 rfl ?_
      refine X_gI C0 (pc := 13) f_OM_178_10 rfl dX12_isSign_13 h (fun v3 h => ?_)
      refine X_iald C0 (pc := 16) dX12_isSign_16 h (fun v4 h => ?_)
      refine j_iload_n C0 (pc := 17) dX12_isSign_17 rfl ?_
      refine j_icmp_ne C0 (pc := 18) (tgt := 25) dX12_isSign_18 (by decide) (fun hc => ?_) (fun hc => ?_)
      · replace h := (X_if h).2 hc
        exact j_J.wq (hk25 M h) (trivial)
      · replace h := (X_if h).1 hc
        refine j_iconst C0 (pc := 21) dX12_isSign_21 (v := (1 : Int32)) (by decide) ?_
        refine j_goto C0 (pc := 22) (tgt := 26) dX12_isSign_22 (by decide) ?_
        exact j_zret C rfl (by decide) h dX12_isSign_26 (by decide)
theorem dX12_isKept_0 : decode cX12_isKept 0 = .ok (.aload_n 0, 1) := by decide +kernel
theorem dX12_isKept_1 : decode cX12_isKept 1 = .ok (.getfield 188, 3) := by decide +kernel
theorem dX12_isKept_4 : decode cX12_isKept 4 = .ok (.iconst 1, 1) := by decide +kernel
theorem dX12_isKept_5 : decode cX12_isKept 5 = .ok (.if_icmp .eq 5, 3) := by decide +kernel
theorem dX12_isKept_8 : decode cX12_isKept 8 = .ok (.iconst 1, 1) := by decide +kernel
theorem dX12_isKept_9 : decode cX12_isKept 9 = .ok (.ireturn, 1) := by decide +kernel
theorem dX12_isKept_10 : decode cX12_isKept 10 = .ok (.aload_n 0, 1) := by decide +kernel
theorem dX12_isKept_11 : decode cX12_isKept 11 = .ok (.getfield 181, 3) := by decide +kernel
theorem dX12_isKept_14 : decode cX12_isKept 14 = .ok (.ldc2_w 259, 3) := by decide +kernel
theorem dX12_isKept_17 : decode cX12_isKept 17 = .ok (.lcmp, 1) := by decide +kernel
theorem dX12_isKept_18 : decode cX12_isKept 18 = .ok (.ifCond .eq 135, 3) := by decide +kernel
theorem dX12_isKept_21 : decode cX12_isKept 21 = .ok (.aload_n 0, 1) := by decide +kernel
theorem dX12_isKept_22 : decode cX12_isKept 22 = .ok (.getfield 181, 3) := by decide +kernel
theorem dX12_isKept_25 : decode cX12_isKept 25 = .ok (.ldc2_w 261, 3) := by decide +kernel
theorem dX12_isKept_28 : decode cX12_isKept 28 = .ok (.lcmp, 1) := by decide +kernel
theorem dX12_isKept_29 : decode cX12_isKept 29 = .ok (.ifCond .eq 124, 3) := by decide +kernel
theorem dX12_isKept_32 : decode cX12_isKept 32 = .ok (.aload_n 0, 1) := by decide +kernel
theorem dX12_isKept_33 : decode cX12_isKept 33 = .ok (.getfield 181, 3) := by decide +kernel
theorem dX12_isKept_36 : decode cX12_isKept 36 = .ok (.ldc2_w 263, 3) := by decide +kernel
theorem dX12_isKept_39 : decode cX12_isKept 39 = .ok (.lcmp, 1) := by decide +kernel
theorem dX12_isKept_40 : decode cX12_isKept 40 = .ok (.ifCond .eq 113, 3) := by decide +kernel
theorem dX12_isKept_43 : decode cX12_isKept 43 = .ok (.aload_n 0, 1) := by decide +kernel
theorem dX12_isKept_44 : decode cX12_isKept 44 = .ok (.getfield 181, 3) := by decide +kernel
theorem dX12_isKept_47 : decode cX12_isKept 47 = .ok (.ldc2_w 265, 3) := by decide +kernel
theorem dX12_isKept_50 : decode cX12_isKept 50 = .ok (.lcmp, 1) := by decide +kernel
theorem dX12_isKept_51 : decode cX12_isKept 51 = .ok (.ifCond .eq 102, 3) := by decide +kernel
theorem dX12_isKept_54 : decode cX12_isKept 54 = .ok (.aload_n 0, 1) := by decide +kernel
theorem dX12_isKept_55 : decode cX12_isKept 55 = .ok (.getfield 181, 3) := by decide +kernel
theorem dX12_isKept_58 : decode cX12_isKept 58 = .ok (.ldc2_w 267, 3) := by decide +kernel
theorem dX12_isKept_61 : decode cX12_isKept 61 = .ok (.lcmp, 1) := by decide +kernel
theorem dX12_isKept_62 : decode cX12_isKept 62 = .ok (.ifCond .eq 91, 3) := by decide +kernel
theorem dX12_isKept_65 : decode cX12_isKept 65 = .ok (.aload_n 0, 1) := by decide +kernel
theorem dX12_isKept_66 : decode cX12_isKept 66 = .ok (.getfield 181, 3) := by decide +kernel
theorem dX12_isKept_69 : decode cX12_isKept 69 = .ok (.ldc2_w 269, 3) := by decide +kernel
theorem dX12_isKept_72 : decode cX12_isKept 72 = .ok (.lcmp, 1) := by decide +kernel
theorem dX12_isKept_73 : decode cX12_isKept 73 = .ok (.ifCond .eq 80, 3) := by decide +kernel
theorem dX12_isKept_76 : decode cX12_isKept 76 = .ok (.aload_n 0, 1) := by decide +kernel
theorem dX12_isKept_77 : decode cX12_isKept 77 = .ok (.getfield 181, 3) := by decide +kernel
theorem dX12_isKept_80 : decode cX12_isKept 80 = .ok (.ldc2_w 271, 3) := by decide +kernel
theorem dX12_isKept_83 : decode cX12_isKept 83 = .ok (.lcmp, 1) := by decide +kernel
theorem dX12_isKept_84 : decode cX12_isKept 84 = .ok (.ifCond .eq 69, 3) := by decide +kernel
theorem dX12_isKept_87 : decode cX12_isKept 87 = .ok (.aload_n 0, 1) := by decide +kernel
theorem dX12_isKept_88 : decode cX12_isKept 88 = .ok (.getfield 181, 3) := by decide +kernel
theorem dX12_isKept_91 : decode cX12_isKept 91 = .ok (.ldc2_w 273, 3) := by decide +kernel
theorem dX12_isKept_94 : decode cX12_isKept 94 = .ok (.lcmp, 1) := by decide +kernel
theorem dX12_isKept_95 : decode cX12_isKept 95 = .ok (.ifCond .eq 58, 3) := by decide +kernel
theorem dX12_isKept_98 : decode cX12_isKept 98 = .ok (.aload_n 0, 1) := by decide +kernel
theorem dX12_isKept_99 : decode cX12_isKept 99 = .ok (.getfield 181, 3) := by decide +kernel
theorem dX12_isKept_102 : decode cX12_isKept 102 = .ok (.ldc2_w 275, 3) := by decide +kernel
theorem dX12_isKept_105 : decode cX12_isKept 105 = .ok (.lcmp, 1) := by decide +kernel
theorem dX12_isKept_106 : decode cX12_isKept 106 = .ok (.ifCond .eq 47, 3) := by decide +kernel
theorem dX12_isKept_109 : decode cX12_isKept 109 = .ok (.aload_n 0, 1) := by decide +kernel
theorem dX12_isKept_110 : decode cX12_isKept 110 = .ok (.getfield 181, 3) := by decide +kernel
theorem dX12_isKept_113 : decode cX12_isKept 113 = .ok (.ldc2_w 277, 3) := by decide +kernel
theorem dX12_isKept_116 : decode cX12_isKept 116 = .ok (.lcmp, 1) := by decide +kernel
theorem dX12_isKept_117 : decode cX12_isKept 117 = .ok (.ifCond .eq 36, 3) := by decide +kernel
theorem dX12_isKept_120 : decode cX12_isKept 120 = .ok (.aload_n 0, 1) := by decide +kernel
theorem dX12_isKept_121 : decode cX12_isKept 121 = .ok (.getfield 181, 3) := by decide +kernel
theorem dX12_isKept_124 : decode cX12_isKept 124 = .ok (.ldc2_w 227, 3) := by decide +kernel
theorem dX12_isKept_127 : decode cX12_isKept 127 = .ok (.lcmp, 1) := by decide +kernel
theorem dX12_isKept_128 : decode cX12_isKept 128 = .ok (.ifCond .eq 25, 3) := by decide +kernel
theorem dX12_isKept_131 : decode cX12_isKept 131 = .ok (.aload_n 0, 1) := by decide +kernel
theorem dX12_isKept_132 : decode cX12_isKept 132 = .ok (.getfield 181, 3) := by decide +kernel
theorem dX12_isKept_135 : decode cX12_isKept 135 = .ok (.ldc2_w 246, 3) := by decide +kernel
theorem dX12_isKept_138 : decode cX12_isKept 138 = .ok (.lcmp, 1) := by decide +kernel
theorem dX12_isKept_139 : decode cX12_isKept 139 = .ok (.ifCond .eq 14, 3) := by decide +kernel
theorem dX12_isKept_142 : decode cX12_isKept 142 = .ok (.aload_n 0, 1) := by decide +kernel
theorem dX12_isKept_143 : decode cX12_isKept 143 = .ok (.getfield 181, 3) := by decide +kernel
theorem dX12_isKept_146 : decode cX12_isKept 146 = .ok (.ldc2_w 248, 3) := by decide +kernel
theorem dX12_isKept_149 : decode cX12_isKept 149 = .ok (.lcmp, 1) := by decide +kernel
theorem dX12_isKept_150 : decode cX12_isKept 150 = .ok (.ifCond .ne 7, 3) := by decide +kernel
theorem dX12_isKept_153 : decode cX12_isKept 153 = .ok (.iconst 1, 1) := by decide +kernel
theorem dX12_isKept_154 : decode cX12_isKept 154 = .ok (.goto 4, 3) := by decide +kernel
theorem dX12_isKept_157 : decode cX12_isKept 157 = .ok (.iconst 0, 1) := by decide +kernel
theorem dX12_isKept_158 : decode cX12_isKept 158 = .ok (.ireturn, 1) := by decide +kernel
noncomputable def F_X12_isKept (a0 : Nat) (M : m_M) : Option (Int32 × m_M) :=
  x_gI 10 M a0 6 fun v1 =>
  if v1 = (1 : Int32) then (
    m_let (fun  (M1 : m_M) =>
      some ((1 : Int32), M1)
    ) fun (k153 : m_M → Option (Int32 × m_M)) =>
    x_gL 10 M a0 7 fun v2 =>
    if (lg_cmp v2 (235981828 : Int64)) = 0 then (
      k153 M
    ) else
    x_gL 10 M a0 7 fun v3 =>
    if (lg_cmp v3 (10793230 : Int64)) = 0 then (
      k153 M
    ) else
    x_gL 10 M a0 7 fun v4 =>
    if (lg_cmp v4 (12328316 : Int64)) = 0 then (
      k153 M
    ) else
    x_gL 10 M a0 7 fun v5 =>
    if (lg_cmp v5 (43393 : Int64)) = 0 then (
      k153 M
    ) else
    x_gL 10 M a0 7 fun v6 =>
    if (lg_cmp v6 (437159 : Int64)) = 0 then (
      k153 M
    ) else
    x_gL 10 M a0 7 fun v7 =>
    if (lg_cmp v7 (456500 : Int64)) = 0 then (
      k153 M
    ) else
    x_gL 10 M a0 7 fun v8 =>
    if (lg_cmp v8 (277652441 : Int64)) = 0 then (
      k153 M
    ) else
    x_gL 10 M a0 7 fun v9 =>
    if (lg_cmp v9 (7593256863 : Int64)) = 0 then (
      k153 M
    ) else
    x_gL 10 M a0 7 fun v10 =>
    if (lg_cmp v10 (12253591 : Int64)) = 0 then (
      k153 M
    ) else
    x_gL 10 M a0 7 fun v11 =>
    if (lg_cmp v11 (1423796 : Int64)) = 0 then (
      k153 M
    ) else
    x_gL 10 M a0 7 fun v12 =>
    if (lg_cmp v12 (10631 : Int64)) = 0 then (
      k153 M
    ) else
    x_gL 10 M a0 7 fun v13 =>
    if (lg_cmp v13 (1111 : Int64)) = 0 then (
      k153 M
    ) else
    x_gL 10 M a0 7 fun v14 =>
    if (lg_cmp v14 (423 : Int64)) = 0 then (
      k153 M
    ) else
    some ((0 : Int32), M)
  ) else
  some ((1 : Int32), M)
set_option maxHeartbeats 4000000 in
theorem K_X12_isKept (a0 : Nat) (M : m_M) (Φ : Option Value → m_M → Prop) (h : m_ok e_I Φ (F_X12_isKept a0 M)) : j_Ct yX12_isKept cX12_isKept 1 (some .boolean) 1 0 0 [.ref a0] M Φ := by
  refine j_Ct.of (by decide +kernel) (Nat.le_of_ble_eq_true rfl) fun X C => ?_
  have C0 := C.1
  show j_J X 1 0 [some (.ref a0)] [] (0, 0) M
  unfold F_X12_isKept at h
  refine j_aload_n C0 (pc := 0) dX12_isKept_0 rfl ?_
  refine X_gI C0 (pc := 1) f_OM_188_10 rfl dX12_isKept_1 h (fun v1 h => ?_)
  refine j_iconst C0 (pc := 4) dX12_isKept_4 (v := (1 : Int32)) (by decide) ?_
  refine j_icmp_eq C0 (pc := 5) (tgt := 10) dX12_isKept_5 (by decide) (fun hc => ?_) (fun hc => ?_)
  · replace h := (X_if h).1 hc
    refine X_join (fun (kj : m_M → Option (Int32 × m_M)) => ∀  (M : m_M), m_ok e_I Φ (kj M) → j_J X 1 153 [none] [] (0, 0) M) h (fun M1 h => ?_) (fun k153 hk153 h => ?_)
    · refine j_iconst C0 (pc := 153) dX12_isKept_153 (v := (1 : Int32)) (by decide) ?_
      refine j_goto C0 (pc := 154) (tgt := 158) dX12_isKept_154 (by decide) ?_
      exact j_zret C rfl (by decide) h dX12_isKept_158 (by decide)
    · refine j_aload_n C0 (pc := 10) dX12_isKept_10 rfl ?_
      refine X_gL C0 (pc := 11) f_OM_181_10 rfl dX12_isKept_11 h (fun v2 h => ?_)
      refine j_ldc2 C0 (pc := 14) (v := (235981828 : Int64)) (j_c8 99 (by decide +kernel)) dX12_isKept_14 ?_
      refine j_lcmp C0 (pc := 17) dX12_isKept_17 ?_
      refine j_if_eq C0 (pc := 18) (tgt := 153) dX12_isKept_18 (by decide) (fun hc => ?_) (fun hc => ?_)
      · replace h := (X_if h).1 hc
        exact j_J.wq (hk153 M h) (trivial)
      · replace h := (X_if h).2 hc
        refine j_aload_n C0 (pc := 21) dX12_isKept_21 rfl ?_
        refine X_gL C0 (pc := 22) f_OM_181_10 rfl dX12_isKept_22 h (fun v3 h => ?_)
        refine j_ldc2 C0 (pc := 25) (v := (10793230 : Int64)) (j_c8 127 (by decide +kernel)) dX12_isKept_25 ?_
        refine j_lcmp C0 (pc := 28) dX12_isKept_28 ?_
        refine j_if_eq C0 (pc := 29) (tgt := 153) dX12_isKept_29 (by decide) (fun hc => ?_) (fun hc => ?_)
        · replace h := (X_if h).1 hc
          exact j_J.wq (hk153 M h) (trivial)
        · replace h := (X_if h).2 hc
          refine j_aload_n C0 (pc := 32) dX12_isKept_32 rfl ?_
          refine X_gL C0 (pc := 33) f_OM_181_10 rfl dX12_isKept_33 h (fun v4 h => ?_)
          refine j_ldc2 C0 (pc := 36) (v := (12328316 : Int64)) (j_c8 140 (by decide +kernel)) dX12_isKept_36 ?_
          refine j_lcmp C0 (pc := 39) dX12_isKept_39 ?_
          refine j_if_eq C0 (pc := 40) (tgt := 153) dX12_isKept_40 (by decide) (fun hc => ?_) (fun hc => ?_)
          · replace h := (X_if h).1 hc
            exact j_J.wq (hk153 M h) (trivial)
          · replace h := (X_if h).2 hc
            refine j_aload_n C0 (pc := 43) dX12_isKept_43 rfl ?_
            refine X_gL C0 (pc := 44) f_OM_181_10 rfl dX12_isKept_44 h (fun v5 h => ?_)
            refine j_ldc2 C0 (pc := 47) (v := (43393 : Int64)) (j_c8 141 (by decide +kernel)) dX12_isKept_47 ?_
            refine j_lcmp C0 (pc := 50) dX12_isKept_50 ?_
            refine j_if_eq C0 (pc := 51) (tgt := 153) dX12_isKept_51 (by decide) (fun hc => ?_) (fun hc => ?_)
            · replace h := (X_if h).1 hc
              exact j_J.wq (hk153 M h) (trivial)
            · replace h := (X_if h).2 hc
              refine j_aload_n C0 (pc := 54) dX12_isKept_54 rfl ?_
              refine X_gL C0 (pc := 55) f_OM_181_10 rfl dX12_isKept_55 h (fun v6 h => ?_)
              refine j_ldc2 C0 (pc := 58) (v := (437159 : Int64)) (j_c8 142 (by decide +kernel)) dX12_isKept_58 ?_
              refine j_lcmp C0 (pc := 61) dX12_isKept_61 ?_
              refine j_if_eq C0 (pc := 62) (tgt := 153) dX12_isKept_62 (by decide) (fun hc => ?_) (fun hc => ?_)
              · replace h := (X_if h).1 hc
                exact j_J.wq (hk153 M h) (trivial)
              · replace h := (X_if h).2 hc
                refine j_aload_n C0 (pc := 65) dX12_isKept_65 rfl ?_
                refine X_gL C0 (pc := 66) f_OM_181_10 rfl dX12_isKept_66 h (fun v7 h => ?_)
                refine j_ldc2 C0 (pc := 69) (v := (456500 : Int64)) (j_c8 143 (by decide +kernel)) dX12_isKept_69 ?_
                refine j_lcmp C0 (pc := 72) dX12_isKept_72 ?_
                refine j_if_eq C0 (pc := 73) (tgt := 153) dX12_isKept_73 (by decide) (fun hc => ?_) (fun hc => ?_)
                · replace h := (X_if h).1 hc
                  exact j_J.wq (hk153 M h) (trivial)
                · replace h := (X_if h).2 hc
                  refine j_aload_n C0 (pc := 76) dX12_isKept_76 rfl ?_
                  refine X_gL C0 (pc := 77) f_OM_181_10 rfl dX12_isKept_77 h (fun v8 h => ?_)
                  refine j_ldc2 C0 (pc := 80) (v := (277652441 : Int64)) (j_c8 144 (by decide +kernel)) dX12_isKept_80 ?_
                  refine j_lcmp C0 (pc := 83) dX12_isKept_83 ?_
                  refine j_if_eq C0 (pc := 84) (tgt := 153) dX12_isKept_84 (by decide) (fun hc => ?_) (fun hc => ?_)
                  · replace h := (X_if h).1 hc
                    exact j_J.wq (hk153 M h) (trivial)
                  · replace h := (X_if h).2 hc
                    refine j_aload_n C0 (pc := 87) dX12_isKept_87 rfl ?_
                    refine X_gL C0 (pc := 88) f_OM_181_10 rfl dX12_isKept_88 h (fun v9 h => ?_)
                    refine j_ldc2 C0 (pc := 91) (v := (7593256863 : Int64)) (j_c8 145 (by decide +kernel)) dX12_isKept_91 ?_
                    refine j_lcmp C0 (pc := 94) dX12_isKept_94 ?_
                    refine j_if_eq C0 (pc := 95) (tgt := 153) dX12_isKept_95 (by decide) (fun hc => ?_) (fun hc => ?_)
                    · replace h := (X_if h).1 hc
                      exact j_J.wq (hk153 M h) (trivial)
                    · replace h := (X_if h).2 hc
                      refine j_aload_n C0 (pc := 98) dX12_isKept_98 rfl ?_
                      refine X_gL C0 (pc := 99) f_OM_181_10 rfl dX12_isKept_99 h (fun v10 h => ?_)
                      refine j_ldc2 C0 (pc := 102) (v := (12253591 : Int64)) (j_c8 146 (by decide +kernel)) dX12_isKept_102 ?_
                      refine j_lcmp C0 (pc := 105) dX12_isKept_105 ?_
                      refine j_if_eq C0 (pc := 106) (tgt := 153) dX12_isKept_106 (by decide) (fun hc => ?_) (fun hc => ?_)
                      · replace h := (X_if h).1 hc
                        exact j_J.wq (hk153 M h) (trivial)
                      · replace h := (X_if h).2 hc
                        refine j_aload_n C0 (pc := 109) dX12_isKept_109 rfl ?_
                        refine X_gL C0 (pc := 110) f_OM_181_10 rfl dX12_isKept_110 h (fun v11 h => ?_)
                        refine j_ldc2 C0 (pc := 113) (v := (1423796 : Int64)) (j_c8 147 (by decide +kernel)) dX12_isKept_113 ?_
                        refine j_lcmp C0 (pc := 116) dX12_isKept_116 ?_
                        refine j_if_eq C0 (pc := 117) (tgt := 153) dX12_isKept_117 (by decide) (fun hc => ?_) (fun hc => ?_)
                        · replace h := (X_if h).1 hc
                          exact j_J.wq (hk153 M h) (trivial)
                        · replace h := (X_if h).2 hc
                          refine j_aload_n C0 (pc := 120) dX12_isKept_120 rfl ?_
                          refine X_gL C0 (pc := 121) f_OM_181_10 rfl dX12_isKept_121 h (fun v12 h => ?_)
                          refine j_ldc2 C0 (pc := 124) (v := (10631 : Int64)) (j_c8 148 (by decide +kernel)) dX12_isKept_124 ?_
                          refine j_lcmp C0 (pc := 127) dX12_isKept_127 ?_
                          refine j_if_eq C0 (pc := 128) (tgt := 153) dX12_isKept_128 (by decide) (fun hc => ?_) (fun hc => ?_)
                          · replace h := (X_if h).1 hc
                            exact j_J.wq (hk153 M h) (trivial)
                          · replace h := (X_if h).2 hc
                            refine j_aload_n C0 (pc := 131) dX12_isKept_131 rfl ?_
                            refine X_gL C0 (pc := 132) f_OM_181_10 rfl dX12_isKept_132 h (fun v13 h => ?_)
                            refine j_ldc2 C0 (pc := 135) (v := (1111 : Int64)) (j_c8 149 (by decide +kernel)) dX12_isKept_135 ?_
                            refine j_lcmp C0 (pc := 138) dX12_isKept_138 ?_
                            refine j_if_eq C0 (pc := 139) (tgt := 153) dX12_isKept_139 (by decide) (fun hc => ?_) (fun hc => ?_)
                            · replace h := (X_if h).1 hc
                              exact j_J.wq (hk153 M h) (trivial)
                            · replace h := (X_if h).2 hc
                              refine j_aload_n C0 (pc := 142) dX12_isKept_142 rfl ?_
                              refine X_gL C0 (pc := 143) f_OM_181_10 rfl dX12_isKept_143 h (fun v14 h => ?_)
                              refine j_ldc2 C0 (pc := 146) (v := (423 : Int64)) (j_c8 150 (by decide +kernel)) dX12_isKept_146 ?_
                              refine j_lcmp C0 (pc := 149) dX12_isKept_149 ?_
                              refine j_if_ne C0 (pc := 150) (tgt := 157) dX12_isKept_150 (by decide) (fun hc => ?_) (fun hc => ?_)
                              · replace h := (X_if h).2 hc
                                refine j_iconst C0 (pc := 157) dX12_isKept_157 (v := (0 : Int32)) (by decide) ?_
                                exact j_zret C rfl (by decide) h dX12_isKept_158 (by decide)
                              · replace h := (X_if h).1 hc
                                exact j_J.wq (hk153 M h) (trivial)
  · replace h := (X_if h).2 hc
    refine j_iconst C0 (pc := 8) dX12_isKept_8 (v := (1 : Int32)) (by decide) ?_
    exact j_zret C rfl (by decide) h dX12_isKept_9 (by decide)
theorem dX12_fails_0 : decode cX12_fails 0 = .ok (.aload_n 0, 1) := by decide +kernel
theorem dX12_fails_1 : decode cX12_fails 1 = .ok (.iload_n 1, 1) := by decide +kernel
theorem dX12_fails_2 : decode cX12_fails 2 = .ok (.bipush 16, 2) := by decide +kernel
theorem dX12_fails_4 : decode cX12_fails 4 = .ok (.aload_n 0, 1) := by decide +kernel
theorem dX12_fails_5 : decode cX12_fails 5 = .ok (.getfield 178, 3) := by decide +kernel
theorem dX12_fails_8 : decode cX12_fails 8 = .ok (.imul, 1) := by decide +kernel
theorem dX12_fails_9 : decode cX12_fails 9 = .ok (.iadd, 1) := by decide +kernel
theorem dX12_fails_10 : decode cX12_fails 10 = .ok (.putfield 199, 3) := by decide +kernel
theorem dX12_fails_13 : decode cX12_fails 13 = .ok (.iconst 0, 1) := by decide +kernel
theorem dX12_fails_14 : decode cX12_fails 14 = .ok (.ireturn, 1) := by decide +kernel
noncomputable def F_X12_fails (a0 : Nat) (a1 : Int32) (M : m_M) : Option (Int32 × m_M) :=
  x_gI 10 M a0 5 fun v1 =>
  x_pI 10 M a0 9 (a1 + ((16 : Int32) * v1)) fun M1 =>
  some ((0 : Int32), M1)
set_option maxHeartbeats 4000000 in
theorem K_X12_fails (a0 : Nat) (a1 : Int32) (M : m_M) (Φ : Option Value → m_M → Prop) (h : m_ok e_I Φ (F_X12_fails a0 a1 M)) : j_Ct yX12_fails cX12_fails 2 (some .boolean) 1 0 0 [.ref a0, .int a1] M Φ := by
  refine j_Ct.of (by decide +kernel) (Nat.le_of_ble_eq_true rfl) fun X C => ?_
  have C0 := C.1
  show j_J X 2 0 [some (.ref a0), some (.int a1)] [] (0, 0) M
  unfold F_X12_fails at h
  refine j_aload_n C0 (pc := 0) dX12_fails_0 rfl ?_
  refine j_iload_n C0 (pc := 1) dX12_fails_1 rfl ?_
  refine j_bipush C0 (pc := 2) dX12_fails_2 (v := (16 : Int32)) (by decide) ?_
  refine j_aload_n C0 (pc := 4) dX12_fails_4 rfl ?_
  refine X_gI C0 (pc := 5) f_OM_178_10 rfl dX12_fails_5 h (fun v1 h => ?_)
  refine j_imul C0 (pc := 8) dX12_fails_8 ?_
  refine j_iadd C0 (pc := 9) dX12_fails_9 ?_
  refine X_pI C0 (pc := 10) f_OM_199_10 rfl rfl dX12_fails_10 h (fun M1 h => ?_)
  refine j_iconst C0 (pc := 13) dX12_fails_13 (v := (0 : Int32)) (by decide) ?_
  exact j_zret C rfl (by decide) h dX12_fails_14 (by decide)
theorem dX12_thingNamed_0 : decode cX12_thingNamed 0 = .ok (.iconst 0, 1) := by decide +kernel
theorem dX12_thingNamed_1 : decode cX12_thingNamed 1 = .ok (.istore_n 2, 1) := by decide +kernel
theorem dX12_thingNamed_2 : decode cX12_thingNamed 2 = .ok (.iload_n 2, 1) := by decide +kernel
theorem dX12_thingNamed_3 : decode cX12_thingNamed 3 = .ok (.aload_n 0, 1) := by decide +kernel
theorem dX12_thingNamed_4 : decode cX12_thingNamed 4 = .ok (.getfield 13, 3) := by decide +kernel
theorem dX12_thingNamed_7 : decode cX12_thingNamed 7 = .ok (.bipush 8, 2) := by decide +kernel
theorem dX12_thingNamed_9 : decode cX12_thingNamed 9 = .ok (.iload_n 1, 1) := by decide +kernel
theorem dX12_thingNamed_10 : decode cX12_thingNamed 10 = .ok (.imul, 1) := by decide +kernel
theorem dX12_thingNamed_11 : decode cX12_thingNamed 11 = .ok (.iconst 1, 1) := by decide +kernel
theorem dX12_thingNamed_12 : decode cX12_thingNamed 12 = .ok (.iadd, 1) := by decide +kernel
theorem dX12_thingNamed_13 : decode cX12_thingNamed 13 = .ok (.iaload, 1) := by decide +kernel
theorem dX12_thingNamed_14 : decode cX12_thingNamed 14 = .ok (.if_icmp .ge 29, 3) := by decide +kernel
theorem dX12_thingNamed_17 : decode cX12_thingNamed 17 = .ok (.aload_n 0, 1) := by decide +kernel
theorem dX12_thingNamed_18 : decode cX12_thingNamed 18 = .ok (.getfield 16, 3) := by decide +kernel
theorem dX12_thingNamed_21 : decode cX12_thingNamed 21 = .ok (.iconst 5, 1) := by decide +kernel
theorem dX12_thingNamed_22 : decode cX12_thingNamed 22 = .ok (.iload_n 1, 1) := by decide +kernel
theorem dX12_thingNamed_23 : decode cX12_thingNamed 23 = .ok (.imul, 1) := by decide +kernel
theorem dX12_thingNamed_24 : decode cX12_thingNamed 24 = .ok (.iload_n 2, 1) := by decide +kernel
theorem dX12_thingNamed_25 : decode cX12_thingNamed 25 = .ok (.iadd, 1) := by decide +kernel
theorem dX12_thingNamed_26 : decode cX12_thingNamed 26 = .ok (.laload, 1) := by decide +kernel
theorem dX12_thingNamed_27 : decode cX12_thingNamed 27 = .ok (.aload_n 0, 1) := by decide +kernel
theorem dX12_thingNamed_28 : decode cX12_thingNamed 28 = .ok (.getfield 181, 3) := by decide +kernel
theorem dX12_thingNamed_31 : decode cX12_thingNamed 31 = .ok (.lcmp, 1) := by decide +kernel
theorem dX12_thingNamed_32 : decode cX12_thingNamed 32 = .ok (.ifCond .ne 5, 3) := by decide +kernel
theorem dX12_thingNamed_35 : decode cX12_thingNamed 35 = .ok (.iload_n 2, 1) := by decide +kernel
theorem dX12_thingNamed_36 : decode cX12_thingNamed 36 = .ok (.ireturn, 1) := by decide +kernel
theorem dX12_thingNamed_37 : decode cX12_thingNamed 37 = .ok (.iinc 2 1, 3) := by decide +kernel
theorem dX12_thingNamed_40 : decode cX12_thingNamed 40 = .ok (.goto (-38), 3) := by decide +kernel
theorem dX12_thingNamed_43 : decode cX12_thingNamed 43 = .ok (.iconst (-1), 1) := by decide +kernel
theorem dX12_thingNamed_44 : decode cX12_thingNamed 44 = .ok (.ireturn, 1) := by decide +kernel
noncomputable def F_X12_thingNamed_2 : Nat → Nat → Int32 → Int32 → m_M → Option (Int32 × m_M)
  | 0, _, _, _, _ => none
  | n + 1, v1, v2, v3, M =>
    x_gN 10 M v1 10 fun v4 =>
    x_aI 12 M v4 (((8 : Int32) * v2) + (1 : Int32)) fun v5 =>
    if v5 ≤ v3 then (
      some ((-1 : Int32), M)
    ) else
    x_gN 10 M v1 11 fun v6 =>
    x_aL M v6 (((5 : Int32) * v2) + v3) fun v7 =>
    x_gL 10 M v1 7 fun v8 =>
    if (lg_cmp v7 v8) = 0 then (
      some (v3, M)
    ) else
    m_let (v3 + (1 : Int32)) fun v9 =>
    F_X12_thingNamed_2 n v1 v2 v9 M
noncomputable def F_X12_thingNamed (a0 : Nat) (a1 : Int32) (M : m_M) : Option (Int32 × m_M) :=
  F_X12_thingNamed_2 m_FU a0 a1 (0 : Int32) M
set_option maxHeartbeats 4000000 in
theorem L_X12_thingNamed_2 {X : j_X} {Φ : Option Value → m_M → Prop} (C : j_C X yX12_thingNamed cX12_thingNamed 3 (some .int) 1 0 0 Φ) : ∀ (n : Nat) (v1 : Nat) (v2 : Int32) (v3 : Int32) (M : m_M), m_ok e_I Φ (F_X12_thingNamed_2 n v1 v2 v3 M) → j_J X 3 2 [some (.ref v1), some (.int v2), some (.int v3)] [] (0, 0) M := by
  have C0 := C.1
  intro n
  induction n with
  | zero => intro v1 v2 v3 M h; exact False.elim h
  | succ n ih =>
    intro v1 v2 v3 M h
    rw [F_X12_thingNamed_2] at h
    refine j_iload_n C0 (pc := 2) dX12_thingNamed_2 rfl ?_
    refine j_aload_n C0 (pc := 3) dX12_thingNamed_3 rfl ?_
    refine X_gN C0 (pc := 4) f_OM_13_10 rfl dX12_thingNamed_4 h (fun v4 h => ?_)
    refine j_bipush C0 (pc := 7) dX12_thingNamed_7 (v := (8 : Int32)) (by decide) ?_
    refine j_iload_n C0 (pc := 9) dX12_thingNamed_9 rfl ?_
    refine j_imul C0 (pc := 10) dX12_thingNamed_10 ?_
    refine j_iconst C0 (pc := 11) dX12_thingNamed_11 (v := (1 : Int32)) (by decide) ?_
    refine j_iadd C0 (pc := 12) dX12_thingNamed_12 ?_
    refine X_iald C0 (pc := 13) dX12_thingNamed_13 h (fun v5 h => ?_)
    refine j_icmp_ge C0 (pc := 14) (tgt := 43) dX12_thingNamed_14 (by decide) (fun hc => ?_) (fun hc => ?_)
    · replace h := (X_if h).1 hc
      refine j_iconst C0 (pc := 43) dX12_thingNamed_43 (v := (-1 : Int32)) (by decide) ?_
      exact j_iret C rfl h dX12_thingNamed_44 (by decide)
    · replace h := (X_if h).2 hc
      refine j_aload_n C0 (pc := 17) dX12_thingNamed_17 rfl ?_
      refine X_gN C0 (pc := 18) f_OM_16_10 rfl dX12_thingNamed_18 h (fun v6 h => ?_)
      refine j_iconst C0 (pc := 21) dX12_thingNamed_21 (v := (5 : Int32)) (by decide) ?_
      refine j_iload_n C0 (pc := 22) dX12_thingNamed_22 rfl ?_
      refine j_imul C0 (pc := 23) dX12_thingNamed_23 ?_
      refine j_iload_n C0 (pc := 24) dX12_thingNamed_24 rfl ?_
      refine j_iadd C0 (pc := 25) dX12_thingNamed_25 ?_
      refine X_lald C0 (pc := 26) dX12_thingNamed_26 h (fun v7 h => ?_)
      refine j_aload_n C0 (pc := 27) dX12_thingNamed_27 rfl ?_
      refine X_gL C0 (pc := 28) f_OM_181_10 rfl dX12_thingNamed_28 h (fun v8 h => ?_)
      refine j_lcmp C0 (pc := 31) dX12_thingNamed_31 ?_
      refine j_if_ne C0 (pc := 32) (tgt := 37) dX12_thingNamed_32 (by decide) (fun hc => ?_) (fun hc => ?_)
      · replace h := (X_if h).2 hc
        refine j_iinc C0 (pc := 37) dX12_thingNamed_37 (v := v3 + (1 : Int32)) rfl (Nat.le_of_ble_eq_true rfl) (by rfl) ?_
        refine X_let (G := fun w => j_J X 3 40 [some (.ref v1), some (.int v2), some (.int w)] [] (0, 0) M) h (fun v9 h => ?_)
        refine j_goto C0 (pc := 40) (tgt := 2) dX12_thingNamed_40 (by decide) ?_
        exact j_J.wq (ih v1 v2 v9 M h) (And.intro rfl (And.intro rfl (And.intro rfl (trivial))))
      · replace h := (X_if h).1 hc
        refine j_iload_n C0 (pc := 35) dX12_thingNamed_35 rfl ?_
        exact j_iret C rfl h dX12_thingNamed_36 (by decide)
set_option maxHeartbeats 4000000 in
theorem K_X12_thingNamed (a0 : Nat) (a1 : Int32) (M : m_M) (Φ : Option Value → m_M → Prop) (h : m_ok e_I Φ (F_X12_thingNamed a0 a1 M)) : j_Ct yX12_thingNamed cX12_thingNamed 3 (some .int) 1 0 0 [.ref a0, .int a1] M Φ := by
  refine j_Ct.of (by decide +kernel) (Nat.le_of_ble_eq_true rfl) fun X C => ?_
  have C0 := C.1
  show j_J X 3 0 [some (.ref a0), some (.int a1), none] [] (0, 0) M
  unfold F_X12_thingNamed at h
  refine j_iconst C0 (pc := 0) dX12_thingNamed_0 (v := (0 : Int32)) (by decide) ?_
  refine j_istore_n C0 (pc := 1) dX12_thingNamed_1 (Nat.le_of_ble_eq_true rfl) ?_
  show j_J X 3 2 [some (.ref a0), some (.int a1), some (.int (0 : Int32))] [] (0, 0) M
  exact j_J.wq (L_X12_thingNamed_2 C m_FU a0 a1 (0 : Int32) M h) (And.intro rfl (And.intro rfl (And.intro rfl (trivial))))
theorem dX12_bendNamed_0 : decode cX12_bendNamed 0 = .ok (.iconst 0, 1) := by decide +kernel
theorem dX12_bendNamed_1 : decode cX12_bendNamed 1 = .ok (.istore_n 2, 1) := by decide +kernel
theorem dX12_bendNamed_2 : decode cX12_bendNamed 2 = .ok (.iload_n 2, 1) := by decide +kernel
theorem dX12_bendNamed_3 : decode cX12_bendNamed 3 = .ok (.aload_n 0, 1) := by decide +kernel
theorem dX12_bendNamed_4 : decode cX12_bendNamed 4 = .ok (.getfield 13, 3) := by decide +kernel
theorem dX12_bendNamed_7 : decode cX12_bendNamed 7 = .ok (.bipush 8, 2) := by decide +kernel
theorem dX12_bendNamed_9 : decode cX12_bendNamed 9 = .ok (.iload_n 1, 1) := by decide +kernel
theorem dX12_bendNamed_10 : decode cX12_bendNamed 10 = .ok (.imul, 1) := by decide +kernel
theorem dX12_bendNamed_11 : decode cX12_bendNamed 11 = .ok (.iconst 2, 1) := by decide +kernel
theorem dX12_bendNamed_12 : decode cX12_bendNamed 12 = .ok (.iadd, 1) := by decide +kernel
theorem dX12_bendNamed_13 : decode cX12_bendNamed 13 = .ok (.iaload, 1) := by decide +kernel
theorem dX12_bendNamed_14 : decode cX12_bendNamed 14 = .ok (.if_icmp .ge 29, 3) := by decide +kernel
theorem dX12_bendNamed_17 : decode cX12_bendNamed 17 = .ok (.aload_n 0, 1) := by decide +kernel
theorem dX12_bendNamed_18 : decode cX12_bendNamed 18 = .ok (.getfield 20, 3) := by decide +kernel
theorem dX12_bendNamed_21 : decode cX12_bendNamed 21 = .ok (.iconst 3, 1) := by decide +kernel
theorem dX12_bendNamed_22 : decode cX12_bendNamed 22 = .ok (.iload_n 1, 1) := by decide +kernel
theorem dX12_bendNamed_23 : decode cX12_bendNamed 23 = .ok (.imul, 1) := by decide +kernel
theorem dX12_bendNamed_24 : decode cX12_bendNamed 24 = .ok (.iload_n 2, 1) := by decide +kernel
theorem dX12_bendNamed_25 : decode cX12_bendNamed 25 = .ok (.iadd, 1) := by decide +kernel
theorem dX12_bendNamed_26 : decode cX12_bendNamed 26 = .ok (.laload, 1) := by decide +kernel
theorem dX12_bendNamed_27 : decode cX12_bendNamed 27 = .ok (.aload_n 0, 1) := by decide +kernel
theorem dX12_bendNamed_28 : decode cX12_bendNamed 28 = .ok (.getfield 181, 3) := by decide +kernel
theorem dX12_bendNamed_31 : decode cX12_bendNamed 31 = .ok (.lcmp, 1) := by decide +kernel
theorem dX12_bendNamed_32 : decode cX12_bendNamed 32 = .ok (.ifCond .ne 5, 3) := by decide +kernel
theorem dX12_bendNamed_35 : decode cX12_bendNamed 35 = .ok (.iload_n 2, 1) := by decide +kernel
theorem dX12_bendNamed_36 : decode cX12_bendNamed 36 = .ok (.ireturn, 1) := by decide +kernel
theorem dX12_bendNamed_37 : decode cX12_bendNamed 37 = .ok (.iinc 2 1, 3) := by decide +kernel
theorem dX12_bendNamed_40 : decode cX12_bendNamed 40 = .ok (.goto (-38), 3) := by decide +kernel
theorem dX12_bendNamed_43 : decode cX12_bendNamed 43 = .ok (.iconst (-1), 1) := by decide +kernel
theorem dX12_bendNamed_44 : decode cX12_bendNamed 44 = .ok (.ireturn, 1) := by decide +kernel
noncomputable def F_X12_bendNamed_2 : Nat → Nat → Int32 → Int32 → m_M → Option (Int32 × m_M)
  | 0, _, _, _, _ => none
  | n + 1, v1, v2, v3, M =>
    x_gN 10 M v1 10 fun v4 =>
    x_aI 12 M v4 (((8 : Int32) * v2) + (2 : Int32)) fun v5 =>
    if v5 ≤ v3 then (
      some ((-1 : Int32), M)
    ) else
    x_gN 10 M v1 12 fun v6 =>
    x_aL M v6 (((3 : Int32) * v2) + v3) fun v7 =>
    x_gL 10 M v1 7 fun v8 =>
    if (lg_cmp v7 v8) = 0 then (
      some (v3, M)
    ) else
    m_let (v3 + (1 : Int32)) fun v9 =>
    F_X12_bendNamed_2 n v1 v2 v9 M
noncomputable def F_X12_bendNamed (a0 : Nat) (a1 : Int32) (M : m_M) : Option (Int32 × m_M) :=
  F_X12_bendNamed_2 m_FU a0 a1 (0 : Int32) M
set_option maxHeartbeats 4000000 in
theorem L_X12_bendNamed_2 {X : j_X} {Φ : Option Value → m_M → Prop} (C : j_C X yX12_bendNamed cX12_bendNamed 3 (some .int) 1 0 0 Φ) : ∀ (n : Nat) (v1 : Nat) (v2 : Int32) (v3 : Int32) (M : m_M), m_ok e_I Φ (F_X12_bendNamed_2 n v1 v2 v3 M) → j_J X 3 2 [some (.ref v1), some (.int v2), some (.int v3)] [] (0, 0) M := by
  have C0 := C.1
  intro n
  induction n with
  | zero => intro v1 v2 v3 M h; exact False.elim h
  | succ n ih =>
    intro v1 v2 v3 M h
    rw [F_X12_bendNamed_2] at h
    refine j_iload_n C0 (pc := 2) dX12_bendNamed_2 rfl ?_
    refine j_aload_n C0 (pc := 3) dX12_bendNamed_3 rfl ?_
    refine X_gN C0 (pc := 4) f_OM_13_10 rfl dX12_bendNamed_4 h (fun v4 h => ?_)
    refine j_bipush C0 (pc := 7) dX12_bendNamed_7 (v := (8 : Int32)) (by decide) ?_
    refine j_iload_n C0 (pc := 9) dX12_bendNamed_9 rfl ?_
    refine j_imul C0 (pc := 10) dX12_bendNamed_10 ?_
    refine j_iconst C0 (pc := 11) dX12_bendNamed_11 (v := (2 : Int32)) (by decide) ?_
    refine j_iadd C0 (pc := 12) dX12_bendNamed_12 ?_
    refine X_iald C0 (pc := 13) dX12_bendNamed_13 h (fun v5 h => ?_)
    refine j_icmp_ge C0 (pc := 14) (tgt := 43) dX12_bendNamed_14 (by decide) (fun hc => ?_) (fun hc => ?_)
    · replace h := (X_if h).1 hc
      refine j_iconst C0 (pc := 43) dX12_bendNamed_43 (v := (-1 : Int32)) (by decide) ?_
      exact j_iret C rfl h dX12_bendNamed_44 (by decide)
    · replace h := (X_if h).2 hc
      refine j_aload_n C0 (pc := 17) dX12_bendNamed_17 rfl ?_
      refine X_gN C0 (pc := 18) f_OM_20_10 rfl dX12_bendNamed_18 h (fun v6 h => ?_)
      refine j_iconst C0 (pc := 21) dX12_bendNamed_21 (v := (3 : Int32)) (by decide) ?_
      refine j_iload_n C0 (pc := 22) dX12_bendNamed_22 rfl ?_
      refine j_imul C0 (pc := 23) dX12_bendNamed_23 ?_
      refine j_iload_n C0 (pc := 24) dX12_bendNamed_24 rfl ?_
      refine j_iadd C0 (pc := 25) dX12_bendNamed_25 ?_
      refine X_lald C0 (pc := 26) dX12_bendNamed_26 h (fun v7 h => ?_)
      refine j_aload_n C0 (pc := 27) dX12_bendNamed_27 rfl ?_
      refine X_gL C0 (pc := 28) f_OM_181_10 rfl dX12_bendNamed_28 h (fun v8 h => ?_)
      refine j_lcmp C0 (pc := 31) dX12_bendNamed_31 ?_
      refine j_if_ne C0 (pc := 32) (tgt := 37) dX12_bendNamed_32 (by decide) (fun hc => ?_) (fun hc => ?_)
      · replace h := (X_if h).2 hc
        refine j_iinc C0 (pc := 37) dX12_bendNamed_37 (v := v3 + (1 : Int32)) rfl (Nat.le_of_ble_eq_true rfl) (by rfl) ?_
        refine X_let (G := fun w => j_J X 3 40 [some (.ref v1), some (.int v2), some (.int w)] [] (0, 0) M) h (fun v9 h => ?_)
        refine j_goto C0 (pc := 40) (tgt := 2) dX12_bendNamed_40 (by decide) ?_
        exact j_J.wq (ih v1 v2 v9 M h) (And.intro rfl (And.intro rfl (And.intro rfl (trivial))))
      · replace h := (X_if h).1 hc
        refine j_iload_n C0 (pc := 35) dX12_bendNamed_35 rfl ?_
        exact j_iret C rfl h dX12_bendNamed_36 (by decide)
set_option maxHeartbeats 4000000 in
theorem K_X12_bendNamed (a0 : Nat) (a1 : Int32) (M : m_M) (Φ : Option Value → m_M → Prop) (h : m_ok e_I Φ (F_X12_bendNamed a0 a1 M)) : j_Ct yX12_bendNamed cX12_bendNamed 3 (some .int) 1 0 0 [.ref a0, .int a1] M Φ := by
  refine j_Ct.of (by decide +kernel) (Nat.le_of_ble_eq_true rfl) fun X C => ?_
  have C0 := C.1
  show j_J X 3 0 [some (.ref a0), some (.int a1), none] [] (0, 0) M
  unfold F_X12_bendNamed at h
  refine j_iconst C0 (pc := 0) dX12_bendNamed_0 (v := (0 : Int32)) (by decide) ?_
  refine j_istore_n C0 (pc := 1) dX12_bendNamed_1 (Nat.le_of_ble_eq_true rfl) ?_
  show j_J X 3 2 [some (.ref a0), some (.int a1), some (.int (0 : Int32))] [] (0, 0) M
  exact j_J.wq (L_X12_bendNamed_2 C m_FU a0 a1 (0 : Int32) M h) (And.intro rfl (And.intro rfl (And.intro rfl (trivial))))
theorem dX12_readsNoun_0 : decode cX12_readsNoun 0 = .ok (.iconst 0, 1) := by decide +kernel
theorem dX12_readsNoun_1 : decode cX12_readsNoun 1 = .ok (.istore_n 1, 1) := by decide +kernel
theorem dX12_readsNoun_2 : decode cX12_readsNoun 2 = .ok (.aload_n 0, 1) := by decide +kernel
theorem dX12_readsNoun_3 : decode cX12_readsNoun 3 = .ok (.iconst 0, 1) := by decide +kernel
theorem dX12_readsNoun_4 : decode cX12_readsNoun 4 = .ok (.putfield 359, 3) := by decide +kernel
theorem dX12_readsNoun_7 : decode cX12_readsNoun 7 = .ok (.aload_n 0, 1) := by decide +kernel
theorem dX12_readsNoun_8 : decode cX12_readsNoun 8 = .ok (.invokevirtual 286, 3) := by decide +kernel
theorem dX12_readsNoun_11 : decode cX12_readsNoun 11 = .ok (.ifCond .eq 9, 3) := by decide +kernel
theorem dX12_readsNoun_14 : decode cX12_readsNoun 14 = .ok (.aload_n 0, 1) := by decide +kernel
theorem dX12_readsNoun_15 : decode cX12_readsNoun 15 = .ok (.iconst 1, 1) := by decide +kernel
theorem dX12_readsNoun_16 : decode cX12_readsNoun 16 = .ok (.invokevirtual 237, 3) := by decide +kernel
theorem dX12_readsNoun_19 : decode cX12_readsNoun 19 = .ok (.ireturn, 1) := by decide +kernel
theorem dX12_readsNoun_20 : decode cX12_readsNoun 20 = .ok (.aload_n 0, 1) := by decide +kernel
theorem dX12_readsNoun_21 : decode cX12_readsNoun 21 = .ok (.iconst 0, 1) := by decide +kernel
theorem dX12_readsNoun_22 : decode cX12_readsNoun 22 = .ok (.invokevirtual 290, 3) := by decide +kernel
theorem dX12_readsNoun_25 : decode cX12_readsNoun 25 = .ok (.istore_n 2, 1) := by decide +kernel
theorem dX12_readsNoun_26 : decode cX12_readsNoun 26 = .ok (.iload_n 2, 1) := by decide +kernel
theorem dX12_readsNoun_27 : decode cX12_readsNoun 27 = .ok (.ifCond .lt 19, 3) := by decide +kernel
theorem dX12_readsNoun_30 : decode cX12_readsNoun 30 = .ok (.aload_n 0, 1) := by decide +kernel
theorem dX12_readsNoun_31 : decode cX12_readsNoun 31 = .ok (.dup, 1) := by decide +kernel
theorem dX12_readsNoun_32 : decode cX12_readsNoun 32 = .ok (.getfield 359, 3) := by decide +kernel
theorem dX12_readsNoun_35 : decode cX12_readsNoun 35 = .ok (.iload_n 2, 1) := by decide +kernel
theorem dX12_readsNoun_36 : decode cX12_readsNoun 36 = .ok (.iadd, 1) := by decide +kernel
theorem dX12_readsNoun_37 : decode cX12_readsNoun 37 = .ok (.putfield 359, 3) := by decide +kernel
theorem dX12_readsNoun_40 : decode cX12_readsNoun 40 = .ok (.aload_n 0, 1) := by decide +kernel
theorem dX12_readsNoun_41 : decode cX12_readsNoun 41 = .ok (.invokevirtual 243, 3) := by decide +kernel
theorem dX12_readsNoun_44 : decode cX12_readsNoun 44 = .ok (.iconst 1, 1) := by decide +kernel
theorem dX12_readsNoun_45 : decode cX12_readsNoun 45 = .ok (.ireturn, 1) := by decide +kernel
theorem dX12_readsNoun_46 : decode cX12_readsNoun 46 = .ok (.aload_n 0, 1) := by decide +kernel
theorem dX12_readsNoun_47 : decode cX12_readsNoun 47 = .ok (.iconst 0, 1) := by decide +kernel
theorem dX12_readsNoun_48 : decode cX12_readsNoun 48 = .ok (.invokevirtual 293, 3) := by decide +kernel
theorem dX12_readsNoun_51 : decode cX12_readsNoun 51 = .ok (.istore_n 3, 1) := by decide +kernel
theorem dX12_readsNoun_52 : decode cX12_readsNoun 52 = .ok (.iload_n 3, 1) := by decide +kernel
theorem dX12_readsNoun_53 : decode cX12_readsNoun 53 = .ok (.ifCond .ge 9, 3) := by decide +kernel
theorem dX12_readsNoun_56 : decode cX12_readsNoun 56 = .ok (.aload_n 0, 1) := by decide +kernel
theorem dX12_readsNoun_57 : decode cX12_readsNoun 57 = .ok (.iconst 2, 1) := by decide +kernel
theorem dX12_readsNoun_58 : decode cX12_readsNoun 58 = .ok (.invokevirtual 237, 3) := by decide +kernel
theorem dX12_readsNoun_61 : decode cX12_readsNoun 61 = .ok (.ireturn, 1) := by decide +kernel
theorem dX12_readsNoun_62 : decode cX12_readsNoun 62 = .ok (.iload_n 1, 1) := by decide +kernel
theorem dX12_readsNoun_63 : decode cX12_readsNoun 63 = .ok (.iconst 2, 1) := by decide +kernel
theorem dX12_readsNoun_64 : decode cX12_readsNoun 64 = .ok (.if_icmp .ne 9, 3) := by decide +kernel
theorem dX12_readsNoun_67 : decode cX12_readsNoun 67 = .ok (.aload_n 0, 1) := by decide +kernel
theorem dX12_readsNoun_68 : decode cX12_readsNoun 68 = .ok (.iconst 5, 1) := by decide +kernel
theorem dX12_readsNoun_69 : decode cX12_readsNoun 69 = .ok (.invokevirtual 237, 3) := by decide +kernel
theorem dX12_readsNoun_72 : decode cX12_readsNoun 72 = .ok (.ireturn, 1) := by decide +kernel
theorem dX12_readsNoun_73 : decode cX12_readsNoun 73 = .ok (.aload_n 0, 1) := by decide +kernel
theorem dX12_readsNoun_74 : decode cX12_readsNoun 74 = .ok (.bipush 32, 2) := by decide +kernel
theorem dX12_readsNoun_76 : decode cX12_readsNoun 76 = .ok (.aload_n 0, 1) := by decide +kernel
theorem dX12_readsNoun_77 : decode cX12_readsNoun 77 = .ok (.getfield 359, 3) := by decide +kernel
theorem dX12_readsNoun_80 : decode cX12_readsNoun 80 = .ok (.bipush 8, 2) := by decide +kernel
theorem dX12_readsNoun_82 : decode cX12_readsNoun 82 = .ok (.idiv, 1) := by decide +kernel
theorem dX12_readsNoun_83 : decode cX12_readsNoun 83 = .ok (.iconst 4, 1) := by decide +kernel
theorem dX12_readsNoun_84 : decode cX12_readsNoun 84 = .ok (.irem, 1) := by decide +kernel
theorem dX12_readsNoun_85 : decode cX12_readsNoun 85 = .ok (.imul, 1) := by decide +kernel
theorem dX12_readsNoun_86 : decode cX12_readsNoun 86 = .ok (.bipush 8, 2) := by decide +kernel
theorem dX12_readsNoun_88 : decode cX12_readsNoun 88 = .ok (.iconst 1, 1) := by decide +kernel
theorem dX12_readsNoun_89 : decode cX12_readsNoun 89 = .ok (.iload_n 3, 1) := by decide +kernel
theorem dX12_readsNoun_90 : decode cX12_readsNoun 90 = .ok (.iadd, 1) := by decide +kernel
theorem dX12_readsNoun_91 : decode cX12_readsNoun 91 = .ok (.imul, 1) := by decide +kernel
theorem dX12_readsNoun_92 : decode cX12_readsNoun 92 = .ok (.iadd, 1) := by decide +kernel
theorem dX12_readsNoun_93 : decode cX12_readsNoun 93 = .ok (.putfield 359, 3) := by decide +kernel
theorem dX12_readsNoun_96 : decode cX12_readsNoun 96 = .ok (.iinc 1 1, 3) := by decide +kernel
theorem dX12_readsNoun_99 : decode cX12_readsNoun 99 = .ok (.aload_n 0, 1) := by decide +kernel
theorem dX12_readsNoun_100 : decode cX12_readsNoun 100 = .ok (.invokevirtual 243, 3) := by decide +kernel
theorem dX12_readsNoun_103 : decode cX12_readsNoun 103 = .ok (.goto (-96), 3) := by decide +kernel
noncomputable def F_X12_readsNoun_7 (k14 : Nat → m_M → Option (Int32 × m_M)) (k30 : Nat → Int32 → m_M → Option (Int32 × m_M)) (k56 : Nat → m_M → Option (Int32 × m_M)) (k67 : Nat → m_M → Option (Int32 × m_M)) : Nat → Nat → Int32 → m_M → Option (Int32 × m_M)
  | 0, _, _, _ => none
  | n + 1, v1, v2, M =>
    x_cV 10 M v1 (F_X12_isKept v1 M) fun v3 M1 =>
    if v3 = 0 then (
      x_cV 10 M1 v1 (F_X12_thingNamed v1 (0 : Int32) M1) fun v4 M2 =>
      if v4 < 0 then (
        x_cV 10 M2 v1 (F_X12_bendNamed v1 (0 : Int32) M2) fun v5 M3 =>
        if 0 ≤ v5 then (
          if v2 = (2 : Int32) then (
            k67 v1 M3
          ) else
          x_gI 10 M3 v1 41 fun v6 =>
          x_nz (8 : Int32) <|
          x_nz (4 : Int32) <|
          x_pI 10 M3 v1 41 (((32 : Int32) * ((v6 / (8 : Int32)) - (v6 / (8 : Int32)) / (4 : Int32) * (4 : Int32))) + ((8 : Int32) * ((1 : Int32) + v5))) fun M4 =>
          m_let (v2 + (1 : Int32)) fun v7 =>
          x_cV 10 M4 v1 (F_X12_nextToken v1 M4) fun _ M5 =>
          F_X12_readsNoun_7 k14 k30 k56 k67 n v1 v7 M5
        ) else
        k56 v1 M3
      ) else
      k30 v1 v4 M2
    ) else
    k14 v1 M1
noncomputable def F_X12_readsNoun (a0 : Nat) (M : m_M) : Option (Int32 × m_M) :=
  x_pI 10 M a0 41 (0 : Int32) fun M1 =>
  m_let (fun (v1 : Nat) (M2 : m_M) =>
    x_cV 10 M2 v1 (F_X12_fails v1 (1 : Int32) M2) fun v2 M3 =>
    x_b v2 <| some (v2, M3)
  ) fun (k14 : Nat → m_M → Option (Int32 × m_M)) =>
  m_let (fun (v3 : Nat) (v4 : Int32) (M4 : m_M) =>
    x_gI 10 M4 v3 41 fun v5 =>
    x_pI 10 M4 v3 41 (v5 + v4) fun M5 =>
    x_cV 10 M5 v3 (F_X12_nextToken v3 M5) fun _ M6 =>
    some ((1 : Int32), M6)
  ) fun (k30 : Nat → Int32 → m_M → Option (Int32 × m_M)) =>
  m_let (fun (v6 : Nat) (M7 : m_M) =>
    x_cV 10 M7 v6 (F_X12_fails v6 (2 : Int32) M7) fun v7 M8 =>
    x_b v7 <| some (v7, M8)
  ) fun (k56 : Nat → m_M → Option (Int32 × m_M)) =>
  m_let (fun (v8 : Nat) (M9 : m_M) =>
    x_cV 10 M9 v8 (F_X12_fails v8 (5 : Int32) M9) fun v9 M10 =>
    x_b v9 <| some (v9, M10)
  ) fun (k67 : Nat → m_M → Option (Int32 × m_M)) =>
  F_X12_readsNoun_7 k14 k30 k56 k67 m_FU a0 (0 : Int32) M1
set_option maxHeartbeats 4000000 in
theorem L_X12_readsNoun_7 {X : j_X} {Φ : Option Value → m_M → Prop} (C : j_C X yX12_readsNoun cX12_readsNoun 4 (some .boolean) 3 0 0 Φ) {k14 : Nat → m_M → Option (Int32 × m_M)} {k30 : Nat → Int32 → m_M → Option (Int32 × m_M)} {k56 : Nat → m_M → Option (Int32 × m_M)} {k67 : Nat → m_M → Option (Int32 × m_M)} (hk14 : ∀ (p0 : Nat) (M : m_M), m_ok e_I Φ (k14 p0 M) → j_J X 4 14 [some (.ref p0), none, none, none] [] (0, 0) M) (hk30 : ∀ (p0 : Nat) (p1 : Int32) (M : m_M), m_ok e_I Φ (k30 p0 p1 M) → j_J X 4 30 [some (.ref p0), none, some (.int p1), none] [] (0, 0) M) (hk56 : ∀ (p0 : Nat) (M : m_M), m_ok e_I Φ (k56 p0 M) → j_J X 4 56 [some (.ref p0), none, none, none] [] (0, 0) M) (hk67 : ∀ (p0 : Nat) (M : m_M), m_ok e_I Φ (k67 p0 M) → j_J X 4 67 [some (.ref p0), none, none, none] [] (0, 0) M) : ∀ (n : Nat) (v1 : Nat) (v2 : Int32) (M : m_M), m_ok e_I Φ (F_X12_readsNoun_7 k14 k30 k56 k67 n v1 v2 M) → j_J X 4 7 [some (.ref v1), some (.int v2), none, none] [] (0, 0) M := by
  have C0 := C.1
  intro n
  induction n with
  | zero => intro v1 v2 M h; exact False.elim h
  | succ n ih =>
    intro v1 v2 M h
    rw [F_X12_readsNoun_7] at h
    refine j_aload_n C0 (pc := 7) dX12_readsNoun_7 rfl ?_
    refine X_cV C0 (pc := 8) (e' := e_I) (as := []) (rest := []) (s' := fun w => .int w :: []) (g' := (0, 0)) v_OM_286_10 (fun Ψ hΨ => K_X12_isKept v1 M Ψ hΨ) rfl rfl (fun _ => rfl) (by decide) (by decide) rfl (Nat.le_of_ble_eq_true rfl) dX12_readsNoun_8 h (fun v3 M1 h => ?_)
    refine j_if_eq C0 (pc := 11) (tgt := 20) dX12_readsNoun_11 (by decide) (fun hc => ?_) (fun hc => ?_)
    · replace h := (X_if h).1 hc
      refine j_aload_n C0 (pc := 20) dX12_readsNoun_20 rfl ?_
      refine j_iconst C0 (pc := 21) dX12_readsNoun_21 (v := (0 : Int32)) (by decide) ?_
      refine X_cV C0 (pc := 22) (e' := e_I) (as := [.int (0 : Int32)]) (rest := []) (s' := fun w => .int w :: []) (g' := (0, 0)) v_OM_290_10 (fun Ψ hΨ => K_X12_thingNamed v1 (0 : Int32) M1 Ψ hΨ) rfl rfl (fun _ => rfl) (by decide) (by decide) rfl (Nat.le_of_ble_eq_true rfl) dX12_readsNoun_22 h (fun v4 M2 h => ?_)
      refine j_istore_n C0 (pc := 25) dX12_readsNoun_25 (Nat.le_of_ble_eq_true rfl) ?_
      show j_J X 4 26 [some (.ref v1), some (.int v2), some (.int v4), none] [] (0, 0) M2
      refine j_iload_n C0 (pc := 26) dX12_readsNoun_26 rfl ?_
      refine j_if_lt C0 (pc := 27) (tgt := 46) dX12_readsNoun_27 (by decide) (fun hc => ?_) (fun hc => ?_)
      · replace h := (X_if h).1 hc
        refine j_aload_n C0 (pc := 46) dX12_readsNoun_46 rfl ?_
        refine j_iconst C0 (pc := 47) dX12_readsNoun_47 (v := (0 : Int32)) (by decide) ?_
        refine X_cV C0 (pc := 48) (e' := e_I) (as := [.int (0 : Int32)]) (rest := []) (s' := fun w => .int w :: []) (g' := (0, 0)) v_OM_293_10 (fun Ψ hΨ => K_X12_bendNamed v1 (0 : Int32) M2 Ψ hΨ) rfl rfl (fun _ => rfl) (by decide) (by decide) rfl (Nat.le_of_ble_eq_true rfl) dX12_readsNoun_48 h (fun v5 M3 h => ?_)
        refine j_istore_n C0 (pc := 51) dX12_readsNoun_51 (Nat.le_of_ble_eq_true rfl) ?_
        show j_J X 4 52 [some (.ref v1), some (.int v2), some (.int v4), some (.int v5)] [] (0, 0) M3
        refine j_iload_n C0 (pc := 52) dX12_readsNoun_52 rfl ?_
        refine j_if_ge C0 (pc := 53) (tgt := 62) dX12_readsNoun_53 (by decide) (fun hc => ?_) (fun hc => ?_)
        · replace h := (X_if h).1 hc
          refine j_iload_n C0 (pc := 62) dX12_readsNoun_62 rfl ?_
          refine j_iconst C0 (pc := 63) dX12_readsNoun_63 (v := (2 : Int32)) (by decide) ?_
          refine j_icmp_ne C0 (pc := 64) (tgt := 73) dX12_readsNoun_64 (by decide) (fun hc => ?_) (fun hc => ?_)
          · replace h := (X_if h).2 hc
            refine j_aload_n C0 (pc := 73) dX12_readsNoun_73 rfl ?_
            refine j_bipush C0 (pc := 74) dX12_readsNoun_74 (v := (32 : Int32)) (by decide) ?_
            refine j_aload_n C0 (pc := 76) dX12_readsNoun_76 rfl ?_
            refine X_gI C0 (pc := 77) f_OM_359_10 rfl dX12_readsNoun_77 h (fun v6 h => ?_)
            refine j_bipush C0 (pc := 80) dX12_readsNoun_80 (v := (8 : Int32)) (by decide) ?_
            refine X_idiv C0 (pc := 82) dX12_readsNoun_82 h (fun h => ?_)
            refine j_iconst C0 (pc := 83) dX12_readsNoun_83 (v := (4 : Int32)) (by decide) ?_
            refine X_irem C0 (pc := 84) dX12_readsNoun_84 h (fun h => ?_)
            refine j_imul C0 (pc := 85) dX12_readsNoun_85 ?_
            refine j_bipush C0 (pc := 86) dX12_readsNoun_86 (v := (8 : Int32)) (by decide) ?_
            refine j_iconst C0 (pc := 88) dX12_readsNoun_88 (v := (1 : Int32)) (by decide) ?_
            refine j_iload_n C0 (pc := 89) dX12_readsNoun_89 rfl ?_
            refine j_iadd C0 (pc := 90) dX12_readsNoun_90 ?_
            refine j_imul C0 (pc := 91) dX12_readsNoun_91 ?_
            refine j_iadd C0 (pc := 92) dX12_readsNoun_92 ?_
            refine X_pI C0 (pc := 93) f_OM_359_10 rfl rfl dX12_readsNoun_93 h (fun M4 h => ?_)
            refine j_iinc C0 (pc := 96) dX12_readsNoun_96 (v := v2 + (1 : Int32)) rfl (Nat.le_of_ble_eq_true rfl) (by rfl) ?_
            refine X_let (G := fun w => j_J X 4 99 [some (.ref v1), some (.int w), some (.int v4), some (.int v5)] [] (0, 0) M4) h (fun v7 h => ?_)
            refine j_aload_n C0 (pc := 99) dX12_readsNoun_99 rfl ?_
            refine X_cV C0 (pc := 100) (e' := e_V) (as := []) (rest := []) (s' := fun _ => []) (g' := (0, 0)) v_OM_243_10 (fun Ψ hΨ => K_X12_nextToken v1 M4 Ψ hΨ) rfl rfl (fun _ => rfl) (by decide) (by decide) rfl (Nat.le_of_ble_eq_true rfl) dX12_readsNoun_100 h (fun _ M5 h => ?_)
            refine j_goto C0 (pc := 103) (tgt := 7) dX12_readsNoun_103 (by decide) ?_
            exact j_J.wq (ih v1 v7 M5 h) (And.intro rfl (And.intro rfl (trivial)))
          · replace h := (X_if h).1 hc
            exact j_J.wq (hk67 v1 M3 h) (And.intro rfl (trivial))
        · replace h := (X_if h).2 hc
          exact j_J.wq (hk56 v1 M3 h) (And.intro rfl (trivial))
      · replace h := (X_if h).2 hc
        exact j_J.wq (hk30 v1 v4 M2 h) (And.intro rfl (And.intro rfl (trivial)))
    · replace h := (X_if h).2 hc
      exact j_J.wq (hk14 v1 M1 h) (And.intro rfl (trivial))
set_option maxHeartbeats 4000000 in
theorem K_X12_readsNoun (a0 : Nat) (M : m_M) (Φ : Option Value → m_M → Prop) (h : m_ok e_I Φ (F_X12_readsNoun a0 M)) : j_Ct yX12_readsNoun cX12_readsNoun 4 (some .boolean) 3 0 0 [.ref a0] M Φ := by
  refine j_Ct.of (by decide +kernel) (Nat.le_of_ble_eq_true rfl) fun X C => ?_
  have C0 := C.1
  show j_J X 4 0 [some (.ref a0), none, none, none] [] (0, 0) M
  unfold F_X12_readsNoun at h
  refine j_iconst C0 (pc := 0) dX12_readsNoun_0 (v := (0 : Int32)) (by decide) ?_
  refine j_istore_n C0 (pc := 1) dX12_readsNoun_1 (Nat.le_of_ble_eq_true rfl) ?_
  show j_J X 4 2 [some (.ref a0), some (.int (0 : Int32)), none, none] [] (0, 0) M
  refine j_aload_n C0 (pc := 2) dX12_readsNoun_2 rfl ?_
  refine j_iconst C0 (pc := 3) dX12_readsNoun_3 (v := (0 : Int32)) (by decide) ?_
  refine X_pI C0 (pc := 4) f_OM_359_10 rfl rfl dX12_readsNoun_4 h (fun M1 h => ?_)
  refine X_join (fun (kj : Nat → m_M → Option (Int32 × m_M)) => ∀ (p0 : Nat) (M : m_M), m_ok e_I Φ (kj p0 M) → j_J X 4 14 [some (.ref p0), none, none, none] [] (0, 0) M) h (fun v1 M2 h => ?_) (fun k14 hk14 h => ?_)
  · refine j_aload_n C0 (pc := 14) dX12_readsNoun_14 rfl ?_
    refine j_iconst C0 (pc := 15) dX12_readsNoun_15 (v := (1 : Int32)) (by decide) ?_
    refine X_cV C0 (pc := 16) (e' := e_I) (as := [.int (1 : Int32)]) (rest := []) (s' := fun w => .int w :: []) (g' := (0, 0)) v_OM_237_10 (fun Ψ hΨ => K_X12_fails v1 (1 : Int32) M2 Ψ hΨ) rfl rfl (fun _ => rfl) (by decide) (by decide) rfl (Nat.le_of_ble_eq_true rfl) dX12_readsNoun_16 h (fun v2 M3 h => ?_)
    exact j_zret C rfl (by rcases (X_gd h).1 with q | q <;> (rw [q]; rfl)) (X_gd h).2 dX12_readsNoun_19 (by decide)
  · refine X_join (fun (kj : Nat → Int32 → m_M → Option (Int32 × m_M)) => ∀ (p0 : Nat) (p1 : Int32) (M : m_M), m_ok e_I Φ (kj p0 p1 M) → j_J X 4 30 [some (.ref p0), none, some (.int p1), none] [] (0, 0) M) h (fun v3 v4 M4 h => ?_) (fun k30 hk30 h => ?_)
    · refine j_aload_n C0 (pc := 30) dX12_readsNoun_30 rfl ?_
      refine j_dup C0 (pc := 31) dX12_readsNoun_31 rfl ?_
      refine X_gI C0 (pc := 32) f_OM_359_10 rfl dX12_readsNoun_32 h (fun v5 h => ?_)
      refine j_iload_n C0 (pc := 35) dX12_readsNoun_35 rfl ?_
      refine j_iadd C0 (pc := 36) dX12_readsNoun_36 ?_
      refine X_pI C0 (pc := 37) f_OM_359_10 rfl rfl dX12_readsNoun_37 h (fun M5 h => ?_)
      refine j_aload_n C0 (pc := 40) dX12_readsNoun_40 rfl ?_
      refine X_cV C0 (pc := 41) (e' := e_V) (as := []) (rest := []) (s' := fun _ => []) (g' := (0, 0)) v_OM_243_10 (fun Ψ hΨ => K_X12_nextToken v3 M5 Ψ hΨ) rfl rfl (fun _ => rfl) (by decide) (by decide) rfl (Nat.le_of_ble_eq_true rfl) dX12_readsNoun_41 h (fun _ M6 h => ?_)
      refine j_iconst C0 (pc := 44) dX12_readsNoun_44 (v := (1 : Int32)) (by decide) ?_
      exact j_zret C rfl (by decide) h dX12_readsNoun_45 (by decide)
    · refine X_join (fun (kj : Nat → m_M → Option (Int32 × m_M)) => ∀ (p0 : Nat) (M : m_M), m_ok e_I Φ (kj p0 M) → j_J X 4 56 [some (.ref p0), none, none, none] [] (0, 0) M) h (fun v6 M7 h => ?_) (fun k56 hk56 h => ?_)
      · refine j_aload_n C0 (pc := 56) dX12_readsNoun_56 rfl ?_
        refine j_iconst C0 (pc := 57) dX12_readsNoun_57 (v := (2 : Int32)) (by decide) ?_
        refine X_cV C0 (pc := 58) (e' := e_I) (as := [.int (2 : Int32)]) (rest := []) (s' := fun w => .int w :: []) (g' := (0, 0)) v_OM_237_10 (fun Ψ hΨ => K_X12_fails v6 (2 : Int32) M7 Ψ hΨ) rfl rfl (fun _ => rfl) (by decide) (by decide) rfl (Nat.le_of_ble_eq_true rfl) dX12_readsNoun_58 h (fun v7 M8 h => ?_)
        exact j_zret C rfl (by rcases (X_gd h).1 with q | q <;> (rw [q]; rfl)) (X_gd h).2 dX12_readsNoun_61 (by decide)
      · refine X_join (fun (kj : Nat → m_M → Option (Int32 × m_M)) => ∀ (p0 : Nat) (M : m_M), m_ok e_I Φ (kj p0 M) → j_J X 4 67 [some (.ref p0), none, none, none] [] (0, 0) M) h (fun v8 M9 h => ?_) (fun k67 hk67 h => ?_)
        · refine j_aload_n C0 (pc := 67) dX12_readsNoun_67 rfl ?_
          refine j_iconst C0 (pc := 68) dX12_readsNoun_68 (v := (5 : Int32)) (by decide) ?_
          refine X_cV C0 (pc := 69) (e' := e_I) (as := [.int (5 : Int32)]) (rest := []) (s' := fun w => .int w :: []) (g' := (0, 0)) v_OM_237_10 (fun Ψ hΨ => K_X12_fails v8 (5 : Int32) M9 Ψ hΨ) rfl rfl (fun _ => rfl) (by decide) (by decide) rfl (Nat.le_of_ble_eq_true rfl) dX12_readsNoun_69 h (fun v9 M10 h => ?_)
          exact j_zret C rfl (by rcases (X_gd h).1 with q | q <;> (rw [q]; rfl)) (X_gd h).2 dX12_readsNoun_72 (by decide)
        · exact j_J.wq (L_X12_readsNoun_7 C hk14 hk30 hk56 hk67 m_FU a0 (0 : Int32) M1 h) (And.intro rfl (And.intro rfl (trivial)))
theorem dX12_readsClause_0 : decode cX12_readsClause 0 = .ok (.aload_n 0, 1) := by decide +kernel
theorem dX12_readsClause_1 : decode cX12_readsClause 1 = .ok (.invokevirtual 286, 3) := by decide +kernel
theorem dX12_readsClause_4 : decode cX12_readsClause 4 = .ok (.ifCond .eq 9, 3) := by decide +kernel
theorem dX12_readsClause_7 : decode cX12_readsClause 7 = .ok (.aload_n 0, 1) := by decide +kernel
theorem dX12_readsClause_8 : decode cX12_readsClause 8 = .ok (.iconst 1, 1) := by decide +kernel
theorem dX12_readsClause_9 : decode cX12_readsClause 9 = .ok (.invokevirtual 237, 3) := by decide +kernel
theorem dX12_readsClause_12 : decode cX12_readsClause 12 = .ok (.ireturn, 1) := by decide +kernel
theorem dX12_readsClause_13 : decode cX12_readsClause 13 = .ok (.aload_n 0, 1) := by decide +kernel
theorem dX12_readsClause_14 : decode cX12_readsClause 14 = .ok (.iconst 0, 1) := by decide +kernel
theorem dX12_readsClause_15 : decode cX12_readsClause 15 = .ok (.invokevirtual 290, 3) := by decide +kernel
theorem dX12_readsClause_18 : decode cX12_readsClause 18 = .ok (.ifCond .ge 17, 3) := by decide +kernel
theorem dX12_readsClause_21 : decode cX12_readsClause 21 = .ok (.aload_n 0, 1) := by decide +kernel
theorem dX12_readsClause_22 : decode cX12_readsClause 22 = .ok (.iconst 0, 1) := by decide +kernel
theorem dX12_readsClause_23 : decode cX12_readsClause 23 = .ok (.invokevirtual 293, 3) := by decide +kernel
theorem dX12_readsClause_26 : decode cX12_readsClause 26 = .ok (.ifCond .ge 9, 3) := by decide +kernel
theorem dX12_readsClause_29 : decode cX12_readsClause 29 = .ok (.aload_n 0, 1) := by decide +kernel
theorem dX12_readsClause_30 : decode cX12_readsClause 30 = .ok (.iconst 2, 1) := by decide +kernel
theorem dX12_readsClause_31 : decode cX12_readsClause 31 = .ok (.invokevirtual 237, 3) := by decide +kernel
theorem dX12_readsClause_34 : decode cX12_readsClause 34 = .ok (.ireturn, 1) := by decide +kernel
theorem dX12_readsClause_35 : decode cX12_readsClause 35 = .ok (.aload_n 0, 1) := by decide +kernel
theorem dX12_readsClause_36 : decode cX12_readsClause 36 = .ok (.getfield 362, 3) := by decide +kernel
theorem dX12_readsClause_39 : decode cX12_readsClause 39 = .ok (.iconst 5, 1) := by decide +kernel
theorem dX12_readsClause_40 : decode cX12_readsClause 40 = .ok (.if_icmp .ne 9, 3) := by decide +kernel
theorem dX12_readsClause_43 : decode cX12_readsClause 43 = .ok (.aload_n 0, 1) := by decide +kernel
theorem dX12_readsClause_44 : decode cX12_readsClause 44 = .ok (.iconst 5, 1) := by decide +kernel
theorem dX12_readsClause_45 : decode cX12_readsClause 45 = .ok (.invokevirtual 237, 3) := by decide +kernel
theorem dX12_readsClause_48 : decode cX12_readsClause 48 = .ok (.ireturn, 1) := by decide +kernel
theorem dX12_readsClause_49 : decode cX12_readsClause 49 = .ok (.aload_n 0, 1) := by decide +kernel
theorem dX12_readsClause_50 : decode cX12_readsClause 50 = .ok (.invokevirtual 365, 3) := by decide +kernel
theorem dX12_readsClause_53 : decode cX12_readsClause 53 = .ok (.ifCond .ne 5, 3) := by decide +kernel
theorem dX12_readsClause_56 : decode cX12_readsClause 56 = .ok (.iconst 0, 1) := by decide +kernel
theorem dX12_readsClause_57 : decode cX12_readsClause 57 = .ok (.ireturn, 1) := by decide +kernel
theorem dX12_readsClause_58 : decode cX12_readsClause 58 = .ok (.aload_n 0, 1) := by decide +kernel
theorem dX12_readsClause_59 : decode cX12_readsClause 59 = .ok (.getfield 359, 3) := by decide +kernel
theorem dX12_readsClause_62 : decode cX12_readsClause 62 = .ok (.istore_n 1, 1) := by decide +kernel
theorem dX12_readsClause_63 : decode cX12_readsClause 63 = .ok (.aload_n 0, 1) := by decide +kernel
theorem dX12_readsClause_64 : decode cX12_readsClause 64 = .ok (.invokevirtual 365, 3) := by decide +kernel
theorem dX12_readsClause_67 : decode cX12_readsClause 67 = .ok (.ifCond .ne 5, 3) := by decide +kernel
theorem dX12_readsClause_70 : decode cX12_readsClause 70 = .ok (.iconst 0, 1) := by decide +kernel
theorem dX12_readsClause_71 : decode cX12_readsClause 71 = .ok (.ireturn, 1) := by decide +kernel
theorem dX12_readsClause_72 : decode cX12_readsClause 72 = .ok (.aload_n 0, 1) := by decide +kernel
theorem dX12_readsClause_73 : decode cX12_readsClause 73 = .ok (.bipush 100, 2) := by decide +kernel
theorem dX12_readsClause_75 : decode cX12_readsClause 75 = .ok (.sipush 128, 3) := by decide +kernel
theorem dX12_readsClause_78 : decode cX12_readsClause 78 = .ok (.iload_n 1, 1) := by decide +kernel
theorem dX12_readsClause_79 : decode cX12_readsClause 79 = .ok (.imul, 1) := by decide +kernel
theorem dX12_readsClause_80 : decode cX12_readsClause 80 = .ok (.iadd, 1) := by decide +kernel
theorem dX12_readsClause_81 : decode cX12_readsClause 81 = .ok (.aload_n 0, 1) := by decide +kernel
theorem dX12_readsClause_82 : decode cX12_readsClause 82 = .ok (.getfield 359, 3) := by decide +kernel
theorem dX12_readsClause_85 : decode cX12_readsClause 85 = .ok (.iadd, 1) := by decide +kernel
theorem dX12_readsClause_86 : decode cX12_readsClause 86 = .ok (.invokevirtual 368, 3) := by decide +kernel
theorem dX12_readsClause_89 : decode cX12_readsClause 89 = .ok (.iconst 1, 1) := by decide +kernel
theorem dX12_readsClause_90 : decode cX12_readsClause 90 = .ok (.ireturn, 1) := by decide +kernel
noncomputable def F_X12_readsClause (a0 : Nat) (M : m_M) : Option (Int32 × m_M) :=
  x_cV 10 M a0 (F_X12_isKept a0 M) fun v1 M1 =>
  if v1 = 0 then (
    m_let (fun (v2 : Nat) (M2 : m_M) =>
      x_gI 10 M2 v2 40 fun v3 =>
      if v3 = (5 : Int32) then (
        x_cV 10 M2 v2 (F_X12_fails v2 (5 : Int32) M2) fun v8 M6 =>
        x_b v8 <| some (v8, M6)
      ) else
      x_cV 10 M2 v2 (F_X12_readsNoun v2 M2) fun v4 M3 =>
      if v4 = 0 then (
        some ((0 : Int32), M3)
      ) else
      x_gI 10 M3 v2 41 fun v5 =>
      x_cV 10 M3 v2 (F_X12_readsNoun v2 M3) fun v6 M4 =>
      if v6 = 0 then (
        some ((0 : Int32), M4)
      ) else
      x_gI 10 M4 v2 41 fun v7 =>
      x_cV 10 M4 v2 (F_X12_adds v2 (((100 : Int32) + ((128 : Int32) * v5)) + v7) M4) fun _ M5 =>
      some ((1 : Int32), M5)
    ) fun (k35 : Nat → m_M → Option (Int32 × m_M)) =>
    x_cV 10 M1 a0 (F_X12_thingNamed a0 (0 : Int32) M1) fun v9 M7 =>
    if 0 ≤ v9 then (
      k35 a0 M7
    ) else
    x_cV 10 M7 a0 (F_X12_bendNamed a0 (0 : Int32) M7) fun v10 M8 =>
    if 0 ≤ v10 then (
      k35 a0 M8
    ) else
    x_cV 10 M8 a0 (F_X12_fails a0 (2 : Int32) M8) fun v11 M9 =>
    x_b v11 <| some (v11, M9)
  ) else
  x_cV 10 M1 a0 (F_X12_fails a0 (1 : Int32) M1) fun v12 M10 =>
  x_b v12 <| some (v12, M10)
set_option maxHeartbeats 4000000 in
theorem K_X12_readsClause (a0 : Nat) (M : m_M) (Φ : Option Value → m_M → Prop) (h : m_ok e_I Φ (F_X12_readsClause a0 M)) : j_Ct yX12_readsClause cX12_readsClause 2 (some .boolean) 4 0 0 [.ref a0] M Φ := by
  refine j_Ct.of (by decide +kernel) (Nat.le_of_ble_eq_true rfl) fun X C => ?_
  have C0 := C.1
  show j_J X 2 0 [some (.ref a0), none] [] (0, 0) M
  unfold F_X12_readsClause at h
  refine j_aload_n C0 (pc := 0) dX12_readsClause_0 rfl ?_
  refine X_cV C0 (pc := 1) (e' := e_I) (as := []) (rest := []) (s' := fun w => .int w :: []) (g' := (0, 0)) v_OM_286_10 (fun Ψ hΨ => K_X12_isKept a0 M Ψ hΨ) rfl rfl (fun _ => rfl) (by decide) (by decide) rfl (Nat.le_of_ble_eq_true rfl) dX12_readsClause_1 h (fun v1 M1 h => ?_)
  refine j_if_eq C0 (pc := 4) (tgt := 13) dX12_readsClause_4 (by decide) (fun hc => ?_) (fun hc => ?_)
  · replace h := (X_if h).1 hc
    refine X_join (fun (kj : Nat → m_M → Option (Int32 × m_M)) => ∀ (p0 : Nat) (M : m_M), m_ok e_I Φ (kj p0 M) → j_J X 2 35 [some (.ref p0), none] [] (0, 0) M) h (fun v2 M2 h => ?_) (fun k35 hk35 h => ?_)
    · refine j_aload_n C0 (pc := 35) dX12_readsClause_35 rfl ?_
      refine X_gI C0 (pc := 36) f_OM_362_10 rfl dX12_readsClause_36 h (fun v3 h => ?_)
      refine j_iconst C0 (pc := 39) dX12_readsClause_39 (v := (5 : Int32)) (by decide) ?_
      refine j_icmp_ne C0 (pc := 40) (tgt := 49) dX12_readsClause_40 (by decide) (fun hc => ?_) (fun hc => ?_)
      · replace h := (X_if h).2 hc
        refine j_aload_n C0 (pc := 49) dX12_readsClause_49 rfl ?_
        refine X_cV C0 (pc := 50) (e' := e_I) (as := []) (rest := []) (s' := fun w => .int w :: []) (g' := (0, 0)) v_OM_365_10 (fun Ψ hΨ => K_X12_readsNoun v2 M2 Ψ hΨ) rfl rfl (fun _ => rfl) (by decide) (by decide) rfl (Nat.le_of_ble_eq_true rfl) dX12_readsClause_50 h (fun v4 M3 h => ?_)
        refine j_if_ne C0 (pc := 53) (tgt := 58) dX12_readsClause_53 (by decide) (fun hc => ?_) (fun hc => ?_)
        · replace h := (X_if h).2 hc
          refine j_aload_n C0 (pc := 58) dX12_readsClause_58 rfl ?_
          refine X_gI C0 (pc := 59) f_OM_359_10 rfl dX12_readsClause_59 h (fun v5 h => ?_)
          refine j_istore_n C0 (pc := 62) dX12_readsClause_62 (Nat.le_of_ble_eq_true rfl) ?_
          show j_J X 2 63 [some (.ref v2), some (.int v5)] [] (0, 0) M3
          refine j_aload_n C0 (pc := 63) dX12_readsClause_63 rfl ?_
          refine X_cV C0 (pc := 64) (e' := e_I) (as := []) (rest := []) (s' := fun w => .int w :: []) (g' := (0, 0)) v_OM_365_10 (fun Ψ hΨ => K_X12_readsNoun v2 M3 Ψ hΨ) rfl rfl (fun _ => rfl) (by decide) (by decide) rfl (Nat.le_of_ble_eq_true rfl) dX12_readsClause_64 h (fun v6 M4 h => ?_)
          refine j_if_ne C0 (pc := 67) (tgt := 72) dX12_readsClause_67 (by decide) (fun hc => ?_) (fun hc => ?_)
          · replace h := (X_if h).2 hc
            refine j_aload_n C0 (pc := 72) dX12_readsClause_72 rfl ?_
            refine j_bipush C0 (pc := 73) dX12_readsClause_73 (v := (100 : Int32)) (by decide) ?_
            refine j_sipush C0 (pc := 75) dX12_readsClause_75 (v := (128 : Int32)) (by decide) ?_
            refine j_iload_n C0 (pc := 78) dX12_readsClause_78 rfl ?_
            refine j_imul C0 (pc := 79) dX12_readsClause_79 ?_
            refine j_iadd C0 (pc := 80) dX12_readsClause_80 ?_
            refine j_aload_n C0 (pc := 81) dX12_readsClause_81 rfl ?_
            refine X_gI C0 (pc := 82) f_OM_359_10 rfl dX12_readsClause_82 h (fun v7 h => ?_)
            refine j_iadd C0 (pc := 85) dX12_readsClause_85 ?_
            refine X_cV C0 (pc := 86) (e' := e_V) (as := [.int (((100 : Int32) + ((128 : Int32) * v5)) + v7)]) (rest := []) (s' := fun _ => []) (g' := (0, 0)) v_OM_368_10 (fun Ψ hΨ => K_X12_adds v2 (((100 : Int32) + ((128 : Int32) * v5)) + v7) M4 Ψ hΨ) rfl rfl (fun _ => rfl) (by decide) (by decide) rfl (Nat.le_of_ble_eq_true rfl) dX12_readsClause_86 h (fun _ M5 h => ?_)
            refine j_iconst C0 (pc := 89) dX12_readsClause_89 (v := (1 : Int32)) (by decide) ?_
            exact j_zret C rfl (by decide) h dX12_readsClause_90 (by decide)
          · replace h := (X_if h).1 hc
            refine j_iconst C0 (pc := 70) dX12_readsClause_70 (v := (0 : Int32)) (by decide) ?_
            exact j_zret C rfl (by decide) h dX12_readsClause_71 (by decide)
        · replace h := (X_if h).1 hc
          refine j_iconst C0 (pc := 56) dX12_readsClause_56 (v := (0 : Int32)) (by decide) ?_
          exact j_zret C rfl (by decide) h dX12_readsClause_57 (by decide)
      · replace h := (X_if h).1 hc
        refine j_aload_n C0 (pc := 43) dX12_readsClause_43 rfl ?_
        refine j_iconst C0 (pc := 44) dX12_readsClause_44 (v := (5 : Int32)) (by decide) ?_
        refine X_cV C0 (pc := 45) (e' := e_I) (as := [.int (5 : Int32)]) (rest := []) (s' := fun w => .int w :: []) (g' := (0, 0)) v_OM_237_10 (fun Ψ hΨ => K_X12_fails v2 (5 : Int32) M2 Ψ hΨ) rfl rfl (fun _ => rfl) (by decide) (by decide) rfl (Nat.le_of_ble_eq_true rfl) dX12_readsClause_45 h (fun v8 M6 h => ?_)
        exact j_zret C rfl (by rcases (X_gd h).1 with q | q <;> (rw [q]; rfl)) (X_gd h).2 dX12_readsClause_48 (by decide)
    · refine j_aload_n C0 (pc := 13) dX12_readsClause_13 rfl ?_
      refine j_iconst C0 (pc := 14) dX12_readsClause_14 (v := (0 : Int32)) (by decide) ?_
      refine X_cV C0 (pc := 15) (e' := e_I) (as := [.int (0 : Int32)]) (rest := []) (s' := fun w => .int w :: []) (g' := (0, 0)) v_OM_290_10 (fun Ψ hΨ => K_X12_thingNamed a0 (0 : Int32) M1 Ψ hΨ) rfl rfl (fun _ => rfl) (by decide) (by decide) rfl (Nat.le_of_ble_eq_true rfl) dX12_readsClause_15 h (fun v9 M7 h => ?_)
      refine j_if_ge C0 (pc := 18) (tgt := 35) dX12_readsClause_18 (by decide) (fun hc => ?_) (fun hc => ?_)
      · replace h := (X_if h).1 hc
        exact j_J.wq (hk35 a0 M7 h) (And.intro rfl (trivial))
      · replace h := (X_if h).2 hc
        refine j_aload_n C0 (pc := 21) dX12_readsClause_21 rfl ?_
        refine j_iconst C0 (pc := 22) dX12_readsClause_22 (v := (0 : Int32)) (by decide) ?_
        refine X_cV C0 (pc := 23) (e' := e_I) (as := [.int (0 : Int32)]) (rest := []) (s' := fun w => .int w :: []) (g' := (0, 0)) v_OM_293_10 (fun Ψ hΨ => K_X12_bendNamed a0 (0 : Int32) M7 Ψ hΨ) rfl rfl (fun _ => rfl) (by decide) (by decide) rfl (Nat.le_of_ble_eq_true rfl) dX12_readsClause_23 h (fun v10 M8 h => ?_)
        refine j_if_ge C0 (pc := 26) (tgt := 35) dX12_readsClause_26 (by decide) (fun hc => ?_) (fun hc => ?_)
        · replace h := (X_if h).1 hc
          exact j_J.wq (hk35 a0 M8 h) (And.intro rfl (trivial))
        · replace h := (X_if h).2 hc
          refine j_aload_n C0 (pc := 29) dX12_readsClause_29 rfl ?_
          refine j_iconst C0 (pc := 30) dX12_readsClause_30 (v := (2 : Int32)) (by decide) ?_
          refine X_cV C0 (pc := 31) (e' := e_I) (as := [.int (2 : Int32)]) (rest := []) (s' := fun w => .int w :: []) (g' := (0, 0)) v_OM_237_10 (fun Ψ hΨ => K_X12_fails a0 (2 : Int32) M8 Ψ hΨ) rfl rfl (fun _ => rfl) (by decide) (by decide) rfl (Nat.le_of_ble_eq_true rfl) dX12_readsClause_31 h (fun v11 M9 h => ?_)
          exact j_zret C rfl (by rcases (X_gd h).1 with q | q <;> (rw [q]; rfl)) (X_gd h).2 dX12_readsClause_34 (by decide)
  · replace h := (X_if h).2 hc
    refine j_aload_n C0 (pc := 7) dX12_readsClause_7 rfl ?_
    refine j_iconst C0 (pc := 8) dX12_readsClause_8 (v := (1 : Int32)) (by decide) ?_
    refine X_cV C0 (pc := 9) (e' := e_I) (as := [.int (1 : Int32)]) (rest := []) (s' := fun w => .int w :: []) (g' := (0, 0)) v_OM_237_10 (fun Ψ hΨ => K_X12_fails a0 (1 : Int32) M1 Ψ hΨ) rfl rfl (fun _ => rfl) (by decide) (by decide) rfl (Nat.le_of_ble_eq_true rfl) dX12_readsClause_9 h (fun v12 M10 h => ?_)
    exact j_zret C rfl (by rcases (X_gd h).1 with q | q <;> (rw [q]; rfl)) (X_gd h).2 dX12_readsClause_12 (by decide)
theorem dX12_readsItem_0 : decode cX12_readsItem 0 = .ok (.aload_n 0, 1) := by decide +kernel
theorem dX12_readsItem_1 : decode cX12_readsItem 1 = .ok (.ldc2_w 227, 3) := by decide +kernel
theorem dX12_readsItem_4 : decode cX12_readsItem 4 = .ok (.invokevirtual 229, 3) := by decide +kernel
theorem dX12_readsItem_7 : decode cX12_readsItem 7 = .ok (.istore_n 1, 1) := by decide +kernel
theorem dX12_readsItem_8 : decode cX12_readsItem 8 = .ok (.iload_n 1, 1) := by decide +kernel
theorem dX12_readsItem_9 : decode cX12_readsItem 9 = .ok (.ifCond .ne 17, 3) := by decide +kernel
theorem dX12_readsItem_12 : decode cX12_readsItem 12 = .ok (.aload_n 0, 1) := by decide +kernel
theorem dX12_readsItem_13 : decode cX12_readsItem 13 = .ok (.bipush 40, 2) := by decide +kernel
theorem dX12_readsItem_15 : decode cX12_readsItem 15 = .ok (.invokevirtual 233, 3) := by decide +kernel
theorem dX12_readsItem_18 : decode cX12_readsItem 18 = .ok (.ifCond .ne 8, 3) := by decide +kernel
theorem dX12_readsItem_21 : decode cX12_readsItem 21 = .ok (.aload_n 0, 1) := by decide +kernel
theorem dX12_readsItem_22 : decode cX12_readsItem 22 = .ok (.invokevirtual 371, 3) := by decide +kernel
theorem dX12_readsItem_25 : decode cX12_readsItem 25 = .ok (.ireturn, 1) := by decide +kernel
theorem dX12_readsItem_26 : decode cX12_readsItem 26 = .ok (.aload_n 0, 1) := by decide +kernel
theorem dX12_readsItem_27 : decode cX12_readsItem 27 = .ok (.getfield 362, 3) := by decide +kernel
theorem dX12_readsItem_30 : decode cX12_readsItem 30 = .ok (.iconst 5, 1) := by decide +kernel
theorem dX12_readsItem_31 : decode cX12_readsItem 31 = .ok (.if_icmp .ne 9, 3) := by decide +kernel
theorem dX12_readsItem_34 : decode cX12_readsItem 34 = .ok (.aload_n 0, 1) := by decide +kernel
theorem dX12_readsItem_35 : decode cX12_readsItem 35 = .ok (.iconst 5, 1) := by decide +kernel
theorem dX12_readsItem_36 : decode cX12_readsItem 36 = .ok (.invokevirtual 237, 3) := by decide +kernel
theorem dX12_readsItem_39 : decode cX12_readsItem 39 = .ok (.ireturn, 1) := by decide +kernel
theorem dX12_readsItem_40 : decode cX12_readsItem 40 = .ok (.aload_n 0, 1) := by decide +kernel
theorem dX12_readsItem_41 : decode cX12_readsItem 41 = .ok (.invokevirtual 243, 3) := by decide +kernel
theorem dX12_readsItem_44 : decode cX12_readsItem 44 = .ok (.aload_n 0, 1) := by decide +kernel
theorem dX12_readsItem_45 : decode cX12_readsItem 45 = .ok (.dup, 1) := by decide +kernel
theorem dX12_readsItem_46 : decode cX12_readsItem 46 = .ok (.getfield 362, 3) := by decide +kernel
theorem dX12_readsItem_49 : decode cX12_readsItem 49 = .ok (.iconst 1, 1) := by decide +kernel
theorem dX12_readsItem_50 : decode cX12_readsItem 50 = .ok (.iadd, 1) := by decide +kernel
theorem dX12_readsItem_51 : decode cX12_readsItem 51 = .ok (.putfield 362, 3) := by decide +kernel
theorem dX12_readsItem_54 : decode cX12_readsItem 54 = .ok (.iload_n 1, 1) := by decide +kernel
theorem dX12_readsItem_55 : decode cX12_readsItem 55 = .ok (.ifCond .eq 13, 3) := by decide +kernel
theorem dX12_readsItem_58 : decode cX12_readsItem 58 = .ok (.aload_n 0, 1) := by decide +kernel
theorem dX12_readsItem_59 : decode cX12_readsItem 59 = .ok (.invokevirtual 374, 3) := by decide +kernel
theorem dX12_readsItem_62 : decode cX12_readsItem 62 = .ok (.ifCond .eq 13, 3) := by decide +kernel
theorem dX12_readsItem_65 : decode cX12_readsItem 65 = .ok (.goto 12, 3) := by decide +kernel
theorem dX12_readsItem_68 : decode cX12_readsItem 68 = .ok (.aload_n 0, 1) := by decide +kernel
theorem dX12_readsItem_69 : decode cX12_readsItem 69 = .ok (.invokevirtual 377, 3) := by decide +kernel
theorem dX12_readsItem_72 : decode cX12_readsItem 72 = .ok (.ifCond .ne 5, 3) := by decide +kernel
theorem dX12_readsItem_75 : decode cX12_readsItem 75 = .ok (.iconst 0, 1) := by decide +kernel
theorem dX12_readsItem_76 : decode cX12_readsItem 76 = .ok (.ireturn, 1) := by decide +kernel
theorem dX12_readsItem_77 : decode cX12_readsItem 77 = .ok (.aload_n 0, 1) := by decide +kernel
theorem dX12_readsItem_78 : decode cX12_readsItem 78 = .ok (.dup, 1) := by decide +kernel
theorem dX12_readsItem_79 : decode cX12_readsItem 79 = .ok (.getfield 362, 3) := by decide +kernel
theorem dX12_readsItem_82 : decode cX12_readsItem 82 = .ok (.iconst 1, 1) := by decide +kernel
theorem dX12_readsItem_83 : decode cX12_readsItem 83 = .ok (.isub, 1) := by decide +kernel
theorem dX12_readsItem_84 : decode cX12_readsItem 84 = .ok (.putfield 362, 3) := by decide +kernel
theorem dX12_readsItem_87 : decode cX12_readsItem 87 = .ok (.iload_n 1, 1) := by decide +kernel
theorem dX12_readsItem_88 : decode cX12_readsItem 88 = .ok (.ifCond .eq 10, 3) := by decide +kernel
theorem dX12_readsItem_91 : decode cX12_readsItem 91 = .ok (.aload_n 0, 1) := by decide +kernel
theorem dX12_readsItem_92 : decode cX12_readsItem 92 = .ok (.iconst 0, 1) := by decide +kernel
theorem dX12_readsItem_93 : decode cX12_readsItem 93 = .ok (.invokevirtual 368, 3) := by decide +kernel
theorem dX12_readsItem_96 : decode cX12_readsItem 96 = .ok (.iconst 1, 1) := by decide +kernel
theorem dX12_readsItem_97 : decode cX12_readsItem 97 = .ok (.ireturn, 1) := by decide +kernel
theorem dX12_readsItem_98 : decode cX12_readsItem 98 = .ok (.aload_n 0, 1) := by decide +kernel
theorem dX12_readsItem_99 : decode cX12_readsItem 99 = .ok (.bipush 41, 2) := by decide +kernel
theorem dX12_readsItem_101 : decode cX12_readsItem 101 = .ok (.invokevirtual 233, 3) := by decide +kernel
theorem dX12_readsItem_104 : decode cX12_readsItem 104 = .ok (.ifCond .ne 9, 3) := by decide +kernel
theorem dX12_readsItem_107 : decode cX12_readsItem 107 = .ok (.aload_n 0, 1) := by decide +kernel
theorem dX12_readsItem_108 : decode cX12_readsItem 108 = .ok (.iconst 1, 1) := by decide +kernel
theorem dX12_readsItem_109 : decode cX12_readsItem 109 = .ok (.invokevirtual 237, 3) := by decide +kernel
theorem dX12_readsItem_112 : decode cX12_readsItem 112 = .ok (.ireturn, 1) := by decide +kernel
theorem dX12_readsItem_113 : decode cX12_readsItem 113 = .ok (.aload_n 0, 1) := by decide +kernel
theorem dX12_readsItem_114 : decode cX12_readsItem 114 = .ok (.invokevirtual 243, 3) := by decide +kernel
theorem dX12_readsItem_117 : decode cX12_readsItem 117 = .ok (.iconst 1, 1) := by decide +kernel
theorem dX12_readsItem_118 : decode cX12_readsItem 118 = .ok (.ireturn, 1) := by decide +kernel
theorem dX12_readsFormula_0 : decode cX12_readsFormula 0 = .ok (.aload_n 0, 1) := by decide +kernel
theorem dX12_readsFormula_1 : decode cX12_readsFormula 1 = .ok (.invokevirtual 380, 3) := by decide +kernel
theorem dX12_readsFormula_4 : decode cX12_readsFormula 4 = .ok (.ifCond .ne 5, 3) := by decide +kernel
theorem dX12_readsFormula_7 : decode cX12_readsFormula 7 = .ok (.iconst 0, 1) := by decide +kernel
theorem dX12_readsFormula_8 : decode cX12_readsFormula 8 = .ok (.ireturn, 1) := by decide +kernel
theorem dX12_readsFormula_9 : decode cX12_readsFormula 9 = .ok (.aload_n 0, 1) := by decide +kernel
theorem dX12_readsFormula_10 : decode cX12_readsFormula 10 = .ok (.ldc2_w 248, 3) := by decide +kernel
theorem dX12_readsFormula_13 : decode cX12_readsFormula 13 = .ok (.invokevirtual 229, 3) := by decide +kernel
theorem dX12_readsFormula_16 : decode cX12_readsFormula 16 = .ok (.ifCond .eq 24, 3) := by decide +kernel
theorem dX12_readsFormula_19 : decode cX12_readsFormula 19 = .ok (.aload_n 0, 1) := by decide +kernel
theorem dX12_readsFormula_20 : decode cX12_readsFormula 20 = .ok (.invokevirtual 243, 3) := by decide +kernel
theorem dX12_readsFormula_23 : decode cX12_readsFormula 23 = .ok (.aload_n 0, 1) := by decide +kernel
theorem dX12_readsFormula_24 : decode cX12_readsFormula 24 = .ok (.invokevirtual 380, 3) := by decide +kernel
theorem dX12_readsFormula_27 : decode cX12_readsFormula 27 = .ok (.ifCond .ne 5, 3) := by decide +kernel
theorem dX12_readsFormula_30 : decode cX12_readsFormula 30 = .ok (.iconst 0, 1) := by decide +kernel
theorem dX12_readsFormula_31 : decode cX12_readsFormula 31 = .ok (.ireturn, 1) := by decide +kernel
theorem dX12_readsFormula_32 : decode cX12_readsFormula 32 = .ok (.aload_n 0, 1) := by decide +kernel
theorem dX12_readsFormula_33 : decode cX12_readsFormula 33 = .ok (.iconst 2, 1) := by decide +kernel
theorem dX12_readsFormula_34 : decode cX12_readsFormula 34 = .ok (.invokevirtual 368, 3) := by decide +kernel
theorem dX12_readsFormula_37 : decode cX12_readsFormula 37 = .ok (.goto (-28), 3) := by decide +kernel
theorem dX12_readsFormula_40 : decode cX12_readsFormula 40 = .ok (.iconst 1, 1) := by decide +kernel
theorem dX12_readsFormula_41 : decode cX12_readsFormula 41 = .ok (.ireturn, 1) := by decide +kernel
theorem dX12_readsTerm_0 : decode cX12_readsTerm 0 = .ok (.aload_n 0, 1) := by decide +kernel
theorem dX12_readsTerm_1 : decode cX12_readsTerm 1 = .ok (.invokevirtual 374, 3) := by decide +kernel
theorem dX12_readsTerm_4 : decode cX12_readsTerm 4 = .ok (.ifCond .ne 5, 3) := by decide +kernel
theorem dX12_readsTerm_7 : decode cX12_readsTerm 7 = .ok (.iconst 0, 1) := by decide +kernel
theorem dX12_readsTerm_8 : decode cX12_readsTerm 8 = .ok (.ireturn, 1) := by decide +kernel
theorem dX12_readsTerm_9 : decode cX12_readsTerm 9 = .ok (.aload_n 0, 1) := by decide +kernel
theorem dX12_readsTerm_10 : decode cX12_readsTerm 10 = .ok (.ldc2_w 246, 3) := by decide +kernel
theorem dX12_readsTerm_13 : decode cX12_readsTerm 13 = .ok (.invokevirtual 229, 3) := by decide +kernel
theorem dX12_readsTerm_16 : decode cX12_readsTerm 16 = .ok (.ifCond .eq 24, 3) := by decide +kernel
theorem dX12_readsTerm_19 : decode cX12_readsTerm 19 = .ok (.aload_n 0, 1) := by decide +kernel
theorem dX12_readsTerm_20 : decode cX12_readsTerm 20 = .ok (.invokevirtual 243, 3) := by decide +kernel
theorem dX12_readsTerm_23 : decode cX12_readsTerm 23 = .ok (.aload_n 0, 1) := by decide +kernel
theorem dX12_readsTerm_24 : decode cX12_readsTerm 24 = .ok (.invokevirtual 374, 3) := by decide +kernel
theorem dX12_readsTerm_27 : decode cX12_readsTerm 27 = .ok (.ifCond .ne 5, 3) := by decide +kernel
theorem dX12_readsTerm_30 : decode cX12_readsTerm 30 = .ok (.iconst 0, 1) := by decide +kernel
theorem dX12_readsTerm_31 : decode cX12_readsTerm 31 = .ok (.ireturn, 1) := by decide +kernel
theorem dX12_readsTerm_32 : decode cX12_readsTerm 32 = .ok (.aload_n 0, 1) := by decide +kernel
theorem dX12_readsTerm_33 : decode cX12_readsTerm 33 = .ok (.iconst 1, 1) := by decide +kernel
theorem dX12_readsTerm_34 : decode cX12_readsTerm 34 = .ok (.invokevirtual 368, 3) := by decide +kernel
theorem dX12_readsTerm_37 : decode cX12_readsTerm 37 = .ok (.goto (-28), 3) := by decide +kernel
theorem dX12_readsTerm_40 : decode cX12_readsTerm 40 = .ok (.iconst 1, 1) := by decide +kernel
theorem dX12_readsTerm_41 : decode cX12_readsTerm 41 = .ok (.ireturn, 1) := by decide +kernel
noncomputable def F_X12_readsItem (r_X12_readsItem : Nat → m_M → Option (Int32 × m_M)) (r_X12_readsFormula : Nat → m_M → Option (Int32 × m_M)) (r_X12_readsTerm : Nat → m_M → Option (Int32 × m_M)) (a0 : Nat) (M : m_M) : Option (Int32 × m_M) :=
  m_let (fun (v1 : Nat) (v2 : Int32) (M1 : m_M) =>
    x_gI 10 M1 v1 40 fun v3 =>
    if v3 = (5 : Int32) then (
      x_cV 10 M1 v1 (F_X12_fails v1 (5 : Int32) M1) fun v12 M12 =>
      x_b v12 <| some (v12, M12)
    ) else
    m_let (fun (v4 : Nat) (v5 : Int32) (M2 : m_M) =>
      x_gI 10 M2 v4 40 fun v6 =>
      x_pI 10 M2 v4 40 (v6 - (1 : Int32)) fun M3 =>
      if v5 = 0 then (
        x_cV 10 M3 v4 (F_X12_isSign v4 (41 : Int32) M3) fun v7 M4 =>
        if v7 = 0 then (
          x_cV 10 M4 v4 (F_X12_fails v4 (1 : Int32) M4) fun v8 M6 =>
          x_b v8 <| some (v8, M6)
        ) else
        x_cV 10 M4 v4 (F_X12_nextToken v4 M4) fun _ M5 =>
        some ((1 : Int32), M5)
      ) else
      x_cV 10 M3 v4 (F_X12_adds v4 (0 : Int32) M3) fun _ M7 =>
      some ((1 : Int32), M7)
    ) fun (k77 : Nat → Int32 → m_M → Option (Int32 × m_M)) =>
    x_cV 10 M1 v1 (F_X12_nextToken v1 M1) fun _ M8 =>
    x_gI 10 M8 v1 40 fun v9 =>
    x_pI 10 M8 v1 40 (v9 + (1 : Int32)) fun M9 =>
    if v2 = 0 then (
      x_cV 10 M9 v1 (r_X12_readsFormula v1 M9) fun v10 M10 =>
      if v10 = 0 then (
        some ((0 : Int32), M10)
      ) else
      k77 v1 v2 M10
    ) else
    x_cV 10 M9 v1 (r_X12_readsItem v1 M9) fun v11 M11 =>
    if v11 = 0 then (
      some ((0 : Int32), M11)
    ) else
    k77 v1 v2 M11
  ) fun (k26 : Nat → Int32 → m_M → Option (Int32 × m_M)) =>
  x_cV 10 M a0 (F_X12_isWord a0 (10631 : Int64) M) fun v13 M13 =>
  if v13 = 0 then (
    x_cV 10 M13 a0 (F_X12_isSign a0 (40 : Int32) M13) fun v14 M14 =>
    if v14 = 0 then (
      x_cV 10 M14 a0 (F_X12_readsClause a0 M14) fun v15 M15 =>
      x_b v15 <| some (v15, M15)
    ) else
    k26 a0 v13 M14
  ) else
  k26 a0 v13 M13
noncomputable def F_X12_readsFormula_9 (r_X12_readsItem : Nat → m_M → Option (Int32 × m_M)) (r_X12_readsFormula : Nat → m_M → Option (Int32 × m_M)) (r_X12_readsTerm : Nat → m_M → Option (Int32 × m_M)) : Nat → Nat → m_M → Option (Int32 × m_M)
  | 0, _, _ => none
  | n + 1, v1, M =>
    x_cV 10 M v1 (F_X12_isWord v1 (423 : Int64) M) fun v2 M1 =>
    if v2 = 0 then (
      some ((1 : Int32), M1)
    ) else
    x_cV 10 M1 v1 (F_X12_nextToken v1 M1) fun _ M2 =>
    x_cV 10 M2 v1 (r_X12_readsTerm v1 M2) fun v3 M3 =>
    if v3 = 0 then (
      some ((0 : Int32), M3)
    ) else
    x_cV 10 M3 v1 (F_X12_adds v1 (2 : Int32) M3) fun _ M4 =>
    F_X12_readsFormula_9 r_X12_readsItem r_X12_readsFormula r_X12_readsTerm n v1 M4
noncomputable def F_X12_readsFormula (r_X12_readsItem : Nat → m_M → Option (Int32 × m_M)) (r_X12_readsFormula : Nat → m_M → Option (Int32 × m_M)) (r_X12_readsTerm : Nat → m_M → Option (Int32 × m_M)) (a0 : Nat) (M : m_M) : Option (Int32 × m_M) :=
  x_cV 10 M a0 (r_X12_readsTerm a0 M) fun v1 M1 =>
  if v1 = 0 then (
    some ((0 : Int32), M1)
  ) else
  F_X12_readsFormula_9 r_X12_readsItem r_X12_readsFormula r_X12_readsTerm m_FU a0 M1
noncomputable def F_X12_readsTerm_9 (r_X12_readsItem : Nat → m_M → Option (Int32 × m_M)) (r_X12_readsFormula : Nat → m_M → Option (Int32 × m_M)) (r_X12_readsTerm : Nat → m_M → Option (Int32 × m_M)) : Nat → Nat → m_M → Option (Int32 × m_M)
  | 0, _, _ => none
  | n + 1, v1, M =>
    x_cV 10 M v1 (F_X12_isWord v1 (1111 : Int64) M) fun v2 M1 =>
    if v2 = 0 then (
      some ((1 : Int32), M1)
    ) else
    x_cV 10 M1 v1 (F_X12_nextToken v1 M1) fun _ M2 =>
    x_cV 10 M2 v1 (r_X12_readsItem v1 M2) fun v3 M3 =>
    if v3 = 0 then (
      some ((0 : Int32), M3)
    ) else
    x_cV 10 M3 v1 (F_X12_adds v1 (1 : Int32) M3) fun _ M4 =>
    F_X12_readsTerm_9 r_X12_readsItem r_X12_readsFormula r_X12_readsTerm n v1 M4
noncomputable def F_X12_readsTerm (r_X12_readsItem : Nat → m_M → Option (Int32 × m_M)) (r_X12_readsFormula : Nat → m_M → Option (Int32 × m_M)) (r_X12_readsTerm : Nat → m_M → Option (Int32 × m_M)) (a0 : Nat) (M : m_M) : Option (Int32 × m_M) :=
  x_cV 10 M a0 (r_X12_readsItem a0 M) fun v1 M1 =>
  if v1 = 0 then (
    some ((0 : Int32), M1)
  ) else
  F_X12_readsTerm_9 r_X12_readsItem r_X12_readsFormula r_X12_readsTerm m_FU a0 M1
noncomputable def G_R : Nat → (Nat → m_M → Option (Int32 × m_M)) × (Nat → m_M → Option (Int32 × m_M)) × (Nat → m_M → Option (Int32 × m_M))
  | 0 => (fun _ _ => none, fun _ _ => none, fun _ _ => none)
  | n + 1 => (F_X12_readsItem ((G_R n).1) ((G_R n).2.1) ((G_R n).2.2), F_X12_readsFormula ((G_R n).1) ((G_R n).2.1) ((G_R n).2.2), F_X12_readsTerm ((G_R n).1) ((G_R n).2.1) ((G_R n).2.2))
noncomputable def FG_X12_readsItem (a0 : Nat) (M : m_M) : Option (Int32 × m_M) := ((G_R 64).1) a0 M
noncomputable def FG_X12_readsFormula (a0 : Nat) (M : m_M) : Option (Int32 × m_M) := ((G_R 64).2.1) a0 M
noncomputable def FG_X12_readsTerm (a0 : Nat) (M : m_M) : Option (Int32 × m_M) := ((G_R 64).2.2) a0 M
set_option maxHeartbeats 4000000 in
theorem K_X12_readsItem {gn : Nat} {r_X12_readsItem : Nat → m_M → Option (Int32 × m_M)} {r_X12_readsFormula : Nat → m_M → Option (Int32 × m_M)} {r_X12_readsTerm : Nat → m_M → Option (Int32 × m_M)} (hr_X12_readsItem : ∀ (a0 : Nat) (M : m_M) (Φ : Option Value → m_M → Prop), m_ok e_I Φ (r_X12_readsItem a0 M) → j_Ct yX12_readsItem cX12_readsItem 2 (some .boolean) (4 + gn) 0 0 [.ref a0] M Φ) (hr_X12_readsFormula : ∀ (a0 : Nat) (M : m_M) (Φ : Option Value → m_M → Prop), m_ok e_I Φ (r_X12_readsFormula a0 M) → j_Ct yX12_readsFormula cX12_readsFormula 1 (some .boolean) (4 + gn) 0 0 [.ref a0] M Φ) (hr_X12_readsTerm : ∀ (a0 : Nat) (M : m_M) (Φ : Option Value → m_M → Prop), m_ok e_I Φ (r_X12_readsTerm a0 M) → j_Ct yX12_readsTerm cX12_readsTerm 1 (some .boolean) (4 + gn) 0 0 [.ref a0] M Φ) (a0 : Nat) (M : m_M) (Φ : Option Value → m_M → Prop) (h : m_ok e_I Φ (F_X12_readsItem r_X12_readsItem r_X12_readsFormula r_X12_readsTerm a0 M)) : j_Ct yX12_readsItem cX12_readsItem 2 (some .boolean) (4 + (gn + 1)) 0 0 [.ref a0] M Φ := by
  refine j_Ct.of (by decide +kernel) (Nat.le_of_ble_eq_true rfl) fun X C => ?_
  have C0 := C.1
  show j_J X 2 0 [some (.ref a0), none] [] (0, 0) M
  unfold F_X12_readsItem at h
  refine X_join (fun (kj : Nat → Int32 → m_M → Option (Int32 × m_M)) => ∀ (p0 : Nat) (p1 : Int32) (M : m_M), m_ok e_I Φ (kj p0 p1 M) → j_J X 2 26 [some (.ref p0), some (.int p1)] [] (0, 0) M) h (fun v1 v2 M1 h => ?_) (fun k26 hk26 h => ?_)
  · refine j_aload_n C0 (pc := 26) dX12_readsItem_26 rfl ?_
    refine X_gI C0 (pc := 27) f_OM_362_10 rfl dX12_readsItem_27 h (fun v3 h => ?_)
    refine j_iconst C0 (pc := 30) dX12_readsItem_30 (v := (5 : Int32)) (by decide) ?_
    refine j_icmp_ne C0 (pc := 31) (tgt := 40) dX12_readsItem_31 (by decide) (fun hc => ?_) (fun hc => ?_)
    · replace h := (X_if h).2 hc
      refine X_join (fun (kj : Nat → Int32 → m_M → Option (Int32 × m_M)) => ∀ (p0 : Nat) (p1 : Int32) (M : m_M), m_ok e_I Φ (kj p0 p1 M) → j_J X 2 77 [some (.ref p0), some (.int p1)] [] (0, 0) M) h (fun v4 v5 M2 h => ?_) (fun k77 hk77 h => ?_)
      · refine j_aload_n C0 (pc := 77) dX12_readsItem_77 rfl ?_
        refine j_dup C0 (pc := 78) dX12_readsItem_78 rfl ?_
        refine X_gI C0 (pc := 79) f_OM_362_10 rfl dX12_readsItem_79 h (fun v6 h => ?_)
        refine j_iconst C0 (pc := 82) dX12_readsItem_82 (v := (1 : Int32)) (by decide) ?_
        refine j_isub C0 (pc := 83) dX12_readsItem_83 ?_
        refine X_pI C0 (pc := 84) f_OM_362_10 rfl rfl dX12_readsItem_84 h (fun M3 h => ?_)
        refine j_iload_n C0 (pc := 87) dX12_readsItem_87 rfl ?_
        refine j_if_eq C0 (pc := 88) (tgt := 98) dX12_readsItem_88 (by decide) (fun hc => ?_) (fun hc => ?_)
        · replace h := (X_if h).1 hc
          refine j_aload_n C0 (pc := 98) dX12_readsItem_98 rfl ?_
          refine j_bipush C0 (pc := 99) dX12_readsItem_99 (v := (41 : Int32)) (by decide) ?_
          refine X_cV C0 (pc := 101) (e' := e_I) (as := [.int (41 : Int32)]) (rest := []) (s' := fun w => .int w :: []) (g' := (0, 0)) v_OM_233_10 (fun Ψ hΨ => K_X12_isSign v4 (41 : Int32) M3 Ψ hΨ) rfl rfl (fun _ => rfl) (by omega) (by decide) rfl (Nat.le_of_ble_eq_true rfl) dX12_readsItem_101 h (fun v7 M4 h => ?_)
          refine j_if_ne C0 (pc := 104) (tgt := 113) dX12_readsItem_104 (by decide) (fun hc => ?_) (fun hc => ?_)
          · replace h := (X_if h).2 hc
            refine j_aload_n C0 (pc := 113) dX12_readsItem_113 rfl ?_
            refine X_cV C0 (pc := 114) (e' := e_V) (as := []) (rest := []) (s' := fun _ => []) (g' := (0, 0)) v_OM_243_10 (fun Ψ hΨ => K_X12_nextToken v4 M4 Ψ hΨ) rfl rfl (fun _ => rfl) (by omega) (by decide) rfl (Nat.le_of_ble_eq_true rfl) dX12_readsItem_114 h (fun _ M5 h => ?_)
            refine j_iconst C0 (pc := 117) dX12_readsItem_117 (v := (1 : Int32)) (by decide) ?_
            exact j_zret C rfl (by decide) h dX12_readsItem_118 (by decide)
          · replace h := (X_if h).1 hc
            refine j_aload_n C0 (pc := 107) dX12_readsItem_107 rfl ?_
            refine j_iconst C0 (pc := 108) dX12_readsItem_108 (v := (1 : Int32)) (by decide) ?_
            refine X_cV C0 (pc := 109) (e' := e_I) (as := [.int (1 : Int32)]) (rest := []) (s' := fun w => .int w :: []) (g' := (0, 0)) v_OM_237_10 (fun Ψ hΨ => K_X12_fails v4 (1 : Int32) M4 Ψ hΨ) rfl rfl (fun _ => rfl) (by omega) (by decide) rfl (Nat.le_of_ble_eq_true rfl) dX12_readsItem_109 h (fun v8 M6 h => ?_)
            exact j_zret C rfl (by rcases (X_gd h).1 with q | q <;> (rw [q]; rfl)) (X_gd h).2 dX12_readsItem_112 (by decide)
        · replace h := (X_if h).2 hc
          refine j_aload_n C0 (pc := 91) dX12_readsItem_91 rfl ?_
          refine j_iconst C0 (pc := 92) dX12_readsItem_92 (v := (0 : Int32)) (by decide) ?_
          refine X_cV C0 (pc := 93) (e' := e_V) (as := [.int (0 : Int32)]) (rest := []) (s' := fun _ => []) (g' := (0, 0)) v_OM_368_10 (fun Ψ hΨ => K_X12_adds v4 (0 : Int32) M3 Ψ hΨ) rfl rfl (fun _ => rfl) (by omega) (by decide) rfl (Nat.le_of_ble_eq_true rfl) dX12_readsItem_93 h (fun _ M7 h => ?_)
          refine j_iconst C0 (pc := 96) dX12_readsItem_96 (v := (1 : Int32)) (by decide) ?_
          exact j_zret C rfl (by decide) h dX12_readsItem_97 (by decide)
      · refine j_aload_n C0 (pc := 40) dX12_readsItem_40 rfl ?_
        refine X_cV C0 (pc := 41) (e' := e_V) (as := []) (rest := []) (s' := fun _ => []) (g' := (0, 0)) v_OM_243_10 (fun Ψ hΨ => K_X12_nextToken v1 M1 Ψ hΨ) rfl rfl (fun _ => rfl) (by omega) (by decide) rfl (Nat.le_of_ble_eq_true rfl) dX12_readsItem_41 h (fun _ M8 h => ?_)
        refine j_aload_n C0 (pc := 44) dX12_readsItem_44 rfl ?_
        refine j_dup C0 (pc := 45) dX12_readsItem_45 rfl ?_
        refine X_gI C0 (pc := 46) f_OM_362_10 rfl dX12_readsItem_46 h (fun v9 h => ?_)
        refine j_iconst C0 (pc := 49) dX12_readsItem_49 (v := (1 : Int32)) (by decide) ?_
        refine j_iadd C0 (pc := 50) dX12_readsItem_50 ?_
        refine X_pI C0 (pc := 51) f_OM_362_10 rfl rfl dX12_readsItem_51 h (fun M9 h => ?_)
        refine j_iload_n C0 (pc := 54) dX12_readsItem_54 rfl ?_
        refine j_if_eq C0 (pc := 55) (tgt := 68) dX12_readsItem_55 (by decide) (fun hc => ?_) (fun hc => ?_)
        · replace h := (X_if h).1 hc
          refine j_aload_n C0 (pc := 68) dX12_readsItem_68 rfl ?_
          refine X_cV C0 (pc := 69) (e' := e_I) (as := []) (rest := []) (s' := fun w => .int w :: []) (g' := (0, 0)) v_OM_377_10 (fun Ψ hΨ => hr_X12_readsFormula v1 M9 Ψ hΨ) rfl rfl (fun _ => rfl) (by omega) (by decide) rfl (Nat.le_of_ble_eq_true rfl) dX12_readsItem_69 h (fun v10 M10 h => ?_)
          refine j_if_ne C0 (pc := 72) (tgt := 77) dX12_readsItem_72 (by decide) (fun hc => ?_) (fun hc => ?_)
          · replace h := (X_if h).2 hc
            exact j_J.wq (hk77 v1 v2 M10 h) (And.intro rfl (And.intro rfl (trivial)))
          · replace h := (X_if h).1 hc
            refine j_iconst C0 (pc := 75) dX12_readsItem_75 (v := (0 : Int32)) (by decide) ?_
            exact j_zret C rfl (by decide) h dX12_readsItem_76 (by decide)
        · replace h := (X_if h).2 hc
          refine j_aload_n C0 (pc := 58) dX12_readsItem_58 rfl ?_
          refine X_cV C0 (pc := 59) (e' := e_I) (as := []) (rest := []) (s' := fun w => .int w :: []) (g' := (0, 0)) v_OM_374_10 (fun Ψ hΨ => hr_X12_readsItem v1 M9 Ψ hΨ) rfl rfl (fun _ => rfl) (by omega) (by decide) rfl (Nat.le_of_ble_eq_true rfl) dX12_readsItem_59 h (fun v11 M11 h => ?_)
          refine j_if_eq C0 (pc := 62) (tgt := 75) dX12_readsItem_62 (by decide) (fun hc => ?_) (fun hc => ?_)
          · replace h := (X_if h).1 hc
            refine j_iconst C0 (pc := 75) dX12_readsItem_75 (v := (0 : Int32)) (by decide) ?_
            exact j_zret C rfl (by decide) h dX12_readsItem_76 (by decide)
          · replace h := (X_if h).2 hc
            refine j_goto C0 (pc := 65) (tgt := 77) dX12_readsItem_65 (by decide) ?_
            exact j_J.wq (hk77 v1 v2 M11 h) (And.intro rfl (And.intro rfl (trivial)))
    · replace h := (X_if h).1 hc
      refine j_aload_n C0 (pc := 34) dX12_readsItem_34 rfl ?_
      refine j_iconst C0 (pc := 35) dX12_readsItem_35 (v := (5 : Int32)) (by decide) ?_
      refine X_cV C0 (pc := 36) (e' := e_I) (as := [.int (5 : Int32)]) (rest := []) (s' := fun w => .int w :: []) (g' := (0, 0)) v_OM_237_10 (fun Ψ hΨ => K_X12_fails v1 (5 : Int32) M1 Ψ hΨ) rfl rfl (fun _ => rfl) (by omega) (by decide) rfl (Nat.le_of_ble_eq_true rfl) dX12_readsItem_36 h (fun v12 M12 h => ?_)
      exact j_zret C rfl (by rcases (X_gd h).1 with q | q <;> (rw [q]; rfl)) (X_gd h).2 dX12_readsItem_39 (by decide)
  · refine j_aload_n C0 (pc := 0) dX12_readsItem_0 rfl ?_
    refine j_ldc2 C0 (pc := 1) (v := (10631 : Int64)) (j_c8 148 (by decide +kernel)) dX12_readsItem_1 ?_
    refine X_cV C0 (pc := 4) (e' := e_I) (as := [.long (10631 : Int64)]) (rest := []) (s' := fun w => .int w :: []) (g' := (0, 0)) v_OM_229_10 (fun Ψ hΨ => K_X12_isWord a0 (10631 : Int64) M Ψ hΨ) rfl rfl (fun _ => rfl) (by omega) (by decide) rfl (Nat.le_of_ble_eq_true rfl) dX12_readsItem_4 h (fun v13 M13 h => ?_)
    refine j_istore_n C0 (pc := 7) dX12_readsItem_7 (Nat.le_of_ble_eq_true rfl) ?_
    show j_J X 2 8 [some (.ref a0), some (.int v13)] [] (0, 0) M13
    refine j_iload_n C0 (pc := 8) dX12_readsItem_8 rfl ?_
    refine j_if_ne C0 (pc := 9) (tgt := 26) dX12_readsItem_9 (by decide) (fun hc => ?_) (fun hc => ?_)
    · replace h := (X_if h).2 hc
      exact j_J.wq (hk26 a0 v13 M13 h) (And.intro rfl (And.intro rfl (trivial)))
    · replace h := (X_if h).1 hc
      refine j_aload_n C0 (pc := 12) dX12_readsItem_12 rfl ?_
      refine j_bipush C0 (pc := 13) dX12_readsItem_13 (v := (40 : Int32)) (by decide) ?_
      refine X_cV C0 (pc := 15) (e' := e_I) (as := [.int (40 : Int32)]) (rest := []) (s' := fun w => .int w :: []) (g' := (0, 0)) v_OM_233_10 (fun Ψ hΨ => K_X12_isSign a0 (40 : Int32) M13 Ψ hΨ) rfl rfl (fun _ => rfl) (by omega) (by decide) rfl (Nat.le_of_ble_eq_true rfl) dX12_readsItem_15 h (fun v14 M14 h => ?_)
      refine j_if_ne C0 (pc := 18) (tgt := 26) dX12_readsItem_18 (by decide) (fun hc => ?_) (fun hc => ?_)
      · replace h := (X_if h).2 hc
        exact j_J.wq (hk26 a0 v13 M14 h) (And.intro rfl (And.intro rfl (trivial)))
      · replace h := (X_if h).1 hc
        refine j_aload_n C0 (pc := 21) dX12_readsItem_21 rfl ?_
        refine X_cV C0 (pc := 22) (e' := e_I) (as := []) (rest := []) (s' := fun w => .int w :: []) (g' := (0, 0)) v_OM_371_10 (fun Ψ hΨ => K_X12_readsClause a0 M14 Ψ hΨ) rfl rfl (fun _ => rfl) (by omega) (by decide) rfl (Nat.le_of_ble_eq_true rfl) dX12_readsItem_22 h (fun v15 M15 h => ?_)
        exact j_zret C rfl (by rcases (X_gd h).1 with q | q <;> (rw [q]; rfl)) (X_gd h).2 dX12_readsItem_25 (by decide)
set_option maxHeartbeats 4000000 in
theorem L_X12_readsFormula_9 {X : j_X} {Φ : Option Value → m_M → Prop} {gn : Nat} {r_X12_readsItem : Nat → m_M → Option (Int32 × m_M)} {r_X12_readsFormula : Nat → m_M → Option (Int32 × m_M)} {r_X12_readsTerm : Nat → m_M → Option (Int32 × m_M)} (C : j_C X yX12_readsFormula cX12_readsFormula 1 (some .boolean) (4 + (gn + 1)) 0 0 Φ) (hr_X12_readsItem : ∀ (a0 : Nat) (M : m_M) (Φ : Option Value → m_M → Prop), m_ok e_I Φ (r_X12_readsItem a0 M) → j_Ct yX12_readsItem cX12_readsItem 2 (some .boolean) (4 + gn) 0 0 [.ref a0] M Φ) (hr_X12_readsFormula : ∀ (a0 : Nat) (M : m_M) (Φ : Option Value → m_M → Prop), m_ok e_I Φ (r_X12_readsFormula a0 M) → j_Ct yX12_readsFormula cX12_readsFormula 1 (some .boolean) (4 + gn) 0 0 [.ref a0] M Φ) (hr_X12_readsTerm : ∀ (a0 : Nat) (M : m_M) (Φ : Option Value → m_M → Prop), m_ok e_I Φ (r_X12_readsTerm a0 M) → j_Ct yX12_readsTerm cX12_readsTerm 1 (some .boolean) (4 + gn) 0 0 [.ref a0] M Φ) : ∀ (n : Nat) (v1 : Nat) (M : m_M), m_ok e_I Φ (F_X12_readsFormula_9 r_X12_readsItem r_X12_readsFormula r_X12_readsTerm n v1 M) → j_J X 1 9 [some (.ref v1)] [] (0, 0) M := by
  have C0 := C.1
  intro n
  induction n with
  | zero => intro v1 M h; exact False.elim h
  | succ n ih =>
    intro v1 M h
    rw [F_X12_readsFormula_9] at h
    refine j_aload_n C0 (pc := 9) dX12_readsFormula_9 rfl ?_
    refine j_ldc2 C0 (pc := 10) (v := (423 : Int64)) (j_c8 150 (by decide +kernel)) dX12_readsFormula_10 ?_
    refine X_cV C0 (pc := 13) (e' := e_I) (as := [.long (423 : Int64)]) (rest := []) (s' := fun w => .int w :: []) (g' := (0, 0)) v_OM_229_10 (fun Ψ hΨ => K_X12_isWord v1 (423 : Int64) M Ψ hΨ) rfl rfl (fun _ => rfl) (by omega) (by decide) rfl (Nat.le_of_ble_eq_true rfl) dX12_readsFormula_13 h (fun v2 M1 h => ?_)
    refine j_if_eq C0 (pc := 16) (tgt := 40) dX12_readsFormula_16 (by decide) (fun hc => ?_) (fun hc => ?_)
    · replace h := (X_if h).1 hc
      refine j_iconst C0 (pc := 40) dX12_readsFormula_40 (v := (1 : Int32)) (by decide) ?_
      exact j_zret C rfl (by decide) h dX12_readsFormula_41 (by decide)
    · replace h := (X_if h).2 hc
      refine j_aload_n C0 (pc := 19) dX12_readsFormula_19 rfl ?_
      refine X_cV C0 (pc := 20) (e' := e_V) (as := []) (rest := []) (s' := fun _ => []) (g' := (0, 0)) v_OM_243_10 (fun Ψ hΨ => K_X12_nextToken v1 M1 Ψ hΨ) rfl rfl (fun _ => rfl) (by omega) (by decide) rfl (Nat.le_of_ble_eq_true rfl) dX12_readsFormula_20 h (fun _ M2 h => ?_)
      refine j_aload_n C0 (pc := 23) dX12_readsFormula_23 rfl ?_
      refine X_cV C0 (pc := 24) (e' := e_I) (as := []) (rest := []) (s' := fun w => .int w :: []) (g' := (0, 0)) v_OM_380_10 (fun Ψ hΨ => hr_X12_readsTerm v1 M2 Ψ hΨ) rfl rfl (fun _ => rfl) (by omega) (by decide) rfl (Nat.le_of_ble_eq_true rfl) dX12_readsFormula_24 h (fun v3 M3 h => ?_)
      refine j_if_ne C0 (pc := 27) (tgt := 32) dX12_readsFormula_27 (by decide) (fun hc => ?_) (fun hc => ?_)
      · replace h := (X_if h).2 hc
        refine j_aload_n C0 (pc := 32) dX12_readsFormula_32 rfl ?_
        refine j_iconst C0 (pc := 33) dX12_readsFormula_33 (v := (2 : Int32)) (by decide) ?_
        refine X_cV C0 (pc := 34) (e' := e_V) (as := [.int (2 : Int32)]) (rest := []) (s' := fun _ => []) (g' := (0, 0)) v_OM_368_10 (fun Ψ hΨ => K_X12_adds v1 (2 : Int32) M3 Ψ hΨ) rfl rfl (fun _ => rfl) (by omega) (by decide) rfl (Nat.le_of_ble_eq_true rfl) dX12_readsFormula_34 h (fun _ M4 h => ?_)
        refine j_goto C0 (pc := 37) (tgt := 9) dX12_readsFormula_37 (by decide) ?_
        exact j_J.wq (ih v1 M4 h) (And.intro rfl (trivial))
      · replace h := (X_if h).1 hc
        refine j_iconst C0 (pc := 30) dX12_readsFormula_30 (v := (0 : Int32)) (by decide) ?_
        exact j_zret C rfl (by decide) h dX12_readsFormula_31 (by decide)
set_option maxHeartbeats 4000000 in
theorem K_X12_readsFormula {gn : Nat} {r_X12_readsItem : Nat → m_M → Option (Int32 × m_M)} {r_X12_readsFormula : Nat → m_M → Option (Int32 × m_M)} {r_X12_readsTerm : Nat → m_M → Option (Int32 × m_M)} (hr_X12_readsItem : ∀ (a0 : Nat) (M : m_M) (Φ : Option Value → m_M → Prop), m_ok e_I Φ (r_X12_readsItem a0 M) → j_Ct yX12_readsItem cX12_readsItem 2 (some .boolean) (4 + gn) 0 0 [.ref a0] M Φ) (hr_X12_readsFormula : ∀ (a0 : Nat) (M : m_M) (Φ : Option Value → m_M → Prop), m_ok e_I Φ (r_X12_readsFormula a0 M) → j_Ct yX12_readsFormula cX12_readsFormula 1 (some .boolean) (4 + gn) 0 0 [.ref a0] M Φ) (hr_X12_readsTerm : ∀ (a0 : Nat) (M : m_M) (Φ : Option Value → m_M → Prop), m_ok e_I Φ (r_X12_readsTerm a0 M) → j_Ct yX12_readsTerm cX12_readsTerm 1 (some .boolean) (4 + gn) 0 0 [.ref a0] M Φ) (a0 : Nat) (M : m_M) (Φ : Option Value → m_M → Prop) (h : m_ok e_I Φ (F_X12_readsFormula r_X12_readsItem r_X12_readsFormula r_X12_readsTerm a0 M)) : j_Ct yX12_readsFormula cX12_readsFormula 1 (some .boolean) (4 + (gn + 1)) 0 0 [.ref a0] M Φ := by
  refine j_Ct.of (by decide +kernel) (Nat.le_of_ble_eq_true rfl) fun X C => ?_
  have C0 := C.1
  show j_J X 1 0 [some (.ref a0)] [] (0, 0) M
  unfold F_X12_readsFormula at h
  refine j_aload_n C0 (pc := 0) dX12_readsFormula_0 rfl ?_
  refine X_cV C0 (pc := 1) (e' := e_I) (as := []) (rest := []) (s' := fun w => .int w :: []) (g' := (0, 0)) v_OM_380_10 (fun Ψ hΨ => hr_X12_readsTerm a0 M Ψ hΨ) rfl rfl (fun _ => rfl) (by omega) (by decide) rfl (Nat.le_of_ble_eq_true rfl) dX12_readsFormula_1 h (fun v1 M1 h => ?_)
  refine j_if_ne C0 (pc := 4) (tgt := 9) dX12_readsFormula_4 (by decide) (fun hc => ?_) (fun hc => ?_)
  · replace h := (X_if h).2 hc
    exact j_J.wq (L_X12_readsFormula_9 C hr_X12_readsItem hr_X12_readsFormula hr_X12_readsTerm m_FU a0 M1 h) (And.intro rfl (trivial))
  · replace h := (X_if h).1 hc
    refine j_iconst C0 (pc := 7) dX12_readsFormula_7 (v := (0 : Int32)) (by decide) ?_
    exact j_zret C rfl (by decide) h dX12_readsFormula_8 (by decide)
set_option maxHeartbeats 4000000 in
theorem L_X12_readsTerm_9 {X : j_X} {Φ : Option Value → m_M → Prop} {gn : Nat} {r_X12_readsItem : Nat → m_M → Option (Int32 × m_M)} {r_X12_readsFormula : Nat → m_M → Option (Int32 × m_M)} {r_X12_readsTerm : Nat → m_M → Option (Int32 × m_M)} (C : j_C X yX12_readsTerm cX12_readsTerm 1 (some .boolean) (4 + (gn + 1)) 0 0 Φ) (hr_X12_readsItem : ∀ (a0 : Nat) (M : m_M) (Φ : Option Value → m_M → Prop), m_ok e_I Φ (r_X12_readsItem a0 M) → j_Ct yX12_readsItem cX12_readsItem 2 (some .boolean) (4 + gn) 0 0 [.ref a0] M Φ) (hr_X12_readsFormula : ∀ (a0 : Nat) (M : m_M) (Φ : Option Value → m_M → Prop), m_ok e_I Φ (r_X12_readsFormula a0 M) → j_Ct yX12_readsFormula cX12_readsFormula 1 (some .boolean) (4 + gn) 0 0 [.ref a0] M Φ) (hr_X12_readsTerm : ∀ (a0 : Nat) (M : m_M) (Φ : Option Value → m_M → Prop), m_ok e_I Φ (r_X12_readsTerm a0 M) → j_Ct yX12_readsTerm cX12_readsTerm 1 (some .boolean) (4 + gn) 0 0 [.ref a0] M Φ) : ∀ (n : Nat) (v1 : Nat) (M : m_M), m_ok e_I Φ (F_X12_readsTerm_9 r_X12_readsItem r_X12_readsFormula r_X12_readsTerm n v1 M) → j_J X 1 9 [some (.ref v1)] [] (0, 0) M := by
  have C0 := C.1
  intro n
  induction n with
  | zero => intro v1 M h; exact False.elim h
  | succ n ih =>
    intro v1 M h
    rw [F_X12_readsTerm_9] at h
    refine j_aload_n C0 (pc := 9) dX12_readsTerm_9 rfl ?_
    refine j_ldc2 C0 (pc := 10) (v := (1111 : Int64)) (j_c8 149 (by decide +kernel)) dX12_readsTerm_10 ?_
    refine X_cV C0 (pc := 13) (e' := e_I) (as := [.long (1111 : Int64)]) (rest := []) (s' := fun w => .int w :: []) (g' := (0, 0)) v_OM_229_10 (fun Ψ hΨ => K_X12_isWord v1 (1111 : Int64) M Ψ hΨ) rfl rfl (fun _ => rfl) (by omega) (by decide) rfl (Nat.le_of_ble_eq_true rfl) dX12_readsTerm_13 h (fun v2 M1 h => ?_)
    refine j_if_eq C0 (pc := 16) (tgt := 40) dX12_readsTerm_16 (by decide) (fun hc => ?_) (fun hc => ?_)
    · replace h := (X_if h).1 hc
      refine j_iconst C0 (pc := 40) dX12_readsTerm_40 (v := (1 : Int32)) (by decide) ?_
      exact j_zret C rfl (by decide) h dX12_readsTerm_41 (by decide)
    · replace h := (X_if h).2 hc
      refine j_aload_n C0 (pc := 19) dX12_readsTerm_19 rfl ?_
      refine X_cV C0 (pc := 20) (e' := e_V) (as := []) (rest := []) (s' := fun _ => []) (g' := (0, 0)) v_OM_243_10 (fun Ψ hΨ => K_X12_nextToken v1 M1 Ψ hΨ) rfl rfl (fun _ => rfl) (by omega) (by decide) rfl (Nat.le_of_ble_eq_true rfl) dX12_readsTerm_20 h (fun _ M2 h => ?_)
      refine j_aload_n C0 (pc := 23) dX12_readsTerm_23 rfl ?_
      refine X_cV C0 (pc := 24) (e' := e_I) (as := []) (rest := []) (s' := fun w => .int w :: []) (g' := (0, 0)) v_OM_374_10 (fun Ψ hΨ => hr_X12_readsItem v1 M2 Ψ hΨ) rfl rfl (fun _ => rfl) (by omega) (by decide) rfl (Nat.le_of_ble_eq_true rfl) dX12_readsTerm_24 h (fun v3 M3 h => ?_)
      refine j_if_ne C0 (pc := 27) (tgt := 32) dX12_readsTerm_27 (by decide) (fun hc => ?_) (fun hc => ?_)
      · replace h := (X_if h).2 hc
        refine j_aload_n C0 (pc := 32) dX12_readsTerm_32 rfl ?_
        refine j_iconst C0 (pc := 33) dX12_readsTerm_33 (v := (1 : Int32)) (by decide) ?_
        refine X_cV C0 (pc := 34) (e' := e_V) (as := [.int (1 : Int32)]) (rest := []) (s' := fun _ => []) (g' := (0, 0)) v_OM_368_10 (fun Ψ hΨ => K_X12_adds v1 (1 : Int32) M3 Ψ hΨ) rfl rfl (fun _ => rfl) (by omega) (by decide) rfl (Nat.le_of_ble_eq_true rfl) dX12_readsTerm_34 h (fun _ M4 h => ?_)
        refine j_goto C0 (pc := 37) (tgt := 9) dX12_readsTerm_37 (by decide) ?_
        exact j_J.wq (ih v1 M4 h) (And.intro rfl (trivial))
      · replace h := (X_if h).1 hc
        refine j_iconst C0 (pc := 30) dX12_readsTerm_30 (v := (0 : Int32)) (by decide) ?_
        exact j_zret C rfl (by decide) h dX12_readsTerm_31 (by decide)
set_option maxHeartbeats 4000000 in
theorem K_X12_readsTerm {gn : Nat} {r_X12_readsItem : Nat → m_M → Option (Int32 × m_M)} {r_X12_readsFormula : Nat → m_M → Option (Int32 × m_M)} {r_X12_readsTerm : Nat → m_M → Option (Int32 × m_M)} (hr_X12_readsItem : ∀ (a0 : Nat) (M : m_M) (Φ : Option Value → m_M → Prop), m_ok e_I Φ (r_X12_readsItem a0 M) → j_Ct yX12_readsItem cX12_readsItem 2 (some .boolean) (4 + gn) 0 0 [.ref a0] M Φ) (hr_X12_readsFormula : ∀ (a0 : Nat) (M : m_M) (Φ : Option Value → m_M → Prop), m_ok e_I Φ (r_X12_readsFormula a0 M) → j_Ct yX12_readsFormula cX12_readsFormula 1 (some .boolean) (4 + gn) 0 0 [.ref a0] M Φ) (hr_X12_readsTerm : ∀ (a0 : Nat) (M : m_M) (Φ : Option Value → m_M → Prop), m_ok e_I Φ (r_X12_readsTerm a0 M) → j_Ct yX12_readsTerm cX12_readsTerm 1 (some .boolean) (4 + gn) 0 0 [.ref a0] M Φ) (a0 : Nat) (M : m_M) (Φ : Option Value → m_M → Prop) (h : m_ok e_I Φ (F_X12_readsTerm r_X12_readsItem r_X12_readsFormula r_X12_readsTerm a0 M)) : j_Ct yX12_readsTerm cX12_readsTerm 1 (some .boolean) (4 + (gn + 1)) 0 0 [.ref a0] M Φ := by
  refine j_Ct.of (by decide +kernel) (Nat.le_of_ble_eq_true rfl) fun X C => ?_
  have C0 := C.1
  show j_J X 1 0 [some (.ref a0)] [] (0, 0) M
  unfold F_X12_readsTerm at h
  refine j_aload_n C0 (pc := 0) dX12_readsTerm_0 rfl ?_
  refine X_cV C0 (pc := 1) (e' := e_I) (as := []) (rest := []) (s' := fun w => .int w :: []) (g' := (0, 0)) v_OM_374_10 (fun Ψ hΨ => hr_X12_readsItem a0 M Ψ hΨ) rfl rfl (fun _ => rfl) (by omega) (by decide) rfl (Nat.le_of_ble_eq_true rfl) dX12_readsTerm_1 h (fun v1 M1 h => ?_)
  refine j_if_ne C0 (pc := 4) (tgt := 9) dX12_readsTerm_4 (by decide) (fun hc => ?_) (fun hc => ?_)
  · replace h := (X_if h).2 hc
    exact j_J.wq (L_X12_readsTerm_9 C hr_X12_readsItem hr_X12_readsFormula hr_X12_readsTerm m_FU a0 M1 h) (And.intro rfl (trivial))
  · replace h := (X_if h).1 hc
    refine j_iconst C0 (pc := 7) dX12_readsTerm_7 (v := (0 : Int32)) (by decide) ?_
    exact j_zret C rfl (by decide) h dX12_readsTerm_8 (by decide)
set_option maxHeartbeats 4000000 in
theorem KG_R (n : Nat) : (∀ (a0 : Nat) (M : m_M) (Φ : Option Value → m_M → Prop), m_ok e_I Φ (((G_R n).1) a0 M) → j_Ct yX12_readsItem cX12_readsItem 2 (some .boolean) (4 + n) 0 0 [.ref a0] M Φ) ∧ (∀ (a0 : Nat) (M : m_M) (Φ : Option Value → m_M → Prop), m_ok e_I Φ (((G_R n).2.1) a0 M) → j_Ct yX12_readsFormula cX12_readsFormula 1 (some .boolean) (4 + n) 0 0 [.ref a0] M Φ) ∧ (∀ (a0 : Nat) (M : m_M) (Φ : Option Value → m_M → Prop), m_ok e_I Φ (((G_R n).2.2) a0 M) → j_Ct yX12_readsTerm cX12_readsTerm 1 (some .boolean) (4 + n) 0 0 [.ref a0] M Φ) := by
  induction n with
  | zero => exact ⟨fun _ _ _ h => False.elim h, fun _ _ _ h => False.elim h, fun _ _ _ h => False.elim h⟩
  | succ n ih =>
    obtain ⟨h0, h1, h2⟩ := ih
    exact ⟨fun a0 M Φ h => K_X12_readsItem h0 h1 h2 a0 M Φ h, fun a0 M Φ h => K_X12_readsFormula h0 h1 h2 a0 M Φ h, fun a0 M Φ h => K_X12_readsTerm h0 h1 h2 a0 M Φ h⟩
theorem KG_X12_readsItem (a0 : Nat) (M : m_M) (Φ : Option Value → m_M → Prop) (h : m_ok e_I Φ (FG_X12_readsItem a0 M)) : j_Ct yX12_readsItem cX12_readsItem 2 (some .boolean) 68 0 0 [.ref a0] M Φ := ((KG_R 64).1) a0 M Φ h
theorem KG_X12_readsFormula (a0 : Nat) (M : m_M) (Φ : Option Value → m_M → Prop) (h : m_ok e_I Φ (FG_X12_readsFormula a0 M)) : j_Ct yX12_readsFormula cX12_readsFormula 1 (some .boolean) 68 0 0 [.ref a0] M Φ := ((KG_R 64).2.1) a0 M Φ h
theorem KG_X12_readsTerm (a0 : Nat) (M : m_M) (Φ : Option Value → m_M → Prop) (h : m_ok e_I Φ (FG_X12_readsTerm a0 M)) : j_Ct yX12_readsTerm cX12_readsTerm 1 (some .boolean) 68 0 0 [.ref a0] M Φ := ((KG_R 64).2.2) a0 M Φ h
