theorem dX12_order_0 : decode cX12_order 0 = .ok (.aload_n 0, 1) := by decide +kernel
theorem dX12_order_1 : decode cX12_order 1 = .ok (.iconst 0, 1) := by decide +kernel
theorem dX12_order_2 : decode cX12_order 2 = .ok (.putfield 163, 3) := by decide +kernel
theorem dX12_order_5 : decode cX12_order 5 = .ok (.aload_n 0, 1) := by decide +kernel
theorem dX12_order_6 : decode cX12_order 6 = .ok (.invokevirtual 439, 3) := by decide +kernel
theorem dX12_order_9 : decode cX12_order 9 = .ok (.ifCond .ne 8, 3) := by decide +kernel
theorem dX12_order_12 : decode cX12_order 12 = .ok (.aload_n 0, 1) := by decide +kernel
theorem dX12_order_13 : decode cX12_order 13 = .ok (.getfield 199, 3) := by decide +kernel
theorem dX12_order_16 : decode cX12_order 16 = .ok (.ireturn, 1) := by decide +kernel
theorem dX12_order_17 : decode cX12_order 17 = .ok (.iload_n 1, 1) := by decide +kernel
theorem dX12_order_18 : decode cX12_order 18 = .ok (.iconst 1, 1) := by decide +kernel
theorem dX12_order_19 : decode cX12_order 19 = .ok (.bipush 99, 2) := by decide +kernel
theorem dX12_order_21 : decode cX12_order 21 = .ok (.invokestatic 279, 3) := by decide +kernel
theorem dX12_order_24 : decode cX12_order 24 = .ok (.ifCond .ne 6, 3) := by decide +kernel
theorem dX12_order_27 : decode cX12_order 27 = .ok (.bipush (-2), 2) := by decide +kernel
theorem dX12_order_29 : decode cX12_order 29 = .ok (.ireturn, 1) := by decide +kernel
theorem dX12_order_30 : decode cX12_order 30 = .ok (.aload_n 0, 1) := by decide +kernel
theorem dX12_order_31 : decode cX12_order 31 = .ok (.getfield 108, 3) := by decide +kernel
theorem dX12_order_34 : decode cX12_order 34 = .ok (.iconst 1, 1) := by decide +kernel
theorem dX12_order_35 : decode cX12_order 35 = .ok (.iaload, 1) := by decide +kernel
theorem dX12_order_36 : decode cX12_order 36 = .ok (.iconst 4, 1) := by decide +kernel
theorem dX12_order_37 : decode cX12_order 37 = .ok (.if_icmp .ne 6, 3) := by decide +kernel
theorem dX12_order_40 : decode cX12_order 40 = .ok (.bipush (-3), 2) := by decide +kernel
theorem dX12_order_42 : decode cX12_order 42 = .ok (.ireturn, 1) := by decide +kernel
theorem dX12_order_43 : decode cX12_order 43 = .ok (.aload_n 0, 1) := by decide +kernel
theorem dX12_order_44 : decode cX12_order 44 = .ok (.invokevirtual 442, 3) := by decide +kernel
theorem dX12_order_47 : decode cX12_order 47 = .ok (.aload_n 0, 1) := by decide +kernel
theorem dX12_order_48 : decode cX12_order 48 = .ok (.getfield 108, 3) := by decide +kernel
theorem dX12_order_51 : decode cX12_order 51 = .ok (.iconst 1, 1) := by decide +kernel
theorem dX12_order_52 : decode cX12_order 52 = .ok (.iaload, 1) := by decide +kernel
theorem dX12_order_53 : decode cX12_order 53 = .ok (.istore_n 2, 1) := by decide +kernel
theorem dX12_order_54 : decode cX12_order 54 = .ok (.aload_n 0, 1) := by decide +kernel
theorem dX12_order_55 : decode cX12_order 55 = .ok (.aload_n 0, 1) := by decide +kernel
theorem dX12_order_56 : decode cX12_order 56 = .ok (.getfield 433, 3) := by decide +kernel
theorem dX12_order_59 : decode cX12_order 59 = .ok (.iload_n 1, 1) := by decide +kernel
theorem dX12_order_60 : decode cX12_order 60 = .ok (.iadd, 1) := by decide +kernel
theorem dX12_order_61 : decode cX12_order 61 = .ok (.invokevirtual 436, 3) := by decide +kernel
theorem dX12_order_64 : decode cX12_order 64 = .ok (.istore_n 3, 1) := by decide +kernel
theorem dX12_order_65 : decode cX12_order 65 = .ok (.aload_n 0, 1) := by decide +kernel
theorem dX12_order_66 : decode cX12_order 66 = .ok (.iload_n 3, 1) := by decide +kernel
theorem dX12_order_67 : decode cX12_order 67 = .ok (.aload_n 0, 1) := by decide +kernel
theorem dX12_order_68 : decode cX12_order 68 = .ok (.getfield 99, 3) := by decide +kernel
theorem dX12_order_71 : decode cX12_order 71 = .ok (.bipush 16, 2) := by decide +kernel
theorem dX12_order_73 : decode cX12_order 73 = .ok (.iload_n 2, 1) := by decide +kernel
theorem dX12_order_74 : decode cX12_order 74 = .ok (.imul, 1) := by decide +kernel
theorem dX12_order_75 : decode cX12_order 75 = .ok (.invokevirtual 445, 3) := by decide +kernel
theorem dX12_order_78 : decode cX12_order 78 = .ok (.iconst 0, 1) := by decide +kernel
theorem dX12_order_79 : decode cX12_order 79 = .ok (.istore 4, 2) := by decide +kernel
theorem dX12_order_81 : decode cX12_order 81 = .ok (.iload 4, 2) := by decide +kernel
theorem dX12_order_83 : decode cX12_order 83 = .ok (.bipush 16, 2) := by decide +kernel
theorem dX12_order_85 : decode cX12_order 85 = .ok (.if_icmp .ge 31, 3) := by decide +kernel
theorem dX12_order_88 : decode cX12_order 88 = .ok (.iload_n 3, 1) := by decide +kernel
theorem dX12_order_89 : decode cX12_order 89 = .ok (.ifCond .ge 27, 3) := by decide +kernel
theorem dX12_order_92 : decode cX12_order 92 = .ok (.aload_n 0, 1) := by decide +kernel
theorem dX12_order_93 : decode cX12_order 93 = .ok (.getfield 99, 3) := by decide +kernel
theorem dX12_order_96 : decode cX12_order 96 = .ok (.bipush 16, 2) := by decide +kernel
theorem dX12_order_98 : decode cX12_order 98 = .ok (.iload_n 2, 1) := by decide +kernel
theorem dX12_order_99 : decode cX12_order 99 = .ok (.imul, 1) := by decide +kernel
theorem dX12_order_100 : decode cX12_order 100 = .ok (.iload 4, 2) := by decide +kernel
theorem dX12_order_102 : decode cX12_order 102 = .ok (.iadd, 1) := by decide +kernel
theorem dX12_order_103 : decode cX12_order 103 = .ok (.aload_n 0, 1) := by decide +kernel
theorem dX12_order_104 : decode cX12_order 104 = .ok (.iload 4, 2) := by decide +kernel
theorem dX12_order_106 : decode cX12_order 106 = .ok (.invokevirtual 449, 3) := by decide +kernel
theorem dX12_order_109 : decode cX12_order 109 = .ok (.lastore, 1) := by decide +kernel
theorem dX12_order_110 : decode cX12_order 110 = .ok (.iinc 4 1, 3) := by decide +kernel
theorem dX12_order_113 : decode cX12_order 113 = .ok (.goto (-32), 3) := by decide +kernel
theorem dX12_order_116 : decode cX12_order 116 = .ok (.aload_n 0, 1) := by decide +kernel
theorem dX12_order_117 : decode cX12_order 117 = .ok (.aload_n 0, 1) := by decide +kernel
theorem dX12_order_118 : decode cX12_order 118 = .ok (.aload_n 0, 1) := by decide +kernel
theorem dX12_order_119 : decode cX12_order 119 = .ok (.getfield 433, 3) := by decide +kernel
theorem dX12_order_122 : decode cX12_order 122 = .ok (.invokevirtual 436, 3) := by decide +kernel
theorem dX12_order_125 : decode cX12_order 125 = .ok (.aload_n 0, 1) := by decide +kernel
theorem dX12_order_126 : decode cX12_order 126 = .ok (.getfield 102, 3) := by decide +kernel
theorem dX12_order_129 : decode cX12_order 129 = .ok (.bipush 16, 2) := by decide +kernel
theorem dX12_order_131 : decode cX12_order 131 = .ok (.iload_n 2, 1) := by decide +kernel
theorem dX12_order_132 : decode cX12_order 132 = .ok (.imul, 1) := by decide +kernel
theorem dX12_order_133 : decode cX12_order 133 = .ok (.invokevirtual 445, 3) := by decide +kernel
theorem dX12_order_136 : decode cX12_order 136 = .ok (.aload_n 0, 1) := by decide +kernel
theorem dX12_order_137 : decode cX12_order 137 = .ok (.getfield 105, 3) := by decide +kernel
theorem dX12_order_140 : decode cX12_order 140 = .ok (.iload_n 2, 1) := by decide +kernel
theorem dX12_order_141 : decode cX12_order 141 = .ok (.aload_n 0, 1) := by decide +kernel
theorem dX12_order_142 : decode cX12_order 142 = .ok (.getfield 433, 3) := by decide +kernel
theorem dX12_order_145 : decode cX12_order 145 = .ok (.iload_n 1, 1) := by decide +kernel
theorem dX12_order_146 : decode cX12_order 146 = .ok (.iadd, 1) := by decide +kernel
theorem dX12_order_147 : decode cX12_order 147 = .ok (.iastore, 1) := by decide +kernel
theorem dX12_order_148 : decode cX12_order 148 = .ok (.aload_n 0, 1) := by decide +kernel
theorem dX12_order_149 : decode cX12_order 149 = .ok (.getfield 108, 3) := by decide +kernel
theorem dX12_order_152 : decode cX12_order 152 = .ok (.iconst 1, 1) := by decide +kernel
theorem dX12_order_153 : decode cX12_order 153 = .ok (.dup2, 1) := by decide +kernel
theorem dX12_order_154 : decode cX12_order 154 = .ok (.iaload, 1) := by decide +kernel
theorem dX12_order_155 : decode cX12_order 155 = .ok (.iconst 1, 1) := by decide +kernel
theorem dX12_order_156 : decode cX12_order 156 = .ok (.iadd, 1) := by decide +kernel
theorem dX12_order_157 : decode cX12_order 157 = .ok (.iastore, 1) := by decide +kernel
theorem dX12_order_158 : decode cX12_order 158 = .ok (.iconst 0, 1) := by decide +kernel
theorem dX12_order_159 : decode cX12_order 159 = .ok (.ireturn, 1) := by decide +kernel
noncomputable def F_X12_order_81 (k116 : Nat → Int32 → Int32 → m_M → Option (Int32 × m_M)) : Nat → Nat → Int32 → Int32 → Int32 → Int32 → m_M → Option (Int32 × m_M)
  | 0, _, _, _, _, _, _ => none
  | n + 1, v1, v2, v3, v4, v5, M =>
    if (16 : Int32) ≤ v5 then (
      k116 v1 v2 v3 M
    ) else
    if 0 ≤ v4 then (
      k116 v1 v2 v3 M
    ) else
    x_gN 10 M v1 48 fun v6 =>
    x_cV 10 M v1 (F_X12_allOf v1 v5 M) fun v7 M1 =>
    x_sL M1 v6 (((16 : Int32) * v3) + v5) v7 fun M2 =>
    m_let (v5 + (1 : Int32)) fun v8 =>
    F_X12_order_81 k116 n v1 v2 v3 v4 v8 M2
noncomputable def F_X12_order (a0 : Nat) (a1 : Int32) (M : m_M) : Option (Int32 × m_M) :=
  x_pI 10 M a0 0 (0 : Int32) fun M1 =>
  x_cV 10 M1 a0 (F_X12_readsSaying a0 M1) fun v1 M2 =>
  if v1 = 0 then (
    x_gI 10 M2 a0 9 fun v20 =>
    some (v20, M2)
  ) else
  x_bd (F_X12_within a1 (1 : Int32) (99 : Int32) M2) fun v2 M3 =>
  if v2 = 0 then (
    some ((-2 : Int32), M3)
  ) else
  x_gN 10 M3 a0 51 fun v3 =>
  x_aI 12 M3 v3 (1 : Int32) fun v4 =>
  if v4 = (4 : Int32) then (
    some ((-3 : Int32), M3)
  ) else
  x_cV 10 M3 a0 (F_X12_keeps a0 M3) fun _ M4 =>
  x_gN 10 M4 a0 51 fun v5 =>
  x_aI 12 M4 v5 (1 : Int32) fun v6 =>
  x_gI 10 M4 a0 53 fun v7 =>
  x_cV 10 M4 a0 (F_X12_verbOf a0 (v7 + a1) M4) fun v8 M5 =>
  x_gN 10 M5 a0 48 fun v9 =>
  x_cV 10 M5 a0 (F_X12_laysMeant a0 v8 v9 ((16 : Int32) * v6) M5) fun _ M6 =>
  m_let (fun (v10 : Nat) (v11 : Int32) (v12 : Int32) (M7 : m_M) =>
    x_gI 10 M7 v10 53 fun v13 =>
    x_cV 10 M7 v10 (F_X12_verbOf v10 v13 M7) fun v14 M8 =>
    x_gN 10 M8 v10 49 fun v15 =>
    x_cV 10 M8 v10 (F_X12_laysMeant v10 v14 v15 ((16 : Int32) * v12) M8) fun _ M9 =>
    x_gN 10 M9 v10 50 fun v16 =>
    x_gI 10 M9 v10 53 fun v17 =>
    x_sI 12 M9 v16 v12 (v17 + v11) fun M10 =>
    x_gN 10 M10 v10 51 fun v18 =>
    x_aI 12 M10 v18 (1 : Int32) fun v19 =>
    x_sI 12 M10 v18 (1 : Int32) (v19 + (1 : Int32)) fun M11 =>
    some ((0 : Int32), M11)
  ) fun (k116 : Nat → Int32 → Int32 → m_M → Option (Int32 × m_M)) =>
  F_X12_order_81 k116 m_FU a0 a1 v6 v8 (0 : Int32) M6
set_option maxHeartbeats 4000000 in
theorem L_X12_order_81 {X : j_X} {Φ : Option Value → m_M → Prop} (C : j_C X yX12_order cX12_order 5 (some .int) 70 0 0 Φ) {k116 : Nat → Int32 → Int32 → m_M → Option (Int32 × m_M)} (hk116 : ∀ (p0 : Nat) (p1 : Int32) (p2 : Int32) (M : m_M), m_ok e_I Φ (k116 p0 p1 p2 M) → j_J X 5 116 [some (.ref p0), some (.int p1), some (.int p2), none, none] [] (0, 0) M) : ∀ (n : Nat) (v1 : Nat) (v2 : Int32) (v3 : Int32) (v4 : Int32) (v5 : Int32) (M : m_M), m_ok e_I Φ (F_X12_order_81 k116 n v1 v2 v3 v4 v5 M) → j_J X 5 81 [some (.ref v1), some (.int v2), some (.int v3), some (.int v4), some (.int v5)] [] (0, 0) M := by
  have C0 := C.1
  intro n
  induction n with
  | zero => intro v1 v2 v3 v4 v5 M h; exact False.elim h
  | succ n ih =>
    intro v1 v2 v3 v4 v5 M h
    rw [F_X12_order_81] at h
    refine j_iload C0 (pc := 81) dX12_order_81 rfl ?_
    refine j_bipush C0 (pc := 83) dX12_order_83 (v := (16 : Int32)) (by decide) ?_
    refine j_icmp_ge C0 (pc := 85) (tgt := 116) dX12_order_85 (by decide) (fun hc => ?_) (fun hc => ?_)
    · replace h := (X_if h).1 hc
      exact j_J.wq (hk116 v1 v2 v3 M h) (And.intro rfl (And.intro rfl (And.intro rfl (trivial))))
    · replace h := (X_if h).2 hc
      refine j_iload_n C0 (pc := 88) dX12_order_88 rfl ?_
      refine j_if_ge C0 (pc := 89) (tgt := 116) dX12_order_89 (by decide) (fun hc => ?_) (fun hc => ?_)
      · replace h := (X_if h).1 hc
        exact j_J.wq (hk116 v1 v2 v3 M h) (And.intro rfl (And.intro rfl (And.intro rfl (trivial))))
      · replace h := (X_if h).2 hc
        refine j_aload_n C0 (pc := 92) dX12_order_92 rfl ?_
        refine X_gN C0 (pc := 93) f_OM_99_10 rfl dX12_order_93 h (fun v6 h => ?_)
        refine j_bipush C0 (pc := 96) dX12_order_96 (v := (16 : Int32)) (by decide) ?_
        refine j_iload_n C0 (pc := 98) dX12_order_98 rfl ?_
        refine j_imul C0 (pc := 99) dX12_order_99 ?_
        refine j_iload C0 (pc := 100) dX12_order_100 rfl ?_
        refine j_iadd C0 (pc := 102) dX12_order_102 ?_
        refine j_aload_n C0 (pc := 103) dX12_order_103 rfl ?_
        refine j_iload C0 (pc := 104) dX12_order_104 rfl ?_
        refine X_cV C0 (pc := 106) (e' := e_L) (as := [.int v5]) (rest := [.int (((16 : Int32) * v3) + v5), .ref v6]) (s' := fun w => .long w :: [.int (((16 : Int32) * v3) + v5), .ref v6]) (g' := (0, 0)) v_OM_449_10 (fun Ψ hΨ => K_X12_allOf v1 v5 M Ψ hΨ) rfl rfl (fun _ => rfl) (by decide) (by decide) rfl (Nat.le_of_ble_eq_true rfl) dX12_order_106 h (fun v7 M1 h => ?_)
        refine X_last C0 (pc := 109) dX12_order_109 h (fun M2 h => ?_)
        refine j_iinc C0 (pc := 110) dX12_order_110 (v := v5 + (1 : Int32)) rfl (Nat.le_of_ble_eq_true rfl) (by rfl) ?_
        refine X_let (G := fun w => j_J X 5 113 [some (.ref v1), some (.int v2), some (.int v3), some (.int v4), some (.int w)] [] (0, 0) M2) h (fun v8 h => ?_)
        refine j_goto C0 (pc := 113) (tgt := 81) dX12_order_113 (by decide) ?_
        exact j_J.wq (ih v1 v2 v3 v4 v8 M2 h) (And.intro rfl (And.intro rfl (And.intro rfl (And.intro rfl (And.intro rfl (trivial))))))
set_option maxHeartbeats 4000000 in
theorem K_X12_order (a0 : Nat) (a1 : Int32) (M : m_M) (Φ : Option Value → m_M → Prop) (h : m_ok e_I Φ (F_X12_order a0 a1 M)) : j_Ct yX12_order cX12_order 5 (some .int) 70 0 0 [.ref a0, .int a1] M Φ := by
  refine j_Ct.of (by decide +kernel) (Nat.le_of_ble_eq_true rfl) fun X C => ?_
  have C0 := C.1
  show j_J X 5 0 [some (.ref a0), some (.int a1), none, none, none] [] (0, 0) M
  unfold F_X12_order at h
  refine j_aload_n C0 (pc := 0) dX12_order_0 rfl ?_
  refine j_iconst C0 (pc := 1) dX12_order_1 (v := (0 : Int32)) (by decide) ?_
  refine X_pI C0 (pc := 2) f_OM_163_10 rfl rfl dX12_order_2 h (fun M1 h => ?_)
  refine j_aload_n C0 (pc := 5) dX12_order_5 rfl ?_
  refine X_cV C0 (pc := 6) (e' := e_I) (as := []) (rest := []) (s' := fun w => .int w :: []) (g' := (0, 0)) v_OM_439_10 (fun Ψ hΨ => K_X12_readsSaying a0 M1 Ψ hΨ) rfl rfl (fun _ => rfl) (by decide) (by decide) rfl (Nat.le_of_ble_eq_true rfl) dX12_order_6 h (fun v1 M2 h => ?_)
  refine j_if_ne C0 (pc := 9) (tgt := 17) dX12_order_9 (by decide) (fun hc => ?_) (fun hc => ?_)
  · replace h := (X_if h).2 hc
    refine j_iload_n C0 (pc := 17) dX12_order_17 rfl ?_
    refine j_iconst C0 (pc := 18) dX12_order_18 (v := (1 : Int32)) (by decide) ?_
    refine j_bipush C0 (pc := 19) dX12_order_19 (v := (99 : Int32)) (by decide) ?_
    refine X_cS C0 (pc := 21) (e' := e_I) (as := [.int a1, .int (1 : Int32), .int (99 : Int32)]) (rest := []) (s' := fun w => .int w :: []) (g' := (0, 0)) s_OM_279 (fun Ψ hΨ => K_X12_within a1 (1 : Int32) (99 : Int32) M2 Ψ hΨ) rfl rfl (fun _ => rfl) (by decide) (by decide) rfl (Nat.le_of_ble_eq_true rfl) dX12_order_21 h (fun v2 M3 h => ?_)
    refine j_if_ne C0 (pc := 24) (tgt := 30) dX12_order_24 (by decide) (fun hc => ?_) (fun hc => ?_)
    · replace h := (X_if h).2 hc
      refine j_aload_n C0 (pc := 30) dX12_order_30 rfl ?_
      refine X_gN C0 (pc := 31) f_OM_108_10 rfl dX12_order_31 h (fun v3 h => ?_)
      refine j_iconst C0 (pc := 34) dX12_order_34 (v := (1 : Int32)) (by decide) ?_
      refine X_iald C0 (pc := 35) dX12_order_35 h (fun v4 h => ?_)
      refine j_iconst C0 (pc := 36) dX12_order_36 (v := (4 : Int32)) (by decide) ?_
      refine j_icmp_ne C0 (pc := 37) (tgt := 43) dX12_order_37 (by decide) (fun hc => ?_) (fun hc => ?_)
      · replace h := (X_if h).2 hc
        refine j_aload_n C0 (pc := 43) dX12_order_43 rfl ?_
        refine X_cV C0 (pc := 44) (e' := e_V) (as := []) (rest := []) (s' := fun _ => []) (g' := (0, 0)) v_OM_442_10 (fun Ψ hΨ => K_X12_keeps a0 M3 Ψ hΨ) rfl rfl (fun _ => rfl) (by decide) (by decide) rfl (Nat.le_of_ble_eq_true rfl) dX12_order_44 h (fun _ M4 h => ?_)
        refine j_aload_n C0 (pc := 47) dX12_order_47 rfl ?_
        refine X_gN C0 (pc := 48) f_OM_108_10 rfl dX12_order_48 h (fun v5 h => ?_)
        refine j_iconst C0 (pc := 51) dX12_order_51 (v := (1 : Int32)) (by decide) ?_
        refine X_iald C0 (pc := 52) dX12_order_52 h (fun v6 h => ?_)
        refine j_istore_n C0 (pc := 53) dX12_order_53 (Nat.le_of_ble_eq_true rfl) ?_
        show j_J X 5 54 [some (.ref a0), some (.int a1), some (.int v6), none, none] [] (0, 0) M4
        refine j_aload_n C0 (pc := 54) dX12_order_54 rfl ?_
        refine j_aload_n C0 (pc := 55) dX12_order_55 rfl ?_
        refine X_gI C0 (pc := 56) f_OM_433_10 rfl dX12_order_56 h (fun v7 h => ?_)
        refine j_iload_n C0 (pc := 59) dX12_order_59 rfl ?_
        refine j_iadd C0 (pc := 60) dX12_order_60 ?_
        refine X_cV C0 (pc := 61) (e' := e_I) (as := [.int (v7 + a1)]) (rest := []) (s' := fun w => .int w :: []) (g' := (0, 0)) v_OM_436_10 (fun Ψ hΨ => K_X12_verbOf a0 (v7 + a1) M4 Ψ hΨ) rfl rfl (fun _ => rfl) (by decide) (by decide) rfl (Nat.le_of_ble_eq_true rfl) dX12_order_61 h (fun v8 M5 h => ?_)
        refine j_istore_n C0 (pc := 64) dX12_order_64 (Nat.le_of_ble_eq_true rfl) ?_
        show j_J X 5 65 [some (.ref a0), some (.int a1), some (.int v6), some (.int v8), none] [] (0, 0) M5
        refine j_aload_n C0 (pc := 65) dX12_order_65 rfl ?_
        refine j_iload_n C0 (pc := 66) dX12_order_66 rfl ?_
        refine j_aload_n C0 (pc := 67) dX12_order_67 rfl ?_
        refine X_gN C0 (pc := 68) f_OM_99_10 rfl dX12_order_68 h (fun v9 h => ?_)
        refine j_bipush C0 (pc := 71) dX12_order_71 (v := (16 : Int32)) (by decide) ?_
        refine j_iload_n C0 (pc := 73) dX12_order_73 rfl ?_
        refine j_imul C0 (pc := 74) dX12_order_74 ?_
        refine X_cV C0 (pc := 75) (e' := e_V) (as := [.int v8, .ref v9, .int ((16 : Int32) * v6)]) (rest := []) (s' := fun _ => []) (g' := (0, 0)) v_OM_445_10 (fun Ψ hΨ => K_X12_laysMeant a0 v8 v9 ((16 : Int32) * v6) M5 Ψ hΨ) rfl rfl (fun _ => rfl) (by decide) (by decide) rfl (Nat.le_of_ble_eq_true rfl) dX12_order_75 h (fun _ M6 h => ?_)
        refine j_iconst C0 (pc := 78) dX12_order_78 (v := (0 : Int32)) (by decide) ?_
        refine j_istore C0 (pc := 79) dX12_order_79 (Nat.le_of_ble_eq_true rfl) ?_
        show j_J X 5 81 [some (.ref a0), some (.int a1), some (.int v6), some (.int v8), some (.int (0 : Int32))] [] (0, 0) M6
        refine X_join (fun (kj : Nat → Int32 → Int32 → m_M → Option (Int32 × m_M)) => ∀ (p0 : Nat) (p1 : Int32) (p2 : Int32) (M : m_M), m_ok e_I Φ (kj p0 p1 p2 M) → j_J X 5 116 [some (.ref p0), some (.int p1), some (.int p2), none, none] [] (0, 0) M) h (fun v10 v11 v12 M7 h => ?_) (fun k116 hk116 h => ?_)
        · refine j_aload_n C0 (pc := 116) dX12_order_116 rfl ?_
          refine j_aload_n C0 (pc := 117) dX12_order_117 rfl ?_
          refine j_aload_n C0 (pc := 118) dX12_order_118 rfl ?_
          refine X_gI C0 (pc := 119) f_OM_433_10 rfl dX12_order_119 h (fun v13 h => ?_)
          refine X_cV C0 (pc := 122) (e' := e_I) (as := [.int v13]) (rest := [.ref v10]) (s' := fun w => .int w :: [.ref v10]) (g' := (0, 0)) v_OM_436_10 (fun Ψ hΨ => K_X12_verbOf v10 v13 M7 Ψ hΨ) rfl rfl (fun _ => rfl) (by decide) (by decide) rfl (Nat.le_of_ble_eq_true rfl) dX12_order_122 h (fun v14 M8 h => ?_)
          refine j_aload_n C0 (pc := 125) dX12_order_125 rfl ?_
          refine X_gN C0 (pc := 126) f_OM_102_10 rfl dX12_order_126 h (fun v15 h => ?_)
          refine j_bipush C0 (pc := 129) dX12_order_129 (v := (16 : Int32)) (by decide) ?_
          refine j_iload_n C0 (pc := 131) dX12_order_131 rfl ?_
          refine j_imul C0 (pc := 132) dX12_order_132 ?_
          refine X_cV C0 (pc := 133) (e' := e_V) (as := [.int v14, .ref v15, .int ((16 : Int32) * v12)]) (rest := []) (s' := fun _ => []) (g' := (0, 0)) v_OM_445_10 (fun Ψ hΨ => K_X12_laysMeant v10 v14 v15 ((16 : Int32) * v12) M8 Ψ hΨ) rfl rfl (fun _ => rfl) (by decide) (by decide) rfl (Nat.le_of_ble_eq_true rfl) dX12_order_133 h (fun _ M9 h => ?_)
          refine j_aload_n C0 (pc := 136) dX12_order_136 rfl ?_
          refine X_gN C0 (pc := 137) f_OM_105_10 rfl dX12_order_137 h (fun v16 h => ?_)
          refine j_iload_n C0 (pc := 140) dX12_order_140 rfl ?_
          refine j_aload_n C0 (pc := 141) dX12_order_141 rfl ?_
          refine X_gI C0 (pc := 142) f_OM_433_10 rfl dX12_order_142 h (fun v17 h => ?_)
          refine j_iload_n C0 (pc := 145) dX12_order_145 rfl ?_
          refine j_iadd C0 (pc := 146) dX12_order_146 ?_
          refine X_iast C0 (pc := 147) dX12_order_147 h (fun M10 h => ?_)
          refine j_aload_n C0 (pc := 148) dX12_order_148 rfl ?_
          refine X_gN C0 (pc := 149) f_OM_108_10 rfl dX12_order_149 h (fun v18 h => ?_)
          refine j_iconst C0 (pc := 152) dX12_order_152 (v := (1 : Int32)) (by decide) ?_
          refine j_dup2 C0 (pc := 153) dX12_order_153 rfl rfl ?_
          refine X_iald C0 (pc := 154) dX12_order_154 h (fun v19 h => ?_)
          refine j_iconst C0 (pc := 155) dX12_order_155 (v := (1 : Int32)) (by decide) ?_
          refine j_iadd C0 (pc := 156) dX12_order_156 ?_
          refine X_iast C0 (pc := 157) dX12_order_157 h (fun M11 h => ?_)
          refine j_iconst C0 (pc := 158) dX12_order_158 (v := (0 : Int32)) (by decide) ?_
          exact j_iret C rfl h dX12_order_159 (by decide)
        · exact j_J.wq (L_X12_order_81 C hk116 m_FU a0 a1 v6 v8 (0 : Int32) M6 h) (And.intro rfl (And.intro rfl (And.intro rfl (And.intro rfl (And.intro rfl (trivial))))))
      · replace h := (X_if h).1 hc
        refine j_bipush C0 (pc := 40) dX12_order_40 (v := (-3 : Int32)) (by decide) ?_
        exact j_iret C rfl h dX12_order_42 (by decide)
    · replace h := (X_if h).1 hc
      refine j_bipush C0 (pc := 27) dX12_order_27 (v := (-2 : Int32)) (by decide) ?_
      exact j_iret C rfl h dX12_order_29 (by decide)
  · replace h := (X_if h).1 hc
    refine j_aload_n C0 (pc := 12) dX12_order_12 rfl ?_
    refine X_gI C0 (pc := 13) f_OM_199_10 rfl dX12_order_13 h (fun v20 h => ?_)
    exact j_iret C rfl h dX12_order_16 (by decide)
theorem dX12_ordered_0 : decode cX12_ordered 0 = .ok (.aload_n 0, 1) := by decide +kernel
theorem dX12_ordered_1 : decode cX12_ordered 1 = .ok (.iconst 0, 1) := by decide +kernel
theorem dX12_ordered_2 : decode cX12_ordered 2 = .ok (.putfield 163, 3) := by decide +kernel
theorem dX12_ordered_5 : decode cX12_ordered 5 = .ok (.iload_n 1, 1) := by decide +kernel
theorem dX12_ordered_6 : decode cX12_ordered 6 = .ok (.ifCond .lt 22, 3) := by decide +kernel
theorem dX12_ordered_9 : decode cX12_ordered 9 = .ok (.iload_n 1, 1) := by decide +kernel
theorem dX12_ordered_10 : decode cX12_ordered 10 = .ok (.aload_n 0, 1) := by decide +kernel
theorem dX12_ordered_11 : decode cX12_ordered 11 = .ok (.getfield 108, 3) := by decide +kernel
theorem dX12_ordered_14 : decode cX12_ordered 14 = .ok (.iconst 1, 1) := by decide +kernel
theorem dX12_ordered_15 : decode cX12_ordered 15 = .ok (.iaload, 1) := by decide +kernel
theorem dX12_ordered_16 : decode cX12_ordered 16 = .ok (.if_icmp .ge 12, 3) := by decide +kernel
theorem dX12_ordered_19 : decode cX12_ordered 19 = .ok (.iload_n 2, 1) := by decide +kernel
theorem dX12_ordered_20 : decode cX12_ordered 20 = .ok (.iconst 0, 1) := by decide +kernel
theorem dX12_ordered_21 : decode cX12_ordered 21 = .ok (.iconst 3, 1) := by decide +kernel
theorem dX12_ordered_22 : decode cX12_ordered 22 = .ok (.invokestatic 279, 3) := by decide +kernel
theorem dX12_ordered_25 : decode cX12_ordered 25 = .ok (.ifCond .ne 5, 3) := by decide +kernel
theorem dX12_ordered_28 : decode cX12_ordered 28 = .ok (.iconst (-1), 1) := by decide +kernel
theorem dX12_ordered_29 : decode cX12_ordered 29 = .ok (.ireturn, 1) := by decide +kernel
theorem dX12_ordered_30 : decode cX12_ordered 30 = .ok (.bipush 16, 2) := by decide +kernel
theorem dX12_ordered_32 : decode cX12_ordered 32 = .ok (.iload_n 1, 1) := by decide +kernel
theorem dX12_ordered_33 : decode cX12_ordered 33 = .ok (.imul, 1) := by decide +kernel
theorem dX12_ordered_34 : decode cX12_ordered 34 = .ok (.istore_n 3, 1) := by decide +kernel
theorem dX12_ordered_35 : decode cX12_ordered 35 = .ok (.iload_n 2, 1) := by decide +kernel
theorem dX12_ordered_36 : decode cX12_ordered 36 = .ok (.iconst 2, 1) := by decide +kernel
theorem dX12_ordered_37 : decode cX12_ordered 37 = .ok (.if_icmp .ge 26, 3) := by decide +kernel
theorem dX12_ordered_40 : decode cX12_ordered 40 = .ok (.iload_n 2, 1) := by decide +kernel
theorem dX12_ordered_41 : decode cX12_ordered 41 = .ok (.ifCond .ne 12, 3) := by decide +kernel
theorem dX12_ordered_44 : decode cX12_ordered 44 = .ok (.aload_n 0, 1) := by decide +kernel
theorem dX12_ordered_45 : decode cX12_ordered 45 = .ok (.getfield 105, 3) := by decide +kernel
theorem dX12_ordered_48 : decode cX12_ordered 48 = .ok (.iload_n 1, 1) := by decide +kernel
theorem dX12_ordered_49 : decode cX12_ordered 49 = .ok (.iaload, 1) := by decide +kernel
theorem dX12_ordered_50 : decode cX12_ordered 50 = .ok (.goto 12, 3) := by decide +kernel
theorem dX12_ordered_53 : decode cX12_ordered 53 = .ok (.aload_n 0, 1) := by decide +kernel
theorem dX12_ordered_54 : decode cX12_ordered 54 = .ok (.aload_n 0, 1) := by decide +kernel
theorem dX12_ordered_55 : decode cX12_ordered 55 = .ok (.getfield 99, 3) := by decide +kernel
theorem dX12_ordered_58 : decode cX12_ordered 58 = .ok (.iload_n 3, 1) := by decide +kernel
theorem dX12_ordered_59 : decode cX12_ordered 59 = .ok (.invokevirtual 455, 3) := by decide +kernel
theorem dX12_ordered_62 : decode cX12_ordered 62 = .ok (.ireturn, 1) := by decide +kernel
theorem dX12_ordered_63 : decode cX12_ordered 63 = .ok (.iconst 0, 1) := by decide +kernel
theorem dX12_ordered_64 : decode cX12_ordered 64 = .ok (.istore 4, 2) := by decide +kernel
theorem dX12_ordered_66 : decode cX12_ordered 66 = .ok (.iconst (-1), 1) := by decide +kernel
theorem dX12_ordered_67 : decode cX12_ordered 67 = .ok (.istore 5, 2) := by decide +kernel
theorem dX12_ordered_69 : decode cX12_ordered 69 = .ok (.iconst 0, 1) := by decide +kernel
theorem dX12_ordered_70 : decode cX12_ordered 70 = .ok (.istore 6, 2) := by decide +kernel
theorem dX12_ordered_72 : decode cX12_ordered 72 = .ok (.iload 6, 2) := by decide +kernel
theorem dX12_ordered_74 : decode cX12_ordered 74 = .ok (.aload_n 0, 1) := by decide +kernel
theorem dX12_ordered_75 : decode cX12_ordered 75 = .ok (.getfield 383, 3) := by decide +kernel
theorem dX12_ordered_78 : decode cX12_ordered 78 = .ok (.if_icmp .ge 91, 3) := by decide +kernel
theorem dX12_ordered_81 : decode cX12_ordered 81 = .ok (.aload_n 0, 1) := by decide +kernel
theorem dX12_ordered_82 : decode cX12_ordered 82 = .ok (.getfield 99, 3) := by decide +kernel
theorem dX12_ordered_85 : decode cX12_ordered 85 = .ok (.iload_n 3, 1) := by decide +kernel
theorem dX12_ordered_86 : decode cX12_ordered 86 = .ok (.iload 6, 2) := by decide +kernel
theorem dX12_ordered_88 : decode cX12_ordered 88 = .ok (.bipush 64, 2) := by decide +kernel
theorem dX12_ordered_90 : decode cX12_ordered 90 = .ok (.idiv, 1) := by decide +kernel
theorem dX12_ordered_91 : decode cX12_ordered 91 = .ok (.iadd, 1) := by decide +kernel
theorem dX12_ordered_92 : decode cX12_ordered 92 = .ok (.laload, 1) := by decide +kernel
theorem dX12_ordered_93 : decode cX12_ordered 93 = .ok (.iload 6, 2) := by decide +kernel
theorem dX12_ordered_95 : decode cX12_ordered 95 = .ok (.bipush 64, 2) := by decide +kernel
theorem dX12_ordered_97 : decode cX12_ordered 97 = .ok (.irem, 1) := by decide +kernel
theorem dX12_ordered_98 : decode cX12_ordered 98 = .ok (.lshr, 1) := by decide +kernel
theorem dX12_ordered_99 : decode cX12_ordered 99 = .ok (.lconst 1, 1) := by decide +kernel
theorem dX12_ordered_100 : decode cX12_ordered 100 = .ok (.land, 1) := by decide +kernel
theorem dX12_ordered_101 : decode cX12_ordered 101 = .ok (.lconst 1, 1) := by decide +kernel
theorem dX12_ordered_102 : decode cX12_ordered 102 = .ok (.lcmp, 1) := by decide +kernel
theorem dX12_ordered_103 : decode cX12_ordered 103 = .ok (.ifCond .ne 32, 3) := by decide +kernel
theorem dX12_ordered_106 : decode cX12_ordered 106 = .ok (.aload_n 0, 1) := by decide +kernel
theorem dX12_ordered_107 : decode cX12_ordered 107 = .ok (.getfield 102, 3) := by decide +kernel
theorem dX12_ordered_110 : decode cX12_ordered 110 = .ok (.iload_n 3, 1) := by decide +kernel
theorem dX12_ordered_111 : decode cX12_ordered 111 = .ok (.iload 6, 2) := by decide +kernel
theorem dX12_ordered_113 : decode cX12_ordered 113 = .ok (.bipush 64, 2) := by decide +kernel
theorem dX12_ordered_115 : decode cX12_ordered 115 = .ok (.idiv, 1) := by decide +kernel
theorem dX12_ordered_116 : decode cX12_ordered 116 = .ok (.iadd, 1) := by decide +kernel
theorem dX12_ordered_117 : decode cX12_ordered 117 = .ok (.laload, 1) := by decide +kernel
theorem dX12_ordered_118 : decode cX12_ordered 118 = .ok (.iload 6, 2) := by decide +kernel
theorem dX12_ordered_120 : decode cX12_ordered 120 = .ok (.bipush 64, 2) := by decide +kernel
theorem dX12_ordered_122 : decode cX12_ordered 122 = .ok (.irem, 1) := by decide +kernel
theorem dX12_ordered_123 : decode cX12_ordered 123 = .ok (.lshr, 1) := by decide +kernel
theorem dX12_ordered_124 : decode cX12_ordered 124 = .ok (.lconst 1, 1) := by decide +kernel
theorem dX12_ordered_125 : decode cX12_ordered 125 = .ok (.land, 1) := by decide +kernel
theorem dX12_ordered_126 : decode cX12_ordered 126 = .ok (.lconst 0, 1) := by decide +kernel
theorem dX12_ordered_127 : decode cX12_ordered 127 = .ok (.lcmp, 1) := by decide +kernel
theorem dX12_ordered_128 : decode cX12_ordered 128 = .ok (.ifCond .ne 7, 3) := by decide +kernel
theorem dX12_ordered_131 : decode cX12_ordered 131 = .ok (.iconst 1, 1) := by decide +kernel
theorem dX12_ordered_132 : decode cX12_ordered 132 = .ok (.goto 4, 3) := by decide +kernel
theorem dX12_ordered_135 : decode cX12_ordered 135 = .ok (.iconst 0, 1) := by decide +kernel
theorem dX12_ordered_136 : decode cX12_ordered 136 = .ok (.istore 7, 2) := by decide +kernel
theorem dX12_ordered_138 : decode cX12_ordered 138 = .ok (.iload 7, 2) := by decide +kernel
theorem dX12_ordered_140 : decode cX12_ordered 140 = .ok (.ifCond .ne 6, 3) := by decide +kernel
theorem dX12_ordered_143 : decode cX12_ordered 143 = .ok (.goto 20, 3) := by decide +kernel
theorem dX12_ordered_146 : decode cX12_ordered 146 = .ok (.iload 4, 2) := by decide +kernel
theorem dX12_ordered_148 : decode cX12_ordered 148 = .ok (.ifCond .ne 8, 3) := by decide +kernel
theorem dX12_ordered_151 : decode cX12_ordered 151 = .ok (.iload 6, 2) := by decide +kernel
theorem dX12_ordered_153 : decode cX12_ordered 153 = .ok (.goto 5, 3) := by decide +kernel
theorem dX12_ordered_156 : decode cX12_ordered 156 = .ok (.iload 5, 2) := by decide +kernel
theorem dX12_ordered_158 : decode cX12_ordered 158 = .ok (.istore 5, 2) := by decide +kernel
theorem dX12_ordered_160 : decode cX12_ordered 160 = .ok (.iinc 4 1, 3) := by decide +kernel
theorem dX12_ordered_163 : decode cX12_ordered 163 = .ok (.iinc 6 1, 3) := by decide +kernel
theorem dX12_ordered_166 : decode cX12_ordered 166 = .ok (.goto (-94), 3) := by decide +kernel
theorem dX12_ordered_169 : decode cX12_ordered 169 = .ok (.iload_n 2, 1) := by decide +kernel
theorem dX12_ordered_170 : decode cX12_ordered 170 = .ok (.iconst 2, 1) := by decide +kernel
theorem dX12_ordered_171 : decode cX12_ordered 171 = .ok (.if_icmp .ne 8, 3) := by decide +kernel
theorem dX12_ordered_174 : decode cX12_ordered 174 = .ok (.iload 4, 2) := by decide +kernel
theorem dX12_ordered_176 : decode cX12_ordered 176 = .ok (.goto 5, 3) := by decide +kernel
theorem dX12_ordered_179 : decode cX12_ordered 179 = .ok (.iload 5, 2) := by decide +kernel
theorem dX12_ordered_181 : decode cX12_ordered 181 = .ok (.ireturn, 1) := by decide +kernel
noncomputable def F_X12_ordered_72 (k169 : Int32 → Int32 → Int32 → m_M → Option (Int32 × m_M)) : Nat → Nat → Int32 → Int32 → Int32 → Int32 → Int32 → m_M → Option (Int32 × m_M)
  | 0, _, _, _, _, _, _, _ => none
  | n + 1, v1, v2, v3, v4, v5, v6, M =>
    x_gI 10 M v1 42 fun v7 =>
    if v7 ≤ v6 then (
      k169 v2 v4 v5 M
    ) else
    m_let (fun (v8 : Nat) (v9 : Int32) (v10 : Int32) (v11 : Int32) (v12 : Int32) (v13 : Int32) (v14 : Int32) (M1 : m_M) =>
      m_let (fun (v15 : Nat) (v16 : Int32) (v17 : Int32) (v18 : Int32) (v19 : Int32) (v20 : Int32) (M2 : m_M) =>
        m_let (v20 + (1 : Int32)) fun v21 =>
        F_X12_ordered_72 k169 n v15 v16 v17 v18 v19 v21 M2
      ) fun (k163 : Nat → Int32 → Int32 → Int32 → Int32 → Int32 → m_M → Option (Int32 × m_M)) =>
      if v14 = 0 then (
        k163 v8 v9 v10 v11 v12 v13 M1
      ) else
      m_let (fun (v22 : Nat) (v23 : Int32) (v24 : Int32) (v25 : Int32) (v26 : Int32) (v27 : Int32) (M3 : m_M) =>
        m_let (v25 + (1 : Int32)) fun v28 =>
        k163 v22 v23 v24 v28 v27 v26 M3
      ) fun (k158 : Nat → Int32 → Int32 → Int32 → Int32 → Int32 → m_M → Option (Int32 × m_M)) =>
      if v11 = 0 then (
        k158 v8 v9 v10 v11 v13 v13 M1
      ) else
      k158 v8 v9 v10 v11 v13 v12 M1
    ) fun (k136 : Nat → Int32 → Int32 → Int32 → Int32 → Int32 → Int32 → m_M → Option (Int32 × m_M)) =>
    m_let (fun (v29 : Nat) (v30 : Int32) (v31 : Int32) (v32 : Int32) (v33 : Int32) (v34 : Int32) (M4 : m_M) =>
      k136 v29 v30 v31 v32 v33 v34 (0 : Int32) M4
    ) fun (k135 : Nat → Int32 → Int32 → Int32 → Int32 → Int32 → m_M → Option (Int32 × m_M)) =>
    x_gN 10 M v1 48 fun v35 =>
    x_nz (64 : Int32) <|
    x_aL M v35 (v3 + (v6 / (64 : Int32))) fun v36 =>
    x_nz (64 : Int32) <|
    if (lg_cmp ((v36 >>> ((v6 - v6 / (64 : Int32) * (64 : Int32)).toInt64 &&& 63)) &&& (1 : Int64)) (1 : Int64)) = 0 then (
      x_gN 10 M v1 49 fun v37 =>
      x_nz (64 : Int32) <|
      x_aL M v37 (v3 + (v6 / (64 : Int32))) fun v38 =>
      x_nz (64 : Int32) <|
      if (lg_cmp ((v38 >>> ((v6 - v6 / (64 : Int32) * (64 : Int32)).toInt64 &&& 63)) &&& (1 : Int64)) (0 : Int64)) = 0 then (
        k136 v1 v2 v3 v4 v5 v6 (1 : Int32) M
      ) else
      k135 v1 v2 v3 v4 v5 v6 M
    ) else
    k135 v1 v2 v3 v4 v5 v6 M
noncomputable def F_X12_ordered (a0 : Nat) (a1 : Int32) (a2 : Int32) (M : m_M) : Option (Int32 × m_M) :=
  x_pI 10 M a0 0 (0 : Int32) fun M1 =>
  if a1 < 0 then (
    some ((-1 : Int32), M1)
  ) else
  x_gN 10 M1 a0 51 fun v1 =>
  x_aI 12 M1 v1 (1 : Int32) fun v2 =>
  if v2 ≤ a1 then (
    some ((-1 : Int32), M1)
  ) else
  x_bd (F_X12_within a2 (0 : Int32) (3 : Int32) M1) fun v3 M2 =>
  if v3 = 0 then (
    some ((-1 : Int32), M2)
  ) else
  m_let ((16 : Int32) * a1) fun v4 =>
  if (2 : Int32) ≤ a2 then (
    m_let (fun (v5 : Int32) (v6 : Int32) (v7 : Int32) (M3 : m_M) =>
      if v5 = (2 : Int32) then (
        some (v6, M3)
      ) else
      some (v7, M3)
    ) fun (k169 : Int32 → Int32 → Int32 → m_M → Option (Int32 × m_M)) =>
    F_X12_ordered_72 k169 m_FU a0 a2 v4 (0 : Int32) (-1 : Int32) (0 : Int32) M2
  ) else
  if a2 = 0 then (
    x_gN 10 M2 a0 50 fun v10 =>
    x_aI 12 M2 v10 a1 fun v11 =>
    some (v11, M2)
  ) else
  x_gN 10 M2 a0 48 fun v8 =>
  x_cV 10 M2 a0 (F_X12_countOf a0 v8 v4 M2) fun v9 M4 =>
  some (v9, M4)
set_option maxHeartbeats 4000000 in
theorem L_X12_ordered_72 {X : j_X} {Φ : Option Value → m_M → Prop} (C : j_C X yX12_ordered cX12_ordered 8 (some .int) 3 0 0 Φ) {k169 : Int32 → Int32 → Int32 → m_M → Option (Int32 × m_M)} (hk169 : ∀ (p0 : Int32) (p1 : Int32) (p2 : Int32) (M : m_M), m_ok e_I Φ (k169 p0 p1 p2 M) → j_J X 8 169 [none, none, some (.int p0), none, some (.int p1), some (.int p2), none, none] [] (0, 0) M) : ∀ (n : Nat) (v1 : Nat) (v2 : Int32) (v3 : Int32) (v4 : Int32) (v5 : Int32) (v6 : Int32) (M : m_M), m_ok e_I Φ (F_X12_ordered_72 k169 n v1 v2 v3 v4 v5 v6 M) → j_J X 8 72 [some (.ref v1), none, some (.int v2), some (.int v3), some (.int v4), some (.int v5), some (.int v6), none] [] (0, 0) M := by
  have C0 := C.1
  intro n
  induction n with
  | zero => intro v1 v2 v3 v4 v5 v6 M h; exact False.elim h
  | succ n ih =>
    intro v1 v2 v3 v4 v5 v6 M h
    rw [F_X12_ordered_72] at h
    refine j_iload C0 (pc := 72) dX12_ordered_72 rfl ?_
    refine j_aload_n C0 (pc := 74) dX12_ordered_74 rfl ?_
    refine X_gI C0 (pc := 75) f_OM_383_10 rfl dX12_ordered_75 h (fun v7 h => ?_)
    refine j_icmp_ge C0 (pc := 78) (tgt := 169) dX12_ordered_78 (by decide) (fun hc => ?_) (fun hc => ?_)
    · replace h := (X_if h).1 hc
      exact j_J.wq (hk169 v2 v4 v5 M h) (And.intro rfl (And.intro rfl (And.intro rfl (trivial))))
    · replace h := (X_if h).2 hc
      refine X_join (fun (kj : Nat → Int32 → Int32 → Int32 → Int32 → Int32 → Int32 → m_M → Option (Int32 × m_M)) => ∀ (p0 : Nat) (p1 : Int32) (p2 : Int32) (p3 : Int32) (p4 : Int32) (p5 : Int32) (p6 : Int32) (M : m_M), m_ok e_I Φ (kj p0 p1 p2 p3 p4 p5 p6 M) → j_J X 8 136 [some (.ref p0), none, some (.int p1), some (.int p2), some (.int p3), some (.int p4), some (.int p5), none] [.int p6] (0, 0) M) h (fun v8 v9 v10 v11 v12 v13 v14 M1 h => ?_) (fun k136 hk136 h => ?_)
      · refine X_join (fun (kj : Nat → Int32 → Int32 → Int32 → Int32 → Int32 → m_M → Option (Int32 × m_M)) => ∀ (p0 : Nat) (p1 : Int32) (p2 : Int32) (p3 : Int32) (p4 : Int32) (p5 : Int32) (M : m_M), m_ok e_I Φ (kj p0 p1 p2 p3 p4 p5 M) → j_J X 8 163 [some (.ref p0), none, some (.int p1), some (.int p2), some (.int p3), some (.int p4), some (.int p5), none] [] (0, 0) M) h (fun v15 v16 v17 v18 v19 v20 M2 h => ?_) (fun k163 hk163 h => ?_)
        · refine j_iinc C0 (pc := 163) dX12_ordered_163 (v := v20 + (1 : Int32)) rfl (Nat.le_of_ble_eq_true rfl) (by rfl) ?_
          refine X_let (G := fun w => j_J X 8 166 [some (.ref v15), none, some (.int v16), some (.int v17), some (.int v18), some (.int v19), some (.int w), none] [] (0, 0) M2) h (fun v21 h => ?_)
          refine j_goto C0 (pc := 166) (tgt := 72) dX12_ordered_166 (by decide) ?_
          exact j_J.wq (ih v15 v16 v17 v18 v19 v21 M2 h) (And.intro rfl (And.intro rfl (And.intro rfl (And.intro rfl (And.intro rfl (And.intro rfl (trivial)))))))
        · refine j_istore C0 (pc := 136) dX12_ordered_136 (Nat.le_of_ble_eq_true rfl) ?_
          show j_J X 8 138 [some (.ref v8), none, some (.int v9), some (.int v10), some (.int v11), some (.int v12), some (.int v13), some (.int v14)] [] (0, 0) M1
          refine j_iload C0 (pc := 138) dX12_ordered_138 rfl ?_
          refine j_if_ne C0 (pc := 140) (tgt := 146) dX12_ordered_140 (by decide) (fun hc => ?_) (fun hc => ?_)
          · replace h := (X_if h).2 hc
            refine X_join (fun (kj : Nat → Int32 → Int32 → Int32 → Int32 → Int32 → m_M → Option (Int32 × m_M)) => ∀ (p0 : Nat) (p1 : Int32) (p2 : Int32) (p3 : Int32) (p4 : Int32) (p5 : Int32) (M : m_M), m_ok e_I Φ (kj p0 p1 p2 p3 p4 p5 M) → j_J X 8 158 [some (.ref p0), none, some (.int p1), some (.int p2), some (.int p3), none, some (.int p4), none] [.int p5] (0, 0) M) h (fun v22 v23 v24 v25 v26 v27 M3 h => ?_) (fun k158 hk158 h => ?_)
            · refine j_istore C0 (pc := 158) dX12_ordered_158 (Nat.le_of_ble_eq_true rfl) ?_
              show j_J X 8 160 [some (.ref v22), none, some (.int v23), some (.int v24), some (.int v25), some (.int v27), some (.int v26), none] [] (0, 0) M3
              refine j_iinc C0 (pc := 160) dX12_ordered_160 (v := v25 + (1 : Int32)) rfl (Nat.le_of_ble_eq_true rfl) (by rfl) ?_
              refine X_let (G := fun w => j_J X 8 163 [some (.ref v22), none, some (.int v23), some (.int v24), some (.int w), some (.int v27), some (.int v26), none] [] (0, 0) M3) h (fun v28 h => ?_)
              exact j_J.wq (hk163 v22 v23 v24 v28 v27 v26 M3 h) (And.intro rfl (And.intro rfl (And.intro rfl (And.intro rfl (And.intro rfl (And.intro rfl (trivial)))))))
            · refine j_iload C0 (pc := 146) dX12_ordered_146 rfl ?_
              refine j_if_ne C0 (pc := 148) (tgt := 156) dX12_ordered_148 (by decide) (fun hc => ?_) (fun hc => ?_)
              · replace h := (X_if h).2 hc
                refine j_iload C0 (pc := 156) dX12_ordered_156 rfl ?_
                exact j_J.wq (hk158 v8 v9 v10 v11 v13 v12 M1 h) (And.intro rfl (And.intro rfl (And.intro rfl (And.intro rfl (And.intro rfl (trivial))))))
              · replace h := (X_if h).1 hc
                refine j_iload C0 (pc := 151) dX12_ordered_151 rfl ?_
                refine j_goto C0 (pc := 153) (tgt := 158) dX12_ordered_153 (by decide) ?_
                exact j_J.wq (hk158 v8 v9 v10 v11 v13 v13 M1 h) (And.intro rfl (And.intro rfl (And.intro rfl (And.intro rfl (And.intro rfl (trivial))))))
          · replace h := (X_if h).1 hc
            refine j_goto C0 (pc := 143) (tgt := 163) dX12_ordered_143 (by decide) ?_
            exact j_J.wq (hk163 v8 v9 v10 v11 v12 v13 M1 h) (And.intro rfl (And.intro rfl (And.intro rfl (And.intro rfl (And.intro rfl (And.intro rfl (trivial)))))))
      · refine X_join (fun (kj : Nat → Int32 → Int32 → Int32 → Int32 → Int32 → m_M → Option (Int32 × m_M)) => ∀ (p0 : Nat) (p1 : Int32) (p2 : Int32) (p3 : Int32) (p4 : Int32) (p5 : Int32) (M : m_M), m_ok e_I Φ (kj p0 p1 p2 p3 p4 p5 M) → j_J X 8 135 [some (.ref p0), none, some (.int p1), some (.int p2), some (.int p3), some (.int p4), some (.int p5), none] [] (0, 0) M) h (fun v29 v30 v31 v32 v33 v34 M4 h => ?_) (fun k135 hk135 h => ?_)
        · refine j_iconst C0 (pc := 135) dX12_ordered_135 (v := (0 : Int32)) (by decide) ?_
          exact j_J.wq (hk136 v29 v30 v31 v32 v33 v34 (0 : Int32) M4 h) (And.intro rfl (And.intro rfl (And.intro rfl (And.intro rfl (And.intro rfl (And.intro rfl (trivial)))))))
        · refine j_aload_n C0 (pc := 81) dX12_ordered_81 rfl ?_
          refine X_gN C0 (pc := 82) f_OM_99_10 rfl dX12_ordered_82 h (fun v35 h => ?_)
          refine j_iload_n C0 (pc := 85) dX12_ordered_85 rfl ?_
          refine j_iload C0 (pc := 86) dX12_ordered_86 rfl ?_
          refine j_bipush C0 (pc := 88) dX12_ordered_88 (v := (64 : Int32)) (by decide) ?_
          refine X_idiv C0 (pc := 90) dX12_ordered_90 h (fun h => ?_)
          refine j_iadd C0 (pc := 91) dX12_ordered_91 ?_
          refine X_lald C0 (pc := 92) dX12_ordered_92 h (fun v36 h => ?_)
          refine j_iload C0 (pc := 93) dX12_ordered_93 rfl ?_
          refine j_bipush C0 (pc := 95) dX12_ordered_95 (v := (64 : Int32)) (by decide) ?_
          refine X_irem C0 (pc := 97) dX12_ordered_97 h (fun h => ?_)
          refine j_lshr C0 (pc := 98) dX12_ordered_98 (v := v36 >>> ((v6 - v6 / (64 : Int32) * (64 : Int32)).toInt64 &&& 63)) rfl ?_
          refine j_lconst C0 (pc := 99) dX12_ordered_99 (v := (1 : Int64)) (by decide) ?_
          refine j_land C0 (pc := 100) dX12_ordered_100 ?_
          refine j_lconst C0 (pc := 101) dX12_ordered_101 (v := (1 : Int64)) (by decide) ?_
          refine j_lcmp C0 (pc := 102) dX12_ordered_102 ?_
          refine j_if_ne C0 (pc := 103) (tgt := 135) dX12_ordered_103 (by decide) (fun hc => ?_) (fun hc => ?_)
          · replace h := (X_if h).2 hc
            exact j_J.wq (hk135 v1 v2 v3 v4 v5 v6 M h) (And.intro rfl (And.intro rfl (And.intro rfl (And.intro rfl (And.intro rfl (And.intro rfl (trivial)))))))
          · replace h := (X_if h).1 hc
            refine j_aload_n C0 (pc := 106) dX12_ordered_106 rfl ?_
            refine X_gN C0 (pc := 107) f_OM_102_10 rfl dX12_ordered_107 h (fun v37 h => ?_)
            refine j_iload_n C0 (pc := 110) dX12_ordered_110 rfl ?_
            refine j_iload C0 (pc := 111) dX12_ordered_111 rfl ?_
            refine j_bipush C0 (pc := 113) dX12_ordered_113 (v := (64 : Int32)) (by decide) ?_
            refine X_idiv C0 (pc := 115) dX12_ordered_115 h (fun h => ?_)
            refine j_iadd C0 (pc := 116) dX12_ordered_116 ?_
            refine X_lald C0 (pc := 117) dX12_ordered_117 h (fun v38 h => ?_)
            refine j_iload C0 (pc := 118) dX12_ordered_118 rfl ?_
            refine j_bipush C0 (pc := 120) dX12_ordered_120 (v := (64 : Int32)) (by decide) ?_
            refine X_irem C0 (pc := 122) dX12_ordered_122 h (fun h => ?_)
            refine j_lshr C0 (pc := 123) dX12_ordered_123 (v := v38 >>> ((v6 - v6 / (64 : Int32) * (64 : Int32)).toInt64 &&& 63)) rfl ?_
            refine j_lconst C0 (pc := 124) dX12_ordered_124 (v := (1 : Int64)) (by decide) ?_
            refine j_land C0 (pc := 125) dX12_ordered_125 ?_
            refine j_lconst C0 (pc := 126) dX12_ordered_126 (v := (0 : Int64)) (by decide) ?_
            refine j_lcmp C0 (pc := 127) dX12_ordered_127 ?_
            refine j_if_ne C0 (pc := 128) (tgt := 135) dX12_ordered_128 (by decide) (fun hc => ?_) (fun hc => ?_)
            · replace h := (X_if h).2 hc
              exact j_J.wq (hk135 v1 v2 v3 v4 v5 v6 M h) (And.intro rfl (And.intro rfl (And.intro rfl (And.intro rfl (And.intro rfl (And.intro rfl (trivial)))))))
            · replace h := (X_if h).1 hc
              refine j_iconst C0 (pc := 131) dX12_ordered_131 (v := (1 : Int32)) (by decide) ?_
              refine j_goto C0 (pc := 132) (tgt := 136) dX12_ordered_132 (by decide) ?_
              exact j_J.wq (hk136 v1 v2 v3 v4 v5 v6 (1 : Int32) M h) (And.intro rfl (And.intro rfl (And.intro rfl (And.intro rfl (And.intro rfl (And.intro rfl (trivial)))))))
set_option maxHeartbeats 4000000 in
theorem K_X12_ordered (a0 : Nat) (a1 : Int32) (a2 : Int32) (M : m_M) (Φ : Option Value → m_M → Prop) (h : m_ok e_I Φ (F_X12_ordered a0 a1 a2 M)) : j_Ct yX12_ordered cX12_ordered 8 (some .int) 3 0 0 [.ref a0, .int a1, .int a2] M Φ := by
  refine j_Ct.of (by decide +kernel) (Nat.le_of_ble_eq_true rfl) fun X C => ?_
  have C0 := C.1
  show j_J X 8 0 [some (.ref a0), some (.int a1), some (.int a2), none, none, none, none, none] [] (0, 0) M
  unfold F_X12_ordered at h
  refine j_aload_n C0 (pc := 0) dX12_ordered_0 rfl ?_
  refine j_iconst C0 (pc := 1) dX12_ordered_1 (v := (0 : Int32)) (by decide) ?_
  refine X_pI C0 (pc := 2) f_OM_163_10 rfl rfl dX12_ordered_2 h (fun M1 h => ?_)
  refine j_iload_n C0 (pc := 5) dX12_ordered_5 rfl ?_
  refine j_if_lt C0 (pc := 6) (tgt := 28) dX12_ordered_6 (by decide) (fun hc => ?_) (fun hc => ?_)
  · replace h := (X_if h).1 hc
    refine j_iconst C0 (pc := 28) dX12_ordered_28 (v := (-1 : Int32)) (by decide) ?_
    exact j_iret C rfl h dX12_ordered_29 (by decide)
  · replace h := (X_if h).2 hc
    refine j_iload_n C0 (pc := 9) dX12_ordered_9 rfl ?_
    refine j_aload_n C0 (pc := 10) dX12_ordered_10 rfl ?_
    refine X_gN C0 (pc := 11) f_OM_108_10 rfl dX12_ordered_11 h (fun v1 h => ?_)
    refine j_iconst C0 (pc := 14) dX12_ordered_14 (v := (1 : Int32)) (by decide) ?_
    refine X_iald C0 (pc := 15) dX12_ordered_15 h (fun v2 h => ?_)
    refine j_icmp_ge C0 (pc := 16) (tgt := 28) dX12_ordered_16 (by decide) (fun hc => ?_) (fun hc => ?_)
    · replace h := (X_if h).1 hc
      refine j_iconst C0 (pc := 28) dX12_ordered_28 (v := (-1 : Int32)) (by decide) ?_
      exact j_iret C rfl h dX12_ordered_29 (by decide)
    · replace h := (X_if h).2 hc
      refine j_iload_n C0 (pc := 19) dX12_ordered_19 rfl ?_
      refine j_iconst C0 (pc := 20) dX12_ordered_20 (v := (0 : Int32)) (by decide) ?_
      refine j_iconst C0 (pc := 21) dX12_ordered_21 (v := (3 : Int32)) (by decide) ?_
      refine X_cS C0 (pc := 22) (e' := e_I) (as := [.int a2, .int (0 : Int32), .int (3 : Int32)]) (rest := []) (s' := fun w => .int w :: []) (g' := (0, 0)) s_OM_279 (fun Ψ hΨ => K_X12_within a2 (0 : Int32) (3 : Int32) M1 Ψ hΨ) rfl rfl (fun _ => rfl) (by decide) (by decide) rfl (Nat.le_of_ble_eq_true rfl) dX12_ordered_22 h (fun v3 M2 h => ?_)
      refine j_if_ne C0 (pc := 25) (tgt := 30) dX12_ordered_25 (by decide) (fun hc => ?_) (fun hc => ?_)
      · replace h := (X_if h).2 hc
        refine j_bipush C0 (pc := 30) dX12_ordered_30 (v := (16 : Int32)) (by decide) ?_
        refine j_iload_n C0 (pc := 32) dX12_ordered_32 rfl ?_
        refine j_imul C0 (pc := 33) dX12_ordered_33 ?_
        refine X_let (G := fun w => j_J X 8 34 [some (.ref a0), some (.int a1), some (.int a2), none, none, none, none, none] (.int w :: []) (0, 0) M2) h (fun v4 h => ?_)
        refine j_istore_n C0 (pc := 34) dX12_ordered_34 (Nat.le_of_ble_eq_true rfl) ?_
        show j_J X 8 35 [some (.ref a0), some (.int a1), some (.int a2), some (.int v4), none, none, none, none] [] (0, 0) M2
        refine j_iload_n C0 (pc := 35) dX12_ordered_35 rfl ?_
        refine j_iconst C0 (pc := 36) dX12_ordered_36 (v := (2 : Int32)) (by decide) ?_
        refine j_icmp_ge C0 (pc := 37) (tgt := 63) dX12_ordered_37 (by decide) (fun hc => ?_) (fun hc => ?_)
        · replace h := (X_if h).1 hc
          refine j_iconst C0 (pc := 63) dX12_ordered_63 (v := (0 : Int32)) (by decide) ?_
          refine j_istore C0 (pc := 64) dX12_ordered_64 (Nat.le_of_ble_eq_true rfl) ?_
          show j_J X 8 66 [some (.ref a0), some (.int a1), some (.int a2), some (.int v4), some (.int (0 : Int32)), none, none, none] [] (0, 0) M2
          refine j_iconst C0 (pc := 66) dX12_ordered_66 (v := (-1 : Int32)) (by decide) ?_
          refine j_istore C0 (pc := 67) dX12_ordered_67 (Nat.le_of_ble_eq_true rfl) ?_
          show j_J X 8 69 [some (.ref a0), some (.int a1), some (.int a2), some (.int v4), some (.int (0 : Int32)), some (.int (-1 : Int32)), none, none] [] (0, 0) M2
          refine j_iconst C0 (pc := 69) dX12_ordered_69 (v := (0 : Int32)) (by decide) ?_
          refine j_istore C0 (pc := 70) dX12_ordered_70 (Nat.le_of_ble_eq_true rfl) ?_
          show j_J X 8 72 [some (.ref a0), some (.int a1), some (.int a2), some (.int v4), some (.int (0 : Int32)), some (.int (-1 : Int32)), some (.int (0 : Int32)), none] [] (0, 0) M2
          refine X_join (fun (kj : Int32 → Int32 → Int32 → m_M → Option (Int32 × m_M)) => ∀ (p0 : Int32) (p1 : Int32) (p2 : Int32) (M : m_M), m_ok e_I Φ (kj p0 p1 p2 M) → j_J X 8 169 [none, none, some (.int p0), none, some (.int p1), some (.int p2), none, none] [] (0, 0) M) h (fun v5 v6 v7 M3 h => ?_) (fun k169 hk169 h => ?_)
          · refine j_iload_n C0 (pc := 169) dX12_ordered_169 rfl ?_
            refine j_iconst C0 (pc := 170) dX12_ordered_170 (v := (2 : Int32)) (by decide) ?_
            refine j_icmp_ne C0 (pc := 171) (tgt := 179) dX12_ordered_171 (by decide) (fun hc => ?_) (fun hc => ?_)
            · replace h := (X_if h).2 hc
              refine j_iload C0 (pc := 179) dX12_ordered_179 rfl ?_
              exact j_iret C rfl h dX12_ordered_181 (by decide)
            · replace h := (X_if h).1 hc
              refine j_iload C0 (pc := 174) dX12_ordered_174 rfl ?_
              refine j_goto C0 (pc := 176) (tgt := 181) dX12_ordered_176 (by decide) ?_
              exact j_iret C rfl h dX12_ordered_181 (by decide)
          · exact j_J.wq (L_X12_ordered_72 C hk169 m_FU a0 a2 v4 (0 : Int32) (-1 : Int32) (0 : Int32) M2 h) (And.intro rfl (And.intro rfl (And.intro rfl (And.intro rfl (And.intro rfl (And.intro rfl (trivial)))))))
        · replace h := (X_if h).2 hc
          refine j_iload_n C0 (pc := 40) dX12_ordered_40 rfl ?_
          refine j_if_ne C0 (pc := 41) (tgt := 53) dX12_ordered_41 (by decide) (fun hc => ?_) (fun hc => ?_)
          · replace h := (X_if h).2 hc
            refine j_aload_n C0 (pc := 53) dX12_ordered_53 rfl ?_
            refine j_aload_n C0 (pc := 54) dX12_ordered_54 rfl ?_
            refine X_gN C0 (pc := 55) f_OM_99_10 rfl dX12_ordered_55 h (fun v8 h => ?_)
            refine j_iload_n C0 (pc := 58) dX12_ordered_58 rfl ?_
            refine X_cV C0 (pc := 59) (e' := e_I) (as := [.ref v8, .int v4]) (rest := []) (s' := fun w => .int w :: []) (g' := (0, 0)) v_OM_455_10 (fun Ψ hΨ => K_X12_countOf a0 v8 v4 M2 Ψ hΨ) rfl rfl (fun _ => rfl) (by decide) (by decide) rfl (Nat.le_of_ble_eq_true rfl) dX12_ordered_59 h (fun v9 M4 h => ?_)
            exact j_iret C rfl h dX12_ordered_62 (by decide)
          · replace h := (X_if h).1 hc
            refine j_aload_n C0 (pc := 44) dX12_ordered_44 rfl ?_
            refine X_gN C0 (pc := 45) f_OM_105_10 rfl dX12_ordered_45 h (fun v10 h => ?_)
            refine j_iload_n C0 (pc := 48) dX12_ordered_48 rfl ?_
            refine X_iald C0 (pc := 49) dX12_ordered_49 h (fun v11 h => ?_)
            refine j_goto C0 (pc := 50) (tgt := 62) dX12_ordered_50 (by decide) ?_
            exact j_iret C rfl h dX12_ordered_62 (by decide)
      · replace h := (X_if h).1 hc
        refine j_iconst C0 (pc := 28) dX12_ordered_28 (v := (-1 : Int32)) (by decide) ?_
        exact j_iret C rfl h dX12_ordered_29 (by decide)
theorem dX12_rests_0 : decode cX12_rests 0 = .ok (.aload_n 0, 1) := by decide +kernel
theorem dX12_rests_1 : decode cX12_rests 1 = .ok (.iconst 0, 1) := by decide +kernel
theorem dX12_rests_2 : decode cX12_rests 2 = .ok (.putfield 163, 3) := by decide +kernel
theorem dX12_rests_5 : decode cX12_rests 5 = .ok (.iload_n 1, 1) := by decide +kernel
theorem dX12_rests_6 : decode cX12_rests 6 = .ok (.iconst (-1), 1) := by decide +kernel
theorem dX12_rests_7 : decode cX12_rests 7 = .ok (.if_icmp .lt 12, 3) := by decide +kernel
theorem dX12_rests_10 : decode cX12_rests 10 = .ok (.aload_n 0, 1) := by decide +kernel
theorem dX12_rests_11 : decode cX12_rests 11 = .ok (.getfield 13, 3) := by decide +kernel
theorem dX12_rests_14 : decode cX12_rests 14 = .ok (.iconst 4, 1) := by decide +kernel
theorem dX12_rests_15 : decode cX12_rests 15 = .ok (.iaload, 1) := by decide +kernel
theorem dX12_rests_16 : decode cX12_rests 16 = .ok (.ifCond .ne 5, 3) := by decide +kernel
theorem dX12_rests_19 : decode cX12_rests 19 = .ok (.iconst (-1), 1) := by decide +kernel
theorem dX12_rests_20 : decode cX12_rests 20 = .ok (.ireturn, 1) := by decide +kernel
theorem dX12_rests_21 : decode cX12_rests 21 = .ok (.iconst 0, 1) := by decide +kernel
theorem dX12_rests_22 : decode cX12_rests 22 = .ok (.istore_n 2, 1) := by decide +kernel
theorem dX12_rests_23 : decode cX12_rests 23 = .ok (.iconst 0, 1) := by decide +kernel
theorem dX12_rests_24 : decode cX12_rests 24 = .ok (.istore_n 3, 1) := by decide +kernel
theorem dX12_rests_25 : decode cX12_rests 25 = .ok (.iload_n 3, 1) := by decide +kernel
theorem dX12_rests_26 : decode cX12_rests 26 = .ok (.sipush 512, 3) := by decide +kernel
theorem dX12_rests_29 : decode cX12_rests 29 = .ok (.if_icmp .ge 37, 3) := by decide +kernel
theorem dX12_rests_32 : decode cX12_rests 32 = .ok (.aload_n 0, 1) := by decide +kernel
theorem dX12_rests_33 : decode cX12_rests 33 = .ok (.iload_n 3, 1) := by decide +kernel
theorem dX12_rests_34 : decode cX12_rests 34 = .ok (.invokevirtual 537, 3) := by decide +kernel
theorem dX12_rests_37 : decode cX12_rests 37 = .ok (.ifCond .eq 23, 3) := by decide +kernel
theorem dX12_rests_40 : decode cX12_rests 40 = .ok (.aload_n 0, 1) := by decide +kernel
theorem dX12_rests_41 : decode cX12_rests 41 = .ok (.invokevirtual 552, 3) := by decide +kernel
theorem dX12_rests_44 : decode cX12_rests 44 = .ok (.ifCond .ne 6, 3) := by decide +kernel
theorem dX12_rests_47 : decode cX12_rests 47 = .ok (.goto 13, 3) := by decide +kernel
theorem dX12_rests_50 : decode cX12_rests 50 = .ok (.iload_n 2, 1) := by decide +kernel
theorem dX12_rests_51 : decode cX12_rests 51 = .ok (.iload_n 1, 1) := by decide +kernel
theorem dX12_rests_52 : decode cX12_rests 52 = .ok (.if_icmp .ne 5, 3) := by decide +kernel
theorem dX12_rests_55 : decode cX12_rests 55 = .ok (.iload_n 3, 1) := by decide +kernel
theorem dX12_rests_56 : decode cX12_rests 56 = .ok (.ireturn, 1) := by decide +kernel
theorem dX12_rests_57 : decode cX12_rests 57 = .ok (.iinc 2 1, 3) := by decide +kernel
theorem dX12_rests_60 : decode cX12_rests 60 = .ok (.iinc 3 1, 3) := by decide +kernel
theorem dX12_rests_63 : decode cX12_rests 63 = .ok (.goto (-38), 3) := by decide +kernel
theorem dX12_rests_66 : decode cX12_rests 66 = .ok (.iload_n 1, 1) := by decide +kernel
theorem dX12_rests_67 : decode cX12_rests 67 = .ok (.iconst (-1), 1) := by decide +kernel
theorem dX12_rests_68 : decode cX12_rests 68 = .ok (.if_icmp .ne 7, 3) := by decide +kernel
theorem dX12_rests_71 : decode cX12_rests 71 = .ok (.iload_n 2, 1) := by decide +kernel
theorem dX12_rests_72 : decode cX12_rests 72 = .ok (.goto 4, 3) := by decide +kernel
theorem dX12_rests_75 : decode cX12_rests 75 = .ok (.iconst (-1), 1) := by decide +kernel
theorem dX12_rests_76 : decode cX12_rests 76 = .ok (.ireturn, 1) := by decide +kernel
noncomputable def F_X12_rests_25 (k66 : Int32 → Int32 → m_M → Option (Int32 × m_M)) : Nat → Nat → Int32 → Int32 → Int32 → m_M → Option (Int32 × m_M)
  | 0, _, _, _, _, _ => none
  | n + 1, v1, v2, v3, v4, M =>
    if (512 : Int32) ≤ v4 then (
      k66 v2 v3 M
    ) else
    m_let (fun (v5 : Nat) (v6 : Int32) (v7 : Int32) (v8 : Int32) (M1 : m_M) =>
      m_let (v8 + (1 : Int32)) fun v9 =>
      F_X12_rests_25 k66 n v5 v6 v7 v9 M1
    ) fun (k60 : Nat → Int32 → Int32 → Int32 → m_M → Option (Int32 × m_M)) =>
    x_cV 10 M v1 (F_X12_areRung v1 v4 M) fun v10 M2 =>
    if v10 = 0 then (
      k60 v1 v2 v3 v4 M2
    ) else
    x_cV 10 M2 v1 (F_X12_isRest v1 M2) fun v11 M3 =>
    if v11 = 0 then (
      k60 v1 v2 v3 v4 M3
    ) else
    if v3 = v2 then (
      some (v4, M3)
    ) else
    m_let (v3 + (1 : Int32)) fun v12 =>
    k60 v1 v2 v12 v4 M3
noncomputable def F_X12_rests (a0 : Nat) (a1 : Int32) (M : m_M) : Option (Int32 × m_M) :=
  x_pI 10 M a0 0 (0 : Int32) fun M1 =>
  if a1 < (-1 : Int32) then (
    some ((-1 : Int32), M1)
  ) else
  x_gN 10 M1 a0 10 fun v1 =>
  x_aI 12 M1 v1 (4 : Int32) fun v2 =>
  if v2 = 0 then (
    some ((-1 : Int32), M1)
  ) else
  m_let (fun (v3 : Int32) (v4 : Int32) (M2 : m_M) =>
    if v3 = (-1 : Int32) then (
      some (v4, M2)
    ) else
    some ((-1 : Int32), M2)
  ) fun (k66 : Int32 → Int32 → m_M → Option (Int32 × m_M)) =>
  F_X12_rests_25 k66 m_FU a0 a1 (0 : Int32) (0 : Int32) M1
set_option maxHeartbeats 4000000 in
theorem L_X12_rests_25 {X : j_X} {Φ : Option Value → m_M → Prop} (C : j_C X yX12_rests cX12_rests 4 (some .int) 5 0 0 Φ) {k66 : Int32 → Int32 → m_M → Option (Int32 × m_M)} (hk66 : ∀ (p0 : Int32) (p1 : Int32) (M : m_M), m_ok e_I Φ (k66 p0 p1 M) → j_J X 4 66 [none, some (.int p0), some (.int p1), none] [] (0, 0) M) : ∀ (n : Nat) (v1 : Nat) (v2 : Int32) (v3 : Int32) (v4 : Int32) (M : m_M), m_ok e_I Φ (F_X12_rests_25 k66 n v1 v2 v3 v4 M) → j_J X 4 25 [some (.ref v1), some (.int v2), some (.int v3), some (.int v4)] [] (0, 0) M := by
  have C0 := C.1
  intro n
  induction n with
  | zero => intro v1 v2 v3 v4 M h; exact False.elim h
  | succ n ih =>
    intro v1 v2 v3 v4 M h
    rw [F_X12_rests_25] at h
    refine j_iload_n C0 (pc := 25) dX12_rests_25 rfl ?_
    refine j_sipush C0 (pc := 26) dX12_rests_26 (v := (512 : Int32)) (by decide) ?_
    refine j_icmp_ge C0 (pc := 29) (tgt := 66) dX12_rests_29 (by decide) (fun hc => ?_) (fun hc => ?_)
    · replace h := (X_if h).1 hc
      exact j_J.wq (hk66 v2 v3 M h) (And.intro rfl (And.intro rfl (trivial)))
    · replace h := (X_if h).2 hc
      refine X_join (fun (kj : Nat → Int32 → Int32 → Int32 → m_M → Option (Int32 × m_M)) => ∀ (p0 : Nat) (p1 : Int32) (p2 : Int32) (p3 : Int32) (M : m_M), m_ok e_I Φ (kj p0 p1 p2 p3 M) → j_J X 4 60 [some (.ref p0), some (.int p1), some (.int p2), some (.int p3)] [] (0, 0) M) h (fun v5 v6 v7 v8 M1 h => ?_) (fun k60 hk60 h => ?_)
      · refine j_iinc C0 (pc := 60) dX12_rests_60 (v := v8 + (1 : Int32)) rfl (Nat.le_of_ble_eq_true rfl) (by rfl) ?_
        refine X_let (G := fun w => j_J X 4 63 [some (.ref v5), some (.int v6), some (.int v7), some (.int w)] [] (0, 0) M1) h (fun v9 h => ?_)
        refine j_goto C0 (pc := 63) (tgt := 25) dX12_rests_63 (by decide) ?_
        exact j_J.wq (ih v5 v6 v7 v9 M1 h) (And.intro rfl (And.intro rfl (And.intro rfl (And.intro rfl (trivial)))))
      · refine j_aload_n C0 (pc := 32) dX12_rests_32 rfl ?_
        refine j_iload_n C0 (pc := 33) dX12_rests_33 rfl ?_
        refine X_cV C0 (pc := 34) (e' := e_I) (as := [.int v4]) (rest := []) (s' := fun w => .int w :: []) (g' := (0, 0)) v_OM_537_10 (fun Ψ hΨ => K_X12_areRung v1 v4 M Ψ hΨ) rfl rfl (fun _ => rfl) (by decide) (by decide) rfl (Nat.le_of_ble_eq_true rfl) dX12_rests_34 h (fun v10 M2 h => ?_)
        refine j_if_eq C0 (pc := 37) (tgt := 60) dX12_rests_37 (by decide) (fun hc => ?_) (fun hc => ?_)
        · replace h := (X_if h).1 hc
          exact j_J.wq (hk60 v1 v2 v3 v4 M2 h) (And.intro rfl (And.intro rfl (And.intro rfl (And.intro rfl (trivial)))))
        · replace h := (X_if h).2 hc
          refine j_aload_n C0 (pc := 40) dX12_rests_40 rfl ?_
          refine X_cV C0 (pc := 41) (e' := e_I) (as := []) (rest := []) (s' := fun w => .int w :: []) (g' := (0, 0)) v_OM_552_10 (fun Ψ hΨ => K_X12_isRest v1 M2 Ψ hΨ) rfl rfl (fun _ => rfl) (by decide) (by decide) rfl (Nat.le_of_ble_eq_true rfl) dX12_rests_41 h (fun v11 M3 h => ?_)
          refine j_if_ne C0 (pc := 44) (tgt := 50) dX12_rests_44 (by decide) (fun hc => ?_) (fun hc => ?_)
          · replace h := (X_if h).2 hc
            refine j_iload_n C0 (pc := 50) dX12_rests_50 rfl ?_
            refine j_iload_n C0 (pc := 51) dX12_rests_51 rfl ?_
            refine j_icmp_ne C0 (pc := 52) (tgt := 57) dX12_rests_52 (by decide) (fun hc => ?_) (fun hc => ?_)
            · replace h := (X_if h).2 hc
              refine j_iinc C0 (pc := 57) dX12_rests_57 (v := v3 + (1 : Int32)) rfl (Nat.le_of_ble_eq_true rfl) (by rfl) ?_
              refine X_let (G := fun w => j_J X 4 60 [some (.ref v1), some (.int v2), some (.int w), some (.int v4)] [] (0, 0) M3) h (fun v12 h => ?_)
              exact j_J.wq (hk60 v1 v2 v12 v4 M3 h) (And.intro rfl (And.intro rfl (And.intro rfl (And.intro rfl (trivial)))))
            · replace h := (X_if h).1 hc
              refine j_iload_n C0 (pc := 55) dX12_rests_55 rfl ?_
              exact j_iret C rfl h dX12_rests_56 (by decide)
          · replace h := (X_if h).1 hc
            refine j_goto C0 (pc := 47) (tgt := 60) dX12_rests_47 (by decide) ?_
            exact j_J.wq (hk60 v1 v2 v3 v4 M3 h) (And.intro rfl (And.intro rfl (And.intro rfl (And.intro rfl (trivial)))))
set_option maxHeartbeats 4000000 in
theorem K_X12_rests (a0 : Nat) (a1 : Int32) (M : m_M) (Φ : Option Value → m_M → Prop) (h : m_ok e_I Φ (F_X12_rests a0 a1 M)) : j_Ct yX12_rests cX12_rests 4 (some .int) 5 0 0 [.ref a0, .int a1] M Φ := by
  refine j_Ct.of (by decide +kernel) (Nat.le_of_ble_eq_true rfl) fun X C => ?_
  have C0 := C.1
  show j_J X 4 0 [some (.ref a0), some (.int a1), none, none] [] (0, 0) M
  unfold F_X12_rests at h
  refine j_aload_n C0 (pc := 0) dX12_rests_0 rfl ?_
  refine j_iconst C0 (pc := 1) dX12_rests_1 (v := (0 : Int32)) (by decide) ?_
  refine X_pI C0 (pc := 2) f_OM_163_10 rfl rfl dX12_rests_2 h (fun M1 h => ?_)
  refine j_iload_n C0 (pc := 5) dX12_rests_5 rfl ?_
  refine j_iconst C0 (pc := 6) dX12_rests_6 (v := (-1 : Int32)) (by decide) ?_
  refine j_icmp_lt C0 (pc := 7) (tgt := 19) dX12_rests_7 (by decide) (fun hc => ?_) (fun hc => ?_)
  · replace h := (X_if h).1 hc
    refine j_iconst C0 (pc := 19) dX12_rests_19 (v := (-1 : Int32)) (by decide) ?_
    exact j_iret C rfl h dX12_rests_20 (by decide)
  · replace h := (X_if h).2 hc
    refine j_aload_n C0 (pc := 10) dX12_rests_10 rfl ?_
    refine X_gN C0 (pc := 11) f_OM_13_10 rfl dX12_rests_11 h (fun v1 h => ?_)
    refine j_iconst C0 (pc := 14) dX12_rests_14 (v := (4 : Int32)) (by decide) ?_
    refine X_iald C0 (pc := 15) dX12_rests_15 h (fun v2 h => ?_)
    refine j_if_ne C0 (pc := 16) (tgt := 21) dX12_rests_16 (by decide) (fun hc => ?_) (fun hc => ?_)
    · replace h := (X_if h).2 hc
      refine j_iconst C0 (pc := 21) dX12_rests_21 (v := (0 : Int32)) (by decide) ?_
      refine j_istore_n C0 (pc := 22) dX12_rests_22 (Nat.le_of_ble_eq_true rfl) ?_
      show j_J X 4 23 [some (.ref a0), some (.int a1), some (.int (0 : Int32)), none] [] (0, 0) M1
      refine j_iconst C0 (pc := 23) dX12_rests_23 (v := (0 : Int32)) (by decide) ?_
      refine j_istore_n C0 (pc := 24) dX12_rests_24 (Nat.le_of_ble_eq_true rfl) ?_
      show j_J X 4 25 [some (.ref a0), some (.int a1), some (.int (0 : Int32)), some (.int (0 : Int32))] [] (0, 0) M1
      refine X_join (fun (kj : Int32 → Int32 → m_M → Option (Int32 × m_M)) => ∀ (p0 : Int32) (p1 : Int32) (M : m_M), m_ok e_I Φ (kj p0 p1 M) → j_J X 4 66 [none, some (.int p0), some (.int p1), none] [] (0, 0) M) h (fun v3 v4 M2 h => ?_) (fun k66 hk66 h => ?_)
      · refine j_iload_n C0 (pc := 66) dX12_rests_66 rfl ?_
        refine j_iconst C0 (pc := 67) dX12_rests_67 (v := (-1 : Int32)) (by decide) ?_
        refine j_icmp_ne C0 (pc := 68) (tgt := 75) dX12_rests_68 (by decide) (fun hc => ?_) (fun hc => ?_)
        · replace h := (X_if h).2 hc
          refine j_iconst C0 (pc := 75) dX12_rests_75 (v := (-1 : Int32)) (by decide) ?_
          exact j_iret C rfl h dX12_rests_76 (by decide)
        · replace h := (X_if h).1 hc
          refine j_iload_n C0 (pc := 71) dX12_rests_71 rfl ?_
          refine j_goto C0 (pc := 72) (tgt := 76) dX12_rests_72 (by decide) ?_
          exact j_iret C rfl h dX12_rests_76 (by decide)
      · exact j_J.wq (L_X12_rests_25 C hk66 m_FU a0 a1 (0 : Int32) (0 : Int32) M1 h) (And.intro rfl (And.intro rfl (And.intro rfl (And.intro rfl (trivial)))))
    · replace h := (X_if h).1 hc
      refine j_iconst C0 (pc := 19) dX12_rests_19 (v := (-1 : Int32)) (by decide) ?_
      exact j_iret C rfl h dX12_rests_20 (by decide)
theorem dX12_riddle_0 : decode cX12_riddle 0 = .ok (.aload_n 0, 1) := by decide +kernel
theorem dX12_riddle_1 : decode cX12_riddle 1 = .ok (.iconst 0, 1) := by decide +kernel
theorem dX12_riddle_2 : decode cX12_riddle 2 = .ok (.putfield 163, 3) := by decide +kernel
theorem dX12_riddle_5 : decode cX12_riddle 5 = .ok (.aload_n 0, 1) := by decide +kernel
theorem dX12_riddle_6 : decode cX12_riddle 6 = .ok (.getfield 114, 3) := by decide +kernel
theorem dX12_riddle_9 : decode cX12_riddle 9 = .ok (.iconst 0, 1) := by decide +kernel
theorem dX12_riddle_10 : decode cX12_riddle 10 = .ok (.baload, 1) := by decide +kernel
theorem dX12_riddle_11 : decode cX12_riddle 11 = .ok (.ifCond .eq 26, 3) := by decide +kernel
theorem dX12_riddle_14 : decode cX12_riddle 14 = .ok (.iload_n 1, 1) := by decide +kernel
theorem dX12_riddle_15 : decode cX12_riddle 15 = .ok (.iconst 0, 1) := by decide +kernel
theorem dX12_riddle_16 : decode cX12_riddle 16 = .ok (.bipush 6, 2) := by decide +kernel
theorem dX12_riddle_18 : decode cX12_riddle 18 = .ok (.invokestatic 279, 3) := by decide +kernel
theorem dX12_riddle_21 : decode cX12_riddle 21 = .ok (.ifCond .eq 16, 3) := by decide +kernel
theorem dX12_riddle_24 : decode cX12_riddle 24 = .ok (.aload_n 0, 1) := by decide +kernel
theorem dX12_riddle_25 : decode cX12_riddle 25 = .ok (.aload_n 0, 1) := by decide +kernel
theorem dX12_riddle_26 : decode cX12_riddle 26 = .ok (.getfield 433, 3) := by decide +kernel
theorem dX12_riddle_29 : decode cX12_riddle 29 = .ok (.iload_n 1, 1) := by decide +kernel
theorem dX12_riddle_30 : decode cX12_riddle 30 = .ok (.iadd, 1) := by decide +kernel
theorem dX12_riddle_31 : decode cX12_riddle 31 = .ok (.invokevirtual 436, 3) := by decide +kernel
theorem dX12_riddle_34 : decode cX12_riddle 34 = .ok (.ifCond .ge 5, 3) := by decide +kernel
theorem dX12_riddle_37 : decode cX12_riddle 37 = .ok (.iconst (-1), 1) := by decide +kernel
theorem dX12_riddle_38 : decode cX12_riddle 38 = .ok (.ireturn, 1) := by decide +kernel
theorem dX12_riddle_39 : decode cX12_riddle 39 = .ok (.aload_n 0, 1) := by decide +kernel
theorem dX12_riddle_40 : decode cX12_riddle 40 = .ok (.aload_n 0, 1) := by decide +kernel
theorem dX12_riddle_41 : decode cX12_riddle 41 = .ok (.getfield 433, 3) := by decide +kernel
theorem dX12_riddle_44 : decode cX12_riddle 44 = .ok (.invokevirtual 436, 3) := by decide +kernel
theorem dX12_riddle_47 : decode cX12_riddle 47 = .ok (.invokestatic 481, 3) := by decide +kernel
theorem dX12_riddle_50 : decode cX12_riddle 50 = .ok (.istore_n 2, 1) := by decide +kernel
theorem dX12_riddle_51 : decode cX12_riddle 51 = .ok (.iconst 0, 1) := by decide +kernel
theorem dX12_riddle_52 : decode cX12_riddle 52 = .ok (.istore_n 3, 1) := by decide +kernel
theorem dX12_riddle_53 : decode cX12_riddle 53 = .ok (.iload_n 3, 1) := by decide +kernel
theorem dX12_riddle_54 : decode cX12_riddle 54 = .ok (.sipush 400, 3) := by decide +kernel
theorem dX12_riddle_57 : decode cX12_riddle 57 = .ok (.if_icmp .ge 117, 3) := by decide +kernel
theorem dX12_riddle_60 : decode cX12_riddle 60 = .ok (.aload_n 0, 1) := by decide +kernel
theorem dX12_riddle_61 : decode cX12_riddle 61 = .ok (.iload_n 3, 1) := by decide +kernel
theorem dX12_riddle_62 : decode cX12_riddle 62 = .ok (.invokevirtual 475, 3) := by decide +kernel
theorem dX12_riddle_65 : decode cX12_riddle 65 = .ok (.ifCond .eq 103, 3) := by decide +kernel
theorem dX12_riddle_68 : decode cX12_riddle 68 = .ok (.aload_n 0, 1) := by decide +kernel
theorem dX12_riddle_69 : decode cX12_riddle 69 = .ok (.iload_n 3, 1) := by decide +kernel
theorem dX12_riddle_70 : decode cX12_riddle 70 = .ok (.aload_n 0, 1) := by decide +kernel
theorem dX12_riddle_71 : decode cX12_riddle 71 = .ok (.aload_n 0, 1) := by decide +kernel
theorem dX12_riddle_72 : decode cX12_riddle 72 = .ok (.getfield 433, 3) := by decide +kernel
theorem dX12_riddle_75 : decode cX12_riddle 75 = .ok (.iload_n 1, 1) := by decide +kernel
theorem dX12_riddle_76 : decode cX12_riddle 76 = .ok (.iadd, 1) := by decide +kernel
theorem dX12_riddle_77 : decode cX12_riddle 77 = .ok (.invokevirtual 436, 3) := by decide +kernel
theorem dX12_riddle_80 : decode cX12_riddle 80 = .ok (.iload_n 2, 1) := by decide +kernel
theorem dX12_riddle_81 : decode cX12_riddle 81 = .ok (.invokevirtual 534, 3) := by decide +kernel
theorem dX12_riddle_84 : decode cX12_riddle 84 = .ok (.ifCond .ne 6, 3) := by decide +kernel
theorem dX12_riddle_87 : decode cX12_riddle 87 = .ok (.goto 81, 3) := by decide +kernel
theorem dX12_riddle_90 : decode cX12_riddle 90 = .ok (.iconst 1, 1) := by decide +kernel
theorem dX12_riddle_91 : decode cX12_riddle 91 = .ok (.istore 4, 2) := by decide +kernel
theorem dX12_riddle_93 : decode cX12_riddle 93 = .ok (.iconst 0, 1) := by decide +kernel
theorem dX12_riddle_94 : decode cX12_riddle 94 = .ok (.istore 5, 2) := by decide +kernel
theorem dX12_riddle_96 : decode cX12_riddle 96 = .ok (.iload 5, 2) := by decide +kernel
theorem dX12_riddle_98 : decode cX12_riddle 98 = .ok (.bipush 7, 2) := by decide +kernel
theorem dX12_riddle_100 : decode cX12_riddle 100 = .ok (.if_icmp .ge 61, 3) := by decide +kernel
theorem dX12_riddle_103 : decode cX12_riddle 103 = .ok (.iload 4, 2) := by decide +kernel
theorem dX12_riddle_105 : decode cX12_riddle 105 = .ok (.ifCond .eq 56, 3) := by decide +kernel
theorem dX12_riddle_108 : decode cX12_riddle 108 = .ok (.iload 5, 2) := by decide +kernel
theorem dX12_riddle_110 : decode cX12_riddle 110 = .ok (.iload_n 1, 1) := by decide +kernel
theorem dX12_riddle_111 : decode cX12_riddle 111 = .ok (.if_icmp .eq 37, 3) := by decide +kernel
theorem dX12_riddle_114 : decode cX12_riddle 114 = .ok (.aload_n 0, 1) := by decide +kernel
theorem dX12_riddle_115 : decode cX12_riddle 115 = .ok (.aload_n 0, 1) := by decide +kernel
theorem dX12_riddle_116 : decode cX12_riddle 116 = .ok (.getfield 433, 3) := by decide +kernel
theorem dX12_riddle_119 : decode cX12_riddle 119 = .ok (.iload 5, 2) := by decide +kernel
theorem dX12_riddle_121 : decode cX12_riddle 121 = .ok (.iadd, 1) := by decide +kernel
theorem dX12_riddle_122 : decode cX12_riddle 122 = .ok (.invokevirtual 436, 3) := by decide +kernel
theorem dX12_riddle_125 : decode cX12_riddle 125 = .ok (.ifCond .lt 23, 3) := by decide +kernel
theorem dX12_riddle_128 : decode cX12_riddle 128 = .ok (.aload_n 0, 1) := by decide +kernel
theorem dX12_riddle_129 : decode cX12_riddle 129 = .ok (.iload_n 3, 1) := by decide +kernel
theorem dX12_riddle_130 : decode cX12_riddle 130 = .ok (.aload_n 0, 1) := by decide +kernel
theorem dX12_riddle_131 : decode cX12_riddle 131 = .ok (.aload_n 0, 1) := by decide +kernel
theorem dX12_riddle_132 : decode cX12_riddle 132 = .ok (.getfield 433, 3) := by decide +kernel
theorem dX12_riddle_135 : decode cX12_riddle 135 = .ok (.iload 5, 2) := by decide +kernel
theorem dX12_riddle_137 : decode cX12_riddle 137 = .ok (.iadd, 1) := by decide +kernel
theorem dX12_riddle_138 : decode cX12_riddle 138 = .ok (.invokevirtual 436, 3) := by decide +kernel
theorem dX12_riddle_141 : decode cX12_riddle 141 = .ok (.iload_n 2, 1) := by decide +kernel
theorem dX12_riddle_142 : decode cX12_riddle 142 = .ok (.invokevirtual 534, 3) := by decide +kernel
theorem dX12_riddle_145 : decode cX12_riddle 145 = .ok (.ifCond .ne 7, 3) := by decide +kernel
theorem dX12_riddle_148 : decode cX12_riddle 148 = .ok (.iconst 1, 1) := by decide +kernel
theorem dX12_riddle_149 : decode cX12_riddle 149 = .ok (.goto 4, 3) := by decide +kernel
theorem dX12_riddle_152 : decode cX12_riddle 152 = .ok (.iconst 0, 1) := by decide +kernel
theorem dX12_riddle_153 : decode cX12_riddle 153 = .ok (.istore 4, 2) := by decide +kernel
theorem dX12_riddle_155 : decode cX12_riddle 155 = .ok (.iinc 5 1, 3) := by decide +kernel
theorem dX12_riddle_158 : decode cX12_riddle 158 = .ok (.goto (-62), 3) := by decide +kernel
theorem dX12_riddle_161 : decode cX12_riddle 161 = .ok (.iload 4, 2) := by decide +kernel
theorem dX12_riddle_163 : decode cX12_riddle 163 = .ok (.ifCond .eq 5, 3) := by decide +kernel
theorem dX12_riddle_166 : decode cX12_riddle 166 = .ok (.iload_n 3, 1) := by decide +kernel
theorem dX12_riddle_167 : decode cX12_riddle 167 = .ok (.ireturn, 1) := by decide +kernel
theorem dX12_riddle_168 : decode cX12_riddle 168 = .ok (.iinc 3 1, 3) := by decide +kernel
theorem dX12_riddle_171 : decode cX12_riddle 171 = .ok (.goto (-118), 3) := by decide +kernel
theorem dX12_riddle_174 : decode cX12_riddle 174 = .ok (.iconst (-1), 1) := by decide +kernel
theorem dX12_riddle_175 : decode cX12_riddle 175 = .ok (.ireturn, 1) := by decide +kernel
noncomputable def F_X12_riddle_96 (k161 : Nat → Int32 → Int32 → Int32 → Int32 → m_M → Option (Int32 × m_M)) : Nat → Nat → Int32 → Int32 → Int32 → Int32 → Int32 → m_M → Option (Int32 × m_M)
  | 0, _, _, _, _, _, _, _ => none
  | n + 1, v1, v2, v3, v4, v5, v6, M =>
    if (7 : Int32) ≤ v6 then (
      k161 v1 v2 v3 v4 v5 M
    ) else
    if v5 = 0 then (
      k161 v1 v2 v3 v4 v5 M
    ) else
    m_let (fun (v7 : Nat) (v8 : Int32) (v9 : Int32) (v10 : Int32) (v11 : Int32) (v12 : Int32) (M1 : m_M) =>
      m_let (v11 + (1 : Int32)) fun v13 =>
      F_X12_riddle_96 k161 n v7 v8 v9 v10 v12 v13 M1
    ) fun (k153 : Nat → Int32 → Int32 → Int32 → Int32 → Int32 → m_M → Option (Int32 × m_M)) =>
    m_let (fun (v14 : Nat) (v15 : Int32) (v16 : Int32) (v17 : Int32) (v18 : Int32) (M2 : m_M) =>
      k153 v14 v15 v16 v17 v18 (1 : Int32) M2
    ) fun (k148 : Nat → Int32 → Int32 → Int32 → Int32 → m_M → Option (Int32 × m_M)) =>
    if v6 = v2 then (
      k148 v1 v2 v3 v4 v6 M
    ) else
    x_gI 10 M v1 53 fun v19 =>
    x_cV 10 M v1 (F_X12_verbOf v1 (v19 + v6) M) fun v20 M3 =>
    if v20 < 0 then (
      k148 v1 v2 v3 v4 v6 M3
    ) else
    x_gI 10 M3 v1 53 fun v21 =>
    x_cV 10 M3 v1 (F_X12_verbOf v1 (v21 + v6) M3) fun v22 M4 =>
    x_cV 10 M4 v1 (F_X12_isAsAsked v1 v4 v22 v3 M4) fun v23 M5 =>
    if v23 = 0 then (
      k148 v1 v2 v3 v4 v6 M5
    ) else
    k153 v1 v2 v3 v4 v6 (0 : Int32) M5
noncomputable def F_X12_riddle_53 : Nat → Nat → Int32 → Int32 → Int32 → m_M → Option (Int32 × m_M)
  | 0, _, _, _, _, _ => none
  | n + 1, v1, v2, v3, v4, M =>
    if (400 : Int32) ≤ v4 then (
      some ((-1 : Int32), M)
    ) else
    m_let (fun (v5 : Nat) (v6 : Int32) (v7 : Int32) (v8 : Int32) (M1 : m_M) =>
      m_let (v8 + (1 : Int32)) fun v9 =>
      F_X12_riddle_53 n v5 v6 v7 v9 M1
    ) fun (k168 : Nat → Int32 → Int32 → Int32 → m_M → Option (Int32 × m_M)) =>
    x_cV 10 M v1 (F_X12_isClause v1 v4 M) fun v10 M2 =>
    if v10 = 0 then (
      k168 v1 v2 v3 v4 M2
    ) else
    x_gI 10 M2 v1 53 fun v11 =>
    x_cV 10 M2 v1 (F_X12_verbOf v1 (v11 + v2) M2) fun v12 M3 =>
    x_cV 10 M3 v1 (F_X12_isAsAsked v1 v4 v12 v3 M3) fun v13 M4 =>
    if v13 = 0 then (
      k168 v1 v2 v3 v4 M4
    ) else
    m_let (fun (v14 : Nat) (v15 : Int32) (v16 : Int32) (v17 : Int32) (v18 : Int32) (M5 : m_M) =>
      if v18 = 0 then (
        k168 v14 v15 v16 v17 M5
      ) else
      some (v17, M5)
    ) fun (k161 : Nat → Int32 → Int32 → Int32 → Int32 → m_M → Option (Int32 × m_M)) =>
    F_X12_riddle_96 k161 m_FU v1 v2 v3 v4 (1 : Int32) (0 : Int32) M4
noncomputable def F_X12_riddle (a0 : Nat) (a1 : Int32) (M : m_M) : Option (Int32 × m_M) :=
  x_pI 10 M a0 0 (0 : Int32) fun M1 =>
  x_gN 10 M1 a0 55 fun v1 =>
  x_aI 14 M1 v1 (0 : Int32) fun v2 =>
  if v2 = 0 then (
    some ((-1 : Int32), M1)
  ) else
  x_bd (F_X12_within a1 (0 : Int32) (6 : Int32) M1) fun v3 M2 =>
  if v3 = 0 then (
    some ((-1 : Int32), M2)
  ) else
  x_gI 10 M2 a0 53 fun v4 =>
  x_cV 10 M2 a0 (F_X12_verbOf a0 (v4 + a1) M2) fun v5 M3 =>
  if 0 ≤ v5 then (
    x_gI 10 M3 a0 53 fun v6 =>
    x_cV 10 M3 a0 (F_X12_verbOf a0 v6 M3) fun v7 M4 =>
    x_bd (F_X12_askedAt v7 M4) fun v8 M5 =>
    F_X12_riddle_53 m_FU a0 a1 v8 (0 : Int32) M5
  ) else
  some ((-1 : Int32), M3)
set_option maxHeartbeats 4000000 in
theorem L_X12_riddle_96 {X : j_X} {Φ : Option Value → m_M → Prop} (C : j_C X yX12_riddle cX12_riddle 6 (some .int) 9 0 0 Φ) {k161 : Nat → Int32 → Int32 → Int32 → Int32 → m_M → Option (Int32 × m_M)} (hk161 : ∀ (p0 : Nat) (p1 : Int32) (p2 : Int32) (p3 : Int32) (p4 : Int32) (M : m_M), m_ok e_I Φ (k161 p0 p1 p2 p3 p4 M) → j_J X 6 161 [some (.ref p0), some (.int p1), some (.int p2), some (.int p3), some (.int p4), none] [] (0, 0) M) : ∀ (n : Nat) (v1 : Nat) (v2 : Int32) (v3 : Int32) (v4 : Int32) (v5 : Int32) (v6 : Int32) (M : m_M), m_ok e_I Φ (F_X12_riddle_96 k161 n v1 v2 v3 v4 v5 v6 M) → j_J X 6 96 [some (.ref v1), some (.int v2), some (.int v3), some (.int v4), some (.int v5), some (.int v6)] [] (0, 0) M := by
  have C0 := C.1
  intro n
  induction n with
  | zero => intro v1 v2 v3 v4 v5 v6 M h; exact False.elim h
  | succ n ih =>
    intro v1 v2 v3 v4 v5 v6 M h
    rw [F_X12_riddle_96] at h
    refine j_iload C0 (pc := 96) dX12_riddle_96 rfl ?_
    refine j_bipush C0 (pc := 98) dX12_riddle_98 (v := (7 : Int32)) (by decide) ?_
    refine j_icmp_ge C0 (pc := 100) (tgt := 161) dX12_riddle_100 (by decide) (fun hc => ?_) (fun hc => ?_)
    · replace h := (X_if h).1 hc
      exact j_J.wq (hk161 v1 v2 v3 v4 v5 M h) (And.intro rfl (And.intro rfl (And.intro rfl (And.intro rfl (And.intro rfl (trivial))))))
    · replace h := (X_if h).2 hc
      refine j_iload C0 (pc := 103) dX12_riddle_103 rfl ?_
      refine j_if_eq C0 (pc := 105) (tgt := 161) dX12_riddle_105 (by decide) (fun hc => ?_) (fun hc => ?_)
      · replace h := (X_if h).1 hc
        exact j_J.wq (hk161 v1 v2 v3 v4 v5 M h) (And.intro rfl (And.intro rfl (And.intro rfl (And.intro rfl (And.intro rfl (trivial))))))
      · replace h := (X_if h).2 hc
        refine X_join (fun (kj : Nat → Int32 → Int32 → Int32 → Int32 → Int32 → m_M → Option (Int32 × m_M)) => ∀ (p0 : Nat) (p1 : Int32) (p2 : Int32) (p3 : Int32) (p4 : Int32) (p5 : Int32) (M : m_M), m_ok e_I Φ (kj p0 p1 p2 p3 p4 p5 M) → j_J X 6 153 [some (.ref p0), some (.int p1), some (.int p2), some (.int p3), none, some (.int p4)] [.int p5] (0, 0) M) h (fun v7 v8 v9 v10 v11 v12 M1 h => ?_) (fun k153 hk153 h => ?_)
        · refine j_istore C0 (pc := 153) dX12_riddle_153 (Nat.le_of_ble_eq_true rfl) ?_
          show j_J X 6 155 [some (.ref v7), some (.int v8), some (.int v9), some (.int v10), some (.int v12), some (.int v11)] [] (0, 0) M1
          refine j_iinc C0 (pc := 155) dX12_riddle_155 (v := v11 + (1 : Int32)) rfl (Nat.le_of_ble_eq_true rfl) (by rfl) ?_
          refine X_let (G := fun w => j_J X 6 158 [some (.ref v7), some (.int v8), some (.int v9), some (.int v10), some (.int v12), some (.int w)] [] (0, 0) M1) h (fun v13 h => ?_)
          refine j_goto C0 (pc := 158) (tgt := 96) dX12_riddle_158 (by decide) ?_
          exact j_J.wq (ih v7 v8 v9 v10 v12 v13 M1 h) (And.intro rfl (And.intro rfl (And.intro rfl (And.intro rfl (And.intro rfl (And.intro rfl (trivial)))))))
        · refine X_join (fun (kj : Nat → Int32 → Int32 → Int32 → Int32 → m_M → Option (Int32 × m_M)) => ∀ (p0 : Nat) (p1 : Int32) (p2 : Int32) (p3 : Int32) (p4 : Int32) (M : m_M), m_ok e_I Φ (kj p0 p1 p2 p3 p4 M) → j_J X 6 148 [some (.ref p0), some (.int p1), some (.int p2), some (.int p3), none, some (.int p4)] [] (0, 0) M) h (fun v14 v15 v16 v17 v18 M2 h => ?_) (fun k148 hk148 h => ?_)
          · refine j_iconst C0 (pc := 148) dX12_riddle_148 (v := (1 : Int32)) (by decide) ?_
            refine j_goto C0 (pc := 149) (tgt := 153) dX12_riddle_149 (by decide) ?_
            exact j_J.wq (hk153 v14 v15 v16 v17 v18 (1 : Int32) M2 h) (And.intro rfl (And.intro rfl (And.intro rfl (And.intro rfl (And.intro rfl (trivial))))))
          · refine j_iload C0 (pc := 108) dX12_riddle_108 rfl ?_
            refine j_iload_n C0 (pc := 110) dX12_riddle_110 rfl ?_
            refine j_icmp_eq C0 (pc := 111) (tgt := 148) dX12_riddle_111 (by decide) (fun hc => ?_) (fun hc => ?_)
            · replace h := (X_if h).1 hc
              exact j_J.wq (hk148 v1 v2 v3 v4 v6 M h) (And.intro rfl (And.intro rfl (And.intro rfl (And.intro rfl (And.intro rfl (trivial))))))
            · replace h := (X_if h).2 hc
              refine j_aload_n C0 (pc := 114) dX12_riddle_114 rfl ?_
              refine j_aload_n C0 (pc := 115) dX12_riddle_115 rfl ?_
              refine X_gI C0 (pc := 116) f_OM_433_10 rfl dX12_riddle_116 h (fun v19 h => ?_)
              refine j_iload C0 (pc := 119) dX12_riddle_119 rfl ?_
              refine j_iadd C0 (pc := 121) dX12_riddle_121 ?_
              refine X_cV C0 (pc := 122) (e' := e_I) (as := [.int (v19 + v6)]) (rest := []) (s' := fun w => .int w :: []) (g' := (0, 0)) v_OM_436_10 (fun Ψ hΨ => K_X12_verbOf v1 (v19 + v6) M Ψ hΨ) rfl rfl (fun _ => rfl) (by decide) (by decide) rfl (Nat.le_of_ble_eq_true rfl) dX12_riddle_122 h (fun v20 M3 h => ?_)
              refine j_if_lt C0 (pc := 125) (tgt := 148) dX12_riddle_125 (by decide) (fun hc => ?_) (fun hc => ?_)
              · replace h := (X_if h).1 hc
                exact j_J.wq (hk148 v1 v2 v3 v4 v6 M3 h) (And.intro rfl (And.intro rfl (And.intro rfl (And.intro rfl (And.intro rfl (trivial))))))
              · replace h := (X_if h).2 hc
                refine j_aload_n C0 (pc := 128) dX12_riddle_128 rfl ?_
                refine j_iload_n C0 (pc := 129) dX12_riddle_129 rfl ?_
                refine j_aload_n C0 (pc := 130) dX12_riddle_130 rfl ?_
                refine j_aload_n C0 (pc := 131) dX12_riddle_131 rfl ?_
                refine X_gI C0 (pc := 132) f_OM_433_10 rfl dX12_riddle_132 h (fun v21 h => ?_)
                refine j_iload C0 (pc := 135) dX12_riddle_135 rfl ?_
                refine j_iadd C0 (pc := 137) dX12_riddle_137 ?_
                refine X_cV C0 (pc := 138) (e' := e_I) (as := [.int (v21 + v6)]) (rest := [.int v4, .ref v1]) (s' := fun w => .int w :: [.int v4, .ref v1]) (g' := (0, 0)) v_OM_436_10 (fun Ψ hΨ => K_X12_verbOf v1 (v21 + v6) M3 Ψ hΨ) rfl rfl (fun _ => rfl) (by decide) (by decide) rfl (Nat.le_of_ble_eq_true rfl) dX12_riddle_138 h (fun v22 M4 h => ?_)
                refine j_iload_n C0 (pc := 141) dX12_riddle_141 rfl ?_
                refine X_cV C0 (pc := 142) (e' := e_I) (as := [.int v4, .int v22, .int v3]) (rest := []) (s' := fun w => .int w :: []) (g' := (0, 0)) v_OM_534_10 (fun Ψ hΨ => K_X12_isAsAsked v1 v4 v22 v3 M4 Ψ hΨ) rfl rfl (fun _ => rfl) (by decide) (by decide) rfl (Nat.le_of_ble_eq_true rfl) dX12_riddle_142 h (fun v23 M5 h => ?_)
                refine j_if_ne C0 (pc := 145) (tgt := 152) dX12_riddle_145 (by decide) (fun hc => ?_) (fun hc => ?_)
                · replace h := (X_if h).2 hc
                  refine j_iconst C0 (pc := 152) dX12_riddle_152 (v := (0 : Int32)) (by decide) ?_
                  exact j_J.wq (hk153 v1 v2 v3 v4 v6 (0 : Int32) M5 h) (And.intro rfl (And.intro rfl (And.intro rfl (And.intro rfl (And.intro rfl (trivial))))))
                · replace h := (X_if h).1 hc
                  exact j_J.wq (hk148 v1 v2 v3 v4 v6 M5 h) (And.intro rfl (And.intro rfl (And.intro rfl (And.intro rfl (And.intro rfl (trivial))))))
set_option maxHeartbeats 4000000 in
theorem L_X12_riddle_53 {X : j_X} {Φ : Option Value → m_M → Prop} (C : j_C X yX12_riddle cX12_riddle 6 (some .int) 9 0 0 Φ) : ∀ (n : Nat) (v1 : Nat) (v2 : Int32) (v3 : Int32) (v4 : Int32) (M : m_M), m_ok e_I Φ (F_X12_riddle_53 n v1 v2 v3 v4 M) → j_J X 6 53 [some (.ref v1), some (.int v2), some (.int v3), some (.int v4), none, none] [] (0, 0) M := by
  have C0 := C.1
  intro n
  induction n with
  | zero => intro v1 v2 v3 v4 M h; exact False.elim h
  | succ n ih =>
    intro v1 v2 v3 v4 M h
    rw [F_X12_riddle_53] at h
    refine j_iload_n C0 (pc := 53) dX12_riddle_53 rfl ?_
    refine j_sipush C0 (pc := 54) dX12_riddle_54 (v := (400 : Int32)) (by decide) ?_
    refine j_icmp_ge C0 (pc := 57) (tgt := 174) dX12_riddle_57 (by decide) (fun hc => ?_) (fun hc => ?_)
    · replace h := (X_if h).1 hc
      refine j_iconst C0 (pc := 174) dX12_riddle_174 (v := (-1 : Int32)) (by decide) ?_
      exact j_iret C rfl h dX12_riddle_175 (by decide)
    · replace h := (X_if h).2 hc
      refine X_join (fun (kj : Nat → Int32 → Int32 → Int32 → m_M → Option (Int32 × m_M)) => ∀ (p0 : Nat) (p1 : Int32) (p2 : Int32) (p3 : Int32) (M : m_M), m_ok e_I Φ (kj p0 p1 p2 p3 M) → j_J X 6 168 [some (.ref p0), some (.int p1), some (.int p2), some (.int p3), none, none] [] (0, 0) M) h (fun v5 v6 v7 v8 M1 h => ?_) (fun k168 hk168 h => ?_)
      · refine j_iinc C0 (pc := 168) dX12_riddle_168 (v := v8 + (1 : Int32)) rfl (Nat.le_of_ble_eq_true rfl) (by rfl) ?_
        refine X_let (G := fun w => j_J X 6 171 [some (.ref v5), some (.int v6), some (.int v7), some (.int w), none, none] [] (0, 0) M1) h (fun v9 h => ?_)
        refine j_goto C0 (pc := 171) (tgt := 53) dX12_riddle_171 (by decide) ?_
        exact j_J.wq (ih v5 v6 v7 v9 M1 h) (And.intro rfl (And.intro rfl (And.intro rfl (And.intro rfl (trivial)))))
      · refine j_aload_n C0 (pc := 60) dX12_riddle_60 rfl ?_
        refine j_iload_n C0 (pc := 61) dX12_riddle_61 rfl ?_
        refine X_cV C0 (pc := 62) (e' := e_I) (as := [.int v4]) (rest := []) (s' := fun w => .int w :: []) (g' := (0, 0)) v_OM_475_10 (fun Ψ hΨ => K_X12_isClause v1 v4 M Ψ hΨ) rfl rfl (fun _ => rfl) (by decide) (by decide) rfl (Nat.le_of_ble_eq_true rfl) dX12_riddle_62 h (fun v10 M2 h => ?_)
        refine j_if_eq C0 (pc := 65) (tgt := 168) dX12_riddle_65 (by decide) (fun hc => ?_) (fun hc => ?_)
        · replace h := (X_if h).1 hc
          exact j_J.wq (hk168 v1 v2 v3 v4 M2 h) (And.intro rfl (And.intro rfl (And.intro rfl (And.intro rfl (trivial)))))
        · replace h := (X_if h).2 hc
          refine j_aload_n C0 (pc := 68) dX12_riddle_68 rfl ?_
          refine j_iload_n C0 (pc := 69) dX12_riddle_69 rfl ?_
          refine j_aload_n C0 (pc := 70) dX12_riddle_70 rfl ?_
          refine j_aload_n C0 (pc := 71) dX12_riddle_71 rfl ?_
          refine X_gI C0 (pc := 72) f_OM_433_10 rfl dX12_riddle_72 h (fun v11 h => ?_)
          refine j_iload_n C0 (pc := 75) dX12_riddle_75 rfl ?_
          refine j_iadd C0 (pc := 76) dX12_riddle_76 ?_
          refine X_cV C0 (pc := 77) (e' := e_I) (as := [.int (v11 + v2)]) (rest := [.int v4, .ref v1]) (s' := fun w => .int w :: [.int v4, .ref v1]) (g' := (0, 0)) v_OM_436_10 (fun Ψ hΨ => K_X12_verbOf v1 (v11 + v2) M2 Ψ hΨ) rfl rfl (fun _ => rfl) (by decide) (by decide) rfl (Nat.le_of_ble_eq_true rfl) dX12_riddle_77 h (fun v12 M3 h => ?_)
          refine j_iload_n C0 (pc := 80) dX12_riddle_80 rfl ?_
          refine X_cV C0 (pc := 81) (e' := e_I) (as := [.int v4, .int v12, .int v3]) (rest := []) (s' := fun w => .int w :: []) (g' := (0, 0)) v_OM_534_10 (fun Ψ hΨ => K_X12_isAsAsked v1 v4 v12 v3 M3 Ψ hΨ) rfl rfl (fun _ => rfl) (by decide) (by decide) rfl (Nat.le_of_ble_eq_true rfl) dX12_riddle_81 h (fun v13 M4 h => ?_)
          refine j_if_ne C0 (pc := 84) (tgt := 90) dX12_riddle_84 (by decide) (fun hc => ?_) (fun hc => ?_)
          · replace h := (X_if h).2 hc
            refine j_iconst C0 (pc := 90) dX12_riddle_90 (v := (1 : Int32)) (by decide) ?_
            refine j_istore C0 (pc := 91) dX12_riddle_91 (Nat.le_of_ble_eq_true rfl) ?_
            show j_J X 6 93 [some (.ref v1), some (.int v2), some (.int v3), some (.int v4), some (.int (1 : Int32)), none] [] (0, 0) M4
            refine j_iconst C0 (pc := 93) dX12_riddle_93 (v := (0 : Int32)) (by decide) ?_
            refine j_istore C0 (pc := 94) dX12_riddle_94 (Nat.le_of_ble_eq_true rfl) ?_
            show j_J X 6 96 [some (.ref v1), some (.int v2), some (.int v3), some (.int v4), some (.int (1 : Int32)), some (.int (0 : Int32))] [] (0, 0) M4
            refine X_join (fun (kj : Nat → Int32 → Int32 → Int32 → Int32 → m_M → Option (Int32 × m_M)) => ∀ (p0 : Nat) (p1 : Int32) (p2 : Int32) (p3 : Int32) (p4 : Int32) (M : m_M), m_ok e_I Φ (kj p0 p1 p2 p3 p4 M) → j_J X 6 161 [some (.ref p0), some (.int p1), some (.int p2), some (.int p3), some (.int p4), none] [] (0, 0) M) h (fun v14 v15 v16 v17 v18 M5 h => ?_) (fun k161 hk161 h => ?_)
            · refine j_iload C0 (pc := 161) dX12_riddle_161 rfl ?_
              refine j_if_eq C0 (pc := 163) (tgt := 168) dX12_riddle_163 (by decide) (fun hc => ?_) (fun hc => ?_)
              · replace h := (X_if h).1 hc
                exact j_J.wq (hk168 v14 v15 v16 v17 M5 h) (And.intro rfl (And.intro rfl (And.intro rfl (And.intro rfl (trivial)))))
              · replace h := (X_if h).2 hc
                refine j_iload_n C0 (pc := 166) dX12_riddle_166 rfl ?_
                exact j_iret C rfl h dX12_riddle_167 (by decide)
            · exact j_J.wq (L_X12_riddle_96 C hk161 m_FU v1 v2 v3 v4 (1 : Int32) (0 : Int32) M4 h) (And.intro rfl (And.intro rfl (And.intro rfl (And.intro rfl (And.intro rfl (And.intro rfl (trivial)))))))
          · replace h := (X_if h).1 hc
            refine j_goto C0 (pc := 87) (tgt := 168) dX12_riddle_87 (by decide) ?_
            exact j_J.wq (hk168 v1 v2 v3 v4 M4 h) (And.intro rfl (And.intro rfl (And.intro rfl (And.intro rfl (trivial)))))
set_option maxHeartbeats 4000000 in
theorem K_X12_riddle (a0 : Nat) (a1 : Int32) (M : m_M) (Φ : Option Value → m_M → Prop) (h : m_ok e_I Φ (F_X12_riddle a0 a1 M)) : j_Ct yX12_riddle cX12_riddle 6 (some .int) 9 0 0 [.ref a0, .int a1] M Φ := by
  refine j_Ct.of (by decide +kernel) (Nat.le_of_ble_eq_true rfl) fun X C => ?_
  have C0 := C.1
  show j_J X 6 0 [some (.ref a0), some (.int a1), none, none, none, none] [] (0, 0) M
  unfold F_X12_riddle at h
  refine j_aload_n C0 (pc := 0) dX12_riddle_0 rfl ?_
  refine j_iconst C0 (pc := 1) dX12_riddle_1 (v := (0 : Int32)) (by decide) ?_
  refine X_pI C0 (pc := 2) f_OM_163_10 rfl rfl dX12_riddle_2 h (fun M1 h => ?_)
  refine j_aload_n C0 (pc := 5) dX12_riddle_5 rfl ?_
  refine X_gN C0 (pc := 6) f_OM_114_10 rfl dX12_riddle_6 h (fun v1 h => ?_)
  refine j_iconst C0 (pc := 9) dX12_riddle_9 (v := (0 : Int32)) (by decide) ?_
  refine X_zald C0 (pc := 10) dX12_riddle_10 h (fun v2 h => ?_)
  refine j_if_eq C0 (pc := 11) (tgt := 37) dX12_riddle_11 (by decide) (fun hc => ?_) (fun hc => ?_)
  · replace h := (X_if h).1 hc
    refine j_iconst C0 (pc := 37) dX12_riddle_37 (v := (-1 : Int32)) (by decide) ?_
    exact j_iret C rfl h dX12_riddle_38 (by decide)
  · replace h := (X_if h).2 hc
    refine j_iload_n C0 (pc := 14) dX12_riddle_14 rfl ?_
    refine j_iconst C0 (pc := 15) dX12_riddle_15 (v := (0 : Int32)) (by decide) ?_
    refine j_bipush C0 (pc := 16) dX12_riddle_16 (v := (6 : Int32)) (by decide) ?_
    refine X_cS C0 (pc := 18) (e' := e_I) (as := [.int a1, .int (0 : Int32), .int (6 : Int32)]) (rest := []) (s' := fun w => .int w :: []) (g' := (0, 0)) s_OM_279 (fun Ψ hΨ => K_X12_within a1 (0 : Int32) (6 : Int32) M1 Ψ hΨ) rfl rfl (fun _ => rfl) (by decide) (by decide) rfl (Nat.le_of_ble_eq_true rfl) dX12_riddle_18 h (fun v3 M2 h => ?_)
    refine j_if_eq C0 (pc := 21) (tgt := 37) dX12_riddle_21 (by decide) (fun hc => ?_) (fun hc => ?_)
    · replace h := (X_if h).1 hc
      refine j_iconst C0 (pc := 37) dX12_riddle_37 (v := (-1 : Int32)) (by decide) ?_
      exact j_iret C rfl h dX12_riddle_38 (by decide)
    · replace h := (X_if h).2 hc
      refine j_aload_n C0 (pc := 24) dX12_riddle_24 rfl ?_
      refine j_aload_n C0 (pc := 25) dX12_riddle_25 rfl ?_
      refine X_gI C0 (pc := 26) f_OM_433_10 rfl dX12_riddle_26 h (fun v4 h => ?_)
      refine j_iload_n C0 (pc := 29) dX12_riddle_29 rfl ?_
      refine j_iadd C0 (pc := 30) dX12_riddle_30 ?_
      refine X_cV C0 (pc := 31) (e' := e_I) (as := [.int (v4 + a1)]) (rest := []) (s' := fun w => .int w :: []) (g' := (0, 0)) v_OM_436_10 (fun Ψ hΨ => K_X12_verbOf a0 (v4 + a1) M2 Ψ hΨ) rfl rfl (fun _ => rfl) (by decide) (by decide) rfl (Nat.le_of_ble_eq_true rfl) dX12_riddle_31 h (fun v5 M3 h => ?_)
      refine j_if_ge C0 (pc := 34) (tgt := 39) dX12_riddle_34 (by decide) (fun hc => ?_) (fun hc => ?_)
      · replace h := (X_if h).1 hc
        refine j_aload_n C0 (pc := 39) dX12_riddle_39 rfl ?_
        refine j_aload_n C0 (pc := 40) dX12_riddle_40 rfl ?_
        refine X_gI C0 (pc := 41) f_OM_433_10 rfl dX12_riddle_41 h (fun v6 h => ?_)
        refine X_cV C0 (pc := 44) (e' := e_I) (as := [.int v6]) (rest := []) (s' := fun w => .int w :: []) (g' := (0, 0)) v_OM_436_10 (fun Ψ hΨ => K_X12_verbOf a0 v6 M3 Ψ hΨ) rfl rfl (fun _ => rfl) (by decide) (by decide) rfl (Nat.le_of_ble_eq_true rfl) dX12_riddle_44 h (fun v7 M4 h => ?_)
        refine X_cS C0 (pc := 47) (e' := e_I) (as := [.int v7]) (rest := []) (s' := fun w => .int w :: []) (g' := (0, 0)) s_OM_481 (fun Ψ hΨ => K_X12_askedAt v7 M4 Ψ hΨ) rfl rfl (fun _ => rfl) (by decide) (by decide) rfl (Nat.le_of_ble_eq_true rfl) dX12_riddle_47 h (fun v8 M5 h => ?_)
        refine j_istore_n C0 (pc := 50) dX12_riddle_50 (Nat.le_of_ble_eq_true rfl) ?_
        show j_J X 6 51 [some (.ref a0), some (.int a1), some (.int v8), none, none, none] [] (0, 0) M5
        refine j_iconst C0 (pc := 51) dX12_riddle_51 (v := (0 : Int32)) (by decide) ?_
        refine j_istore_n C0 (pc := 52) dX12_riddle_52 (Nat.le_of_ble_eq_true rfl) ?_
        show j_J X 6 53 [some (.ref a0), some (.int a1), some (.int v8), some (.int (0 : Int32)), none, none] [] (0, 0) M5
        exact j_J.wq (L_X12_riddle_53 C m_FU a0 a1 v8 (0 : Int32) M5 h) (And.intro rfl (And.intro rfl (And.intro rfl (And.intro rfl (trivial)))))
      · replace h := (X_if h).2 hc
        refine j_iconst C0 (pc := 37) dX12_riddle_37 (v := (-1 : Int32)) (by decide) ?_
        exact j_iret C rfl h dX12_riddle_38 (by decide)
theorem dX12_rings_0 : decode cX12_rings 0 = .ok (.aload_n 0, 1) := by decide +kernel
theorem dX12_rings_1 : decode cX12_rings 1 = .ok (.aload_n 0, 1) := by decide +kernel
theorem dX12_rings_2 : decode cX12_rings 2 = .ok (.iload_n 1, 1) := by decide +kernel
theorem dX12_rings_3 : decode cX12_rings 3 = .ok (.invokevirtual 537, 3) := by decide +kernel
theorem dX12_rings_6 : decode cX12_rings 6 = .ok (.ifCond .eq 7, 3) := by decide +kernel
theorem dX12_rings_9 : decode cX12_rings 9 = .ok (.iconst 0, 1) := by decide +kernel
theorem dX12_rings_10 : decode cX12_rings 10 = .ok (.goto 4, 3) := by decide +kernel
theorem dX12_rings_13 : decode cX12_rings 13 = .ok (.iconst 1, 1) := by decide +kernel
theorem dX12_rings_14 : decode cX12_rings 14 = .ok (.putfield 163, 3) := by decide +kernel
theorem dX12_rings_17 : decode cX12_rings 17 = .ok (.aload_n 0, 1) := by decide +kernel
theorem dX12_rings_18 : decode cX12_rings 18 = .ok (.getfield 163, 3) := by decide +kernel
theorem dX12_rings_21 : decode cX12_rings 21 = .ok (.iconst 1, 1) := by decide +kernel
theorem dX12_rings_22 : decode cX12_rings 22 = .ok (.if_icmp .ne 7, 3) := by decide +kernel
theorem dX12_rings_25 : decode cX12_rings 25 = .ok (.iconst 0, 1) := by decide +kernel
theorem dX12_rings_26 : decode cX12_rings 26 = .ok (.goto 7, 3) := by decide +kernel
theorem dX12_rings_29 : decode cX12_rings 29 = .ok (.aload_n 0, 1) := by decide +kernel
theorem dX12_rings_30 : decode cX12_rings 30 = .ok (.invokevirtual 540, 3) := by decide +kernel
theorem dX12_rings_33 : decode cX12_rings 33 = .ok (.ireturn, 1) := by decide +kernel
noncomputable def F_X12_rings (a0 : Nat) (a1 : Int32) (M : m_M) : Option (Int32 × m_M) :=
  m_let (fun (v1 : Nat) (v2 : Nat) (v3 : Int32) (M1 : m_M) =>
    x_pI 10 M1 v2 0 v3 fun M2 =>
    x_gI 10 M2 v1 0 fun v4 =>
    if v4 = (1 : Int32) then (
      some ((0 : Int32), M2)
    ) else
    x_cV 10 M2 v1 (F_X12_bell v1 M2) fun v5 M3 =>
    some (v5, M3)
  ) fun (k14 : Nat → Nat → Int32 → m_M → Option (Int32 × m_M)) =>
  x_cV 10 M a0 (F_X12_areRung a0 a1 M) fun v6 M4 =>
  if v6 = 0 then (
    k14 a0 a0 (1 : Int32) M4
  ) else
  k14 a0 a0 (0 : Int32) M4
set_option maxHeartbeats 4000000 in
theorem K_X12_rings (a0 : Nat) (a1 : Int32) (M : m_M) (Φ : Option Value → m_M → Prop) (h : m_ok e_I Φ (F_X12_rings a0 a1 M)) : j_Ct yX12_rings cX12_rings 2 (some .int) 3 0 0 [.ref a0, .int a1] M Φ := by
  refine j_Ct.of (by decide +kernel) (Nat.le_of_ble_eq_true rfl) fun X C => ?_
  have C0 := C.1
  show j_J X 2 0 [some (.ref a0), some (.int a1)] [] (0, 0) M
  unfold F_X12_rings at h
  refine X_join (fun (kj : Nat → Nat → Int32 → m_M → Option (Int32 × m_M)) => ∀ (p0 : Nat) (p1 : Nat) (p2 : Int32) (M : m_M), m_ok e_I Φ (kj p0 p1 p2 M) → j_J X 2 14 [some (.ref p0), none] [.int p2, .ref p1] (0, 0) M) h (fun v1 v2 v3 M1 h => ?_) (fun k14 hk14 h => ?_)
  · refine X_pI C0 (pc := 14) f_OM_163_10 rfl rfl dX12_rings_14 h (fun M2 h => ?_)
    refine j_aload_n C0 (pc := 17) dX12_rings_17 rfl ?_
    refine X_gI C0 (pc := 18) f_OM_163_10 rfl dX12_rings_18 h (fun v4 h => ?_)
    refine j_iconst C0 (pc := 21) dX12_rings_21 (v := (1 : Int32)) (by decide) ?_
    refine j_icmp_ne C0 (pc := 22) (tgt := 29) dX12_rings_22 (by decide) (fun hc => ?_) (fun hc => ?_)
    · replace h := (X_if h).2 hc
      refine j_aload_n C0 (pc := 29) dX12_rings_29 rfl ?_
      refine X_cV C0 (pc := 30) (e' := e_I) (as := []) (rest := []) (s' := fun w => .int w :: []) (g' := (0, 0)) v_OM_540_10 (fun Ψ hΨ => K_X12_bell v1 M2 Ψ hΨ) rfl rfl (fun _ => rfl) (by decide) (by decide) rfl (Nat.le_of_ble_eq_true rfl) dX12_rings_30 h (fun v5 M3 h => ?_)
      exact j_iret C rfl h dX12_rings_33 (by decide)
    · replace h := (X_if h).1 hc
      refine j_iconst C0 (pc := 25) dX12_rings_25 (v := (0 : Int32)) (by decide) ?_
      refine j_goto C0 (pc := 26) (tgt := 33) dX12_rings_26 (by decide) ?_
      exact j_iret C rfl h dX12_rings_33 (by decide)
  · refine j_aload_n C0 (pc := 0) dX12_rings_0 rfl ?_
    refine j_aload_n C0 (pc := 1) dX12_rings_1 rfl ?_
    refine j_iload_n C0 (pc := 2) dX12_rings_2 rfl ?_
    refine X_cV C0 (pc := 3) (e' := e_I) (as := [.int a1]) (rest := [.ref a0]) (s' := fun w => .int w :: [.ref a0]) (g' := (0, 0)) v_OM_537_10 (fun Ψ hΨ => K_X12_areRung a0 a1 M Ψ hΨ) rfl rfl (fun _ => rfl) (by decide) (by decide) rfl (Nat.le_of_ble_eq_true rfl) dX12_rings_3 h (fun v6 M4 h => ?_)
    refine j_if_eq C0 (pc := 6) (tgt := 13) dX12_rings_6 (by decide) (fun hc => ?_) (fun hc => ?_)
    · replace h := (X_if h).1 hc
      refine j_iconst C0 (pc := 13) dX12_rings_13 (v := (1 : Int32)) (by decide) ?_
      exact j_J.wq (hk14 a0 a0 (1 : Int32) M4 h) (And.intro rfl (trivial))
    · replace h := (X_if h).2 hc
      refine j_iconst C0 (pc := 9) dX12_rings_9 (v := (0 : Int32)) (by decide) ?_
      refine j_goto C0 (pc := 10) (tgt := 14) dX12_rings_10 (by decide) ?_
      exact j_J.wq (hk14 a0 a0 (0 : Int32) M4 h) (And.intro rfl (trivial))
theorem dX12_same_0 : decode cX12_same 0 = .ok (.aload_n 0, 1) := by decide +kernel
theorem dX12_same_1 : decode cX12_same 1 = .ok (.iconst 0, 1) := by decide +kernel
theorem dX12_same_2 : decode cX12_same 2 = .ok (.putfield 163, 3) := by decide +kernel
theorem dX12_same_5 : decode cX12_same 5 = .ok (.aload_n 0, 1) := by decide +kernel
theorem dX12_same_6 : decode cX12_same 6 = .ok (.getfield 114, 3) := by decide +kernel
theorem dX12_same_9 : decode cX12_same 9 = .ok (.iconst 0, 1) := by decide +kernel
theorem dX12_same_10 : decode cX12_same 10 = .ok (.baload, 1) := by decide +kernel
theorem dX12_same_11 : decode cX12_same 11 = .ok (.ifCond .eq 11, 3) := by decide +kernel
theorem dX12_same_14 : decode cX12_same 14 = .ok (.iload_n 1, 1) := by decide +kernel
theorem dX12_same_15 : decode cX12_same 15 = .ok (.ifCond .lt 7, 3) := by decide +kernel
theorem dX12_same_18 : decode cX12_same 18 = .ok (.iload_n 2, 1) := by decide +kernel
theorem dX12_same_19 : decode cX12_same 19 = .ok (.ifCond .ge 5, 3) := by decide +kernel
theorem dX12_same_22 : decode cX12_same 22 = .ok (.iconst (-1), 1) := by decide +kernel
theorem dX12_same_23 : decode cX12_same 23 = .ok (.ireturn, 1) := by decide +kernel
theorem dX12_same_24 : decode cX12_same 24 = .ok (.aload_n 0, 1) := by decide +kernel
theorem dX12_same_25 : decode cX12_same 25 = .ok (.aload_n 0, 1) := by decide +kernel
theorem dX12_same_26 : decode cX12_same 26 = .ok (.getfield 111, 3) := by decide +kernel
theorem dX12_same_29 : decode cX12_same 29 = .ok (.aload_n 0, 1) := by decide +kernel
theorem dX12_same_30 : decode cX12_same 30 = .ok (.iload_n 1, 1) := by decide +kernel
theorem dX12_same_31 : decode cX12_same 31 = .ok (.invokevirtual 436, 3) := by decide +kernel
theorem dX12_same_34 : decode cX12_same 34 = .ok (.invokestatic 481, 3) := by decide +kernel
theorem dX12_same_37 : decode cX12_same 37 = .ok (.aload_n 0, 1) := by decide +kernel
theorem dX12_same_38 : decode cX12_same 38 = .ok (.getfield 111, 3) := by decide +kernel
theorem dX12_same_41 : decode cX12_same 41 = .ok (.aload_n 0, 1) := by decide +kernel
theorem dX12_same_42 : decode cX12_same 42 = .ok (.iload_n 2, 1) := by decide +kernel
theorem dX12_same_43 : decode cX12_same 43 = .ok (.invokevirtual 436, 3) := by decide +kernel
theorem dX12_same_46 : decode cX12_same 46 = .ok (.invokestatic 481, 3) := by decide +kernel
theorem dX12_same_49 : decode cX12_same 49 = .ok (.invokevirtual 484, 3) := by decide +kernel
theorem dX12_same_52 : decode cX12_same 52 = .ok (.ifCond .eq 7, 3) := by decide +kernel
theorem dX12_same_55 : decode cX12_same 55 = .ok (.iconst 1, 1) := by decide +kernel
theorem dX12_same_56 : decode cX12_same 56 = .ok (.goto 4, 3) := by decide +kernel
theorem dX12_same_59 : decode cX12_same 59 = .ok (.iconst 0, 1) := by decide +kernel
theorem dX12_same_60 : decode cX12_same 60 = .ok (.ireturn, 1) := by decide +kernel
noncomputable def F_X12_same (a0 : Nat) (a1 : Int32) (a2 : Int32) (M : m_M) : Option (Int32 × m_M) :=
  x_pI 10 M a0 0 (0 : Int32) fun M1 =>
  x_gN 10 M1 a0 55 fun v1 =>
  x_aI 14 M1 v1 (0 : Int32) fun v2 =>
  if v2 = 0 then (
    some ((-1 : Int32), M1)
  ) else
  if a1 < 0 then (
    some ((-1 : Int32), M1)
  ) else
  if 0 ≤ a2 then (
    x_gN 10 M1 a0 54 fun v3 =>
    x_cV 10 M1 a0 (F_X12_verbOf a0 a1 M1) fun v4 M2 =>
    x_bd (F_X12_askedAt v4 M2) fun v5 M3 =>
    x_gN 10 M3 a0 54 fun v6 =>
    x_cV 10 M3 a0 (F_X12_verbOf a0 a2 M3) fun v7 M4 =>
    x_bd (F_X12_askedAt v7 M4) fun v8 M5 =>
    x_cV 10 M5 a0 (F_X12_areAlike a0 v3 v5 v6 v8 M5) fun v9 M6 =>
    if v9 = 0 then (
      some ((0 : Int32), M6)
    ) else
    some ((1 : Int32), M6)
  ) else
  some ((-1 : Int32), M1)
set_option maxHeartbeats 4000000 in
theorem K_X12_same (a0 : Nat) (a1 : Int32) (a2 : Int32) (M : m_M) (Φ : Option Value → m_M → Prop) (h : m_ok e_I Φ (F_X12_same a0 a1 a2 M)) : j_Ct yX12_same cX12_same 3 (some .int) 2 0 0 [.ref a0, .int a1, .int a2] M Φ := by
  refine j_Ct.of (by decide +kernel) (Nat.le_of_ble_eq_true rfl) fun X C => ?_
  have C0 := C.1
  show j_J X 3 0 [some (.ref a0), some (.int a1), some (.int a2)] [] (0, 0) M
  unfold F_X12_same at h
  refine j_aload_n C0 (pc := 0) dX12_same_0 rfl ?_
  refine j_iconst C0 (pc := 1) dX12_same_1 (v := (0 : Int32)) (by decide) ?_
  refine X_pI C0 (pc := 2) f_OM_163_10 rfl rfl dX12_same_2 h (fun M1 h => ?_)
  refine j_aload_n C0 (pc := 5) dX12_same_5 rfl ?_
  refine X_gN C0 (pc := 6) f_OM_114_10 rfl dX12_same_6 h (fun v1 h => ?_)
  refine j_iconst C0 (pc := 9) dX12_same_9 (v := (0 : Int32)) (by decide) ?_
  refine X_zald C0 (pc := 10) dX12_same_10 h (fun v2 h => ?_)
  refine j_if_eq C0 (pc := 11) (tgt := 22) dX12_same_11 (by decide) (fun hc => ?_) (fun hc => ?_)
  · replace h := (X_if h).1 hc
    refine j_iconst C0 (pc := 22) dX12_same_22 (v := (-1 : Int32)) (by decide) ?_
    exact j_iret C rfl h dX12_same_23 (by decide)
  · replace h := (X_if h).2 hc
    refine j_iload_n C0 (pc := 14) dX12_same_14 rfl ?_
    refine j_if_lt C0 (pc := 15) (tgt := 22) dX12_same_15 (by decide) (fun hc => ?_) (fun hc => ?_)
    · replace h := (X_if h).1 hc
      refine j_iconst C0 (pc := 22) dX12_same_22 (v := (-1 : Int32)) (by decide) ?_
      exact j_iret C rfl h dX12_same_23 (by decide)
    · replace h := (X_if h).2 hc
      refine j_iload_n C0 (pc := 18) dX12_same_18 rfl ?_
      refine j_if_ge C0 (pc := 19) (tgt := 24) dX12_same_19 (by decide) (fun hc => ?_) (fun hc => ?_)
      · replace h := (X_if h).1 hc
        refine j_aload_n C0 (pc := 24) dX12_same_24 rfl ?_
        refine j_aload_n C0 (pc := 25) dX12_same_25 rfl ?_
        refine X_gN C0 (pc := 26) f_OM_111_10 rfl dX12_same_26 h (fun v3 h => ?_)
        refine j_aload_n C0 (pc := 29) dX12_same_29 rfl ?_
        refine j_iload_n C0 (pc := 30) dX12_same_30 rfl ?_
        refine X_cV C0 (pc := 31) (e' := e_I) (as := [.int a1]) (rest := [.ref v3, .ref a0]) (s' := fun w => .int w :: [.ref v3, .ref a0]) (g' := (0, 0)) v_OM_436_10 (fun Ψ hΨ => K_X12_verbOf a0 a1 M1 Ψ hΨ) rfl rfl (fun _ => rfl) (by decide) (by decide) rfl (Nat.le_of_ble_eq_true rfl) dX12_same_31 h (fun v4 M2 h => ?_)
        refine X_cS C0 (pc := 34) (e' := e_I) (as := [.int v4]) (rest := [.ref v3, .ref a0]) (s' := fun w => .int w :: [.ref v3, .ref a0]) (g' := (0, 0)) s_OM_481 (fun Ψ hΨ => K_X12_askedAt v4 M2 Ψ hΨ) rfl rfl (fun _ => rfl) (by decide) (by decide) rfl (Nat.le_of_ble_eq_true rfl) dX12_same_34 h (fun v5 M3 h => ?_)
        refine j_aload_n C0 (pc := 37) dX12_same_37 rfl ?_
        refine X_gN C0 (pc := 38) f_OM_111_10 rfl dX12_same_38 h (fun v6 h => ?_)
        refine j_aload_n C0 (pc := 41) dX12_same_41 rfl ?_
        refine j_iload_n C0 (pc := 42) dX12_same_42 rfl ?_
        refine X_cV C0 (pc := 43) (e' := e_I) (as := [.int a2]) (rest := [.ref v6, .int v5, .ref v3, .ref a0]) (s' := fun w => .int w :: [.ref v6, .int v5, .ref v3, .ref a0]) (g' := (0, 0)) v_OM_436_10 (fun Ψ hΨ => K_X12_verbOf a0 a2 M3 Ψ hΨ) rfl rfl (fun _ => rfl) (by decide) (by decide) rfl (Nat.le_of_ble_eq_true rfl) dX12_same_43 h (fun v7 M4 h => ?_)
        refine X_cS C0 (pc := 46) (e' := e_I) (as := [.int v7]) (rest := [.ref v6, .int v5, .ref v3, .ref a0]) (s' := fun w => .int w :: [.ref v6, .int v5, .ref v3, .ref a0]) (g' := (0, 0)) s_OM_481 (fun Ψ hΨ => K_X12_askedAt v7 M4 Ψ hΨ) rfl rfl (fun _ => rfl) (by decide) (by decide) rfl (Nat.le_of_ble_eq_true rfl) dX12_same_46 h (fun v8 M5 h => ?_)
        refine X_cV C0 (pc := 49) (e' := e_I) (as := [.ref v3, .int v5, .ref v6, .int v8]) (rest := []) (s' := fun w => .int w :: []) (g' := (0, 0)) v_OM_484_10 (fun Ψ hΨ => K_X12_areAlike a0 v3 v5 v6 v8 M5 Ψ hΨ) rfl rfl (fun _ => rfl) (by decide) (by decide) rfl (Nat.le_of_ble_eq_true rfl) dX12_same_49 h (fun v9 M6 h => ?_)
        refine j_if_eq C0 (pc := 52) (tgt := 59) dX12_same_52 (by decide) (fun hc => ?_) (fun hc => ?_)
        · replace h := (X_if h).1 hc
          refine j_iconst C0 (pc := 59) dX12_same_59 (v := (0 : Int32)) (by decide) ?_
          exact j_iret C rfl h dX12_same_60 (by decide)
        · replace h := (X_if h).2 hc
          refine j_iconst C0 (pc := 55) dX12_same_55 (v := (1 : Int32)) (by decide) ?_
          refine j_goto C0 (pc := 56) (tgt := 60) dX12_same_56 (by decide) ?_
          exact j_iret C rfl h dX12_same_60 (by decide)
      · replace h := (X_if h).2 hc
        refine j_iconst C0 (pc := 22) dX12_same_22 (v := (-1 : Int32)) (by decide) ?_
        exact j_iret C rfl h dX12_same_23 (by decide)
theorem dX12_say_0 : decode cX12_say 0 = .ok (.aload_n 0, 1) := by decide +kernel
theorem dX12_say_1 : decode cX12_say 1 = .ok (.iconst 0, 1) := by decide +kernel
theorem dX12_say_2 : decode cX12_say 2 = .ok (.putfield 163, 3) := by decide +kernel
theorem dX12_say_5 : decode cX12_say 5 = .ok (.aload_n 0, 1) := by decide +kernel
theorem dX12_say_6 : decode cX12_say 6 = .ok (.invokevirtual 439, 3) := by decide +kernel
theorem dX12_say_9 : decode cX12_say 9 = .ok (.ifCond .ne 8, 3) := by decide +kernel
theorem dX12_say_12 : decode cX12_say 12 = .ok (.aload_n 0, 1) := by decide +kernel
theorem dX12_say_13 : decode cX12_say 13 = .ok (.getfield 199, 3) := by decide +kernel
theorem dX12_say_16 : decode cX12_say 16 = .ok (.ireturn, 1) := by decide +kernel
theorem dX12_say_17 : decode cX12_say 17 = .ok (.aload_n 0, 1) := by decide +kernel
theorem dX12_say_18 : decode cX12_say 18 = .ok (.aload_n 0, 1) := by decide +kernel
theorem dX12_say_19 : decode cX12_say 19 = .ok (.getfield 433, 3) := by decide +kernel
theorem dX12_say_22 : decode cX12_say 22 = .ok (.invokevirtual 436, 3) := by decide +kernel
theorem dX12_say_25 : decode cX12_say 25 = .ok (.ifCond .ge 6, 3) := by decide +kernel
theorem dX12_say_28 : decode cX12_say 28 = .ok (.bipush (-2), 2) := by decide +kernel
theorem dX12_say_30 : decode cX12_say 30 = .ok (.ireturn, 1) := by decide +kernel
theorem dX12_say_31 : decode cX12_say 31 = .ok (.aload_n 0, 1) := by decide +kernel
theorem dX12_say_32 : decode cX12_say 32 = .ok (.getfield 108, 3) := by decide +kernel
theorem dX12_say_35 : decode cX12_say 35 = .ok (.iconst 0, 1) := by decide +kernel
theorem dX12_say_36 : decode cX12_say 36 = .ok (.iaload, 1) := by decide +kernel
theorem dX12_say_37 : decode cX12_say 37 = .ok (.bipush 12, 2) := by decide +kernel
theorem dX12_say_39 : decode cX12_say 39 = .ok (.if_icmp .ne 6, 3) := by decide +kernel
theorem dX12_say_42 : decode cX12_say 42 = .ok (.bipush (-3), 2) := by decide +kernel
theorem dX12_say_44 : decode cX12_say 44 = .ok (.ireturn, 1) := by decide +kernel
theorem dX12_say_45 : decode cX12_say 45 = .ok (.aload_n 0, 1) := by decide +kernel
theorem dX12_say_46 : decode cX12_say 46 = .ok (.invokevirtual 442, 3) := by decide +kernel
theorem dX12_say_49 : decode cX12_say 49 = .ok (.aload_n 0, 1) := by decide +kernel
theorem dX12_say_50 : decode cX12_say 50 = .ok (.getfield 108, 3) := by decide +kernel
theorem dX12_say_53 : decode cX12_say 53 = .ok (.iconst 0, 1) := by decide +kernel
theorem dX12_say_54 : decode cX12_say 54 = .ok (.iaload, 1) := by decide +kernel
theorem dX12_say_55 : decode cX12_say 55 = .ok (.istore_n 1, 1) := by decide +kernel
theorem dX12_say_56 : decode cX12_say 56 = .ok (.aload_n 0, 1) := by decide +kernel
theorem dX12_say_57 : decode cX12_say 57 = .ok (.aload_n 0, 1) := by decide +kernel
theorem dX12_say_58 : decode cX12_say 58 = .ok (.aload_n 0, 1) := by decide +kernel
theorem dX12_say_59 : decode cX12_say 59 = .ok (.getfield 433, 3) := by decide +kernel
theorem dX12_say_62 : decode cX12_say 62 = .ok (.invokevirtual 436, 3) := by decide +kernel
theorem dX12_say_65 : decode cX12_say 65 = .ok (.aload_n 0, 1) := by decide +kernel
theorem dX12_say_66 : decode cX12_say 66 = .ok (.getfield 93, 3) := by decide +kernel
theorem dX12_say_69 : decode cX12_say 69 = .ok (.bipush 16, 2) := by decide +kernel
theorem dX12_say_71 : decode cX12_say 71 = .ok (.iload_n 1, 1) := by decide +kernel
theorem dX12_say_72 : decode cX12_say 72 = .ok (.imul, 1) := by decide +kernel
theorem dX12_say_73 : decode cX12_say 73 = .ok (.invokevirtual 445, 3) := by decide +kernel
theorem dX12_say_76 : decode cX12_say 76 = .ok (.aload_n 0, 1) := by decide +kernel
theorem dX12_say_77 : decode cX12_say 77 = .ok (.getfield 96, 3) := by decide +kernel
theorem dX12_say_80 : decode cX12_say 80 = .ok (.iload_n 1, 1) := by decide +kernel
theorem dX12_say_81 : decode cX12_say 81 = .ok (.aload_n 0, 1) := by decide +kernel
theorem dX12_say_82 : decode cX12_say 82 = .ok (.getfield 433, 3) := by decide +kernel
theorem dX12_say_85 : decode cX12_say 85 = .ok (.iastore, 1) := by decide +kernel
theorem dX12_say_86 : decode cX12_say 86 = .ok (.aload_n 0, 1) := by decide +kernel
theorem dX12_say_87 : decode cX12_say 87 = .ok (.getfield 108, 3) := by decide +kernel
theorem dX12_say_90 : decode cX12_say 90 = .ok (.iconst 0, 1) := by decide +kernel
theorem dX12_say_91 : decode cX12_say 91 = .ok (.dup2, 1) := by decide +kernel
theorem dX12_say_92 : decode cX12_say 92 = .ok (.iaload, 1) := by decide +kernel
theorem dX12_say_93 : decode cX12_say 93 = .ok (.iconst 1, 1) := by decide +kernel
theorem dX12_say_94 : decode cX12_say 94 = .ok (.iadd, 1) := by decide +kernel
theorem dX12_say_95 : decode cX12_say 95 = .ok (.iastore, 1) := by decide +kernel
theorem dX12_say_96 : decode cX12_say 96 = .ok (.iconst 0, 1) := by decide +kernel
theorem dX12_say_97 : decode cX12_say 97 = .ok (.ireturn, 1) := by decide +kernel
noncomputable def F_X12_say (a0 : Nat) (M : m_M) : Option (Int32 × m_M) :=
  x_pI 10 M a0 0 (0 : Int32) fun M1 =>
  x_cV 10 M1 a0 (F_X12_readsSaying a0 M1) fun v1 M2 =>
  if v1 = 0 then (
    x_gI 10 M2 a0 9 fun v15 =>
    some (v15, M2)
  ) else
  x_gI 10 M2 a0 53 fun v2 =>
  x_cV 10 M2 a0 (F_X12_verbOf a0 v2 M2) fun v3 M3 =>
  if 0 ≤ v3 then (
    x_gN 10 M3 a0 51 fun v4 =>
    x_aI 12 M3 v4 (0 : Int32) fun v5 =>
    if v5 = (12 : Int32) then (
      some ((-3 : Int32), M3)
    ) else
    x_cV 10 M3 a0 (F_X12_keeps a0 M3) fun _ M4 =>
    x_gN 10 M4 a0 51 fun v6 =>
    x_aI 12 M4 v6 (0 : Int32) fun v7 =>
    x_gI 10 M4 a0 53 fun v8 =>
    x_cV 10 M4 a0 (F_X12_verbOf a0 v8 M4) fun v9 M5 =>
    x_gN 10 M5 a0 46 fun v10 =>
    x_cV 10 M5 a0 (F_X12_laysMeant a0 v9 v10 ((16 : Int32) * v7) M5) fun _ M6 =>
    x_gN 10 M6 a0 47 fun v11 =>
    x_gI 10 M6 a0 53 fun v12 =>
    x_sI 12 M6 v11 v7 v12 fun M7 =>
    x_gN 10 M7 a0 51 fun v13 =>
    x_aI 12 M7 v13 (0 : Int32) fun v14 =>
    x_sI 12 M7 v13 (0 : Int32) (v14 + (1 : Int32)) fun M8 =>
    some ((0 : Int32), M8)
  ) else
  some ((-2 : Int32), M3)
set_option maxHeartbeats 4000000 in
theorem K_X12_say (a0 : Nat) (M : m_M) (Φ : Option Value → m_M → Prop) (h : m_ok e_I Φ (F_X12_say a0 M)) : j_Ct yX12_say cX12_say 2 (some .int) 70 0 0 [.ref a0] M Φ := by
  refine j_Ct.of (by decide +kernel) (Nat.le_of_ble_eq_true rfl) fun X C => ?_
  have C0 := C.1
  show j_J X 2 0 [some (.ref a0), none] [] (0, 0) M
  unfold F_X12_say at h
  refine j_aload_n C0 (pc := 0) dX12_say_0 rfl ?_
  refine j_iconst C0 (pc := 1) dX12_say_1 (v := (0 : Int32)) (by decide) ?_
  refine X_pI C0 (pc := 2) f_OM_163_10 rfl rfl dX12_say_2 h (fun M1 h => ?_)
  refine j_aload_n C0 (pc := 5) dX12_say_5 rfl ?_
  refine X_cV C0 (pc := 6) (e' := e_I) (as := []) (rest := []) (s' := fun w => .int w :: []) (g' := (0, 0)) v_OM_439_10 (fun Ψ hΨ => K_X12_readsSaying a0 M1 Ψ hΨ) rfl rfl (fun _ => rfl) (by decide) (by decide) rfl (Nat.le_of_ble_eq_true rfl) dX12_say_6 h (fun v1 M2 h => ?_)
  refine j_if_ne C0 (pc := 9) (tgt := 17) dX12_say_9 (by decide) (fun hc => ?_) (fun hc => ?_)
  · replace h := (X_if h).2 hc
    refine j_aload_n C0 (pc := 17) dX12_say_17 rfl ?_
    refine j_aload_n C0 (pc := 18) dX12_say_18 rfl ?_
    refine X_gI C0 (pc := 19) f_OM_433_10 rfl dX12_say_19 h (fun v2 h => ?_)
    refine X_cV C0 (pc := 22) (e' := e_I) (as := [.int v2]) (rest := []) (s' := fun w => .int w :: []) (g' := (0, 0)) v_OM_436_10 (fun Ψ hΨ => K_X12_verbOf a0 v2 M2 Ψ hΨ) rfl rfl (fun _ => rfl) (by decide) (by decide) rfl (Nat.le_of_ble_eq_true rfl) dX12_say_22 h (fun v3 M3 h => ?_)
    refine j_if_ge C0 (pc := 25) (tgt := 31) dX12_say_25 (by decide) (fun hc => ?_) (fun hc => ?_)
    · replace h := (X_if h).1 hc
      refine j_aload_n C0 (pc := 31) dX12_say_31 rfl ?_
      refine X_gN C0 (pc := 32) f_OM_108_10 rfl dX12_say_32 h (fun v4 h => ?_)
      refine j_iconst C0 (pc := 35) dX12_say_35 (v := (0 : Int32)) (by decide) ?_
      refine X_iald C0 (pc := 36) dX12_say_36 h (fun v5 h => ?_)
      refine j_bipush C0 (pc := 37) dX12_say_37 (v := (12 : Int32)) (by decide) ?_
      refine j_icmp_ne C0 (pc := 39) (tgt := 45) dX12_say_39 (by decide) (fun hc => ?_) (fun hc => ?_)
      · replace h := (X_if h).2 hc
        refine j_aload_n C0 (pc := 45) dX12_say_45 rfl ?_
        refine X_cV C0 (pc := 46) (e' := e_V) (as := []) (rest := []) (s' := fun _ => []) (g' := (0, 0)) v_OM_442_10 (fun Ψ hΨ => K_X12_keeps a0 M3 Ψ hΨ) rfl rfl (fun _ => rfl) (by decide) (by decide) rfl (Nat.le_of_ble_eq_true rfl) dX12_say_46 h (fun _ M4 h => ?_)
        refine j_aload_n C0 (pc := 49) dX12_say_49 rfl ?_
        refine X_gN C0 (pc := 50) f_OM_108_10 rfl dX12_say_50 h (fun v6 h => ?_)
        refine j_iconst C0 (pc := 53) dX12_say_53 (v := (0 : Int32)) (by decide) ?_
        refine X_iald C0 (pc := 54) dX12_say_54 h (fun v7 h => ?_)
        refine j_istore_n C0 (pc := 55) dX12_say_55 (Nat.le_of_ble_eq_true rfl) ?_
        show j_J X 2 56 [some (.ref a0), some (.int v7)] [] (0, 0) M4
        refine j_aload_n C0 (pc := 56) dX12_say_56 rfl ?_
        refine j_aload_n C0 (pc := 57) dX12_say_57 rfl ?_
        refine j_aload_n C0 (pc := 58) dX12_say_58 rfl ?_
        refine X_gI C0 (pc := 59) f_OM_433_10 rfl dX12_say_59 h (fun v8 h => ?_)
        refine X_cV C0 (pc := 62) (e' := e_I) (as := [.int v8]) (rest := [.ref a0]) (s' := fun w => .int w :: [.ref a0]) (g' := (0, 0)) v_OM_436_10 (fun Ψ hΨ => K_X12_verbOf a0 v8 M4 Ψ hΨ) rfl rfl (fun _ => rfl) (by decide) (by decide) rfl (Nat.le_of_ble_eq_true rfl) dX12_say_62 h (fun v9 M5 h => ?_)
        refine j_aload_n C0 (pc := 65) dX12_say_65 rfl ?_
        refine X_gN C0 (pc := 66) f_OM_93_10 rfl dX12_say_66 h (fun v10 h => ?_)
        refine j_bipush C0 (pc := 69) dX12_say_69 (v := (16 : Int32)) (by decide) ?_
        refine j_iload_n C0 (pc := 71) dX12_say_71 rfl ?_
        refine j_imul C0 (pc := 72) dX12_say_72 ?_
        refine X_cV C0 (pc := 73) (e' := e_V) (as := [.int v9, .ref v10, .int ((16 : Int32) * v7)]) (rest := []) (s' := fun _ => []) (g' := (0, 0)) v_OM_445_10 (fun Ψ hΨ => K_X12_laysMeant a0 v9 v10 ((16 : Int32) * v7) M5 Ψ hΨ) rfl rfl (fun _ => rfl) (by decide) (by decide) rfl (Nat.le_of_ble_eq_true rfl) dX12_say_73 h (fun _ M6 h => ?_)
        refine j_aload_n C0 (pc := 76) dX12_say_76 rfl ?_
        refine X_gN C0 (pc := 77) f_OM_96_10 rfl dX12_say_77 h (fun v11 h => ?_)
        refine j_iload_n C0 (pc := 80) dX12_say_80 rfl ?_
        refine j_aload_n C0 (pc := 81) dX12_say_81 rfl ?_
        refine X_gI C0 (pc := 82) f_OM_433_10 rfl dX12_say_82 h (fun v12 h => ?_)
        refine X_iast C0 (pc := 85) dX12_say_85 h (fun M7 h => ?_)
        refine j_aload_n C0 (pc := 86) dX12_say_86 rfl ?_
        refine X_gN C0 (pc := 87) f_OM_108_10 rfl dX12_say_87 h (fun v13 h => ?_)
        refine j_iconst C0 (pc := 90) dX12_say_90 (v := (0 : Int32)) (by decide) ?_
        refine j_dup2 C0 (pc := 91) dX12_say_91 rfl rfl ?_
        refine X_iald C0 (pc := 92) dX12_say_92 h (fun v14 h => ?_)
        refine j_iconst C0 (pc := 93) dX12_say_93 (v := (1 : Int32)) (by decide) ?_
        refine j_iadd C0 (pc := 94) dX12_say_94 ?_
        refine X_iast C0 (pc := 95) dX12_say_95 h (fun M8 h => ?_)
        refine j_iconst C0 (pc := 96) dX12_say_96 (v := (0 : Int32)) (by decide) ?_
        exact j_iret C rfl h dX12_say_97 (by decide)
      · replace h := (X_if h).1 hc
        refine j_bipush C0 (pc := 42) dX12_say_42 (v := (-3 : Int32)) (by decide) ?_
        exact j_iret C rfl h dX12_say_44 (by decide)
    · replace h := (X_if h).2 hc
      refine j_bipush C0 (pc := 28) dX12_say_28 (v := (-2 : Int32)) (by decide) ?_
      exact j_iret C rfl h dX12_say_30 (by decide)
  · replace h := (X_if h).1 hc
    refine j_aload_n C0 (pc := 12) dX12_say_12 rfl ?_
    refine X_gI C0 (pc := 13) f_OM_199_10 rfl dX12_say_13 h (fun v15 h => ?_)
    exact j_iret C rfl h dX12_say_16 (by decide)
theorem dX12_sayable_0 : decode cX12_sayable 0 = .ok (.aload_n 0, 1) := by decide +kernel
theorem dX12_sayable_1 : decode cX12_sayable 1 = .ok (.iconst 0, 1) := by decide +kernel
theorem dX12_sayable_2 : decode cX12_sayable 2 = .ok (.putfield 163, 3) := by decide +kernel
theorem dX12_sayable_5 : decode cX12_sayable 5 = .ok (.aload_n 0, 1) := by decide +kernel
theorem dX12_sayable_6 : decode cX12_sayable 6 = .ok (.iload_n 1, 1) := by decide +kernel
theorem dX12_sayable_7 : decode cX12_sayable 7 = .ok (.iload_n 2, 1) := by decide +kernel
theorem dX12_sayable_8 : decode cX12_sayable 8 = .ok (.invokevirtual 488, 3) := by decide +kernel
theorem dX12_sayable_11 : decode cX12_sayable 11 = .ok (.ifCond .ne 5, 3) := by decide +kernel
theorem dX12_sayable_14 : decode cX12_sayable 14 = .ok (.iconst (-1), 1) := by decide +kernel
theorem dX12_sayable_15 : decode cX12_sayable 15 = .ok (.ireturn, 1) := by decide +kernel
theorem dX12_sayable_16 : decode cX12_sayable 16 = .ok (.aload_n 0, 1) := by decide +kernel
theorem dX12_sayable_17 : decode cX12_sayable 17 = .ok (.invokevirtual 558, 3) := by decide +kernel
theorem dX12_sayable_20 : decode cX12_sayable 20 = .ok (.aload_n 0, 1) := by decide +kernel
theorem dX12_sayable_21 : decode cX12_sayable 21 = .ok (.getfield 153, 3) := by decide +kernel
theorem dX12_sayable_24 : decode cX12_sayable 24 = .ok (.iconst 4, 1) := by decide +kernel
theorem dX12_sayable_25 : decode cX12_sayable 25 = .ok (.iload_n 1, 1) := by decide +kernel
theorem dX12_sayable_26 : decode cX12_sayable 26 = .ok (.imul, 1) := by decide +kernel
theorem dX12_sayable_27 : decode cX12_sayable 27 = .ok (.iload_n 2, 1) := by decide +kernel
theorem dX12_sayable_28 : decode cX12_sayable 28 = .ok (.iadd, 1) := by decide +kernel
theorem dX12_sayable_29 : decode cX12_sayable 29 = .ok (.iaload, 1) := by decide +kernel
theorem dX12_sayable_30 : decode cX12_sayable 30 = .ok (.ireturn, 1) := by decide +kernel
noncomputable def F_X12_sayable (a0 : Nat) (a1 : Int32) (a2 : Int32) (M : m_M) : Option (Int32 × m_M) :=
  x_pI 10 M a0 0 (0 : Int32) fun M1 =>
  x_cV 10 M1 a0 (F_X12_isThingAt a0 a1 a2 M1) fun v1 M2 =>
  if v1 = 0 then (
    some ((-1 : Int32), M2)
  ) else
  x_cV 10 M2 a0 (F_X12_seeksSayable a0 M2) fun _ M3 =>
  x_gN 10 M3 a0 72 fun v2 =>
  x_aI 12 M3 v2 (((4 : Int32) * a1) + a2) fun v3 =>
  some (v3, M3)
set_option maxHeartbeats 4000000 in
theorem K_X12_sayable (a0 : Nat) (a1 : Int32) (a2 : Int32) (M : m_M) (Φ : Option Value → m_M → Prop) (h : m_ok e_I Φ (F_X12_sayable a0 a1 a2 M)) : j_Ct yX12_sayable cX12_sayable 3 (some .int) 10 0 0 [.ref a0, .int a1, .int a2] M Φ := by
  refine j_Ct.of (by decide +kernel) (Nat.le_of_ble_eq_true rfl) fun X C => ?_
  have C0 := C.1
  show j_J X 3 0 [some (.ref a0), some (.int a1), some (.int a2)] [] (0, 0) M
  unfold F_X12_sayable at h
  refine j_aload_n C0 (pc := 0) dX12_sayable_0 rfl ?_
  refine j_iconst C0 (pc := 1) dX12_sayable_1 (v := (0 : Int32)) (by decide) ?_
  refine X_pI C0 (pc := 2) f_OM_163_10 rfl rfl dX12_sayable_2 h (fun M1 h => ?_)
  refine j_aload_n C0 (pc := 5) dX12_sayable_5 rfl ?_
  refine j_iload_n C0 (pc := 6) dX12_sayable_6 rfl ?_
  refine j_iload_n C0 (pc := 7) dX12_sayable_7 rfl ?_
  refine X_cV C0 (pc := 8) (e' := e_I) (as := [.int a1, .int a2]) (rest := []) (s' := fun w => .int w :: []) (g' := (0, 0)) v_OM_488_10 (fun Ψ hΨ => K_X12_isThingAt a0 a1 a2 M1 Ψ hΨ) rfl rfl (fun _ => rfl) (by decide) (by decide) rfl (Nat.le_of_ble_eq_true rfl) dX12_sayable_8 h (fun v1 M2 h => ?_)
  refine j_if_ne C0 (pc := 11) (tgt := 16) dX12_sayable_11 (by decide) (fun hc => ?_) (fun hc => ?_)
  · replace h := (X_if h).2 hc
    refine j_aload_n C0 (pc := 16) dX12_sayable_16 rfl ?_
    refine X_cV C0 (pc := 17) (e' := e_V) (as := []) (rest := []) (s' := fun _ => []) (g' := (0, 0)) v_OM_558_10 (fun Ψ hΨ => K_X12_seeksSayable a0 M2 Ψ hΨ) rfl rfl (fun _ => rfl) (by decide) (by decide) rfl (Nat.le_of_ble_eq_true rfl) dX12_sayable_17 h (fun _ M3 h => ?_)
    refine j_aload_n C0 (pc := 20) dX12_sayable_20 rfl ?_
    refine X_gN C0 (pc := 21) f_OM_153_10 rfl dX12_sayable_21 h (fun v2 h => ?_)
    refine j_iconst C0 (pc := 24) dX12_sayable_24 (v := (4 : Int32)) (by decide) ?_
    refine j_iload_n C0 (pc := 25) dX12_sayable_25 rfl ?_
    refine j_imul C0 (pc := 26) dX12_sayable_26 ?_
    refine j_iload_n C0 (pc := 27) dX12_sayable_27 rfl ?_
    refine j_iadd C0 (pc := 28) dX12_sayable_28 ?_
    refine X_iald C0 (pc := 29) dX12_sayable_29 h (fun v3 h => ?_)
    exact j_iret C rfl h dX12_sayable_30 (by decide)
  · replace h := (X_if h).1 hc
    refine j_iconst C0 (pc := 14) dX12_sayable_14 (v := (-1 : Int32)) (by decide) ?_
    exact j_iret C rfl h dX12_sayable_15 (by decide)
theorem dX12_saying_0 : decode cX12_saying 0 = .ok (.aload_n 0, 1) := by decide +kernel
theorem dX12_saying_1 : decode cX12_saying 1 = .ok (.iconst 0, 1) := by decide +kernel
theorem dX12_saying_2 : decode cX12_saying 2 = .ok (.putfield 163, 3) := by decide +kernel
theorem dX12_saying_5 : decode cX12_saying 5 = .ok (.iload_n 1, 1) := by decide +kernel
theorem dX12_saying_6 : decode cX12_saying 6 = .ok (.ifCond .lt 22, 3) := by decide +kernel
theorem dX12_saying_9 : decode cX12_saying 9 = .ok (.iload_n 1, 1) := by decide +kernel
theorem dX12_saying_10 : decode cX12_saying 10 = .ok (.aload_n 0, 1) := by decide +kernel
theorem dX12_saying_11 : decode cX12_saying 11 = .ok (.getfield 108, 3) := by decide +kernel
theorem dX12_saying_14 : decode cX12_saying 14 = .ok (.iconst 0, 1) := by decide +kernel
theorem dX12_saying_15 : decode cX12_saying 15 = .ok (.iaload, 1) := by decide +kernel
theorem dX12_saying_16 : decode cX12_saying 16 = .ok (.if_icmp .ge 12, 3) := by decide +kernel
theorem dX12_saying_19 : decode cX12_saying 19 = .ok (.iload_n 2, 1) := by decide +kernel
theorem dX12_saying_20 : decode cX12_saying 20 = .ok (.iconst 0, 1) := by decide +kernel
theorem dX12_saying_21 : decode cX12_saying 21 = .ok (.iconst 1, 1) := by decide +kernel
theorem dX12_saying_22 : decode cX12_saying 22 = .ok (.invokestatic 279, 3) := by decide +kernel
theorem dX12_saying_25 : decode cX12_saying 25 = .ok (.ifCond .ne 5, 3) := by decide +kernel
theorem dX12_saying_28 : decode cX12_saying 28 = .ok (.iconst (-1), 1) := by decide +kernel
theorem dX12_saying_29 : decode cX12_saying 29 = .ok (.ireturn, 1) := by decide +kernel
theorem dX12_saying_30 : decode cX12_saying 30 = .ok (.iload_n 2, 1) := by decide +kernel
theorem dX12_saying_31 : decode cX12_saying 31 = .ok (.ifCond .ne 12, 3) := by decide +kernel
theorem dX12_saying_34 : decode cX12_saying 34 = .ok (.aload_n 0, 1) := by decide +kernel
theorem dX12_saying_35 : decode cX12_saying 35 = .ok (.getfield 96, 3) := by decide +kernel
theorem dX12_saying_38 : decode cX12_saying 38 = .ok (.iload_n 1, 1) := by decide +kernel
theorem dX12_saying_39 : decode cX12_saying 39 = .ok (.iaload, 1) := by decide +kernel
theorem dX12_saying_40 : decode cX12_saying 40 = .ok (.goto 15, 3) := by decide +kernel
theorem dX12_saying_43 : decode cX12_saying 43 = .ok (.aload_n 0, 1) := by decide +kernel
theorem dX12_saying_44 : decode cX12_saying 44 = .ok (.aload_n 0, 1) := by decide +kernel
theorem dX12_saying_45 : decode cX12_saying 45 = .ok (.getfield 93, 3) := by decide +kernel
theorem dX12_saying_48 : decode cX12_saying 48 = .ok (.bipush 16, 2) := by decide +kernel
theorem dX12_saying_50 : decode cX12_saying 50 = .ok (.iload_n 1, 1) := by decide +kernel
theorem dX12_saying_51 : decode cX12_saying 51 = .ok (.imul, 1) := by decide +kernel
theorem dX12_saying_52 : decode cX12_saying 52 = .ok (.invokevirtual 455, 3) := by decide +kernel
theorem dX12_saying_55 : decode cX12_saying 55 = .ok (.ireturn, 1) := by decide +kernel
noncomputable def F_X12_saying (a0 : Nat) (a1 : Int32) (a2 : Int32) (M : m_M) : Option (Int32 × m_M) :=
  x_pI 10 M a0 0 (0 : Int32) fun M1 =>
  if a1 < 0 then (
    some ((-1 : Int32), M1)
  ) else
  x_gN 10 M1 a0 51 fun v1 =>
  x_aI 12 M1 v1 (0 : Int32) fun v2 =>
  if v2 ≤ a1 then (
    some ((-1 : Int32), M1)
  ) else
  x_bd (F_X12_within a2 (0 : Int32) (1 : Int32) M1) fun v3 M2 =>
  if v3 = 0 then (
    some ((-1 : Int32), M2)
  ) else
  if a2 = 0 then (
    x_gN 10 M2 a0 47 fun v6 =>
    x_aI 12 M2 v6 a1 fun v7 =>
    some (v7, M2)
  ) else
  x_gN 10 M2 a0 46 fun v4 =>
  x_cV 10 M2 a0 (F_X12_countOf a0 v4 ((16 : Int32) * a1) M2) fun v5 M3 =>
  some (v5, M3)
set_option maxHeartbeats 4000000 in
theorem K_X12_saying (a0 : Nat) (a1 : Int32) (a2 : Int32) (M : m_M) (Φ : Option Value → m_M → Prop) (h : m_ok e_I Φ (F_X12_saying a0 a1 a2 M)) : j_Ct yX12_saying cX12_saying 3 (some .int) 3 0 0 [.ref a0, .int a1, .int a2] M Φ := by
  refine j_Ct.of (by decide +kernel) (Nat.le_of_ble_eq_true rfl) fun X C => ?_
  have C0 := C.1
  show j_J X 3 0 [some (.ref a0), some (.int a1), some (.int a2)] [] (0, 0) M
  unfold F_X12_saying at h
  refine j_aload_n C0 (pc := 0) dX12_saying_0 rfl ?_
  refine j_iconst C0 (pc := 1) dX12_saying_1 (v := (0 : Int32)) (by decide) ?_
  refine X_pI C0 (pc := 2) f_OM_163_10 rfl rfl dX12_saying_2 h (fun M1 h => ?_)
  refine j_iload_n C0 (pc := 5) dX12_saying_5 rfl ?_
  refine j_if_lt C0 (pc := 6) (tgt := 28) dX12_saying_6 (by decide) (fun hc => ?_) (fun hc => ?_)
  · replace h := (X_if h).1 hc
    refine j_iconst C0 (pc := 28) dX12_saying_28 (v := (-1 : Int32)) (by decide) ?_
    exact j_iret C rfl h dX12_saying_29 (by decide)
  · replace h := (X_if h).2 hc
    refine j_iload_n C0 (pc := 9) dX12_saying_9 rfl ?_
    refine j_aload_n C0 (pc := 10) dX12_saying_10 rfl ?_
    refine X_gN C0 (pc := 11) f_OM_108_10 rfl dX12_saying_11 h (fun v1 h => ?_)
    refine j_iconst C0 (pc := 14) dX12_saying_14 (v := (0 : Int32)) (by decide) ?_
    refine X_iald C0 (pc := 15) dX12_saying_15 h (fun v2 h => ?_)
    refine j_icmp_ge C0 (pc := 16) (tgt := 28) dX12_saying_16 (by decide) (fun hc => ?_) (fun hc => ?_)
    · replace h := (X_if h).1 hc
      refine j_iconst C0 (pc := 28) dX12_saying_28 (v := (-1 : Int32)) (by decide) ?_
      exact j_iret C rfl h dX12_saying_29 (by decide)
    · replace h := (X_if h).2 hc
      refine j_iload_n C0 (pc := 19) dX12_saying_19 rfl ?_
      refine j_iconst C0 (pc := 20) dX12_saying_20 (v := (0 : Int32)) (by decide) ?_
      refine j_iconst C0 (pc := 21) dX12_saying_21 (v := (1 : Int32)) (by decide) ?_
      refine X_cS C0 (pc := 22) (e' := e_I) (as := [.int a2, .int (0 : Int32), .int (1 : Int32)]) (rest := []) (s' := fun w => .int w :: []) (g' := (0, 0)) s_OM_279 (fun Ψ hΨ => K_X12_within a2 (0 : Int32) (1 : Int32) M1 Ψ hΨ) rfl rfl (fun _ => rfl) (by decide) (by decide) rfl (Nat.le_of_ble_eq_true rfl) dX12_saying_22 h (fun v3 M2 h => ?_)
      refine j_if_ne C0 (pc := 25) (tgt := 30) dX12_saying_25 (by decide) (fun hc => ?_) (fun hc => ?_)
      · replace h := (X_if h).2 hc
        refine j_iload_n C0 (pc := 30) dX12_saying_30 rfl ?_
        refine j_if_ne C0 (pc := 31) (tgt := 43) dX12_saying_31 (by decide) (fun hc => ?_) (fun hc => ?_)
        · replace h := (X_if h).2 hc
          refine j_aload_n C0 (pc := 43) dX12_saying_43 rfl ?_
          refine j_aload_n C0 (pc := 44) dX12_saying_44 rfl ?_
          refine X_gN C0 (pc := 45) f_OM_93_10 rfl dX12_saying_45 h (fun v4 h => ?_)
          refine j_bipush C0 (pc := 48) dX12_saying_48 (v := (16 : Int32)) (by decide) ?_
          refine j_iload_n C0 (pc := 50) dX12_saying_50 rfl ?_
          refine j_imul C0 (pc := 51) dX12_saying_51 ?_
          refine X_cV C0 (pc := 52) (e' := e_I) (as := [.ref v4, .int ((16 : Int32) * a1)]) (rest := []) (s' := fun w => .int w :: []) (g' := (0, 0)) v_OM_455_10 (fun Ψ hΨ => K_X12_countOf a0 v4 ((16 : Int32) * a1) M2 Ψ hΨ) rfl rfl (fun _ => rfl) (by decide) (by decide) rfl (Nat.le_of_ble_eq_true rfl) dX12_saying_52 h (fun v5 M3 h => ?_)
          exact j_iret C rfl h dX12_saying_55 (by decide)
        · replace h := (X_if h).1 hc
          refine j_aload_n C0 (pc := 34) dX12_saying_34 rfl ?_
          refine X_gN C0 (pc := 35) f_OM_96_10 rfl dX12_saying_35 h (fun v6 h => ?_)
          refine j_iload_n C0 (pc := 38) dX12_saying_38 rfl ?_
          refine X_iald C0 (pc := 39) dX12_saying_39 h (fun v7 h => ?_)
          refine j_goto C0 (pc := 40) (tgt := 55) dX12_saying_40 (by decide) ?_
          exact j_iret C rfl h dX12_saying_55 (by decide)
      · replace h := (X_if h).1 hc
        refine j_iconst C0 (pc := 28) dX12_saying_28 (v := (-1 : Int32)) (by decide) ?_
        exact j_iret C rfl h dX12_saying_29 (by decide)
theorem dX12_see_0 : decode cX12_see 0 = .ok (.aload_n 0, 1) := by decide +kernel
theorem dX12_see_1 : decode cX12_see 1 = .ok (.iconst 0, 1) := by decide +kernel
theorem dX12_see_2 : decode cX12_see 2 = .ok (.putfield 163, 3) := by decide +kernel
theorem dX12_see_5 : decode cX12_see 5 = .ok (.aload_n 0, 1) := by decide +kernel
theorem dX12_see_6 : decode cX12_see 6 = .ok (.iload_n 1, 1) := by decide +kernel
theorem dX12_see_7 : decode cX12_see 7 = .ok (.invokevirtual 475, 3) := by decide +kernel
theorem dX12_see_10 : decode cX12_see 10 = .ok (.ifCond .eq 22, 3) := by decide +kernel
theorem dX12_see_13 : decode cX12_see 13 = .ok (.aload_n 0, 1) := by decide +kernel
theorem dX12_see_14 : decode cX12_see 14 = .ok (.iload_n 2, 1) := by decide +kernel
theorem dX12_see_15 : decode cX12_see 15 = .ok (.invokevirtual 466, 3) := by decide +kernel
theorem dX12_see_18 : decode cX12_see 18 = .ok (.ifCond .eq 14, 3) := by decide +kernel
theorem dX12_see_21 : decode cX12_see 21 = .ok (.aload_n 0, 1) := by decide +kernel
theorem dX12_see_22 : decode cX12_see 22 = .ok (.getfield 126, 3) := by decide +kernel
theorem dX12_see_25 : decode cX12_see 25 = .ok (.iconst 0, 1) := by decide +kernel
theorem dX12_see_26 : decode cX12_see 26 = .ok (.iaload, 1) := by decide +kernel
theorem dX12_see_27 : decode cX12_see 27 = .ok (.bipush 20, 2) := by decide +kernel
theorem dX12_see_29 : decode cX12_see 29 = .ok (.if_icmp .ne 5, 3) := by decide +kernel
theorem dX12_see_32 : decode cX12_see 32 = .ok (.iconst 0, 1) := by decide +kernel
theorem dX12_see_33 : decode cX12_see 33 = .ok (.ireturn, 1) := by decide +kernel
theorem dX12_see_34 : decode cX12_see 34 = .ok (.aload_n 0, 1) := by decide +kernel
theorem dX12_see_35 : decode cX12_see 35 = .ok (.getfield 117, 3) := by decide +kernel
theorem dX12_see_38 : decode cX12_see 38 = .ok (.aload_n 0, 1) := by decide +kernel
theorem dX12_see_39 : decode cX12_see 39 = .ok (.getfield 126, 3) := by decide +kernel
theorem dX12_see_42 : decode cX12_see 42 = .ok (.iconst 0, 1) := by decide +kernel
theorem dX12_see_43 : decode cX12_see 43 = .ok (.iaload, 1) := by decide +kernel
theorem dX12_see_44 : decode cX12_see 44 = .ok (.iload_n 1, 1) := by decide +kernel
theorem dX12_see_45 : decode cX12_see 45 = .ok (.iastore, 1) := by decide +kernel
theorem dX12_see_46 : decode cX12_see 46 = .ok (.aload_n 0, 1) := by decide +kernel
theorem dX12_see_47 : decode cX12_see 47 = .ok (.getfield 120, 3) := by decide +kernel
theorem dX12_see_50 : decode cX12_see 50 = .ok (.aload_n 0, 1) := by decide +kernel
theorem dX12_see_51 : decode cX12_see 51 = .ok (.getfield 126, 3) := by decide +kernel
theorem dX12_see_54 : decode cX12_see 54 = .ok (.iconst 0, 1) := by decide +kernel
theorem dX12_see_55 : decode cX12_see 55 = .ok (.iaload, 1) := by decide +kernel
theorem dX12_see_56 : decode cX12_see 56 = .ok (.iload_n 2, 1) := by decide +kernel
theorem dX12_see_57 : decode cX12_see 57 = .ok (.iastore, 1) := by decide +kernel
theorem dX12_see_58 : decode cX12_see 58 = .ok (.aload_n 0, 1) := by decide +kernel
theorem dX12_see_59 : decode cX12_see 59 = .ok (.getfield 123, 3) := by decide +kernel
theorem dX12_see_62 : decode cX12_see 62 = .ok (.aload_n 0, 1) := by decide +kernel
theorem dX12_see_63 : decode cX12_see 63 = .ok (.getfield 126, 3) := by decide +kernel
theorem dX12_see_66 : decode cX12_see 66 = .ok (.iconst 0, 1) := by decide +kernel
theorem dX12_see_67 : decode cX12_see 67 = .ok (.iaload, 1) := by decide +kernel
theorem dX12_see_68 : decode cX12_see 68 = .ok (.iload_n 3, 1) := by decide +kernel
theorem dX12_see_69 : decode cX12_see 69 = .ok (.bastore, 1) := by decide +kernel
theorem dX12_see_70 : decode cX12_see 70 = .ok (.aload_n 0, 1) := by decide +kernel
theorem dX12_see_71 : decode cX12_see 71 = .ok (.getfield 126, 3) := by decide +kernel
theorem dX12_see_74 : decode cX12_see 74 = .ok (.iconst 0, 1) := by decide +kernel
theorem dX12_see_75 : decode cX12_see 75 = .ok (.dup2, 1) := by decide +kernel
theorem dX12_see_76 : decode cX12_see 76 = .ok (.iaload, 1) := by decide +kernel
theorem dX12_see_77 : decode cX12_see 77 = .ok (.iconst 1, 1) := by decide +kernel
theorem dX12_see_78 : decode cX12_see 78 = .ok (.iadd, 1) := by decide +kernel
theorem dX12_see_79 : decode cX12_see 79 = .ok (.iastore, 1) := by decide +kernel
theorem dX12_see_80 : decode cX12_see 80 = .ok (.iconst 1, 1) := by decide +kernel
theorem dX12_see_81 : decode cX12_see 81 = .ok (.ireturn, 1) := by decide +kernel
noncomputable def F_X12_see (a0 : Nat) (a1 : Int32) (a2 : Int32) (a3 : Int32) (M : m_M) : Option (Int32 × m_M) :=
  x_pI 10 M a0 0 (0 : Int32) fun M1 =>
  x_cV 10 M1 a0 (F_X12_isClause a0 a1 M1) fun v1 M2 =>
  if v1 = 0 then (
    some ((0 : Int32), M2)
  ) else
  x_cV 10 M2 a0 (F_X12_isWorld a0 a2 M2) fun v2 M3 =>
  if v2 = 0 then (
    some ((0 : Int32), M3)
  ) else
  x_gN 10 M3 a0 59 fun v3 =>
  x_aI 12 M3 v3 (0 : Int32) fun v4 =>
  if v4 = (20 : Int32) then (
    some ((0 : Int32), M3)
  ) else
  x_gN 10 M3 a0 56 fun v5 =>
  x_gN 10 M3 a0 59 fun v6 =>
  x_aI 12 M3 v6 (0 : Int32) fun v7 =>
  x_sI 12 M3 v5 v7 a1 fun M4 =>
  x_gN 10 M4 a0 57 fun v8 =>
  x_gN 10 M4 a0 59 fun v9 =>
  x_aI 12 M4 v9 (0 : Int32) fun v10 =>
  x_sI 12 M4 v8 v10 a2 fun M5 =>
  x_gN 10 M5 a0 58 fun v11 =>
  x_gN 10 M5 a0 59 fun v12 =>
  x_aI 12 M5 v12 (0 : Int32) fun v13 =>
  x_sI 14 M5 v11 v13 (vp_nar .boolean a3) fun M6 =>
  x_gN 10 M6 a0 59 fun v14 =>
  x_aI 12 M6 v14 (0 : Int32) fun v15 =>
  x_sI 12 M6 v14 (0 : Int32) (v15 + (1 : Int32)) fun M7 =>
  some ((1 : Int32), M7)
set_option maxHeartbeats 4000000 in
theorem K_X12_see (a0 : Nat) (a1 : Int32) (a2 : Int32) (a3 : Int32) (M : m_M) (Φ : Option Value → m_M → Prop) (h : m_ok e_I Φ (F_X12_see a0 a1 a2 a3 M)) : j_Ct yX12_see cX12_see 4 (some .boolean) 3 0 0 [.ref a0, .int a1, .int a2, .int a3] M Φ := by
  refine j_Ct.of (by decide +kernel) (Nat.le_of_ble_eq_true rfl) fun X C => ?_
  have C0 := C.1
  show j_J X 4 0 [some (.ref a0), some (.int a1), some (.int a2), some (.int a3)] [] (0, 0) M
  unfold F_X12_see at h
  refine j_aload_n C0 (pc := 0) dX12_see_0 rfl ?_
  refine j_iconst C0 (pc := 1) dX12_see_1 (v := (0 : Int32)) (by decide) ?_
  refine X_pI C0 (pc := 2) f_OM_163_10 rfl rfl dX12_see_2 h (fun M1 h => ?_)
  refine j_aload_n C0 (pc := 5) dX12_see_5 rfl ?_
  refine j_iload_n C0 (pc := 6) dX12_see_6 rfl ?_
  refine X_cV C0 (pc := 7) (e' := e_I) (as := [.int a1]) (rest := []) (s' := fun w => .int w :: []) (g' := (0, 0)) v_OM_475_10 (fun Ψ hΨ => K_X12_isClause a0 a1 M1 Ψ hΨ) rfl rfl (fun _ => rfl) (by decide) (by decide) rfl (Nat.le_of_ble_eq_true rfl) dX12_see_7 h (fun v1 M2 h => ?_)
  refine j_if_eq C0 (pc := 10) (tgt := 32) dX12_see_10 (by decide) (fun hc => ?_) (fun hc => ?_)
  · replace h := (X_if h).1 hc
    refine j_iconst C0 (pc := 32) dX12_see_32 (v := (0 : Int32)) (by decide) ?_
    exact j_zret C rfl (by decide) h dX12_see_33 (by decide)
  · replace h := (X_if h).2 hc
    refine j_aload_n C0 (pc := 13) dX12_see_13 rfl ?_
    refine j_iload_n C0 (pc := 14) dX12_see_14 rfl ?_
    refine X_cV C0 (pc := 15) (e' := e_I) (as := [.int a2]) (rest := []) (s' := fun w => .int w :: []) (g' := (0, 0)) v_OM_466_10 (fun Ψ hΨ => K_X12_isWorld a0 a2 M2 Ψ hΨ) rfl rfl (fun _ => rfl) (by decide) (by decide) rfl (Nat.le_of_ble_eq_true rfl) dX12_see_15 h (fun v2 M3 h => ?_)
    refine j_if_eq C0 (pc := 18) (tgt := 32) dX12_see_18 (by decide) (fun hc => ?_) (fun hc => ?_)
    · replace h := (X_if h).1 hc
      refine j_iconst C0 (pc := 32) dX12_see_32 (v := (0 : Int32)) (by decide) ?_
      exact j_zret C rfl (by decide) h dX12_see_33 (by decide)
    · replace h := (X_if h).2 hc
      refine j_aload_n C0 (pc := 21) dX12_see_21 rfl ?_
      refine X_gN C0 (pc := 22) f_OM_126_10 rfl dX12_see_22 h (fun v3 h => ?_)
      refine j_iconst C0 (pc := 25) dX12_see_25 (v := (0 : Int32)) (by decide) ?_
      refine X_iald C0 (pc := 26) dX12_see_26 h (fun v4 h => ?_)
      refine j_bipush C0 (pc := 27) dX12_see_27 (v := (20 : Int32)) (by decide) ?_
      refine j_icmp_ne C0 (pc := 29) (tgt := 34) dX12_see_29 (by decide) (fun hc => ?_) (fun hc => ?_)
      · replace h := (X_if h).2 hc
        refine j_aload_n C0 (pc := 34) dX12_see_34 rfl ?_
        refine X_gN C0 (pc := 35) f_OM_117_10 rfl dX12_see_35 h (fun v5 h => ?_)
        refine j_aload_n C0 (pc := 38) dX12_see_38 rfl ?_
        refine X_gN C0 (pc := 39) f_OM_126_10 rfl dX12_see_39 h (fun v6 h => ?_)
        refine j_iconst C0 (pc := 42) dX12_see_42 (v := (0 : Int32)) (by decide) ?_
        refine X_iald C0 (pc := 43) dX12_see_43 h (fun v7 h => ?_)
        refine j_iload_n C0 (pc := 44) dX12_see_44 rfl ?_
        refine X_iast C0 (pc := 45) dX12_see_45 h (fun M4 h => ?_)
        refine j_aload_n C0 (pc := 46) dX12_see_46 rfl ?_
        refine X_gN C0 (pc := 47) f_OM_120_10 rfl dX12_see_47 h (fun v8 h => ?_)
        refine j_aload_n C0 (pc := 50) dX12_see_50 rfl ?_
        refine X_gN C0 (pc := 51) f_OM_126_10 rfl dX12_see_51 h (fun v9 h => ?_)
        refine j_iconst C0 (pc := 54) dX12_see_54 (v := (0 : Int32)) (by decide) ?_
        refine X_iald C0 (pc := 55) dX12_see_55 h (fun v10 h => ?_)
        refine j_iload_n C0 (pc := 56) dX12_see_56 rfl ?_
        refine X_iast C0 (pc := 57) dX12_see_57 h (fun M5 h => ?_)
        refine j_aload_n C0 (pc := 58) dX12_see_58 rfl ?_
        refine X_gN C0 (pc := 59) f_OM_123_10 rfl dX12_see_59 h (fun v11 h => ?_)
        refine j_aload_n C0 (pc := 62) dX12_see_62 rfl ?_
        refine X_gN C0 (pc := 63) f_OM_126_10 rfl dX12_see_63 h (fun v12 h => ?_)
        refine j_iconst C0 (pc := 66) dX12_see_66 (v := (0 : Int32)) (by decide) ?_
        refine X_iald C0 (pc := 67) dX12_see_67 h (fun v13 h => ?_)
        refine j_iload_n C0 (pc := 68) dX12_see_68 rfl ?_
        refine X_zast C0 (pc := 69) dX12_see_69 h (fun M6 h => ?_)
        refine j_aload_n C0 (pc := 70) dX12_see_70 rfl ?_
        refine X_gN C0 (pc := 71) f_OM_126_10 rfl dX12_see_71 h (fun v14 h => ?_)
        refine j_iconst C0 (pc := 74) dX12_see_74 (v := (0 : Int32)) (by decide) ?_
        refine j_dup2 C0 (pc := 75) dX12_see_75 rfl rfl ?_
        refine X_iald C0 (pc := 76) dX12_see_76 h (fun v15 h => ?_)
        refine j_iconst C0 (pc := 77) dX12_see_77 (v := (1 : Int32)) (by decide) ?_
        refine j_iadd C0 (pc := 78) dX12_see_78 ?_
        refine X_iast C0 (pc := 79) dX12_see_79 h (fun M7 h => ?_)
        refine j_iconst C0 (pc := 80) dX12_see_80 (v := (1 : Int32)) (by decide) ?_
        exact j_zret C rfl (by decide) h dX12_see_81 (by decide)
      · replace h := (X_if h).1 hc
        refine j_iconst C0 (pc := 32) dX12_see_32 (v := (0 : Int32)) (by decide) ?_
        exact j_zret C rfl (by decide) h dX12_see_33 (by decide)
theorem dX12_wordsOf_0 : decode cX12_wordsOf 0 = .ok (.iload_n 0, 1) := by decide +kernel
theorem dX12_wordsOf_1 : decode cX12_wordsOf 1 = .ok (.iconst 2, 1) := by decide +kernel
theorem dX12_wordsOf_2 : decode cX12_wordsOf 2 = .ok (.idiv, 1) := by decide +kernel
theorem dX12_wordsOf_3 : decode cX12_wordsOf 3 = .ok (.istore_n 1, 1) := by decide +kernel
theorem dX12_wordsOf_4 : decode cX12_wordsOf 4 = .ok (.iconst 2, 1) := by decide +kernel
theorem dX12_wordsOf_5 : decode cX12_wordsOf 5 = .ok (.iload_n 1, 1) := by decide +kernel
theorem dX12_wordsOf_6 : decode cX12_wordsOf 6 = .ok (.bipush 20, 2) := by decide +kernel
theorem dX12_wordsOf_8 : decode cX12_wordsOf 8 = .ok (.idiv, 1) := by decide +kernel
theorem dX12_wordsOf_9 : decode cX12_wordsOf 9 = .ok (.iconst 4, 1) := by decide +kernel
theorem dX12_wordsOf_10 : decode cX12_wordsOf 10 = .ok (.irem, 1) := by decide +kernel
theorem dX12_wordsOf_11 : decode cX12_wordsOf 11 = .ok (.ifCond .le 7, 3) := by decide +kernel
theorem dX12_wordsOf_14 : decode cX12_wordsOf 14 = .ok (.iconst 1, 1) := by decide +kernel
theorem dX12_wordsOf_15 : decode cX12_wordsOf 15 = .ok (.goto 4, 3) := by decide +kernel
theorem dX12_wordsOf_18 : decode cX12_wordsOf 18 = .ok (.iconst 0, 1) := by decide +kernel
theorem dX12_wordsOf_19 : decode cX12_wordsOf 19 = .ok (.iadd, 1) := by decide +kernel
theorem dX12_wordsOf_20 : decode cX12_wordsOf 20 = .ok (.iload_n 1, 1) := by decide +kernel
theorem dX12_wordsOf_21 : decode cX12_wordsOf 21 = .ok (.bipush 20, 2) := by decide +kernel
theorem dX12_wordsOf_23 : decode cX12_wordsOf 23 = .ok (.irem, 1) := by decide +kernel
theorem dX12_wordsOf_24 : decode cX12_wordsOf 24 = .ok (.iconst 4, 1) := by decide +kernel
theorem dX12_wordsOf_25 : decode cX12_wordsOf 25 = .ok (.irem, 1) := by decide +kernel
theorem dX12_wordsOf_26 : decode cX12_wordsOf 26 = .ok (.ifCond .le 7, 3) := by decide +kernel
theorem dX12_wordsOf_29 : decode cX12_wordsOf 29 = .ok (.iconst 1, 1) := by decide +kernel
theorem dX12_wordsOf_30 : decode cX12_wordsOf 30 = .ok (.goto 4, 3) := by decide +kernel
theorem dX12_wordsOf_33 : decode cX12_wordsOf 33 = .ok (.iconst 0, 1) := by decide +kernel
theorem dX12_wordsOf_34 : decode cX12_wordsOf 34 = .ok (.iadd, 1) := by decide +kernel
theorem dX12_wordsOf_35 : decode cX12_wordsOf 35 = .ok (.iload_n 0, 1) := by decide +kernel
theorem dX12_wordsOf_36 : decode cX12_wordsOf 36 = .ok (.iconst 2, 1) := by decide +kernel
theorem dX12_wordsOf_37 : decode cX12_wordsOf 37 = .ok (.irem, 1) := by decide +kernel
theorem dX12_wordsOf_38 : decode cX12_wordsOf 38 = .ok (.iadd, 1) := by decide +kernel
theorem dX12_wordsOf_39 : decode cX12_wordsOf 39 = .ok (.ireturn, 1) := by decide +kernel
noncomputable def F_X12_wordsOf (a1 : Int32) (M : m_M) : Option (Int32 × m_M) :=
  m_let (fun (v1 : Int32) (v2 : Int32) (v3 : Int32) (v4 : Int32) (M1 : m_M) =>
    m_let (fun (v5 : Int32) (v6 : Int32) (v7 : Int32) (M2 : m_M) =>
      x_nz (2 : Int32) <|
      some ((v6 + v7) + (v5 - v5 / (2 : Int32) * (2 : Int32)), M2)
    ) fun (k34 : Int32 → Int32 → Int32 → m_M → Option (Int32 × m_M)) =>
    x_nz (20 : Int32) <|
    x_nz (4 : Int32) <|
    if ((v2 - v2 / (20 : Int32) * (20 : Int32)) - (v2 - v2 / (20 : Int32) * (20 : Int32)) / (4 : Int32) * (4 : Int32)) ≤ 0 then (
      k34 v1 (v3 + v4) (0 : Int32) M1
    ) else
    k34 v1 (v3 + v4) (1 : Int32) M1
  ) fun (k19 : Int32 → Int32 → Int32 → Int32 → m_M → Option (Int32 × m_M)) =>
  x_nz (2 : Int32) <|
  m_let (a1 / (2 : Int32)) fun v8 =>
  x_nz (20 : Int32) <|
  x_nz (4 : Int32) <|
  if ((v8 / (20 : Int32)) - (v8 / (20 : Int32)) / (4 : Int32) * (4 : Int32)) ≤ 0 then (
    k19 a1 v8 (2 : Int32) (0 : Int32) M
  ) else
  k19 a1 v8 (2 : Int32) (1 : Int32) M
set_option maxHeartbeats 4000000 in
theorem K_X12_wordsOf (a1 : Int32) (M : m_M) (Φ : Option Value → m_M → Prop) (h : m_ok e_I Φ (F_X12_wordsOf a1 M)) : j_Ct yX12_wordsOf cX12_wordsOf 2 (some .int) 1 0 0 [.int a1] M Φ := by
  refine j_Ct.of (by decide +kernel) (Nat.le_of_ble_eq_true rfl) fun X C => ?_
  have C0 := C.1
  show j_J X 2 0 [some (.int a1), none] [] (0, 0) M
  unfold F_X12_wordsOf at h
  refine X_join (fun (kj : Int32 → Int32 → Int32 → Int32 → m_M → Option (Int32 × m_M)) => ∀ (p0 : Int32) (p1 : Int32) (p2 : Int32) (p3 : Int32) (M : m_M), m_ok e_I Φ (kj p0 p1 p2 p3 M) → j_J X 2 19 [some (.int p0), some (.int p1)] [.int p3, .int p2] (0, 0) M) h (fun v1 v2 v3 v4 M1 h => ?_) (fun k19 hk19 h => ?_)
  · refine X_join (fun (kj : Int32 → Int32 → Int32 → m_M → Option (Int32 × m_M)) => ∀ (p0 : Int32) (p1 : Int32) (p2 : Int32) (M : m_M), m_ok e_I Φ (kj p0 p1 p2 M) → j_J X 2 34 [some (.int p0), none] [.int p2, .int p1] (0, 0) M) h (fun v5 v6 v7 M2 h => ?_) (fun k34 hk34 h => ?_)
    · refine j_iadd C0 (pc := 34) dX12_wordsOf_34 ?_
      refine j_iload_n C0 (pc := 35) dX12_wordsOf_35 rfl ?_
      refine j_iconst C0 (pc := 36) dX12_wordsOf_36 (v := (2 : Int32)) (by decide) ?_
      refine X_irem C0 (pc := 37) dX12_wordsOf_37 h (fun h => ?_)
      refine j_iadd C0 (pc := 38) dX12_wordsOf_38 ?_
      exact j_iret C rfl h dX12_wordsOf_39 (by decide)
    · refine j_iadd C0 (pc := 19) dX12_wordsOf_19 ?_
      refine j_iload_n C0 (pc := 20) dX12_wordsOf_20 rfl ?_
      refine j_bipush C0 (pc := 21) dX12_wordsOf_21 (v := (20 : Int32)) (by decide) ?_
      refine X_irem C0 (pc := 23) dX12_wordsOf_23 h (fun h => ?_)
      refine j_iconst C0 (pc := 24) dX12_wordsOf_24 (v := (4 : Int32)) (by decide) ?_
      refine X_irem C0 (pc := 25) dX12_wordsOf_25 h (fun h => ?_)
      refine j_if_le C0 (pc := 26) (tgt := 33) dX12_wordsOf_26 (by decide) (fun hc => ?_) (fun hc => ?_)
      · replace h := (X_if h).1 hc
        refine j_iconst C0 (pc := 33) dX12_wordsOf_33 (v := (0 : Int32)) (by decide) ?_
        exact j_J.wq (hk34 v1 (v3 + v4) (0 : Int32) M1 h) (And.intro rfl (trivial))
      · replace h := (X_if h).2 hc
        refine j_iconst C0 (pc := 29) dX12_wordsOf_29 (v := (1 : Int32)) (by decide) ?_
        refine j_goto C0 (pc := 30) (tgt := 34) dX12_wordsOf_30 (by decide) ?_
        exact j_J.wq (hk34 v1 (v3 + v4) (1 : Int32) M1 h) (And.intro rfl (trivial))
  · refine j_iload_n C0 (pc := 0) dX12_wordsOf_0 rfl ?_
    refine j_iconst C0 (pc := 1) dX12_wordsOf_1 (v := (2 : Int32)) (by decide) ?_
    refine X_idiv C0 (pc := 2) dX12_wordsOf_2 h (fun h => ?_)
    refine X_let (G := fun w => j_J X 2 3 [some (.int a1), none] (.int w :: []) (0, 0) M) h (fun v8 h => ?_)
    refine j_istore_n C0 (pc := 3) dX12_wordsOf_3 (Nat.le_of_ble_eq_true rfl) ?_
    show j_J X 2 4 [some (.int a1), some (.int v8)] [] (0, 0) M
    refine j_iconst C0 (pc := 4) dX12_wordsOf_4 (v := (2 : Int32)) (by decide) ?_
    refine j_iload_n C0 (pc := 5) dX12_wordsOf_5 rfl ?_
    refine j_bipush C0 (pc := 6) dX12_wordsOf_6 (v := (20 : Int32)) (by decide) ?_
    refine X_idiv C0 (pc := 8) dX12_wordsOf_8 h (fun h => ?_)
    refine j_iconst C0 (pc := 9) dX12_wordsOf_9 (v := (4 : Int32)) (by decide) ?_
    refine X_irem C0 (pc := 10) dX12_wordsOf_10 h (fun h => ?_)
    refine j_if_le C0 (pc := 11) (tgt := 18) dX12_wordsOf_11 (by decide) (fun hc => ?_) (fun hc => ?_)
    · replace h := (X_if h).1 hc
      refine j_iconst C0 (pc := 18) dX12_wordsOf_18 (v := (0 : Int32)) (by decide) ?_
      exact j_J.wq (hk19 a1 v8 (2 : Int32) (0 : Int32) M h) (And.intro rfl (And.intro rfl (trivial)))
    · replace h := (X_if h).2 hc
      refine j_iconst C0 (pc := 14) dX12_wordsOf_14 (v := (1 : Int32)) (by decide) ?_
      refine j_goto C0 (pc := 15) (tgt := 19) dX12_wordsOf_15 (by decide) ?_
      exact j_J.wq (hk19 a1 v8 (2 : Int32) (1 : Int32) M h) (And.intro rfl (And.intro rfl (trivial)))
theorem dX12_seeksShortest_0 : decode cX12_seeksShortest 0 = .ok (.aload_n 0, 1) := by decide +kernel
theorem dX12_seeksShortest_1 : decode cX12_seeksShortest 1 = .ok (.iconst (-1), 1) := by decide +kernel
theorem dX12_seeksShortest_2 : decode cX12_seeksShortest 2 = .ok (.putfield 498, 3) := by decide +kernel
theorem dX12_seeksShortest_5 : decode cX12_seeksShortest 5 = .ok (.iconst 0, 1) := by decide +kernel
theorem dX12_seeksShortest_6 : decode cX12_seeksShortest 6 = .ok (.istore_n 2, 1) := by decide +kernel
theorem dX12_seeksShortest_7 : decode cX12_seeksShortest 7 = .ok (.iload_n 2, 1) := by decide +kernel
theorem dX12_seeksShortest_8 : decode cX12_seeksShortest 8 = .ok (.sipush 800, 3) := by decide +kernel
theorem dX12_seeksShortest_11 : decode cX12_seeksShortest 11 = .ok (.if_icmp .ge 50, 3) := by decide +kernel
theorem dX12_seeksShortest_14 : decode cX12_seeksShortest 14 = .ok (.aload_n 0, 1) := by decide +kernel
theorem dX12_seeksShortest_15 : decode cX12_seeksShortest 15 = .ok (.iload_n 2, 1) := by decide +kernel
theorem dX12_seeksShortest_16 : decode cX12_seeksShortest 16 = .ok (.iconst 2, 1) := by decide +kernel
theorem dX12_seeksShortest_17 : decode cX12_seeksShortest 17 = .ok (.idiv, 1) := by decide +kernel
theorem dX12_seeksShortest_18 : decode cX12_seeksShortest 18 = .ok (.invokevirtual 475, 3) := by decide +kernel
theorem dX12_seeksShortest_21 : decode cX12_seeksShortest 21 = .ok (.ifCond .eq 34, 3) := by decide +kernel
theorem dX12_seeksShortest_24 : decode cX12_seeksShortest 24 = .ok (.aload_n 0, 1) := by decide +kernel
theorem dX12_seeksShortest_25 : decode cX12_seeksShortest 25 = .ok (.aload_n 0, 1) := by decide +kernel
theorem dX12_seeksShortest_26 : decode cX12_seeksShortest 26 = .ok (.getfield 141, 3) := by decide +kernel
theorem dX12_seeksShortest_29 : decode cX12_seeksShortest 29 = .ok (.bipush 16, 2) := by decide +kernel
theorem dX12_seeksShortest_31 : decode cX12_seeksShortest 31 = .ok (.iload_n 2, 1) := by decide +kernel
theorem dX12_seeksShortest_32 : decode cX12_seeksShortest 32 = .ok (.imul, 1) := by decide +kernel
theorem dX12_seeksShortest_33 : decode cX12_seeksShortest 33 = .ok (.aload_n 0, 1) := by decide +kernel
theorem dX12_seeksShortest_34 : decode cX12_seeksShortest 34 = .ok (.getfield 111, 3) := by decide +kernel
theorem dX12_seeksShortest_37 : decode cX12_seeksShortest 37 = .ok (.iload_n 1, 1) := by decide +kernel
theorem dX12_seeksShortest_38 : decode cX12_seeksShortest 38 = .ok (.invokevirtual 484, 3) := by decide +kernel
theorem dX12_seeksShortest_41 : decode cX12_seeksShortest 41 = .ok (.ifCond .eq 14, 3) := by decide +kernel
theorem dX12_seeksShortest_44 : decode cX12_seeksShortest 44 = .ok (.aload_n 0, 1) := by decide +kernel
theorem dX12_seeksShortest_45 : decode cX12_seeksShortest 45 = .ok (.iload_n 2, 1) := by decide +kernel
theorem dX12_seeksShortest_46 : decode cX12_seeksShortest 46 = .ok (.invokestatic 510, 3) := by decide +kernel
theorem dX12_seeksShortest_49 : decode cX12_seeksShortest 49 = .ok (.iconst 0, 1) := by decide +kernel
theorem dX12_seeksShortest_50 : decode cX12_seeksShortest 50 = .ok (.iload_n 2, 1) := by decide +kernel
theorem dX12_seeksShortest_51 : decode cX12_seeksShortest 51 = .ok (.iconst (-1), 1) := by decide +kernel
theorem dX12_seeksShortest_52 : decode cX12_seeksShortest 52 = .ok (.invokevirtual 513, 3) := by decide +kernel
theorem dX12_seeksShortest_55 : decode cX12_seeksShortest 55 = .ok (.iinc 2 1, 3) := by decide +kernel
theorem dX12_seeksShortest_58 : decode cX12_seeksShortest 58 = .ok (.goto (-51), 3) := by decide +kernel
theorem dX12_seeksShortest_61 : decode cX12_seeksShortest 61 = .ok (.iconst 1, 1) := by decide +kernel
theorem dX12_seeksShortest_62 : decode cX12_seeksShortest 62 = .ok (.istore_n 2, 1) := by decide +kernel
theorem dX12_seeksShortest_63 : decode cX12_seeksShortest 63 = .ok (.iload_n 2, 1) := by decide +kernel
theorem dX12_seeksShortest_64 : decode cX12_seeksShortest 64 = .ok (.iconst 3, 1) := by decide +kernel
theorem dX12_seeksShortest_65 : decode cX12_seeksShortest 65 = .ok (.if_icmp .ge 136, 3) := by decide +kernel
theorem dX12_seeksShortest_68 : decode cX12_seeksShortest 68 = .ok (.iconst 0, 1) := by decide +kernel
theorem dX12_seeksShortest_69 : decode cX12_seeksShortest 69 = .ok (.istore_n 3, 1) := by decide +kernel
theorem dX12_seeksShortest_70 : decode cX12_seeksShortest 70 = .ok (.iload_n 3, 1) := by decide +kernel
theorem dX12_seeksShortest_71 : decode cX12_seeksShortest 71 = .ok (.sipush 800, 3) := by decide +kernel
theorem dX12_seeksShortest_74 : decode cX12_seeksShortest 74 = .ok (.if_icmp .ge 121, 3) := by decide +kernel
theorem dX12_seeksShortest_77 : decode cX12_seeksShortest 77 = .ok (.iload_n 3, 1) := by decide +kernel
theorem dX12_seeksShortest_78 : decode cX12_seeksShortest 78 = .ok (.iconst 1, 1) := by decide +kernel
theorem dX12_seeksShortest_79 : decode cX12_seeksShortest 79 = .ok (.iadd, 1) := by decide +kernel
theorem dX12_seeksShortest_80 : decode cX12_seeksShortest 80 = .ok (.istore 4, 2) := by decide +kernel
theorem dX12_seeksShortest_82 : decode cX12_seeksShortest 82 = .ok (.iload 4, 2) := by decide +kernel
theorem dX12_seeksShortest_84 : decode cX12_seeksShortest 84 = .ok (.sipush 800, 3) := by decide +kernel
theorem dX12_seeksShortest_87 : decode cX12_seeksShortest 87 = .ok (.if_icmp .ge 102, 3) := by decide +kernel
theorem dX12_seeksShortest_90 : decode cX12_seeksShortest 90 = .ok (.aload_n 0, 1) := by decide +kernel
theorem dX12_seeksShortest_91 : decode cX12_seeksShortest 91 = .ok (.iload_n 3, 1) := by decide +kernel
theorem dX12_seeksShortest_92 : decode cX12_seeksShortest 92 = .ok (.iconst 2, 1) := by decide +kernel
theorem dX12_seeksShortest_93 : decode cX12_seeksShortest 93 = .ok (.idiv, 1) := by decide +kernel
theorem dX12_seeksShortest_94 : decode cX12_seeksShortest 94 = .ok (.invokevirtual 475, 3) := by decide +kernel
theorem dX12_seeksShortest_97 : decode cX12_seeksShortest 97 = .ok (.ifCond .eq 92, 3) := by decide +kernel
theorem dX12_seeksShortest_100 : decode cX12_seeksShortest 100 = .ok (.iload_n 3, 1) := by decide +kernel
theorem dX12_seeksShortest_101 : decode cX12_seeksShortest 101 = .ok (.invokestatic 510, 3) := by decide +kernel
theorem dX12_seeksShortest_104 : decode cX12_seeksShortest 104 = .ok (.iload 4, 2) := by decide +kernel
theorem dX12_seeksShortest_106 : decode cX12_seeksShortest 106 = .ok (.invokestatic 510, 3) := by decide +kernel
theorem dX12_seeksShortest_109 : decode cX12_seeksShortest 109 = .ok (.iadd, 1) := by decide +kernel
theorem dX12_seeksShortest_110 : decode cX12_seeksShortest 110 = .ok (.iconst 1, 1) := by decide +kernel
theorem dX12_seeksShortest_111 : decode cX12_seeksShortest 111 = .ok (.iadd, 1) := by decide +kernel
theorem dX12_seeksShortest_112 : decode cX12_seeksShortest 112 = .ok (.istore 5, 2) := by decide +kernel
theorem dX12_seeksShortest_114 : decode cX12_seeksShortest 114 = .ok (.aload_n 0, 1) := by decide +kernel
theorem dX12_seeksShortest_115 : decode cX12_seeksShortest 115 = .ok (.getfield 498, 3) := by decide +kernel
theorem dX12_seeksShortest_118 : decode cX12_seeksShortest 118 = .ok (.ifCond .lt 32, 3) := by decide +kernel
theorem dX12_seeksShortest_121 : decode cX12_seeksShortest 121 = .ok (.iload 5, 2) := by decide +kernel
theorem dX12_seeksShortest_123 : decode cX12_seeksShortest 123 = .ok (.aload_n 0, 1) := by decide +kernel
theorem dX12_seeksShortest_124 : decode cX12_seeksShortest 124 = .ok (.getfield 498, 3) := by decide +kernel
theorem dX12_seeksShortest_127 : decode cX12_seeksShortest 127 = .ok (.if_icmp .lt 23, 3) := by decide +kernel
theorem dX12_seeksShortest_130 : decode cX12_seeksShortest 130 = .ok (.iload 5, 2) := by decide +kernel
theorem dX12_seeksShortest_132 : decode cX12_seeksShortest 132 = .ok (.aload_n 0, 1) := by decide +kernel
theorem dX12_seeksShortest_133 : decode cX12_seeksShortest 133 = .ok (.getfield 498, 3) := by decide +kernel
theorem dX12_seeksShortest_136 : decode cX12_seeksShortest 136 = .ok (.if_icmp .gt 47, 3) := by decide +kernel
theorem dX12_seeksShortest_139 : decode cX12_seeksShortest 139 = .ok (.iload_n 2, 1) := by decide +kernel
theorem dX12_seeksShortest_140 : decode cX12_seeksShortest 140 = .ok (.aload_n 0, 1) := by decide +kernel
theorem dX12_seeksShortest_141 : decode cX12_seeksShortest 141 = .ok (.getfield 501, 3) := by decide +kernel
theorem dX12_seeksShortest_144 : decode cX12_seeksShortest 144 = .ok (.if_icmp .lt 6, 3) := by decide +kernel
theorem dX12_seeksShortest_147 : decode cX12_seeksShortest 147 = .ok (.goto 36, 3) := by decide +kernel
theorem dX12_seeksShortest_150 : decode cX12_seeksShortest 150 = .ok (.aload_n 0, 1) := by decide +kernel
theorem dX12_seeksShortest_151 : decode cX12_seeksShortest 151 = .ok (.iload 4, 2) := by decide +kernel
theorem dX12_seeksShortest_153 : decode cX12_seeksShortest 153 = .ok (.iconst 2, 1) := by decide +kernel
theorem dX12_seeksShortest_154 : decode cX12_seeksShortest 154 = .ok (.idiv, 1) := by decide +kernel
theorem dX12_seeksShortest_155 : decode cX12_seeksShortest 155 = .ok (.invokevirtual 475, 3) := by decide +kernel
theorem dX12_seeksShortest_158 : decode cX12_seeksShortest 158 = .ok (.ifCond .eq 25, 3) := by decide +kernel
theorem dX12_seeksShortest_161 : decode cX12_seeksShortest 161 = .ok (.aload_n 0, 1) := by decide +kernel
theorem dX12_seeksShortest_162 : decode cX12_seeksShortest 162 = .ok (.iload_n 2, 1) := by decide +kernel
theorem dX12_seeksShortest_163 : decode cX12_seeksShortest 163 = .ok (.iload_n 3, 1) := by decide +kernel
theorem dX12_seeksShortest_164 : decode cX12_seeksShortest 164 = .ok (.iload 4, 2) := by decide +kernel
theorem dX12_seeksShortest_166 : decode cX12_seeksShortest 166 = .ok (.iload_n 1, 1) := by decide +kernel
theorem dX12_seeksShortest_167 : decode cX12_seeksShortest 167 = .ok (.invokevirtual 517, 3) := by decide +kernel
theorem dX12_seeksShortest_170 : decode cX12_seeksShortest 170 = .ok (.ifCond .eq 13, 3) := by decide +kernel
theorem dX12_seeksShortest_173 : decode cX12_seeksShortest 173 = .ok (.aload_n 0, 1) := by decide +kernel
theorem dX12_seeksShortest_174 : decode cX12_seeksShortest 174 = .ok (.iload 5, 2) := by decide +kernel
theorem dX12_seeksShortest_176 : decode cX12_seeksShortest 176 = .ok (.iload_n 2, 1) := by decide +kernel
theorem dX12_seeksShortest_177 : decode cX12_seeksShortest 177 = .ok (.iload_n 3, 1) := by decide +kernel
theorem dX12_seeksShortest_178 : decode cX12_seeksShortest 178 = .ok (.iload 4, 2) := by decide +kernel
theorem dX12_seeksShortest_180 : decode cX12_seeksShortest 180 = .ok (.invokevirtual 513, 3) := by decide +kernel
theorem dX12_seeksShortest_183 : decode cX12_seeksShortest 183 = .ok (.iinc 4 1, 3) := by decide +kernel
theorem dX12_seeksShortest_186 : decode cX12_seeksShortest 186 = .ok (.goto (-104), 3) := by decide +kernel
theorem dX12_seeksShortest_189 : decode cX12_seeksShortest 189 = .ok (.iinc 3 1, 3) := by decide +kernel
theorem dX12_seeksShortest_192 : decode cX12_seeksShortest 192 = .ok (.goto (-122), 3) := by decide +kernel
theorem dX12_seeksShortest_195 : decode cX12_seeksShortest 195 = .ok (.iinc 2 1, 3) := by decide +kernel
theorem dX12_seeksShortest_198 : decode cX12_seeksShortest 198 = .ok (.goto (-135), 3) := by decide +kernel
theorem dX12_seeksShortest_201 : decode cX12_seeksShortest 201 = .ok (.return_, 1) := by decide +kernel
noncomputable def F_X12_seeksShortest_82 (k189 : Nat → Int32 → Int32 → Int32 → m_M → Option (Unit × m_M)) : Nat → Nat → Int32 → Int32 → Int32 → Int32 → m_M → Option (Unit × m_M)
  | 0, _, _, _, _, _, _ => none
  | n + 1, v1, v2, v3, v4, v5, M =>
    if (800 : Int32) ≤ v5 then (
      k189 v1 v2 v3 v4 M
    ) else
    x_nz (2 : Int32) <|
    x_cV 10 M v1 (F_X12_isClause v1 (v4 / (2 : Int32)) M) fun v6 M1 =>
    if v6 = 0 then (
      k189 v1 v2 v3 v4 M1
    ) else
    m_let (fun (v7 : Nat) (v8 : Int32) (v9 : Int32) (v10 : Int32) (v11 : Int32) (M2 : m_M) =>
      m_let (v11 + (1 : Int32)) fun v12 =>
      F_X12_seeksShortest_82 k189 n v7 v8 v9 v10 v12 M2
    ) fun (k183 : Nat → Int32 → Int32 → Int32 → Int32 → m_M → Option (Unit × m_M)) =>
    m_let (fun (v13 : Nat) (v14 : Int32) (v15 : Int32) (v16 : Int32) (v17 : Int32) (v18 : Int32) (M3 : m_M) =>
      x_nz (2 : Int32) <|
      x_cV 10 M3 v13 (F_X12_isClause v13 (v17 / (2 : Int32)) M3) fun v19 M4 =>
      if v19 = 0 then (
        k183 v13 v14 v15 v16 v17 M4
      ) else
      x_cV 10 M4 v13 (F_X12_joins v13 v15 v16 v17 v14 M4) fun v20 M5 =>
      if v20 = 0 then (
        k183 v13 v14 v15 v16 v17 M5
      ) else
      x_cV 10 M5 v13 (F_X12_offers v13 v18 v15 v16 v17 M5) fun _ M6 =>
      k183 v13 v14 v15 v16 v17 M6
    ) fun (k150 : Nat → Int32 → Int32 → Int32 → Int32 → Int32 → m_M → Option (Unit × m_M)) =>
    x_bd (F_X12_wordsOf v4 M1) fun v21 M7 =>
    x_bd (F_X12_wordsOf v5 M7) fun v22 M8 =>
    m_let ((v21 + v22) + (1 : Int32)) fun v23 =>
    x_gI 10 M8 v1 66 fun v24 =>
    if v24 < 0 then (
      k150 v1 v2 v3 v4 v5 v23 M8
    ) else
    x_gI 10 M8 v1 66 fun v25 =>
    if v23 < v25 then (
      k150 v1 v2 v3 v4 v5 v23 M8
    ) else
    x_gI 10 M8 v1 66 fun v26 =>
    if v26 < v23 then (
      k183 v1 v2 v3 v4 v5 M8
    ) else
    x_gI 10 M8 v1 67 fun v27 =>
    if v3 < v27 then (
      k150 v1 v2 v3 v4 v5 v23 M8
    ) else
    k183 v1 v2 v3 v4 v5 M8
noncomputable def F_X12_seeksShortest_70 (k195 : Nat → Int32 → Int32 → m_M → Option (Unit × m_M)) : Nat → Nat → Int32 → Int32 → Int32 → m_M → Option (Unit × m_M)
  | 0, _, _, _, _, _ => none
  | n + 1, v1, v2, v3, v4, M =>
    if (800 : Int32) ≤ v4 then (
      k195 v1 v2 v3 M
    ) else
    m_let (v4 + (1 : Int32)) fun v5 =>
    m_let (fun (v6 : Nat) (v7 : Int32) (v8 : Int32) (v9 : Int32) (M1 : m_M) =>
      m_let (v9 + (1 : Int32)) fun v10 =>
      F_X12_seeksShortest_70 k195 n v6 v7 v8 v10 M1
    ) fun (k189 : Nat → Int32 → Int32 → Int32 → m_M → Option (Unit × m_M)) =>
    F_X12_seeksShortest_82 k189 m_FU v1 v2 v3 v4 v5 M
noncomputable def F_X12_seeksShortest_63 : Nat → Nat → Int32 → Int32 → m_M → Option (Unit × m_M)
  | 0, _, _, _, _ => none
  | n + 1, v1, v2, v3, M =>
    if (3 : Int32) ≤ v3 then (
      some ((), M)
    ) else
    m_let (fun (v4 : Nat) (v5 : Int32) (v6 : Int32) (M1 : m_M) =>
      m_let (v6 + (1 : Int32)) fun v7 =>
      F_X12_seeksShortest_63 n v4 v5 v7 M1
    ) fun (k195 : Nat → Int32 → Int32 → m_M → Option (Unit × m_M)) =>
    F_X12_seeksShortest_70 k195 m_FU v1 v2 v3 (0 : Int32) M
noncomputable def F_X12_seeksShortest_7 (k61 : Nat → Int32 → m_M → Option (Unit × m_M)) : Nat → Nat → Int32 → Int32 → m_M → Option (Unit × m_M)
  | 0, _, _, _, _ => none
  | n + 1, v1, v2, v3, M =>
    if (800 : Int32) ≤ v3 then (
      k61 v1 v2 M
    ) else
    m_let (fun (v4 : Nat) (v5 : Int32) (v6 : Int32) (M1 : m_M) =>
      m_let (v6 + (1 : Int32)) fun v7 =>
      F_X12_seeksShortest_7 k61 n v4 v5 v7 M1
    ) fun (k55 : Nat → Int32 → Int32 → m_M → Option (Unit × m_M)) =>
    x_nz (2 : Int32) <|
    x_cV 10 M v1 (F_X12_isClause v1 (v3 / (2 : Int32)) M) fun v8 M2 =>
    if v8 = 0 then (
      k55 v1 v2 v3 M2
    ) else
    x_gN 10 M2 v1 64 fun v9 =>
    x_gN 10 M2 v1 54 fun v10 =>
    x_cV 10 M2 v1 (F_X12_areAlike v1 v9 ((16 : Int32) * v3) v10 v2 M2) fun v11 M3 =>
    if v11 = 0 then (
      k55 v1 v2 v3 M3
    ) else
    x_bd (F_X12_wordsOf v3 M3) fun v12 M4 =>
    x_cV 10 M4 v1 (F_X12_offers v1 v12 (0 : Int32) v3 (-1 : Int32) M4) fun _ M5 =>
    k55 v1 v2 v3 M5
noncomputable def F_X12_seeksShortest (a0 : Nat) (a1 : Int32) (M : m_M) : Option (Unit × m_M) :=
  x_pI 10 M a0 66 (-1 : Int32) fun M1 =>
  m_let (fun (v1 : Nat) (v2 : Int32) (M2 : m_M) =>
    F_X12_seeksShortest_63 m_FU v1 v2 (1 : Int32) M2
  ) fun (k61 : Nat → Int32 → m_M → Option (Unit × m_M)) =>
  F_X12_seeksShortest_7 k61 m_FU a0 a1 (0 : Int32) M1
set_option maxHeartbeats 4000000 in
theorem L_X12_seeksShortest_82 {X : j_X} {Φ : Option Value → m_M → Prop} (C : j_C X yX12_seeksShortest cX12_seeksShortest 6 none 3 0 0 Φ) {k189 : Nat → Int32 → Int32 → Int32 → m_M → Option (Unit × m_M)} (hk189 : ∀ (p0 : Nat) (p1 : Int32) (p2 : Int32) (p3 : Int32) (M : m_M), m_ok e_V Φ (k189 p0 p1 p2 p3 M) → j_J X 6 189 [some (.ref p0), some (.int p1), some (.int p2), some (.int p3), none, none] [] (0, 0) M) : ∀ (n : Nat) (v1 : Nat) (v2 : Int32) (v3 : Int32) (v4 : Int32) (v5 : Int32) (M : m_M), m_ok e_V Φ (F_X12_seeksShortest_82 k189 n v1 v2 v3 v4 v5 M) → j_J X 6 82 [some (.ref v1), some (.int v2), some (.int v3), some (.int v4), some (.int v5), none] [] (0, 0) M := by
  have C0 := C.1
  intro n
  induction n with
  | zero => intro v1 v2 v3 v4 v5 M h; exact False.elim h
  | succ n ih =>
    intro v1 v2 v3 v4 v5 M h
    rw [F_X12_seeksShortest_82] at h
    refine j_iload C0 (pc := 82) dX12_seeksShortest_82 rfl ?_
    refine j_sipush C0 (pc := 84) dX12_seeksShortest_84 (v := (800 : Int32)) (by decide) ?_
    refine j_icmp_ge C0 (pc := 87) (tgt := 189) dX12_seeksShortest_87 (by decide) (fun hc => ?_) (fun hc => ?_)
    · replace h := (X_if h).1 hc
      exact j_J.wq (hk189 v1 v2 v3 v4 M h) (And.intro rfl (And.intro rfl (And.intro rfl (And.intro rfl (trivial)))))
    · replace h := (X_if h).2 hc
      refine j_aload_n C0 (pc := 90) dX12_seeksShortest_90 rfl ?_
      refine j_iload_n C0 (pc := 91) dX12_seeksShortest_91 rfl ?_
      refine j_iconst C0 (pc := 92) dX12_seeksShortest_92 (v := (2 : Int32)) (by decide) ?_
      refine X_idiv C0 (pc := 93) dX12_seeksShortest_93 h (fun h => ?_)
      refine X_cV C0 (pc := 94) (e' := e_I) (as := [.int (v4 / (2 : Int32))]) (rest := []) (s' := fun w => .int w :: []) (g' := (0, 0)) v_OM_475_10 (fun Ψ hΨ => K_X12_isClause v1 (v4 / (2 : Int32)) M Ψ hΨ) rfl rfl (fun _ => rfl) (by decide) (by decide) rfl (Nat.le_of_ble_eq_true rfl) dX12_seeksShortest_94 h (fun v6 M1 h => ?_)
      refine j_if_eq C0 (pc := 97) (tgt := 189) dX12_seeksShortest_97 (by decide) (fun hc => ?_) (fun hc => ?_)
      · replace h := (X_if h).1 hc
        exact j_J.wq (hk189 v1 v2 v3 v4 M1 h) (And.intro rfl (And.intro rfl (And.intro rfl (And.intro rfl (trivial)))))
      · replace h := (X_if h).2 hc
        refine X_join (fun (kj : Nat → Int32 → Int32 → Int32 → Int32 → m_M → Option (Unit × m_M)) => ∀ (p0 : Nat) (p1 : Int32) (p2 : Int32) (p3 : Int32) (p4 : Int32) (M : m_M), m_ok e_V Φ (kj p0 p1 p2 p3 p4 M) → j_J X 6 183 [some (.ref p0), some (.int p1), some (.int p2), some (.int p3), some (.int p4), none] [] (0, 0) M) h (fun v7 v8 v9 v10 v11 M2 h => ?_) (fun k183 hk183 h => ?_)
        · refine j_iinc C0 (pc := 183) dX12_seeksShortest_183 (v := v11 + (1 : Int32)) rfl (Nat.le_of_ble_eq_true rfl) (by rfl) ?_
          refine X_let (G := fun w => j_J X 6 186 [some (.ref v7), some (.int v8), some (.int v9), some (.int v10), some (.int w), none] [] (0, 0) M2) h (fun v12 h => ?_)
          refine j_goto C0 (pc := 186) (tgt := 82) dX12_seeksShortest_186 (by decide) ?_
          exact j_J.wq (ih v7 v8 v9 v10 v12 M2 h) (And.intro rfl (And.intro rfl (And.intro rfl (And.intro rfl (And.intro rfl (trivial))))))
        · refine X_join (fun (kj : Nat → Int32 → Int32 → Int32 → Int32 → Int32 → m_M → Option (Unit × m_M)) => ∀ (p0 : Nat) (p1 : Int32) (p2 : Int32) (p3 : Int32) (p4 : Int32) (p5 : Int32) (M : m_M), m_ok e_V Φ (kj p0 p1 p2 p3 p4 p5 M) → j_J X 6 150 [some (.ref p0), some (.int p1), some (.int p2), some (.int p3), some (.int p4), some (.int p5)] [] (0, 0) M) h (fun v13 v14 v15 v16 v17 v18 M3 h => ?_) (fun k150 hk150 h => ?_)
          · refine j_aload_n C0 (pc := 150) dX12_seeksShortest_150 rfl ?_
            refine j_iload C0 (pc := 151) dX12_seeksShortest_151 rfl ?_
            refine j_iconst C0 (pc := 153) dX12_seeksShortest_153 (v := (2 : Int32)) (by decide) ?_
            refine X_idiv C0 (pc := 154) dX12_seeksShortest_154 h (fun h => ?_)
            refine X_cV C0 (pc := 155) (e' := e_I) (as := [.int (v17 / (2 : Int32))]) (rest := []) (s' := fun w => .int w :: []) (g' := (0, 0)) v_OM_475_10 (fun Ψ hΨ => K_X12_isClause v13 (v17 / (2 : Int32)) M3 Ψ hΨ) rfl rfl (fun _ => rfl) (by decide) (by decide) rfl (Nat.le_of_ble_eq_true rfl) dX12_seeksShortest_155 h (fun v19 M4 h => ?_)
            refine j_if_eq C0 (pc := 158) (tgt := 183) dX12_seeksShortest_158 (by decide) (fun hc => ?_) (fun hc => ?_)
            · replace h := (X_if h).1 hc
              exact j_J.wq (hk183 v13 v14 v15 v16 v17 M4 h) (And.intro rfl (And.intro rfl (And.intro rfl (And.intro rfl (And.intro rfl (trivial))))))
            · replace h := (X_if h).2 hc
              refine j_aload_n C0 (pc := 161) dX12_seeksShortest_161 rfl ?_
              refine j_iload_n C0 (pc := 162) dX12_seeksShortest_162 rfl ?_
              refine j_iload_n C0 (pc := 163) dX12_seeksShortest_163 rfl ?_
              refine j_iload C0 (pc := 164) dX12_seeksShortest_164 rfl ?_
              refine j_iload_n C0 (pc := 166) dX12_seeksShortest_166 rfl ?_
              refine X_cV C0 (pc := 167) (e' := e_I) (as := [.int v15, .int v16, .int v17, .int v14]) (rest := []) (s' := fun w => .int w :: []) (g' := (0, 0)) v_OM_517_10 (fun Ψ hΨ => K_X12_joins v13 v15 v16 v17 v14 M4 Ψ hΨ) rfl rfl (fun _ => rfl) (by decide) (by decide) rfl (Nat.le_of_ble_eq_true rfl) dX12_seeksShortest_167 h (fun v20 M5 h => ?_)
              refine j_if_eq C0 (pc := 170) (tgt := 183) dX12_seeksShortest_170 (by decide) (fun hc => ?_) (fun hc => ?_)
              · replace h := (X_if h).1 hc
                exact j_J.wq (hk183 v13 v14 v15 v16 v17 M5 h) (And.intro rfl (And.intro rfl (And.intro rfl (And.intro rfl (And.intro rfl (trivial))))))
              · replace h := (X_if h).2 hc
                refine j_aload_n C0 (pc := 173) dX12_seeksShortest_173 rfl ?_
                refine j_iload C0 (pc := 174) dX12_seeksShortest_174 rfl ?_
                refine j_iload_n C0 (pc := 176) dX12_seeksShortest_176 rfl ?_
                refine j_iload_n C0 (pc := 177) dX12_seeksShortest_177 rfl ?_
                refine j_iload C0 (pc := 178) dX12_seeksShortest_178 rfl ?_
                refine X_cV C0 (pc := 180) (e' := e_V) (as := [.int v18, .int v15, .int v16, .int v17]) (rest := []) (s' := fun _ => []) (g' := (0, 0)) v_OM_513_10 (fun Ψ hΨ => K_X12_offers v13 v18 v15 v16 v17 M5 Ψ hΨ) rfl rfl (fun _ => rfl) (by decide) (by decide) rfl (Nat.le_of_ble_eq_true rfl) dX12_seeksShortest_180 h (fun _ M6 h => ?_)
                exact j_J.wq (hk183 v13 v14 v15 v16 v17 M6 h) (And.intro rfl (And.intro rfl (And.intro rfl (And.intro rfl (And.intro rfl (trivial))))))
          · refine j_iload_n C0 (pc := 100) dX12_seeksShortest_100 rfl ?_
            refine X_cS C0 (pc := 101) (e' := e_I) (as := [.int v4]) (rest := []) (s' := fun w => .int w :: []) (g' := (0, 0)) s_OM_510 (fun Ψ hΨ => K_X12_wordsOf v4 M1 Ψ hΨ) rfl rfl (fun _ => rfl) (by decide) (by decide) rfl (Nat.le_of_ble_eq_true rfl) dX12_seeksShortest_101 h (fun v21 M7 h => ?_)
            refine j_iload C0 (pc := 104) dX12_seeksShortest_104 rfl ?_
            refine X_cS C0 (pc := 106) (e' := e_I) (as := [.int v5]) (rest := [.int v21]) (s' := fun w => .int w :: [.int v21]) (g' := (0, 0)) s_OM_510 (fun Ψ hΨ => K_X12_wordsOf v5 M7 Ψ hΨ) rfl rfl (fun _ => rfl) (by decide) (by decide) rfl (Nat.le_of_ble_eq_true rfl) dX12_seeksShortest_106 h (fun v22 M8 h => ?_)
            refine j_iadd C0 (pc := 109) dX12_seeksShortest_109 ?_
            refine j_iconst C0 (pc := 110) dX12_seeksShortest_110 (v := (1 : Int32)) (by decide) ?_
            refine j_iadd C0 (pc := 111) dX12_seeksShortest_111 ?_
            refine X_let (G := fun w => j_J X 6 112 [some (.ref v1), some (.int v2), some (.int v3), some (.int v4), some (.int v5), none] (.int w :: []) (0, 0) M8) h (fun v23 h => ?_)
            refine j_istore C0 (pc := 112) dX12_seeksShortest_112 (Nat.le_of_ble_eq_true rfl) ?_
            show j_J X 6 114 [some (.ref v1), some (.int v2), some (.int v3), some (.int v4), some (.int v5), some (.int v23)] [] (0, 0) M8
            refine j_aload_n C0 (pc := 114) dX12_seeksShortest_114 rfl ?_
            refine X_gI C0 (pc := 115) f_OM_498_10 rfl dX12_seeksShortest_115 h (fun v24 h => ?_)
            refine j_if_lt C0 (pc := 118) (tgt := 150) dX12_seeksShortest_118 (by decide) (fun hc => ?_) (fun hc => ?_)
            · replace h := (X_if h).1 hc
              exact j_J.wq (hk150 v1 v2 v3 v4 v5 v23 M8 h) (And.intro rfl (And.intro rfl (And.intro rfl (And.intro rfl (And.intro rfl (And.intro rfl (trivial)))))))
            · replace h := (X_if h).2 hc
              refine j_iload C0 (pc := 121) dX12_seeksShortest_121 rfl ?_
              refine j_aload_n C0 (pc := 123) dX12_seeksShortest_123 rfl ?_
              refine X_gI C0 (pc := 124) f_OM_498_10 rfl dX12_seeksShortest_124 h (fun v25 h => ?_)
              refine j_icmp_lt C0 (pc := 127) (tgt := 150) dX12_seeksShortest_127 (by decide) (fun hc => ?_) (fun hc => ?_)
              · replace h := (X_if h).1 hc
                exact j_J.wq (hk150 v1 v2 v3 v4 v5 v23 M8 h) (And.intro rfl (And.intro rfl (And.intro rfl (And.intro rfl (And.intro rfl (And.intro rfl (trivial)))))))
              · replace h := (X_if h).2 hc
                refine j_iload C0 (pc := 130) dX12_seeksShortest_130 rfl ?_
                refine j_aload_n C0 (pc := 132) dX12_seeksShortest_132 rfl ?_
                refine X_gI C0 (pc := 133) f_OM_498_10 rfl dX12_seeksShortest_133 h (fun v26 h => ?_)
                refine j_icmp_gt C0 (pc := 136) (tgt := 183) dX12_seeksShortest_136 (by decide) (fun hc => ?_) (fun hc => ?_)
                · replace h := (X_if h).1 hc
                  exact j_J.wq (hk183 v1 v2 v3 v4 v5 M8 h) (And.intro rfl (And.intro rfl (And.intro rfl (And.intro rfl (And.intro rfl (trivial))))))
                · replace h := (X_if h).2 hc
                  refine j_iload_n C0 (pc := 139) dX12_seeksShortest_139 rfl ?_
                  refine j_aload_n C0 (pc := 140) dX12_seeksShortest_140 rfl ?_
                  refine X_gI C0 (pc := 141) f_OM_501_10 rfl dX12_seeksShortest_141 h (fun v27 h => ?_)
                  refine j_icmp_lt C0 (pc := 144) (tgt := 150) dX12_seeksShortest_144 (by decide) (fun hc => ?_) (fun hc => ?_)
                  · replace h := (X_if h).1 hc
                    exact j_J.wq (hk150 v1 v2 v3 v4 v5 v23 M8 h) (And.intro rfl (And.intro rfl (And.intro rfl (And.intro rfl (And.intro rfl (And.intro rfl (trivial)))))))
                  · replace h := (X_if h).2 hc
                    refine j_goto C0 (pc := 147) (tgt := 183) dX12_seeksShortest_147 (by decide) ?_
                    exact j_J.wq (hk183 v1 v2 v3 v4 v5 M8 h) (And.intro rfl (And.intro rfl (And.intro rfl (And.intro rfl (And.intro rfl (trivial))))))
set_option maxHeartbeats 4000000 in
theorem L_X12_seeksShortest_70 {X : j_X} {Φ : Option Value → m_M → Prop} (C : j_C X yX12_seeksShortest cX12_seeksShortest 6 none 3 0 0 Φ) {k195 : Nat → Int32 → Int32 → m_M → Option (Unit × m_M)} (hk195 : ∀ (p0 : Nat) (p1 : Int32) (p2 : Int32) (M : m_M), m_ok e_V Φ (k195 p0 p1 p2 M) → j_J X 6 195 [some (.ref p0), some (.int p1), some (.int p2), none, none, none] [] (0, 0) M) : ∀ (n : Nat) (v1 : Nat) (v2 : Int32) (v3 : Int32) (v4 : Int32) (M : m_M), m_ok e_V Φ (F_X12_seeksShortest_70 k195 n v1 v2 v3 v4 M) → j_J X 6 70 [some (.ref v1), some (.int v2), some (.int v3), some (.int v4), none, none] [] (0, 0) M := by
  have C0 := C.1
  intro n
  induction n with
  | zero => intro v1 v2 v3 v4 M h; exact False.elim h
  | succ n ih =>
    intro v1 v2 v3 v4 M h
    rw [F_X12_seeksShortest_70] at h
    refine j_iload_n C0 (pc := 70) dX12_seeksShortest_70 rfl ?_
    refine j_sipush C0 (pc := 71) dX12_seeksShortest_71 (v := (800 : Int32)) (by decide) ?_
    refine j_icmp_ge C0 (pc := 74) (tgt := 195) dX12_seeksShortest_74 (by decide) (fun hc => ?_) (fun hc => ?_)
    · replace h := (X_if h).1 hc
      exact j_J.wq (hk195 v1 v2 v3 M h) (And.intro rfl (And.intro rfl (And.intro rfl (trivial))))
    · replace h := (X_if h).2 hc
      refine j_iload_n C0 (pc := 77) dX12_seeksShortest_77 rfl ?_
      refine j_iconst C0 (pc := 78) dX12_seeksShortest_78 (v := (1 : Int32)) (by decide) ?_
      refine j_iadd C0 (pc := 79) dX12_seeksShortest_79 ?_
      refine X_let (G := fun w => j_J X 6 80 [some (.ref v1), some (.int v2), some (.int v3), some (.int v4), none, none] (.int w :: []) (0, 0) M) h (fun v5 h => ?_)
      refine j_istore C0 (pc := 80) dX12_seeksShortest_80 (Nat.le_of_ble_eq_true rfl) ?_
      show j_J X 6 82 [some (.ref v1), some (.int v2), some (.int v3), some (.int v4), some (.int v5), none] [] (0, 0) M
      refine X_join (fun (kj : Nat → Int32 → Int32 → Int32 → m_M → Option (Unit × m_M)) => ∀ (p0 : Nat) (p1 : Int32) (p2 : Int32) (p3 : Int32) (M : m_M), m_ok e_V Φ (kj p0 p1 p2 p3 M) → j_J X 6 189 [some (.ref p0), some (.int p1), some (.int p2), some (.int p3), none, none] [] (0, 0) M) h (fun v6 v7 v8 v9 M1 h => ?_) (fun k189 hk189 h => ?_)
      · refine j_iinc C0 (pc := 189) dX12_seeksShortest_189 (v := v9 + (1 : Int32)) rfl (Nat.le_of_ble_eq_true rfl) (by rfl) ?_
        refine X_let (G := fun w => j_J X 6 192 [some (.ref v6), some (.int v7), some (.int v8), some (.int w), none, none] [] (0, 0) M1) h (fun v10 h => ?_)
        refine j_goto C0 (pc := 192) (tgt := 70) dX12_seeksShortest_192 (by decide) ?_
        exact j_J.wq (ih v6 v7 v8 v10 M1 h) (And.intro rfl (And.intro rfl (And.intro rfl (And.intro rfl (trivial)))))
      · exact j_J.wq (L_X12_seeksShortest_82 C hk189 m_FU v1 v2 v3 v4 v5 M h) (And.intro rfl (And.intro rfl (And.intro rfl (And.intro rfl (And.intro rfl (trivial))))))
set_option maxHeartbeats 4000000 in
theorem L_X12_seeksShortest_63 {X : j_X} {Φ : Option Value → m_M → Prop} (C : j_C X yX12_seeksShortest cX12_seeksShortest 6 none 3 0 0 Φ) : ∀ (n : Nat) (v1 : Nat) (v2 : Int32) (v3 : Int32) (M : m_M), m_ok e_V Φ (F_X12_seeksShortest_63 n v1 v2 v3 M) → j_J X 6 63 [some (.ref v1), some (.int v2), some (.int v3), none, none, none] [] (0, 0) M := by
  have C0 := C.1
  intro n
  induction n with
  | zero => intro v1 v2 v3 M h; exact False.elim h
  | succ n ih =>
    intro v1 v2 v3 M h
    rw [F_X12_seeksShortest_63] at h
    refine j_iload_n C0 (pc := 63) dX12_seeksShortest_63 rfl ?_
    refine j_iconst C0 (pc := 64) dX12_seeksShortest_64 (v := (3 : Int32)) (by decide) ?_
    refine j_icmp_ge C0 (pc := 65) (tgt := 201) dX12_seeksShortest_65 (by decide) (fun hc => ?_) (fun hc => ?_)
    · replace h := (X_if h).1 hc
      exact j_vret C rfl h dX12_seeksShortest_201 (by decide)
    · replace h := (X_if h).2 hc
      refine j_iconst C0 (pc := 68) dX12_seeksShortest_68 (v := (0 : Int32)) (by decide) ?_
      refine j_istore_n C0 (pc := 69) dX12_seeksShortest_69 (Nat.le_of_ble_eq_true rfl) ?_
      show j_J X 6 70 [some (.ref v1), some (.int v2), some (.int v3), some (.int (0 : Int32)), none, none] [] (0, 0) M
      refine X_join (fun (kj : Nat → Int32 → Int32 → m_M → Option (Unit × m_M)) => ∀ (p0 : Nat) (p1 : Int32) (p2 : Int32) (M : m_M), m_ok e_V Φ (kj p0 p1 p2 M) → j_J X 6 195 [some (.ref p0), some (.int p1), some (.int p2), none, none, none] [] (0, 0) M) h (fun v4 v5 v6 M1 h => ?_) (fun k195 hk195 h => ?_)
      · refine j_iinc C0 (pc := 195) dX12_seeksShortest_195 (v := v6 + (1 : Int32)) rfl (Nat.le_of_ble_eq_true rfl) (by rfl) ?_
        refine X_let (G := fun w => j_J X 6 198 [some (.ref v4), some (.int v5), some (.int w), none, none, none] [] (0, 0) M1) h (fun v7 h => ?_)
        refine j_goto C0 (pc := 198) (tgt := 63) dX12_seeksShortest_198 (by decide) ?_
        exact j_J.wq (ih v4 v5 v7 M1 h) (And.intro rfl (And.intro rfl (And.intro rfl (trivial))))
      · exact j_J.wq (L_X12_seeksShortest_70 C hk195 m_FU v1 v2 v3 (0 : Int32) M h) (And.intro rfl (And.intro rfl (And.intro rfl (And.intro rfl (trivial)))))
set_option maxHeartbeats 4000000 in
theorem L_X12_seeksShortest_7 {X : j_X} {Φ : Option Value → m_M → Prop} (C : j_C X yX12_seeksShortest cX12_seeksShortest 6 none 3 0 0 Φ) {k61 : Nat → Int32 → m_M → Option (Unit × m_M)} (hk61 : ∀ (p0 : Nat) (p1 : Int32) (M : m_M), m_ok e_V Φ (k61 p0 p1 M) → j_J X 6 61 [some (.ref p0), some (.int p1), none, none, none, none] [] (0, 0) M) : ∀ (n : Nat) (v1 : Nat) (v2 : Int32) (v3 : Int32) (M : m_M), m_ok e_V Φ (F_X12_seeksShortest_7 k61 n v1 v2 v3 M) → j_J X 6 7 [some (.ref v1), some (.int v2), some (.int v3), none, none, none] [] (0, 0) M := by
  have C0 := C.1
  intro n
  induction n with
  | zero => intro v1 v2 v3 M h; exact False.elim h
  | succ n ih =>
    intro v1 v2 v3 M h
    rw [F_X12_seeksShortest_7] at h
    refine j_iload_n C0 (pc := 7) dX12_seeksShortest_7 rfl ?_
    refine j_sipush C0 (pc := 8) dX12_seeksShortest_8 (v := (800 : Int32)) (by decide) ?_
    refine j_icmp_ge C0 (pc := 11) (tgt := 61) dX12_seeksShortest_11 (by decide) (fun hc => ?_) (fun hc => ?_)
    · replace h := (X_if h).1 hc
      exact j_J.wq (hk61 v1 v2 M h) (And.intro rfl (And.intro rfl (trivial)))
    · replace h := (X_if h).2 hc
      refine X_join (fun (kj : Nat → Int32 → Int32 → m_M → Option (Unit × m_M)) => ∀ (p0 : Nat) (p1 : Int32) (p2 : Int32) (M : m_M), m_ok e_V Φ (kj p0 p1 p2 M) → j_J X 6 55 [some (.ref p0), some (.int p1), some (.int p2), none, none, none] [] (0, 0) M) h (fun v4 v5 v6 M1 h => ?_) (fun k55 hk55 h => ?_)
      · refine j_iinc C0 (pc := 55) dX12_seeksShortest_55 (v := v6 + (1 : Int32)) rfl (Nat.le_of_ble_eq_true rfl) (by rfl) ?_
        refine X_let (G := fun w => j_J X 6 58 [some (.ref v4), some (.int v5), some (.int w), none, none, none] [] (0, 0) M1) h (fun v7 h => ?_)
        refine j_goto C0 (pc := 58) (tgt := 7) dX12_seeksShortest_58 (by decide) ?_
        exact j_J.wq (ih v4 v5 v7 M1 h) (And.intro rfl (And.intro rfl (And.intro rfl (trivial))))
      · refine j_aload_n C0 (pc := 14) dX12_seeksShortest_14 rfl ?_
        refine j_iload_n C0 (pc := 15) dX12_seeksShortest_15 rfl ?_
        refine j_iconst C0 (pc := 16) dX12_seeksShortest_16 (v := (2 : Int32)) (by decide) ?_
        refine X_idiv C0 (pc := 17) dX12_seeksShortest_17 h (fun h => ?_)
        refine X_cV C0 (pc := 18) (e' := e_I) (as := [.int (v3 / (2 : Int32))]) (rest := []) (s' := fun w => .int w :: []) (g' := (0, 0)) v_OM_475_10 (fun Ψ hΨ => K_X12_isClause v1 (v3 / (2 : Int32)) M Ψ hΨ) rfl rfl (fun _ => rfl) (by decide) (by decide) rfl (Nat.le_of_ble_eq_true rfl) dX12_seeksShortest_18 h (fun v8 M2 h => ?_)
        refine j_if_eq C0 (pc := 21) (tgt := 55) dX12_seeksShortest_21 (by decide) (fun hc => ?_) (fun hc => ?_)
        · replace h := (X_if h).1 hc
          exact j_J.wq (hk55 v1 v2 v3 M2 h) (And.intro rfl (And.intro rfl (And.intro rfl (trivial))))
        · replace h := (X_if h).2 hc
          refine j_aload_n C0 (pc := 24) dX12_seeksShortest_24 rfl ?_
          refine j_aload_n C0 (pc := 25) dX12_seeksShortest_25 rfl ?_
          refine X_gN C0 (pc := 26) f_OM_141_10 rfl dX12_seeksShortest_26 h (fun v9 h => ?_)
          refine j_bipush C0 (pc := 29) dX12_seeksShortest_29 (v := (16 : Int32)) (by decide) ?_
          refine j_iload_n C0 (pc := 31) dX12_seeksShortest_31 rfl ?_
          refine j_imul C0 (pc := 32) dX12_seeksShortest_32 ?_
          refine j_aload_n C0 (pc := 33) dX12_seeksShortest_33 rfl ?_
          refine X_gN C0 (pc := 34) f_OM_111_10 rfl dX12_seeksShortest_34 h (fun v10 h => ?_)
          refine j_iload_n C0 (pc := 37) dX12_seeksShortest_37 rfl ?_
          refine X_cV C0 (pc := 38) (e' := e_I) (as := [.ref v9, .int ((16 : Int32) * v3), .ref v10, .int v2]) (rest := []) (s' := fun w => .int w :: []) (g' := (0, 0)) v_OM_484_10 (fun Ψ hΨ => K_X12_areAlike v1 v9 ((16 : Int32) * v3) v10 v2 M2 Ψ hΨ) rfl rfl (fun _ => rfl) (by decide) (by decide) rfl (Nat.le_of_ble_eq_true rfl) dX12_seeksShortest_38 h (fun v11 M3 h => ?_)
          refine j_if_eq C0 (pc := 41) (tgt := 55) dX12_seeksShortest_41 (by decide) (fun hc => ?_) (fun hc => ?_)
          · replace h := (X_if h).1 hc
            exact j_J.wq (hk55 v1 v2 v3 M3 h) (And.intro rfl (And.intro rfl (And.intro rfl (trivial))))
          · replace h := (X_if h).2 hc
            refine j_aload_n C0 (pc := 44) dX12_seeksShortest_44 rfl ?_
            refine j_iload_n C0 (pc := 45) dX12_seeksShortest_45 rfl ?_
            refine X_cS C0 (pc := 46) (e' := e_I) (as := [.int v3]) (rest := [.ref v1]) (s' := fun w => .int w :: [.ref v1]) (g' := (0, 0)) s_OM_510 (fun Ψ hΨ => K_X12_wordsOf v3 M3 Ψ hΨ) rfl rfl (fun _ => rfl) (by decide) (by decide) rfl (Nat.le_of_ble_eq_true rfl) dX12_seeksShortest_46 h (fun v12 M4 h => ?_)
            refine j_iconst C0 (pc := 49) dX12_seeksShortest_49 (v := (0 : Int32)) (by decide) ?_
            refine j_iload_n C0 (pc := 50) dX12_seeksShortest_50 rfl ?_
            refine j_iconst C0 (pc := 51) dX12_seeksShortest_51 (v := (-1 : Int32)) (by decide) ?_
            refine X_cV C0 (pc := 52) (e' := e_V) (as := [.int v12, .int (0 : Int32), .int v3, .int (-1 : Int32)]) (rest := []) (s' := fun _ => []) (g' := (0, 0)) v_OM_513_10 (fun Ψ hΨ => K_X12_offers v1 v12 (0 : Int32) v3 (-1 : Int32) M4 Ψ hΨ) rfl rfl (fun _ => rfl) (by decide) (by decide) rfl (Nat.le_of_ble_eq_true rfl) dX12_seeksShortest_52 h (fun _ M5 h => ?_)
            exact j_J.wq (hk55 v1 v2 v3 M5 h) (And.intro rfl (And.intro rfl (And.intro rfl (trivial))))
set_option maxHeartbeats 4000000 in
theorem K_X12_seeksShortest (a0 : Nat) (a1 : Int32) (M : m_M) (Φ : Option Value → m_M → Prop) (h : m_ok e_V Φ (F_X12_seeksShortest a0 a1 M)) : j_Ct yX12_seeksShortest cX12_seeksShortest 6 none 3 0 0 [.ref a0, .int a1] M Φ := by
  refine j_Ct.of (by decide +kernel) (Nat.le_of_ble_eq_true rfl) fun X C => ?_
  have C0 := C.1
  show j_J X 6 0 [some (.ref a0), some (.int a1), none, none, none, none] [] (0, 0) M
  unfold F_X12_seeksShortest at h
  refine j_aload_n C0 (pc := 0) dX12_seeksShortest_0 rfl ?_
  refine j_iconst C0 (pc := 1) dX12_seeksShortest_1 (v := (-1 : Int32)) (by decide) ?_
  refine X_pI C0 (pc := 2) f_OM_498_10 rfl rfl dX12_seeksShortest_2 h (fun M1 h => ?_)
  refine j_iconst C0 (pc := 5) dX12_seeksShortest_5 (v := (0 : Int32)) (by decide) ?_
  refine j_istore_n C0 (pc := 6) dX12_seeksShortest_6 (Nat.le_of_ble_eq_true rfl) ?_
  show j_J X 6 7 [some (.ref a0), some (.int a1), some (.int (0 : Int32)), none, none, none] [] (0, 0) M1
  refine X_join (fun (kj : Nat → Int32 → m_M → Option (Unit × m_M)) => ∀ (p0 : Nat) (p1 : Int32) (M : m_M), m_ok e_V Φ (kj p0 p1 M) → j_J X 6 61 [some (.ref p0), some (.int p1), none, none, none, none] [] (0, 0) M) h (fun v1 v2 M2 h => ?_) (fun k61 hk61 h => ?_)
  · refine j_iconst C0 (pc := 61) dX12_seeksShortest_61 (v := (1 : Int32)) (by decide) ?_
    refine j_istore_n C0 (pc := 62) dX12_seeksShortest_62 (Nat.le_of_ble_eq_true rfl) ?_
    show j_J X 6 63 [some (.ref v1), some (.int v2), some (.int (1 : Int32)), none, none, none] [] (0, 0) M2
    exact j_J.wq (L_X12_seeksShortest_63 C m_FU v1 v2 (1 : Int32) M2 h) (And.intro rfl (And.intro rfl (And.intro rfl (trivial))))
  · exact j_J.wq (L_X12_seeksShortest_7 C hk61 m_FU a0 a1 (0 : Int32) M1 h) (And.intro rfl (And.intro rfl (And.intro rfl (trivial))))
theorem dX12_shortest_0 : decode cX12_shortest 0 = .ok (.aload_n 0, 1) := by decide +kernel
theorem dX12_shortest_1 : decode cX12_shortest 1 = .ok (.iconst 0, 1) := by decide +kernel
theorem dX12_shortest_2 : decode cX12_shortest 2 = .ok (.putfield 163, 3) := by decide +kernel
theorem dX12_shortest_5 : decode cX12_shortest 5 = .ok (.aload_n 0, 1) := by decide +kernel
theorem dX12_shortest_6 : decode cX12_shortest 6 = .ok (.getfield 114, 3) := by decide +kernel
theorem dX12_shortest_9 : decode cX12_shortest 9 = .ok (.iconst 0, 1) := by decide +kernel
theorem dX12_shortest_10 : decode cX12_shortest 10 = .ok (.baload, 1) := by decide +kernel
theorem dX12_shortest_11 : decode cX12_shortest 11 = .ok (.ifCond .eq 27, 3) := by decide +kernel
theorem dX12_shortest_14 : decode cX12_shortest 14 = .ok (.iload_n 1, 1) := by decide +kernel
theorem dX12_shortest_15 : decode cX12_shortest 15 = .ok (.ifCond .lt 23, 3) := by decide +kernel
theorem dX12_shortest_18 : decode cX12_shortest 18 = .ok (.iload_n 2, 1) := by decide +kernel
theorem dX12_shortest_19 : decode cX12_shortest 19 = .ok (.iconst 0, 1) := by decide +kernel
theorem dX12_shortest_20 : decode cX12_shortest 20 = .ok (.iconst 3, 1) := by decide +kernel
theorem dX12_shortest_21 : decode cX12_shortest 21 = .ok (.invokestatic 279, 3) := by decide +kernel
theorem dX12_shortest_24 : decode cX12_shortest 24 = .ok (.ifCond .eq 14, 3) := by decide +kernel
theorem dX12_shortest_27 : decode cX12_shortest 27 = .ok (.aload_n 0, 1) := by decide +kernel
theorem dX12_shortest_28 : decode cX12_shortest 28 = .ok (.aload_n 0, 1) := by decide +kernel
theorem dX12_shortest_29 : decode cX12_shortest 29 = .ok (.getfield 433, 3) := by decide +kernel
theorem dX12_shortest_32 : decode cX12_shortest 32 = .ok (.invokevirtual 436, 3) := by decide +kernel
theorem dX12_shortest_35 : decode cX12_shortest 35 = .ok (.ifCond .ge 5, 3) := by decide +kernel
theorem dX12_shortest_38 : decode cX12_shortest 38 = .ok (.iconst (-1), 1) := by decide +kernel
theorem dX12_shortest_39 : decode cX12_shortest 39 = .ok (.ireturn, 1) := by decide +kernel
theorem dX12_shortest_40 : decode cX12_shortest 40 = .ok (.aload_n 0, 1) := by decide +kernel
theorem dX12_shortest_41 : decode cX12_shortest 41 = .ok (.aload_n 0, 1) := by decide +kernel
theorem dX12_shortest_42 : decode cX12_shortest 42 = .ok (.aload_n 0, 1) := by decide +kernel
theorem dX12_shortest_43 : decode cX12_shortest 43 = .ok (.getfield 433, 3) := by decide +kernel
theorem dX12_shortest_46 : decode cX12_shortest 46 = .ok (.invokevirtual 436, 3) := by decide +kernel
theorem dX12_shortest_49 : decode cX12_shortest 49 = .ok (.aload_n 0, 1) := by decide +kernel
theorem dX12_shortest_50 : decode cX12_shortest 50 = .ok (.getfield 141, 3) := by decide +kernel
theorem dX12_shortest_53 : decode cX12_shortest 53 = .ok (.invokevirtual 521, 3) := by decide +kernel
theorem dX12_shortest_56 : decode cX12_shortest 56 = .ok (.aload_n 0, 1) := by decide +kernel
theorem dX12_shortest_57 : decode cX12_shortest 57 = .ok (.aload_n 0, 1) := by decide +kernel
theorem dX12_shortest_58 : decode cX12_shortest 58 = .ok (.iload_n 1, 1) := by decide +kernel
theorem dX12_shortest_59 : decode cX12_shortest 59 = .ok (.invokevirtual 436, 3) := by decide +kernel
theorem dX12_shortest_62 : decode cX12_shortest 62 = .ok (.invokestatic 481, 3) := by decide +kernel
theorem dX12_shortest_65 : decode cX12_shortest 65 = .ok (.invokevirtual 525, 3) := by decide +kernel
theorem dX12_shortest_68 : decode cX12_shortest 68 = .ok (.aload_n 0, 1) := by decide +kernel
theorem dX12_shortest_69 : decode cX12_shortest 69 = .ok (.getfield 498, 3) := by decide +kernel
theorem dX12_shortest_72 : decode cX12_shortest 72 = .ok (.ifCond .ge 5, 3) := by decide +kernel
theorem dX12_shortest_75 : decode cX12_shortest 75 = .ok (.iconst (-1), 1) := by decide +kernel
theorem dX12_shortest_76 : decode cX12_shortest 76 = .ok (.ireturn, 1) := by decide +kernel
theorem dX12_shortest_77 : decode cX12_shortest 77 = .ok (.iload_n 2, 1) := by decide +kernel
theorem dX12_shortest_78 : decode cX12_shortest 78 = .ok (.ifCond .ne 10, 3) := by decide +kernel
theorem dX12_shortest_81 : decode cX12_shortest 81 = .ok (.aload_n 0, 1) := by decide +kernel
theorem dX12_shortest_82 : decode cX12_shortest 82 = .ok (.getfield 498, 3) := by decide +kernel
theorem dX12_shortest_85 : decode cX12_shortest 85 = .ok (.goto 31, 3) := by decide +kernel
theorem dX12_shortest_88 : decode cX12_shortest 88 = .ok (.iload_n 2, 1) := by decide +kernel
theorem dX12_shortest_89 : decode cX12_shortest 89 = .ok (.iconst 1, 1) := by decide +kernel
theorem dX12_shortest_90 : decode cX12_shortest 90 = .ok (.if_icmp .ne 10, 3) := by decide +kernel
theorem dX12_shortest_93 : decode cX12_shortest 93 = .ok (.aload_n 0, 1) := by decide +kernel
theorem dX12_shortest_94 : decode cX12_shortest 94 = .ok (.getfield 501, 3) := by decide +kernel
theorem dX12_shortest_97 : decode cX12_shortest 97 = .ok (.goto 19, 3) := by decide +kernel
theorem dX12_shortest_100 : decode cX12_shortest 100 = .ok (.iload_n 2, 1) := by decide +kernel
theorem dX12_shortest_101 : decode cX12_shortest 101 = .ok (.iconst 2, 1) := by decide +kernel
theorem dX12_shortest_102 : decode cX12_shortest 102 = .ok (.if_icmp .ne 10, 3) := by decide +kernel
theorem dX12_shortest_105 : decode cX12_shortest 105 = .ok (.aload_n 0, 1) := by decide +kernel
theorem dX12_shortest_106 : decode cX12_shortest 106 = .ok (.getfield 504, 3) := by decide +kernel
theorem dX12_shortest_109 : decode cX12_shortest 109 = .ok (.goto 7, 3) := by decide +kernel
theorem dX12_shortest_112 : decode cX12_shortest 112 = .ok (.aload_n 0, 1) := by decide +kernel
theorem dX12_shortest_113 : decode cX12_shortest 113 = .ok (.getfield 507, 3) := by decide +kernel
theorem dX12_shortest_116 : decode cX12_shortest 116 = .ok (.ireturn, 1) := by decide +kernel
noncomputable def F_X12_shortest (a0 : Nat) (a1 : Int32) (a2 : Int32) (M : m_M) : Option (Int32 × m_M) :=
  x_pI 10 M a0 0 (0 : Int32) fun M1 =>
  x_gN 10 M1 a0 55 fun v1 =>
  x_aI 14 M1 v1 (0 : Int32) fun v2 =>
  if v2 = 0 then (
    some ((-1 : Int32), M1)
  ) else
  if a1 < 0 then (
    some ((-1 : Int32), M1)
  ) else
  x_bd (F_X12_within a2 (0 : Int32) (3 : Int32) M1) fun v3 M2 =>
  if v3 = 0 then (
    some ((-1 : Int32), M2)
  ) else
  x_gI 10 M2 a0 53 fun v4 =>
  x_cV 10 M2 a0 (F_X12_verbOf a0 v4 M2) fun v5 M3 =>
  if 0 ≤ v5 then (
    x_gI 10 M3 a0 53 fun v6 =>
    x_cV 10 M3 a0 (F_X12_verbOf a0 v6 M3) fun v7 M4 =>
    x_gN 10 M4 a0 64 fun v8 =>
    x_cV 10 M4 a0 (F_X12_laysLiterals a0 v7 v8 M4) fun _ M5 =>
    x_cV 10 M5 a0 (F_X12_verbOf a0 a1 M5) fun v9 M6 =>
    x_bd (F_X12_askedAt v9 M6) fun v10 M7 =>
    x_cV 10 M7 a0 (F_X12_seeksShortest a0 v10 M7) fun _ M8 =>
    x_gI 10 M8 a0 66 fun v11 =>
    if 0 ≤ v11 then (
      if a2 = 0 then (
        x_gI 10 M8 a0 66 fun v15 =>
        some (v15, M8)
      ) else
      if a2 = (1 : Int32) then (
        x_gI 10 M8 a0 67 fun v14 =>
        some (v14, M8)
      ) else
      if a2 = (2 : Int32) then (
        x_gI 10 M8 a0 68 fun v13 =>
        some (v13, M8)
      ) else
      x_gI 10 M8 a0 69 fun v12 =>
      some (v12, M8)
    ) else
    some ((-1 : Int32), M8)
  ) else
  some ((-1 : Int32), M3)
set_option maxHeartbeats 4000000 in
theorem K_X12_shortest (a0 : Nat) (a1 : Int32) (a2 : Int32) (M : m_M) (Φ : Option Value → m_M → Prop) (h : m_ok e_I Φ (F_X12_shortest a0 a1 a2 M)) : j_Ct yX12_shortest cX12_shortest 3 (some .int) 9 0 0 [.ref a0, .int a1, .int a2] M Φ := by
  refine j_Ct.of (by decide +kernel) (Nat.le_of_ble_eq_true rfl) fun X C => ?_
  have C0 := C.1
  show j_J X 3 0 [some (.ref a0), some (.int a1), some (.int a2)] [] (0, 0) M
  unfold F_X12_shortest at h
  refine j_aload_n C0 (pc := 0) dX12_shortest_0 rfl ?_
  refine j_iconst C0 (pc := 1) dX12_shortest_1 (v := (0 : Int32)) (by decide) ?_
  refine X_pI C0 (pc := 2) f_OM_163_10 rfl rfl dX12_shortest_2 h (fun M1 h => ?_)
  refine j_aload_n C0 (pc := 5) dX12_shortest_5 rfl ?_
  refine X_gN C0 (pc := 6) f_OM_114_10 rfl dX12_shortest_6 h (fun v1 h => ?_)
  refine j_iconst C0 (pc := 9) dX12_shortest_9 (v := (0 : Int32)) (by decide) ?_
  refine X_zald C0 (pc := 10) dX12_shortest_10 h (fun v2 h => ?_)
  refine j_if_eq C0 (pc := 11) (tgt := 38) dX12_shortest_11 (by decide) (fun hc => ?_) (fun hc => ?_)
  · replace h := (X_if h).1 hc
    refine j_iconst C0 (pc := 38) dX12_shortest_38 (v := (-1 : Int32)) (by decide) ?_
    exact j_iret C rfl h dX12_shortest_39 (by decide)
  · replace h := (X_if h).2 hc
    refine j_iload_n C0 (pc := 14) dX12_shortest_14 rfl ?_
    refine j_if_lt C0 (pc := 15) (tgt := 38) dX12_shortest_15 (by decide) (fun hc => ?_) (fun hc => ?_)
    · replace h := (X_if h).1 hc
      refine j_iconst C0 (pc := 38) dX12_shortest_38 (v := (-1 : Int32)) (by decide) ?_
      exact j_iret C rfl h dX12_shortest_39 (by decide)
    · replace h := (X_if h).2 hc
      refine j_iload_n C0 (pc := 18) dX12_shortest_18 rfl ?_
      refine j_iconst C0 (pc := 19) dX12_shortest_19 (v := (0 : Int32)) (by decide) ?_
      refine j_iconst C0 (pc := 20) dX12_shortest_20 (v := (3 : Int32)) (by decide) ?_
      refine X_cS C0 (pc := 21) (e' := e_I) (as := [.int a2, .int (0 : Int32), .int (3 : Int32)]) (rest := []) (s' := fun w => .int w :: []) (g' := (0, 0)) s_OM_279 (fun Ψ hΨ => K_X12_within a2 (0 : Int32) (3 : Int32) M1 Ψ hΨ) rfl rfl (fun _ => rfl) (by decide) (by decide) rfl (Nat.le_of_ble_eq_true rfl) dX12_shortest_21 h (fun v3 M2 h => ?_)
      refine j_if_eq C0 (pc := 24) (tgt := 38) dX12_shortest_24 (by decide) (fun hc => ?_) (fun hc => ?_)
      · replace h := (X_if h).1 hc
        refine j_iconst C0 (pc := 38) dX12_shortest_38 (v := (-1 : Int32)) (by decide) ?_
        exact j_iret C rfl h dX12_shortest_39 (by decide)
      · replace h := (X_if h).2 hc
        refine j_aload_n C0 (pc := 27) dX12_shortest_27 rfl ?_
        refine j_aload_n C0 (pc := 28) dX12_shortest_28 rfl ?_
        refine X_gI C0 (pc := 29) f_OM_433_10 rfl dX12_shortest_29 h (fun v4 h => ?_)
        refine X_cV C0 (pc := 32) (e' := e_I) (as := [.int v4]) (rest := []) (s' := fun w => .int w :: []) (g' := (0, 0)) v_OM_436_10 (fun Ψ hΨ => K_X12_verbOf a0 v4 M2 Ψ hΨ) rfl rfl (fun _ => rfl) (by decide) (by decide) rfl (Nat.le_of_ble_eq_true rfl) dX12_shortest_32 h (fun v5 M3 h => ?_)
        refine j_if_ge C0 (pc := 35) (tgt := 40) dX12_shortest_35 (by decide) (fun hc => ?_) (fun hc => ?_)
        · replace h := (X_if h).1 hc
          refine j_aload_n C0 (pc := 40) dX12_shortest_40 rfl ?_
          refine j_aload_n C0 (pc := 41) dX12_shortest_41 rfl ?_
          refine j_aload_n C0 (pc := 42) dX12_shortest_42 rfl ?_
          refine X_gI C0 (pc := 43) f_OM_433_10 rfl dX12_shortest_43 h (fun v6 h => ?_)
          refine X_cV C0 (pc := 46) (e' := e_I) (as := [.int v6]) (rest := [.ref a0]) (s' := fun w => .int w :: [.ref a0]) (g' := (0, 0)) v_OM_436_10 (fun Ψ hΨ => K_X12_verbOf a0 v6 M3 Ψ hΨ) rfl rfl (fun _ => rfl) (by decide) (by decide) rfl (Nat.le_of_ble_eq_true rfl) dX12_shortest_46 h (fun v7 M4 h => ?_)
          refine j_aload_n C0 (pc := 49) dX12_shortest_49 rfl ?_
          refine X_gN C0 (pc := 50) f_OM_141_10 rfl dX12_shortest_50 h (fun v8 h => ?_)
          refine X_cV C0 (pc := 53) (e' := e_V) (as := [.int v7, .ref v8]) (rest := []) (s' := fun _ => []) (g' := (0, 0)) v_OM_521_10 (fun Ψ hΨ => K_X12_laysLiterals a0 v7 v8 M4 Ψ hΨ) rfl rfl (fun _ => rfl) (by decide) (by decide) rfl (Nat.le_of_ble_eq_true rfl) dX12_shortest_53 h (fun _ M5 h => ?_)
          refine j_aload_n C0 (pc := 56) dX12_shortest_56 rfl ?_
          refine j_aload_n C0 (pc := 57) dX12_shortest_57 rfl ?_
          refine j_iload_n C0 (pc := 58) dX12_shortest_58 rfl ?_
          refine X_cV C0 (pc := 59) (e' := e_I) (as := [.int a1]) (rest := [.ref a0]) (s' := fun w => .int w :: [.ref a0]) (g' := (0, 0)) v_OM_436_10 (fun Ψ hΨ => K_X12_verbOf a0 a1 M5 Ψ hΨ) rfl rfl (fun _ => rfl) (by decide) (by decide) rfl (Nat.le_of_ble_eq_true rfl) dX12_shortest_59 h (fun v9 M6 h => ?_)
          refine X_cS C0 (pc := 62) (e' := e_I) (as := [.int v9]) (rest := [.ref a0]) (s' := fun w => .int w :: [.ref a0]) (g' := (0, 0)) s_OM_481 (fun Ψ hΨ => K_X12_askedAt v9 M6 Ψ hΨ) rfl rfl (fun _ => rfl) (by decide) (by decide) rfl (Nat.le_of_ble_eq_true rfl) dX12_shortest_62 h (fun v10 M7 h => ?_)
          refine X_cV C0 (pc := 65) (e' := e_V) (as := [.int v10]) (rest := []) (s' := fun _ => []) (g' := (0, 0)) v_OM_525_10 (fun Ψ hΨ => K_X12_seeksShortest a0 v10 M7 Ψ hΨ) rfl rfl (fun _ => rfl) (by decide) (by decide) rfl (Nat.le_of_ble_eq_true rfl) dX12_shortest_65 h (fun _ M8 h => ?_)
          refine j_aload_n C0 (pc := 68) dX12_shortest_68 rfl ?_
          refine X_gI C0 (pc := 69) f_OM_498_10 rfl dX12_shortest_69 h (fun v11 h => ?_)
          refine j_if_ge C0 (pc := 72) (tgt := 77) dX12_shortest_72 (by decide) (fun hc => ?_) (fun hc => ?_)
          · replace h := (X_if h).1 hc
            refine j_iload_n C0 (pc := 77) dX12_shortest_77 rfl ?_
            refine j_if_ne C0 (pc := 78) (tgt := 88) dX12_shortest_78 (by decide) (fun hc => ?_) (fun hc => ?_)
            · replace h := (X_if h).2 hc
              refine j_iload_n C0 (pc := 88) dX12_shortest_88 rfl ?_
              refine j_iconst C0 (pc := 89) dX12_shortest_89 (v := (1 : Int32)) (by decide) ?_
              refine j_icmp_ne C0 (pc := 90) (tgt := 100) dX12_shortest_90 (by decide) (fun hc => ?_) (fun hc => ?_)
              · replace h := (X_if h).2 hc
                refine j_iload_n C0 (pc := 100) dX12_shortest_100 rfl ?_
                refine j_iconst C0 (pc := 101) dX12_shortest_101 (v := (2 : Int32)) (by decide) ?_
                refine j_icmp_ne C0 (pc := 102) (tgt := 112) dX12_shortest_102 (by decide) (fun hc => ?_) (fun hc => ?_)
                · replace h := (X_if h).2 hc
                  refine j_aload_n C0 (pc := 112) dX12_shortest_112 rfl ?_
                  refine X_gI C0 (pc := 113) f_OM_507_10 rfl dX12_shortest_113 h (fun v12 h => ?_)
                  exact j_iret C rfl h dX12_shortest_116 (by decide)
                · replace h := (X_if h).1 hc
                  refine j_aload_n C0 (pc := 105) dX12_shortest_105 rfl ?_
                  refine X_gI C0 (pc := 106) f_OM_504_10 rfl dX12_shortest_106 h (fun v13 h => ?_)
                  refine j_goto C0 (pc := 109) (tgt := 116) dX12_shortest_109 (by decide) ?_
                  exact j_iret C rfl h dX12_shortest_116 (by decide)
              · replace h := (X_if h).1 hc
                refine j_aload_n C0 (pc := 93) dX12_shortest_93 rfl ?_
                refine X_gI C0 (pc := 94) f_OM_501_10 rfl dX12_shortest_94 h (fun v14 h => ?_)
                refine j_goto C0 (pc := 97) (tgt := 116) dX12_shortest_97 (by decide) ?_
                exact j_iret C rfl h dX12_shortest_116 (by decide)
            · replace h := (X_if h).1 hc
              refine j_aload_n C0 (pc := 81) dX12_shortest_81 rfl ?_
              refine X_gI C0 (pc := 82) f_OM_498_10 rfl dX12_shortest_82 h (fun v15 h => ?_)
              refine j_goto C0 (pc := 85) (tgt := 116) dX12_shortest_85 (by decide) ?_
              exact j_iret C rfl h dX12_shortest_116 (by decide)
          · replace h := (X_if h).2 hc
            refine j_iconst C0 (pc := 75) dX12_shortest_75 (v := (-1 : Int32)) (by decide) ?_
            exact j_iret C rfl h dX12_shortest_76 (by decide)
        · replace h := (X_if h).2 hc
          refine j_iconst C0 (pc := 38) dX12_shortest_38 (v := (-1 : Int32)) (by decide) ?_
          exact j_iret C rfl h dX12_shortest_39 (by decide)
theorem dX12_sure_0 : decode cX12_sure 0 = .ok (.aload_n 0, 1) := by decide +kernel
theorem dX12_sure_1 : decode cX12_sure 1 = .ok (.iconst 0, 1) := by decide +kernel
theorem dX12_sure_2 : decode cX12_sure 2 = .ok (.putfield 163, 3) := by decide +kernel
theorem dX12_sure_5 : decode cX12_sure 5 = .ok (.aload_n 0, 1) := by decide +kernel
theorem dX12_sure_6 : decode cX12_sure 6 = .ok (.iload_n 1, 1) := by decide +kernel
theorem dX12_sure_7 : decode cX12_sure 7 = .ok (.iload_n 2, 1) := by decide +kernel
theorem dX12_sure_8 : decode cX12_sure 8 = .ok (.invokevirtual 488, 3) := by decide +kernel
theorem dX12_sure_11 : decode cX12_sure 11 = .ok (.ifCond .ne 5, 3) := by decide +kernel
theorem dX12_sure_14 : decode cX12_sure 14 = .ok (.iconst (-1), 1) := by decide +kernel
theorem dX12_sure_15 : decode cX12_sure 15 = .ok (.ireturn, 1) := by decide +kernel
theorem dX12_sure_16 : decode cX12_sure 16 = .ok (.aload_n 0, 1) := by decide +kernel
theorem dX12_sure_17 : decode cX12_sure 17 = .ok (.invokevirtual 463, 3) := by decide +kernel
theorem dX12_sure_20 : decode cX12_sure 20 = .ok (.iconst 0, 1) := by decide +kernel
theorem dX12_sure_21 : decode cX12_sure 21 = .ok (.istore_n 3, 1) := by decide +kernel
theorem dX12_sure_22 : decode cX12_sure 22 = .ok (.iconst 0, 1) := by decide +kernel
theorem dX12_sure_23 : decode cX12_sure 23 = .ok (.istore 4, 2) := by decide +kernel
theorem dX12_sure_25 : decode cX12_sure 25 = .ok (.iconst 0, 1) := by decide +kernel
theorem dX12_sure_26 : decode cX12_sure 26 = .ok (.istore 5, 2) := by decide +kernel
theorem dX12_sure_28 : decode cX12_sure 28 = .ok (.iload 5, 2) := by decide +kernel
theorem dX12_sure_30 : decode cX12_sure 30 = .ok (.aload_n 0, 1) := by decide +kernel
theorem dX12_sure_31 : decode cX12_sure 31 = .ok (.getfield 383, 3) := by decide +kernel
theorem dX12_sure_34 : decode cX12_sure 34 = .ok (.if_icmp .ge 64, 3) := by decide +kernel
theorem dX12_sure_37 : decode cX12_sure 37 = .ok (.aload_n 0, 1) := by decide +kernel
theorem dX12_sure_38 : decode cX12_sure 38 = .ok (.getfield 135, 3) := by decide +kernel
theorem dX12_sure_41 : decode cX12_sure 41 = .ok (.iload 5, 2) := by decide +kernel
theorem dX12_sure_43 : decode cX12_sure 43 = .ok (.bipush 64, 2) := by decide +kernel
theorem dX12_sure_45 : decode cX12_sure 45 = .ok (.idiv, 1) := by decide +kernel
theorem dX12_sure_46 : decode cX12_sure 46 = .ok (.laload, 1) := by decide +kernel
theorem dX12_sure_47 : decode cX12_sure 47 = .ok (.iload 5, 2) := by decide +kernel
theorem dX12_sure_49 : decode cX12_sure 49 = .ok (.bipush 64, 2) := by decide +kernel
theorem dX12_sure_51 : decode cX12_sure 51 = .ok (.irem, 1) := by decide +kernel
theorem dX12_sure_52 : decode cX12_sure 52 = .ok (.lshr, 1) := by decide +kernel
theorem dX12_sure_53 : decode cX12_sure 53 = .ok (.lconst 1, 1) := by decide +kernel
theorem dX12_sure_54 : decode cX12_sure 54 = .ok (.land, 1) := by decide +kernel
theorem dX12_sure_55 : decode cX12_sure 55 = .ok (.lconst 0, 1) := by decide +kernel
theorem dX12_sure_56 : decode cX12_sure 56 = .ok (.lcmp, 1) := by decide +kernel
theorem dX12_sure_57 : decode cX12_sure 57 = .ok (.ifCond .ne 6, 3) := by decide +kernel
theorem dX12_sure_60 : decode cX12_sure 60 = .ok (.goto 32, 3) := by decide +kernel
theorem dX12_sure_63 : decode cX12_sure 63 = .ok (.aload_n 0, 1) := by decide +kernel
theorem dX12_sure_64 : decode cX12_sure 64 = .ok (.iload 5, 2) := by decide +kernel
theorem dX12_sure_66 : decode cX12_sure 66 = .ok (.invokevirtual 402, 3) := by decide +kernel
theorem dX12_sure_69 : decode cX12_sure 69 = .ok (.iinc 3 1, 3) := by decide +kernel
theorem dX12_sure_72 : decode cX12_sure 72 = .ok (.iload 4, 2) := by decide +kernel
theorem dX12_sure_74 : decode cX12_sure 74 = .ok (.aload_n 0, 1) := by decide +kernel
theorem dX12_sure_75 : decode cX12_sure 75 = .ok (.getfield 87, 3) := by decide +kernel
theorem dX12_sure_78 : decode cX12_sure 78 = .ok (.iload_n 1, 1) := by decide +kernel
theorem dX12_sure_79 : decode cX12_sure 79 = .ok (.iaload, 1) := by decide +kernel
theorem dX12_sure_80 : decode cX12_sure 80 = .ok (.iload_n 2, 1) := by decide +kernel
theorem dX12_sure_81 : decode cX12_sure 81 = .ok (.if_icmp .ne 7, 3) := by decide +kernel
theorem dX12_sure_84 : decode cX12_sure 84 = .ok (.iconst 1, 1) := by decide +kernel
theorem dX12_sure_85 : decode cX12_sure 85 = .ok (.goto 4, 3) := by decide +kernel
theorem dX12_sure_88 : decode cX12_sure 88 = .ok (.iconst 0, 1) := by decide +kernel
theorem dX12_sure_89 : decode cX12_sure 89 = .ok (.iadd, 1) := by decide +kernel
theorem dX12_sure_90 : decode cX12_sure 90 = .ok (.istore 4, 2) := by decide +kernel
theorem dX12_sure_92 : decode cX12_sure 92 = .ok (.iinc 5 1, 3) := by decide +kernel
theorem dX12_sure_95 : decode cX12_sure 95 = .ok (.goto (-67), 3) := by decide +kernel
theorem dX12_sure_98 : decode cX12_sure 98 = .ok (.iload_n 3, 1) := by decide +kernel
theorem dX12_sure_99 : decode cX12_sure 99 = .ok (.ifCond .ne 7, 3) := by decide +kernel
theorem dX12_sure_102 : decode cX12_sure 102 = .ok (.iconst (-1), 1) := by decide +kernel
theorem dX12_sure_103 : decode cX12_sure 103 = .ok (.goto 23, 3) := by decide +kernel
theorem dX12_sure_106 : decode cX12_sure 106 = .ok (.iload 4, 2) := by decide +kernel
theorem dX12_sure_108 : decode cX12_sure 108 = .ok (.iload_n 3, 1) := by decide +kernel
theorem dX12_sure_109 : decode cX12_sure 109 = .ok (.if_icmp .ne 7, 3) := by decide +kernel
theorem dX12_sure_112 : decode cX12_sure 112 = .ok (.iconst 1, 1) := by decide +kernel
theorem dX12_sure_113 : decode cX12_sure 113 = .ok (.goto 13, 3) := by decide +kernel
theorem dX12_sure_116 : decode cX12_sure 116 = .ok (.iload 4, 2) := by decide +kernel
theorem dX12_sure_118 : decode cX12_sure 118 = .ok (.ifCond .ne 7, 3) := by decide +kernel
theorem dX12_sure_121 : decode cX12_sure 121 = .ok (.iconst 0, 1) := by decide +kernel
theorem dX12_sure_122 : decode cX12_sure 122 = .ok (.goto 4, 3) := by decide +kernel
theorem dX12_sure_125 : decode cX12_sure 125 = .ok (.iconst 2, 1) := by decide +kernel
theorem dX12_sure_126 : decode cX12_sure 126 = .ok (.ireturn, 1) := by decide +kernel
noncomputable def F_X12_sure_28 (k98 : Int32 → Int32 → m_M → Option (Int32 × m_M)) : Nat → Nat → Int32 → Int32 → Int32 → Int32 → Int32 → m_M → Option (Int32 × m_M)
  | 0, _, _, _, _, _, _, _ => none
  | n + 1, v1, v2, v3, v4, v5, v6, M =>
    x_gI 10 M v1 42 fun v7 =>
    if v7 ≤ v6 then (
      k98 v4 v5 M
    ) else
    m_let (fun (v8 : Nat) (v9 : Int32) (v10 : Int32) (v11 : Int32) (v12 : Int32) (v13 : Int32) (M1 : m_M) =>
      m_let (v13 + (1 : Int32)) fun v14 =>
      F_X12_sure_28 k98 n v8 v9 v10 v11 v12 v14 M1
    ) fun (k92 : Nat → Int32 → Int32 → Int32 → Int32 → Int32 → m_M → Option (Int32 × m_M)) =>
    x_gN 10 M v1 62 fun v15 =>
    x_nz (64 : Int32) <|
    x_aL M v15 (v6 / (64 : Int32)) fun v16 =>
    x_nz (64 : Int32) <|
    if (lg_cmp ((v16 >>> ((v6 - v6 / (64 : Int32) * (64 : Int32)).toInt64 &&& 63)) &&& (1 : Int64)) (0 : Int64)) = 0 then (
      k92 v1 v2 v3 v4 v5 v6 M
    ) else
    m_let (fun (v17 : Nat) (v18 : Int32) (v19 : Int32) (v20 : Int32) (v21 : Int32) (v22 : Int32) (v23 : Int32) (M2 : m_M) =>
      m_let (v22 + v23) fun v24 =>
      k92 v17 v18 v19 v20 v24 v21 M2
    ) fun (k89 : Nat → Int32 → Int32 → Int32 → Int32 → Int32 → Int32 → m_M → Option (Int32 × m_M)) =>
    x_cV 10 M v1 (F_X12_shows v1 v6 M) fun _ M3 =>
    m_let (v4 + (1 : Int32)) fun v25 =>
    x_gN 10 M3 v1 44 fun v26 =>
    x_aI 12 M3 v26 v2 fun v27 =>
    if v27 = v3 then (
      k89 v1 v2 v3 v25 v6 v5 (1 : Int32) M3
    ) else
    k89 v1 v2 v3 v25 v6 v5 (0 : Int32) M3
noncomputable def F_X12_sure (a0 : Nat) (a1 : Int32) (a2 : Int32) (M : m_M) : Option (Int32 × m_M) :=
  x_pI 10 M a0 0 (0 : Int32) fun M1 =>
  x_cV 10 M1 a0 (F_X12_isThingAt a0 a1 a2 M1) fun v1 M2 =>
  if v1 = 0 then (
    some ((-1 : Int32), M2)
  ) else
  x_cV 10 M2 a0 (F_X12_leaves a0 M2) fun _ M3 =>
  m_let (fun (v2 : Int32) (v3 : Int32) (M4 : m_M) =>
    if v2 = 0 then (
      some ((-1 : Int32), M4)
    ) else
    if v3 = v2 then (
      some ((1 : Int32), M4)
    ) else
    if v3 = 0 then (
      some ((0 : Int32), M4)
    ) else
    some ((2 : Int32), M4)
  ) fun (k98 : Int32 → Int32 → m_M → Option (Int32 × m_M)) =>
  F_X12_sure_28 k98 m_FU a0 a1 a2 (0 : Int32) (0 : Int32) (0 : Int32) M3
set_option maxHeartbeats 4000000 in
theorem L_X12_sure_28 {X : j_X} {Φ : Option Value → m_M → Prop} (C : j_C X yX12_sure cX12_sure 6 (some .int) 4 0 0 Φ) {k98 : Int32 → Int32 → m_M → Option (Int32 × m_M)} (hk98 : ∀ (p0 : Int32) (p1 : Int32) (M : m_M), m_ok e_I Φ (k98 p0 p1 M) → j_J X 6 98 [none, none, none, some (.int p0), some (.int p1), none] [] (0, 0) M) : ∀ (n : Nat) (v1 : Nat) (v2 : Int32) (v3 : Int32) (v4 : Int32) (v5 : Int32) (v6 : Int32) (M : m_M), m_ok e_I Φ (F_X12_sure_28 k98 n v1 v2 v3 v4 v5 v6 M) → j_J X 6 28 [some (.ref v1), some (.int v2), some (.int v3), some (.int v4), some (.int v5), some (.int v6)] [] (0, 0) M := by
  have C0 := C.1
  intro n
  induction n with
  | zero => intro v1 v2 v3 v4 v5 v6 M h; exact False.elim h
  | succ n ih =>
    intro v1 v2 v3 v4 v5 v6 M h
    rw [F_X12_sure_28] at h
    refine j_iload C0 (pc := 28) dX12_sure_28 rfl ?_
    refine j_aload_n C0 (pc := 30) dX12_sure_30 rfl ?_
    refine X_gI C0 (pc := 31) f_OM_383_10 rfl dX12_sure_31 h (fun v7 h => ?_)
    refine j_icmp_ge C0 (pc := 34) (tgt := 98) dX12_sure_34 (by decide) (fun hc => ?_) (fun hc => ?_)
    · replace h := (X_if h).1 hc
      exact j_J.wq (hk98 v4 v5 M h) (And.intro rfl (And.intro rfl (trivial)))
    · replace h := (X_if h).2 hc
      refine X_join (fun (kj : Nat → Int32 → Int32 → Int32 → Int32 → Int32 → m_M → Option (Int32 × m_M)) => ∀ (p0 : Nat) (p1 : Int32) (p2 : Int32) (p3 : Int32) (p4 : Int32) (p5 : Int32) (M : m_M), m_ok e_I Φ (kj p0 p1 p2 p3 p4 p5 M) → j_J X 6 92 [some (.ref p0), some (.int p1), some (.int p2), some (.int p3), some (.int p4), some (.int p5)] [] (0, 0) M) h (fun v8 v9 v10 v11 v12 v13 M1 h => ?_) (fun k92 hk92 h => ?_)
      · refine j_iinc C0 (pc := 92) dX12_sure_92 (v := v13 + (1 : Int32)) rfl (Nat.le_of_ble_eq_true rfl) (by rfl) ?_
        refine X_let (G := fun w => j_J X 6 95 [some (.ref v8), some (.int v9), some (.int v10), some (.int v11), some (.int v12), some (.int w)] [] (0, 0) M1) h (fun v14 h => ?_)
        refine j_goto C0 (pc := 95) (tgt := 28) dX12_sure_95 (by decide) ?_
        exact j_J.wq (ih v8 v9 v10 v11 v12 v14 M1 h) (And.intro rfl (And.intro rfl (And.intro rfl (And.intro rfl (And.intro rfl (And.intro rfl (trivial)))))))
      · refine j_aload_n C0 (pc := 37) dX12_sure_37 rfl ?_
        refine X_gN C0 (pc := 38) f_OM_135_10 rfl dX12_sure_38 h (fun v15 h => ?_)
        refine j_iload C0 (pc := 41) dX12_sure_41 rfl ?_
        refine j_bipush C0 (pc := 43) dX12_sure_43 (v := (64 : Int32)) (by decide) ?_
        refine X_idiv C0 (pc := 45) dX12_sure_45 h (fun h => ?_)
        refine X_lald C0 (pc := 46) dX12_sure_46 h (fun v16 h => ?_)
        refine j_iload C0 (pc := 47) dX12_sure_47 rfl ?_
        refine j_bipush C0 (pc := 49) dX12_sure_49 (v := (64 : Int32)) (by decide) ?_
        refine X_irem C0 (pc := 51) dX12_sure_51 h (fun h => ?_)
        refine j_lshr C0 (pc := 52) dX12_sure_52 (v := v16 >>> ((v6 - v6 / (64 : Int32) * (64 : Int32)).toInt64 &&& 63)) rfl ?_
        refine j_lconst C0 (pc := 53) dX12_sure_53 (v := (1 : Int64)) (by decide) ?_
        refine j_land C0 (pc := 54) dX12_sure_54 ?_
        refine j_lconst C0 (pc := 55) dX12_sure_55 (v := (0 : Int64)) (by decide) ?_
        refine j_lcmp C0 (pc := 56) dX12_sure_56 ?_
        refine j_if_ne C0 (pc := 57) (tgt := 63) dX12_sure_57 (by decide) (fun hc => ?_) (fun hc => ?_)
        · replace h := (X_if h).2 hc
          refine X_join (fun (kj : Nat → Int32 → Int32 → Int32 → Int32 → Int32 → Int32 → m_M → Option (Int32 × m_M)) => ∀ (p0 : Nat) (p1 : Int32) (p2 : Int32) (p3 : Int32) (p4 : Int32) (p5 : Int32) (p6 : Int32) (M : m_M), m_ok e_I Φ (kj p0 p1 p2 p3 p4 p5 p6 M) → j_J X 6 89 [some (.ref p0), some (.int p1), some (.int p2), some (.int p3), none, some (.int p4)] [.int p6, .int p5] (0, 0) M) h (fun v17 v18 v19 v20 v21 v22 v23 M2 h => ?_) (fun k89 hk89 h => ?_)
          · refine j_iadd C0 (pc := 89) dX12_sure_89 ?_
            refine X_let (G := fun w => j_J X 6 90 [some (.ref v17), some (.int v18), some (.int v19), some (.int v20), none, some (.int v21)] (.int w :: []) (0, 0) M2) h (fun v24 h => ?_)
            refine j_istore C0 (pc := 90) dX12_sure_90 (Nat.le_of_ble_eq_true rfl) ?_
            show j_J X 6 92 [some (.ref v17), some (.int v18), some (.int v19), some (.int v20), some (.int v24), some (.int v21)] [] (0, 0) M2
            exact j_J.wq (hk92 v17 v18 v19 v20 v24 v21 M2 h) (And.intro rfl (And.intro rfl (And.intro rfl (And.intro rfl (And.intro rfl (And.intro rfl (trivial)))))))
          · refine j_aload_n C0 (pc := 63) dX12_sure_63 rfl ?_
            refine j_iload C0 (pc := 64) dX12_sure_64 rfl ?_
            refine X_cV C0 (pc := 66) (e' := e_V) (as := [.int v6]) (rest := []) (s' := fun _ => []) (g' := (0, 0)) v_OM_402_10 (fun Ψ hΨ => K_X12_shows v1 v6 M Ψ hΨ) rfl rfl (fun _ => rfl) (by decide) (by decide) rfl (Nat.le_of_ble_eq_true rfl) dX12_sure_66 h (fun _ M3 h => ?_)
            refine j_iinc C0 (pc := 69) dX12_sure_69 (v := v4 + (1 : Int32)) rfl (Nat.le_of_ble_eq_true rfl) (by rfl) ?_
            refine X_let (G := fun w => j_J X 6 72 [some (.ref v1), some (.int v2), some (.int v3), some (.int w), some (.int v5), some (.int v6)] [] (0, 0) M3) h (fun v25 h => ?_)
            refine j_iload C0 (pc := 72) dX12_sure_72 rfl ?_
            refine j_aload_n C0 (pc := 74) dX12_sure_74 rfl ?_
            refine X_gN C0 (pc := 75) f_OM_87_10 rfl dX12_sure_75 h (fun v26 h => ?_)
            refine j_iload_n C0 (pc := 78) dX12_sure_78 rfl ?_
            refine X_iald C0 (pc := 79) dX12_sure_79 h (fun v27 h => ?_)
            refine j_iload_n C0 (pc := 80) dX12_sure_80 rfl ?_
            refine j_icmp_ne C0 (pc := 81) (tgt := 88) dX12_sure_81 (by decide) (fun hc => ?_) (fun hc => ?_)
            · replace h := (X_if h).2 hc
              refine j_iconst C0 (pc := 88) dX12_sure_88 (v := (0 : Int32)) (by decide) ?_
              exact j_J.wq (hk89 v1 v2 v3 v25 v6 v5 (0 : Int32) M3 h) (And.intro rfl (And.intro rfl (And.intro rfl (And.intro rfl (And.intro rfl (trivial))))))
            · replace h := (X_if h).1 hc
              refine j_iconst C0 (pc := 84) dX12_sure_84 (v := (1 : Int32)) (by decide) ?_
              refine j_goto C0 (pc := 85) (tgt := 89) dX12_sure_85 (by decide) ?_
              exact j_J.wq (hk89 v1 v2 v3 v25 v6 v5 (1 : Int32) M3 h) (And.intro rfl (And.intro rfl (And.intro rfl (And.intro rfl (And.intro rfl (trivial))))))
        · replace h := (X_if h).1 hc
          refine j_goto C0 (pc := 60) (tgt := 92) dX12_sure_60 (by decide) ?_
          exact j_J.wq (hk92 v1 v2 v3 v4 v5 v6 M h) (And.intro rfl (And.intro rfl (And.intro rfl (And.intro rfl (And.intro rfl (And.intro rfl (trivial)))))))
set_option maxHeartbeats 4000000 in
theorem K_X12_sure (a0 : Nat) (a1 : Int32) (a2 : Int32) (M : m_M) (Φ : Option Value → m_M → Prop) (h : m_ok e_I Φ (F_X12_sure a0 a1 a2 M)) : j_Ct yX12_sure cX12_sure 6 (some .int) 4 0 0 [.ref a0, .int a1, .int a2] M Φ := by
  refine j_Ct.of (by decide +kernel) (Nat.le_of_ble_eq_true rfl) fun X C => ?_
  have C0 := C.1
  show j_J X 6 0 [some (.ref a0), some (.int a1), some (.int a2), none, none, none] [] (0, 0) M
  unfold F_X12_sure at h
  refine j_aload_n C0 (pc := 0) dX12_sure_0 rfl ?_
  refine j_iconst C0 (pc := 1) dX12_sure_1 (v := (0 : Int32)) (by decide) ?_
  refine X_pI C0 (pc := 2) f_OM_163_10 rfl rfl dX12_sure_2 h (fun M1 h => ?_)
  refine j_aload_n C0 (pc := 5) dX12_sure_5 rfl ?_
  refine j_iload_n C0 (pc := 6) dX12_sure_6 rfl ?_
  refine j_iload_n C0 (pc := 7) dX12_sure_7 rfl ?_
  refine X_cV C0 (pc := 8) (e' := e_I) (as := [.int a1, .int a2]) (rest := []) (s' := fun w => .int w :: []) (g' := (0, 0)) v_OM_488_10 (fun Ψ hΨ => K_X12_isThingAt a0 a1 a2 M1 Ψ hΨ) rfl rfl (fun _ => rfl) (by decide) (by decide) rfl (Nat.le_of_ble_eq_true rfl) dX12_sure_8 h (fun v1 M2 h => ?_)
  refine j_if_ne C0 (pc := 11) (tgt := 16) dX12_sure_11 (by decide) (fun hc => ?_) (fun hc => ?_)
  · replace h := (X_if h).2 hc
    refine j_aload_n C0 (pc := 16) dX12_sure_16 rfl ?_
    refine X_cV C0 (pc := 17) (e' := e_V) (as := []) (rest := []) (s' := fun _ => []) (g' := (0, 0)) v_OM_463_10 (fun Ψ hΨ => K_X12_leaves a0 M2 Ψ hΨ) rfl rfl (fun _ => rfl) (by decide) (by decide) rfl (Nat.le_of_ble_eq_true rfl) dX12_sure_17 h (fun _ M3 h => ?_)
    refine j_iconst C0 (pc := 20) dX12_sure_20 (v := (0 : Int32)) (by decide) ?_
    refine j_istore_n C0 (pc := 21) dX12_sure_21 (Nat.le_of_ble_eq_true rfl) ?_
    show j_J X 6 22 [some (.ref a0), some (.int a1), some (.int a2), some (.int (0 : Int32)), none, none] [] (0, 0) M3
    refine j_iconst C0 (pc := 22) dX12_sure_22 (v := (0 : Int32)) (by decide) ?_
    refine j_istore C0 (pc := 23) dX12_sure_23 (Nat.le_of_ble_eq_true rfl) ?_
    show j_J X 6 25 [some (.ref a0), some (.int a1), some (.int a2), some (.int (0 : Int32)), some (.int (0 : Int32)), none] [] (0, 0) M3
    refine j_iconst C0 (pc := 25) dX12_sure_25 (v := (0 : Int32)) (by decide) ?_
    refine j_istore C0 (pc := 26) dX12_sure_26 (Nat.le_of_ble_eq_true rfl) ?_
    show j_J X 6 28 [some (.ref a0), some (.int a1), some (.int a2), some (.int (0 : Int32)), some (.int (0 : Int32)), some (.int (0 : Int32))] [] (0, 0) M3
    refine X_join (fun (kj : Int32 → Int32 → m_M → Option (Int32 × m_M)) => ∀ (p0 : Int32) (p1 : Int32) (M : m_M), m_ok e_I Φ (kj p0 p1 M) → j_J X 6 98 [none, none, none, some (.int p0), some (.int p1), none] [] (0, 0) M) h (fun v2 v3 M4 h => ?_) (fun k98 hk98 h => ?_)
    · refine j_iload_n C0 (pc := 98) dX12_sure_98 rfl ?_
      refine j_if_ne C0 (pc := 99) (tgt := 106) dX12_sure_99 (by decide) (fun hc => ?_) (fun hc => ?_)
      · replace h := (X_if h).2 hc
        refine j_iload C0 (pc := 106) dX12_sure_106 rfl ?_
        refine j_iload_n C0 (pc := 108) dX12_sure_108 rfl ?_
        refine j_icmp_ne C0 (pc := 109) (tgt := 116) dX12_sure_109 (by decide) (fun hc => ?_) (fun hc => ?_)
        · replace h := (X_if h).2 hc
          refine j_iload C0 (pc := 116) dX12_sure_116 rfl ?_
          refine j_if_ne C0 (pc := 118) (tgt := 125) dX12_sure_118 (by decide) (fun hc => ?_) (fun hc => ?_)
          · replace h := (X_if h).2 hc
            refine j_iconst C0 (pc := 125) dX12_sure_125 (v := (2 : Int32)) (by decide) ?_
            exact j_iret C rfl h dX12_sure_126 (by decide)
          · replace h := (X_if h).1 hc
            refine j_iconst C0 (pc := 121) dX12_sure_121 (v := (0 : Int32)) (by decide) ?_
            refine j_goto C0 (pc := 122) (tgt := 126) dX12_sure_122 (by decide) ?_
            exact j_iret C rfl h dX12_sure_126 (by decide)
        · replace h := (X_if h).1 hc
          refine j_iconst C0 (pc := 112) dX12_sure_112 (v := (1 : Int32)) (by decide) ?_
          refine j_goto C0 (pc := 113) (tgt := 126) dX12_sure_113 (by decide) ?_
          exact j_iret C rfl h dX12_sure_126 (by decide)
      · replace h := (X_if h).1 hc
        refine j_iconst C0 (pc := 102) dX12_sure_102 (v := (-1 : Int32)) (by decide) ?_
        refine j_goto C0 (pc := 103) (tgt := 126) dX12_sure_103 (by decide) ?_
        exact j_iret C rfl h dX12_sure_126 (by decide)
    · exact j_J.wq (L_X12_sure_28 C hk98 m_FU a0 a1 a2 (0 : Int32) (0 : Int32) (0 : Int32) M3 h) (And.intro rfl (And.intro rfl (And.intro rfl (And.intro rfl (And.intro rfl (And.intro rfl (trivial)))))))
  · replace h := (X_if h).1 hc
    refine j_iconst C0 (pc := 14) dX12_sure_14 (v := (-1 : Int32)) (by decide) ?_
    exact j_iret C rfl h dX12_sure_15 (by decide)
theorem dX12_tells_0 : decode cX12_tells 0 = .ok (.aload_n 0, 1) := by decide +kernel
theorem dX12_tells_1 : decode cX12_tells 1 = .ok (.iconst 0, 1) := by decide +kernel
theorem dX12_tells_2 : decode cX12_tells 2 = .ok (.putfield 163, 3) := by decide +kernel
theorem dX12_tells_5 : decode cX12_tells 5 = .ok (.aload_n 0, 1) := by decide +kernel
theorem dX12_tells_6 : decode cX12_tells 6 = .ok (.iload_n 1, 1) := by decide +kernel
theorem dX12_tells_7 : decode cX12_tells 7 = .ok (.invokevirtual 466, 3) := by decide +kernel
theorem dX12_tells_10 : decode cX12_tells 10 = .ok (.ifCond .ne 5, 3) := by decide +kernel
theorem dX12_tells_13 : decode cX12_tells 13 = .ok (.iconst (-1), 1) := by decide +kernel
theorem dX12_tells_14 : decode cX12_tells 14 = .ok (.ireturn, 1) := by decide +kernel
theorem dX12_tells_15 : decode cX12_tells 15 = .ok (.aload_n 0, 1) := by decide +kernel
theorem dX12_tells_16 : decode cX12_tells 16 = .ok (.invokevirtual 561, 3) := by decide +kernel
theorem dX12_tells_19 : decode cX12_tells 19 = .ok (.istore_n 2, 1) := by decide +kernel
theorem dX12_tells_20 : decode cX12_tells 20 = .ok (.aload_n 0, 1) := by decide +kernel
theorem dX12_tells_21 : decode cX12_tells 21 = .ok (.iload_n 1, 1) := by decide +kernel
theorem dX12_tells_22 : decode cX12_tells 22 = .ok (.invokevirtual 402, 3) := by decide +kernel
theorem dX12_tells_25 : decode cX12_tells 25 = .ok (.iconst (-1), 1) := by decide +kernel
theorem dX12_tells_26 : decode cX12_tells 26 = .ok (.istore_n 3, 1) := by decide +kernel
theorem dX12_tells_27 : decode cX12_tells 27 = .ok (.iconst 0, 1) := by decide +kernel
theorem dX12_tells_28 : decode cX12_tells 28 = .ok (.istore 4, 2) := by decide +kernel
theorem dX12_tells_30 : decode cX12_tells 30 = .ok (.iconst 0, 1) := by decide +kernel
theorem dX12_tells_31 : decode cX12_tells 31 = .ok (.istore 5, 2) := by decide +kernel
theorem dX12_tells_33 : decode cX12_tells 33 = .ok (.iload 5, 2) := by decide +kernel
theorem dX12_tells_35 : decode cX12_tells 35 = .ok (.sipush 400, 3) := by decide +kernel
theorem dX12_tells_38 : decode cX12_tells 38 = .ok (.if_icmp .ge 106, 3) := by decide +kernel
theorem dX12_tells_41 : decode cX12_tells 41 = .ok (.aload_n 0, 1) := by decide +kernel
theorem dX12_tells_42 : decode cX12_tells 42 = .ok (.iload 5, 2) := by decide +kernel
theorem dX12_tells_44 : decode cX12_tells 44 = .ok (.invokevirtual 475, 3) := by decide +kernel
theorem dX12_tells_47 : decode cX12_tells 47 = .ok (.ifCond .ne 6, 3) := by decide +kernel
theorem dX12_tells_50 : decode cX12_tells 50 = .ok (.goto 88, 3) := by decide +kernel
theorem dX12_tells_53 : decode cX12_tells 53 = .ok (.iconst 0, 1) := by decide +kernel
theorem dX12_tells_54 : decode cX12_tells 54 = .ok (.istore 6, 2) := by decide +kernel
theorem dX12_tells_56 : decode cX12_tells 56 = .ok (.iconst 0, 1) := by decide +kernel
theorem dX12_tells_57 : decode cX12_tells 57 = .ok (.istore 7, 2) := by decide +kernel
theorem dX12_tells_59 : decode cX12_tells 59 = .ok (.iload 7, 2) := by decide +kernel
theorem dX12_tells_61 : decode cX12_tells 61 = .ok (.aload_n 0, 1) := by decide +kernel
theorem dX12_tells_62 : decode cX12_tells 62 = .ok (.getfield 13, 3) := by decide +kernel
theorem dX12_tells_65 : decode cX12_tells 65 = .ok (.iconst 3, 1) := by decide +kernel
theorem dX12_tells_66 : decode cX12_tells 66 = .ok (.iaload, 1) := by decide +kernel
theorem dX12_tells_67 : decode cX12_tells 67 = .ok (.if_icmp .ge 40, 3) := by decide +kernel
theorem dX12_tells_70 : decode cX12_tells 70 = .ok (.iload 6, 2) := by decide +kernel
theorem dX12_tells_72 : decode cX12_tells 72 = .ok (.iload_n 2, 1) := by decide +kernel
theorem dX12_tells_73 : decode cX12_tells 73 = .ok (.iload 7, 2) := by decide +kernel
theorem dX12_tells_75 : decode cX12_tells 75 = .ok (.ishr, 1) := by decide +kernel
theorem dX12_tells_76 : decode cX12_tells 76 = .ok (.iconst 1, 1) := by decide +kernel
theorem dX12_tells_77 : decode cX12_tells 77 = .ok (.iand, 1) := by decide +kernel
theorem dX12_tells_78 : decode cX12_tells 78 = .ok (.iconst 1, 1) := by decide +kernel
theorem dX12_tells_79 : decode cX12_tells 79 = .ok (.if_icmp .ne 18, 3) := by decide +kernel
theorem dX12_tells_82 : decode cX12_tells 82 = .ok (.aload_n 0, 1) := by decide +kernel
theorem dX12_tells_83 : decode cX12_tells 83 = .ok (.iload 5, 2) := by decide +kernel
theorem dX12_tells_85 : decode cX12_tells 85 = .ok (.iload 7, 2) := by decide +kernel
theorem dX12_tells_87 : decode cX12_tells 87 = .ok (.invokevirtual 478, 3) := by decide +kernel
theorem dX12_tells_90 : decode cX12_tells 90 = .ok (.ifCond .eq 7, 3) := by decide +kernel
theorem dX12_tells_93 : decode cX12_tells 93 = .ok (.iconst 1, 1) := by decide +kernel
theorem dX12_tells_94 : decode cX12_tells 94 = .ok (.goto 4, 3) := by decide +kernel
theorem dX12_tells_97 : decode cX12_tells 97 = .ok (.iconst 0, 1) := by decide +kernel
theorem dX12_tells_98 : decode cX12_tells 98 = .ok (.iadd, 1) := by decide +kernel
theorem dX12_tells_99 : decode cX12_tells 99 = .ok (.istore 6, 2) := by decide +kernel
theorem dX12_tells_101 : decode cX12_tells 101 = .ok (.iinc 7 1, 3) := by decide +kernel
theorem dX12_tells_104 : decode cX12_tells 104 = .ok (.goto (-45), 3) := by decide +kernel
theorem dX12_tells_107 : decode cX12_tells 107 = .ok (.iload 6, 2) := by decide +kernel
theorem dX12_tells_109 : decode cX12_tells 109 = .ok (.iload_n 2, 1) := by decide +kernel
theorem dX12_tells_110 : decode cX12_tells 110 = .ok (.invokestatic 495, 3) := by decide +kernel
theorem dX12_tells_113 : decode cX12_tells 113 = .ok (.iload 6, 2) := by decide +kernel
theorem dX12_tells_115 : decode cX12_tells 115 = .ok (.isub, 1) := by decide +kernel
theorem dX12_tells_116 : decode cX12_tells 116 = .ok (.invokestatic 564, 3) := by decide +kernel
theorem dX12_tells_119 : decode cX12_tells 119 = .ok (.istore 7, 2) := by decide +kernel
theorem dX12_tells_121 : decode cX12_tells 121 = .ok (.iload 7, 2) := by decide +kernel
theorem dX12_tells_123 : decode cX12_tells 123 = .ok (.iload 4, 2) := by decide +kernel
theorem dX12_tells_125 : decode cX12_tells 125 = .ok (.if_icmp .gt 6, 3) := by decide +kernel
theorem dX12_tells_128 : decode cX12_tells 128 = .ok (.goto 10, 3) := by decide +kernel
theorem dX12_tells_131 : decode cX12_tells 131 = .ok (.iload 7, 2) := by decide +kernel
theorem dX12_tells_133 : decode cX12_tells 133 = .ok (.istore 4, 2) := by decide +kernel
theorem dX12_tells_135 : decode cX12_tells 135 = .ok (.iload 5, 2) := by decide +kernel
theorem dX12_tells_137 : decode cX12_tells 137 = .ok (.istore_n 3, 1) := by decide +kernel
theorem dX12_tells_138 : decode cX12_tells 138 = .ok (.iinc 5 1, 3) := by decide +kernel
theorem dX12_tells_141 : decode cX12_tells 141 = .ok (.goto (-108), 3) := by decide +kernel
theorem dX12_tells_144 : decode cX12_tells 144 = .ok (.iload_n 3, 1) := by decide +kernel
theorem dX12_tells_145 : decode cX12_tells 145 = .ok (.ireturn, 1) := by decide +kernel
noncomputable def F_X12_tells_59 (k107 : Nat → Int32 → Int32 → Int32 → Int32 → Int32 → m_M → Option (Int32 × m_M)) : Nat → Nat → Int32 → Int32 → Int32 → Int32 → Int32 → Int32 → m_M → Option (Int32 × m_M)
  | 0, _, _, _, _, _, _, _, _ => none
  | n + 1, v1, v2, v3, v4, v5, v6, v7, M =>
    x_gN 10 M v1 10 fun v8 =>
    x_aI 12 M v8 (3 : Int32) fun v9 =>
    if v9 ≤ v7 then (
      k107 v1 v2 v3 v4 v5 v6 M
    ) else
    m_let (fun (v10 : Nat) (v11 : Int32) (v12 : Int32) (v13 : Int32) (v14 : Int32) (v15 : Int32) (v16 : Int32) (v17 : Int32) (M1 : m_M) =>
      m_let (v16 + v17) fun v18 =>
      m_let (v15 + (1 : Int32)) fun v19 =>
      F_X12_tells_59 k107 n v10 v11 v12 v13 v14 v18 v19 M1
    ) fun (k98 : Nat → Int32 → Int32 → Int32 → Int32 → Int32 → Int32 → Int32 → m_M → Option (Int32 × m_M)) =>
    m_let (fun (v20 : Nat) (v21 : Int32) (v22 : Int32) (v23 : Int32) (v24 : Int32) (v25 : Int32) (v26 : Int32) (M2 : m_M) =>
      k98 v20 v21 v22 v23 v24 v25 v26 (0 : Int32) M2
    ) fun (k97 : Nat → Int32 → Int32 → Int32 → Int32 → Int32 → Int32 → m_M → Option (Int32 × m_M)) =>
    if ((v2 >>> (v7 &&& 31)) &&& (1 : Int32)) = (1 : Int32) then (
      x_cV 10 M v1 (F_X12_clauseHolds v1 v5 v7 M) fun v27 M3 =>
      if v27 = 0 then (
        k97 v1 v2 v3 v4 v5 v7 v6 M3
      ) else
      k98 v1 v2 v3 v4 v5 v7 v6 (1 : Int32) M3
    ) else
    k97 v1 v2 v3 v4 v5 v7 v6 M
noncomputable def F_X12_tells_33 : Nat → Nat → Int32 → Int32 → Int32 → Int32 → m_M → Option (Int32 × m_M)
  | 0, _, _, _, _, _, _ => none
  | n + 1, v1, v2, v3, v4, v5, M =>
    if (400 : Int32) ≤ v5 then (
      some (v3, M)
    ) else
    m_let (fun (v6 : Nat) (v7 : Int32) (v8 : Int32) (v9 : Int32) (v10 : Int32) (M1 : m_M) =>
      m_let (v10 + (1 : Int32)) fun v11 =>
      F_X12_tells_33 n v6 v7 v8 v9 v11 M1
    ) fun (k138 : Nat → Int32 → Int32 → Int32 → Int32 → m_M → Option (Int32 × m_M)) =>
    x_cV 10 M v1 (F_X12_isClause v1 v5 M) fun v12 M2 =>
    if v12 = 0 then (
      k138 v1 v2 v3 v4 v5 M2
    ) else
    m_let (fun (v13 : Nat) (v14 : Int32) (v15 : Int32) (v16 : Int32) (v17 : Int32) (v18 : Int32) (M3 : m_M) =>
      x_bd (F_X12_bits v14 M3) fun v19 M4 =>
      x_bd (F_J9_min_7cf53 v18 (v19 - v18) M4) fun v20 M5 =>
      if v16 < v20 then (
        k138 v13 v14 v17 v20 v17 M5
      ) else
      k138 v13 v14 v15 v16 v17 M5
    ) fun (k107 : Nat → Int32 → Int32 → Int32 → Int32 → Int32 → m_M → Option (Int32 × m_M)) =>
    F_X12_tells_59 k107 m_FU v1 v2 v3 v4 v5 (0 : Int32) (0 : Int32) M2
noncomputable def F_X12_tells (a0 : Nat) (a1 : Int32) (M : m_M) : Option (Int32 × m_M) :=
  x_pI 10 M a0 0 (0 : Int32) fun M1 =>
  x_cV 10 M1 a0 (F_X12_isWorld a0 a1 M1) fun v1 M2 =>
  if v1 = 0 then (
    some ((-1 : Int32), M2)
  ) else
  x_cV 10 M2 a0 (F_X12_knowsNow a0 M2) fun v2 M3 =>
  x_cV 10 M3 a0 (F_X12_shows a0 a1 M3) fun _ M4 =>
  F_X12_tells_33 m_FU a0 v2 (-1 : Int32) (0 : Int32) (0 : Int32) M4
set_option maxHeartbeats 4000000 in
theorem L_X12_tells_59 {X : j_X} {Φ : Option Value → m_M → Prop} (C : j_C X yX12_tells cX12_tells 8 (some .int) 9 0 0 Φ) {k107 : Nat → Int32 → Int32 → Int32 → Int32 → Int32 → m_M → Option (Int32 × m_M)} (hk107 : ∀ (p0 : Nat) (p1 : Int32) (p2 : Int32) (p3 : Int32) (p4 : Int32) (p5 : Int32) (M : m_M), m_ok e_I Φ (k107 p0 p1 p2 p3 p4 p5 M) → j_J X 8 107 [some (.ref p0), none, some (.int p1), some (.int p2), some (.int p3), some (.int p4), some (.int p5), none] [] (0, 0) M) : ∀ (n : Nat) (v1 : Nat) (v2 : Int32) (v3 : Int32) (v4 : Int32) (v5 : Int32) (v6 : Int32) (v7 : Int32) (M : m_M), m_ok e_I Φ (F_X12_tells_59 k107 n v1 v2 v3 v4 v5 v6 v7 M) → j_J X 8 59 [some (.ref v1), none, some (.int v2), some (.int v3), some (.int v4), some (.int v5), some (.int v6), some (.int v7)] [] (0, 0) M := by
  have C0 := C.1
  intro n
  induction n with
  | zero => intro v1 v2 v3 v4 v5 v6 v7 M h; exact False.elim h
  | succ n ih =>
    intro v1 v2 v3 v4 v5 v6 v7 M h
    rw [F_X12_tells_59] at h
    refine j_iload C0 (pc := 59) dX12_tells_59 rfl ?_
    refine j_aload_n C0 (pc := 61) dX12_tells_61 rfl ?_
    refine X_gN C0 (pc := 62) f_OM_13_10 rfl dX12_tells_62 h (fun v8 h => ?_)
    refine j_iconst C0 (pc := 65) dX12_tells_65 (v := (3 : Int32)) (by decide) ?_
    refine X_iald C0 (pc := 66) dX12_tells_66 h (fun v9 h => ?_)
    refine j_icmp_ge C0 (pc := 67) (tgt := 107) dX12_tells_67 (by decide) (fun hc => ?_) (fun hc => ?_)
    · replace h := (X_if h).1 hc
      exact j_J.wq (hk107 v1 v2 v3 v4 v5 v6 M h) (And.intro rfl (And.intro rfl (And.intro rfl (And.intro rfl (And.intro rfl (And.intro rfl (trivial)))))))
    · replace h := (X_if h).2 hc
      refine X_join (fun (kj : Nat → Int32 → Int32 → Int32 → Int32 → Int32 → Int32 → Int32 → m_M → Option (Int32 × m_M)) => ∀ (p0 : Nat) (p1 : Int32) (p2 : Int32) (p3 : Int32) (p4 : Int32) (p5 : Int32) (p6 : Int32) (p7 : Int32) (M : m_M), m_ok e_I Φ (kj p0 p1 p2 p3 p4 p5 p6 p7 M) → j_J X 8 98 [some (.ref p0), none, some (.int p1), some (.int p2), some (.int p3), some (.int p4), none, some (.int p5)] [.int p7, .int p6] (0, 0) M) h (fun v10 v11 v12 v13 v14 v15 v16 v17 M1 h => ?_) (fun k98 hk98 h => ?_)
      · refine j_iadd C0 (pc := 98) dX12_tells_98 ?_
        refine X_let (G := fun w => j_J X 8 99 [some (.ref v10), none, some (.int v11), some (.int v12), some (.int v13), some (.int v14), none, some (.int v15)] (.int w :: []) (0, 0) M1) h (fun v18 h => ?_)
        refine j_istore C0 (pc := 99) dX12_tells_99 (Nat.le_of_ble_eq_true rfl) ?_
        show j_J X 8 101 [some (.ref v10), none, some (.int v11), some (.int v12), some (.int v13), some (.int v14), some (.int v18), some (.int v15)] [] (0, 0) M1
        refine j_iinc C0 (pc := 101) dX12_tells_101 (v := v15 + (1 : Int32)) rfl (Nat.le_of_ble_eq_true rfl) (by rfl) ?_
        refine X_let (G := fun w => j_J X 8 104 [some (.ref v10), none, some (.int v11), some (.int v12), some (.int v13), some (.int v14), some (.int v18), some (.int w)] [] (0, 0) M1) h (fun v19 h => ?_)
        refine j_goto C0 (pc := 104) (tgt := 59) dX12_tells_104 (by decide) ?_
        exact j_J.wq (ih v10 v11 v12 v13 v14 v18 v19 M1 h) (And.intro rfl (And.intro rfl (And.intro rfl (And.intro rfl (And.intro rfl (And.intro rfl (And.intro rfl (trivial))))))))
      · refine X_join (fun (kj : Nat → Int32 → Int32 → Int32 → Int32 → Int32 → Int32 → m_M → Option (Int32 × m_M)) => ∀ (p0 : Nat) (p1 : Int32) (p2 : Int32) (p3 : Int32) (p4 : Int32) (p5 : Int32) (p6 : Int32) (M : m_M), m_ok e_I Φ (kj p0 p1 p2 p3 p4 p5 p6 M) → j_J X 8 97 [some (.ref p0), none, some (.int p1), some (.int p2), some (.int p3), some (.int p4), none, some (.int p5)] [.int p6] (0, 0) M) h (fun v20 v21 v22 v23 v24 v25 v26 M2 h => ?_) (fun k97 hk97 h => ?_)
        · refine j_iconst C0 (pc := 97) dX12_tells_97 (v := (0 : Int32)) (by decide) ?_
          exact j_J.wq (hk98 v20 v21 v22 v23 v24 v25 v26 (0 : Int32) M2 h) (And.intro rfl (And.intro rfl (And.intro rfl (And.intro rfl (And.intro rfl (And.intro rfl (trivial)))))))
        · refine j_iload C0 (pc := 70) dX12_tells_70 rfl ?_
          refine j_iload_n C0 (pc := 72) dX12_tells_72 rfl ?_
          refine j_iload C0 (pc := 73) dX12_tells_73 rfl ?_
          refine j_ishr C0 (pc := 75) dX12_tells_75 ?_
          refine j_iconst C0 (pc := 76) dX12_tells_76 (v := (1 : Int32)) (by decide) ?_
          refine j_iand C0 (pc := 77) dX12_tells_77 ?_
          refine j_iconst C0 (pc := 78) dX12_tells_78 (v := (1 : Int32)) (by decide) ?_
          refine j_icmp_ne C0 (pc := 79) (tgt := 97) dX12_tells_79 (by decide) (fun hc => ?_) (fun hc => ?_)
          · replace h := (X_if h).2 hc
            exact j_J.wq (hk97 v1 v2 v3 v4 v5 v7 v6 M h) (And.intro rfl (And.intro rfl (And.intro rfl (And.intro rfl (And.intro rfl (And.intro rfl (trivial)))))))
          · replace h := (X_if h).1 hc
            refine j_aload_n C0 (pc := 82) dX12_tells_82 rfl ?_
            refine j_iload C0 (pc := 83) dX12_tells_83 rfl ?_
            refine j_iload C0 (pc := 85) dX12_tells_85 rfl ?_
            refine X_cV C0 (pc := 87) (e' := e_I) (as := [.int v5, .int v7]) (rest := [.int v6]) (s' := fun w => .int w :: [.int v6]) (g' := (0, 0)) v_OM_478_10 (fun Ψ hΨ => K_X12_clauseHolds v1 v5 v7 M Ψ hΨ) rfl rfl (fun _ => rfl) (by decide) (by decide) rfl (Nat.le_of_ble_eq_true rfl) dX12_tells_87 h (fun v27 M3 h => ?_)
            refine j_if_eq C0 (pc := 90) (tgt := 97) dX12_tells_90 (by decide) (fun hc => ?_) (fun hc => ?_)
            · replace h := (X_if h).1 hc
              exact j_J.wq (hk97 v1 v2 v3 v4 v5 v7 v6 M3 h) (And.intro rfl (And.intro rfl (And.intro rfl (And.intro rfl (And.intro rfl (And.intro rfl (trivial)))))))
            · replace h := (X_if h).2 hc
              refine j_iconst C0 (pc := 93) dX12_tells_93 (v := (1 : Int32)) (by decide) ?_
              refine j_goto C0 (pc := 94) (tgt := 98) dX12_tells_94 (by decide) ?_
              exact j_J.wq (hk98 v1 v2 v3 v4 v5 v7 v6 (1 : Int32) M3 h) (And.intro rfl (And.intro rfl (And.intro rfl (And.intro rfl (And.intro rfl (And.intro rfl (trivial)))))))
set_option maxHeartbeats 4000000 in
theorem L_X12_tells_33 {X : j_X} {Φ : Option Value → m_M → Prop} (C : j_C X yX12_tells cX12_tells 8 (some .int) 9 0 0 Φ) : ∀ (n : Nat) (v1 : Nat) (v2 : Int32) (v3 : Int32) (v4 : Int32) (v5 : Int32) (M : m_M), m_ok e_I Φ (F_X12_tells_33 n v1 v2 v3 v4 v5 M) → j_J X 8 33 [some (.ref v1), none, some (.int v2), some (.int v3), some (.int v4), some (.int v5), none, none] [] (0, 0) M := by
  have C0 := C.1
  intro n
  induction n with
  | zero => intro v1 v2 v3 v4 v5 M h; exact False.elim h
  | succ n ih =>
    intro v1 v2 v3 v4 v5 M h
    rw [F_X12_tells_33] at h
    refine j_iload C0 (pc := 33) dX12_tells_33 rfl ?_
    refine j_sipush C0 (pc := 35) dX12_tells_35 (v := (400 : Int32)) (by decide) ?_
    refine j_icmp_ge C0 (pc := 38) (tgt := 144) dX12_tells_38 (by decide) (fun hc => ?_) (fun hc => ?_)
    · replace h := (X_if h).1 hc
      refine j_iload_n C0 (pc := 144) dX12_tells_144 rfl ?_
      exact j_iret C rfl h dX12_tells_145 (by decide)
    · replace h := (X_if h).2 hc
      refine X_join (fun (kj : Nat → Int32 → Int32 → Int32 → Int32 → m_M → Option (Int32 × m_M)) => ∀ (p0 : Nat) (p1 : Int32) (p2 : Int32) (p3 : Int32) (p4 : Int32) (M : m_M), m_ok e_I Φ (kj p0 p1 p2 p3 p4 M) → j_J X 8 138 [some (.ref p0), none, some (.int p1), some (.int p2), some (.int p3), some (.int p4), none, none] [] (0, 0) M) h (fun v6 v7 v8 v9 v10 M1 h => ?_) (fun k138 hk138 h => ?_)
      · refine j_iinc C0 (pc := 138) dX12_tells_138 (v := v10 + (1 : Int32)) rfl (Nat.le_of_ble_eq_true rfl) (by rfl) ?_
        refine X_let (G := fun w => j_J X 8 141 [some (.ref v6), none, some (.int v7), some (.int v8), some (.int v9), some (.int w), none, none] [] (0, 0) M1) h (fun v11 h => ?_)
        refine j_goto C0 (pc := 141) (tgt := 33) dX12_tells_141 (by decide) ?_
        exact j_J.wq (ih v6 v7 v8 v9 v11 M1 h) (And.intro rfl (And.intro rfl (And.intro rfl (And.intro rfl (And.intro rfl (trivial))))))
      · refine j_aload_n C0 (pc := 41) dX12_tells_41 rfl ?_
        refine j_iload C0 (pc := 42) dX12_tells_42 rfl ?_
        refine X_cV C0 (pc := 44) (e' := e_I) (as := [.int v5]) (rest := []) (s' := fun w => .int w :: []) (g' := (0, 0)) v_OM_475_10 (fun Ψ hΨ => K_X12_isClause v1 v5 M Ψ hΨ) rfl rfl (fun _ => rfl) (by decide) (by decide) rfl (Nat.le_of_ble_eq_true rfl) dX12_tells_44 h (fun v12 M2 h => ?_)
        refine j_if_ne C0 (pc := 47) (tgt := 53) dX12_tells_47 (by decide) (fun hc => ?_) (fun hc => ?_)
        · replace h := (X_if h).2 hc
          refine j_iconst C0 (pc := 53) dX12_tells_53 (v := (0 : Int32)) (by decide) ?_
          refine j_istore C0 (pc := 54) dX12_tells_54 (Nat.le_of_ble_eq_true rfl) ?_
          show j_J X 8 56 [some (.ref v1), none, some (.int v2), some (.int v3), some (.int v4), some (.int v5), some (.int (0 : Int32)), none] [] (0, 0) M2
          refine j_iconst C0 (pc := 56) dX12_tells_56 (v := (0 : Int32)) (by decide) ?_
          refine j_istore C0 (pc := 57) dX12_tells_57 (Nat.le_of_ble_eq_true rfl) ?_
          show j_J X 8 59 [some (.ref v1), none, some (.int v2), some (.int v3), some (.int v4), some (.int v5), some (.int (0 : Int32)), some (.int (0 : Int32))] [] (0, 0) M2
          refine X_join (fun (kj : Nat → Int32 → Int32 → Int32 → Int32 → Int32 → m_M → Option (Int32 × m_M)) => ∀ (p0 : Nat) (p1 : Int32) (p2 : Int32) (p3 : Int32) (p4 : Int32) (p5 : Int32) (M : m_M), m_ok e_I Φ (kj p0 p1 p2 p3 p4 p5 M) → j_J X 8 107 [some (.ref p0), none, some (.int p1), some (.int p2), some (.int p3), some (.int p4), some (.int p5), none] [] (0, 0) M) h (fun v13 v14 v15 v16 v17 v18 M3 h => ?_) (fun k107 hk107 h => ?_)
          · refine j_iload C0 (pc := 107) dX12_tells_107 rfl ?_
            refine j_iload_n C0 (pc := 109) dX12_tells_109 rfl ?_
            refine X_cS C0 (pc := 110) (e' := e_I) (as := [.int v14]) (rest := [.int v18]) (s' := fun w => .int w :: [.int v18]) (g' := (0, 0)) s_OM_495 (fun Ψ hΨ => K_X12_bits v14 M3 Ψ hΨ) rfl rfl (fun _ => rfl) (by decide) (by decide) rfl (Nat.le_of_ble_eq_true rfl) dX12_tells_110 h (fun v19 M4 h => ?_)
            refine j_iload C0 (pc := 113) dX12_tells_113 rfl ?_
            refine j_isub C0 (pc := 115) dX12_tells_115 ?_
            refine X_cS C0 (pc := 116) (e' := e_I) (as := [.int v18, .int (v19 - v18)]) (rest := []) (s' := fun w => .int w :: []) (g' := (0, 0)) s_OM_564 (fun Ψ hΨ => K_J9_min_7cf53 v18 (v19 - v18) M4 Ψ hΨ) rfl rfl (fun _ => rfl) (by decide) (by decide) rfl (Nat.le_of_ble_eq_true rfl) dX12_tells_116 h (fun v20 M5 h => ?_)
            refine j_istore C0 (pc := 119) dX12_tells_119 (Nat.le_of_ble_eq_true rfl) ?_
            show j_J X 8 121 [some (.ref v13), none, some (.int v14), some (.int v15), some (.int v16), some (.int v17), some (.int v18), some (.int v20)] [] (0, 0) M5
            refine j_iload C0 (pc := 121) dX12_tells_121 rfl ?_
            refine j_iload C0 (pc := 123) dX12_tells_123 rfl ?_
            refine j_icmp_gt C0 (pc := 125) (tgt := 131) dX12_tells_125 (by decide) (fun hc => ?_) (fun hc => ?_)
            · replace h := (X_if h).1 hc
              refine j_iload C0 (pc := 131) dX12_tells_131 rfl ?_
              refine j_istore C0 (pc := 133) dX12_tells_133 (Nat.le_of_ble_eq_true rfl) ?_
              show j_J X 8 135 [some (.ref v13), none, some (.int v14), some (.int v15), some (.int v20), some (.int v17), some (.int v18), some (.int v20)] [] (0, 0) M5
              refine j_iload C0 (pc := 135) dX12_tells_135 rfl ?_
              refine j_istore_n C0 (pc := 137) dX12_tells_137 (Nat.le_of_ble_eq_true rfl) ?_
              show j_J X 8 138 [some (.ref v13), none, some (.int v14), some (.int v17), some (.int v20), some (.int v17), some (.int v18), some (.int v20)] [] (0, 0) M5
              exact j_J.wq (hk138 v13 v14 v17 v20 v17 M5 h) (And.intro rfl (And.intro rfl (And.intro rfl (And.intro rfl (And.intro rfl (trivial))))))
            · replace h := (X_if h).2 hc
              refine j_goto C0 (pc := 128) (tgt := 138) dX12_tells_128 (by decide) ?_
              exact j_J.wq (hk138 v13 v14 v15 v16 v17 M5 h) (And.intro rfl (And.intro rfl (And.intro rfl (And.intro rfl (And.intro rfl (trivial))))))
          · exact j_J.wq (L_X12_tells_59 C hk107 m_FU v1 v2 v3 v4 v5 (0 : Int32) (0 : Int32) M2 h) (And.intro rfl (And.intro rfl (And.intro rfl (And.intro rfl (And.intro rfl (And.intro rfl (And.intro rfl (trivial))))))))
        · replace h := (X_if h).1 hc
          refine j_goto C0 (pc := 50) (tgt := 138) dX12_tells_50 (by decide) ?_
          exact j_J.wq (hk138 v1 v2 v3 v4 v5 M2 h) (And.intro rfl (And.intro rfl (And.intro rfl (And.intro rfl (And.intro rfl (trivial))))))
set_option maxHeartbeats 4000000 in
theorem K_X12_tells (a0 : Nat) (a1 : Int32) (M : m_M) (Φ : Option Value → m_M → Prop) (h : m_ok e_I Φ (F_X12_tells a0 a1 M)) : j_Ct yX12_tells cX12_tells 8 (some .int) 9 0 0 [.ref a0, .int a1] M Φ := by
  refine j_Ct.of (by decide +kernel) (Nat.le_of_ble_eq_true rfl) fun X C => ?_
  have C0 := C.1
  show j_J X 8 0 [some (.ref a0), some (.int a1), none, none, none, none, none, none] [] (0, 0) M
  unfold F_X12_tells at h
  refine j_aload_n C0 (pc := 0) dX12_tells_0 rfl ?_
  refine j_iconst C0 (pc := 1) dX12_tells_1 (v := (0 : Int32)) (by decide) ?_
  refine X_pI C0 (pc := 2) f_OM_163_10 rfl rfl dX12_tells_2 h (fun M1 h => ?_)
  refine j_aload_n C0 (pc := 5) dX12_tells_5 rfl ?_
  refine j_iload_n C0 (pc := 6) dX12_tells_6 rfl ?_
  refine X_cV C0 (pc := 7) (e' := e_I) (as := [.int a1]) (rest := []) (s' := fun w => .int w :: []) (g' := (0, 0)) v_OM_466_10 (fun Ψ hΨ => K_X12_isWorld a0 a1 M1 Ψ hΨ) rfl rfl (fun _ => rfl) (by decide) (by decide) rfl (Nat.le_of_ble_eq_true rfl) dX12_tells_7 h (fun v1 M2 h => ?_)
  refine j_if_ne C0 (pc := 10) (tgt := 15) dX12_tells_10 (by decide) (fun hc => ?_) (fun hc => ?_)
  · replace h := (X_if h).2 hc
    refine j_aload_n C0 (pc := 15) dX12_tells_15 rfl ?_
    refine X_cV C0 (pc := 16) (e' := e_I) (as := []) (rest := []) (s' := fun w => .int w :: []) (g' := (0, 0)) v_OM_561_10 (fun Ψ hΨ => K_X12_knowsNow a0 M2 Ψ hΨ) rfl rfl (fun _ => rfl) (by decide) (by decide) rfl (Nat.le_of_ble_eq_true rfl) dX12_tells_16 h (fun v2 M3 h => ?_)
    refine j_istore_n C0 (pc := 19) dX12_tells_19 (Nat.le_of_ble_eq_true rfl) ?_
    show j_J X 8 20 [some (.ref a0), some (.int a1), some (.int v2), none, none, none, none, none] [] (0, 0) M3
    refine j_aload_n C0 (pc := 20) dX12_tells_20 rfl ?_
    refine j_iload_n C0 (pc := 21) dX12_tells_21 rfl ?_
    refine X_cV C0 (pc := 22) (e' := e_V) (as := [.int a1]) (rest := []) (s' := fun _ => []) (g' := (0, 0)) v_OM_402_10 (fun Ψ hΨ => K_X12_shows a0 a1 M3 Ψ hΨ) rfl rfl (fun _ => rfl) (by decide) (by decide) rfl (Nat.le_of_ble_eq_true rfl) dX12_tells_22 h (fun _ M4 h => ?_)
    refine j_iconst C0 (pc := 25) dX12_tells_25 (v := (-1 : Int32)) (by decide) ?_
    refine j_istore_n C0 (pc := 26) dX12_tells_26 (Nat.le_of_ble_eq_true rfl) ?_
    show j_J X 8 27 [some (.ref a0), some (.int a1), some (.int v2), some (.int (-1 : Int32)), none, none, none, none] [] (0, 0) M4
    refine j_iconst C0 (pc := 27) dX12_tells_27 (v := (0 : Int32)) (by decide) ?_
    refine j_istore C0 (pc := 28) dX12_tells_28 (Nat.le_of_ble_eq_true rfl) ?_
    show j_J X 8 30 [some (.ref a0), some (.int a1), some (.int v2), some (.int (-1 : Int32)), some (.int (0 : Int32)), none, none, none] [] (0, 0) M4
    refine j_iconst C0 (pc := 30) dX12_tells_30 (v := (0 : Int32)) (by decide) ?_
    refine j_istore C0 (pc := 31) dX12_tells_31 (Nat.le_of_ble_eq_true rfl) ?_
    show j_J X 8 33 [some (.ref a0), some (.int a1), some (.int v2), some (.int (-1 : Int32)), some (.int (0 : Int32)), some (.int (0 : Int32)), none, none] [] (0, 0) M4
    exact j_J.wq (L_X12_tells_33 C m_FU a0 v2 (-1 : Int32) (0 : Int32) (0 : Int32) M4 h) (And.intro rfl (And.intro rfl (And.intro rfl (And.intro rfl (And.intro rfl (trivial))))))
  · replace h := (X_if h).1 hc
    refine j_iconst C0 (pc := 13) dX12_tells_13 (v := (-1 : Int32)) (by decide) ?_
    exact j_iret C rfl h dX12_tells_14 (by decide)
theorem dX12_tells0_0 : decode cX12_tells0 0 = .ok (.iconst 0, 1) := by decide +kernel
theorem dX12_tells0_1 : decode cX12_tells0 1 = .ok (.istore 4, 2) := by decide +kernel
theorem dX12_tells0_3 : decode cX12_tells0 3 = .ok (.iload 4, 2) := by decide +kernel
theorem dX12_tells0_5 : decode cX12_tells0 5 = .ok (.bipush 16, 2) := by decide +kernel
theorem dX12_tells0_7 : decode cX12_tells0 7 = .ok (.if_icmp .ge 17, 3) := by decide +kernel
theorem dX12_tells0_10 : decode cX12_tells0 10 = .ok (.aload_n 0, 1) := by decide +kernel
theorem dX12_tells0_11 : decode cX12_tells0 11 = .ok (.getfield 138, 3) := by decide +kernel
theorem dX12_tells0_14 : decode cX12_tells0 14 = .ok (.iload 4, 2) := by decide +kernel
theorem dX12_tells0_16 : decode cX12_tells0 16 = .ok (.lconst 0, 1) := by decide +kernel
theorem dX12_tells0_17 : decode cX12_tells0 17 = .ok (.lastore, 1) := by decide +kernel
theorem dX12_tells0_18 : decode cX12_tells0 18 = .ok (.iinc 4 1, 3) := by decide +kernel
theorem dX12_tells0_21 : decode cX12_tells0 21 = .ok (.goto (-18), 3) := by decide +kernel
theorem dX12_tells0_24 : decode cX12_tells0 24 = .ok (.iconst 0, 1) := by decide +kernel
theorem dX12_tells0_25 : decode cX12_tells0 25 = .ok (.istore 4, 2) := by decide +kernel
theorem dX12_tells0_27 : decode cX12_tells0 27 = .ok (.iload 4, 2) := by decide +kernel
theorem dX12_tells0_29 : decode cX12_tells0 29 = .ok (.aload_n 0, 1) := by decide +kernel
theorem dX12_tells0_30 : decode cX12_tells0 30 = .ok (.getfield 383, 3) := by decide +kernel
theorem dX12_tells0_33 : decode cX12_tells0 33 = .ok (.if_icmp .ge 56, 3) := by decide +kernel
theorem dX12_tells0_36 : decode cX12_tells0 36 = .ok (.aload_n 0, 1) := by decide +kernel
theorem dX12_tells0_37 : decode cX12_tells0 37 = .ok (.iload 4, 2) := by decide +kernel
theorem dX12_tells0_39 : decode cX12_tells0 39 = .ok (.invokevirtual 402, 3) := by decide +kernel
theorem dX12_tells0_42 : decode cX12_tells0 42 = .ok (.aload_n 0, 1) := by decide +kernel
theorem dX12_tells0_43 : decode cX12_tells0 43 = .ok (.iload_n 1, 1) := by decide +kernel
theorem dX12_tells0_44 : decode cX12_tells0 44 = .ok (.iload_n 2, 1) := by decide +kernel
theorem dX12_tells0_45 : decode cX12_tells0 45 = .ok (.iload_n 3, 1) := by decide +kernel
theorem dX12_tells0_46 : decode cX12_tells0 46 = .ok (.invokevirtual 399, 3) := by decide +kernel
theorem dX12_tells0_49 : decode cX12_tells0 49 = .ok (.ifCond .eq 34, 3) := by decide +kernel
theorem dX12_tells0_52 : decode cX12_tells0 52 = .ok (.aload_n 0, 1) := by decide +kernel
theorem dX12_tells0_53 : decode cX12_tells0 53 = .ok (.getfield 138, 3) := by decide +kernel
theorem dX12_tells0_56 : decode cX12_tells0 56 = .ok (.iload 4, 2) := by decide +kernel
theorem dX12_tells0_58 : decode cX12_tells0 58 = .ok (.bipush 64, 2) := by decide +kernel
theorem dX12_tells0_60 : decode cX12_tells0 60 = .ok (.idiv, 1) := by decide +kernel
theorem dX12_tells0_61 : decode cX12_tells0 61 = .ok (.dup2, 1) := by decide +kernel
theorem dX12_tells0_62 : decode cX12_tells0 62 = .ok (.laload, 1) := by decide +kernel
theorem dX12_tells0_63 : decode cX12_tells0 63 = .ok (.aload_n 0, 1) := by decide +kernel
theorem dX12_tells0_64 : decode cX12_tells0 64 = .ok (.getfield 135, 3) := by decide +kernel
theorem dX12_tells0_67 : decode cX12_tells0 67 = .ok (.iload 4, 2) := by decide +kernel
theorem dX12_tells0_69 : decode cX12_tells0 69 = .ok (.bipush 64, 2) := by decide +kernel
theorem dX12_tells0_71 : decode cX12_tells0 71 = .ok (.idiv, 1) := by decide +kernel
theorem dX12_tells0_72 : decode cX12_tells0 72 = .ok (.laload, 1) := by decide +kernel
theorem dX12_tells0_73 : decode cX12_tells0 73 = .ok (.lconst 1, 1) := by decide +kernel
theorem dX12_tells0_74 : decode cX12_tells0 74 = .ok (.iload 4, 2) := by decide +kernel
theorem dX12_tells0_76 : decode cX12_tells0 76 = .ok (.bipush 64, 2) := by decide +kernel
theorem dX12_tells0_78 : decode cX12_tells0 78 = .ok (.irem, 1) := by decide +kernel
theorem dX12_tells0_79 : decode cX12_tells0 79 = .ok (.lshl, 1) := by decide +kernel
theorem dX12_tells0_80 : decode cX12_tells0 80 = .ok (.land, 1) := by decide +kernel
theorem dX12_tells0_81 : decode cX12_tells0 81 = .ok (.lor, 1) := by decide +kernel
theorem dX12_tells0_82 : decode cX12_tells0 82 = .ok (.lastore, 1) := by decide +kernel
theorem dX12_tells0_83 : decode cX12_tells0 83 = .ok (.iinc 4 1, 3) := by decide +kernel
theorem dX12_tells0_86 : decode cX12_tells0 86 = .ok (.goto (-59), 3) := by decide +kernel
theorem dX12_tells0_89 : decode cX12_tells0 89 = .ok (.aload_n 0, 1) := by decide +kernel
theorem dX12_tells0_90 : decode cX12_tells0 90 = .ok (.aload_n 0, 1) := by decide +kernel
theorem dX12_tells0_91 : decode cX12_tells0 91 = .ok (.getfield 138, 3) := by decide +kernel
theorem dX12_tells0_94 : decode cX12_tells0 94 = .ok (.invokevirtual 491, 3) := by decide +kernel
theorem dX12_tells0_97 : decode cX12_tells0 97 = .ok (.ifCond .ne 5, 3) := by decide +kernel
theorem dX12_tells0_100 : decode cX12_tells0 100 = .ok (.iconst 0, 1) := by decide +kernel
theorem dX12_tells0_101 : decode cX12_tells0 101 = .ok (.ireturn, 1) := by decide +kernel
theorem dX12_tells0_102 : decode cX12_tells0 102 = .ok (.iconst 0, 1) := by decide +kernel
theorem dX12_tells0_103 : decode cX12_tells0 103 = .ok (.istore 4, 2) := by decide +kernel
theorem dX12_tells0_105 : decode cX12_tells0 105 = .ok (.iload 4, 2) := by decide +kernel
theorem dX12_tells0_107 : decode cX12_tells0 107 = .ok (.bipush 16, 2) := by decide +kernel
theorem dX12_tells0_109 : decode cX12_tells0 109 = .ok (.if_icmp .ge 23, 3) := by decide +kernel
theorem dX12_tells0_112 : decode cX12_tells0 112 = .ok (.aload_n 0, 1) := by decide +kernel
theorem dX12_tells0_113 : decode cX12_tells0 113 = .ok (.getfield 135, 3) := by decide +kernel
theorem dX12_tells0_116 : decode cX12_tells0 116 = .ok (.iload 4, 2) := by decide +kernel
theorem dX12_tells0_118 : decode cX12_tells0 118 = .ok (.aload_n 0, 1) := by decide +kernel
theorem dX12_tells0_119 : decode cX12_tells0 119 = .ok (.getfield 138, 3) := by decide +kernel
theorem dX12_tells0_122 : decode cX12_tells0 122 = .ok (.iload 4, 2) := by decide +kernel
theorem dX12_tells0_124 : decode cX12_tells0 124 = .ok (.laload, 1) := by decide +kernel
theorem dX12_tells0_125 : decode cX12_tells0 125 = .ok (.lastore, 1) := by decide +kernel
theorem dX12_tells0_126 : decode cX12_tells0 126 = .ok (.iinc 4 1, 3) := by decide +kernel
theorem dX12_tells0_129 : decode cX12_tells0 129 = .ok (.goto (-24), 3) := by decide +kernel
theorem dX12_tells0_132 : decode cX12_tells0 132 = .ok (.iconst 1, 1) := by decide +kernel
theorem dX12_tells0_133 : decode cX12_tells0 133 = .ok (.ireturn, 1) := by decide +kernel
noncomputable def F_X12_tells0_105 : Nat → Nat → Int32 → m_M → Option (Int32 × m_M)
  | 0, _, _, _ => none
  | n + 1, v1, v2, M =>
    if (16 : Int32) ≤ v2 then (
      some ((1 : Int32), M)
    ) else
    x_gN 10 M v1 62 fun v3 =>
    x_gN 10 M v1 63 fun v4 =>
    x_aL M v4 v2 fun v5 =>
    x_sL M v3 v2 v5 fun M1 =>
    m_let (v2 + (1 : Int32)) fun v6 =>
    F_X12_tells0_105 n v1 v6 M1
noncomputable def F_X12_tells0_27 (k89 : Nat → m_M → Option (Int32 × m_M)) : Nat → Nat → Int32 → Int32 → Int32 → Int32 → m_M → Option (Int32 × m_M)
  | 0, _, _, _, _, _, _ => none
  | n + 1, v1, v2, v3, v4, v5, M =>
    x_gI 10 M v1 42 fun v6 =>
    if v6 ≤ v5 then (
      k89 v1 M
    ) else
    m_let (fun (v7 : Nat) (v8 : Int32) (v9 : Int32) (v10 : Int32) (v11 : Int32) (M1 : m_M) =>
      m_let (v11 + (1 : Int32)) fun v12 =>
      F_X12_tells0_27 k89 n v7 v8 v9 v10 v12 M1
    ) fun (k83 : Nat → Int32 → Int32 → Int32 → Int32 → m_M → Option (Int32 × m_M)) =>
    x_cV 10 M v1 (F_X12_shows v1 v5 M) fun _ M2 =>
    x_cV 10 M2 v1 (F_X12_holdsBy v1 v2 v3 v4 M2) fun v13 M3 =>
    if v13 = 0 then (
      k83 v1 v2 v3 v4 v5 M3
    ) else
    x_gN 10 M3 v1 63 fun v14 =>
    x_nz (64 : Int32) <|
    x_aL M3 v14 (v5 / (64 : Int32)) fun v15 =>
    x_gN 10 M3 v1 62 fun v16 =>
    x_nz (64 : Int32) <|
    x_aL M3 v16 (v5 / (64 : Int32)) fun v17 =>
    x_nz (64 : Int32) <|
    x_sL M3 v14 (v5 / (64 : Int32)) (v15 ||| (v17 &&& ((1 : Int64) <<< ((v5 - v5 / (64 : Int32) * (64 : Int32)).toInt64 &&& 63)))) fun M4 =>
    k83 v1 v2 v3 v4 v5 M4
noncomputable def F_X12_tells0_3 (k24 : Nat → Int32 → Int32 → Int32 → m_M → Option (Int32 × m_M)) : Nat → Nat → Int32 → Int32 → Int32 → Int32 → m_M → Option (Int32 × m_M)
  | 0, _, _, _, _, _, _ => none
  | n + 1, v1, v2, v3, v4, v5, M =>
    if (16 : Int32) ≤ v5 then (
      k24 v1 v2 v3 v4 M
    ) else
    x_gN 10 M v1 63 fun v6 =>
    x_sL M v6 v5 (0 : Int64) fun M1 =>
    m_let (v5 + (1 : Int32)) fun v7 =>
    F_X12_tells0_3 k24 n v1 v2 v3 v4 v7 M1
noncomputable def F_X12_tells0 (a0 : Nat) (a1 : Int32) (a2 : Int32) (a3 : Int32) (M : m_M) : Option (Int32 × m_M) :=
  m_let (fun (v1 : Nat) (v2 : Int32) (v3 : Int32) (v4 : Int32) (M1 : m_M) =>
    m_let (fun (v5 : Nat) (M2 : m_M) =>
      x_gN 10 M2 v5 63 fun v6 =>
      x_cV 10 M2 v5 (F_X12_isAny v5 v6 M2) fun v7 M3 =>
      if v7 = 0 then (
        some ((0 : Int32), M3)
      ) else
      F_X12_tells0_105 m_FU v5 (0 : Int32) M3
    ) fun (k89 : Nat → m_M → Option (Int32 × m_M)) =>
    F_X12_tells0_27 k89 m_FU v1 v2 v3 v4 (0 : Int32) M1
  ) fun (k24 : Nat → Int32 → Int32 → Int32 → m_M → Option (Int32 × m_M)) =>
  F_X12_tells0_3 k24 m_FU a0 a1 a2 a3 (0 : Int32) M
set_option maxHeartbeats 4000000 in
theorem L_X12_tells0_105 {X : j_X} {Φ : Option Value → m_M → Prop} (C : j_C X yX12_tells0 cX12_tells0 5 (some .boolean) 7 0 0 Φ) : ∀ (n : Nat) (v1 : Nat) (v2 : Int32) (M : m_M), m_ok e_I Φ (F_X12_tells0_105 n v1 v2 M) → j_J X 5 105 [some (.ref v1), none, none, none, some (.int v2)] [] (0, 0) M := by
  have C0 := C.1
  intro n
  induction n with
  | zero => intro v1 v2 M h; exact False.elim h
  | succ n ih =>
    intro v1 v2 M h
    rw [F_X12_tells0_105] at h
    refine j_iload C0 (pc := 105) dX12_tells0_105 rfl ?_
    refine j_bipush C0 (pc := 107) dX12_tells0_107 (v := (16 : Int32)) (by decide) ?_
    refine j_icmp_ge C0 (pc := 109) (tgt := 132) dX12_tells0_109 (by decide) (fun hc => ?_) (fun hc => ?_)
    · replace h := (X_if h).1 hc
      refine j_iconst C0 (pc := 132) dX12_tells0_132 (v := (1 : Int32)) (by decide) ?_
      exact j_zret C rfl (by decide) h dX12_tells0_133 (by decide)
    · replace h := (X_if h).2 hc
      refine j_aload_n C0 (pc := 112) dX12_tells0_112 rfl ?_
      refine X_gN C0 (pc := 113) f_OM_135_10 rfl dX12_tells0_113 h (fun v3 h => ?_)
      refine j_iload C0 (pc := 116) dX12_tells0_116 rfl ?_
      refine j_aload_n C0 (pc := 118) dX12_tells0_118 rfl ?_
      refine X_gN C0 (pc := 119) f_OM_138_10 rfl dX12_tells0_119 h (fun v4 h => ?_)
      refine j_iload C0 (pc := 122) dX12_tells0_122 rfl ?_
      refine X_lald C0 (pc := 124) dX12_tells0_124 h (fun v5 h => ?_)
      refine X_last C0 (pc := 125) dX12_tells0_125 h (fun M1 h => ?_)
      refine j_iinc C0 (pc := 126) dX12_tells0_126 (v := v2 + (1 : Int32)) rfl (Nat.le_of_ble_eq_true rfl) (by rfl) ?_
      refine X_let (G := fun w => j_J X 5 129 [some (.ref v1), none, none, none, some (.int w)] [] (0, 0) M1) h (fun v6 h => ?_)
      refine j_goto C0 (pc := 129) (tgt := 105) dX12_tells0_129 (by decide) ?_
      exact j_J.wq (ih v1 v6 M1 h) (And.intro rfl (And.intro rfl (trivial)))
set_option maxHeartbeats 4000000 in
theorem L_X12_tells0_27 {X : j_X} {Φ : Option Value → m_M → Prop} (C : j_C X yX12_tells0 cX12_tells0 5 (some .boolean) 7 0 0 Φ) {k89 : Nat → m_M → Option (Int32 × m_M)} (hk89 : ∀ (p0 : Nat) (M : m_M), m_ok e_I Φ (k89 p0 M) → j_J X 5 89 [some (.ref p0), none, none, none, none] [] (0, 0) M) : ∀ (n : Nat) (v1 : Nat) (v2 : Int32) (v3 : Int32) (v4 : Int32) (v5 : Int32) (M : m_M), m_ok e_I Φ (F_X12_tells0_27 k89 n v1 v2 v3 v4 v5 M) → j_J X 5 27 [some (.ref v1), some (.int v2), some (.int v3), some (.int v4), some (.int v5)] [] (0, 0) M := by
  have C0 := C.1
  intro n
  induction n with
  | zero => intro v1 v2 v3 v4 v5 M h; exact False.elim h
  | succ n ih =>
    intro v1 v2 v3 v4 v5 M h
    rw [F_X12_tells0_27] at h
    refine j_iload C0 (pc := 27) dX12_tells0_27 rfl ?_
    refine j_aload_n C0 (pc := 29) dX12_tells0_29 rfl ?_
    refine X_gI C0 (pc := 30) f_OM_383_10 rfl dX12_tells0_30 h (fun v6 h => ?_)
    refine j_icmp_ge C0 (pc := 33) (tgt := 89) dX12_tells0_33 (by decide) (fun hc => ?_) (fun hc => ?_)
    · replace h := (X_if h).1 hc
      exact j_J.wq (hk89 v1 M h) (And.intro rfl (trivial))
    · replace h := (X_if h).2 hc
      refine X_join (fun (kj : Nat → Int32 → Int32 → Int32 → Int32 → m_M → Option (Int32 × m_M)) => ∀ (p0 : Nat) (p1 : Int32) (p2 : Int32) (p3 : Int32) (p4 : Int32) (M : m_M), m_ok e_I Φ (kj p0 p1 p2 p3 p4 M) → j_J X 5 83 [some (.ref p0), some (.int p1), some (.int p2), some (.int p3), some (.int p4)] [] (0, 0) M) h (fun v7 v8 v9 v10 v11 M1 h => ?_) (fun k83 hk83 h => ?_)
      · refine j_iinc C0 (pc := 83) dX12_tells0_83 (v := v11 + (1 : Int32)) rfl (Nat.le_of_ble_eq_true rfl) (by rfl) ?_
        refine X_let (G := fun w => j_J X 5 86 [some (.ref v7), some (.int v8), some (.int v9), some (.int v10), some (.int w)] [] (0, 0) M1) h (fun v12 h => ?_)
        refine j_goto C0 (pc := 86) (tgt := 27) dX12_tells0_86 (by decide) ?_
        exact j_J.wq (ih v7 v8 v9 v10 v12 M1 h) (And.intro rfl (And.intro rfl (And.intro rfl (And.intro rfl (And.intro rfl (trivial))))))
      · refine j_aload_n C0 (pc := 36) dX12_tells0_36 rfl ?_
        refine j_iload C0 (pc := 37) dX12_tells0_37 rfl ?_
        refine X_cV C0 (pc := 39) (e' := e_V) (as := [.int v5]) (rest := []) (s' := fun _ => []) (g' := (0, 0)) v_OM_402_10 (fun Ψ hΨ => K_X12_shows v1 v5 M Ψ hΨ) rfl rfl (fun _ => rfl) (by decide) (by decide) rfl (Nat.le_of_ble_eq_true rfl) dX12_tells0_39 h (fun _ M2 h => ?_)
        refine j_aload_n C0 (pc := 42) dX12_tells0_42 rfl ?_
        refine j_iload_n C0 (pc := 43) dX12_tells0_43 rfl ?_
        refine j_iload_n C0 (pc := 44) dX12_tells0_44 rfl ?_
        refine j_iload_n C0 (pc := 45) dX12_tells0_45 rfl ?_
        refine X_cV C0 (pc := 46) (e' := e_I) (as := [.int v2, .int v3, .int v4]) (rest := []) (s' := fun w => .int w :: []) (g' := (0, 0)) v_OM_399_10 (fun Ψ hΨ => K_X12_holdsBy v1 v2 v3 v4 M2 Ψ hΨ) rfl rfl (fun _ => rfl) (by decide) (by decide) rfl (Nat.le_of_ble_eq_true rfl) dX12_tells0_46 h (fun v13 M3 h => ?_)
        refine j_if_eq C0 (pc := 49) (tgt := 83) dX12_tells0_49 (by decide) (fun hc => ?_) (fun hc => ?_)
        · replace h := (X_if h).1 hc
          exact j_J.wq (hk83 v1 v2 v3 v4 v5 M3 h) (And.intro rfl (And.intro rfl (And.intro rfl (And.intro rfl (And.intro rfl (trivial))))))
        · replace h := (X_if h).2 hc
          refine j_aload_n C0 (pc := 52) dX12_tells0_52 rfl ?_
          refine X_gN C0 (pc := 53) f_OM_138_10 rfl dX12_tells0_53 h (fun v14 h => ?_)
          refine j_iload C0 (pc := 56) dX12_tells0_56 rfl ?_
          refine j_bipush C0 (pc := 58) dX12_tells0_58 (v := (64 : Int32)) (by decide) ?_
          refine X_idiv C0 (pc := 60) dX12_tells0_60 h (fun h => ?_)
          refine j_dup2 C0 (pc := 61) dX12_tells0_61 rfl rfl ?_
          refine X_lald C0 (pc := 62) dX12_tells0_62 h (fun v15 h => ?_)
          refine j_aload_n C0 (pc := 63) dX12_tells0_63 rfl ?_
          refine X_gN C0 (pc := 64) f_OM_135_10 rfl dX12_tells0_64 h (fun v16 h => ?_)
          refine j_iload C0 (pc := 67) dX12_tells0_67 rfl ?_
          refine j_bipush C0 (pc := 69) dX12_tells0_69 (v := (64 : Int32)) (by decide) ?_
          refine X_idiv C0 (pc := 71) dX12_tells0_71 h (fun h => ?_)
          refine X_lald C0 (pc := 72) dX12_tells0_72 h (fun v17 h => ?_)
          refine j_lconst C0 (pc := 73) dX12_tells0_73 (v := (1 : Int64)) (by decide) ?_
          refine j_iload C0 (pc := 74) dX12_tells0_74 rfl ?_
          refine j_bipush C0 (pc := 76) dX12_tells0_76 (v := (64 : Int32)) (by decide) ?_
          refine X_irem C0 (pc := 78) dX12_tells0_78 h (fun h => ?_)
          refine j_lshl C0 (pc := 79) dX12_tells0_79 (v := (1 : Int64) <<< ((v5 - v5 / (64 : Int32) * (64 : Int32)).toInt64 &&& 63)) rfl ?_
          refine j_land C0 (pc := 80) dX12_tells0_80 ?_
          refine j_lor C0 (pc := 81) dX12_tells0_81 ?_
          refine X_last C0 (pc := 82) dX12_tells0_82 h (fun M4 h => ?_)
          exact j_J.wq (hk83 v1 v2 v3 v4 v5 M4 h) (And.intro rfl (And.intro rfl (And.intro rfl (And.intro rfl (And.intro rfl (trivial))))))
set_option maxHeartbeats 4000000 in
theorem L_X12_tells0_3 {X : j_X} {Φ : Option Value → m_M → Prop} (C : j_C X yX12_tells0 cX12_tells0 5 (some .boolean) 7 0 0 Φ) {k24 : Nat → Int32 → Int32 → Int32 → m_M → Option (Int32 × m_M)} (hk24 : ∀ (p0 : Nat) (p1 : Int32) (p2 : Int32) (p3 : Int32) (M : m_M), m_ok e_I Φ (k24 p0 p1 p2 p3 M) → j_J X 5 24 [some (.ref p0), some (.int p1), some (.int p2), some (.int p3), none] [] (0, 0) M) : ∀ (n : Nat) (v1 : Nat) (v2 : Int32) (v3 : Int32) (v4 : Int32) (v5 : Int32) (M : m_M), m_ok e_I Φ (F_X12_tells0_3 k24 n v1 v2 v3 v4 v5 M) → j_J X 5 3 [some (.ref v1), some (.int v2), some (.int v3), some (.int v4), some (.int v5)] [] (0, 0) M := by
  have C0 := C.1
  intro n
  induction n with
  | zero => intro v1 v2 v3 v4 v5 M h; exact False.elim h
  | succ n ih =>
    intro v1 v2 v3 v4 v5 M h
    rw [F_X12_tells0_3] at h
    refine j_iload C0 (pc := 3) dX12_tells0_3 rfl ?_
    refine j_bipush C0 (pc := 5) dX12_tells0_5 (v := (16 : Int32)) (by decide) ?_
    refine j_icmp_ge C0 (pc := 7) (tgt := 24) dX12_tells0_7 (by decide) (fun hc => ?_) (fun hc => ?_)
    · replace h := (X_if h).1 hc
      exact j_J.wq (hk24 v1 v2 v3 v4 M h) (And.intro rfl (And.intro rfl (And.intro rfl (And.intro rfl (trivial)))))
    · replace h := (X_if h).2 hc
      refine j_aload_n C0 (pc := 10) dX12_tells0_10 rfl ?_
      refine X_gN C0 (pc := 11) f_OM_138_10 rfl dX12_tells0_11 h (fun v6 h => ?_)
      refine j_iload C0 (pc := 14) dX12_tells0_14 rfl ?_
      refine j_lconst C0 (pc := 16) dX12_tells0_16 (v := (0 : Int64)) (by decide) ?_
      refine X_last C0 (pc := 17) dX12_tells0_17 h (fun M1 h => ?_)
      refine j_iinc C0 (pc := 18) dX12_tells0_18 (v := v5 + (1 : Int32)) rfl (Nat.le_of_ble_eq_true rfl) (by rfl) ?_
      refine X_let (G := fun w => j_J X 5 21 [some (.ref v1), some (.int v2), some (.int v3), some (.int v4), some (.int w)] [] (0, 0) M1) h (fun v7 h => ?_)
      refine j_goto C0 (pc := 21) (tgt := 3) dX12_tells0_21 (by decide) ?_
      exact j_J.wq (ih v1 v2 v3 v4 v7 M1 h) (And.intro rfl (And.intro rfl (And.intro rfl (And.intro rfl (And.intro rfl (trivial))))))
set_option maxHeartbeats 4000000 in
theorem K_X12_tells0 (a0 : Nat) (a1 : Int32) (a2 : Int32) (a3 : Int32) (M : m_M) (Φ : Option Value → m_M → Prop) (h : m_ok e_I Φ (F_X12_tells0 a0 a1 a2 a3 M)) : j_Ct yX12_tells0 cX12_tells0 5 (some .boolean) 7 0 0 [.ref a0, .int a1, .int a2, .int a3] M Φ := by
  refine j_Ct.of (by decide +kernel) (Nat.le_of_ble_eq_true rfl) fun X C => ?_
  have C0 := C.1
  show j_J X 5 0 [some (.ref a0), some (.int a1), some (.int a2), some (.int a3), none] [] (0, 0) M
  unfold F_X12_tells0 at h
  refine j_iconst C0 (pc := 0) dX12_tells0_0 (v := (0 : Int32)) (by decide) ?_
  refine j_istore C0 (pc := 1) dX12_tells0_1 (Nat.le_of_ble_eq_true rfl) ?_
  show j_J X 5 3 [some (.ref a0), some (.int a1), some (.int a2), some (.int a3), some (.int (0 : Int32))] [] (0, 0) M
  refine X_join (fun (kj : Nat → Int32 → Int32 → Int32 → m_M → Option (Int32 × m_M)) => ∀ (p0 : Nat) (p1 : Int32) (p2 : Int32) (p3 : Int32) (M : m_M), m_ok e_I Φ (kj p0 p1 p2 p3 M) → j_J X 5 24 [some (.ref p0), some (.int p1), some (.int p2), some (.int p3), none] [] (0, 0) M) h (fun v1 v2 v3 v4 M1 h => ?_) (fun k24 hk24 h => ?_)
  · refine j_iconst C0 (pc := 24) dX12_tells0_24 (v := (0 : Int32)) (by decide) ?_
    refine j_istore C0 (pc := 25) dX12_tells0_25 (Nat.le_of_ble_eq_true rfl) ?_
    show j_J X 5 27 [some (.ref v1), some (.int v2), some (.int v3), some (.int v4), some (.int (0 : Int32))] [] (0, 0) M1
    refine X_join (fun (kj : Nat → m_M → Option (Int32 × m_M)) => ∀ (p0 : Nat) (M : m_M), m_ok e_I Φ (kj p0 M) → j_J X 5 89 [some (.ref p0), none, none, none, none] [] (0, 0) M) h (fun v5 M2 h => ?_) (fun k89 hk89 h => ?_)
    · refine j_aload_n C0 (pc := 89) dX12_tells0_89 rfl ?_
      refine j_aload_n C0 (pc := 90) dX12_tells0_90 rfl ?_
      refine X_gN C0 (pc := 91) f_OM_138_10 rfl dX12_tells0_91 h (fun v6 h => ?_)
      refine X_cV C0 (pc := 94) (e' := e_I) (as := [.ref v6]) (rest := []) (s' := fun w => .int w :: []) (g' := (0, 0)) v_OM_491_10 (fun Ψ hΨ => K_X12_isAny v5 v6 M2 Ψ hΨ) rfl rfl (fun _ => rfl) (by decide) (by decide) rfl (Nat.le_of_ble_eq_true rfl) dX12_tells0_94 h (fun v7 M3 h => ?_)
      refine j_if_ne C0 (pc := 97) (tgt := 102) dX12_tells0_97 (by decide) (fun hc => ?_) (fun hc => ?_)
      · replace h := (X_if h).2 hc
        refine j_iconst C0 (pc := 102) dX12_tells0_102 (v := (0 : Int32)) (by decide) ?_
        refine j_istore C0 (pc := 103) dX12_tells0_103 (Nat.le_of_ble_eq_true rfl) ?_
        show j_J X 5 105 [some (.ref v5), none, none, none, some (.int (0 : Int32))] [] (0, 0) M3
        exact j_J.wq (L_X12_tells0_105 C m_FU v5 (0 : Int32) M3 h) (And.intro rfl (And.intro rfl (trivial)))
      · replace h := (X_if h).1 hc
        refine j_iconst C0 (pc := 100) dX12_tells0_100 (v := (0 : Int32)) (by decide) ?_
        exact j_zret C rfl (by decide) h dX12_tells0_101 (by decide)
    · exact j_J.wq (L_X12_tells0_27 C hk89 m_FU v1 v2 v3 v4 (0 : Int32) M1 h) (And.intro rfl (And.intro rfl (And.intro rfl (And.intro rfl (And.intro rfl (trivial))))))
  · exact j_J.wq (L_X12_tells0_3 C hk24 m_FU a0 a1 a2 a3 (0 : Int32) M h) (And.intro rfl (And.intro rfl (And.intro rfl (And.intro rfl (And.intro rfl (trivial))))))
theorem dX12_thing_0 : decode cX12_thing 0 = .ok (.aload_n 0, 1) := by decide +kernel
theorem dX12_thing_1 : decode cX12_thing 1 = .ok (.iconst 0, 1) := by decide +kernel
theorem dX12_thing_2 : decode cX12_thing 2 = .ok (.putfield 163, 3) := by decide +kernel
theorem dX12_thing_5 : decode cX12_thing 5 = .ok (.iload_n 1, 1) := by decide +kernel
theorem dX12_thing_6 : decode cX12_thing 6 = .ok (.ifCond .lt 22, 3) := by decide +kernel
theorem dX12_thing_9 : decode cX12_thing 9 = .ok (.iload_n 1, 1) := by decide +kernel
theorem dX12_thing_10 : decode cX12_thing 10 = .ok (.aload_n 0, 1) := by decide +kernel
theorem dX12_thing_11 : decode cX12_thing 11 = .ok (.getfield 13, 3) := by decide +kernel
theorem dX12_thing_14 : decode cX12_thing 14 = .ok (.iconst 1, 1) := by decide +kernel
theorem dX12_thing_15 : decode cX12_thing 15 = .ok (.iaload, 1) := by decide +kernel
theorem dX12_thing_16 : decode cX12_thing 16 = .ok (.if_icmp .ge 12, 3) := by decide +kernel
theorem dX12_thing_19 : decode cX12_thing 19 = .ok (.aload_n 0, 1) := by decide +kernel
theorem dX12_thing_20 : decode cX12_thing 20 = .ok (.getfield 29, 3) := by decide +kernel
theorem dX12_thing_23 : decode cX12_thing 23 = .ok (.iload_n 1, 1) := by decide +kernel
theorem dX12_thing_24 : decode cX12_thing 24 = .ok (.iaload, 1) := by decide +kernel
theorem dX12_thing_25 : decode cX12_thing 25 = .ok (.goto 4, 3) := by decide +kernel
theorem dX12_thing_28 : decode cX12_thing 28 = .ok (.iconst (-1), 1) := by decide +kernel
theorem dX12_thing_29 : decode cX12_thing 29 = .ok (.ireturn, 1) := by decide +kernel
noncomputable def F_X12_thing (a0 : Nat) (a1 : Int32) (M : m_M) : Option (Int32 × m_M) :=
  m_let (fun  (M1 : m_M) =>
    some ((-1 : Int32), M1)
  ) fun (k28 : m_M → Option (Int32 × m_M)) =>
  x_pI 10 M a0 0 (0 : Int32) fun M2 =>
  if a1 < 0 then (
    k28 M2
  ) else
  x_gN 10 M2 a0 10 fun v1 =>
  x_aI 12 M2 v1 (1 : Int32) fun v2 =>
  if v2 ≤ a1 then (
    k28 M2
  ) else
  x_gN 10 M2 a0 15 fun v3 =>
  x_aI 12 M2 v3 a1 fun v4 =>
  some (v4, M2)
set_option maxHeartbeats 4000000 in
theorem K_X12_thing (a0 : Nat) (a1 : Int32) (M : m_M) (Φ : Option Value → m_M → Prop) (h : m_ok e_I Φ (F_X12_thing a0 a1 M)) : j_Ct yX12_thing cX12_thing 2 (some .int) 1 0 0 [.ref a0, .int a1] M Φ := by
  refine j_Ct.of (by decide +kernel) (Nat.le_of_ble_eq_true rfl) fun X C => ?_
  have C0 := C.1
  show j_J X 2 0 [some (.ref a0), some (.int a1)] [] (0, 0) M
  unfold F_X12_thing at h
  refine X_join (fun (kj : m_M → Option (Int32 × m_M)) => ∀  (M : m_M), m_ok e_I Φ (kj M) → j_J X 2 28 [none, none] [] (0, 0) M) h (fun M1 h => ?_) (fun k28 hk28 h => ?_)
  · refine j_iconst C0 (pc := 28) dX12_thing_28 (v := (-1 : Int32)) (by decide) ?_
    exact j_iret C rfl h dX12_thing_29 (by decide)
  · refine j_aload_n C0 (pc := 0) dX12_thing_0 rfl ?_
    refine j_iconst C0 (pc := 1) dX12_thing_1 (v := (0 : Int32)) (by decide) ?_
    refine X_pI C0 (pc := 2) f_OM_163_10 rfl rfl dX12_thing_2 h (fun M2 h => ?_)
    refine j_iload_n C0 (pc := 5) dX12_thing_5 rfl ?_
    refine j_if_lt C0 (pc := 6) (tgt := 28) dX12_thing_6 (by decide) (fun hc => ?_) (fun hc => ?_)
    · replace h := (X_if h).1 hc
      exact j_J.wq (hk28 M2 h) (trivial)
    · replace h := (X_if h).2 hc
      refine j_iload_n C0 (pc := 9) dX12_thing_9 rfl ?_
      refine j_aload_n C0 (pc := 10) dX12_thing_10 rfl ?_
      refine X_gN C0 (pc := 11) f_OM_13_10 rfl dX12_thing_11 h (fun v1 h => ?_)
      refine j_iconst C0 (pc := 14) dX12_thing_14 (v := (1 : Int32)) (by decide) ?_
      refine X_iald C0 (pc := 15) dX12_thing_15 h (fun v2 h => ?_)
      refine j_icmp_ge C0 (pc := 16) (tgt := 28) dX12_thing_16 (by decide) (fun hc => ?_) (fun hc => ?_)
      · replace h := (X_if h).1 hc
        exact j_J.wq (hk28 M2 h) (trivial)
      · replace h := (X_if h).2 hc
        refine j_aload_n C0 (pc := 19) dX12_thing_19 rfl ?_
        refine X_gN C0 (pc := 20) f_OM_29_10 rfl dX12_thing_20 h (fun v3 h => ?_)
        refine j_iload_n C0 (pc := 23) dX12_thing_23 rfl ?_
        refine X_iald C0 (pc := 24) dX12_thing_24 h (fun v4 h => ?_)
        refine j_goto C0 (pc := 25) (tgt := 29) dX12_thing_25 (by decide) ?_
        exact j_iret C rfl h dX12_thing_29 (by decide)
theorem dX12_thrown_0 : decode cX12_thrown 0 = .ok (.aload_n 0, 1) := by decide +kernel
theorem dX12_thrown_1 : decode cX12_thrown 1 = .ok (.getfield 163, 3) := by decide +kernel
theorem dX12_thrown_4 : decode cX12_thrown 4 = .ok (.ireturn, 1) := by decide +kernel
noncomputable def F_X12_thrown (a0 : Nat) (M : m_M) : Option (Int32 × m_M) :=
  x_gI 10 M a0 0 fun v1 =>
  some (v1, M)
set_option maxHeartbeats 4000000 in
theorem K_X12_thrown (a0 : Nat) (M : m_M) (Φ : Option Value → m_M → Prop) (h : m_ok e_I Φ (F_X12_thrown a0 M)) : j_Ct yX12_thrown cX12_thrown 1 (some .int) 1 0 0 [.ref a0] M Φ := by
  refine j_Ct.of (by decide +kernel) (Nat.le_of_ble_eq_true rfl) fun X C => ?_
  have C0 := C.1
  show j_J X 1 0 [some (.ref a0)] [] (0, 0) M
  unfold F_X12_thrown at h
  refine j_aload_n C0 (pc := 0) dX12_thrown_0 rfl ?_
  refine X_gI C0 (pc := 1) f_OM_163_10 rfl dX12_thrown_1 h (fun v1 h => ?_)
  exact j_iret C rfl h dX12_thrown_4 (by decide)
theorem dX12_two_0 : decode cX12_two 0 = .ok (.aload_n 0, 1) := by decide +kernel
theorem dX12_two_1 : decode cX12_two 1 = .ok (.iconst 0, 1) := by decide +kernel
theorem dX12_two_2 : decode cX12_two 2 = .ok (.putfield 163, 3) := by decide +kernel
theorem dX12_two_5 : decode cX12_two 5 = .ok (.aload_n 0, 1) := by decide +kernel
theorem dX12_two_6 : decode cX12_two 6 = .ok (.getfield 114, 3) := by decide +kernel
theorem dX12_two_9 : decode cX12_two 9 = .ok (.iconst 0, 1) := by decide +kernel
theorem dX12_two_10 : decode cX12_two 10 = .ok (.baload, 1) := by decide +kernel
theorem dX12_two_11 : decode cX12_two 11 = .ok (.ifCond .eq 27, 3) := by decide +kernel
theorem dX12_two_14 : decode cX12_two 14 = .ok (.iload_n 1, 1) := by decide +kernel
theorem dX12_two_15 : decode cX12_two 15 = .ok (.ifCond .lt 23, 3) := by decide +kernel
theorem dX12_two_18 : decode cX12_two 18 = .ok (.iload_n 2, 1) := by decide +kernel
theorem dX12_two_19 : decode cX12_two 19 = .ok (.iconst 0, 1) := by decide +kernel
theorem dX12_two_20 : decode cX12_two 20 = .ok (.iconst 2, 1) := by decide +kernel
theorem dX12_two_21 : decode cX12_two 21 = .ok (.invokestatic 279, 3) := by decide +kernel
theorem dX12_two_24 : decode cX12_two 24 = .ok (.ifCond .eq 14, 3) := by decide +kernel
theorem dX12_two_27 : decode cX12_two 27 = .ok (.aload_n 0, 1) := by decide +kernel
theorem dX12_two_28 : decode cX12_two 28 = .ok (.aload_n 0, 1) := by decide +kernel
theorem dX12_two_29 : decode cX12_two 29 = .ok (.getfield 433, 3) := by decide +kernel
theorem dX12_two_32 : decode cX12_two 32 = .ok (.invokevirtual 436, 3) := by decide +kernel
theorem dX12_two_35 : decode cX12_two 35 = .ok (.ifCond .ge 5, 3) := by decide +kernel
theorem dX12_two_38 : decode cX12_two 38 = .ok (.iconst (-1), 1) := by decide +kernel
theorem dX12_two_39 : decode cX12_two 39 = .ok (.ireturn, 1) := by decide +kernel
theorem dX12_two_40 : decode cX12_two 40 = .ok (.aload_n 0, 1) := by decide +kernel
theorem dX12_two_41 : decode cX12_two 41 = .ok (.iload_n 1, 1) := by decide +kernel
theorem dX12_two_42 : decode cX12_two 42 = .ok (.invokevirtual 436, 3) := by decide +kernel
theorem dX12_two_45 : decode cX12_two 45 = .ok (.invokestatic 481, 3) := by decide +kernel
theorem dX12_two_48 : decode cX12_two 48 = .ok (.istore_n 3, 1) := by decide +kernel
theorem dX12_two_49 : decode cX12_two 49 = .ok (.aload_n 0, 1) := by decide +kernel
theorem dX12_two_50 : decode cX12_two 50 = .ok (.aload_n 0, 1) := by decide +kernel
theorem dX12_two_51 : decode cX12_two 51 = .ok (.aload_n 0, 1) := by decide +kernel
theorem dX12_two_52 : decode cX12_two 52 = .ok (.getfield 433, 3) := by decide +kernel
theorem dX12_two_55 : decode cX12_two 55 = .ok (.invokevirtual 436, 3) := by decide +kernel
theorem dX12_two_58 : decode cX12_two 58 = .ok (.aload_n 0, 1) := by decide +kernel
theorem dX12_two_59 : decode cX12_two 59 = .ok (.getfield 141, 3) := by decide +kernel
theorem dX12_two_62 : decode cX12_two 62 = .ok (.invokevirtual 521, 3) := by decide +kernel
theorem dX12_two_65 : decode cX12_two 65 = .ok (.iconst 1, 1) := by decide +kernel
theorem dX12_two_66 : decode cX12_two 66 = .ok (.istore 4, 2) := by decide +kernel
theorem dX12_two_68 : decode cX12_two 68 = .ok (.iload 4, 2) := by decide +kernel
theorem dX12_two_70 : decode cX12_two 70 = .ok (.bipush 7, 2) := by decide +kernel
theorem dX12_two_72 : decode cX12_two 72 = .ok (.if_icmp .ge 148, 3) := by decide +kernel
theorem dX12_two_75 : decode cX12_two 75 = .ok (.aload_n 0, 1) := by decide +kernel
theorem dX12_two_76 : decode cX12_two 76 = .ok (.aload_n 0, 1) := by decide +kernel
theorem dX12_two_77 : decode cX12_two 77 = .ok (.getfield 433, 3) := by decide +kernel
theorem dX12_two_80 : decode cX12_two 80 = .ok (.iload 4, 2) := by decide +kernel
theorem dX12_two_82 : decode cX12_two 82 = .ok (.iadd, 1) := by decide +kernel
theorem dX12_two_83 : decode cX12_two 83 = .ok (.invokevirtual 436, 3) := by decide +kernel
theorem dX12_two_86 : decode cX12_two 86 = .ok (.ifCond .ge 6, 3) := by decide +kernel
theorem dX12_two_89 : decode cX12_two 89 = .ok (.goto 125, 3) := by decide +kernel
theorem dX12_two_92 : decode cX12_two 92 = .ok (.aload_n 0, 1) := by decide +kernel
theorem dX12_two_93 : decode cX12_two 93 = .ok (.aload_n 0, 1) := by decide +kernel
theorem dX12_two_94 : decode cX12_two 94 = .ok (.aload_n 0, 1) := by decide +kernel
theorem dX12_two_95 : decode cX12_two 95 = .ok (.getfield 433, 3) := by decide +kernel
theorem dX12_two_98 : decode cX12_two 98 = .ok (.iload 4, 2) := by decide +kernel
theorem dX12_two_100 : decode cX12_two 100 = .ok (.iadd, 1) := by decide +kernel
theorem dX12_two_101 : decode cX12_two 101 = .ok (.invokevirtual 436, 3) := by decide +kernel
theorem dX12_two_104 : decode cX12_two 104 = .ok (.aload_n 0, 1) := by decide +kernel
theorem dX12_two_105 : decode cX12_two 105 = .ok (.getfield 144, 3) := by decide +kernel
theorem dX12_two_108 : decode cX12_two 108 = .ok (.invokevirtual 521, 3) := by decide +kernel
theorem dX12_two_111 : decode cX12_two 111 = .ok (.iconst 0, 1) := by decide +kernel
theorem dX12_two_112 : decode cX12_two 112 = .ok (.istore 5, 2) := by decide +kernel
theorem dX12_two_114 : decode cX12_two 114 = .ok (.iload 5, 2) := by decide +kernel
theorem dX12_two_116 : decode cX12_two 116 = .ok (.sipush 800, 3) := by decide +kernel
theorem dX12_two_119 : decode cX12_two 119 = .ok (.if_icmp .ge 95, 3) := by decide +kernel
theorem dX12_two_122 : decode cX12_two 122 = .ok (.aload_n 0, 1) := by decide +kernel
theorem dX12_two_123 : decode cX12_two 123 = .ok (.iload 5, 2) := by decide +kernel
theorem dX12_two_125 : decode cX12_two 125 = .ok (.iconst 2, 1) := by decide +kernel
theorem dX12_two_126 : decode cX12_two 126 = .ok (.idiv, 1) := by decide +kernel
theorem dX12_two_127 : decode cX12_two 127 = .ok (.invokevirtual 475, 3) := by decide +kernel
theorem dX12_two_130 : decode cX12_two 130 = .ok (.ifCond .eq 78, 3) := by decide +kernel
theorem dX12_two_133 : decode cX12_two 133 = .ok (.aload_n 0, 1) := by decide +kernel
theorem dX12_two_134 : decode cX12_two 134 = .ok (.iload 5, 2) := by decide +kernel
theorem dX12_two_136 : decode cX12_two 136 = .ok (.iload_n 3, 1) := by decide +kernel
theorem dX12_two_137 : decode cX12_two 137 = .ok (.invokevirtual 528, 3) := by decide +kernel
theorem dX12_two_140 : decode cX12_two 140 = .ok (.ifCond .ne 6, 3) := by decide +kernel
theorem dX12_two_143 : decode cX12_two 143 = .ok (.goto 65, 3) := by decide +kernel
theorem dX12_two_146 : decode cX12_two 146 = .ok (.iconst 0, 1) := by decide +kernel
theorem dX12_two_147 : decode cX12_two 147 = .ok (.istore 6, 2) := by decide +kernel
theorem dX12_two_149 : decode cX12_two 149 = .ok (.iload 6, 2) := by decide +kernel
theorem dX12_two_151 : decode cX12_two 151 = .ok (.sipush 800, 3) := by decide +kernel
theorem dX12_two_154 : decode cX12_two 154 = .ok (.if_icmp .ge 54, 3) := by decide +kernel
theorem dX12_two_157 : decode cX12_two 157 = .ok (.aload_n 0, 1) := by decide +kernel
theorem dX12_two_158 : decode cX12_two 158 = .ok (.iload 6, 2) := by decide +kernel
theorem dX12_two_160 : decode cX12_two 160 = .ok (.iconst 2, 1) := by decide +kernel
theorem dX12_two_161 : decode cX12_two 161 = .ok (.idiv, 1) := by decide +kernel
theorem dX12_two_162 : decode cX12_two 162 = .ok (.invokevirtual 475, 3) := by decide +kernel
theorem dX12_two_165 : decode cX12_two 165 = .ok (.ifCond .eq 37, 3) := by decide +kernel
theorem dX12_two_168 : decode cX12_two 168 = .ok (.aload_n 0, 1) := by decide +kernel
theorem dX12_two_169 : decode cX12_two 169 = .ok (.iload 5, 2) := by decide +kernel
theorem dX12_two_171 : decode cX12_two 171 = .ok (.iload 6, 2) := by decide +kernel
theorem dX12_two_173 : decode cX12_two 173 = .ok (.iload_n 3, 1) := by decide +kernel
theorem dX12_two_174 : decode cX12_two 174 = .ok (.invokevirtual 531, 3) := by decide +kernel
theorem dX12_two_177 : decode cX12_two 177 = .ok (.ifCond .eq 25, 3) := by decide +kernel
theorem dX12_two_180 : decode cX12_two 180 = .ok (.iload_n 2, 1) := by decide +kernel
theorem dX12_two_181 : decode cX12_two 181 = .ok (.ifCond .ne 8, 3) := by decide +kernel
theorem dX12_two_184 : decode cX12_two 184 = .ok (.iload 4, 2) := by decide +kernel
theorem dX12_two_186 : decode cX12_two 186 = .ok (.goto 15, 3) := by decide +kernel
theorem dX12_two_189 : decode cX12_two 189 = .ok (.iload_n 2, 1) := by decide +kernel
theorem dX12_two_190 : decode cX12_two 190 = .ok (.iconst 1, 1) := by decide +kernel
theorem dX12_two_191 : decode cX12_two 191 = .ok (.if_icmp .ne 8, 3) := by decide +kernel
theorem dX12_two_194 : decode cX12_two 194 = .ok (.iload 5, 2) := by decide +kernel
theorem dX12_two_196 : decode cX12_two 196 = .ok (.goto 5, 3) := by decide +kernel
theorem dX12_two_199 : decode cX12_two 199 = .ok (.iload 6, 2) := by decide +kernel
theorem dX12_two_201 : decode cX12_two 201 = .ok (.ireturn, 1) := by decide +kernel
theorem dX12_two_202 : decode cX12_two 202 = .ok (.iinc 6 1, 3) := by decide +kernel
theorem dX12_two_205 : decode cX12_two 205 = .ok (.goto (-56), 3) := by decide +kernel
theorem dX12_two_208 : decode cX12_two 208 = .ok (.iinc 5 1, 3) := by decide +kernel
theorem dX12_two_211 : decode cX12_two 211 = .ok (.goto (-97), 3) := by decide +kernel
theorem dX12_two_214 : decode cX12_two 214 = .ok (.iinc 4 1, 3) := by decide +kernel
theorem dX12_two_217 : decode cX12_two 217 = .ok (.goto (-149), 3) := by decide +kernel
theorem dX12_two_220 : decode cX12_two 220 = .ok (.iconst (-1), 1) := by decide +kernel
theorem dX12_two_221 : decode cX12_two 221 = .ok (.ireturn, 1) := by decide +kernel
noncomputable def F_X12_two_149 (k180 : Int32 → Int32 → Int32 → Int32 → m_M → Option (Int32 × m_M)) (k208 : Nat → Int32 → Int32 → Int32 → Int32 → m_M → Option (Int32 × m_M)) : Nat → Nat → Int32 → Int32 → Int32 → Int32 → Int32 → m_M → Option (Int32 × m_M)
  | 0, _, _, _, _, _, _, _ => none
  | n + 1, v1, v2, v3, v4, v5, v6, M =>
    if (800 : Int32) ≤ v6 then (
      k208 v1 v2 v3 v4 v5 M
    ) else
    m_let (fun (v7 : Nat) (v8 : Int32) (v9 : Int32) (v10 : Int32) (v11 : Int32) (v12 : Int32) (M1 : m_M) =>
      m_let (v12 + (1 : Int32)) fun v13 =>
      F_X12_two_149 k180 k208 n v7 v8 v9 v10 v11 v13 M1
    ) fun (k202 : Nat → Int32 → Int32 → Int32 → Int32 → Int32 → m_M → Option (Int32 × m_M)) =>
    x_nz (2 : Int32) <|
    x_cV 10 M v1 (F_X12_isClause v1 (v6 / (2 : Int32)) M) fun v14 M2 =>
    if v14 = 0 then (
      k202 v1 v2 v3 v4 v5 v6 M2
    ) else
    x_cV 10 M2 v1 (F_X12_meet v1 v5 v6 v3 M2) fun v15 M3 =>
    if v15 = 0 then (
      k202 v1 v2 v3 v4 v5 v6 M3
    ) else
    k180 v2 v4 v5 v6 M3
noncomputable def F_X12_two_114 (k180 : Int32 → Int32 → Int32 → Int32 → m_M → Option (Int32 × m_M)) (k214 : Nat → Int32 → Int32 → Int32 → m_M → Option (Int32 × m_M)) : Nat → Nat → Int32 → Int32 → Int32 → Int32 → m_M → Option (Int32 × m_M)
  | 0, _, _, _, _, _, _ => none
  | n + 1, v1, v2, v3, v4, v5, M =>
    if (800 : Int32) ≤ v5 then (
      k214 v1 v2 v3 v4 M
    ) else
    m_let (fun (v6 : Nat) (v7 : Int32) (v8 : Int32) (v9 : Int32) (v10 : Int32) (M1 : m_M) =>
      m_let (v10 + (1 : Int32)) fun v11 =>
      F_X12_two_114 k180 k214 n v6 v7 v8 v9 v11 M1
    ) fun (k208 : Nat → Int32 → Int32 → Int32 → Int32 → m_M → Option (Int32 × m_M)) =>
    x_nz (2 : Int32) <|
    x_cV 10 M v1 (F_X12_isClause v1 (v5 / (2 : Int32)) M) fun v12 M2 =>
    if v12 = 0 then (
      k208 v1 v2 v3 v4 v5 M2
    ) else
    x_cV 10 M2 v1 (F_X12_isAbove v1 v5 v3 M2) fun v13 M3 =>
    if v13 = 0 then (
      k208 v1 v2 v3 v4 v5 M3
    ) else
    F_X12_two_149 k180 k208 m_FU v1 v2 v3 v4 v5 (0 : Int32) M3
noncomputable def F_X12_two_68 (k180 : Int32 → Int32 → Int32 → Int32 → m_M → Option (Int32 × m_M)) : Nat → Nat → Int32 → Int32 → Int32 → m_M → Option (Int32 × m_M)
  | 0, _, _, _, _, _ => none
  | n + 1, v1, v2, v3, v4, M =>
    if (7 : Int32) ≤ v4 then (
      some ((-1 : Int32), M)
    ) else
    m_let (fun (v5 : Nat) (v6 : Int32) (v7 : Int32) (v8 : Int32) (M1 : m_M) =>
      m_let (v8 + (1 : Int32)) fun v9 =>
      F_X12_two_68 k180 n v5 v6 v7 v9 M1
    ) fun (k214 : Nat → Int32 → Int32 → Int32 → m_M → Option (Int32 × m_M)) =>
    x_gI 10 M v1 53 fun v10 =>
    x_cV 10 M v1 (F_X12_verbOf v1 (v10 + v4) M) fun v11 M2 =>
    if 0 ≤ v11 then (
      x_gI 10 M2 v1 53 fun v12 =>
      x_cV 10 M2 v1 (F_X12_verbOf v1 (v12 + v4) M2) fun v13 M3 =>
      x_gN 10 M3 v1 65 fun v14 =>
      x_cV 10 M3 v1 (F_X12_laysLiterals v1 v13 v14 M3) fun _ M4 =>
      F_X12_two_114 k180 k214 m_FU v1 v2 v3 v4 (0 : Int32) M4
    ) else
    k214 v1 v2 v3 v4 M2
noncomputable def F_X12_two (a0 : Nat) (a1 : Int32) (a2 : Int32) (M : m_M) : Option (Int32 × m_M) :=
  x_pI 10 M a0 0 (0 : Int32) fun M1 =>
  x_gN 10 M1 a0 55 fun v1 =>
  x_aI 14 M1 v1 (0 : Int32) fun v2 =>
  if v2 = 0 then (
    some ((-1 : Int32), M1)
  ) else
  if a1 < 0 then (
    some ((-1 : Int32), M1)
  ) else
  x_bd (F_X12_within a2 (0 : Int32) (2 : Int32) M1) fun v3 M2 =>
  if v3 = 0 then (
    some ((-1 : Int32), M2)
  ) else
  x_gI 10 M2 a0 53 fun v4 =>
  x_cV 10 M2 a0 (F_X12_verbOf a0 v4 M2) fun v5 M3 =>
  if 0 ≤ v5 then (
    x_cV 10 M3 a0 (F_X12_verbOf a0 a1 M3) fun v6 M4 =>
    x_bd (F_X12_askedAt v6 M4) fun v7 M5 =>
    x_gI 10 M5 a0 53 fun v8 =>
    x_cV 10 M5 a0 (F_X12_verbOf a0 v8 M5) fun v9 M6 =>
    x_gN 10 M6 a0 64 fun v10 =>
    x_cV 10 M6 a0 (F_X12_laysLiterals a0 v9 v10 M6) fun _ M7 =>
    m_let (fun (v11 : Int32) (v12 : Int32) (v13 : Int32) (v14 : Int32) (M8 : m_M) =>
      if v11 = 0 then (
        some (v12, M8)
      ) else
      if v11 = (1 : Int32) then (
        some (v13, M8)
      ) else
      some (v14, M8)
    ) fun (k180 : Int32 → Int32 → Int32 → Int32 → m_M → Option (Int32 × m_M)) =>
    F_X12_two_68 k180 m_FU a0 a2 v7 (1 : Int32) M7
  ) else
  some ((-1 : Int32), M3)
set_option maxHeartbeats 4000000 in
theorem L_X12_two_149 {X : j_X} {Φ : Option Value → m_M → Prop} (C : j_C X yX12_two cX12_two 7 (some .int) 9 0 0 Φ) {k180 : Int32 → Int32 → Int32 → Int32 → m_M → Option (Int32 × m_M)} {k208 : Nat → Int32 → Int32 → Int32 → Int32 → m_M → Option (Int32 × m_M)} (hk180 : ∀ (p0 : Int32) (p1 : Int32) (p2 : Int32) (p3 : Int32) (M : m_M), m_ok e_I Φ (k180 p0 p1 p2 p3 M) → j_J X 7 180 [none, none, some (.int p0), none, some (.int p1), some (.int p2), some (.int p3)] [] (0, 0) M) (hk208 : ∀ (p0 : Nat) (p1 : Int32) (p2 : Int32) (p3 : Int32) (p4 : Int32) (M : m_M), m_ok e_I Φ (k208 p0 p1 p2 p3 p4 M) → j_J X 7 208 [some (.ref p0), none, some (.int p1), some (.int p2), some (.int p3), some (.int p4), none] [] (0, 0) M) : ∀ (n : Nat) (v1 : Nat) (v2 : Int32) (v3 : Int32) (v4 : Int32) (v5 : Int32) (v6 : Int32) (M : m_M), m_ok e_I Φ (F_X12_two_149 k180 k208 n v1 v2 v3 v4 v5 v6 M) → j_J X 7 149 [some (.ref v1), none, some (.int v2), some (.int v3), some (.int v4), some (.int v5), some (.int v6)] [] (0, 0) M := by
  have C0 := C.1
  intro n
  induction n with
  | zero => intro v1 v2 v3 v4 v5 v6 M h; exact False.elim h
  | succ n ih =>
    intro v1 v2 v3 v4 v5 v6 M h
    rw [F_X12_two_149] at h
    refine j_iload C0 (pc := 149) dX12_two_149 rfl ?_
    refine j_sipush C0 (pc := 151) dX12_two_151 (v := (800 : Int32)) (by decide) ?_
    refine j_icmp_ge C0 (pc := 154) (tgt := 208) dX12_two_154 (by decide) (fun hc => ?_) (fun hc => ?_)
    · replace h := (X_if h).1 hc
      exact j_J.wq (hk208 v1 v2 v3 v4 v5 M h) (And.intro rfl (And.intro rfl (And.intro rfl (And.intro rfl (And.intro rfl (trivial))))))
    · replace h := (X_if h).2 hc
      refine X_join (fun (kj : Nat → Int32 → Int32 → Int32 → Int32 → Int32 → m_M → Option (Int32 × m_M)) => ∀ (p0 : Nat) (p1 : Int32) (p2 : Int32) (p3 : Int32) (p4 : Int32) (p5 : Int32) (M : m_M), m_ok e_I Φ (kj p0 p1 p2 p3 p4 p5 M) → j_J X 7 202 [some (.ref p0), none, some (.int p1), some (.int p2), some (.int p3), some (.int p4), some (.int p5)] [] (0, 0) M) h (fun v7 v8 v9 v10 v11 v12 M1 h => ?_) (fun k202 hk202 h => ?_)
      · refine j_iinc C0 (pc := 202) dX12_two_202 (v := v12 + (1 : Int32)) rfl (Nat.le_of_ble_eq_true rfl) (by rfl) ?_
        refine X_let (G := fun w => j_J X 7 205 [some (.ref v7), none, some (.int v8), some (.int v9), some (.int v10), some (.int v11), some (.int w)] [] (0, 0) M1) h (fun v13 h => ?_)
        refine j_goto C0 (pc := 205) (tgt := 149) dX12_two_205 (by decide) ?_
        exact j_J.wq (ih v7 v8 v9 v10 v11 v13 M1 h) (And.intro rfl (And.intro rfl (And.intro rfl (And.intro rfl (And.intro rfl (And.intro rfl (trivial)))))))
      · refine j_aload_n C0 (pc := 157) dX12_two_157 rfl ?_
        refine j_iload C0 (pc := 158) dX12_two_158 rfl ?_
        refine j_iconst C0 (pc := 160) dX12_two_160 (v := (2 : Int32)) (by decide) ?_
        refine X_idiv C0 (pc := 161) dX12_two_161 h (fun h => ?_)
        refine X_cV C0 (pc := 162) (e' := e_I) (as := [.int (v6 / (2 : Int32))]) (rest := []) (s' := fun w => .int w :: []) (g' := (0, 0)) v_OM_475_10 (fun Ψ hΨ => K_X12_isClause v1 (v6 / (2 : Int32)) M Ψ hΨ) rfl rfl (fun _ => rfl) (by decide) (by decide) rfl (Nat.le_of_ble_eq_true rfl) dX12_two_162 h (fun v14 M2 h => ?_)
        refine j_if_eq C0 (pc := 165) (tgt := 202) dX12_two_165 (by decide) (fun hc => ?_) (fun hc => ?_)
        · replace h := (X_if h).1 hc
          exact j_J.wq (hk202 v1 v2 v3 v4 v5 v6 M2 h) (And.intro rfl (And.intro rfl (And.intro rfl (And.intro rfl (And.intro rfl (And.intro rfl (trivial)))))))
        · replace h := (X_if h).2 hc
          refine j_aload_n C0 (pc := 168) dX12_two_168 rfl ?_
          refine j_iload C0 (pc := 169) dX12_two_169 rfl ?_
          refine j_iload C0 (pc := 171) dX12_two_171 rfl ?_
          refine j_iload_n C0 (pc := 173) dX12_two_173 rfl ?_
          refine X_cV C0 (pc := 174) (e' := e_I) (as := [.int v5, .int v6, .int v3]) (rest := []) (s' := fun w => .int w :: []) (g' := (0, 0)) v_OM_531_10 (fun Ψ hΨ => K_X12_meet v1 v5 v6 v3 M2 Ψ hΨ) rfl rfl (fun _ => rfl) (by decide) (by decide) rfl (Nat.le_of_ble_eq_true rfl) dX12_two_174 h (fun v15 M3 h => ?_)
          refine j_if_eq C0 (pc := 177) (tgt := 202) dX12_two_177 (by decide) (fun hc => ?_) (fun hc => ?_)
          · replace h := (X_if h).1 hc
            exact j_J.wq (hk202 v1 v2 v3 v4 v5 v6 M3 h) (And.intro rfl (And.intro rfl (And.intro rfl (And.intro rfl (And.intro rfl (And.intro rfl (trivial)))))))
          · replace h := (X_if h).2 hc
            exact j_J.wq (hk180 v2 v4 v5 v6 M3 h) (And.intro rfl (And.intro rfl (And.intro rfl (And.intro rfl (trivial)))))
set_option maxHeartbeats 4000000 in
theorem L_X12_two_114 {X : j_X} {Φ : Option Value → m_M → Prop} (C : j_C X yX12_two cX12_two 7 (some .int) 9 0 0 Φ) {k180 : Int32 → Int32 → Int32 → Int32 → m_M → Option (Int32 × m_M)} {k214 : Nat → Int32 → Int32 → Int32 → m_M → Option (Int32 × m_M)} (hk180 : ∀ (p0 : Int32) (p1 : Int32) (p2 : Int32) (p3 : Int32) (M : m_M), m_ok e_I Φ (k180 p0 p1 p2 p3 M) → j_J X 7 180 [none, none, some (.int p0), none, some (.int p1), some (.int p2), some (.int p3)] [] (0, 0) M) (hk214 : ∀ (p0 : Nat) (p1 : Int32) (p2 : Int32) (p3 : Int32) (M : m_M), m_ok e_I Φ (k214 p0 p1 p2 p3 M) → j_J X 7 214 [some (.ref p0), none, some (.int p1), some (.int p2), some (.int p3), none, none] [] (0, 0) M) : ∀ (n : Nat) (v1 : Nat) (v2 : Int32) (v3 : Int32) (v4 : Int32) (v5 : Int32) (M : m_M), m_ok e_I Φ (F_X12_two_114 k180 k214 n v1 v2 v3 v4 v5 M) → j_J X 7 114 [some (.ref v1), none, some (.int v2), some (.int v3), some (.int v4), some (.int v5), none] [] (0, 0) M := by
  have C0 := C.1
  intro n
  induction n with
  | zero => intro v1 v2 v3 v4 v5 M h; exact False.elim h
  | succ n ih =>
    intro v1 v2 v3 v4 v5 M h
    rw [F_X12_two_114] at h
    refine j_iload C0 (pc := 114) dX12_two_114 rfl ?_
    refine j_sipush C0 (pc := 116) dX12_two_116 (v := (800 : Int32)) (by decide) ?_
    refine j_icmp_ge C0 (pc := 119) (tgt := 214) dX12_two_119 (by decide) (fun hc => ?_) (fun hc => ?_)
    · replace h := (X_if h).1 hc
      exact j_J.wq (hk214 v1 v2 v3 v4 M h) (And.intro rfl (And.intro rfl (And.intro rfl (And.intro rfl (trivial)))))
    · replace h := (X_if h).2 hc
      refine X_join (fun (kj : Nat → Int32 → Int32 → Int32 → Int32 → m_M → Option (Int32 × m_M)) => ∀ (p0 : Nat) (p1 : Int32) (p2 : Int32) (p3 : Int32) (p4 : Int32) (M : m_M), m_ok e_I Φ (kj p0 p1 p2 p3 p4 M) → j_J X 7 208 [some (.ref p0), none, some (.int p1), some (.int p2), some (.int p3), some (.int p4), none] [] (0, 0) M) h (fun v6 v7 v8 v9 v10 M1 h => ?_) (fun k208 hk208 h => ?_)
      · refine j_iinc C0 (pc := 208) dX12_two_208 (v := v10 + (1 : Int32)) rfl (Nat.le_of_ble_eq_true rfl) (by rfl) ?_
        refine X_let (G := fun w => j_J X 7 211 [some (.ref v6), none, some (.int v7), some (.int v8), some (.int v9), some (.int w), none] [] (0, 0) M1) h (fun v11 h => ?_)
        refine j_goto C0 (pc := 211) (tgt := 114) dX12_two_211 (by decide) ?_
        exact j_J.wq (ih v6 v7 v8 v9 v11 M1 h) (And.intro rfl (And.intro rfl (And.intro rfl (And.intro rfl (And.intro rfl (trivial))))))
      · refine j_aload_n C0 (pc := 122) dX12_two_122 rfl ?_
        refine j_iload C0 (pc := 123) dX12_two_123 rfl ?_
        refine j_iconst C0 (pc := 125) dX12_two_125 (v := (2 : Int32)) (by decide) ?_
        refine X_idiv C0 (pc := 126) dX12_two_126 h (fun h => ?_)
        refine X_cV C0 (pc := 127) (e' := e_I) (as := [.int (v5 / (2 : Int32))]) (rest := []) (s' := fun w => .int w :: []) (g' := (0, 0)) v_OM_475_10 (fun Ψ hΨ => K_X12_isClause v1 (v5 / (2 : Int32)) M Ψ hΨ) rfl rfl (fun _ => rfl) (by decide) (by decide) rfl (Nat.le_of_ble_eq_true rfl) dX12_two_127 h (fun v12 M2 h => ?_)
        refine j_if_eq C0 (pc := 130) (tgt := 208) dX12_two_130 (by decide) (fun hc => ?_) (fun hc => ?_)
        · replace h := (X_if h).1 hc
          exact j_J.wq (hk208 v1 v2 v3 v4 v5 M2 h) (And.intro rfl (And.intro rfl (And.intro rfl (And.intro rfl (And.intro rfl (trivial))))))
        · replace h := (X_if h).2 hc
          refine j_aload_n C0 (pc := 133) dX12_two_133 rfl ?_
          refine j_iload C0 (pc := 134) dX12_two_134 rfl ?_
          refine j_iload_n C0 (pc := 136) dX12_two_136 rfl ?_
          refine X_cV C0 (pc := 137) (e' := e_I) (as := [.int v5, .int v3]) (rest := []) (s' := fun w => .int w :: []) (g' := (0, 0)) v_OM_528_10 (fun Ψ hΨ => K_X12_isAbove v1 v5 v3 M2 Ψ hΨ) rfl rfl (fun _ => rfl) (by decide) (by decide) rfl (Nat.le_of_ble_eq_true rfl) dX12_two_137 h (fun v13 M3 h => ?_)
          refine j_if_ne C0 (pc := 140) (tgt := 146) dX12_two_140 (by decide) (fun hc => ?_) (fun hc => ?_)
          · replace h := (X_if h).2 hc
            refine j_iconst C0 (pc := 146) dX12_two_146 (v := (0 : Int32)) (by decide) ?_
            refine j_istore C0 (pc := 147) dX12_two_147 (Nat.le_of_ble_eq_true rfl) ?_
            show j_J X 7 149 [some (.ref v1), none, some (.int v2), some (.int v3), some (.int v4), some (.int v5), some (.int (0 : Int32))] [] (0, 0) M3
            exact j_J.wq (L_X12_two_149 C hk180 hk208 m_FU v1 v2 v3 v4 v5 (0 : Int32) M3 h) (And.intro rfl (And.intro rfl (And.intro rfl (And.intro rfl (And.intro rfl (And.intro rfl (trivial)))))))
          · replace h := (X_if h).1 hc
            refine j_goto C0 (pc := 143) (tgt := 208) dX12_two_143 (by decide) ?_
            exact j_J.wq (hk208 v1 v2 v3 v4 v5 M3 h) (And.intro rfl (And.intro rfl (And.intro rfl (And.intro rfl (And.intro rfl (trivial))))))
set_option maxHeartbeats 4000000 in
theorem L_X12_two_68 {X : j_X} {Φ : Option Value → m_M → Prop} (C : j_C X yX12_two cX12_two 7 (some .int) 9 0 0 Φ) {k180 : Int32 → Int32 → Int32 → Int32 → m_M → Option (Int32 × m_M)} (hk180 : ∀ (p0 : Int32) (p1 : Int32) (p2 : Int32) (p3 : Int32) (M : m_M), m_ok e_I Φ (k180 p0 p1 p2 p3 M) → j_J X 7 180 [none, none, some (.int p0), none, some (.int p1), some (.int p2), some (.int p3)] [] (0, 0) M) : ∀ (n : Nat) (v1 : Nat) (v2 : Int32) (v3 : Int32) (v4 : Int32) (M : m_M), m_ok e_I Φ (F_X12_two_68 k180 n v1 v2 v3 v4 M) → j_J X 7 68 [some (.ref v1), none, some (.int v2), some (.int v3), some (.int v4), none, none] [] (0, 0) M := by
  have C0 := C.1
  intro n
  induction n with
  | zero => intro v1 v2 v3 v4 M h; exact False.elim h
  | succ n ih =>
    intro v1 v2 v3 v4 M h
    rw [F_X12_two_68] at h
    refine j_iload C0 (pc := 68) dX12_two_68 rfl ?_
    refine j_bipush C0 (pc := 70) dX12_two_70 (v := (7 : Int32)) (by decide) ?_
    refine j_icmp_ge C0 (pc := 72) (tgt := 220) dX12_two_72 (by decide) (fun hc => ?_) (fun hc => ?_)
    · replace h := (X_if h).1 hc
      refine j_iconst C0 (pc := 220) dX12_two_220 (v := (-1 : Int32)) (by decide) ?_
      exact j_iret C rfl h dX12_two_221 (by decide)
    · replace h := (X_if h).2 hc
      refine X_join (fun (kj : Nat → Int32 → Int32 → Int32 → m_M → Option (Int32 × m_M)) => ∀ (p0 : Nat) (p1 : Int32) (p2 : Int32) (p3 : Int32) (M : m_M), m_ok e_I Φ (kj p0 p1 p2 p3 M) → j_J X 7 214 [some (.ref p0), none, some (.int p1), some (.int p2), some (.int p3), none, none] [] (0, 0) M) h (fun v5 v6 v7 v8 M1 h => ?_) (fun k214 hk214 h => ?_)
      · refine j_iinc C0 (pc := 214) dX12_two_214 (v := v8 + (1 : Int32)) rfl (Nat.le_of_ble_eq_true rfl) (by rfl) ?_
        refine X_let (G := fun w => j_J X 7 217 [some (.ref v5), none, some (.int v6), some (.int v7), some (.int w), none, none] [] (0, 0) M1) h (fun v9 h => ?_)
        refine j_goto C0 (pc := 217) (tgt := 68) dX12_two_217 (by decide) ?_
        exact j_J.wq (ih v5 v6 v7 v9 M1 h) (And.intro rfl (And.intro rfl (And.intro rfl (And.intro rfl (trivial)))))
      · refine j_aload_n C0 (pc := 75) dX12_two_75 rfl ?_
        refine j_aload_n C0 (pc := 76) dX12_two_76 rfl ?_
        refine X_gI C0 (pc := 77) f_OM_433_10 rfl dX12_two_77 h (fun v10 h => ?_)
        refine j_iload C0 (pc := 80) dX12_two_80 rfl ?_
        refine j_iadd C0 (pc := 82) dX12_two_82 ?_
        refine X_cV C0 (pc := 83) (e' := e_I) (as := [.int (v10 + v4)]) (rest := []) (s' := fun w => .int w :: []) (g' := (0, 0)) v_OM_436_10 (fun Ψ hΨ => K_X12_verbOf v1 (v10 + v4) M Ψ hΨ) rfl rfl (fun _ => rfl) (by decide) (by decide) rfl (Nat.le_of_ble_eq_true rfl) dX12_two_83 h (fun v11 M2 h => ?_)
        refine j_if_ge C0 (pc := 86) (tgt := 92) dX12_two_86 (by decide) (fun hc => ?_) (fun hc => ?_)
        · replace h := (X_if h).1 hc
          refine j_aload_n C0 (pc := 92) dX12_two_92 rfl ?_
          refine j_aload_n C0 (pc := 93) dX12_two_93 rfl ?_
          refine j_aload_n C0 (pc := 94) dX12_two_94 rfl ?_
          refine X_gI C0 (pc := 95) f_OM_433_10 rfl dX12_two_95 h (fun v12 h => ?_)
          refine j_iload C0 (pc := 98) dX12_two_98 rfl ?_
          refine j_iadd C0 (pc := 100) dX12_two_100 ?_
          refine X_cV C0 (pc := 101) (e' := e_I) (as := [.int (v12 + v4)]) (rest := [.ref v1]) (s' := fun w => .int w :: [.ref v1]) (g' := (0, 0)) v_OM_436_10 (fun Ψ hΨ => K_X12_verbOf v1 (v12 + v4) M2 Ψ hΨ) rfl rfl (fun _ => rfl) (by decide) (by decide) rfl (Nat.le_of_ble_eq_true rfl) dX12_two_101 h (fun v13 M3 h => ?_)
          refine j_aload_n C0 (pc := 104) dX12_two_104 rfl ?_
          refine X_gN C0 (pc := 105) f_OM_144_10 rfl dX12_two_105 h (fun v14 h => ?_)
          refine X_cV C0 (pc := 108) (e' := e_V) (as := [.int v13, .ref v14]) (rest := []) (s' := fun _ => []) (g' := (0, 0)) v_OM_521_10 (fun Ψ hΨ => K_X12_laysLiterals v1 v13 v14 M3 Ψ hΨ) rfl rfl (fun _ => rfl) (by decide) (by decide) rfl (Nat.le_of_ble_eq_true rfl) dX12_two_108 h (fun _ M4 h => ?_)
          refine j_iconst C0 (pc := 111) dX12_two_111 (v := (0 : Int32)) (by decide) ?_
          refine j_istore C0 (pc := 112) dX12_two_112 (Nat.le_of_ble_eq_true rfl) ?_
          show j_J X 7 114 [some (.ref v1), none, some (.int v2), some (.int v3), some (.int v4), some (.int (0 : Int32)), none] [] (0, 0) M4
          exact j_J.wq (L_X12_two_114 C hk180 hk214 m_FU v1 v2 v3 v4 (0 : Int32) M4 h) (And.intro rfl (And.intro rfl (And.intro rfl (And.intro rfl (And.intro rfl (trivial))))))
        · replace h := (X_if h).2 hc
          refine j_goto C0 (pc := 89) (tgt := 214) dX12_two_89 (by decide) ?_
          exact j_J.wq (hk214 v1 v2 v3 v4 M2 h) (And.intro rfl (And.intro rfl (And.intro rfl (And.intro rfl (trivial)))))
set_option maxHeartbeats 4000000 in
theorem K_X12_two (a0 : Nat) (a1 : Int32) (a2 : Int32) (M : m_M) (Φ : Option Value → m_M → Prop) (h : m_ok e_I Φ (F_X12_two a0 a1 a2 M)) : j_Ct yX12_two cX12_two 7 (some .int) 9 0 0 [.ref a0, .int a1, .int a2] M Φ := by
  refine j_Ct.of (by decide +kernel) (Nat.le_of_ble_eq_true rfl) fun X C => ?_
  have C0 := C.1
  show j_J X 7 0 [some (.ref a0), some (.int a1), some (.int a2), none, none, none, none] [] (0, 0) M
  unfold F_X12_two at h
  refine j_aload_n C0 (pc := 0) dX12_two_0 rfl ?_
  refine j_iconst C0 (pc := 1) dX12_two_1 (v := (0 : Int32)) (by decide) ?_
  refine X_pI C0 (pc := 2) f_OM_163_10 rfl rfl dX12_two_2 h (fun M1 h => ?_)
  refine j_aload_n C0 (pc := 5) dX12_two_5 rfl ?_
  refine X_gN C0 (pc := 6) f_OM_114_10 rfl dX12_two_6 h (fun v1 h => ?_)
  refine j_iconst C0 (pc := 9) dX12_two_9 (v := (0 : Int32)) (by decide) ?_
  refine X_zald C0 (pc := 10) dX12_two_10 h (fun v2 h => ?_)
  refine j_if_eq C0 (pc := 11) (tgt := 38) dX12_two_11 (by decide) (fun hc => ?_) (fun hc => ?_)
  · replace h := (X_if h).1 hc
    refine j_iconst C0 (pc := 38) dX12_two_38 (v := (-1 : Int32)) (by decide) ?_
    exact j_iret C rfl h dX12_two_39 (by decide)
  · replace h := (X_if h).2 hc
    refine j_iload_n C0 (pc := 14) dX12_two_14 rfl ?_
    refine j_if_lt C0 (pc := 15) (tgt := 38) dX12_two_15 (by decide) (fun hc => ?_) (fun hc => ?_)
    · replace h := (X_if h).1 hc
      refine j_iconst C0 (pc := 38) dX12_two_38 (v := (-1 : Int32)) (by decide) ?_
      exact j_iret C rfl h dX12_two_39 (by decide)
    · replace h := (X_if h).2 hc
      refine j_iload_n C0 (pc := 18) dX12_two_18 rfl ?_
      refine j_iconst C0 (pc := 19) dX12_two_19 (v := (0 : Int32)) (by decide) ?_
      refine j_iconst C0 (pc := 20) dX12_two_20 (v := (2 : Int32)) (by decide) ?_
      refine X_cS C0 (pc := 21) (e' := e_I) (as := [.int a2, .int (0 : Int32), .int (2 : Int32)]) (rest := []) (s' := fun w => .int w :: []) (g' := (0, 0)) s_OM_279 (fun Ψ hΨ => K_X12_within a2 (0 : Int32) (2 : Int32) M1 Ψ hΨ) rfl rfl (fun _ => rfl) (by decide) (by decide) rfl (Nat.le_of_ble_eq_true rfl) dX12_two_21 h (fun v3 M2 h => ?_)
      refine j_if_eq C0 (pc := 24) (tgt := 38) dX12_two_24 (by decide) (fun hc => ?_) (fun hc => ?_)
      · replace h := (X_if h).1 hc
        refine j_iconst C0 (pc := 38) dX12_two_38 (v := (-1 : Int32)) (by decide) ?_
        exact j_iret C rfl h dX12_two_39 (by decide)
      · replace h := (X_if h).2 hc
        refine j_aload_n C0 (pc := 27) dX12_two_27 rfl ?_
        refine j_aload_n C0 (pc := 28) dX12_two_28 rfl ?_
        refine X_gI C0 (pc := 29) f_OM_433_10 rfl dX12_two_29 h (fun v4 h => ?_)
        refine X_cV C0 (pc := 32) (e' := e_I) (as := [.int v4]) (rest := []) (s' := fun w => .int w :: []) (g' := (0, 0)) v_OM_436_10 (fun Ψ hΨ => K_X12_verbOf a0 v4 M2 Ψ hΨ) rfl rfl (fun _ => rfl) (by decide) (by decide) rfl (Nat.le_of_ble_eq_true rfl) dX12_two_32 h (fun v5 M3 h => ?_)
        refine j_if_ge C0 (pc := 35) (tgt := 40) dX12_two_35 (by decide) (fun hc => ?_) (fun hc => ?_)
        · replace h := (X_if h).1 hc
          refine j_aload_n C0 (pc := 40) dX12_two_40 rfl ?_
          refine j_iload_n C0 (pc := 41) dX12_two_41 rfl ?_
          refine X_cV C0 (pc := 42) (e' := e_I) (as := [.int a1]) (rest := []) (s' := fun w => .int w :: []) (g' := (0, 0)) v_OM_436_10 (fun Ψ hΨ => K_X12_verbOf a0 a1 M3 Ψ hΨ) rfl rfl (fun _ => rfl) (by decide) (by decide) rfl (Nat.le_of_ble_eq_true rfl) dX12_two_42 h (fun v6 M4 h => ?_)
          refine X_cS C0 (pc := 45) (e' := e_I) (as := [.int v6]) (rest := []) (s' := fun w => .int w :: []) (g' := (0, 0)) s_OM_481 (fun Ψ hΨ => K_X12_askedAt v6 M4 Ψ hΨ) rfl rfl (fun _ => rfl) (by decide) (by decide) rfl (Nat.le_of_ble_eq_true rfl) dX12_two_45 h (fun v7 M5 h => ?_)
          refine j_istore_n C0 (pc := 48) dX12_two_48 (Nat.le_of_ble_eq_true rfl) ?_
          show j_J X 7 49 [some (.ref a0), some (.int a1), some (.int a2), some (.int v7), none, none, none] [] (0, 0) M5
          refine j_aload_n C0 (pc := 49) dX12_two_49 rfl ?_
          refine j_aload_n C0 (pc := 50) dX12_two_50 rfl ?_
          refine j_aload_n C0 (pc := 51) dX12_two_51 rfl ?_
          refine X_gI C0 (pc := 52) f_OM_433_10 rfl dX12_two_52 h (fun v8 h => ?_)
          refine X_cV C0 (pc := 55) (e' := e_I) (as := [.int v8]) (rest := [.ref a0]) (s' := fun w => .int w :: [.ref a0]) (g' := (0, 0)) v_OM_436_10 (fun Ψ hΨ => K_X12_verbOf a0 v8 M5 Ψ hΨ) rfl rfl (fun _ => rfl) (by decide) (by decide) rfl (Nat.le_of_ble_eq_true rfl) dX12_two_55 h (fun v9 M6 h => ?_)
          refine j_aload_n C0 (pc := 58) dX12_two_58 rfl ?_
          refine X_gN C0 (pc := 59) f_OM_141_10 rfl dX12_two_59 h (fun v10 h => ?_)
          refine X_cV C0 (pc := 62) (e' := e_V) (as := [.int v9, .ref v10]) (rest := []) (s' := fun _ => []) (g' := (0, 0)) v_OM_521_10 (fun Ψ hΨ => K_X12_laysLiterals a0 v9 v10 M6 Ψ hΨ) rfl rfl (fun _ => rfl) (by decide) (by decide) rfl (Nat.le_of_ble_eq_true rfl) dX12_two_62 h (fun _ M7 h => ?_)
          refine j_iconst C0 (pc := 65) dX12_two_65 (v := (1 : Int32)) (by decide) ?_
          refine j_istore C0 (pc := 66) dX12_two_66 (Nat.le_of_ble_eq_true rfl) ?_
          show j_J X 7 68 [some (.ref a0), some (.int a1), some (.int a2), some (.int v7), some (.int (1 : Int32)), none, none] [] (0, 0) M7
          refine X_join (fun (kj : Int32 → Int32 → Int32 → Int32 → m_M → Option (Int32 × m_M)) => ∀ (p0 : Int32) (p1 : Int32) (p2 : Int32) (p3 : Int32) (M : m_M), m_ok e_I Φ (kj p0 p1 p2 p3 M) → j_J X 7 180 [none, none, some (.int p0), none, some (.int p1), some (.int p2), some (.int p3)] [] (0, 0) M) h (fun v11 v12 v13 v14 M8 h => ?_) (fun k180 hk180 h => ?_)
          · refine j_iload_n C0 (pc := 180) dX12_two_180 rfl ?_
            refine j_if_ne C0 (pc := 181) (tgt := 189) dX12_two_181 (by decide) (fun hc => ?_) (fun hc => ?_)
            · replace h := (X_if h).2 hc
              refine j_iload_n C0 (pc := 189) dX12_two_189 rfl ?_
              refine j_iconst C0 (pc := 190) dX12_two_190 (v := (1 : Int32)) (by decide) ?_
              refine j_icmp_ne C0 (pc := 191) (tgt := 199) dX12_two_191 (by decide) (fun hc => ?_) (fun hc => ?_)
              · replace h := (X_if h).2 hc
                refine j_iload C0 (pc := 199) dX12_two_199 rfl ?_
                exact j_iret C rfl h dX12_two_201 (by decide)
              · replace h := (X_if h).1 hc
                refine j_iload C0 (pc := 194) dX12_two_194 rfl ?_
                refine j_goto C0 (pc := 196) (tgt := 201) dX12_two_196 (by decide) ?_
                exact j_iret C rfl h dX12_two_201 (by decide)
            · replace h := (X_if h).1 hc
              refine j_iload C0 (pc := 184) dX12_two_184 rfl ?_
              refine j_goto C0 (pc := 186) (tgt := 201) dX12_two_186 (by decide) ?_
              exact j_iret C rfl h dX12_two_201 (by decide)
          · exact j_J.wq (L_X12_two_68 C hk180 m_FU a0 a2 v7 (1 : Int32) M7 h) (And.intro rfl (And.intro rfl (And.intro rfl (And.intro rfl (trivial)))))
        · replace h := (X_if h).2 hc
          refine j_iconst C0 (pc := 38) dX12_two_38 (v := (-1 : Int32)) (by decide) ?_
          exact j_iret C rfl h dX12_two_39 (by decide)
theorem dX12_undo_0 : decode cX12_undo 0 = .ok (.aload_n 0, 1) := by decide +kernel
theorem dX12_undo_1 : decode cX12_undo 1 = .ok (.iconst 0, 1) := by decide +kernel
theorem dX12_undo_2 : decode cX12_undo 2 = .ok (.putfield 163, 3) := by decide +kernel
theorem dX12_undo_5 : decode cX12_undo 5 = .ok (.aload_n 0, 1) := by decide +kernel
theorem dX12_undo_6 : decode cX12_undo 6 = .ok (.getfield 420, 3) := by decide +kernel
theorem dX12_undo_9 : decode cX12_undo 9 = .ok (.ifCond .ne 5, 3) := by decide +kernel
theorem dX12_undo_12 : decode cX12_undo 12 = .ok (.iconst 0, 1) := by decide +kernel
theorem dX12_undo_13 : decode cX12_undo 13 = .ok (.ireturn, 1) := by decide +kernel
theorem dX12_undo_14 : decode cX12_undo 14 = .ok (.aload_n 0, 1) := by decide +kernel
theorem dX12_undo_15 : decode cX12_undo 15 = .ok (.dup, 1) := by decide +kernel
theorem dX12_undo_16 : decode cX12_undo 16 = .ok (.getfield 420, 3) := by decide +kernel
theorem dX12_undo_19 : decode cX12_undo 19 = .ok (.iconst 1, 1) := by decide +kernel
theorem dX12_undo_20 : decode cX12_undo 20 = .ok (.isub, 1) := by decide +kernel
theorem dX12_undo_21 : decode cX12_undo 21 = .ok (.putfield 420, 3) := by decide +kernel
theorem dX12_undo_24 : decode cX12_undo 24 = .ok (.aload_n 0, 1) := by decide +kernel
theorem dX12_undo_25 : decode cX12_undo 25 = .ok (.iconst 5, 1) := by decide +kernel
theorem dX12_undo_26 : decode cX12_undo 26 = .ok (.aload_n 0, 1) := by decide +kernel
theorem dX12_undo_27 : decode cX12_undo 27 = .ok (.getfield 420, 3) := by decide +kernel
theorem dX12_undo_30 : decode cX12_undo 30 = .ok (.iadd, 1) := by decide +kernel
theorem dX12_undo_31 : decode cX12_undo 31 = .ok (.iconst 0, 1) := by decide +kernel
theorem dX12_undo_32 : decode cX12_undo 32 = .ok (.invokevirtual 423, 3) := by decide +kernel
theorem dX12_undo_35 : decode cX12_undo 35 = .ok (.iconst 1, 1) := by decide +kernel
theorem dX12_undo_36 : decode cX12_undo 36 = .ok (.ireturn, 1) := by decide +kernel
noncomputable def F_X12_undo (a0 : Nat) (M : m_M) : Option (Int32 × m_M) :=
  x_pI 10 M a0 0 (0 : Int32) fun M1 =>
  x_gI 10 M1 a0 52 fun v1 =>
  if v1 = 0 then (
    some ((0 : Int32), M1)
  ) else
  x_gI 10 M1 a0 52 fun v2 =>
  x_pI 10 M1 a0 52 (v2 - (1 : Int32)) fun M2 =>
  x_gI 10 M2 a0 52 fun v3 =>
  x_cV 10 M2 a0 (F_X12_laysTold a0 ((5 : Int32) + v3) (0 : Int32) M2) fun _ M3 =>
  some ((1 : Int32), M3)
set_option maxHeartbeats 4000000 in
theorem K_X12_undo (a0 : Nat) (M : m_M) (Φ : Option Value → m_M → Prop) (h : m_ok e_I Φ (F_X12_undo a0 M)) : j_Ct yX12_undo cX12_undo 1 (some .boolean) 3 0 0 [.ref a0] M Φ := by
  refine j_Ct.of (by decide +kernel) (Nat.le_of_ble_eq_true rfl) fun X C => ?_
  have C0 := C.1
  show j_J X 1 0 [some (.ref a0)] [] (0, 0) M
  unfold F_X12_undo at h
  refine j_aload_n C0 (pc := 0) dX12_undo_0 rfl ?_
  refine j_iconst C0 (pc := 1) dX12_undo_1 (v := (0 : Int32)) (by decide) ?_
  refine X_pI C0 (pc := 2) f_OM_163_10 rfl rfl dX12_undo_2 h (fun M1 h => ?_)
  refine j_aload_n C0 (pc := 5) dX12_undo_5 rfl ?_
  refine X_gI C0 (pc := 6) f_OM_420_10 rfl dX12_undo_6 h (fun v1 h => ?_)
  refine j_if_ne C0 (pc := 9) (tgt := 14) dX12_undo_9 (by decide) (fun hc => ?_) (fun hc => ?_)
  · replace h := (X_if h).2 hc
    refine j_aload_n C0 (pc := 14) dX12_undo_14 rfl ?_
    refine j_dup C0 (pc := 15) dX12_undo_15 rfl ?_
    refine X_gI C0 (pc := 16) f_OM_420_10 rfl dX12_undo_16 h (fun v2 h => ?_)
    refine j_iconst C0 (pc := 19) dX12_undo_19 (v := (1 : Int32)) (by decide) ?_
    refine j_isub C0 (pc := 20) dX12_undo_20 ?_
    refine X_pI C0 (pc := 21) f_OM_420_10 rfl rfl dX12_undo_21 h (fun M2 h => ?_)
    refine j_aload_n C0 (pc := 24) dX12_undo_24 rfl ?_
    refine j_iconst C0 (pc := 25) dX12_undo_25 (v := (5 : Int32)) (by decide) ?_
    refine j_aload_n C0 (pc := 26) dX12_undo_26 rfl ?_
    refine X_gI C0 (pc := 27) f_OM_420_10 rfl dX12_undo_27 h (fun v3 h => ?_)
    refine j_iadd C0 (pc := 30) dX12_undo_30 ?_
    refine j_iconst C0 (pc := 31) dX12_undo_31 (v := (0 : Int32)) (by decide) ?_
    refine X_cV C0 (pc := 32) (e' := e_V) (as := [.int ((5 : Int32) + v3), .int (0 : Int32)]) (rest := []) (s' := fun _ => []) (g' := (0, 0)) v_OM_423_10 (fun Ψ hΨ => K_X12_laysTold a0 ((5 : Int32) + v3) (0 : Int32) M2 Ψ hΨ) rfl rfl (fun _ => rfl) (by decide) (by decide) rfl (Nat.le_of_ble_eq_true rfl) dX12_undo_32 h (fun _ M3 h => ?_)
    refine j_iconst C0 (pc := 35) dX12_undo_35 (v := (1 : Int32)) (by decide) ?_
    exact j_zret C rfl (by decide) h dX12_undo_36 (by decide)
  · replace h := (X_if h).1 hc
    refine j_iconst C0 (pc := 12) dX12_undo_12 (v := (0 : Int32)) (by decide) ?_
    exact j_zret C rfl (by decide) h dX12_undo_13 (by decide)
theorem dX12_unsay_0 : decode cX12_unsay 0 = .ok (.aload_n 0, 1) := by decide +kernel
theorem dX12_unsay_1 : decode cX12_unsay 1 = .ok (.iconst 0, 1) := by decide +kernel
theorem dX12_unsay_2 : decode cX12_unsay 2 = .ok (.putfield 163, 3) := by decide +kernel
theorem dX12_unsay_5 : decode cX12_unsay 5 = .ok (.iload_n 1, 1) := by decide +kernel
theorem dX12_unsay_6 : decode cX12_unsay 6 = .ok (.ifCond .lt 13, 3) := by decide +kernel
theorem dX12_unsay_9 : decode cX12_unsay 9 = .ok (.iload_n 1, 1) := by decide +kernel
theorem dX12_unsay_10 : decode cX12_unsay 10 = .ok (.aload_n 0, 1) := by decide +kernel
theorem dX12_unsay_11 : decode cX12_unsay 11 = .ok (.getfield 108, 3) := by decide +kernel
theorem dX12_unsay_14 : decode cX12_unsay 14 = .ok (.iconst 0, 1) := by decide +kernel
theorem dX12_unsay_15 : decode cX12_unsay 15 = .ok (.iaload, 1) := by decide +kernel
theorem dX12_unsay_16 : decode cX12_unsay 16 = .ok (.if_icmp .lt 5, 3) := by decide +kernel
theorem dX12_unsay_19 : decode cX12_unsay 19 = .ok (.iconst 0, 1) := by decide +kernel
theorem dX12_unsay_20 : decode cX12_unsay 20 = .ok (.ireturn, 1) := by decide +kernel
theorem dX12_unsay_21 : decode cX12_unsay 21 = .ok (.aload_n 0, 1) := by decide +kernel
theorem dX12_unsay_22 : decode cX12_unsay 22 = .ok (.invokevirtual 442, 3) := by decide +kernel
theorem dX12_unsay_25 : decode cX12_unsay 25 = .ok (.bipush 16, 2) := by decide +kernel
theorem dX12_unsay_27 : decode cX12_unsay 27 = .ok (.iload_n 1, 1) := by decide +kernel
theorem dX12_unsay_28 : decode cX12_unsay 28 = .ok (.imul, 1) := by decide +kernel
theorem dX12_unsay_29 : decode cX12_unsay 29 = .ok (.istore_n 2, 1) := by decide +kernel
theorem dX12_unsay_30 : decode cX12_unsay 30 = .ok (.iload_n 2, 1) := by decide +kernel
theorem dX12_unsay_31 : decode cX12_unsay 31 = .ok (.bipush 16, 2) := by decide +kernel
theorem dX12_unsay_33 : decode cX12_unsay 33 = .ok (.iadd, 1) := by decide +kernel
theorem dX12_unsay_34 : decode cX12_unsay 34 = .ok (.sipush 192, 3) := by decide +kernel
theorem dX12_unsay_37 : decode cX12_unsay 37 = .ok (.if_icmp .ge 24, 3) := by decide +kernel
theorem dX12_unsay_40 : decode cX12_unsay 40 = .ok (.aload_n 0, 1) := by decide +kernel
theorem dX12_unsay_41 : decode cX12_unsay 41 = .ok (.getfield 93, 3) := by decide +kernel
theorem dX12_unsay_44 : decode cX12_unsay 44 = .ok (.iload_n 2, 1) := by decide +kernel
theorem dX12_unsay_45 : decode cX12_unsay 45 = .ok (.aload_n 0, 1) := by decide +kernel
theorem dX12_unsay_46 : decode cX12_unsay 46 = .ok (.getfield 93, 3) := by decide +kernel
theorem dX12_unsay_49 : decode cX12_unsay 49 = .ok (.iload_n 2, 1) := by decide +kernel
theorem dX12_unsay_50 : decode cX12_unsay 50 = .ok (.bipush 16, 2) := by decide +kernel
theorem dX12_unsay_52 : decode cX12_unsay 52 = .ok (.iadd, 1) := by decide +kernel
theorem dX12_unsay_53 : decode cX12_unsay 53 = .ok (.laload, 1) := by decide +kernel
theorem dX12_unsay_54 : decode cX12_unsay 54 = .ok (.lastore, 1) := by decide +kernel
theorem dX12_unsay_55 : decode cX12_unsay 55 = .ok (.iinc 2 1, 3) := by decide +kernel
theorem dX12_unsay_58 : decode cX12_unsay 58 = .ok (.goto (-28), 3) := by decide +kernel
theorem dX12_unsay_61 : decode cX12_unsay 61 = .ok (.iload_n 1, 1) := by decide +kernel
theorem dX12_unsay_62 : decode cX12_unsay 62 = .ok (.istore_n 2, 1) := by decide +kernel
theorem dX12_unsay_63 : decode cX12_unsay 63 = .ok (.iload_n 2, 1) := by decide +kernel
theorem dX12_unsay_64 : decode cX12_unsay 64 = .ok (.bipush 11, 2) := by decide +kernel
theorem dX12_unsay_66 : decode cX12_unsay 66 = .ok (.if_icmp .ge 23, 3) := by decide +kernel
theorem dX12_unsay_69 : decode cX12_unsay 69 = .ok (.aload_n 0, 1) := by decide +kernel
theorem dX12_unsay_70 : decode cX12_unsay 70 = .ok (.getfield 96, 3) := by decide +kernel
theorem dX12_unsay_73 : decode cX12_unsay 73 = .ok (.iload_n 2, 1) := by decide +kernel
theorem dX12_unsay_74 : decode cX12_unsay 74 = .ok (.aload_n 0, 1) := by decide +kernel
theorem dX12_unsay_75 : decode cX12_unsay 75 = .ok (.getfield 96, 3) := by decide +kernel
theorem dX12_unsay_78 : decode cX12_unsay 78 = .ok (.iload_n 2, 1) := by decide +kernel
theorem dX12_unsay_79 : decode cX12_unsay 79 = .ok (.iconst 1, 1) := by decide +kernel
theorem dX12_unsay_80 : decode cX12_unsay 80 = .ok (.iadd, 1) := by decide +kernel
theorem dX12_unsay_81 : decode cX12_unsay 81 = .ok (.iaload, 1) := by decide +kernel
theorem dX12_unsay_82 : decode cX12_unsay 82 = .ok (.iastore, 1) := by decide +kernel
theorem dX12_unsay_83 : decode cX12_unsay 83 = .ok (.iinc 2 1, 3) := by decide +kernel
theorem dX12_unsay_86 : decode cX12_unsay 86 = .ok (.goto (-23), 3) := by decide +kernel
theorem dX12_unsay_89 : decode cX12_unsay 89 = .ok (.aload_n 0, 1) := by decide +kernel
theorem dX12_unsay_90 : decode cX12_unsay 90 = .ok (.getfield 108, 3) := by decide +kernel
theorem dX12_unsay_93 : decode cX12_unsay 93 = .ok (.iconst 0, 1) := by decide +kernel
theorem dX12_unsay_94 : decode cX12_unsay 94 = .ok (.dup2, 1) := by decide +kernel
theorem dX12_unsay_95 : decode cX12_unsay 95 = .ok (.iaload, 1) := by decide +kernel
theorem dX12_unsay_96 : decode cX12_unsay 96 = .ok (.iconst 1, 1) := by decide +kernel
theorem dX12_unsay_97 : decode cX12_unsay 97 = .ok (.isub, 1) := by decide +kernel
theorem dX12_unsay_98 : decode cX12_unsay 98 = .ok (.iastore, 1) := by decide +kernel
theorem dX12_unsay_99 : decode cX12_unsay 99 = .ok (.iconst 1, 1) := by decide +kernel
theorem dX12_unsay_100 : decode cX12_unsay 100 = .ok (.ireturn, 1) := by decide +kernel
noncomputable def F_X12_unsay_63 (k89 : Nat → m_M → Option (Int32 × m_M)) : Nat → Nat → Int32 → m_M → Option (Int32 × m_M)
  | 0, _, _, _ => none
  | n + 1, v1, v2, M =>
    if (11 : Int32) ≤ v2 then (
      k89 v1 M
    ) else
    x_gN 10 M v1 47 fun v3 =>
    x_gN 10 M v1 47 fun v4 =>
    x_aI 12 M v4 (v2 + (1 : Int32)) fun v5 =>
    x_sI 12 M v3 v2 v5 fun M1 =>
    m_let (v2 + (1 : Int32)) fun v6 =>
    F_X12_unsay_63 k89 n v1 v6 M1
noncomputable def F_X12_unsay_30 (k61 : Nat → Int32 → m_M → Option (Int32 × m_M)) : Nat → Nat → Int32 → Int32 → m_M → Option (Int32 × m_M)
  | 0, _, _, _, _ => none
  | n + 1, v1, v2, v3, M =>
    if (192 : Int32) ≤ (v3 + (16 : Int32)) then (
      k61 v1 v2 M
    ) else
    x_gN 10 M v1 46 fun v4 =>
    x_gN 10 M v1 46 fun v5 =>
    x_aL M v5 (v3 + (16 : Int32)) fun v6 =>
    x_sL M v4 v3 v6 fun M1 =>
    m_let (v3 + (1 : Int32)) fun v7 =>
    F_X12_unsay_30 k61 n v1 v2 v7 M1
noncomputable def F_X12_unsay (a0 : Nat) (a1 : Int32) (M : m_M) : Option (Int32 × m_M) :=
  x_pI 10 M a0 0 (0 : Int32) fun M1 =>
  if a1 < 0 then (
    some ((0 : Int32), M1)
  ) else
  x_gN 10 M1 a0 51 fun v1 =>
  x_aI 12 M1 v1 (0 : Int32) fun v2 =>
  if a1 < v2 then (
    x_cV 10 M1 a0 (F_X12_keeps a0 M1) fun _ M2 =>
    m_let ((16 : Int32) * a1) fun v3 =>
    m_let (fun (v4 : Nat) (v5 : Int32) (M3 : m_M) =>
      m_let (fun (v6 : Nat) (M4 : m_M) =>
        x_gN 10 M4 v6 51 fun v7 =>
        x_aI 12 M4 v7 (0 : Int32) fun v8 =>
        x_sI 12 M4 v7 (0 : Int32) (v8 - (1 : Int32)) fun M5 =>
        some ((1 : Int32), M5)
      ) fun (k89 : Nat → m_M → Option (Int32 × m_M)) =>
      F_X12_unsay_63 k89 m_FU v4 v5 M3
    ) fun (k61 : Nat → Int32 → m_M → Option (Int32 × m_M)) =>
    F_X12_unsay_30 k61 m_FU a0 a1 v3 M2
  ) else
  some ((0 : Int32), M1)
set_option maxHeartbeats 4000000 in
theorem L_X12_unsay_63 {X : j_X} {Φ : Option Value → m_M → Prop} (C : j_C X yX12_unsay cX12_unsay 3 (some .boolean) 4 0 0 Φ) {k89 : Nat → m_M → Option (Int32 × m_M)} (hk89 : ∀ (p0 : Nat) (M : m_M), m_ok e_I Φ (k89 p0 M) → j_J X 3 89 [some (.ref p0), none, none] [] (0, 0) M) : ∀ (n : Nat) (v1 : Nat) (v2 : Int32) (M : m_M), m_ok e_I Φ (F_X12_unsay_63 k89 n v1 v2 M) → j_J X 3 63 [some (.ref v1), none, some (.int v2)] [] (0, 0) M := by
  have C0 := C.1
  intro n
  induction n with
  | zero => intro v1 v2 M h; exact False.elim h
  | succ n ih =>
    intro v1 v2 M h
    rw [F_X12_unsay_63] at h
    refine j_iload_n C0 (pc := 63) dX12_unsay_63 rfl ?_
    refine j_bipush C0 (pc := 64) dX12_unsay_64 (v := (11 : Int32)) (by decide) ?_
    refine j_icmp_ge C0 (pc := 66) (tgt := 89) dX12_unsay_66 (by decide) (fun hc => ?_) (fun hc => ?_)
    · replace h := (X_if h).1 hc
      exact j_J.wq (hk89 v1 M h) (And.intro rfl (trivial))
    · replace h := (X_if h).2 hc
      refine j_aload_n C0 (pc := 69) dX12_unsay_69 rfl ?_
      refine X_gN C0 (pc := 70) f_OM_96_10 rfl dX12_unsay_70 h (fun v3 h => ?_)
      refine j_iload_n C0 (pc := 73) dX12_unsay_73 rfl ?_
      refine j_aload_n C0 (pc := 74) dX12_unsay_74 rfl ?_
      refine X_gN C0 (pc := 75) f_OM_96_10 rfl dX12_unsay_75 h (fun v4 h => ?_)
      refine j_iload_n C0 (pc := 78) dX12_unsay_78 rfl ?_
      refine j_iconst C0 (pc := 79) dX12_unsay_79 (v := (1 : Int32)) (by decide) ?_
      refine j_iadd C0 (pc := 80) dX12_unsay_80 ?_
      refine X_iald C0 (pc := 81) dX12_unsay_81 h (fun v5 h => ?_)
      refine X_iast C0 (pc := 82) dX12_unsay_82 h (fun M1 h => ?_)
      refine j_iinc C0 (pc := 83) dX12_unsay_83 (v := v2 + (1 : Int32)) rfl (Nat.le_of_ble_eq_true rfl) (by rfl) ?_
      refine X_let (G := fun w => j_J X 3 86 [some (.ref v1), none, some (.int w)] [] (0, 0) M1) h (fun v6 h => ?_)
      refine j_goto C0 (pc := 86) (tgt := 63) dX12_unsay_86 (by decide) ?_
      exact j_J.wq (ih v1 v6 M1 h) (And.intro rfl (And.intro rfl (trivial)))
set_option maxHeartbeats 4000000 in
theorem L_X12_unsay_30 {X : j_X} {Φ : Option Value → m_M → Prop} (C : j_C X yX12_unsay cX12_unsay 3 (some .boolean) 4 0 0 Φ) {k61 : Nat → Int32 → m_M → Option (Int32 × m_M)} (hk61 : ∀ (p0 : Nat) (p1 : Int32) (M : m_M), m_ok e_I Φ (k61 p0 p1 M) → j_J X 3 61 [some (.ref p0), some (.int p1), none] [] (0, 0) M) : ∀ (n : Nat) (v1 : Nat) (v2 : Int32) (v3 : Int32) (M : m_M), m_ok e_I Φ (F_X12_unsay_30 k61 n v1 v2 v3 M) → j_J X 3 30 [some (.ref v1), some (.int v2), some (.int v3)] [] (0, 0) M := by
  have C0 := C.1
  intro n
  induction n with
  | zero => intro v1 v2 v3 M h; exact False.elim h
  | succ n ih =>
    intro v1 v2 v3 M h
    rw [F_X12_unsay_30] at h
    refine j_iload_n C0 (pc := 30) dX12_unsay_30 rfl ?_
    refine j_bipush C0 (pc := 31) dX12_unsay_31 (v := (16 : Int32)) (by decide) ?_
    refine j_iadd C0 (pc := 33) dX12_unsay_33 ?_
    refine j_sipush C0 (pc := 34) dX12_unsay_34 (v := (192 : Int32)) (by decide) ?_
    refine j_icmp_ge C0 (pc := 37) (tgt := 61) dX12_unsay_37 (by decide) (fun hc => ?_) (fun hc => ?_)
    · replace h := (X_if h).1 hc
      exact j_J.wq (hk61 v1 v2 M h) (And.intro rfl (And.intro rfl (trivial)))
    · replace h := (X_if h).2 hc
      refine j_aload_n C0 (pc := 40) dX12_unsay_40 rfl ?_
      refine X_gN C0 (pc := 41) f_OM_93_10 rfl dX12_unsay_41 h (fun v4 h => ?_)
      refine j_iload_n C0 (pc := 44) dX12_unsay_44 rfl ?_
      refine j_aload_n C0 (pc := 45) dX12_unsay_45 rfl ?_
      refine X_gN C0 (pc := 46) f_OM_93_10 rfl dX12_unsay_46 h (fun v5 h => ?_)
      refine j_iload_n C0 (pc := 49) dX12_unsay_49 rfl ?_
      refine j_bipush C0 (pc := 50) dX12_unsay_50 (v := (16 : Int32)) (by decide) ?_
      refine j_iadd C0 (pc := 52) dX12_unsay_52 ?_
      refine X_lald C0 (pc := 53) dX12_unsay_53 h (fun v6 h => ?_)
      refine X_last C0 (pc := 54) dX12_unsay_54 h (fun M1 h => ?_)
      refine j_iinc C0 (pc := 55) dX12_unsay_55 (v := v3 + (1 : Int32)) rfl (Nat.le_of_ble_eq_true rfl) (by rfl) ?_
      refine X_let (G := fun w => j_J X 3 58 [some (.ref v1), some (.int v2), some (.int w)] [] (0, 0) M1) h (fun v7 h => ?_)
      refine j_goto C0 (pc := 58) (tgt := 30) dX12_unsay_58 (by decide) ?_
      exact j_J.wq (ih v1 v2 v7 M1 h) (And.intro rfl (And.intro rfl (And.intro rfl (trivial))))
set_option maxHeartbeats 4000000 in
theorem K_X12_unsay (a0 : Nat) (a1 : Int32) (M : m_M) (Φ : Option Value → m_M → Prop) (h : m_ok e_I Φ (F_X12_unsay a0 a1 M)) : j_Ct yX12_unsay cX12_unsay 3 (some .boolean) 4 0 0 [.ref a0, .int a1] M Φ := by
  refine j_Ct.of (by decide +kernel) (Nat.le_of_ble_eq_true rfl) fun X C => ?_
  have C0 := C.1
  show j_J X 3 0 [some (.ref a0), some (.int a1), none] [] (0, 0) M
  unfold F_X12_unsay at h
  refine j_aload_n C0 (pc := 0) dX12_unsay_0 rfl ?_
  refine j_iconst C0 (pc := 1) dX12_unsay_1 (v := (0 : Int32)) (by decide) ?_
  refine X_pI C0 (pc := 2) f_OM_163_10 rfl rfl dX12_unsay_2 h (fun M1 h => ?_)
  refine j_iload_n C0 (pc := 5) dX12_unsay_5 rfl ?_
  refine j_if_lt C0 (pc := 6) (tgt := 19) dX12_unsay_6 (by decide) (fun hc => ?_) (fun hc => ?_)
  · replace h := (X_if h).1 hc
    refine j_iconst C0 (pc := 19) dX12_unsay_19 (v := (0 : Int32)) (by decide) ?_
    exact j_zret C rfl (by decide) h dX12_unsay_20 (by decide)
  · replace h := (X_if h).2 hc
    refine j_iload_n C0 (pc := 9) dX12_unsay_9 rfl ?_
    refine j_aload_n C0 (pc := 10) dX12_unsay_10 rfl ?_
    refine X_gN C0 (pc := 11) f_OM_108_10 rfl dX12_unsay_11 h (fun v1 h => ?_)
    refine j_iconst C0 (pc := 14) dX12_unsay_14 (v := (0 : Int32)) (by decide) ?_
    refine X_iald C0 (pc := 15) dX12_unsay_15 h (fun v2 h => ?_)
    refine j_icmp_lt C0 (pc := 16) (tgt := 21) dX12_unsay_16 (by decide) (fun hc => ?_) (fun hc => ?_)
    · replace h := (X_if h).1 hc
      refine j_aload_n C0 (pc := 21) dX12_unsay_21 rfl ?_
      refine X_cV C0 (pc := 22) (e' := e_V) (as := []) (rest := []) (s' := fun _ => []) (g' := (0, 0)) v_OM_442_10 (fun Ψ hΨ => K_X12_keeps a0 M1 Ψ hΨ) rfl rfl (fun _ => rfl) (by decide) (by decide) rfl (Nat.le_of_ble_eq_true rfl) dX12_unsay_22 h (fun _ M2 h => ?_)
      refine j_bipush C0 (pc := 25) dX12_unsay_25 (v := (16 : Int32)) (by decide) ?_
      refine j_iload_n C0 (pc := 27) dX12_unsay_27 rfl ?_
      refine j_imul C0 (pc := 28) dX12_unsay_28 ?_
      refine X_let (G := fun w => j_J X 3 29 [some (.ref a0), some (.int a1), none] (.int w :: []) (0, 0) M2) h (fun v3 h => ?_)
      refine j_istore_n C0 (pc := 29) dX12_unsay_29 (Nat.le_of_ble_eq_true rfl) ?_
      show j_J X 3 30 [some (.ref a0), some (.int a1), some (.int v3)] [] (0, 0) M2
      refine X_join (fun (kj : Nat → Int32 → m_M → Option (Int32 × m_M)) => ∀ (p0 : Nat) (p1 : Int32) (M : m_M), m_ok e_I Φ (kj p0 p1 M) → j_J X 3 61 [some (.ref p0), some (.int p1), none] [] (0, 0) M) h (fun v4 v5 M3 h => ?_) (fun k61 hk61 h => ?_)
      · refine j_iload_n C0 (pc := 61) dX12_unsay_61 rfl ?_
        refine j_istore_n C0 (pc := 62) dX12_unsay_62 (Nat.le_of_ble_eq_true rfl) ?_
        show j_J X 3 63 [some (.ref v4), some (.int v5), some (.int v5)] [] (0, 0) M3
        refine X_join (fun (kj : Nat → m_M → Option (Int32 × m_M)) => ∀ (p0 : Nat) (M : m_M), m_ok e_I Φ (kj p0 M) → j_J X 3 89 [some (.ref p0), none, none] [] (0, 0) M) h (fun v6 M4 h => ?_) (fun k89 hk89 h => ?_)
        · refine j_aload_n C0 (pc := 89) dX12_unsay_89 rfl ?_
          refine X_gN C0 (pc := 90) f_OM_108_10 rfl dX12_unsay_90 h (fun v7 h => ?_)
          refine j_iconst C0 (pc := 93) dX12_unsay_93 (v := (0 : Int32)) (by decide) ?_
          refine j_dup2 C0 (pc := 94) dX12_unsay_94 rfl rfl ?_
          refine X_iald C0 (pc := 95) dX12_unsay_95 h (fun v8 h => ?_)
          refine j_iconst C0 (pc := 96) dX12_unsay_96 (v := (1 : Int32)) (by decide) ?_
          refine j_isub C0 (pc := 97) dX12_unsay_97 ?_
          refine X_iast C0 (pc := 98) dX12_unsay_98 h (fun M5 h => ?_)
          refine j_iconst C0 (pc := 99) dX12_unsay_99 (v := (1 : Int32)) (by decide) ?_
          exact j_zret C rfl (by decide) h dX12_unsay_100 (by decide)
        · exact j_J.wq (L_X12_unsay_63 C hk89 m_FU v4 v5 M3 h) (And.intro rfl (And.intro rfl (trivial)))
      · exact j_J.wq (L_X12_unsay_30 C hk61 m_FU a0 a1 v3 M2 h) (And.intro rfl (And.intro rfl (And.intro rfl (trivial))))
    · replace h := (X_if h).2 hc
      refine j_iconst C0 (pc := 19) dX12_unsay_19 (v := (0 : Int32)) (by decide) ?_
      exact j_zret C rfl (by decide) h dX12_unsay_20 (by decide)
