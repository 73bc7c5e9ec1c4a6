theorem dX12_isClause_0 : decode cX12_isClause 0 = .ok (.iload_n 1, 1) := by decide +kernel
theorem dX12_isClause_1 : decode cX12_isClause 1 = .ok (.ifCond .lt 36, 3) := by decide +kernel
theorem dX12_isClause_4 : decode cX12_isClause 4 = .ok (.iload_n 1, 1) := by decide +kernel
theorem dX12_isClause_5 : decode cX12_isClause 5 = .ok (.sipush 400, 3) := by decide +kernel
theorem dX12_isClause_8 : decode cX12_isClause 8 = .ok (.if_icmp .ge 29, 3) := by decide +kernel
theorem dX12_isClause_11 : decode cX12_isClause 11 = .ok (.aload_n 0, 1) := by decide +kernel
theorem dX12_isClause_12 : decode cX12_isClause 12 = .ok (.iload_n 1, 1) := by decide +kernel
theorem dX12_isClause_13 : decode cX12_isClause 13 = .ok (.bipush 20, 2) := by decide +kernel
theorem dX12_isClause_15 : decode cX12_isClause 15 = .ok (.idiv, 1) := by decide +kernel
theorem dX12_isClause_16 : decode cX12_isClause 16 = .ok (.invokevirtual 469, 3) := by decide +kernel
theorem dX12_isClause_19 : decode cX12_isClause 19 = .ok (.ifCond .eq 18, 3) := by decide +kernel
theorem dX12_isClause_22 : decode cX12_isClause 22 = .ok (.aload_n 0, 1) := by decide +kernel
theorem dX12_isClause_23 : decode cX12_isClause 23 = .ok (.iload_n 1, 1) := by decide +kernel
theorem dX12_isClause_24 : decode cX12_isClause 24 = .ok (.bipush 20, 2) := by decide +kernel
theorem dX12_isClause_26 : decode cX12_isClause 26 = .ok (.irem, 1) := by decide +kernel
theorem dX12_isClause_27 : decode cX12_isClause 27 = .ok (.invokevirtual 469, 3) := by decide +kernel
theorem dX12_isClause_30 : decode cX12_isClause 30 = .ok (.ifCond .eq 7, 3) := by decide +kernel
theorem dX12_isClause_33 : decode cX12_isClause 33 = .ok (.iconst 1, 1) := by decide +kernel
theorem dX12_isClause_34 : decode cX12_isClause 34 = .ok (.goto 4, 3) := by decide +kernel
theorem dX12_isClause_37 : decode cX12_isClause 37 = .ok (.iconst 0, 1) := by decide +kernel
theorem dX12_isClause_38 : decode cX12_isClause 38 = .ok (.ireturn, 1) := by decide +kernel
noncomputable def F_X12_isClause (a0 : Nat) (a1 : Int32) (M : m_M) : Option (Int32 × m_M) :=
  m_let (fun  (M1 : m_M) =>
    some ((0 : Int32), M1)
  ) fun (k37 : m_M → Option (Int32 × m_M)) =>
  if a1 < 0 then (
    k37 M
  ) else
  if (400 : Int32) ≤ a1 then (
    k37 M
  ) else
  x_nz (20 : Int32) <|
  x_cV 10 M a0 (F_X12_isNoun a0 (a1 / (20 : Int32)) M) fun v1 M2 =>
  if v1 = 0 then (
    k37 M2
  ) else
  x_nz (20 : Int32) <|
  x_cV 10 M2 a0 (F_X12_isNoun a0 (a1 - a1 / (20 : Int32) * (20 : Int32)) M2) fun v2 M3 =>
  if v2 = 0 then (
    k37 M3
  ) else
  some ((1 : Int32), M3)
set_option maxHeartbeats 4000000 in
theorem K_X12_isClause (a0 : Nat) (a1 : Int32) (M : m_M) (Φ : Option Value → m_M → Prop) (h : m_ok e_I Φ (F_X12_isClause a0 a1 M)) : j_Ct yX12_isClause cX12_isClause 2 (some .boolean) 2 0 0 [.ref a0, .int a1] M Φ := by
  refine j_Ct.of (by decide +kernel) (Nat.le_of_ble_eq_true rfl) fun X C => ?_
  have C0 := C.1
  show j_J X 2 0 [some (.ref a0), some (.int a1)] [] (0, 0) M
  unfold F_X12_isClause at h
  refine X_join (fun (kj : m_M → Option (Int32 × m_M)) => ∀  (M : m_M), m_ok e_I Φ (kj M) → j_J X 2 37 [none, none] [] (0, 0) M) h (fun M1 h => ?_) (fun k37 hk37 h => ?_)
  · refine j_iconst C0 (pc := 37) dX12_isClause_37 (v := (0 : Int32)) (by decide) ?_
    exact j_zret C rfl (by decide) h dX12_isClause_38 (by decide)
  · refine j_iload_n C0 (pc := 0) dX12_isClause_0 rfl ?_
    refine j_if_lt C0 (pc := 1) (tgt := 37) dX12_isClause_1 (by decide) (fun hc => ?_) (fun hc => ?_)
    · replace h := (X_if h).1 hc
      exact j_J.wq (hk37 M h) (trivial)
    · replace h := (X_if h).2 hc
      refine j_iload_n C0 (pc := 4) dX12_isClause_4 rfl ?_
      refine j_sipush C0 (pc := 5) dX12_isClause_5 (v := (400 : Int32)) (by decide) ?_
      refine j_icmp_ge C0 (pc := 8) (tgt := 37) dX12_isClause_8 (by decide) (fun hc => ?_) (fun hc => ?_)
      · replace h := (X_if h).1 hc
        exact j_J.wq (hk37 M h) (trivial)
      · replace h := (X_if h).2 hc
        refine j_aload_n C0 (pc := 11) dX12_isClause_11 rfl ?_
        refine j_iload_n C0 (pc := 12) dX12_isClause_12 rfl ?_
        refine j_bipush C0 (pc := 13) dX12_isClause_13 (v := (20 : Int32)) (by decide) ?_
        refine X_idiv C0 (pc := 15) dX12_isClause_15 h (fun h => ?_)
        refine X_cV C0 (pc := 16) (e' := e_I) (as := [.int (a1 / (20 : Int32))]) (rest := []) (s' := fun w => .int w :: []) (g' := (0, 0)) v_OM_469_10 (fun Ψ hΨ => K_X12_isNoun a0 (a1 / (20 : Int32)) M Ψ hΨ) rfl rfl (fun _ => rfl) (by decide) (by decide) rfl (Nat.le_of_ble_eq_true rfl) dX12_isClause_16 h (fun v1 M2 h => ?_)
        refine j_if_eq C0 (pc := 19) (tgt := 37) dX12_isClause_19 (by decide) (fun hc => ?_) (fun hc => ?_)
        · replace h := (X_if h).1 hc
          exact j_J.wq (hk37 M2 h) (trivial)
        · replace h := (X_if h).2 hc
          refine j_aload_n C0 (pc := 22) dX12_isClause_22 rfl ?_
          refine j_iload_n C0 (pc := 23) dX12_isClause_23 rfl ?_
          refine j_bipush C0 (pc := 24) dX12_isClause_24 (v := (20 : Int32)) (by decide) ?_
          refine X_irem C0 (pc := 26) dX12_isClause_26 h (fun h => ?_)
          refine X_cV C0 (pc := 27) (e' := e_I) (as := [.int (a1 - a1 / (20 : Int32) * (20 : Int32))]) (rest := []) (s' := fun w => .int w :: []) (g' := (0, 0)) v_OM_469_10 (fun Ψ hΨ => K_X12_isNoun a0 (a1 - a1 / (20 : Int32) * (20 : Int32)) M2 Ψ hΨ) rfl rfl (fun _ => rfl) (by decide) (by decide) rfl (Nat.le_of_ble_eq_true rfl) dX12_isClause_27 h (fun v2 M3 h => ?_)
          refine j_if_eq C0 (pc := 30) (tgt := 37) dX12_isClause_30 (by decide) (fun hc => ?_) (fun hc => ?_)
          · replace h := (X_if h).1 hc
            exact j_J.wq (hk37 M3 h) (trivial)
          · replace h := (X_if h).2 hc
            refine j_iconst C0 (pc := 33) dX12_isClause_33 (v := (1 : Int32)) (by decide) ?_
            refine j_goto C0 (pc := 34) (tgt := 38) dX12_isClause_34 (by decide) ?_
            exact j_zret C rfl (by decide) h dX12_isClause_38 (by decide)
theorem dX12_laysLiterals_0 : decode cX12_laysLiterals 0 = .ok (.iconst 0, 1) := by decide +kernel
theorem dX12_laysLiterals_1 : decode cX12_laysLiterals 1 = .ok (.istore_n 3, 1) := by decide +kernel
theorem dX12_laysLiterals_2 : decode cX12_laysLiterals 2 = .ok (.iload_n 3, 1) := by decide +kernel
theorem dX12_laysLiterals_3 : decode cX12_laysLiterals 3 = .ok (.sipush 400, 3) := by decide +kernel
theorem dX12_laysLiterals_6 : decode cX12_laysLiterals 6 = .ok (.if_icmp .ge 149, 3) := by decide +kernel
theorem dX12_laysLiterals_9 : decode cX12_laysLiterals 9 = .ok (.aload_n 0, 1) := by decide +kernel
theorem dX12_laysLiterals_10 : decode cX12_laysLiterals 10 = .ok (.iload_n 3, 1) := by decide +kernel
theorem dX12_laysLiterals_11 : decode cX12_laysLiterals 11 = .ok (.invokevirtual 475, 3) := by decide +kernel
theorem dX12_laysLiterals_14 : decode cX12_laysLiterals 14 = .ok (.ifCond .ne 6, 3) := by decide +kernel
theorem dX12_laysLiterals_17 : decode cX12_laysLiterals 17 = .ok (.goto 132, 3) := by decide +kernel
theorem dX12_laysLiterals_20 : decode cX12_laysLiterals 20 = .ok (.iconst 0, 1) := by decide +kernel
theorem dX12_laysLiterals_21 : decode cX12_laysLiterals 21 = .ok (.istore 4, 2) := by decide +kernel
theorem dX12_laysLiterals_23 : decode cX12_laysLiterals 23 = .ok (.iload 4, 2) := by decide +kernel
theorem dX12_laysLiterals_25 : decode cX12_laysLiterals 25 = .ok (.bipush 16, 2) := by decide +kernel
theorem dX12_laysLiterals_27 : decode cX12_laysLiterals 27 = .ok (.if_icmp .ge 19, 3) := by decide +kernel
theorem dX12_laysLiterals_30 : decode cX12_laysLiterals 30 = .ok (.aload_n 2, 1) := by decide +kernel
theorem dX12_laysLiterals_31 : decode cX12_laysLiterals 31 = .ok (.bipush 32, 2) := by decide +kernel
theorem dX12_laysLiterals_33 : decode cX12_laysLiterals 33 = .ok (.iload_n 3, 1) := by decide +kernel
theorem dX12_laysLiterals_34 : decode cX12_laysLiterals 34 = .ok (.imul, 1) := by decide +kernel
theorem dX12_laysLiterals_35 : decode cX12_laysLiterals 35 = .ok (.iload 4, 2) := by decide +kernel
theorem dX12_laysLiterals_37 : decode cX12_laysLiterals 37 = .ok (.iadd, 1) := by decide +kernel
theorem dX12_laysLiterals_38 : decode cX12_laysLiterals 38 = .ok (.lconst 0, 1) := by decide +kernel
theorem dX12_laysLiterals_39 : decode cX12_laysLiterals 39 = .ok (.lastore, 1) := by decide +kernel
theorem dX12_laysLiterals_40 : decode cX12_laysLiterals 40 = .ok (.iinc 4 1, 3) := by decide +kernel
theorem dX12_laysLiterals_43 : decode cX12_laysLiterals 43 = .ok (.goto (-20), 3) := by decide +kernel
theorem dX12_laysLiterals_46 : decode cX12_laysLiterals 46 = .ok (.iconst 0, 1) := by decide +kernel
theorem dX12_laysLiterals_47 : decode cX12_laysLiterals 47 = .ok (.istore 4, 2) := by decide +kernel
theorem dX12_laysLiterals_49 : decode cX12_laysLiterals 49 = .ok (.iload 4, 2) := by decide +kernel
theorem dX12_laysLiterals_51 : decode cX12_laysLiterals 51 = .ok (.aload_n 0, 1) := by decide +kernel
theorem dX12_laysLiterals_52 : decode cX12_laysLiterals 52 = .ok (.getfield 383, 3) := by decide +kernel
theorem dX12_laysLiterals_55 : decode cX12_laysLiterals 55 = .ok (.if_icmp .ge 46, 3) := by decide +kernel
theorem dX12_laysLiterals_58 : decode cX12_laysLiterals 58 = .ok (.aload_n 0, 1) := by decide +kernel
theorem dX12_laysLiterals_59 : decode cX12_laysLiterals 59 = .ok (.iload 4, 2) := by decide +kernel
theorem dX12_laysLiterals_61 : decode cX12_laysLiterals 61 = .ok (.invokevirtual 402, 3) := by decide +kernel
theorem dX12_laysLiterals_64 : decode cX12_laysLiterals 64 = .ok (.aload_n 0, 1) := by decide +kernel
theorem dX12_laysLiterals_65 : decode cX12_laysLiterals 65 = .ok (.iload_n 3, 1) := by decide +kernel
theorem dX12_laysLiterals_66 : decode cX12_laysLiterals 66 = .ok (.iload_n 1, 1) := by decide +kernel
theorem dX12_laysLiterals_67 : decode cX12_laysLiterals 67 = .ok (.invokevirtual 478, 3) := by decide +kernel
theorem dX12_laysLiterals_70 : decode cX12_laysLiterals 70 = .ok (.ifCond .eq 25, 3) := by decide +kernel
theorem dX12_laysLiterals_73 : decode cX12_laysLiterals 73 = .ok (.aload_n 2, 1) := by decide +kernel
theorem dX12_laysLiterals_74 : decode cX12_laysLiterals 74 = .ok (.bipush 32, 2) := by decide +kernel
theorem dX12_laysLiterals_76 : decode cX12_laysLiterals 76 = .ok (.iload_n 3, 1) := by decide +kernel
theorem dX12_laysLiterals_77 : decode cX12_laysLiterals 77 = .ok (.imul, 1) := by decide +kernel
theorem dX12_laysLiterals_78 : decode cX12_laysLiterals 78 = .ok (.iload 4, 2) := by decide +kernel
theorem dX12_laysLiterals_80 : decode cX12_laysLiterals 80 = .ok (.bipush 64, 2) := by decide +kernel
theorem dX12_laysLiterals_82 : decode cX12_laysLiterals 82 = .ok (.idiv, 1) := by decide +kernel
theorem dX12_laysLiterals_83 : decode cX12_laysLiterals 83 = .ok (.iadd, 1) := by decide +kernel
theorem dX12_laysLiterals_84 : decode cX12_laysLiterals 84 = .ok (.dup2, 1) := by decide +kernel
theorem dX12_laysLiterals_85 : decode cX12_laysLiterals 85 = .ok (.laload, 1) := by decide +kernel
theorem dX12_laysLiterals_86 : decode cX12_laysLiterals 86 = .ok (.lconst 1, 1) := by decide +kernel
theorem dX12_laysLiterals_87 : decode cX12_laysLiterals 87 = .ok (.iload 4, 2) := by decide +kernel
theorem dX12_laysLiterals_89 : decode cX12_laysLiterals 89 = .ok (.bipush 64, 2) := by decide +kernel
theorem dX12_laysLiterals_91 : decode cX12_laysLiterals 91 = .ok (.irem, 1) := by decide +kernel
theorem dX12_laysLiterals_92 : decode cX12_laysLiterals 92 = .ok (.lshl, 1) := by decide +kernel
theorem dX12_laysLiterals_93 : decode cX12_laysLiterals 93 = .ok (.lor, 1) := by decide +kernel
theorem dX12_laysLiterals_94 : decode cX12_laysLiterals 94 = .ok (.lastore, 1) := by decide +kernel
theorem dX12_laysLiterals_95 : decode cX12_laysLiterals 95 = .ok (.iinc 4 1, 3) := by decide +kernel
theorem dX12_laysLiterals_98 : decode cX12_laysLiterals 98 = .ok (.goto (-49), 3) := by decide +kernel
theorem dX12_laysLiterals_101 : decode cX12_laysLiterals 101 = .ok (.iconst 0, 1) := by decide +kernel
theorem dX12_laysLiterals_102 : decode cX12_laysLiterals 102 = .ok (.istore 4, 2) := by decide +kernel
theorem dX12_laysLiterals_104 : decode cX12_laysLiterals 104 = .ok (.iload 4, 2) := by decide +kernel
theorem dX12_laysLiterals_106 : decode cX12_laysLiterals 106 = .ok (.bipush 16, 2) := by decide +kernel
theorem dX12_laysLiterals_108 : decode cX12_laysLiterals 108 = .ok (.if_icmp .ge 41, 3) := by decide +kernel
theorem dX12_laysLiterals_111 : decode cX12_laysLiterals 111 = .ok (.aload_n 2, 1) := by decide +kernel
theorem dX12_laysLiterals_112 : decode cX12_laysLiterals 112 = .ok (.bipush 32, 2) := by decide +kernel
theorem dX12_laysLiterals_114 : decode cX12_laysLiterals 114 = .ok (.iload_n 3, 1) := by decide +kernel
theorem dX12_laysLiterals_115 : decode cX12_laysLiterals 115 = .ok (.imul, 1) := by decide +kernel
theorem dX12_laysLiterals_116 : decode cX12_laysLiterals 116 = .ok (.bipush 16, 2) := by decide +kernel
theorem dX12_laysLiterals_118 : decode cX12_laysLiterals 118 = .ok (.iadd, 1) := by decide +kernel
theorem dX12_laysLiterals_119 : decode cX12_laysLiterals 119 = .ok (.iload 4, 2) := by decide +kernel
theorem dX12_laysLiterals_121 : decode cX12_laysLiterals 121 = .ok (.iadd, 1) := by decide +kernel
theorem dX12_laysLiterals_122 : decode cX12_laysLiterals 122 = .ok (.aload_n 0, 1) := by decide +kernel
theorem dX12_laysLiterals_123 : decode cX12_laysLiterals 123 = .ok (.iload 4, 2) := by decide +kernel
theorem dX12_laysLiterals_125 : decode cX12_laysLiterals 125 = .ok (.invokevirtual 449, 3) := by decide +kernel
theorem dX12_laysLiterals_128 : decode cX12_laysLiterals 128 = .ok (.aload_n 2, 1) := by decide +kernel
theorem dX12_laysLiterals_129 : decode cX12_laysLiterals 129 = .ok (.bipush 32, 2) := by decide +kernel
theorem dX12_laysLiterals_131 : decode cX12_laysLiterals 131 = .ok (.iload_n 3, 1) := by decide +kernel
theorem dX12_laysLiterals_132 : decode cX12_laysLiterals 132 = .ok (.imul, 1) := by decide +kernel
theorem dX12_laysLiterals_133 : decode cX12_laysLiterals 133 = .ok (.iload 4, 2) := by decide +kernel
theorem dX12_laysLiterals_135 : decode cX12_laysLiterals 135 = .ok (.iadd, 1) := by decide +kernel
theorem dX12_laysLiterals_136 : decode cX12_laysLiterals 136 = .ok (.laload, 1) := by decide +kernel
theorem dX12_laysLiterals_137 : decode cX12_laysLiterals 137 = .ok (.ldc2_w 453, 3) := by decide +kernel
theorem dX12_laysLiterals_140 : decode cX12_laysLiterals 140 = .ok (.lxor, 1) := by decide +kernel
theorem dX12_laysLiterals_141 : decode cX12_laysLiterals 141 = .ok (.land, 1) := by decide +kernel
theorem dX12_laysLiterals_142 : decode cX12_laysLiterals 142 = .ok (.lastore, 1) := by decide +kernel
theorem dX12_laysLiterals_143 : decode cX12_laysLiterals 143 = .ok (.iinc 4 1, 3) := by decide +kernel
theorem dX12_laysLiterals_146 : decode cX12_laysLiterals 146 = .ok (.goto (-42), 3) := by decide +kernel
theorem dX12_laysLiterals_149 : decode cX12_laysLiterals 149 = .ok (.iinc 3 1, 3) := by decide +kernel
theorem dX12_laysLiterals_152 : decode cX12_laysLiterals 152 = .ok (.goto (-150), 3) := by decide +kernel
theorem dX12_laysLiterals_155 : decode cX12_laysLiterals 155 = .ok (.return_, 1) := by decide +kernel
noncomputable def F_X12_laysLiterals_104 (k149 : Nat → Int32 → Nat → Int32 → m_M → Option (Unit × m_M)) : Nat → Nat → Int32 → Nat → Int32 → Int32 → m_M → Option (Unit × m_M)
  | 0, _, _, _, _, _, _ => none
  | n + 1, v1, v2, v3, v4, v5, M =>
    if (16 : Int32) ≤ v5 then (
      k149 v1 v2 v3 v4 M
    ) else
    x_cV 10 M v1 (F_X12_allOf v1 v5 M) fun v6 M1 =>
    x_aL M1 v3 (((32 : Int32) * v4) + v5) fun v7 =>
    x_sL M1 v3 ((((32 : Int32) * v4) + (16 : Int32)) + v5) (v6 &&& (v7 ^^^ (-1 : Int64))) fun M2 =>
    m_let (v5 + (1 : Int32)) fun v8 =>
    F_X12_laysLiterals_104 k149 n v1 v2 v3 v4 v8 M2
noncomputable def F_X12_laysLiterals_49 (k101 : Nat → Int32 → Nat → Int32 → m_M → Option (Unit × m_M)) : Nat → Nat → Int32 → Nat → Int32 → Int32 → m_M → Option (Unit × m_M)
  | 0, _, _, _, _, _, _ => none
  | n + 1, v1, v2, v3, v4, v5, M =>
    x_gI 10 M v1 42 fun v6 =>
    if v6 ≤ v5 then (
      k101 v1 v2 v3 v4 M
    ) else
    m_let (fun (v7 : Nat) (v8 : Int32) (v9 : Nat) (v10 : Int32) (v11 : Int32) (M1 : m_M) =>
      m_let (v11 + (1 : Int32)) fun v12 =>
      F_X12_laysLiterals_49 k101 n v7 v8 v9 v10 v12 M1
    ) fun (k95 : Nat → Int32 → Nat → Int32 → Int32 → m_M → Option (Unit × m_M)) =>
    x_cV 10 M v1 (F_X12_shows v1 v5 M) fun _ M2 =>
    x_cV 10 M2 v1 (F_X12_clauseHolds v1 v4 v2 M2) fun v13 M3 =>
    if v13 = 0 then (
      k95 v1 v2 v3 v4 v5 M3
    ) else
    x_nz (64 : Int32) <|
    x_aL M3 v3 (((32 : Int32) * v4) + (v5 / (64 : Int32))) fun v14 =>
    x_nz (64 : Int32) <|
    x_sL M3 v3 (((32 : Int32) * v4) + (v5 / (64 : Int32))) (v14 ||| ((1 : Int64) <<< ((v5 - v5 / (64 : Int32) * (64 : Int32)).toInt64 &&& 63))) fun M4 =>
    k95 v1 v2 v3 v4 v5 M4
noncomputable def F_X12_laysLiterals_23 (k46 : Nat → Int32 → Nat → Int32 → m_M → Option (Unit × m_M)) : Nat → Nat → Int32 → Nat → Int32 → Int32 → m_M → Option (Unit × m_M)
  | 0, _, _, _, _, _, _ => none
  | n + 1, v1, v2, v3, v4, v5, M =>
    if (16 : Int32) ≤ v5 then (
      k46 v1 v2 v3 v4 M
    ) else
    x_sL M v3 (((32 : Int32) * v4) + v5) (0 : Int64) fun M1 =>
    m_let (v5 + (1 : Int32)) fun v6 =>
    F_X12_laysLiterals_23 k46 n v1 v2 v3 v4 v6 M1
noncomputable def F_X12_laysLiterals_2 : Nat → Nat → Int32 → Nat → Int32 → m_M → Option (Unit × m_M)
  | 0, _, _, _, _, _ => none
  | n + 1, v1, v2, v3, v4, M =>
    if (400 : Int32) ≤ v4 then (
      some ((), M)
    ) else
    m_let (fun (v5 : Nat) (v6 : Int32) (v7 : Nat) (v8 : Int32) (M1 : m_M) =>
      m_let (v8 + (1 : Int32)) fun v9 =>
      F_X12_laysLiterals_2 n v5 v6 v7 v9 M1
    ) fun (k149 : Nat → Int32 → Nat → Int32 → m_M → Option (Unit × m_M)) =>
    x_cV 10 M v1 (F_X12_isClause v1 v4 M) fun v10 M2 =>
    if v10 = 0 then (
      k149 v1 v2 v3 v4 M2
    ) else
    m_let (fun (v11 : Nat) (v12 : Int32) (v13 : Nat) (v14 : Int32) (M3 : m_M) =>
      m_let (fun (v15 : Nat) (v16 : Int32) (v17 : Nat) (v18 : Int32) (M4 : m_M) =>
        F_X12_laysLiterals_104 k149 m_FU v15 v16 v17 v18 (0 : Int32) M4
      ) fun (k101 : Nat → Int32 → Nat → Int32 → m_M → Option (Unit × m_M)) =>
      F_X12_laysLiterals_49 k101 m_FU v11 v12 v13 v14 (0 : Int32) M3
    ) fun (k46 : Nat → Int32 → Nat → Int32 → m_M → Option (Unit × m_M)) =>
    F_X12_laysLiterals_23 k46 m_FU v1 v2 v3 v4 (0 : Int32) M2
noncomputable def F_X12_laysLiterals (a0 : Nat) (a1 : Int32) (a2 : Nat) (M : m_M) : Option (Unit × m_M) :=
  F_X12_laysLiterals_2 m_FU a0 a1 a2 (0 : Int32) M
set_option maxHeartbeats 4000000 in
theorem L_X12_laysLiterals_104 {X : j_X} {Φ : Option Value → m_M → Prop} (C : j_C X yX12_laysLiterals cX12_laysLiterals 5 none 8 0 0 Φ) {k149 : Nat → Int32 → Nat → Int32 → m_M → Option (Unit × m_M)} (hk149 : ∀ (p0 : Nat) (p1 : Int32) (p2 : Nat) (p3 : Int32) (M : m_M), m_ok e_V Φ (k149 p0 p1 p2 p3 M) → j_J X 5 149 [some (.ref p0), some (.int p1), some (.ref p2), some (.int p3), none] [] (0, 0) M) : ∀ (n : Nat) (v1 : Nat) (v2 : Int32) (v3 : Nat) (v4 : Int32) (v5 : Int32) (M : m_M), m_ok e_V Φ (F_X12_laysLiterals_104 k149 n v1 v2 v3 v4 v5 M) → j_J X 5 104 [some (.ref v1), some (.int v2), some (.ref v3), some (.int v4), some (.int v5)] [] (0, 0) M := by
  have C0 := C.1
  intro n
  induction n with
  | zero => intro v1 v2 v3 v4 v5 M h; exact False.elim h
  | succ n ih =>
    intro v1 v2 v3 v4 v5 M h
    rw [F_X12_laysLiterals_104] at h
    refine j_iload C0 (pc := 104) dX12_laysLiterals_104 rfl ?_
    refine j_bipush C0 (pc := 106) dX12_laysLiterals_106 (v := (16 : Int32)) (by decide) ?_
    refine j_icmp_ge C0 (pc := 108) (tgt := 149) dX12_laysLiterals_108 (by decide) (fun hc => ?_) (fun hc => ?_)
    · replace h := (X_if h).1 hc
      exact j_J.wq (hk149 v1 v2 v3 v4 M h) (And.intro rfl (And.intro rfl (And.intro rfl (And.intro rfl (trivial)))))
    · replace h := (X_if h).2 hc
      refine j_aload_n C0 (pc := 111) dX12_laysLiterals_111 rfl ?_
      refine j_bipush C0 (pc := 112) dX12_laysLiterals_112 (v := (32 : Int32)) (by decide) ?_
      refine j_iload_n C0 (pc := 114) dX12_laysLiterals_114 rfl ?_
      refine j_imul C0 (pc := 115) dX12_laysLiterals_115 ?_
      refine j_bipush C0 (pc := 116) dX12_laysLiterals_116 (v := (16 : Int32)) (by decide) ?_
      refine j_iadd C0 (pc := 118) dX12_laysLiterals_118 ?_
      refine j_iload C0 (pc := 119) dX12_laysLiterals_119 rfl ?_
      refine j_iadd C0 (pc := 121) dX12_laysLiterals_121 ?_
      refine j_aload_n C0 (pc := 122) dX12_laysLiterals_122 rfl ?_
      refine j_iload C0 (pc := 123) dX12_laysLiterals_123 rfl ?_
      refine X_cV C0 (pc := 125) (e' := e_L) (as := [.int v5]) (rest := [.int ((((32 : Int32) * v4) + (16 : Int32)) + v5), .ref v3]) (s' := fun w => .long w :: [.int ((((32 : Int32) * v4) + (16 : Int32)) + v5), .ref v3]) (g' := (0, 0)) v_OM_449_10 (fun Ψ hΨ => K_X12_allOf v1 v5 M Ψ hΨ) rfl rfl (fun _ => rfl) (by decide) (by decide) rfl (Nat.le_of_ble_eq_true rfl) dX12_laysLiterals_125 h (fun v6 M1 h => ?_)
      refine j_aload_n C0 (pc := 128) dX12_laysLiterals_128 rfl ?_
      refine j_bipush C0 (pc := 129) dX12_laysLiterals_129 (v := (32 : Int32)) (by decide) ?_
      refine j_iload_n C0 (pc := 131) dX12_laysLiterals_131 rfl ?_
      refine j_imul C0 (pc := 132) dX12_laysLiterals_132 ?_
      refine j_iload C0 (pc := 133) dX12_laysLiterals_133 rfl ?_
      refine j_iadd C0 (pc := 135) dX12_laysLiterals_135 ?_
      refine X_lald C0 (pc := 136) dX12_laysLiterals_136 h (fun v7 h => ?_)
      refine j_ldc2 C0 (pc := 137) (v := (-1 : Int64)) (j_c9 82 (by decide +kernel)) dX12_laysLiterals_137 ?_
      refine j_lxor C0 (pc := 140) dX12_laysLiterals_140 ?_
      refine j_land C0 (pc := 141) dX12_laysLiterals_141 ?_
      refine X_last C0 (pc := 142) dX12_laysLiterals_142 h (fun M2 h => ?_)
      refine j_iinc C0 (pc := 143) dX12_laysLiterals_143 (v := v5 + (1 : Int32)) rfl (Nat.le_of_ble_eq_true rfl) (by rfl) ?_
      refine X_let (G := fun w => j_J X 5 146 [some (.ref v1), some (.int v2), some (.ref v3), some (.int v4), some (.int w)] [] (0, 0) M2) h (fun v8 h => ?_)
      refine j_goto C0 (pc := 146) (tgt := 104) dX12_laysLiterals_146 (by decide) ?_
      exact j_J.wq (ih v1 v2 v3 v4 v8 M2 h) (And.intro rfl (And.intro rfl (And.intro rfl (And.intro rfl (And.intro rfl (trivial))))))
set_option maxHeartbeats 4000000 in
theorem L_X12_laysLiterals_49 {X : j_X} {Φ : Option Value → m_M → Prop} (C : j_C X yX12_laysLiterals cX12_laysLiterals 5 none 8 0 0 Φ) {k101 : Nat → Int32 → Nat → Int32 → m_M → Option (Unit × m_M)} (hk101 : ∀ (p0 : Nat) (p1 : Int32) (p2 : Nat) (p3 : Int32) (M : m_M), m_ok e_V Φ (k101 p0 p1 p2 p3 M) → j_J X 5 101 [some (.ref p0), some (.int p1), some (.ref p2), some (.int p3), none] [] (0, 0) M) : ∀ (n : Nat) (v1 : Nat) (v2 : Int32) (v3 : Nat) (v4 : Int32) (v5 : Int32) (M : m_M), m_ok e_V Φ (F_X12_laysLiterals_49 k101 n v1 v2 v3 v4 v5 M) → j_J X 5 49 [some (.ref v1), some (.int v2), some (.ref v3), some (.int v4), some (.int v5)] [] (0, 0) M := by
  have C0 := C.1
  intro n
  induction n with
  | zero => intro v1 v2 v3 v4 v5 M h; exact False.elim h
  | succ n ih =>
    intro v1 v2 v3 v4 v5 M h
    rw [F_X12_laysLiterals_49] at h
    refine j_iload C0 (pc := 49) dX12_laysLiterals_49 rfl ?_
    refine j_aload_n C0 (pc := 51) dX12_laysLiterals_51 rfl ?_
    refine X_gI C0 (pc := 52) f_OM_383_10 rfl dX12_laysLiterals_52 h (fun v6 h => ?_)
    refine j_icmp_ge C0 (pc := 55) (tgt := 101) dX12_laysLiterals_55 (by decide) (fun hc => ?_) (fun hc => ?_)
    · replace h := (X_if h).1 hc
      exact j_J.wq (hk101 v1 v2 v3 v4 M h) (And.intro rfl (And.intro rfl (And.intro rfl (And.intro rfl (trivial)))))
    · replace h := (X_if h).2 hc
      refine X_join (fun (kj : Nat → Int32 → Nat → Int32 → Int32 → m_M → Option (Unit × m_M)) => ∀ (p0 : Nat) (p1 : Int32) (p2 : Nat) (p3 : Int32) (p4 : Int32) (M : m_M), m_ok e_V Φ (kj p0 p1 p2 p3 p4 M) → j_J X 5 95 [some (.ref p0), some (.int p1), some (.ref p2), some (.int p3), some (.int p4)] [] (0, 0) M) h (fun v7 v8 v9 v10 v11 M1 h => ?_) (fun k95 hk95 h => ?_)
      · refine j_iinc C0 (pc := 95) dX12_laysLiterals_95 (v := v11 + (1 : Int32)) rfl (Nat.le_of_ble_eq_true rfl) (by rfl) ?_
        refine X_let (G := fun w => j_J X 5 98 [some (.ref v7), some (.int v8), some (.ref v9), some (.int v10), some (.int w)] [] (0, 0) M1) h (fun v12 h => ?_)
        refine j_goto C0 (pc := 98) (tgt := 49) dX12_laysLiterals_98 (by decide) ?_
        exact j_J.wq (ih v7 v8 v9 v10 v12 M1 h) (And.intro rfl (And.intro rfl (And.intro rfl (And.intro rfl (And.intro rfl (trivial))))))
      · refine j_aload_n C0 (pc := 58) dX12_laysLiterals_58 rfl ?_
        refine j_iload C0 (pc := 59) dX12_laysLiterals_59 rfl ?_
        refine X_cV C0 (pc := 61) (e' := e_V) (as := [.int v5]) (rest := []) (s' := fun _ => []) (g' := (0, 0)) v_OM_402_10 (fun Ψ hΨ => K_X12_shows v1 v5 M Ψ hΨ) rfl rfl (fun _ => rfl) (by decide) (by decide) rfl (Nat.le_of_ble_eq_true rfl) dX12_laysLiterals_61 h (fun _ M2 h => ?_)
        refine j_aload_n C0 (pc := 64) dX12_laysLiterals_64 rfl ?_
        refine j_iload_n C0 (pc := 65) dX12_laysLiterals_65 rfl ?_
        refine j_iload_n C0 (pc := 66) dX12_laysLiterals_66 rfl ?_
        refine X_cV C0 (pc := 67) (e' := e_I) (as := [.int v4, .int v2]) (rest := []) (s' := fun w => .int w :: []) (g' := (0, 0)) v_OM_478_10 (fun Ψ hΨ => K_X12_clauseHolds v1 v4 v2 M2 Ψ hΨ) rfl rfl (fun _ => rfl) (by decide) (by decide) rfl (Nat.le_of_ble_eq_true rfl) dX12_laysLiterals_67 h (fun v13 M3 h => ?_)
        refine j_if_eq C0 (pc := 70) (tgt := 95) dX12_laysLiterals_70 (by decide) (fun hc => ?_) (fun hc => ?_)
        · replace h := (X_if h).1 hc
          exact j_J.wq (hk95 v1 v2 v3 v4 v5 M3 h) (And.intro rfl (And.intro rfl (And.intro rfl (And.intro rfl (And.intro rfl (trivial))))))
        · replace h := (X_if h).2 hc
          refine j_aload_n C0 (pc := 73) dX12_laysLiterals_73 rfl ?_
          refine j_bipush C0 (pc := 74) dX12_laysLiterals_74 (v := (32 : Int32)) (by decide) ?_
          refine j_iload_n C0 (pc := 76) dX12_laysLiterals_76 rfl ?_
          refine j_imul C0 (pc := 77) dX12_laysLiterals_77 ?_
          refine j_iload C0 (pc := 78) dX12_laysLiterals_78 rfl ?_
          refine j_bipush C0 (pc := 80) dX12_laysLiterals_80 (v := (64 : Int32)) (by decide) ?_
          refine X_idiv C0 (pc := 82) dX12_laysLiterals_82 h (fun h => ?_)
          refine j_iadd C0 (pc := 83) dX12_laysLiterals_83 ?_
          refine j_dup2 C0 (pc := 84) dX12_laysLiterals_84 rfl rfl ?_
          refine X_lald C0 (pc := 85) dX12_laysLiterals_85 h (fun v14 h => ?_)
          refine j_lconst C0 (pc := 86) dX12_laysLiterals_86 (v := (1 : Int64)) (by decide) ?_
          refine j_iload C0 (pc := 87) dX12_laysLiterals_87 rfl ?_
          refine j_bipush C0 (pc := 89) dX12_laysLiterals_89 (v := (64 : Int32)) (by decide) ?_
          refine X_irem C0 (pc := 91) dX12_laysLiterals_91 h (fun h => ?_)
          refine j_lshl C0 (pc := 92) dX12_laysLiterals_92 (v := (1 : Int64) <<< ((v5 - v5 / (64 : Int32) * (64 : Int32)).toInt64 &&& 63)) rfl ?_
          refine j_lor C0 (pc := 93) dX12_laysLiterals_93 ?_
          refine X_last C0 (pc := 94) dX12_laysLiterals_94 h (fun M4 h => ?_)
          exact j_J.wq (hk95 v1 v2 v3 v4 v5 M4 h) (And.intro rfl (And.intro rfl (And.intro rfl (And.intro rfl (And.intro rfl (trivial))))))
set_option maxHeartbeats 4000000 in
theorem L_X12_laysLiterals_23 {X : j_X} {Φ : Option Value → m_M → Prop} (C : j_C X yX12_laysLiterals cX12_laysLiterals 5 none 8 0 0 Φ) {k46 : Nat → Int32 → Nat → Int32 → m_M → Option (Unit × m_M)} (hk46 : ∀ (p0 : Nat) (p1 : Int32) (p2 : Nat) (p3 : Int32) (M : m_M), m_ok e_V Φ (k46 p0 p1 p2 p3 M) → j_J X 5 46 [some (.ref p0), some (.int p1), some (.ref p2), some (.int p3), none] [] (0, 0) M) : ∀ (n : Nat) (v1 : Nat) (v2 : Int32) (v3 : Nat) (v4 : Int32) (v5 : Int32) (M : m_M), m_ok e_V Φ (F_X12_laysLiterals_23 k46 n v1 v2 v3 v4 v5 M) → j_J X 5 23 [some (.ref v1), some (.int v2), some (.ref v3), some (.int v4), some (.int v5)] [] (0, 0) M := by
  have C0 := C.1
  intro n
  induction n with
  | zero => intro v1 v2 v3 v4 v5 M h; exact False.elim h
  | succ n ih =>
    intro v1 v2 v3 v4 v5 M h
    rw [F_X12_laysLiterals_23] at h
    refine j_iload C0 (pc := 23) dX12_laysLiterals_23 rfl ?_
    refine j_bipush C0 (pc := 25) dX12_laysLiterals_25 (v := (16 : Int32)) (by decide) ?_
    refine j_icmp_ge C0 (pc := 27) (tgt := 46) dX12_laysLiterals_27 (by decide) (fun hc => ?_) (fun hc => ?_)
    · replace h := (X_if h).1 hc
      exact j_J.wq (hk46 v1 v2 v3 v4 M h) (And.intro rfl (And.intro rfl (And.intro rfl (And.intro rfl (trivial)))))
    · replace h := (X_if h).2 hc
      refine j_aload_n C0 (pc := 30) dX12_laysLiterals_30 rfl ?_
      refine j_bipush C0 (pc := 31) dX12_laysLiterals_31 (v := (32 : Int32)) (by decide) ?_
      refine j_iload_n C0 (pc := 33) dX12_laysLiterals_33 rfl ?_
      refine j_imul C0 (pc := 34) dX12_laysLiterals_34 ?_
      refine j_iload C0 (pc := 35) dX12_laysLiterals_35 rfl ?_
      refine j_iadd C0 (pc := 37) dX12_laysLiterals_37 ?_
      refine j_lconst C0 (pc := 38) dX12_laysLiterals_38 (v := (0 : Int64)) (by decide) ?_
      refine X_last C0 (pc := 39) dX12_laysLiterals_39 h (fun M1 h => ?_)
      refine j_iinc C0 (pc := 40) dX12_laysLiterals_40 (v := v5 + (1 : Int32)) rfl (Nat.le_of_ble_eq_true rfl) (by rfl) ?_
      refine X_let (G := fun w => j_J X 5 43 [some (.ref v1), some (.int v2), some (.ref v3), some (.int v4), some (.int w)] [] (0, 0) M1) h (fun v6 h => ?_)
      refine j_goto C0 (pc := 43) (tgt := 23) dX12_laysLiterals_43 (by decide) ?_
      exact j_J.wq (ih v1 v2 v3 v4 v6 M1 h) (And.intro rfl (And.intro rfl (And.intro rfl (And.intro rfl (And.intro rfl (trivial))))))
set_option maxHeartbeats 4000000 in
theorem L_X12_laysLiterals_2 {X : j_X} {Φ : Option Value → m_M → Prop} (C : j_C X yX12_laysLiterals cX12_laysLiterals 5 none 8 0 0 Φ) : ∀ (n : Nat) (v1 : Nat) (v2 : Int32) (v3 : Nat) (v4 : Int32) (M : m_M), m_ok e_V Φ (F_X12_laysLiterals_2 n v1 v2 v3 v4 M) → j_J X 5 2 [some (.ref v1), some (.int v2), some (.ref v3), some (.int v4), none] [] (0, 0) M := by
  have C0 := C.1
  intro n
  induction n with
  | zero => intro v1 v2 v3 v4 M h; exact False.elim h
  | succ n ih =>
    intro v1 v2 v3 v4 M h
    rw [F_X12_laysLiterals_2] at h
    refine j_iload_n C0 (pc := 2) dX12_laysLiterals_2 rfl ?_
    refine j_sipush C0 (pc := 3) dX12_laysLiterals_3 (v := (400 : Int32)) (by decide) ?_
    refine j_icmp_ge C0 (pc := 6) (tgt := 155) dX12_laysLiterals_6 (by decide) (fun hc => ?_) (fun hc => ?_)
    · replace h := (X_if h).1 hc
      exact j_vret C rfl h dX12_laysLiterals_155 (by decide)
    · replace h := (X_if h).2 hc
      refine X_join (fun (kj : Nat → Int32 → Nat → Int32 → m_M → Option (Unit × m_M)) => ∀ (p0 : Nat) (p1 : Int32) (p2 : Nat) (p3 : Int32) (M : m_M), m_ok e_V Φ (kj p0 p1 p2 p3 M) → j_J X 5 149 [some (.ref p0), some (.int p1), some (.ref p2), some (.int p3), none] [] (0, 0) M) h (fun v5 v6 v7 v8 M1 h => ?_) (fun k149 hk149 h => ?_)
      · refine j_iinc C0 (pc := 149) dX12_laysLiterals_149 (v := v8 + (1 : Int32)) rfl (Nat.le_of_ble_eq_true rfl) (by rfl) ?_
        refine X_let (G := fun w => j_J X 5 152 [some (.ref v5), some (.int v6), some (.ref v7), some (.int w), none] [] (0, 0) M1) h (fun v9 h => ?_)
        refine j_goto C0 (pc := 152) (tgt := 2) dX12_laysLiterals_152 (by decide) ?_
        exact j_J.wq (ih v5 v6 v7 v9 M1 h) (And.intro rfl (And.intro rfl (And.intro rfl (And.intro rfl (trivial)))))
      · refine j_aload_n C0 (pc := 9) dX12_laysLiterals_9 rfl ?_
        refine j_iload_n C0 (pc := 10) dX12_laysLiterals_10 rfl ?_
        refine X_cV C0 (pc := 11) (e' := e_I) (as := [.int v4]) (rest := []) (s' := fun w => .int w :: []) (g' := (0, 0)) v_OM_475_10 (fun Ψ hΨ => K_X12_isClause v1 v4 M Ψ hΨ) rfl rfl (fun _ => rfl) (by decide) (by decide) rfl (Nat.le_of_ble_eq_true rfl) dX12_laysLiterals_11 h (fun v10 M2 h => ?_)
        refine j_if_ne C0 (pc := 14) (tgt := 20) dX12_laysLiterals_14 (by decide) (fun hc => ?_) (fun hc => ?_)
        · replace h := (X_if h).2 hc
          refine j_iconst C0 (pc := 20) dX12_laysLiterals_20 (v := (0 : Int32)) (by decide) ?_
          refine j_istore C0 (pc := 21) dX12_laysLiterals_21 (Nat.le_of_ble_eq_true rfl) ?_
          show j_J X 5 23 [some (.ref v1), some (.int v2), some (.ref v3), some (.int v4), some (.int (0 : Int32))] [] (0, 0) M2
          refine X_join (fun (kj : Nat → Int32 → Nat → Int32 → m_M → Option (Unit × m_M)) => ∀ (p0 : Nat) (p1 : Int32) (p2 : Nat) (p3 : Int32) (M : m_M), m_ok e_V Φ (kj p0 p1 p2 p3 M) → j_J X 5 46 [some (.ref p0), some (.int p1), some (.ref p2), some (.int p3), none] [] (0, 0) M) h (fun v11 v12 v13 v14 M3 h => ?_) (fun k46 hk46 h => ?_)
          · refine j_iconst C0 (pc := 46) dX12_laysLiterals_46 (v := (0 : Int32)) (by decide) ?_
            refine j_istore C0 (pc := 47) dX12_laysLiterals_47 (Nat.le_of_ble_eq_true rfl) ?_
            show j_J X 5 49 [some (.ref v11), some (.int v12), some (.ref v13), some (.int v14), some (.int (0 : Int32))] [] (0, 0) M3
            refine X_join (fun (kj : Nat → Int32 → Nat → Int32 → m_M → Option (Unit × m_M)) => ∀ (p0 : Nat) (p1 : Int32) (p2 : Nat) (p3 : Int32) (M : m_M), m_ok e_V Φ (kj p0 p1 p2 p3 M) → j_J X 5 101 [some (.ref p0), some (.int p1), some (.ref p2), some (.int p3), none] [] (0, 0) M) h (fun v15 v16 v17 v18 M4 h => ?_) (fun k101 hk101 h => ?_)
            · refine j_iconst C0 (pc := 101) dX12_laysLiterals_101 (v := (0 : Int32)) (by decide) ?_
              refine j_istore C0 (pc := 102) dX12_laysLiterals_102 (Nat.le_of_ble_eq_true rfl) ?_
              show j_J X 5 104 [some (.ref v15), some (.int v16), some (.ref v17), some (.int v18), some (.int (0 : Int32))] [] (0, 0) M4
              exact j_J.wq (L_X12_laysLiterals_104 C hk149 m_FU v15 v16 v17 v18 (0 : Int32) M4 h) (And.intro rfl (And.intro rfl (And.intro rfl (And.intro rfl (And.intro rfl (trivial))))))
            · exact j_J.wq (L_X12_laysLiterals_49 C hk101 m_FU v11 v12 v13 v14 (0 : Int32) M3 h) (And.intro rfl (And.intro rfl (And.intro rfl (And.intro rfl (And.intro rfl (trivial))))))
          · exact j_J.wq (L_X12_laysLiterals_23 C hk46 m_FU v1 v2 v3 v4 (0 : Int32) M2 h) (And.intro rfl (And.intro rfl (And.intro rfl (And.intro rfl (And.intro rfl (trivial))))))
        · replace h := (X_if h).1 hc
          refine j_goto C0 (pc := 17) (tgt := 149) dX12_laysLiterals_17 (by decide) ?_
          exact j_J.wq (hk149 v1 v2 v3 v4 M2 h) (And.intro rfl (And.intro rfl (And.intro rfl (And.intro rfl (trivial)))))
set_option maxHeartbeats 4000000 in
theorem K_X12_laysLiterals (a0 : Nat) (a1 : Int32) (a2 : Nat) (M : m_M) (Φ : Option Value → m_M → Prop) (h : m_ok e_V Φ (F_X12_laysLiterals a0 a1 a2 M)) : j_Ct yX12_laysLiterals cX12_laysLiterals 5 none 8 0 0 [.ref a0, .int a1, .ref a2] M Φ := by
  refine j_Ct.of (by decide +kernel) (Nat.le_of_ble_eq_true rfl) fun X C => ?_
  have C0 := C.1
  show j_J X 5 0 [some (.ref a0), some (.int a1), some (.ref a2), none, none] [] (0, 0) M
  unfold F_X12_laysLiterals at h
  refine j_iconst C0 (pc := 0) dX12_laysLiterals_0 (v := (0 : Int32)) (by decide) ?_
  refine j_istore_n C0 (pc := 1) dX12_laysLiterals_1 (Nat.le_of_ble_eq_true rfl) ?_
  show j_J X 5 2 [some (.ref a0), some (.int a1), some (.ref a2), some (.int (0 : Int32)), none] [] (0, 0) M
  exact j_J.wq (L_X12_laysLiterals_2 C m_FU a0 a1 a2 (0 : Int32) M h) (And.intro rfl (And.intro rfl (And.intro rfl (And.intro rfl (trivial)))))
theorem dX12_isLiteral_0 : decode cX12_isLiteral 0 = .ok (.iconst 0, 1) := by decide +kernel
theorem dX12_isLiteral_1 : decode cX12_isLiteral 1 = .ok (.istore_n 3, 1) := by decide +kernel
theorem dX12_isLiteral_2 : decode cX12_isLiteral 2 = .ok (.iload_n 3, 1) := by decide +kernel
theorem dX12_isLiteral_3 : decode cX12_isLiteral 3 = .ok (.bipush 16, 2) := by decide +kernel
theorem dX12_isLiteral_5 : decode cX12_isLiteral 5 = .ok (.if_icmp .ge 16, 3) := by decide +kernel
theorem dX12_isLiteral_8 : decode cX12_isLiteral 8 = .ok (.aload_n 0, 1) := by decide +kernel
theorem dX12_isLiteral_9 : decode cX12_isLiteral 9 = .ok (.getfield 138, 3) := by decide +kernel
theorem dX12_isLiteral_12 : decode cX12_isLiteral 12 = .ok (.iload_n 3, 1) := by decide +kernel
theorem dX12_isLiteral_13 : decode cX12_isLiteral 13 = .ok (.lconst 0, 1) := by decide +kernel
theorem dX12_isLiteral_14 : decode cX12_isLiteral 14 = .ok (.lastore, 1) := by decide +kernel
theorem dX12_isLiteral_15 : decode cX12_isLiteral 15 = .ok (.iinc 3 1, 3) := by decide +kernel
theorem dX12_isLiteral_18 : decode cX12_isLiteral 18 = .ok (.goto (-16), 3) := by decide +kernel
theorem dX12_isLiteral_21 : decode cX12_isLiteral 21 = .ok (.iconst 0, 1) := by decide +kernel
theorem dX12_isLiteral_22 : decode cX12_isLiteral 22 = .ok (.istore_n 3, 1) := by decide +kernel
theorem dX12_isLiteral_23 : decode cX12_isLiteral 23 = .ok (.iload_n 3, 1) := by decide +kernel
theorem dX12_isLiteral_24 : decode cX12_isLiteral 24 = .ok (.aload_n 0, 1) := by decide +kernel
theorem dX12_isLiteral_25 : decode cX12_isLiteral 25 = .ok (.getfield 383, 3) := by decide +kernel
theorem dX12_isLiteral_28 : decode cX12_isLiteral 28 = .ok (.if_icmp .ge 42, 3) := by decide +kernel
theorem dX12_isLiteral_31 : decode cX12_isLiteral 31 = .ok (.aload_n 0, 1) := by decide +kernel
theorem dX12_isLiteral_32 : decode cX12_isLiteral 32 = .ok (.iload_n 3, 1) := by decide +kernel
theorem dX12_isLiteral_33 : decode cX12_isLiteral 33 = .ok (.invokevirtual 402, 3) := by decide +kernel
theorem dX12_isLiteral_36 : decode cX12_isLiteral 36 = .ok (.aload_n 0, 1) := by decide +kernel
theorem dX12_isLiteral_37 : decode cX12_isLiteral 37 = .ok (.getfield 87, 3) := by decide +kernel
theorem dX12_isLiteral_40 : decode cX12_isLiteral 40 = .ok (.iload_n 1, 1) := by decide +kernel
theorem dX12_isLiteral_41 : decode cX12_isLiteral 41 = .ok (.iaload, 1) := by decide +kernel
theorem dX12_isLiteral_42 : decode cX12_isLiteral 42 = .ok (.iload_n 2, 1) := by decide +kernel
theorem dX12_isLiteral_43 : decode cX12_isLiteral 43 = .ok (.if_icmp .ne 21, 3) := by decide +kernel
theorem dX12_isLiteral_46 : decode cX12_isLiteral 46 = .ok (.aload_n 0, 1) := by decide +kernel
theorem dX12_isLiteral_47 : decode cX12_isLiteral 47 = .ok (.getfield 138, 3) := by decide +kernel
theorem dX12_isLiteral_50 : decode cX12_isLiteral 50 = .ok (.iload_n 3, 1) := by decide +kernel
theorem dX12_isLiteral_51 : decode cX12_isLiteral 51 = .ok (.bipush 64, 2) := by decide +kernel
theorem dX12_isLiteral_53 : decode cX12_isLiteral 53 = .ok (.idiv, 1) := by decide +kernel
theorem dX12_isLiteral_54 : decode cX12_isLiteral 54 = .ok (.dup2, 1) := by decide +kernel
theorem dX12_isLiteral_55 : decode cX12_isLiteral 55 = .ok (.laload, 1) := by decide +kernel
theorem dX12_isLiteral_56 : decode cX12_isLiteral 56 = .ok (.lconst 1, 1) := by decide +kernel
theorem dX12_isLiteral_57 : decode cX12_isLiteral 57 = .ok (.iload_n 3, 1) := by decide +kernel
theorem dX12_isLiteral_58 : decode cX12_isLiteral 58 = .ok (.bipush 64, 2) := by decide +kernel
theorem dX12_isLiteral_60 : decode cX12_isLiteral 60 = .ok (.irem, 1) := by decide +kernel
theorem dX12_isLiteral_61 : decode cX12_isLiteral 61 = .ok (.lshl, 1) := by decide +kernel
theorem dX12_isLiteral_62 : decode cX12_isLiteral 62 = .ok (.lor, 1) := by decide +kernel
theorem dX12_isLiteral_63 : decode cX12_isLiteral 63 = .ok (.lastore, 1) := by decide +kernel
theorem dX12_isLiteral_64 : decode cX12_isLiteral 64 = .ok (.iinc 3 1, 3) := by decide +kernel
theorem dX12_isLiteral_67 : decode cX12_isLiteral 67 = .ok (.goto (-44), 3) := by decide +kernel
theorem dX12_isLiteral_70 : decode cX12_isLiteral 70 = .ok (.iconst 0, 1) := by decide +kernel
theorem dX12_isLiteral_71 : decode cX12_isLiteral 71 = .ok (.istore_n 3, 1) := by decide +kernel
theorem dX12_isLiteral_72 : decode cX12_isLiteral 72 = .ok (.iload_n 3, 1) := by decide +kernel
theorem dX12_isLiteral_73 : decode cX12_isLiteral 73 = .ok (.sipush 800, 3) := by decide +kernel
theorem dX12_isLiteral_76 : decode cX12_isLiteral 76 = .ok (.if_icmp .ge 41, 3) := by decide +kernel
theorem dX12_isLiteral_79 : decode cX12_isLiteral 79 = .ok (.aload_n 0, 1) := by decide +kernel
theorem dX12_isLiteral_80 : decode cX12_isLiteral 80 = .ok (.iload_n 3, 1) := by decide +kernel
theorem dX12_isLiteral_81 : decode cX12_isLiteral 81 = .ok (.iconst 2, 1) := by decide +kernel
theorem dX12_isLiteral_82 : decode cX12_isLiteral 82 = .ok (.idiv, 1) := by decide +kernel
theorem dX12_isLiteral_83 : decode cX12_isLiteral 83 = .ok (.invokevirtual 475, 3) := by decide +kernel
theorem dX12_isLiteral_86 : decode cX12_isLiteral 86 = .ok (.ifCond .eq 25, 3) := by decide +kernel
theorem dX12_isLiteral_89 : decode cX12_isLiteral 89 = .ok (.aload_n 0, 1) := by decide +kernel
theorem dX12_isLiteral_90 : decode cX12_isLiteral 90 = .ok (.aload_n 0, 1) := by decide +kernel
theorem dX12_isLiteral_91 : decode cX12_isLiteral 91 = .ok (.getfield 141, 3) := by decide +kernel
theorem dX12_isLiteral_94 : decode cX12_isLiteral 94 = .ok (.bipush 16, 2) := by decide +kernel
theorem dX12_isLiteral_96 : decode cX12_isLiteral 96 = .ok (.iload_n 3, 1) := by decide +kernel
theorem dX12_isLiteral_97 : decode cX12_isLiteral 97 = .ok (.imul, 1) := by decide +kernel
theorem dX12_isLiteral_98 : decode cX12_isLiteral 98 = .ok (.aload_n 0, 1) := by decide +kernel
theorem dX12_isLiteral_99 : decode cX12_isLiteral 99 = .ok (.getfield 138, 3) := by decide +kernel
theorem dX12_isLiteral_102 : decode cX12_isLiteral 102 = .ok (.iconst 0, 1) := by decide +kernel
theorem dX12_isLiteral_103 : decode cX12_isLiteral 103 = .ok (.invokevirtual 484, 3) := by decide +kernel
theorem dX12_isLiteral_106 : decode cX12_isLiteral 106 = .ok (.ifCond .eq 5, 3) := by decide +kernel
theorem dX12_isLiteral_109 : decode cX12_isLiteral 109 = .ok (.iconst 1, 1) := by decide +kernel
theorem dX12_isLiteral_110 : decode cX12_isLiteral 110 = .ok (.ireturn, 1) := by decide +kernel
theorem dX12_isLiteral_111 : decode cX12_isLiteral 111 = .ok (.iinc 3 1, 3) := by decide +kernel
theorem dX12_isLiteral_114 : decode cX12_isLiteral 114 = .ok (.goto (-42), 3) := by decide +kernel
theorem dX12_isLiteral_117 : decode cX12_isLiteral 117 = .ok (.iconst 0, 1) := by decide +kernel
theorem dX12_isLiteral_118 : decode cX12_isLiteral 118 = .ok (.ireturn, 1) := by decide +kernel
noncomputable def F_X12_isLiteral_72 : Nat → Nat → Int32 → m_M → Option (Int32 × m_M)
  | 0, _, _, _ => none
  | n + 1, v1, v2, M =>
    if (800 : Int32) ≤ v2 then (
      some ((0 : Int32), M)
    ) else
    m_let (fun (v3 : Nat) (v4 : Int32) (M1 : m_M) =>
      m_let (v4 + (1 : Int32)) fun v5 =>
      F_X12_isLiteral_72 n v3 v5 M1
    ) fun (k111 : Nat → Int32 → m_M → Option (Int32 × m_M)) =>
    x_nz (2 : Int32) <|
    x_cV 10 M v1 (F_X12_isClause v1 (v2 / (2 : Int32)) M) fun v6 M2 =>
    if v6 = 0 then (
      k111 v1 v2 M2
    ) else
    x_gN 10 M2 v1 64 fun v7 =>
    x_gN 10 M2 v1 63 fun v8 =>
    x_cV 10 M2 v1 (F_X12_areAlike v1 v7 ((16 : Int32) * v2) v8 (0 : Int32) M2) fun v9 M3 =>
    if v9 = 0 then (
      k111 v1 v2 M3
    ) else
    some ((1 : Int32), M3)
noncomputable def F_X12_isLiteral_23 (k70 : Nat → m_M → Option (Int32 × m_M)) : Nat → Nat → Int32 → Int32 → Int32 → m_M → Option (Int32 × m_M)
  | 0, _, _, _, _, _ => none
  | n + 1, v1, v2, v3, v4, M =>
    x_gI 10 M v1 42 fun v5 =>
    if v5 ≤ v4 then (
      k70 v1 M
    ) else
    m_let (fun (v6 : Nat) (v7 : Int32) (v8 : Int32) (v9 : Int32) (M1 : m_M) =>
      m_let (v9 + (1 : Int32)) fun v10 =>
      F_X12_isLiteral_23 k70 n v6 v7 v8 v10 M1
    ) fun (k64 : Nat → Int32 → Int32 → Int32 → m_M → Option (Int32 × m_M)) =>
    x_cV 10 M v1 (F_X12_shows v1 v4 M) fun _ M2 =>
    x_gN 10 M2 v1 44 fun v11 =>
    x_aI 12 M2 v11 v2 fun v12 =>
    if v12 = v3 then (
      x_gN 10 M2 v1 63 fun v13 =>
      x_nz (64 : Int32) <|
      x_aL M2 v13 (v4 / (64 : Int32)) fun v14 =>
      x_nz (64 : Int32) <|
      x_sL M2 v13 (v4 / (64 : Int32)) (v14 ||| ((1 : Int64) <<< ((v4 - v4 / (64 : Int32) * (64 : Int32)).toInt64 &&& 63))) fun M3 =>
      k64 v1 v2 v3 v4 M3
    ) else
    k64 v1 v2 v3 v4 M2
noncomputable def F_X12_isLiteral_2 (k21 : Nat → Int32 → Int32 → m_M → Option (Int32 × m_M)) : Nat → Nat → Int32 → Int32 → Int32 → m_M → Option (Int32 × m_M)
  | 0, _, _, _, _, _ => none
  | n + 1, v1, v2, v3, v4, M =>
    if (16 : Int32) ≤ v4 then (
      k21 v1 v2 v3 M
    ) else
    x_gN 10 M v1 63 fun v5 =>
    x_sL M v5 v4 (0 : Int64) fun M1 =>
    m_let (v4 + (1 : Int32)) fun v6 =>
    F_X12_isLiteral_2 k21 n v1 v2 v3 v6 M1
noncomputable def F_X12_isLiteral (a0 : Nat) (a1 : Int32) (a2 : Int32) (M : m_M) : Option (Int32 × m_M) :=
  m_let (fun (v1 : Nat) (v2 : Int32) (v3 : Int32) (M1 : m_M) =>
    m_let (fun (v4 : Nat) (M2 : m_M) =>
      F_X12_isLiteral_72 m_FU v4 (0 : Int32) M2
    ) fun (k70 : Nat → m_M → Option (Int32 × m_M)) =>
    F_X12_isLiteral_23 k70 m_FU v1 v2 v3 (0 : Int32) M1
  ) fun (k21 : Nat → Int32 → Int32 → m_M → Option (Int32 × m_M)) =>
  F_X12_isLiteral_2 k21 m_FU a0 a1 a2 (0 : Int32) M
set_option maxHeartbeats 4000000 in
theorem L_X12_isLiteral_72 {X : j_X} {Φ : Option Value → m_M → Prop} (C : j_C X yX12_isLiteral cX12_isLiteral 4 (some .boolean) 3 0 0 Φ) : ∀ (n : Nat) (v1 : Nat) (v2 : Int32) (M : m_M), m_ok e_I Φ (F_X12_isLiteral_72 n v1 v2 M) → j_J X 4 72 [some (.ref v1), none, none, some (.int v2)] [] (0, 0) M := by
  have C0 := C.1
  intro n
  induction n with
  | zero => intro v1 v2 M h; exact False.elim h
  | succ n ih =>
    intro v1 v2 M h
    rw [F_X12_isLiteral_72] at h
    refine j_iload_n C0 (pc := 72) dX12_isLiteral_72 rfl ?_
    refine j_sipush C0 (pc := 73) dX12_isLiteral_73 (v := (800 : Int32)) (by decide) ?_
    refine j_icmp_ge C0 (pc := 76) (tgt := 117) dX12_isLiteral_76 (by decide) (fun hc => ?_) (fun hc => ?_)
    · replace h := (X_if h).1 hc
      refine j_iconst C0 (pc := 117) dX12_isLiteral_117 (v := (0 : Int32)) (by decide) ?_
      exact j_zret C rfl (by decide) h dX12_isLiteral_118 (by decide)
    · replace h := (X_if h).2 hc
      refine X_join (fun (kj : Nat → Int32 → m_M → Option (Int32 × m_M)) => ∀ (p0 : Nat) (p1 : Int32) (M : m_M), m_ok e_I Φ (kj p0 p1 M) → j_J X 4 111 [some (.ref p0), none, none, some (.int p1)] [] (0, 0) M) h (fun v3 v4 M1 h => ?_) (fun k111 hk111 h => ?_)
      · refine j_iinc C0 (pc := 111) dX12_isLiteral_111 (v := v4 + (1 : Int32)) rfl (Nat.le_of_ble_eq_true rfl) (by rfl) ?_
        refine X_let (G := fun w => j_J X 4 114 [some (.ref v3), none, none, some (.int w)] [] (0, 0) M1) h (fun v5 h => ?_)
        refine j_goto C0 (pc := 114) (tgt := 72) dX12_isLiteral_114 (by decide) ?_
        exact j_J.wq (ih v3 v5 M1 h) (And.intro rfl (And.intro rfl (trivial)))
      · refine j_aload_n C0 (pc := 79) dX12_isLiteral_79 rfl ?_
        refine j_iload_n C0 (pc := 80) dX12_isLiteral_80 rfl ?_
        refine j_iconst C0 (pc := 81) dX12_isLiteral_81 (v := (2 : Int32)) (by decide) ?_
        refine X_idiv C0 (pc := 82) dX12_isLiteral_82 h (fun h => ?_)
        refine X_cV C0 (pc := 83) (e' := e_I) (as := [.int (v2 / (2 : Int32))]) (rest := []) (s' := fun w => .int w :: []) (g' := (0, 0)) v_OM_475_10 (fun Ψ hΨ => K_X12_isClause v1 (v2 / (2 : Int32)) M Ψ hΨ) rfl rfl (fun _ => rfl) (by decide) (by decide) rfl (Nat.le_of_ble_eq_true rfl) dX12_isLiteral_83 h (fun v6 M2 h => ?_)
        refine j_if_eq C0 (pc := 86) (tgt := 111) dX12_isLiteral_86 (by decide) (fun hc => ?_) (fun hc => ?_)
        · replace h := (X_if h).1 hc
          exact j_J.wq (hk111 v1 v2 M2 h) (And.intro rfl (And.intro rfl (trivial)))
        · replace h := (X_if h).2 hc
          refine j_aload_n C0 (pc := 89) dX12_isLiteral_89 rfl ?_
          refine j_aload_n C0 (pc := 90) dX12_isLiteral_90 rfl ?_
          refine X_gN C0 (pc := 91) f_OM_141_10 rfl dX12_isLiteral_91 h (fun v7 h => ?_)
          refine j_bipush C0 (pc := 94) dX12_isLiteral_94 (v := (16 : Int32)) (by decide) ?_
          refine j_iload_n C0 (pc := 96) dX12_isLiteral_96 rfl ?_
          refine j_imul C0 (pc := 97) dX12_isLiteral_97 ?_
          refine j_aload_n C0 (pc := 98) dX12_isLiteral_98 rfl ?_
          refine X_gN C0 (pc := 99) f_OM_138_10 rfl dX12_isLiteral_99 h (fun v8 h => ?_)
          refine j_iconst C0 (pc := 102) dX12_isLiteral_102 (v := (0 : Int32)) (by decide) ?_
          refine X_cV C0 (pc := 103) (e' := e_I) (as := [.ref v7, .int ((16 : Int32) * v2), .ref v8, .int (0 : Int32)]) (rest := []) (s' := fun w => .int w :: []) (g' := (0, 0)) v_OM_484_10 (fun Ψ hΨ => K_X12_areAlike v1 v7 ((16 : Int32) * v2) v8 (0 : Int32) M2 Ψ hΨ) rfl rfl (fun _ => rfl) (by decide) (by decide) rfl (Nat.le_of_ble_eq_true rfl) dX12_isLiteral_103 h (fun v9 M3 h => ?_)
          refine j_if_eq C0 (pc := 106) (tgt := 111) dX12_isLiteral_106 (by decide) (fun hc => ?_) (fun hc => ?_)
          · replace h := (X_if h).1 hc
            exact j_J.wq (hk111 v1 v2 M3 h) (And.intro rfl (And.intro rfl (trivial)))
          · replace h := (X_if h).2 hc
            refine j_iconst C0 (pc := 109) dX12_isLiteral_109 (v := (1 : Int32)) (by decide) ?_
            exact j_zret C rfl (by decide) h dX12_isLiteral_110 (by decide)
set_option maxHeartbeats 4000000 in
theorem L_X12_isLiteral_23 {X : j_X} {Φ : Option Value → m_M → Prop} (C : j_C X yX12_isLiteral cX12_isLiteral 4 (some .boolean) 3 0 0 Φ) {k70 : Nat → m_M → Option (Int32 × m_M)} (hk70 : ∀ (p0 : Nat) (M : m_M), m_ok e_I Φ (k70 p0 M) → j_J X 4 70 [some (.ref p0), none, none, none] [] (0, 0) M) : ∀ (n : Nat) (v1 : Nat) (v2 : Int32) (v3 : Int32) (v4 : Int32) (M : m_M), m_ok e_I Φ (F_X12_isLiteral_23 k70 n v1 v2 v3 v4 M) → j_J X 4 23 [some (.ref v1), some (.int v2), some (.int v3), some (.int v4)] [] (0, 0) M := by
  have C0 := C.1
  intro n
  induction n with
  | zero => intro v1 v2 v3 v4 M h; exact False.elim h
  | succ n ih =>
    intro v1 v2 v3 v4 M h
    rw [F_X12_isLiteral_23] at h
    refine j_iload_n C0 (pc := 23) dX12_isLiteral_23 rfl ?_
    refine j_aload_n C0 (pc := 24) dX12_isLiteral_24 rfl ?_
    refine X_gI C0 (pc := 25) f_OM_383_10 rfl dX12_isLiteral_25 h (fun v5 h => ?_)
    refine j_icmp_ge C0 (pc := 28) (tgt := 70) dX12_isLiteral_28 (by decide) (fun hc => ?_) (fun hc => ?_)
    · replace h := (X_if h).1 hc
      exact j_J.wq (hk70 v1 M h) (And.intro rfl (trivial))
    · replace h := (X_if h).2 hc
      refine X_join (fun (kj : Nat → Int32 → Int32 → Int32 → m_M → Option (Int32 × m_M)) => ∀ (p0 : Nat) (p1 : Int32) (p2 : Int32) (p3 : Int32) (M : m_M), m_ok e_I Φ (kj p0 p1 p2 p3 M) → j_J X 4 64 [some (.ref p0), some (.int p1), some (.int p2), some (.int p3)] [] (0, 0) M) h (fun v6 v7 v8 v9 M1 h => ?_) (fun k64 hk64 h => ?_)
      · refine j_iinc C0 (pc := 64) dX12_isLiteral_64 (v := v9 + (1 : Int32)) rfl (Nat.le_of_ble_eq_true rfl) (by rfl) ?_
        refine X_let (G := fun w => j_J X 4 67 [some (.ref v6), some (.int v7), some (.int v8), some (.int w)] [] (0, 0) M1) h (fun v10 h => ?_)
        refine j_goto C0 (pc := 67) (tgt := 23) dX12_isLiteral_67 (by decide) ?_
        exact j_J.wq (ih v6 v7 v8 v10 M1 h) (And.intro rfl (And.intro rfl (And.intro rfl (And.intro rfl (trivial)))))
      · refine j_aload_n C0 (pc := 31) dX12_isLiteral_31 rfl ?_
        refine j_iload_n C0 (pc := 32) dX12_isLiteral_32 rfl ?_
        refine X_cV C0 (pc := 33) (e' := e_V) (as := [.int v4]) (rest := []) (s' := fun _ => []) (g' := (0, 0)) v_OM_402_10 (fun Ψ hΨ => K_X12_shows v1 v4 M Ψ hΨ) rfl rfl (fun _ => rfl) (by decide) (by decide) rfl (Nat.le_of_ble_eq_true rfl) dX12_isLiteral_33 h (fun _ M2 h => ?_)
        refine j_aload_n C0 (pc := 36) dX12_isLiteral_36 rfl ?_
        refine X_gN C0 (pc := 37) f_OM_87_10 rfl dX12_isLiteral_37 h (fun v11 h => ?_)
        refine j_iload_n C0 (pc := 40) dX12_isLiteral_40 rfl ?_
        refine X_iald C0 (pc := 41) dX12_isLiteral_41 h (fun v12 h => ?_)
        refine j_iload_n C0 (pc := 42) dX12_isLiteral_42 rfl ?_
        refine j_icmp_ne C0 (pc := 43) (tgt := 64) dX12_isLiteral_43 (by decide) (fun hc => ?_) (fun hc => ?_)
        · replace h := (X_if h).2 hc
          exact j_J.wq (hk64 v1 v2 v3 v4 M2 h) (And.intro rfl (And.intro rfl (And.intro rfl (And.intro rfl (trivial)))))
        · replace h := (X_if h).1 hc
          refine j_aload_n C0 (pc := 46) dX12_isLiteral_46 rfl ?_
          refine X_gN C0 (pc := 47) f_OM_138_10 rfl dX12_isLiteral_47 h (fun v13 h => ?_)
          refine j_iload_n C0 (pc := 50) dX12_isLiteral_50 rfl ?_
          refine j_bipush C0 (pc := 51) dX12_isLiteral_51 (v := (64 : Int32)) (by decide) ?_
          refine X_idiv C0 (pc := 53) dX12_isLiteral_53 h (fun h => ?_)
          refine j_dup2 C0 (pc := 54) dX12_isLiteral_54 rfl rfl ?_
          refine X_lald C0 (pc := 55) dX12_isLiteral_55 h (fun v14 h => ?_)
          refine j_lconst C0 (pc := 56) dX12_isLiteral_56 (v := (1 : Int64)) (by decide) ?_
          refine j_iload_n C0 (pc := 57) dX12_isLiteral_57 rfl ?_
          refine j_bipush C0 (pc := 58) dX12_isLiteral_58 (v := (64 : Int32)) (by decide) ?_
          refine X_irem C0 (pc := 60) dX12_isLiteral_60 h (fun h => ?_)
          refine j_lshl C0 (pc := 61) dX12_isLiteral_61 (v := (1 : Int64) <<< ((v4 - v4 / (64 : Int32) * (64 : Int32)).toInt64 &&& 63)) rfl ?_
          refine j_lor C0 (pc := 62) dX12_isLiteral_62 ?_
          refine X_last C0 (pc := 63) dX12_isLiteral_63 h (fun M3 h => ?_)
          exact j_J.wq (hk64 v1 v2 v3 v4 M3 h) (And.intro rfl (And.intro rfl (And.intro rfl (And.intro rfl (trivial)))))
set_option maxHeartbeats 4000000 in
theorem L_X12_isLiteral_2 {X : j_X} {Φ : Option Value → m_M → Prop} (C : j_C X yX12_isLiteral cX12_isLiteral 4 (some .boolean) 3 0 0 Φ) {k21 : Nat → Int32 → Int32 → m_M → Option (Int32 × m_M)} (hk21 : ∀ (p0 : Nat) (p1 : Int32) (p2 : Int32) (M : m_M), m_ok e_I Φ (k21 p0 p1 p2 M) → j_J X 4 21 [some (.ref p0), some (.int p1), some (.int p2), none] [] (0, 0) M) : ∀ (n : Nat) (v1 : Nat) (v2 : Int32) (v3 : Int32) (v4 : Int32) (M : m_M), m_ok e_I Φ (F_X12_isLiteral_2 k21 n v1 v2 v3 v4 M) → j_J X 4 2 [some (.ref v1), some (.int v2), some (.int v3), some (.int v4)] [] (0, 0) M := by
  have C0 := C.1
  intro n
  induction n with
  | zero => intro v1 v2 v3 v4 M h; exact False.elim h
  | succ n ih =>
    intro v1 v2 v3 v4 M h
    rw [F_X12_isLiteral_2] at h
    refine j_iload_n C0 (pc := 2) dX12_isLiteral_2 rfl ?_
    refine j_bipush C0 (pc := 3) dX12_isLiteral_3 (v := (16 : Int32)) (by decide) ?_
    refine j_icmp_ge C0 (pc := 5) (tgt := 21) dX12_isLiteral_5 (by decide) (fun hc => ?_) (fun hc => ?_)
    · replace h := (X_if h).1 hc
      exact j_J.wq (hk21 v1 v2 v3 M h) (And.intro rfl (And.intro rfl (And.intro rfl (trivial))))
    · replace h := (X_if h).2 hc
      refine j_aload_n C0 (pc := 8) dX12_isLiteral_8 rfl ?_
      refine X_gN C0 (pc := 9) f_OM_138_10 rfl dX12_isLiteral_9 h (fun v5 h => ?_)
      refine j_iload_n C0 (pc := 12) dX12_isLiteral_12 rfl ?_
      refine j_lconst C0 (pc := 13) dX12_isLiteral_13 (v := (0 : Int64)) (by decide) ?_
      refine X_last C0 (pc := 14) dX12_isLiteral_14 h (fun M1 h => ?_)
      refine j_iinc C0 (pc := 15) dX12_isLiteral_15 (v := v4 + (1 : Int32)) rfl (Nat.le_of_ble_eq_true rfl) (by rfl) ?_
      refine X_let (G := fun w => j_J X 4 18 [some (.ref v1), some (.int v2), some (.int v3), some (.int w)] [] (0, 0) M1) h (fun v6 h => ?_)
      refine j_goto C0 (pc := 18) (tgt := 2) dX12_isLiteral_18 (by decide) ?_
      exact j_J.wq (ih v1 v2 v3 v6 M1 h) (And.intro rfl (And.intro rfl (And.intro rfl (And.intro rfl (trivial)))))
set_option maxHeartbeats 4000000 in
theorem K_X12_isLiteral (a0 : Nat) (a1 : Int32) (a2 : Int32) (M : m_M) (Φ : Option Value → m_M → Prop) (h : m_ok e_I Φ (F_X12_isLiteral a0 a1 a2 M)) : j_Ct yX12_isLiteral cX12_isLiteral 4 (some .boolean) 3 0 0 [.ref a0, .int a1, .int a2] M Φ := by
  refine j_Ct.of (by decide +kernel) (Nat.le_of_ble_eq_true rfl) fun X C => ?_
  have C0 := C.1
  show j_J X 4 0 [some (.ref a0), some (.int a1), some (.int a2), none] [] (0, 0) M
  unfold F_X12_isLiteral at h
  refine j_iconst C0 (pc := 0) dX12_isLiteral_0 (v := (0 : Int32)) (by decide) ?_
  refine j_istore_n C0 (pc := 1) dX12_isLiteral_1 (Nat.le_of_ble_eq_true rfl) ?_
  show j_J X 4 2 [some (.ref a0), some (.int a1), some (.int a2), some (.int (0 : Int32))] [] (0, 0) M
  refine X_join (fun (kj : Nat → Int32 → Int32 → m_M → Option (Int32 × m_M)) => ∀ (p0 : Nat) (p1 : Int32) (p2 : Int32) (M : m_M), m_ok e_I Φ (kj p0 p1 p2 M) → j_J X 4 21 [some (.ref p0), some (.int p1), some (.int p2), none] [] (0, 0) M) h (fun v1 v2 v3 M1 h => ?_) (fun k21 hk21 h => ?_)
  · refine j_iconst C0 (pc := 21) dX12_isLiteral_21 (v := (0 : Int32)) (by decide) ?_
    refine j_istore_n C0 (pc := 22) dX12_isLiteral_22 (Nat.le_of_ble_eq_true rfl) ?_
    show j_J X 4 23 [some (.ref v1), some (.int v2), some (.int v3), some (.int (0 : Int32))] [] (0, 0) M1
    refine X_join (fun (kj : Nat → m_M → Option (Int32 × m_M)) => ∀ (p0 : Nat) (M : m_M), m_ok e_I Φ (kj p0 M) → j_J X 4 70 [some (.ref p0), none, none, none] [] (0, 0) M) h (fun v4 M2 h => ?_) (fun k70 hk70 h => ?_)
    · refine j_iconst C0 (pc := 70) dX12_isLiteral_70 (v := (0 : Int32)) (by decide) ?_
      refine j_istore_n C0 (pc := 71) dX12_isLiteral_71 (Nat.le_of_ble_eq_true rfl) ?_
      show j_J X 4 72 [some (.ref v4), none, none, some (.int (0 : Int32))] [] (0, 0) M2
      exact j_J.wq (L_X12_isLiteral_72 C m_FU v4 (0 : Int32) M2 h) (And.intro rfl (And.intro rfl (trivial)))
    · exact j_J.wq (L_X12_isLiteral_23 C hk70 m_FU v1 v2 v3 (0 : Int32) M1 h) (And.intro rfl (And.intro rfl (And.intro rfl (And.intro rfl (trivial)))))
  · exact j_J.wq (L_X12_isLiteral_2 C hk21 m_FU a0 a1 a2 (0 : Int32) M h) (And.intro rfl (And.intro rfl (And.intro rfl (And.intro rfl (trivial)))))
theorem dX12_seeksSayable_0 : decode cX12_seeksSayable 0 = .ok (.iconst 0, 1) := by decide +kernel
theorem dX12_seeksSayable_1 : decode cX12_seeksSayable 1 = .ok (.istore_n 1, 1) := by decide +kernel
theorem dX12_seeksSayable_2 : decode cX12_seeksSayable 2 = .ok (.iload_n 1, 1) := by decide +kernel
theorem dX12_seeksSayable_3 : decode cX12_seeksSayable 3 = .ok (.bipush 20, 2) := by decide +kernel
theorem dX12_seeksSayable_5 : decode cX12_seeksSayable 5 = .ok (.if_icmp .ge 16, 3) := by decide +kernel
theorem dX12_seeksSayable_8 : decode cX12_seeksSayable 8 = .ok (.aload_n 0, 1) := by decide +kernel
theorem dX12_seeksSayable_9 : decode cX12_seeksSayable 9 = .ok (.getfield 153, 3) := by decide +kernel
theorem dX12_seeksSayable_12 : decode cX12_seeksSayable 12 = .ok (.iload_n 1, 1) := by decide +kernel
theorem dX12_seeksSayable_13 : decode cX12_seeksSayable 13 = .ok (.iconst 0, 1) := by decide +kernel
theorem dX12_seeksSayable_14 : decode cX12_seeksSayable 14 = .ok (.iastore, 1) := by decide +kernel
theorem dX12_seeksSayable_15 : decode cX12_seeksSayable 15 = .ok (.iinc 1 1, 3) := by decide +kernel
theorem dX12_seeksSayable_18 : decode cX12_seeksSayable 18 = .ok (.goto (-16), 3) := by decide +kernel
theorem dX12_seeksSayable_21 : decode cX12_seeksSayable 21 = .ok (.iconst 0, 1) := by decide +kernel
theorem dX12_seeksSayable_22 : decode cX12_seeksSayable 22 = .ok (.istore_n 1, 1) := by decide +kernel
theorem dX12_seeksSayable_23 : decode cX12_seeksSayable 23 = .ok (.iload_n 1, 1) := by decide +kernel
theorem dX12_seeksSayable_24 : decode cX12_seeksSayable 24 = .ok (.aload_n 0, 1) := by decide +kernel
theorem dX12_seeksSayable_25 : decode cX12_seeksSayable 25 = .ok (.getfield 13, 3) := by decide +kernel
theorem dX12_seeksSayable_28 : decode cX12_seeksSayable 28 = .ok (.iconst 3, 1) := by decide +kernel
theorem dX12_seeksSayable_29 : decode cX12_seeksSayable 29 = .ok (.iaload, 1) := by decide +kernel
theorem dX12_seeksSayable_30 : decode cX12_seeksSayable 30 = .ok (.if_icmp .ge 83, 3) := by decide +kernel
theorem dX12_seeksSayable_33 : decode cX12_seeksSayable 33 = .ok (.aload_n 0, 1) := by decide +kernel
theorem dX12_seeksSayable_34 : decode cX12_seeksSayable 34 = .ok (.iload_n 1, 1) := by decide +kernel
theorem dX12_seeksSayable_35 : decode cX12_seeksSayable 35 = .ok (.aload_n 0, 1) := by decide +kernel
theorem dX12_seeksSayable_36 : decode cX12_seeksSayable 36 = .ok (.getfield 141, 3) := by decide +kernel
theorem dX12_seeksSayable_39 : decode cX12_seeksSayable 39 = .ok (.invokevirtual 521, 3) := by decide +kernel
theorem dX12_seeksSayable_42 : decode cX12_seeksSayable 42 = .ok (.iconst 0, 1) := by decide +kernel
theorem dX12_seeksSayable_43 : decode cX12_seeksSayable 43 = .ok (.istore_n 2, 1) := by decide +kernel
theorem dX12_seeksSayable_44 : decode cX12_seeksSayable 44 = .ok (.iload_n 2, 1) := by decide +kernel
theorem dX12_seeksSayable_45 : decode cX12_seeksSayable 45 = .ok (.aload_n 0, 1) := by decide +kernel
theorem dX12_seeksSayable_46 : decode cX12_seeksSayable 46 = .ok (.getfield 13, 3) := by decide +kernel
theorem dX12_seeksSayable_49 : decode cX12_seeksSayable 49 = .ok (.iconst 1, 1) := by decide +kernel
theorem dX12_seeksSayable_50 : decode cX12_seeksSayable 50 = .ok (.iaload, 1) := by decide +kernel
theorem dX12_seeksSayable_51 : decode cX12_seeksSayable 51 = .ok (.if_icmp .ge 56, 3) := by decide +kernel
theorem dX12_seeksSayable_54 : decode cX12_seeksSayable 54 = .ok (.iconst 0, 1) := by decide +kernel
theorem dX12_seeksSayable_55 : decode cX12_seeksSayable 55 = .ok (.istore_n 3, 1) := by decide +kernel
theorem dX12_seeksSayable_56 : decode cX12_seeksSayable 56 = .ok (.iload_n 3, 1) := by decide +kernel
theorem dX12_seeksSayable_57 : decode cX12_seeksSayable 57 = .ok (.aload_n 0, 1) := by decide +kernel
theorem dX12_seeksSayable_58 : decode cX12_seeksSayable 58 = .ok (.getfield 13, 3) := by decide +kernel
theorem dX12_seeksSayable_61 : decode cX12_seeksSayable 61 = .ok (.iconst 0, 1) := by decide +kernel
theorem dX12_seeksSayable_62 : decode cX12_seeksSayable 62 = .ok (.iaload, 1) := by decide +kernel
theorem dX12_seeksSayable_63 : decode cX12_seeksSayable 63 = .ok (.if_icmp .ge 38, 3) := by decide +kernel
theorem dX12_seeksSayable_66 : decode cX12_seeksSayable 66 = .ok (.aload_n 0, 1) := by decide +kernel
theorem dX12_seeksSayable_67 : decode cX12_seeksSayable 67 = .ok (.getfield 153, 3) := by decide +kernel
theorem dX12_seeksSayable_70 : decode cX12_seeksSayable 70 = .ok (.iconst 4, 1) := by decide +kernel
theorem dX12_seeksSayable_71 : decode cX12_seeksSayable 71 = .ok (.iload_n 2, 1) := by decide +kernel
theorem dX12_seeksSayable_72 : decode cX12_seeksSayable 72 = .ok (.imul, 1) := by decide +kernel
theorem dX12_seeksSayable_73 : decode cX12_seeksSayable 73 = .ok (.iload_n 3, 1) := by decide +kernel
theorem dX12_seeksSayable_74 : decode cX12_seeksSayable 74 = .ok (.iadd, 1) := by decide +kernel
theorem dX12_seeksSayable_75 : decode cX12_seeksSayable 75 = .ok (.dup2, 1) := by decide +kernel
theorem dX12_seeksSayable_76 : decode cX12_seeksSayable 76 = .ok (.iaload, 1) := by decide +kernel
theorem dX12_seeksSayable_77 : decode cX12_seeksSayable 77 = .ok (.aload_n 0, 1) := by decide +kernel
theorem dX12_seeksSayable_78 : decode cX12_seeksSayable 78 = .ok (.iload_n 2, 1) := by decide +kernel
theorem dX12_seeksSayable_79 : decode cX12_seeksSayable 79 = .ok (.iload_n 3, 1) := by decide +kernel
theorem dX12_seeksSayable_80 : decode cX12_seeksSayable 80 = .ok (.invokevirtual 555, 3) := by decide +kernel
theorem dX12_seeksSayable_83 : decode cX12_seeksSayable 83 = .ok (.ifCond .eq 9, 3) := by decide +kernel
theorem dX12_seeksSayable_86 : decode cX12_seeksSayable 86 = .ok (.iconst 1, 1) := by decide +kernel
theorem dX12_seeksSayable_87 : decode cX12_seeksSayable 87 = .ok (.iload_n 1, 1) := by decide +kernel
theorem dX12_seeksSayable_88 : decode cX12_seeksSayable 88 = .ok (.ishl, 1) := by decide +kernel
theorem dX12_seeksSayable_89 : decode cX12_seeksSayable 89 = .ok (.goto 4, 3) := by decide +kernel
theorem dX12_seeksSayable_92 : decode cX12_seeksSayable 92 = .ok (.iconst 0, 1) := by decide +kernel
theorem dX12_seeksSayable_93 : decode cX12_seeksSayable 93 = .ok (.ior, 1) := by decide +kernel
theorem dX12_seeksSayable_94 : decode cX12_seeksSayable 94 = .ok (.iastore, 1) := by decide +kernel
theorem dX12_seeksSayable_95 : decode cX12_seeksSayable 95 = .ok (.iinc 3 1, 3) := by decide +kernel
theorem dX12_seeksSayable_98 : decode cX12_seeksSayable 98 = .ok (.goto (-42), 3) := by decide +kernel
theorem dX12_seeksSayable_101 : decode cX12_seeksSayable 101 = .ok (.iinc 2 1, 3) := by decide +kernel
theorem dX12_seeksSayable_104 : decode cX12_seeksSayable 104 = .ok (.goto (-60), 3) := by decide +kernel
theorem dX12_seeksSayable_107 : decode cX12_seeksSayable 107 = .ok (.iinc 1 1, 3) := by decide +kernel
theorem dX12_seeksSayable_110 : decode cX12_seeksSayable 110 = .ok (.goto (-87), 3) := by decide +kernel
theorem dX12_seeksSayable_113 : decode cX12_seeksSayable 113 = .ok (.return_, 1) := by decide +kernel
noncomputable def F_X12_seeksSayable_56 (k101 : Nat → Int32 → Int32 → m_M → Option (Unit × m_M)) : Nat → Nat → Int32 → Int32 → Int32 → m_M → Option (Unit × m_M)
  | 0, _, _, _, _, _ => none
  | n + 1, v1, v2, v3, v4, M =>
    x_gN 10 M v1 10 fun v5 =>
    x_aI 12 M v5 (0 : Int32) fun v6 =>
    if v6 ≤ v4 then (
      k101 v1 v2 v3 M
    ) else
    m_let (fun (v7 : Nat) (v8 : Int32) (v9 : Int32) (v10 : Int32) (v11 : Nat) (v12 : Int32) (v13 : Int32) (v14 : Int32) (M1 : m_M) =>
      x_sI 12 M1 v11 v12 (v13 ||| v14) fun M2 =>
      m_let (v10 + (1 : Int32)) fun v15 =>
      F_X12_seeksSayable_56 k101 n v7 v8 v9 v15 M2
    ) fun (k93 : Nat → Int32 → Int32 → Int32 → Nat → Int32 → Int32 → Int32 → m_M → Option (Unit × m_M)) =>
    x_gN 10 M v1 72 fun v16 =>
    x_aI 12 M v16 (((4 : Int32) * v3) + v4) fun v17 =>
    x_cV 10 M v1 (F_X12_isLiteral v1 v3 v4 M) fun v18 M3 =>
    if v18 = 0 then (
      k93 v1 v2 v3 v4 v16 (((4 : Int32) * v3) + v4) v17 (0 : Int32) M3
    ) else
    k93 v1 v2 v3 v4 v16 (((4 : Int32) * v3) + v4) v17 ((1 : Int32) <<< (v2 &&& 31)) M3
noncomputable def F_X12_seeksSayable_44 (k107 : Nat → Int32 → m_M → Option (Unit × m_M)) : Nat → Nat → Int32 → Int32 → m_M → Option (Unit × m_M)
  | 0, _, _, _, _ => none
  | n + 1, v1, v2, v3, M =>
    x_gN 10 M v1 10 fun v4 =>
    x_aI 12 M v4 (1 : Int32) fun v5 =>
    if v5 ≤ v3 then (
      k107 v1 v2 M
    ) else
    m_let (fun (v6 : Nat) (v7 : Int32) (v8 : Int32) (M1 : m_M) =>
      m_let (v8 + (1 : Int32)) fun v9 =>
      F_X12_seeksSayable_44 k107 n v6 v7 v9 M1
    ) fun (k101 : Nat → Int32 → Int32 → m_M → Option (Unit × m_M)) =>
    F_X12_seeksSayable_56 k101 m_FU v1 v2 v3 (0 : Int32) M
noncomputable def F_X12_seeksSayable_23 : Nat → Nat → Int32 → m_M → Option (Unit × m_M)
  | 0, _, _, _ => none
  | n + 1, v1, v2, M =>
    x_gN 10 M v1 10 fun v3 =>
    x_aI 12 M v3 (3 : Int32) fun v4 =>
    if v4 ≤ v2 then (
      some ((), M)
    ) else
    x_gN 10 M v1 64 fun v5 =>
    x_cV 10 M v1 (F_X12_laysLiterals v1 v2 v5 M) fun _ M1 =>
    m_let (fun (v6 : Nat) (v7 : Int32) (M2 : m_M) =>
      m_let (v7 + (1 : Int32)) fun v8 =>
      F_X12_seeksSayable_23 n v6 v8 M2
    ) fun (k107 : Nat → Int32 → m_M → Option (Unit × m_M)) =>
    F_X12_seeksSayable_44 k107 m_FU v1 v2 (0 : Int32) M1
noncomputable def F_X12_seeksSayable_2 (k21 : Nat → m_M → Option (Unit × m_M)) : Nat → Nat → Int32 → m_M → Option (Unit × m_M)
  | 0, _, _, _ => none
  | n + 1, v1, v2, M =>
    if (20 : Int32) ≤ v2 then (
      k21 v1 M
    ) else
    x_gN 10 M v1 72 fun v3 =>
    x_sI 12 M v3 v2 (0 : Int32) fun M1 =>
    m_let (v2 + (1 : Int32)) fun v4 =>
    F_X12_seeksSayable_2 k21 n v1 v4 M1
noncomputable def F_X12_seeksSayable (a0 : Nat) (M : m_M) : Option (Unit × m_M) :=
  m_let (fun (v1 : Nat) (M1 : m_M) =>
    F_X12_seeksSayable_23 m_FU v1 (0 : Int32) M1
  ) fun (k21 : Nat → m_M → Option (Unit × m_M)) =>
  F_X12_seeksSayable_2 k21 m_FU a0 (0 : Int32) M
set_option maxHeartbeats 4000000 in
theorem L_X12_seeksSayable_56 {X : j_X} {Φ : Option Value → m_M → Prop} (C : j_C X yX12_seeksSayable cX12_seeksSayable 4 none 9 0 0 Φ) {k101 : Nat → Int32 → Int32 → m_M → Option (Unit × m_M)} (hk101 : ∀ (p0 : Nat) (p1 : Int32) (p2 : Int32) (M : m_M), m_ok e_V Φ (k101 p0 p1 p2 M) → j_J X 4 101 [some (.ref p0), some (.int p1), some (.int p2), none] [] (0, 0) M) : ∀ (n : Nat) (v1 : Nat) (v2 : Int32) (v3 : Int32) (v4 : Int32) (M : m_M), m_ok e_V Φ (F_X12_seeksSayable_56 k101 n v1 v2 v3 v4 M) → j_J X 4 56 [some (.ref v1), some (.int v2), some (.int v3), some (.int v4)] [] (0, 0) M := by
  have C0 := C.1
  intro n
  induction n with
  | zero => intro v1 v2 v3 v4 M h; exact False.elim h
  | succ n ih =>
    intro v1 v2 v3 v4 M h
    rw [F_X12_seeksSayable_56] at h
    refine j_iload_n C0 (pc := 56) dX12_seeksSayable_56 rfl ?_
    refine j_aload_n C0 (pc := 57) dX12_seeksSayable_57 rfl ?_
    refine X_gN C0 (pc := 58) f_OM_13_10 rfl dX12_seeksSayable_58 h (fun v5 h => ?_)
    refine j_iconst C0 (pc := 61) dX12_seeksSayable_61 (v := (0 : Int32)) (by decide) ?_
    refine X_iald C0 (pc := 62) dX12_seeksSayable_62 h (fun v6 h => ?_)
    refine j_icmp_ge C0 (pc := 63) (tgt := 101) dX12_seeksSayable_63 (by decide) (fun hc => ?_) (fun hc => ?_)
    · replace h := (X_if h).1 hc
      exact j_J.wq (hk101 v1 v2 v3 M h) (And.intro rfl (And.intro rfl (And.intro rfl (trivial))))
    · replace h := (X_if h).2 hc
      refine X_join (fun (kj : Nat → Int32 → Int32 → Int32 → Nat → Int32 → Int32 → Int32 → m_M → Option (Unit × m_M)) => ∀ (p0 : Nat) (p1 : Int32) (p2 : Int32) (p3 : Int32) (p4 : Nat) (p5 : Int32) (p6 : Int32) (p7 : Int32) (M : m_M), m_ok e_V Φ (kj p0 p1 p2 p3 p4 p5 p6 p7 M) → j_J X 4 93 [some (.ref p0), some (.int p1), some (.int p2), some (.int p3)] [.int p7, .int p6, .int p5, .ref p4] (0, 0) M) h (fun v7 v8 v9 v10 v11 v12 v13 v14 M1 h => ?_) (fun k93 hk93 h => ?_)
      · refine j_ior C0 (pc := 93) dX12_seeksSayable_93 ?_
        refine X_iast C0 (pc := 94) dX12_seeksSayable_94 h (fun M2 h => ?_)
        refine j_iinc C0 (pc := 95) dX12_seeksSayable_95 (v := v10 + (1 : Int32)) rfl (Nat.le_of_ble_eq_true rfl) (by rfl) ?_
        refine X_let (G := fun w => j_J X 4 98 [some (.ref v7), some (.int v8), some (.int v9), some (.int w)] [] (0, 0) M2) h (fun v15 h => ?_)
        refine j_goto C0 (pc := 98) (tgt := 56) dX12_seeksSayable_98 (by decide) ?_
        exact j_J.wq (ih v7 v8 v9 v15 M2 h) (And.intro rfl (And.intro rfl (And.intro rfl (And.intro rfl (trivial)))))
      · refine j_aload_n C0 (pc := 66) dX12_seeksSayable_66 rfl ?_
        refine X_gN C0 (pc := 67) f_OM_153_10 rfl dX12_seeksSayable_67 h (fun v16 h => ?_)
        refine j_iconst C0 (pc := 70) dX12_seeksSayable_70 (v := (4 : Int32)) (by decide) ?_
        refine j_iload_n C0 (pc := 71) dX12_seeksSayable_71 rfl ?_
        refine j_imul C0 (pc := 72) dX12_seeksSayable_72 ?_
        refine j_iload_n C0 (pc := 73) dX12_seeksSayable_73 rfl ?_
        refine j_iadd C0 (pc := 74) dX12_seeksSayable_74 ?_
        refine j_dup2 C0 (pc := 75) dX12_seeksSayable_75 rfl rfl ?_
        refine X_iald C0 (pc := 76) dX12_seeksSayable_76 h (fun v17 h => ?_)
        refine j_aload_n C0 (pc := 77) dX12_seeksSayable_77 rfl ?_
        refine j_iload_n C0 (pc := 78) dX12_seeksSayable_78 rfl ?_
        refine j_iload_n C0 (pc := 79) dX12_seeksSayable_79 rfl ?_
        refine X_cV C0 (pc := 80) (e' := e_I) (as := [.int v3, .int v4]) (rest := [.int v17, .int (((4 : Int32) * v3) + v4), .ref v16]) (s' := fun w => .int w :: [.int v17, .int (((4 : Int32) * v3) + v4), .ref v16]) (g' := (0, 0)) v_OM_555_10 (fun Ψ hΨ => K_X12_isLiteral v1 v3 v4 M Ψ hΨ) rfl rfl (fun _ => rfl) (by decide) (by decide) rfl (Nat.le_of_ble_eq_true rfl) dX12_seeksSayable_80 h (fun v18 M3 h => ?_)
        refine j_if_eq C0 (pc := 83) (tgt := 92) dX12_seeksSayable_83 (by decide) (fun hc => ?_) (fun hc => ?_)
        · replace h := (X_if h).1 hc
          refine j_iconst C0 (pc := 92) dX12_seeksSayable_92 (v := (0 : Int32)) (by decide) ?_
          exact j_J.wq (hk93 v1 v2 v3 v4 v16 (((4 : Int32) * v3) + v4) v17 (0 : Int32) M3 h) (And.intro rfl (And.intro rfl (And.intro rfl (And.intro rfl (trivial)))))
        · replace h := (X_if h).2 hc
          refine j_iconst C0 (pc := 86) dX12_seeksSayable_86 (v := (1 : Int32)) (by decide) ?_
          refine j_iload_n C0 (pc := 87) dX12_seeksSayable_87 rfl ?_
          refine j_ishl C0 (pc := 88) dX12_seeksSayable_88 ?_
          refine j_goto C0 (pc := 89) (tgt := 93) dX12_seeksSayable_89 (by decide) ?_
          exact j_J.wq (hk93 v1 v2 v3 v4 v16 (((4 : Int32) * v3) + v4) v17 ((1 : Int32) <<< (v2 &&& 31)) M3 h) (And.intro rfl (And.intro rfl (And.intro rfl (And.intro rfl (trivial)))))
set_option maxHeartbeats 4000000 in
theorem L_X12_seeksSayable_44 {X : j_X} {Φ : Option Value → m_M → Prop} (C : j_C X yX12_seeksSayable cX12_seeksSayable 4 none 9 0 0 Φ) {k107 : Nat → Int32 → m_M → Option (Unit × m_M)} (hk107 : ∀ (p0 : Nat) (p1 : Int32) (M : m_M), m_ok e_V Φ (k107 p0 p1 M) → j_J X 4 107 [some (.ref p0), some (.int p1), none, none] [] (0, 0) M) : ∀ (n : Nat) (v1 : Nat) (v2 : Int32) (v3 : Int32) (M : m_M), m_ok e_V Φ (F_X12_seeksSayable_44 k107 n v1 v2 v3 M) → j_J X 4 44 [some (.ref v1), some (.int v2), some (.int v3), none] [] (0, 0) M := by
  have C0 := C.1
  intro n
  induction n with
  | zero => intro v1 v2 v3 M h; exact False.elim h
  | succ n ih =>
    intro v1 v2 v3 M h
    rw [F_X12_seeksSayable_44] at h
    refine j_iload_n C0 (pc := 44) dX12_seeksSayable_44 rfl ?_
    refine j_aload_n C0 (pc := 45) dX12_seeksSayable_45 rfl ?_
    refine X_gN C0 (pc := 46) f_OM_13_10 rfl dX12_seeksSayable_46 h (fun v4 h => ?_)
    refine j_iconst C0 (pc := 49) dX12_seeksSayable_49 (v := (1 : Int32)) (by decide) ?_
    refine X_iald C0 (pc := 50) dX12_seeksSayable_50 h (fun v5 h => ?_)
    refine j_icmp_ge C0 (pc := 51) (tgt := 107) dX12_seeksSayable_51 (by decide) (fun hc => ?_) (fun hc => ?_)
    · replace h := (X_if h).1 hc
      exact j_J.wq (hk107 v1 v2 M h) (And.intro rfl (And.intro rfl (trivial)))
    · replace h := (X_if h).2 hc
      refine j_iconst C0 (pc := 54) dX12_seeksSayable_54 (v := (0 : Int32)) (by decide) ?_
      refine j_istore_n C0 (pc := 55) dX12_seeksSayable_55 (Nat.le_of_ble_eq_true rfl) ?_
      show j_J X 4 56 [some (.ref v1), some (.int v2), some (.int v3), some (.int (0 : Int32))] [] (0, 0) M
      refine X_join (fun (kj : Nat → Int32 → Int32 → m_M → Option (Unit × m_M)) => ∀ (p0 : Nat) (p1 : Int32) (p2 : Int32) (M : m_M), m_ok e_V Φ (kj p0 p1 p2 M) → j_J X 4 101 [some (.ref p0), some (.int p1), some (.int p2), none] [] (0, 0) M) h (fun v6 v7 v8 M1 h => ?_) (fun k101 hk101 h => ?_)
      · refine j_iinc C0 (pc := 101) dX12_seeksSayable_101 (v := v8 + (1 : Int32)) rfl (Nat.le_of_ble_eq_true rfl) (by rfl) ?_
        refine X_let (G := fun w => j_J X 4 104 [some (.ref v6), some (.int v7), some (.int w), none] [] (0, 0) M1) h (fun v9 h => ?_)
        refine j_goto C0 (pc := 104) (tgt := 44) dX12_seeksSayable_104 (by decide) ?_
        exact j_J.wq (ih v6 v7 v9 M1 h) (And.intro rfl (And.intro rfl (And.intro rfl (trivial))))
      · exact j_J.wq (L_X12_seeksSayable_56 C hk101 m_FU v1 v2 v3 (0 : Int32) M h) (And.intro rfl (And.intro rfl (And.intro rfl (And.intro rfl (trivial)))))
set_option maxHeartbeats 4000000 in
theorem L_X12_seeksSayable_23 {X : j_X} {Φ : Option Value → m_M → Prop} (C : j_C X yX12_seeksSayable cX12_seeksSayable 4 none 9 0 0 Φ) : ∀ (n : Nat) (v1 : Nat) (v2 : Int32) (M : m_M), m_ok e_V Φ (F_X12_seeksSayable_23 n v1 v2 M) → j_J X 4 23 [some (.ref v1), some (.int v2), none, none] [] (0, 0) M := by
  have C0 := C.1
  intro n
  induction n with
  | zero => intro v1 v2 M h; exact False.elim h
  | succ n ih =>
    intro v1 v2 M h
    rw [F_X12_seeksSayable_23] at h
    refine j_iload_n C0 (pc := 23) dX12_seeksSayable_23 rfl ?_
    refine j_aload_n C0 (pc := 24) dX12_seeksSayable_24 rfl ?_
    refine X_gN C0 (pc := 25) f_OM_13_10 rfl dX12_seeksSayable_25 h (fun v3 h => ?_)
    refine j_iconst C0 (pc := 28) dX12_seeksSayable_28 (v := (3 : Int32)) (by decide) ?_
    refine X_iald C0 (pc := 29) dX12_seeksSayable_29 h (fun v4 h => ?_)
    refine j_icmp_ge C0 (pc := 30) (tgt := 113) dX12_seeksSayable_30 (by decide) (fun hc => ?_) (fun hc => ?_)
    · replace h := (X_if h).1 hc
      exact j_vret C rfl h dX12_seeksSayable_113 (by decide)
    · replace h := (X_if h).2 hc
      refine j_aload_n C0 (pc := 33) dX12_seeksSayable_33 rfl ?_
      refine j_iload_n C0 (pc := 34) dX12_seeksSayable_34 rfl ?_
      refine j_aload_n C0 (pc := 35) dX12_seeksSayable_35 rfl ?_
      refine X_gN C0 (pc := 36) f_OM_141_10 rfl dX12_seeksSayable_36 h (fun v5 h => ?_)
      refine X_cV C0 (pc := 39) (e' := e_V) (as := [.int v2, .ref v5]) (rest := []) (s' := fun _ => []) (g' := (0, 0)) v_OM_521_10 (fun Ψ hΨ => K_X12_laysLiterals v1 v2 v5 M Ψ hΨ) rfl rfl (fun _ => rfl) (by decide) (by decide) rfl (Nat.le_of_ble_eq_true rfl) dX12_seeksSayable_39 h (fun _ M1 h => ?_)
      refine j_iconst C0 (pc := 42) dX12_seeksSayable_42 (v := (0 : Int32)) (by decide) ?_
      refine j_istore_n C0 (pc := 43) dX12_seeksSayable_43 (Nat.le_of_ble_eq_true rfl) ?_
      show j_J X 4 44 [some (.ref v1), some (.int v2), some (.int (0 : Int32)), none] [] (0, 0) M1
      refine X_join (fun (kj : Nat → Int32 → m_M → Option (Unit × m_M)) => ∀ (p0 : Nat) (p1 : Int32) (M : m_M), m_ok e_V Φ (kj p0 p1 M) → j_J X 4 107 [some (.ref p0), some (.int p1), none, none] [] (0, 0) M) h (fun v6 v7 M2 h => ?_) (fun k107 hk107 h => ?_)
      · refine j_iinc C0 (pc := 107) dX12_seeksSayable_107 (v := v7 + (1 : Int32)) rfl (Nat.le_of_ble_eq_true rfl) (by rfl) ?_
        refine X_let (G := fun w => j_J X 4 110 [some (.ref v6), some (.int w), none, none] [] (0, 0) M2) h (fun v8 h => ?_)
        refine j_goto C0 (pc := 110) (tgt := 23) dX12_seeksSayable_110 (by decide) ?_
        exact j_J.wq (ih v6 v8 M2 h) (And.intro rfl (And.intro rfl (trivial)))
      · exact j_J.wq (L_X12_seeksSayable_44 C hk107 m_FU v1 v2 (0 : Int32) M1 h) (And.intro rfl (And.intro rfl (And.intro rfl (trivial))))
set_option maxHeartbeats 4000000 in
theorem L_X12_seeksSayable_2 {X : j_X} {Φ : Option Value → m_M → Prop} (C : j_C X yX12_seeksSayable cX12_seeksSayable 4 none 9 0 0 Φ) {k21 : Nat → m_M → Option (Unit × m_M)} (hk21 : ∀ (p0 : Nat) (M : m_M), m_ok e_V Φ (k21 p0 M) → j_J X 4 21 [some (.ref p0), none, none, none] [] (0, 0) M) : ∀ (n : Nat) (v1 : Nat) (v2 : Int32) (M : m_M), m_ok e_V Φ (F_X12_seeksSayable_2 k21 n v1 v2 M) → j_J X 4 2 [some (.ref v1), some (.int v2), none, none] [] (0, 0) M := by
  have C0 := C.1
  intro n
  induction n with
  | zero => intro v1 v2 M h; exact False.elim h
  | succ n ih =>
    intro v1 v2 M h
    rw [F_X12_seeksSayable_2] at h
    refine j_iload_n C0 (pc := 2) dX12_seeksSayable_2 rfl ?_
    refine j_bipush C0 (pc := 3) dX12_seeksSayable_3 (v := (20 : Int32)) (by decide) ?_
    refine j_icmp_ge C0 (pc := 5) (tgt := 21) dX12_seeksSayable_5 (by decide) (fun hc => ?_) (fun hc => ?_)
    · replace h := (X_if h).1 hc
      exact j_J.wq (hk21 v1 M h) (And.intro rfl (trivial))
    · replace h := (X_if h).2 hc
      refine j_aload_n C0 (pc := 8) dX12_seeksSayable_8 rfl ?_
      refine X_gN C0 (pc := 9) f_OM_153_10 rfl dX12_seeksSayable_9 h (fun v3 h => ?_)
      refine j_iload_n C0 (pc := 12) dX12_seeksSayable_12 rfl ?_
      refine j_iconst C0 (pc := 13) dX12_seeksSayable_13 (v := (0 : Int32)) (by decide) ?_
      refine X_iast C0 (pc := 14) dX12_seeksSayable_14 h (fun M1 h => ?_)
      refine j_iinc C0 (pc := 15) dX12_seeksSayable_15 (v := v2 + (1 : Int32)) rfl (Nat.le_of_ble_eq_true rfl) (by rfl) ?_
      refine X_let (G := fun w => j_J X 4 18 [some (.ref v1), some (.int w), none, none] [] (0, 0) M1) h (fun v4 h => ?_)
      refine j_goto C0 (pc := 18) (tgt := 2) dX12_seeksSayable_18 (by decide) ?_
      exact j_J.wq (ih v1 v4 M1 h) (And.intro rfl (And.intro rfl (trivial)))
set_option maxHeartbeats 4000000 in
theorem K_X12_seeksSayable (a0 : Nat) (M : m_M) (Φ : Option Value → m_M → Prop) (h : m_ok e_V Φ (F_X12_seeksSayable a0 M)) : j_Ct yX12_seeksSayable cX12_seeksSayable 4 none 9 0 0 [.ref a0] M Φ := by
  refine j_Ct.of (by decide +kernel) (Nat.le_of_ble_eq_true rfl) fun X C => ?_
  have C0 := C.1
  show j_J X 4 0 [some (.ref a0), none, none, none] [] (0, 0) M
  unfold F_X12_seeksSayable at h
  refine j_iconst C0 (pc := 0) dX12_seeksSayable_0 (v := (0 : Int32)) (by decide) ?_
  refine j_istore_n C0 (pc := 1) dX12_seeksSayable_1 (Nat.le_of_ble_eq_true rfl) ?_
  show j_J X 4 2 [some (.ref a0), some (.int (0 : Int32)), none, none] [] (0, 0) M
  refine X_join (fun (kj : Nat → m_M → Option (Unit × m_M)) => ∀ (p0 : Nat) (M : m_M), m_ok e_V Φ (kj p0 M) → j_J X 4 21 [some (.ref p0), none, none, none] [] (0, 0) M) h (fun v1 M1 h => ?_) (fun k21 hk21 h => ?_)
  · refine j_iconst C0 (pc := 21) dX12_seeksSayable_21 (v := (0 : Int32)) (by decide) ?_
    refine j_istore_n C0 (pc := 22) dX12_seeksSayable_22 (Nat.le_of_ble_eq_true rfl) ?_
    show j_J X 4 23 [some (.ref v1), some (.int (0 : Int32)), none, none] [] (0, 0) M1
    exact j_J.wq (L_X12_seeksSayable_23 C m_FU v1 (0 : Int32) M1 h) (And.intro rfl (And.intro rfl (trivial)))
  · exact j_J.wq (L_X12_seeksSayable_2 C hk21 m_FU a0 (0 : Int32) M h) (And.intro rfl (And.intro rfl (trivial)))
theorem dX12_cover_0 : decode cX12_cover 0 = .ok (.aload_n 0, 1) := by decide +kernel
theorem dX12_cover_1 : decode cX12_cover 1 = .ok (.iconst 0, 1) := by decide +kernel
theorem dX12_cover_2 : decode cX12_cover 2 = .ok (.putfield 163, 3) := by decide +kernel
theorem dX12_cover_5 : decode cX12_cover 5 = .ok (.iload_n 1, 1) := by decide +kernel
theorem dX12_cover_6 : decode cX12_cover 6 = .ok (.iconst 0, 1) := by decide +kernel
theorem dX12_cover_7 : decode cX12_cover 7 = .ok (.iconst 1, 1) := by decide +kernel
theorem dX12_cover_8 : decode cX12_cover 8 = .ok (.invokestatic 279, 3) := by decide +kernel
theorem dX12_cover_11 : decode cX12_cover 11 = .ok (.ifCond .ne 5, 3) := by decide +kernel
theorem dX12_cover_14 : decode cX12_cover 14 = .ok (.iconst (-1), 1) := by decide +kernel
theorem dX12_cover_15 : decode cX12_cover 15 = .ok (.ireturn, 1) := by decide +kernel
theorem dX12_cover_16 : decode cX12_cover 16 = .ok (.aload_n 0, 1) := by decide +kernel
theorem dX12_cover_17 : decode cX12_cover 17 = .ok (.invokevirtual 558, 3) := by decide +kernel
theorem dX12_cover_20 : decode cX12_cover 20 = .ok (.iconst (-1), 1) := by decide +kernel
theorem dX12_cover_21 : decode cX12_cover 21 = .ok (.istore_n 2, 1) := by decide +kernel
theorem dX12_cover_22 : decode cX12_cover 22 = .ok (.iconst 0, 1) := by decide +kernel
theorem dX12_cover_23 : decode cX12_cover 23 = .ok (.istore_n 3, 1) := by decide +kernel
theorem dX12_cover_24 : decode cX12_cover 24 = .ok (.iload_n 3, 1) := by decide +kernel
theorem dX12_cover_25 : decode cX12_cover 25 = .ok (.iconst 1, 1) := by decide +kernel
theorem dX12_cover_26 : decode cX12_cover 26 = .ok (.aload_n 0, 1) := by decide +kernel
theorem dX12_cover_27 : decode cX12_cover 27 = .ok (.getfield 13, 3) := by decide +kernel
theorem dX12_cover_30 : decode cX12_cover 30 = .ok (.iconst 3, 1) := by decide +kernel
theorem dX12_cover_31 : decode cX12_cover 31 = .ok (.iaload, 1) := by decide +kernel
theorem dX12_cover_32 : decode cX12_cover 32 = .ok (.ishl, 1) := by decide +kernel
theorem dX12_cover_33 : decode cX12_cover 33 = .ok (.if_icmp .ge 88, 3) := by decide +kernel
theorem dX12_cover_36 : decode cX12_cover 36 = .ok (.iconst 1, 1) := by decide +kernel
theorem dX12_cover_37 : decode cX12_cover 37 = .ok (.istore 4, 2) := by decide +kernel
theorem dX12_cover_39 : decode cX12_cover 39 = .ok (.iconst 0, 1) := by decide +kernel
theorem dX12_cover_40 : decode cX12_cover 40 = .ok (.istore 5, 2) := by decide +kernel
theorem dX12_cover_42 : decode cX12_cover 42 = .ok (.iload 5, 2) := by decide +kernel
theorem dX12_cover_44 : decode cX12_cover 44 = .ok (.bipush 20, 2) := by decide +kernel
theorem dX12_cover_46 : decode cX12_cover 46 = .ok (.if_icmp .ge 43, 3) := by decide +kernel
theorem dX12_cover_49 : decode cX12_cover 49 = .ok (.iload 4, 2) := by decide +kernel
theorem dX12_cover_51 : decode cX12_cover 51 = .ok (.ifCond .eq 29, 3) := by decide +kernel
theorem dX12_cover_54 : decode cX12_cover 54 = .ok (.aload_n 0, 1) := by decide +kernel
theorem dX12_cover_55 : decode cX12_cover 55 = .ok (.getfield 153, 3) := by decide +kernel
theorem dX12_cover_58 : decode cX12_cover 58 = .ok (.iload 5, 2) := by decide +kernel
theorem dX12_cover_60 : decode cX12_cover 60 = .ok (.iaload, 1) := by decide +kernel
theorem dX12_cover_61 : decode cX12_cover 61 = .ok (.ifCond .eq 15, 3) := by decide +kernel
theorem dX12_cover_64 : decode cX12_cover 64 = .ok (.aload_n 0, 1) := by decide +kernel
theorem dX12_cover_65 : decode cX12_cover 65 = .ok (.getfield 153, 3) := by decide +kernel
theorem dX12_cover_68 : decode cX12_cover 68 = .ok (.iload 5, 2) := by decide +kernel
theorem dX12_cover_70 : decode cX12_cover 70 = .ok (.iaload, 1) := by decide +kernel
theorem dX12_cover_71 : decode cX12_cover 71 = .ok (.iload_n 3, 1) := by decide +kernel
theorem dX12_cover_72 : decode cX12_cover 72 = .ok (.iand, 1) := by decide +kernel
theorem dX12_cover_73 : decode cX12_cover 73 = .ok (.ifCond .eq 7, 3) := by decide +kernel
theorem dX12_cover_76 : decode cX12_cover 76 = .ok (.iconst 1, 1) := by decide +kernel
theorem dX12_cover_77 : decode cX12_cover 77 = .ok (.goto 4, 3) := by decide +kernel
theorem dX12_cover_80 : decode cX12_cover 80 = .ok (.iconst 0, 1) := by decide +kernel
theorem dX12_cover_81 : decode cX12_cover 81 = .ok (.istore 4, 2) := by decide +kernel
theorem dX12_cover_83 : decode cX12_cover 83 = .ok (.iinc 5 1, 3) := by decide +kernel
theorem dX12_cover_86 : decode cX12_cover 86 = .ok (.goto (-44), 3) := by decide +kernel
theorem dX12_cover_89 : decode cX12_cover 89 = .ok (.iload 4, 2) := by decide +kernel
theorem dX12_cover_91 : decode cX12_cover 91 = .ok (.ifCond .eq 22, 3) := by decide +kernel
theorem dX12_cover_94 : decode cX12_cover 94 = .ok (.iload_n 2, 1) := by decide +kernel
theorem dX12_cover_95 : decode cX12_cover 95 = .ok (.ifCond .lt 14, 3) := by decide +kernel
theorem dX12_cover_98 : decode cX12_cover 98 = .ok (.iload_n 3, 1) := by decide +kernel
theorem dX12_cover_99 : decode cX12_cover 99 = .ok (.invokestatic 495, 3) := by decide +kernel
theorem dX12_cover_102 : decode cX12_cover 102 = .ok (.iload_n 2, 1) := by decide +kernel
theorem dX12_cover_103 : decode cX12_cover 103 = .ok (.invokestatic 495, 3) := by decide +kernel
theorem dX12_cover_106 : decode cX12_cover 106 = .ok (.if_icmp .ge 7, 3) := by decide +kernel
theorem dX12_cover_109 : decode cX12_cover 109 = .ok (.iload_n 3, 1) := by decide +kernel
theorem dX12_cover_110 : decode cX12_cover 110 = .ok (.goto 4, 3) := by decide +kernel
theorem dX12_cover_113 : decode cX12_cover 113 = .ok (.iload_n 2, 1) := by decide +kernel
theorem dX12_cover_114 : decode cX12_cover 114 = .ok (.istore_n 2, 1) := by decide +kernel
theorem dX12_cover_115 : decode cX12_cover 115 = .ok (.iinc 3 1, 3) := by decide +kernel
theorem dX12_cover_118 : decode cX12_cover 118 = .ok (.goto (-94), 3) := by decide +kernel
theorem dX12_cover_121 : decode cX12_cover 121 = .ok (.iload_n 1, 1) := by decide +kernel
theorem dX12_cover_122 : decode cX12_cover 122 = .ok (.ifCond .ne 10, 3) := by decide +kernel
theorem dX12_cover_125 : decode cX12_cover 125 = .ok (.iload_n 2, 1) := by decide +kernel
theorem dX12_cover_126 : decode cX12_cover 126 = .ok (.invokestatic 495, 3) := by decide +kernel
theorem dX12_cover_129 : decode cX12_cover 129 = .ok (.goto 4, 3) := by decide +kernel
theorem dX12_cover_132 : decode cX12_cover 132 = .ok (.iload_n 2, 1) := by decide +kernel
theorem dX12_cover_133 : decode cX12_cover 133 = .ok (.ireturn, 1) := by decide +kernel
noncomputable def F_X12_cover_42 (k89 : Nat → Int32 → Int32 → Int32 → Int32 → m_M → Option (Int32 × m_M)) : Nat → Nat → Int32 → Int32 → Int32 → Int32 → Int32 → m_M → Option (Int32 × m_M)
  | 0, _, _, _, _, _, _, _ => none
  | n + 1, v1, v2, v3, v4, v5, v6, M =>
    if (20 : Int32) ≤ v6 then (
      k89 v1 v2 v3 v4 v5 M
    ) else
    m_let (fun (v7 : Nat) (v8 : Int32) (v9 : Int32) (v10 : Int32) (v11 : Int32) (v12 : Int32) (M1 : m_M) =>
      m_let (v11 + (1 : Int32)) fun v13 =>
      F_X12_cover_42 k89 n v7 v8 v9 v10 v12 v13 M1
    ) fun (k81 : Nat → Int32 → Int32 → Int32 → Int32 → Int32 → m_M → Option (Int32 × m_M)) =>
    m_let (fun (v14 : Nat) (v15 : Int32) (v16 : Int32) (v17 : Int32) (v18 : Int32) (M2 : m_M) =>
      k81 v14 v15 v16 v17 v18 (0 : Int32) M2
    ) fun (k80 : Nat → Int32 → Int32 → Int32 → Int32 → m_M → Option (Int32 × m_M)) =>
    if v5 = 0 then (
      k80 v1 v2 v3 v4 v6 M
    ) else
    m_let (fun (v19 : Nat) (v20 : Int32) (v21 : Int32) (v22 : Int32) (v23 : Int32) (M3 : m_M) =>
      k81 v19 v20 v21 v22 v23 (1 : Int32) M3
    ) fun (k76 : Nat → Int32 → Int32 → Int32 → Int32 → m_M → Option (Int32 × m_M)) =>
    x_gN 10 M v1 72 fun v24 =>
    x_aI 12 M v24 v6 fun v25 =>
    if v25 = 0 then (
      k76 v1 v2 v3 v4 v6 M
    ) else
    x_gN 10 M v1 72 fun v26 =>
    x_aI 12 M v26 v6 fun v27 =>
    if (v27 &&& v4) = 0 then (
      k80 v1 v2 v3 v4 v6 M
    ) else
    k76 v1 v2 v3 v4 v6 M
noncomputable def F_X12_cover_24 (k121 : Int32 → Int32 → m_M → Option (Int32 × m_M)) : Nat → Nat → Int32 → Int32 → Int32 → m_M → Option (Int32 × m_M)
  | 0, _, _, _, _, _ => none
  | n + 1, v1, v2, v3, v4, M =>
    x_gN 10 M v1 10 fun v5 =>
    x_aI 12 M v5 (3 : Int32) fun v6 =>
    if ((1 : Int32) <<< (v6 &&& 31)) ≤ v4 then (
      k121 v2 v3 M
    ) else
    m_let (fun (v7 : Nat) (v8 : Int32) (v9 : Int32) (v10 : Int32) (v11 : Int32) (M1 : m_M) =>
      m_let (fun (v12 : Nat) (v13 : Int32) (v14 : Int32) (v15 : Int32) (M2 : m_M) =>
        m_let (v14 + (1 : Int32)) fun v16 =>
        F_X12_cover_24 k121 n v12 v13 v15 v16 M2
      ) fun (k114 : Nat → Int32 → Int32 → Int32 → m_M → Option (Int32 × m_M)) =>
      m_let (fun (v17 : Nat) (v18 : Int32) (v19 : Int32) (v20 : Int32) (M3 : m_M) =>
        k114 v17 v18 v20 v19 M3
      ) fun (k113 : Nat → Int32 → Int32 → Int32 → m_M → Option (Int32 × m_M)) =>
      if v11 = 0 then (
        k113 v7 v8 v9 v10 M1
      ) else
      m_let (fun (v21 : Nat) (v22 : Int32) (v23 : Int32) (M4 : m_M) =>
        k114 v21 v22 v23 v23 M4
      ) fun (k109 : Nat → Int32 → Int32 → m_M → Option (Int32 × m_M)) =>
      if v9 < 0 then (
        k109 v7 v8 v10 M1
      ) else
      x_bd (F_X12_bits v10 M1) fun v24 M5 =>
      x_bd (F_X12_bits v9 M5) fun v25 M6 =>
      if v25 ≤ v24 then (
        k113 v7 v8 v9 v10 M6
      ) else
      k109 v7 v8 v10 M6
    ) fun (k89 : Nat → Int32 → Int32 → Int32 → Int32 → m_M → Option (Int32 × m_M)) =>
    F_X12_cover_42 k89 m_FU v1 v2 v3 v4 (1 : Int32) (0 : Int32) M
noncomputable def F_X12_cover (a0 : Nat) (a1 : Int32) (M : m_M) : Option (Int32 × m_M) :=
  x_pI 10 M a0 0 (0 : Int32) fun M1 =>
  x_bd (F_X12_within a1 (0 : Int32) (1 : Int32) M1) fun v1 M2 =>
  if v1 = 0 then (
    some ((-1 : Int32), M2)
  ) else
  x_cV 10 M2 a0 (F_X12_seeksSayable a0 M2) fun _ M3 =>
  m_let (fun (v2 : Int32) (v3 : Int32) (M4 : m_M) =>
    if v2 = 0 then (
      x_bd (F_X12_bits v3 M4) fun v4 M5 =>
      some (v4, M5)
    ) else
    some (v3, M4)
  ) fun (k121 : Int32 → Int32 → m_M → Option (Int32 × m_M)) =>
  F_X12_cover_24 k121 m_FU a0 a1 (-1 : Int32) (0 : Int32) M3
set_option maxHeartbeats 4000000 in
theorem L_X12_cover_42 {X : j_X} {Φ : Option Value → m_M → Prop} (C : j_C X yX12_cover cX12_cover 6 (some .int) 10 0 0 Φ) {k89 : Nat → Int32 → Int32 → Int32 → Int32 → m_M → Option (Int32 × m_M)} (hk89 : ∀ (p0 : Nat) (p1 : Int32) (p2 : Int32) (p3 : Int32) (p4 : Int32) (M : m_M), m_ok e_I Φ (k89 p0 p1 p2 p3 p4 M) → j_J X 6 89 [some (.ref p0), some (.int p1), some (.int p2), some (.int p3), some (.int p4), none] [] (0, 0) M) : ∀ (n : Nat) (v1 : Nat) (v2 : Int32) (v3 : Int32) (v4 : Int32) (v5 : Int32) (v6 : Int32) (M : m_M), m_ok e_I Φ (F_X12_cover_42 k89 n v1 v2 v3 v4 v5 v6 M) → j_J X 6 42 [some (.ref v1), some (.int v2), some (.int v3), some (.int v4), some (.int v5), some (.int v6)] [] (0, 0) M := by
  have C0 := C.1
  intro n
  induction n with
  | zero => intro v1 v2 v3 v4 v5 v6 M h; exact False.elim h
  | succ n ih =>
    intro v1 v2 v3 v4 v5 v6 M h
    rw [F_X12_cover_42] at h
    refine j_iload C0 (pc := 42) dX12_cover_42 rfl ?_
    refine j_bipush C0 (pc := 44) dX12_cover_44 (v := (20 : Int32)) (by decide) ?_
    refine j_icmp_ge C0 (pc := 46) (tgt := 89) dX12_cover_46 (by decide) (fun hc => ?_) (fun hc => ?_)
    · replace h := (X_if h).1 hc
      exact j_J.wq (hk89 v1 v2 v3 v4 v5 M h) (And.intro rfl (And.intro rfl (And.intro rfl (And.intro rfl (And.intro rfl (trivial))))))
    · replace h := (X_if h).2 hc
      refine X_join (fun (kj : Nat → Int32 → Int32 → Int32 → Int32 → Int32 → m_M → Option (Int32 × m_M)) => ∀ (p0 : Nat) (p1 : Int32) (p2 : Int32) (p3 : Int32) (p4 : Int32) (p5 : Int32) (M : m_M), m_ok e_I Φ (kj p0 p1 p2 p3 p4 p5 M) → j_J X 6 81 [some (.ref p0), some (.int p1), some (.int p2), some (.int p3), none, some (.int p4)] [.int p5] (0, 0) M) h (fun v7 v8 v9 v10 v11 v12 M1 h => ?_) (fun k81 hk81 h => ?_)
      · refine j_istore C0 (pc := 81) dX12_cover_81 (Nat.le_of_ble_eq_true rfl) ?_
        show j_J X 6 83 [some (.ref v7), some (.int v8), some (.int v9), some (.int v10), some (.int v12), some (.int v11)] [] (0, 0) M1
        refine j_iinc C0 (pc := 83) dX12_cover_83 (v := v11 + (1 : Int32)) rfl (Nat.le_of_ble_eq_true rfl) (by rfl) ?_
        refine X_let (G := fun w => j_J X 6 86 [some (.ref v7), some (.int v8), some (.int v9), some (.int v10), some (.int v12), some (.int w)] [] (0, 0) M1) h (fun v13 h => ?_)
        refine j_goto C0 (pc := 86) (tgt := 42) dX12_cover_86 (by decide) ?_
        exact j_J.wq (ih v7 v8 v9 v10 v12 v13 M1 h) (And.intro rfl (And.intro rfl (And.intro rfl (And.intro rfl (And.intro rfl (And.intro rfl (trivial)))))))
      · refine X_join (fun (kj : Nat → Int32 → Int32 → Int32 → Int32 → m_M → Option (Int32 × m_M)) => ∀ (p0 : Nat) (p1 : Int32) (p2 : Int32) (p3 : Int32) (p4 : Int32) (M : m_M), m_ok e_I Φ (kj p0 p1 p2 p3 p4 M) → j_J X 6 80 [some (.ref p0), some (.int p1), some (.int p2), some (.int p3), none, some (.int p4)] [] (0, 0) M) h (fun v14 v15 v16 v17 v18 M2 h => ?_) (fun k80 hk80 h => ?_)
        · refine j_iconst C0 (pc := 80) dX12_cover_80 (v := (0 : Int32)) (by decide) ?_
          exact j_J.wq (hk81 v14 v15 v16 v17 v18 (0 : Int32) M2 h) (And.intro rfl (And.intro rfl (And.intro rfl (And.intro rfl (And.intro rfl (trivial))))))
        · refine j_iload C0 (pc := 49) dX12_cover_49 rfl ?_
          refine j_if_eq C0 (pc := 51) (tgt := 80) dX12_cover_51 (by decide) (fun hc => ?_) (fun hc => ?_)
          · replace h := (X_if h).1 hc
            exact j_J.wq (hk80 v1 v2 v3 v4 v6 M h) (And.intro rfl (And.intro rfl (And.intro rfl (And.intro rfl (And.intro rfl (trivial))))))
          · replace h := (X_if h).2 hc
            refine X_join (fun (kj : Nat → Int32 → Int32 → Int32 → Int32 → m_M → Option (Int32 × m_M)) => ∀ (p0 : Nat) (p1 : Int32) (p2 : Int32) (p3 : Int32) (p4 : Int32) (M : m_M), m_ok e_I Φ (kj p0 p1 p2 p3 p4 M) → j_J X 6 76 [some (.ref p0), some (.int p1), some (.int p2), some (.int p3), none, some (.int p4)] [] (0, 0) M) h (fun v19 v20 v21 v22 v23 M3 h => ?_) (fun k76 hk76 h => ?_)
            · refine j_iconst C0 (pc := 76) dX12_cover_76 (v := (1 : Int32)) (by decide) ?_
              refine j_goto C0 (pc := 77) (tgt := 81) dX12_cover_77 (by decide) ?_
              exact j_J.wq (hk81 v19 v20 v21 v22 v23 (1 : Int32) M3 h) (And.intro rfl (And.intro rfl (And.intro rfl (And.intro rfl (And.intro rfl (trivial))))))
            · refine j_aload_n C0 (pc := 54) dX12_cover_54 rfl ?_
              refine X_gN C0 (pc := 55) f_OM_153_10 rfl dX12_cover_55 h (fun v24 h => ?_)
              refine j_iload C0 (pc := 58) dX12_cover_58 rfl ?_
              refine X_iald C0 (pc := 60) dX12_cover_60 h (fun v25 h => ?_)
              refine j_if_eq C0 (pc := 61) (tgt := 76) dX12_cover_61 (by decide) (fun hc => ?_) (fun hc => ?_)
              · replace h := (X_if h).1 hc
                exact j_J.wq (hk76 v1 v2 v3 v4 v6 M h) (And.intro rfl (And.intro rfl (And.intro rfl (And.intro rfl (And.intro rfl (trivial))))))
              · replace h := (X_if h).2 hc
                refine j_aload_n C0 (pc := 64) dX12_cover_64 rfl ?_
                refine X_gN C0 (pc := 65) f_OM_153_10 rfl dX12_cover_65 h (fun v26 h => ?_)
                refine j_iload C0 (pc := 68) dX12_cover_68 rfl ?_
                refine X_iald C0 (pc := 70) dX12_cover_70 h (fun v27 h => ?_)
                refine j_iload_n C0 (pc := 71) dX12_cover_71 rfl ?_
                refine j_iand C0 (pc := 72) dX12_cover_72 ?_
                refine j_if_eq C0 (pc := 73) (tgt := 80) dX12_cover_73 (by decide) (fun hc => ?_) (fun hc => ?_)
                · replace h := (X_if h).1 hc
                  exact j_J.wq (hk80 v1 v2 v3 v4 v6 M h) (And.intro rfl (And.intro rfl (And.intro rfl (And.intro rfl (And.intro rfl (trivial))))))
                · replace h := (X_if h).2 hc
                  exact j_J.wq (hk76 v1 v2 v3 v4 v6 M h) (And.intro rfl (And.intro rfl (And.intro rfl (And.intro rfl (And.intro rfl (trivial))))))
set_option maxHeartbeats 4000000 in
theorem L_X12_cover_24 {X : j_X} {Φ : Option Value → m_M → Prop} (C : j_C X yX12_cover cX12_cover 6 (some .int) 10 0 0 Φ) {k121 : Int32 → Int32 → m_M → Option (Int32 × m_M)} (hk121 : ∀ (p0 : Int32) (p1 : Int32) (M : m_M), m_ok e_I Φ (k121 p0 p1 M) → j_J X 6 121 [none, some (.int p0), some (.int p1), none, none, none] [] (0, 0) M) : ∀ (n : Nat) (v1 : Nat) (v2 : Int32) (v3 : Int32) (v4 : Int32) (M : m_M), m_ok e_I Φ (F_X12_cover_24 k121 n v1 v2 v3 v4 M) → j_J X 6 24 [some (.ref v1), some (.int v2), some (.int v3), some (.int v4), none, none] [] (0, 0) M := by
  have C0 := C.1
  intro n
  induction n with
  | zero => intro v1 v2 v3 v4 M h; exact False.elim h
  | succ n ih =>
    intro v1 v2 v3 v4 M h
    rw [F_X12_cover_24] at h
    refine j_iload_n C0 (pc := 24) dX12_cover_24 rfl ?_
    refine j_iconst C0 (pc := 25) dX12_cover_25 (v := (1 : Int32)) (by decide) ?_
    refine j_aload_n C0 (pc := 26) dX12_cover_26 rfl ?_
    refine X_gN C0 (pc := 27) f_OM_13_10 rfl dX12_cover_27 h (fun v5 h => ?_)
    refine j_iconst C0 (pc := 30) dX12_cover_30 (v := (3 : Int32)) (by decide) ?_
    refine X_iald C0 (pc := 31) dX12_cover_31 h (fun v6 h => ?_)
    refine j_ishl C0 (pc := 32) dX12_cover_32 ?_
    refine j_icmp_ge C0 (pc := 33) (tgt := 121) dX12_cover_33 (by decide) (fun hc => ?_) (fun hc => ?_)
    · replace h := (X_if h).1 hc
      exact j_J.wq (hk121 v2 v3 M h) (And.intro rfl (And.intro rfl (trivial)))
    · replace h := (X_if h).2 hc
      refine j_iconst C0 (pc := 36) dX12_cover_36 (v := (1 : Int32)) (by decide) ?_
      refine j_istore C0 (pc := 37) dX12_cover_37 (Nat.le_of_ble_eq_true rfl) ?_
      show j_J X 6 39 [some (.ref v1), some (.int v2), some (.int v3), some (.int v4), some (.int (1 : Int32)), none] [] (0, 0) M
      refine j_iconst C0 (pc := 39) dX12_cover_39 (v := (0 : Int32)) (by decide) ?_
      refine j_istore C0 (pc := 40) dX12_cover_40 (Nat.le_of_ble_eq_true rfl) ?_
      show j_J X 6 42 [some (.ref v1), some (.int v2), some (.int v3), some (.int v4), some (.int (1 : Int32)), some (.int (0 : Int32))] [] (0, 0) M
      refine X_join (fun (kj : Nat → Int32 → Int32 → Int32 → Int32 → m_M → Option (Int32 × m_M)) => ∀ (p0 : Nat) (p1 : Int32) (p2 : Int32) (p3 : Int32) (p4 : Int32) (M : m_M), m_ok e_I Φ (kj p0 p1 p2 p3 p4 M) → j_J X 6 89 [some (.ref p0), some (.int p1), some (.int p2), some (.int p3), some (.int p4), none] [] (0, 0) M) h (fun v7 v8 v9 v10 v11 M1 h => ?_) (fun k89 hk89 h => ?_)
      · refine X_join (fun (kj : Nat → Int32 → Int32 → Int32 → m_M → Option (Int32 × m_M)) => ∀ (p0 : Nat) (p1 : Int32) (p2 : Int32) (p3 : Int32) (M : m_M), m_ok e_I Φ (kj p0 p1 p2 p3 M) → j_J X 6 114 [some (.ref p0), some (.int p1), none, some (.int p2), none, none] [.int p3] (0, 0) M) h (fun v12 v13 v14 v15 M2 h => ?_) (fun k114 hk114 h => ?_)
        · refine j_istore_n C0 (pc := 114) dX12_cover_114 (Nat.le_of_ble_eq_true rfl) ?_
          show j_J X 6 115 [some (.ref v12), some (.int v13), some (.int v15), some (.int v14), none, none] [] (0, 0) M2
          refine j_iinc C0 (pc := 115) dX12_cover_115 (v := v14 + (1 : Int32)) rfl (Nat.le_of_ble_eq_true rfl) (by rfl) ?_
          refine X_let (G := fun w => j_J X 6 118 [some (.ref v12), some (.int v13), some (.int v15), some (.int w), none, none] [] (0, 0) M2) h (fun v16 h => ?_)
          refine j_goto C0 (pc := 118) (tgt := 24) dX12_cover_118 (by decide) ?_
          exact j_J.wq (ih v12 v13 v15 v16 M2 h) (And.intro rfl (And.intro rfl (And.intro rfl (And.intro rfl (trivial)))))
        · refine X_join (fun (kj : Nat → Int32 → Int32 → Int32 → m_M → Option (Int32 × m_M)) => ∀ (p0 : Nat) (p1 : Int32) (p2 : Int32) (p3 : Int32) (M : m_M), m_ok e_I Φ (kj p0 p1 p2 p3 M) → j_J X 6 113 [some (.ref p0), some (.int p1), some (.int p2), some (.int p3), none, none] [] (0, 0) M) h (fun v17 v18 v19 v20 M3 h => ?_) (fun k113 hk113 h => ?_)
          · refine j_iload_n C0 (pc := 113) dX12_cover_113 rfl ?_
            exact j_J.wq (hk114 v17 v18 v20 v19 M3 h) (And.intro rfl (And.intro rfl (And.intro rfl (trivial))))
          · refine j_iload C0 (pc := 89) dX12_cover_89 rfl ?_
            refine j_if_eq C0 (pc := 91) (tgt := 113) dX12_cover_91 (by decide) (fun hc => ?_) (fun hc => ?_)
            · replace h := (X_if h).1 hc
              exact j_J.wq (hk113 v7 v8 v9 v10 M1 h) (And.intro rfl (And.intro rfl (And.intro rfl (And.intro rfl (trivial)))))
            · replace h := (X_if h).2 hc
              refine X_join (fun (kj : Nat → Int32 → Int32 → m_M → Option (Int32 × m_M)) => ∀ (p0 : Nat) (p1 : Int32) (p2 : Int32) (M : m_M), m_ok e_I Φ (kj p0 p1 p2 M) → j_J X 6 109 [some (.ref p0), some (.int p1), none, some (.int p2), none, none] [] (0, 0) M) h (fun v21 v22 v23 M4 h => ?_) (fun k109 hk109 h => ?_)
              · refine j_iload_n C0 (pc := 109) dX12_cover_109 rfl ?_
                refine j_goto C0 (pc := 110) (tgt := 114) dX12_cover_110 (by decide) ?_
                exact j_J.wq (hk114 v21 v22 v23 v23 M4 h) (And.intro rfl (And.intro rfl (And.intro rfl (trivial))))
              · refine j_iload_n C0 (pc := 94) dX12_cover_94 rfl ?_
                refine j_if_lt C0 (pc := 95) (tgt := 109) dX12_cover_95 (by decide) (fun hc => ?_) (fun hc => ?_)
                · replace h := (X_if h).1 hc
                  exact j_J.wq (hk109 v7 v8 v10 M1 h) (And.intro rfl (And.intro rfl (And.intro rfl (trivial))))
                · replace h := (X_if h).2 hc
                  refine j_iload_n C0 (pc := 98) dX12_cover_98 rfl ?_
                  refine X_cS C0 (pc := 99) (e' := e_I) (as := [.int v10]) (rest := []) (s' := fun w => .int w :: []) (g' := (0, 0)) s_OM_495 (fun Ψ hΨ => K_X12_bits v10 M1 Ψ hΨ) rfl rfl (fun _ => rfl) (by decide) (by decide) rfl (Nat.le_of_ble_eq_true rfl) dX12_cover_99 h (fun v24 M5 h => ?_)
                  refine j_iload_n C0 (pc := 102) dX12_cover_102 rfl ?_
                  refine X_cS C0 (pc := 103) (e' := e_I) (as := [.int v9]) (rest := [.int v24]) (s' := fun w => .int w :: [.int v24]) (g' := (0, 0)) s_OM_495 (fun Ψ hΨ => K_X12_bits v9 M5 Ψ hΨ) rfl rfl (fun _ => rfl) (by decide) (by decide) rfl (Nat.le_of_ble_eq_true rfl) dX12_cover_103 h (fun v25 M6 h => ?_)
                  refine j_icmp_ge C0 (pc := 106) (tgt := 113) dX12_cover_106 (by decide) (fun hc => ?_) (fun hc => ?_)
                  · replace h := (X_if h).1 hc
                    exact j_J.wq (hk113 v7 v8 v9 v10 M6 h) (And.intro rfl (And.intro rfl (And.intro rfl (And.intro rfl (trivial)))))
                  · replace h := (X_if h).2 hc
                    exact j_J.wq (hk109 v7 v8 v10 M6 h) (And.intro rfl (And.intro rfl (And.intro rfl (trivial))))
      · exact j_J.wq (L_X12_cover_42 C hk89 m_FU v1 v2 v3 v4 (1 : Int32) (0 : Int32) M h) (And.intro rfl (And.intro rfl (And.intro rfl (And.intro rfl (And.intro rfl (And.intro rfl (trivial)))))))
set_option maxHeartbeats 4000000 in
theorem K_X12_cover (a0 : Nat) (a1 : Int32) (M : m_M) (Φ : Option Value → m_M → Prop) (h : m_ok e_I Φ (F_X12_cover a0 a1 M)) : j_Ct yX12_cover cX12_cover 6 (some .int) 10 0 0 [.ref a0, .int a1] M Φ := by
  refine j_Ct.of (by decide +kernel) (Nat.le_of_ble_eq_true rfl) fun X C => ?_
  have C0 := C.1
  show j_J X 6 0 [some (.ref a0), some (.int a1), none, none, none, none] [] (0, 0) M
  unfold F_X12_cover at h
  refine j_aload_n C0 (pc := 0) dX12_cover_0 rfl ?_
  refine j_iconst C0 (pc := 1) dX12_cover_1 (v := (0 : Int32)) (by decide) ?_
  refine X_pI C0 (pc := 2) f_OM_163_10 rfl rfl dX12_cover_2 h (fun M1 h => ?_)
  refine j_iload_n C0 (pc := 5) dX12_cover_5 rfl ?_
  refine j_iconst C0 (pc := 6) dX12_cover_6 (v := (0 : Int32)) (by decide) ?_
  refine j_iconst C0 (pc := 7) dX12_cover_7 (v := (1 : Int32)) (by decide) ?_
  refine X_cS C0 (pc := 8) (e' := e_I) (as := [.int a1, .int (0 : Int32), .int (1 : Int32)]) (rest := []) (s' := fun w => .int w :: []) (g' := (0, 0)) s_OM_279 (fun Ψ hΨ => K_X12_within a1 (0 : Int32) (1 : Int32) M1 Ψ hΨ) rfl rfl (fun _ => rfl) (by decide) (by decide) rfl (Nat.le_of_ble_eq_true rfl) dX12_cover_8 h (fun v1 M2 h => ?_)
  refine j_if_ne C0 (pc := 11) (tgt := 16) dX12_cover_11 (by decide) (fun hc => ?_) (fun hc => ?_)
  · replace h := (X_if h).2 hc
    refine j_aload_n C0 (pc := 16) dX12_cover_16 rfl ?_
    refine X_cV C0 (pc := 17) (e' := e_V) (as := []) (rest := []) (s' := fun _ => []) (g' := (0, 0)) v_OM_558_10 (fun Ψ hΨ => K_X12_seeksSayable a0 M2 Ψ hΨ) rfl rfl (fun _ => rfl) (by decide) (by decide) rfl (Nat.le_of_ble_eq_true rfl) dX12_cover_17 h (fun _ M3 h => ?_)
    refine j_iconst C0 (pc := 20) dX12_cover_20 (v := (-1 : Int32)) (by decide) ?_
    refine j_istore_n C0 (pc := 21) dX12_cover_21 (Nat.le_of_ble_eq_true rfl) ?_
    show j_J X 6 22 [some (.ref a0), some (.int a1), some (.int (-1 : Int32)), none, none, none] [] (0, 0) M3
    refine j_iconst C0 (pc := 22) dX12_cover_22 (v := (0 : Int32)) (by decide) ?_
    refine j_istore_n C0 (pc := 23) dX12_cover_23 (Nat.le_of_ble_eq_true rfl) ?_
    show j_J X 6 24 [some (.ref a0), some (.int a1), some (.int (-1 : Int32)), some (.int (0 : Int32)), none, none] [] (0, 0) M3
    refine X_join (fun (kj : Int32 → Int32 → m_M → Option (Int32 × m_M)) => ∀ (p0 : Int32) (p1 : Int32) (M : m_M), m_ok e_I Φ (kj p0 p1 M) → j_J X 6 121 [none, some (.int p0), some (.int p1), none, none, none] [] (0, 0) M) h (fun v2 v3 M4 h => ?_) (fun k121 hk121 h => ?_)
    · refine j_iload_n C0 (pc := 121) dX12_cover_121 rfl ?_
      refine j_if_ne C0 (pc := 122) (tgt := 132) dX12_cover_122 (by decide) (fun hc => ?_) (fun hc => ?_)
      · replace h := (X_if h).2 hc
        refine j_iload_n C0 (pc := 132) dX12_cover_132 rfl ?_
        exact j_iret C rfl h dX12_cover_133 (by decide)
      · replace h := (X_if h).1 hc
        refine j_iload_n C0 (pc := 125) dX12_cover_125 rfl ?_
        refine X_cS C0 (pc := 126) (e' := e_I) (as := [.int v3]) (rest := []) (s' := fun w => .int w :: []) (g' := (0, 0)) s_OM_495 (fun Ψ hΨ => K_X12_bits v3 M4 Ψ hΨ) rfl rfl (fun _ => rfl) (by decide) (by decide) rfl (Nat.le_of_ble_eq_true rfl) dX12_cover_126 h (fun v4 M5 h => ?_)
        refine j_goto C0 (pc := 129) (tgt := 133) dX12_cover_129 (by decide) ?_
        exact j_iret C rfl h dX12_cover_133 (by decide)
    · exact j_J.wq (L_X12_cover_24 C hk121 m_FU a0 a1 (-1 : Int32) (0 : Int32) M3 h) (And.intro rfl (And.intro rfl (And.intro rfl (And.intro rfl (trivial)))))
  · replace h := (X_if h).1 hc
    refine j_iconst C0 (pc := 14) dX12_cover_14 (v := (-1 : Int32)) (by decide) ?_
    exact j_iret C rfl h dX12_cover_15 (by decide)
theorem dX12_dawn_0 : decode cX12_dawn 0 = .ok (.aload_n 0, 1) := by decide +kernel
theorem dX12_dawn_1 : decode cX12_dawn 1 = .ok (.iconst 0, 1) := by decide +kernel
theorem dX12_dawn_2 : decode cX12_dawn 2 = .ok (.putfield 163, 3) := by decide +kernel
theorem dX12_dawn_5 : decode cX12_dawn 5 = .ok (.iload_n 1, 1) := by decide +kernel
theorem dX12_dawn_6 : decode cX12_dawn 6 = .ok (.iconst 1, 1) := by decide +kernel
theorem dX12_dawn_7 : decode cX12_dawn 7 = .ok (.sipush 1000, 3) := by decide +kernel
theorem dX12_dawn_10 : decode cX12_dawn 10 = .ok (.invokestatic 279, 3) := by decide +kernel
theorem dX12_dawn_13 : decode cX12_dawn 13 = .ok (.ifCond .ne 5, 3) := by decide +kernel
theorem dX12_dawn_16 : decode cX12_dawn 16 = .ok (.iconst (-1), 1) := by decide +kernel
theorem dX12_dawn_17 : decode cX12_dawn 17 = .ok (.ireturn, 1) := by decide +kernel
theorem dX12_dawn_18 : decode cX12_dawn 18 = .ok (.aload_n 0, 1) := by decide +kernel
theorem dX12_dawn_19 : decode cX12_dawn 19 = .ok (.dup, 1) := by decide +kernel
theorem dX12_dawn_20 : decode cX12_dawn 20 = .ok (.getfield 433, 3) := by decide +kernel
theorem dX12_dawn_23 : decode cX12_dawn 23 = .ok (.iload_n 1, 1) := by decide +kernel
theorem dX12_dawn_24 : decode cX12_dawn 24 = .ok (.iadd, 1) := by decide +kernel
theorem dX12_dawn_25 : decode cX12_dawn 25 = .ok (.putfield 433, 3) := by decide +kernel
theorem dX12_dawn_28 : decode cX12_dawn 28 = .ok (.aload_n 0, 1) := by decide +kernel
theorem dX12_dawn_29 : decode cX12_dawn 29 = .ok (.iconst 0, 1) := by decide +kernel
theorem dX12_dawn_30 : decode cX12_dawn 30 = .ok (.putfield 420, 3) := by decide +kernel
theorem dX12_dawn_33 : decode cX12_dawn 33 = .ok (.aload_n 0, 1) := by decide +kernel
theorem dX12_dawn_34 : decode cX12_dawn 34 = .ok (.getfield 433, 3) := by decide +kernel
theorem dX12_dawn_37 : decode cX12_dawn 37 = .ok (.ireturn, 1) := by decide +kernel
noncomputable def F_X12_dawn (a0 : Nat) (a1 : Int32) (M : m_M) : Option (Int32 × m_M) :=
  x_pI 10 M a0 0 (0 : Int32) fun M1 =>
  x_bd (F_X12_within a1 (1 : Int32) (1000 : Int32) M1) fun v1 M2 =>
  if v1 = 0 then (
    some ((-1 : Int32), M2)
  ) else
  x_gI 10 M2 a0 53 fun v2 =>
  x_pI 10 M2 a0 53 (v2 + a1) fun M3 =>
  x_pI 10 M3 a0 52 (0 : Int32) fun M4 =>
  x_gI 10 M4 a0 53 fun v3 =>
  some (v3, M4)
set_option maxHeartbeats 4000000 in
theorem K_X12_dawn (a0 : Nat) (a1 : Int32) (M : m_M) (Φ : Option Value → m_M → Prop) (h : m_ok e_I Φ (F_X12_dawn a0 a1 M)) : j_Ct yX12_dawn cX12_dawn 2 (some .int) 2 0 0 [.ref a0, .int a1] M Φ := by
  refine j_Ct.of (by decide +kernel) (Nat.le_of_ble_eq_true rfl) fun X C => ?_
  have C0 := C.1
  show j_J X 2 0 [some (.ref a0), some (.int a1)] [] (0, 0) M
  unfold F_X12_dawn at h
  refine j_aload_n C0 (pc := 0) dX12_dawn_0 rfl ?_
  refine j_iconst C0 (pc := 1) dX12_dawn_1 (v := (0 : Int32)) (by decide) ?_
  refine X_pI C0 (pc := 2) f_OM_163_10 rfl rfl dX12_dawn_2 h (fun M1 h => ?_)
  refine j_iload_n C0 (pc := 5) dX12_dawn_5 rfl ?_
  refine j_iconst C0 (pc := 6) dX12_dawn_6 (v := (1 : Int32)) (by decide) ?_
  refine j_sipush C0 (pc := 7) dX12_dawn_7 (v := (1000 : Int32)) (by decide) ?_
  refine X_cS C0 (pc := 10) (e' := e_I) (as := [.int a1, .int (1 : Int32), .int (1000 : Int32)]) (rest := []) (s' := fun w => .int w :: []) (g' := (0, 0)) s_OM_279 (fun Ψ hΨ => K_X12_within a1 (1 : Int32) (1000 : Int32) M1 Ψ hΨ) rfl rfl (fun _ => rfl) (by decide) (by decide) rfl (Nat.le_of_ble_eq_true rfl) dX12_dawn_10 h (fun v1 M2 h => ?_)
  refine j_if_ne C0 (pc := 13) (tgt := 18) dX12_dawn_13 (by decide) (fun hc => ?_) (fun hc => ?_)
  · replace h := (X_if h).2 hc
    refine j_aload_n C0 (pc := 18) dX12_dawn_18 rfl ?_
    refine j_dup C0 (pc := 19) dX12_dawn_19 rfl ?_
    refine X_gI C0 (pc := 20) f_OM_433_10 rfl dX12_dawn_20 h (fun v2 h => ?_)
    refine j_iload_n C0 (pc := 23) dX12_dawn_23 rfl ?_
    refine j_iadd C0 (pc := 24) dX12_dawn_24 ?_
    refine X_pI C0 (pc := 25) f_OM_433_10 rfl rfl dX12_dawn_25 h (fun M3 h => ?_)
    refine j_aload_n C0 (pc := 28) dX12_dawn_28 rfl ?_
    refine j_iconst C0 (pc := 29) dX12_dawn_29 (v := (0 : Int32)) (by decide) ?_
    refine X_pI C0 (pc := 30) f_OM_420_10 rfl rfl dX12_dawn_30 h (fun M4 h => ?_)
    refine j_aload_n C0 (pc := 33) dX12_dawn_33 rfl ?_
    refine X_gI C0 (pc := 34) f_OM_433_10 rfl dX12_dawn_34 h (fun v3 h => ?_)
    exact j_iret C rfl h dX12_dawn_37 (by decide)
  · replace h := (X_if h).1 hc
    refine j_iconst C0 (pc := 16) dX12_dawn_16 (v := (-1 : Int32)) (by decide) ?_
    exact j_iret C rfl h dX12_dawn_17 (by decide)
theorem dX12_draws_0 : decode cX12_draws 0 = .ok (.aload_n 0, 1) := by decide +kernel
theorem dX12_draws_1 : decode cX12_draws 1 = .ok (.aload_n 0, 1) := by decide +kernel
theorem dX12_draws_2 : decode cX12_draws 2 = .ok (.getfield 567, 3) := by decide +kernel
theorem dX12_draws_5 : decode cX12_draws 5 = .ok (.ldc2_w 570, 3) := by decide +kernel
theorem dX12_draws_8 : decode cX12_draws 8 = .ok (.lmul, 1) := by decide +kernel
theorem dX12_draws_9 : decode cX12_draws 9 = .ok (.ldc2_w 572, 3) := by decide +kernel
theorem dX12_draws_12 : decode cX12_draws 12 = .ok (.ladd, 1) := by decide +kernel
theorem dX12_draws_13 : decode cX12_draws 13 = .ok (.ldc2_w 574, 3) := by decide +kernel
theorem dX12_draws_16 : decode cX12_draws 16 = .ok (.lrem, 1) := by decide +kernel
theorem dX12_draws_17 : decode cX12_draws 17 = .ok (.putfield 567, 3) := by decide +kernel
theorem dX12_draws_20 : decode cX12_draws 20 = .ok (.aload_n 0, 1) := by decide +kernel
theorem dX12_draws_21 : decode cX12_draws 21 = .ok (.getfield 567, 3) := by decide +kernel
theorem dX12_draws_24 : decode cX12_draws 24 = .ok (.ldc2_w 576, 3) := by decide +kernel
theorem dX12_draws_27 : decode cX12_draws 27 = .ok (.ldiv, 1) := by decide +kernel
theorem dX12_draws_28 : decode cX12_draws 28 = .ok (.iload_n 1, 1) := by decide +kernel
theorem dX12_draws_29 : decode cX12_draws 29 = .ok (.i2l, 1) := by decide +kernel
theorem dX12_draws_30 : decode cX12_draws 30 = .ok (.lrem, 1) := by decide +kernel
theorem dX12_draws_31 : decode cX12_draws 31 = .ok (.l2i, 1) := by decide +kernel
theorem dX12_draws_32 : decode cX12_draws 32 = .ok (.ireturn, 1) := by decide +kernel
noncomputable def F_X12_draws (a0 : Nat) (a1 : Int32) (M : m_M) : Option (Int32 × m_M) :=
  x_gL 10 M a0 73 fun v1 =>
  x_nzL (2147483648 : Int64) <|
  x_pL 10 M a0 73 (((v1 * (1103515245 : Int64)) + (12345 : Int64)) - ((v1 * (1103515245 : Int64)) + (12345 : Int64)) / (2147483648 : Int64) * (2147483648 : Int64)) fun M1 =>
  x_gL 10 M1 a0 73 fun v2 =>
  x_nzL (65536 : Int64) <|
  x_nzL a1.toInt64 <|
  some (((v2 / (65536 : Int64)) - (v2 / (65536 : Int64)) / a1.toInt64 * a1.toInt64).toInt32, M1)
set_option maxHeartbeats 4000000 in
theorem K_X12_draws (a0 : Nat) (a1 : Int32) (M : m_M) (Φ : Option Value → m_M → Prop) (h : m_ok e_I Φ (F_X12_draws a0 a1 M)) : j_Ct yX12_draws cX12_draws 2 (some .int) 1 0 0 [.ref a0, .int a1] M Φ := by
  refine j_Ct.of (by decide +kernel) (Nat.le_of_ble_eq_true rfl) fun X C => ?_
  have C0 := C.1
  show j_J X 2 0 [some (.ref a0), some (.int a1)] [] (0, 0) M
  unfold F_X12_draws at h
  refine j_aload_n C0 (pc := 0) dX12_draws_0 rfl ?_
  refine j_aload_n C0 (pc := 1) dX12_draws_1 rfl ?_
  refine X_gL C0 (pc := 2) f_OM_567_10 rfl dX12_draws_2 h (fun v1 h => ?_)
  refine j_ldc2 C0 (pc := 5) (v := (1103515245 : Int64)) (j_c10 64 (by decide +kernel)) dX12_draws_5 ?_
  refine j_lmul C0 (pc := 8) dX12_draws_8 ?_
  refine j_ldc2 C0 (pc := 9) (v := (12345 : Int64)) (j_c10 65 (by decide +kernel)) dX12_draws_9 ?_
  refine j_ladd C0 (pc := 12) dX12_draws_12 ?_
  refine j_ldc2 C0 (pc := 13) (v := (2147483648 : Int64)) (j_c10 66 (by decide +kernel)) dX12_draws_13 ?_
  refine X_lrem C0 (pc := 16) dX12_draws_16 h (fun h => ?_)
  refine X_pL C0 (pc := 17) f_OM_567_10 rfl rfl dX12_draws_17 h (fun M1 h => ?_)
  refine j_aload_n C0 (pc := 20) dX12_draws_20 rfl ?_
  refine X_gL C0 (pc := 21) f_OM_567_10 rfl dX12_draws_21 h (fun v2 h => ?_)
  refine j_ldc2 C0 (pc := 24) (v := (65536 : Int64)) (j_c10 67 (by decide +kernel)) dX12_draws_24 ?_
  refine X_ldiv C0 (pc := 27) dX12_draws_27 h (fun h => ?_)
  refine j_iload_n C0 (pc := 28) dX12_draws_28 rfl ?_
  refine j_i2l C0 (pc := 29) dX12_draws_29 (v := a1.toInt64) rfl ?_
  refine X_lrem C0 (pc := 30) dX12_draws_30 h (fun h => ?_)
  refine j_l2i C0 (pc := 31) dX12_draws_31 (v := ((v2 / (65536 : Int64)) - (v2 / (65536 : Int64)) / a1.toInt64 * a1.toInt64).toInt32) rfl ?_
  exact j_iret C rfl h dX12_draws_32 (by decide)
theorem dX12_fact_0 : decode cX12_fact 0 = .ok (.aload_n 0, 1) := by decide +kernel
theorem dX12_fact_1 : decode cX12_fact 1 = .ok (.getfield 188, 3) := by decide +kernel
theorem dX12_fact_4 : decode cX12_fact 4 = .ok (.iconst 1, 1) := by decide +kernel
theorem dX12_fact_5 : decode cX12_fact 5 = .ok (.if_icmp .eq 5, 3) := by decide +kernel
theorem dX12_fact_8 : decode cX12_fact 8 = .ok (.iconst 0, 1) := by decide +kernel
theorem dX12_fact_9 : decode cX12_fact 9 = .ok (.ireturn, 1) := by decide +kernel
theorem dX12_fact_10 : decode cX12_fact 10 = .ok (.aload_n 0, 1) := by decide +kernel
theorem dX12_fact_11 : decode cX12_fact 11 = .ok (.getfield 205, 3) := by decide +kernel
theorem dX12_fact_14 : decode cX12_fact 14 = .ok (.ifCond .eq 37, 3) := by decide +kernel
theorem dX12_fact_17 : decode cX12_fact 17 = .ok (.aload_n 0, 1) := by decide +kernel
theorem dX12_fact_18 : decode cX12_fact 18 = .ok (.getfield 181, 3) := by decide +kernel
theorem dX12_fact_21 : decode cX12_fact 21 = .ok (.ldc2_w 209, 3) := by decide +kernel
theorem dX12_fact_24 : decode cX12_fact 24 = .ok (.lcmp, 1) := by decide +kernel
theorem dX12_fact_25 : decode cX12_fact 25 = .ok (.ifCond .ne 8, 3) := by decide +kernel
theorem dX12_fact_28 : decode cX12_fact 28 = .ok (.bipush 6, 2) := by decide +kernel
theorem dX12_fact_30 : decode cX12_fact 30 = .ok (.goto 20, 3) := by decide +kernel
theorem dX12_fact_33 : decode cX12_fact 33 = .ok (.aload_n 0, 1) := by decide +kernel
theorem dX12_fact_34 : decode cX12_fact 34 = .ok (.getfield 181, 3) := by decide +kernel
theorem dX12_fact_37 : decode cX12_fact 37 = .ok (.ldc2_w 211, 3) := by decide +kernel
theorem dX12_fact_40 : decode cX12_fact 40 = .ok (.lcmp, 1) := by decide +kernel
theorem dX12_fact_41 : decode cX12_fact 41 = .ok (.ifCond .ne 8, 3) := by decide +kernel
theorem dX12_fact_44 : decode cX12_fact 44 = .ok (.bipush 7, 2) := by decide +kernel
theorem dX12_fact_46 : decode cX12_fact 46 = .ok (.goto 4, 3) := by decide +kernel
theorem dX12_fact_49 : decode cX12_fact 49 = .ok (.iconst 0, 1) := by decide +kernel
theorem dX12_fact_50 : decode cX12_fact 50 = .ok (.ireturn, 1) := by decide +kernel
theorem dX12_fact_51 : decode cX12_fact 51 = .ok (.aload_n 0, 1) := by decide +kernel
theorem dX12_fact_52 : decode cX12_fact 52 = .ok (.getfield 181, 3) := by decide +kernel
theorem dX12_fact_55 : decode cX12_fact 55 = .ok (.ldc2_w 213, 3) := by decide +kernel
theorem dX12_fact_58 : decode cX12_fact 58 = .ok (.lcmp, 1) := by decide +kernel
theorem dX12_fact_59 : decode cX12_fact 59 = .ok (.ifCond .ne 7, 3) := by decide +kernel
theorem dX12_fact_62 : decode cX12_fact 62 = .ok (.iconst 1, 1) := by decide +kernel
theorem dX12_fact_63 : decode cX12_fact 63 = .ok (.goto 64, 3) := by decide +kernel
theorem dX12_fact_66 : decode cX12_fact 66 = .ok (.aload_n 0, 1) := by decide +kernel
theorem dX12_fact_67 : decode cX12_fact 67 = .ok (.getfield 181, 3) := by decide +kernel
theorem dX12_fact_70 : decode cX12_fact 70 = .ok (.ldc2_w 215, 3) := by decide +kernel
theorem dX12_fact_73 : decode cX12_fact 73 = .ok (.lcmp, 1) := by decide +kernel
theorem dX12_fact_74 : decode cX12_fact 74 = .ok (.ifCond .ne 7, 3) := by decide +kernel
theorem dX12_fact_77 : decode cX12_fact 77 = .ok (.iconst 2, 1) := by decide +kernel
theorem dX12_fact_78 : decode cX12_fact 78 = .ok (.goto 49, 3) := by decide +kernel
theorem dX12_fact_81 : decode cX12_fact 81 = .ok (.aload_n 0, 1) := by decide +kernel
theorem dX12_fact_82 : decode cX12_fact 82 = .ok (.getfield 181, 3) := by decide +kernel
theorem dX12_fact_85 : decode cX12_fact 85 = .ok (.ldc2_w 217, 3) := by decide +kernel
theorem dX12_fact_88 : decode cX12_fact 88 = .ok (.lcmp, 1) := by decide +kernel
theorem dX12_fact_89 : decode cX12_fact 89 = .ok (.ifCond .ne 7, 3) := by decide +kernel
theorem dX12_fact_92 : decode cX12_fact 92 = .ok (.iconst 3, 1) := by decide +kernel
theorem dX12_fact_93 : decode cX12_fact 93 = .ok (.goto 34, 3) := by decide +kernel
theorem dX12_fact_96 : decode cX12_fact 96 = .ok (.aload_n 0, 1) := by decide +kernel
theorem dX12_fact_97 : decode cX12_fact 97 = .ok (.getfield 181, 3) := by decide +kernel
theorem dX12_fact_100 : decode cX12_fact 100 = .ok (.ldc2_w 219, 3) := by decide +kernel
theorem dX12_fact_103 : decode cX12_fact 103 = .ok (.lcmp, 1) := by decide +kernel
theorem dX12_fact_104 : decode cX12_fact 104 = .ok (.ifCond .ne 7, 3) := by decide +kernel
theorem dX12_fact_107 : decode cX12_fact 107 = .ok (.iconst 4, 1) := by decide +kernel
theorem dX12_fact_108 : decode cX12_fact 108 = .ok (.goto 19, 3) := by decide +kernel
theorem dX12_fact_111 : decode cX12_fact 111 = .ok (.aload_n 0, 1) := by decide +kernel
theorem dX12_fact_112 : decode cX12_fact 112 = .ok (.getfield 181, 3) := by decide +kernel
theorem dX12_fact_115 : decode cX12_fact 115 = .ok (.ldc2_w 221, 3) := by decide +kernel
theorem dX12_fact_118 : decode cX12_fact 118 = .ok (.lcmp, 1) := by decide +kernel
theorem dX12_fact_119 : decode cX12_fact 119 = .ok (.ifCond .ne 7, 3) := by decide +kernel
theorem dX12_fact_122 : decode cX12_fact 122 = .ok (.iconst 5, 1) := by decide +kernel
theorem dX12_fact_123 : decode cX12_fact 123 = .ok (.goto 4, 3) := by decide +kernel
theorem dX12_fact_126 : decode cX12_fact 126 = .ok (.iconst 0, 1) := by decide +kernel
theorem dX12_fact_127 : decode cX12_fact 127 = .ok (.ireturn, 1) := by decide +kernel
noncomputable def F_X12_fact (a0 : Nat) (M : m_M) : Option (Int32 × m_M) :=
  x_gI 10 M a0 6 fun v1 =>
  if v1 = (1 : Int32) then (
    x_gI 10 M a0 22 fun v2 =>
    if v2 = 0 then (
      x_gL 10 M a0 7 fun v3 =>
      if (lg_cmp v3 (3379448 : Int64)) = 0 then (
        some ((1 : Int32), M)
      ) else
      x_gL 10 M a0 7 fun v4 =>
      if (lg_cmp v4 (275356804 : Int64)) = 0 then (
        some ((2 : Int32), M)
      ) else
      x_gL 10 M a0 7 fun v5 =>
      if (lg_cmp v5 (6559778 : Int64)) = 0 then (
        some ((3 : Int32), M)
      ) else
      x_gL 10 M a0 7 fun v6 =>
      if (lg_cmp v6 (4351291 : Int64)) = 0 then (
        some ((4 : Int32), M)
      ) else
      x_gL 10 M a0 7 fun v7 =>
      if (lg_cmp v7 (774500 : Int64)) = 0 then (
        some ((5 : Int32), M)
      ) else
      some ((0 : Int32), M)
    ) else
    x_gL 10 M a0 7 fun v8 =>
    if (lg_cmp v8 (8740067 : Int64)) = 0 then (
      some ((6 : Int32), M)
    ) else
    x_gL 10 M a0 7 fun v9 =>
    if (lg_cmp v9 (332864552 : Int64)) = 0 then (
      some ((7 : Int32), M)
    ) else
    some ((0 : Int32), M)
  ) else
  some ((0 : Int32), M)
set_option maxHeartbeats 4000000 in
theorem K_X12_fact (a0 : Nat) (M : m_M) (Φ : Option Value → m_M → Prop) (h : m_ok e_I Φ (F_X12_fact a0 M)) : j_Ct yX12_fact cX12_fact 1 (some .int) 1 0 0 [.ref a0] M Φ := by
  refine j_Ct.of (by decide +kernel) (Nat.le_of_ble_eq_true rfl) fun X C => ?_
  have C0 := C.1
  show j_J X 1 0 [some (.ref a0)] [] (0, 0) M
  unfold F_X12_fact at h
  refine j_aload_n C0 (pc := 0) dX12_fact_0 rfl ?_
  refine X_gI C0 (pc := 1) f_OM_188_10 rfl dX12_fact_1 h (fun v1 h => ?_)
  refine j_iconst C0 (pc := 4) dX12_fact_4 (v := (1 : Int32)) (by decide) ?_
  refine j_icmp_eq C0 (pc := 5) (tgt := 10) dX12_fact_5 (by decide) (fun hc => ?_) (fun hc => ?_)
  · replace h := (X_if h).1 hc
    refine j_aload_n C0 (pc := 10) dX12_fact_10 rfl ?_
    refine X_gI C0 (pc := 11) f_OM_205_10 rfl dX12_fact_11 h (fun v2 h => ?_)
    refine j_if_eq C0 (pc := 14) (tgt := 51) dX12_fact_14 (by decide) (fun hc => ?_) (fun hc => ?_)
    · replace h := (X_if h).1 hc
      refine j_aload_n C0 (pc := 51) dX12_fact_51 rfl ?_
      refine X_gL C0 (pc := 52) f_OM_181_10 rfl dX12_fact_52 h (fun v3 h => ?_)
      refine j_ldc2 C0 (pc := 55) (v := (3379448 : Int64)) (j_c8 181 (by decide +kernel)) dX12_fact_55 ?_
      refine j_lcmp C0 (pc := 58) dX12_fact_58 ?_
      refine j_if_ne C0 (pc := 59) (tgt := 66) dX12_fact_59 (by decide) (fun hc => ?_) (fun hc => ?_)
      · replace h := (X_if h).2 hc
        refine j_aload_n C0 (pc := 66) dX12_fact_66 rfl ?_
        refine X_gL C0 (pc := 67) f_OM_181_10 rfl dX12_fact_67 h (fun v4 h => ?_)
        refine j_ldc2 C0 (pc := 70) (v := (275356804 : Int64)) (j_c8 182 (by decide +kernel)) dX12_fact_70 ?_
        refine j_lcmp C0 (pc := 73) dX12_fact_73 ?_
        refine j_if_ne C0 (pc := 74) (tgt := 81) dX12_fact_74 (by decide) (fun hc => ?_) (fun hc => ?_)
        · replace h := (X_if h).2 hc
          refine j_aload_n C0 (pc := 81) dX12_fact_81 rfl ?_
          refine X_gL C0 (pc := 82) f_OM_181_10 rfl dX12_fact_82 h (fun v5 h => ?_)
          refine j_ldc2 C0 (pc := 85) (v := (6559778 : Int64)) (j_c8 183 (by decide +kernel)) dX12_fact_85 ?_
          refine j_lcmp C0 (pc := 88) dX12_fact_88 ?_
          refine j_if_ne C0 (pc := 89) (tgt := 96) dX12_fact_89 (by decide) (fun hc => ?_) (fun hc => ?_)
          · replace h := (X_if h).2 hc
            refine j_aload_n C0 (pc := 96) dX12_fact_96 rfl ?_
            refine X_gL C0 (pc := 97) f_OM_181_10 rfl dX12_fact_97 h (fun v6 h => ?_)
            refine j_ldc2 C0 (pc := 100) (v := (4351291 : Int64)) (j_c8 184 (by decide +kernel)) dX12_fact_100 ?_
            refine j_lcmp C0 (pc := 103) dX12_fact_103 ?_
            refine j_if_ne C0 (pc := 104) (tgt := 111) dX12_fact_104 (by decide) (fun hc => ?_) (fun hc => ?_)
            · replace h := (X_if h).2 hc
              refine j_aload_n C0 (pc := 111) dX12_fact_111 rfl ?_
              refine X_gL C0 (pc := 112) f_OM_181_10 rfl dX12_fact_112 h (fun v7 h => ?_)
              refine j_ldc2 C0 (pc := 115) (v := (774500 : Int64)) (j_c8 185 (by decide +kernel)) dX12_fact_115 ?_
              refine j_lcmp C0 (pc := 118) dX12_fact_118 ?_
              refine j_if_ne C0 (pc := 119) (tgt := 126) dX12_fact_119 (by decide) (fun hc => ?_) (fun hc => ?_)
              · replace h := (X_if h).2 hc
                refine j_iconst C0 (pc := 126) dX12_fact_126 (v := (0 : Int32)) (by decide) ?_
                exact j_iret C rfl h dX12_fact_127 (by decide)
              · replace h := (X_if h).1 hc
                refine j_iconst C0 (pc := 122) dX12_fact_122 (v := (5 : Int32)) (by decide) ?_
                refine j_goto C0 (pc := 123) (tgt := 127) dX12_fact_123 (by decide) ?_
                exact j_iret C rfl h dX12_fact_127 (by decide)
            · replace h := (X_if h).1 hc
              refine j_iconst C0 (pc := 107) dX12_fact_107 (v := (4 : Int32)) (by decide) ?_
              refine j_goto C0 (pc := 108) (tgt := 127) dX12_fact_108 (by decide) ?_
              exact j_iret C rfl h dX12_fact_127 (by decide)
          · replace h := (X_if h).1 hc
            refine j_iconst C0 (pc := 92) dX12_fact_92 (v := (3 : Int32)) (by decide) ?_
            refine j_goto C0 (pc := 93) (tgt := 127) dX12_fact_93 (by decide) ?_
            exact j_iret C rfl h dX12_fact_127 (by decide)
        · replace h := (X_if h).1 hc
          refine j_iconst C0 (pc := 77) dX12_fact_77 (v := (2 : Int32)) (by decide) ?_
          refine j_goto C0 (pc := 78) (tgt := 127) dX12_fact_78 (by decide) ?_
          exact j_iret C rfl h dX12_fact_127 (by decide)
      · replace h := (X_if h).1 hc
        refine j_iconst C0 (pc := 62) dX12_fact_62 (v := (1 : Int32)) (by decide) ?_
        refine j_goto C0 (pc := 63) (tgt := 127) dX12_fact_63 (by decide) ?_
        exact j_iret C rfl h dX12_fact_127 (by decide)
    · replace h := (X_if h).2 hc
      refine j_aload_n C0 (pc := 17) dX12_fact_17 rfl ?_
      refine X_gL C0 (pc := 18) f_OM_181_10 rfl dX12_fact_18 h (fun v8 h => ?_)
      refine j_ldc2 C0 (pc := 21) (v := (8740067 : Int64)) (j_c8 179 (by decide +kernel)) dX12_fact_21 ?_
      refine j_lcmp C0 (pc := 24) dX12_fact_24 ?_
      refine j_if_ne C0 (pc := 25) (tgt := 33) dX12_fact_25 (by decide) (fun hc => ?_) (fun hc => ?_)
      · replace h := (X_if h).2 hc
        refine j_aload_n C0 (pc := 33) dX12_fact_33 rfl ?_
        refine X_gL C0 (pc := 34) f_OM_181_10 rfl dX12_fact_34 h (fun v9 h => ?_)
        refine j_ldc2 C0 (pc := 37) (v := (332864552 : Int64)) (j_c8 180 (by decide +kernel)) dX12_fact_37 ?_
        refine j_lcmp C0 (pc := 40) dX12_fact_40 ?_
        refine j_if_ne C0 (pc := 41) (tgt := 49) dX12_fact_41 (by decide) (fun hc => ?_) (fun hc => ?_)
        · replace h := (X_if h).2 hc
          refine j_iconst C0 (pc := 49) dX12_fact_49 (v := (0 : Int32)) (by decide) ?_
          exact j_iret C rfl h dX12_fact_50 (by decide)
        · replace h := (X_if h).1 hc
          refine j_bipush C0 (pc := 44) dX12_fact_44 (v := (7 : Int32)) (by decide) ?_
          refine j_goto C0 (pc := 46) (tgt := 50) dX12_fact_46 (by decide) ?_
          exact j_iret C rfl h dX12_fact_50 (by decide)
      · replace h := (X_if h).1 hc
        refine j_bipush C0 (pc := 28) dX12_fact_28 (v := (6 : Int32)) (by decide) ?_
        refine j_goto C0 (pc := 30) (tgt := 50) dX12_fact_30 (by decide) ?_
        exact j_iret C rfl h dX12_fact_50 (by decide)
  · replace h := (X_if h).2 hc
    refine j_iconst C0 (pc := 8) dX12_fact_8 (v := (0 : Int32)) (by decide) ?_
    exact j_iret C rfl h dX12_fact_9 (by decide)
theorem dX12_feed_0 : decode cX12_feed 0 = .ok (.aload_n 0, 1) := by decide +kernel
theorem dX12_feed_1 : decode cX12_feed 1 = .ok (.iconst 0, 1) := by decide +kernel
theorem dX12_feed_2 : decode cX12_feed 2 = .ok (.putfield 163, 3) := by decide +kernel
theorem dX12_feed_5 : decode cX12_feed 5 = .ok (.iconst 0, 1) := by decide +kernel
theorem dX12_feed_6 : decode cX12_feed 6 = .ok (.istore 7, 2) := by decide +kernel
theorem dX12_feed_8 : decode cX12_feed 8 = .ok (.iload 7, 2) := by decide +kernel
theorem dX12_feed_10 : decode cX12_feed 10 = .ok (.bipush 24, 2) := by decide +kernel
theorem dX12_feed_12 : decode cX12_feed 12 = .ok (.if_icmp .ge 108, 3) := by decide +kernel
theorem dX12_feed_15 : decode cX12_feed 15 = .ok (.iload 7, 2) := by decide +kernel
theorem dX12_feed_17 : decode cX12_feed 17 = .ok (.bipush 8, 2) := by decide +kernel
theorem dX12_feed_19 : decode cX12_feed 19 = .ok (.if_icmp .ge 7, 3) := by decide +kernel
theorem dX12_feed_22 : decode cX12_feed 22 = .ok (.lload_n 1, 1) := by decide +kernel
theorem dX12_feed_23 : decode cX12_feed 23 = .ok (.goto 16, 3) := by decide +kernel
theorem dX12_feed_26 : decode cX12_feed 26 = .ok (.iload 7, 2) := by decide +kernel
theorem dX12_feed_28 : decode cX12_feed 28 = .ok (.bipush 16, 2) := by decide +kernel
theorem dX12_feed_30 : decode cX12_feed 30 = .ok (.if_icmp .ge 7, 3) := by decide +kernel
theorem dX12_feed_33 : decode cX12_feed 33 = .ok (.lload_n 3, 1) := by decide +kernel
theorem dX12_feed_34 : decode cX12_feed 34 = .ok (.goto 5, 3) := by decide +kernel
theorem dX12_feed_37 : decode cX12_feed 37 = .ok (.lload 5, 2) := by decide +kernel
theorem dX12_feed_39 : decode cX12_feed 39 = .ok (.lstore 8, 2) := by decide +kernel
theorem dX12_feed_41 : decode cX12_feed 41 = .ok (.lload 8, 2) := by decide +kernel
theorem dX12_feed_43 : decode cX12_feed 43 = .ok (.bipush 56, 2) := by decide +kernel
theorem dX12_feed_45 : decode cX12_feed 45 = .ok (.bipush 8, 2) := by decide +kernel
theorem dX12_feed_47 : decode cX12_feed 47 = .ok (.iload 7, 2) := by decide +kernel
theorem dX12_feed_49 : decode cX12_feed 49 = .ok (.bipush 7, 2) := by decide +kernel
theorem dX12_feed_51 : decode cX12_feed 51 = .ok (.iand, 1) := by decide +kernel
theorem dX12_feed_52 : decode cX12_feed 52 = .ok (.imul, 1) := by decide +kernel
theorem dX12_feed_53 : decode cX12_feed 53 = .ok (.isub, 1) := by decide +kernel
theorem dX12_feed_54 : decode cX12_feed 54 = .ok (.lushr, 1) := by decide +kernel
theorem dX12_feed_55 : decode cX12_feed 55 = .ok (.ldc2_w 167, 3) := by decide +kernel
theorem dX12_feed_58 : decode cX12_feed 58 = .ok (.land, 1) := by decide +kernel
theorem dX12_feed_59 : decode cX12_feed 59 = .ok (.l2i, 1) := by decide +kernel
theorem dX12_feed_60 : decode cX12_feed 60 = .ok (.istore 10, 2) := by decide +kernel
theorem dX12_feed_62 : decode cX12_feed 62 = .ok (.aload_n 0, 1) := by decide +kernel
theorem dX12_feed_63 : decode cX12_feed 63 = .ok (.getfield 169, 3) := by decide +kernel
theorem dX12_feed_66 : decode cX12_feed 66 = .ok (.sipush 1000, 3) := by decide +kernel
theorem dX12_feed_69 : decode cX12_feed 69 = .ok (.if_icmp .ge 45, 3) := by decide +kernel
theorem dX12_feed_72 : decode cX12_feed 72 = .ok (.iload 10, 2) := by decide +kernel
theorem dX12_feed_74 : decode cX12_feed 74 = .ok (.bipush 10, 2) := by decide +kernel
theorem dX12_feed_76 : decode cX12_feed 76 = .ok (.if_icmp .eq 17, 3) := by decide +kernel
theorem dX12_feed_79 : decode cX12_feed 79 = .ok (.iload 10, 2) := by decide +kernel
theorem dX12_feed_81 : decode cX12_feed 81 = .ok (.bipush 32, 2) := by decide +kernel
theorem dX12_feed_83 : decode cX12_feed 83 = .ok (.if_icmp .lt 31, 3) := by decide +kernel
theorem dX12_feed_86 : decode cX12_feed 86 = .ok (.iload 10, 2) := by decide +kernel
theorem dX12_feed_88 : decode cX12_feed 88 = .ok (.bipush 126, 2) := by decide +kernel
theorem dX12_feed_90 : decode cX12_feed 90 = .ok (.if_icmp .gt 24, 3) := by decide +kernel
theorem dX12_feed_93 : decode cX12_feed 93 = .ok (.aload_n 0, 1) := by decide +kernel
theorem dX12_feed_94 : decode cX12_feed 94 = .ok (.getfield 7, 3) := by decide +kernel
theorem dX12_feed_97 : decode cX12_feed 97 = .ok (.aload_n 0, 1) := by decide +kernel
theorem dX12_feed_98 : decode cX12_feed 98 = .ok (.getfield 169, 3) := by decide +kernel
theorem dX12_feed_101 : decode cX12_feed 101 = .ok (.iload 10, 2) := by decide +kernel
theorem dX12_feed_103 : decode cX12_feed 103 = .ok (.iastore, 1) := by decide +kernel
theorem dX12_feed_104 : decode cX12_feed 104 = .ok (.aload_n 0, 1) := by decide +kernel
theorem dX12_feed_105 : decode cX12_feed 105 = .ok (.dup, 1) := by decide +kernel
theorem dX12_feed_106 : decode cX12_feed 106 = .ok (.getfield 169, 3) := by decide +kernel
theorem dX12_feed_109 : decode cX12_feed 109 = .ok (.iconst 1, 1) := by decide +kernel
theorem dX12_feed_110 : decode cX12_feed 110 = .ok (.iadd, 1) := by decide +kernel
theorem dX12_feed_111 : decode cX12_feed 111 = .ok (.putfield 169, 3) := by decide +kernel
theorem dX12_feed_114 : decode cX12_feed 114 = .ok (.iinc 7 1, 3) := by decide +kernel
theorem dX12_feed_117 : decode cX12_feed 117 = .ok (.goto (-109), 3) := by decide +kernel
theorem dX12_feed_120 : decode cX12_feed 120 = .ok (.aload_n 0, 1) := by decide +kernel
theorem dX12_feed_121 : decode cX12_feed 121 = .ok (.getfield 169, 3) := by decide +kernel
theorem dX12_feed_124 : decode cX12_feed 124 = .ok (.ireturn, 1) := by decide +kernel
noncomputable def F_X12_feed_8 : Nat → Nat → Int64 → Int64 → Int64 → Int32 → m_M → Option (Int32 × m_M)
  | 0, _, _, _, _, _, _ => none
  | n + 1, v1, v2, v3, v4, v5, M =>
    if (24 : Int32) ≤ v5 then (
      x_gI 10 M v1 1 fun v6 =>
      some (v6, M)
    ) else
    m_let (fun (v7 : Nat) (v8 : Int64) (v9 : Int64) (v10 : Int64) (v11 : Int32) (v12 : Int64) (M1 : m_M) =>
      m_let (fun (v13 : Nat) (v14 : Int64) (v15 : Int64) (v16 : Int64) (v17 : Int32) (M2 : m_M) =>
        m_let (v17 + (1 : Int32)) fun v18 =>
        F_X12_feed_8 n v13 v14 v15 v16 v18 M2
      ) fun (k114 : Nat → Int64 → Int64 → Int64 → Int32 → m_M → Option (Int32 × m_M)) =>
      m_let ((((v12.toUInt64 >>> (((56 : Int32) - ((8 : Int32) * (v11 &&& (7 : Int32)))).toInt64.toUInt64 &&& Int64.toUInt64 63)).toInt64) &&& (255 : Int64)).toInt32) fun v19 =>
      x_gI 10 M1 v7 1 fun v20 =>
      if (1000 : Int32) ≤ v20 then (
        k114 v7 v8 v9 v10 v11 M1
      ) else
      m_let (fun (v21 : Nat) (v22 : Int64) (v23 : Int64) (v24 : Int64) (v25 : Int32) (v26 : Int32) (M3 : m_M) =>
        x_gN 10 M3 v21 2 fun v27 =>
        x_gI 10 M3 v21 1 fun v28 =>
        x_sI 12 M3 v27 v28 v26 fun M4 =>
        x_gI 10 M4 v21 1 fun v29 =>
        x_pI 10 M4 v21 1 (v29 + (1 : Int32)) fun M5 =>
        k114 v21 v22 v23 v24 v25 M5
      ) fun (k93 : Nat → Int64 → Int64 → Int64 → Int32 → Int32 → m_M → Option (Int32 × m_M)) =>
      if v19 = (10 : Int32) then (
        k93 v7 v8 v9 v10 v11 v19 M1
      ) else
      if v19 < (32 : Int32) then (
        k114 v7 v8 v9 v10 v11 M1
      ) else
      if (126 : Int32) < v19 then (
        k114 v7 v8 v9 v10 v11 M1
      ) else
      k93 v7 v8 v9 v10 v11 v19 M1
    ) fun (k39 : Nat → Int64 → Int64 → Int64 → Int32 → Int64 → m_M → Option (Int32 × m_M)) =>
    if (8 : Int32) ≤ v5 then (
      if (16 : Int32) ≤ v5 then (
        k39 v1 v2 v3 v4 v5 v4 M
      ) else
      k39 v1 v2 v3 v4 v5 v3 M
    ) else
    k39 v1 v2 v3 v4 v5 v2 M
noncomputable def F_X12_feed (a0 : Nat) (a1 : Int64) (a2 : Int64) (a3 : Int64) (M : m_M) : Option (Int32 × m_M) :=
  x_pI 10 M a0 0 (0 : Int32) fun M1 =>
  F_X12_feed_8 m_FU a0 a1 a2 a3 (0 : Int32) M1
set_option maxHeartbeats 4000000 in
theorem L_X12_feed_8 {X : j_X} {Φ : Option Value → m_M → Prop} (C : j_C X yX12_feed cX12_feed 11 (some .int) 1 0 0 Φ) : ∀ (n : Nat) (v1 : Nat) (v2 : Int64) (v3 : Int64) (v4 : Int64) (v5 : Int32) (M : m_M), m_ok e_I Φ (F_X12_feed_8 n v1 v2 v3 v4 v5 M) → j_J X 11 8 [some (.ref v1), some (.long v2), none, some (.long v3), none, some (.long v4), none, some (.int v5), none, none, none] [] (0, 0) M := by
  have C0 := C.1
  intro n
  induction n with
  | zero => intro v1 v2 v3 v4 v5 M h; exact False.elim h
  | succ n ih =>
    intro v1 v2 v3 v4 v5 M h
    rw [F_X12_feed_8] at h
    refine j_iload C0 (pc := 8) dX12_feed_8 rfl ?_
    refine j_bipush C0 (pc := 10) dX12_feed_10 (v := (24 : Int32)) (by decide) ?_
    refine j_icmp_ge C0 (pc := 12) (tgt := 120) dX12_feed_12 (by decide) (fun hc => ?_) (fun hc => ?_)
    · replace h := (X_if h).1 hc
      refine j_aload_n C0 (pc := 120) dX12_feed_120 rfl ?_
      refine X_gI C0 (pc := 121) f_OM_169_10 rfl dX12_feed_121 h (fun v6 h => ?_)
      exact j_iret C rfl h dX12_feed_124 (by decide)
    · replace h := (X_if h).2 hc
      refine X_join (fun (kj : Nat → Int64 → Int64 → Int64 → Int32 → Int64 → m_M → Option (Int32 × m_M)) => ∀ (p0 : Nat) (p1 : Int64) (p2 : Int64) (p3 : Int64) (p4 : Int32) (p5 : Int64) (M : m_M), m_ok e_I Φ (kj p0 p1 p2 p3 p4 p5 M) → j_J X 11 39 [some (.ref p0), some (.long p1), none, some (.long p2), none, some (.long p3), none, some (.int p4), none, none, none] [.long p5] (0, 0) M) h (fun v7 v8 v9 v10 v11 v12 M1 h => ?_) (fun k39 hk39 h => ?_)
      · refine X_join (fun (kj : Nat → Int64 → Int64 → Int64 → Int32 → m_M → Option (Int32 × m_M)) => ∀ (p0 : Nat) (p1 : Int64) (p2 : Int64) (p3 : Int64) (p4 : Int32) (M : m_M), m_ok e_I Φ (kj p0 p1 p2 p3 p4 M) → j_J X 11 114 [some (.ref p0), some (.long p1), none, some (.long p2), none, some (.long p3), none, some (.int p4), none, none, none] [] (0, 0) M) h (fun v13 v14 v15 v16 v17 M2 h => ?_) (fun k114 hk114 h => ?_)
        · refine j_iinc C0 (pc := 114) dX12_feed_114 (v := v17 + (1 : Int32)) rfl (Nat.le_of_ble_eq_true rfl) (by rfl) ?_
          refine X_let (G := fun w => j_J X 11 117 [some (.ref v13), some (.long v14), none, some (.long v15), none, some (.long v16), none, some (.int w), none, none, none] [] (0, 0) M2) h (fun v18 h => ?_)
          refine j_goto C0 (pc := 117) (tgt := 8) dX12_feed_117 (by decide) ?_
          exact j_J.wq (ih v13 v14 v15 v16 v18 M2 h) (And.intro rfl (And.intro rfl (And.intro rfl (And.intro rfl (And.intro rfl (trivial))))))
        · refine j_lstore C0 (pc := 39) dX12_feed_39 (Nat.le_of_ble_eq_true rfl) ?_
          show j_J X 11 41 [some (.ref v7), some (.long v8), none, some (.long v9), none, some (.long v10), none, some (.int v11), some (.long v12), none, none] [] (0, 0) M1
          refine j_lload C0 (pc := 41) dX12_feed_41 rfl ?_
          refine j_bipush C0 (pc := 43) dX12_feed_43 (v := (56 : Int32)) (by decide) ?_
          refine j_bipush C0 (pc := 45) dX12_feed_45 (v := (8 : Int32)) (by decide) ?_
          refine j_iload C0 (pc := 47) dX12_feed_47 rfl ?_
          refine j_bipush C0 (pc := 49) dX12_feed_49 (v := (7 : Int32)) (by decide) ?_
          refine j_iand C0 (pc := 51) dX12_feed_51 ?_
          refine j_imul C0 (pc := 52) dX12_feed_52 ?_
          refine j_isub C0 (pc := 53) dX12_feed_53 ?_
          refine j_lushr C0 (pc := 54) dX12_feed_54 (v := (v12.toUInt64 >>> (((56 : Int32) - ((8 : Int32) * (v11 &&& (7 : Int32)))).toInt64.toUInt64 &&& Int64.toUInt64 63)).toInt64) rfl ?_
          refine j_ldc2 C0 (pc := 55) (v := (255 : Int64)) (j_c8 76 (by decide +kernel)) dX12_feed_55 ?_
          refine j_land C0 (pc := 58) dX12_feed_58 ?_
          refine j_l2i C0 (pc := 59) dX12_feed_59 (v := (((v12.toUInt64 >>> (((56 : Int32) - ((8 : Int32) * (v11 &&& (7 : Int32)))).toInt64.toUInt64 &&& Int64.toUInt64 63)).toInt64) &&& (255 : Int64)).toInt32) rfl ?_
          refine X_let (G := fun w => j_J X 11 60 [some (.ref v7), some (.long v8), none, some (.long v9), none, some (.long v10), none, some (.int v11), some (.long v12), none, none] (.int w :: []) (0, 0) M1) h (fun v19 h => ?_)
          refine j_istore C0 (pc := 60) dX12_feed_60 (Nat.le_of_ble_eq_true rfl) ?_
          show j_J X 11 62 [some (.ref v7), some (.long v8), none, some (.long v9), none, some (.long v10), none, some (.int v11), some (.long v12), none, some (.int v19)] [] (0, 0) M1
          refine j_aload_n C0 (pc := 62) dX12_feed_62 rfl ?_
          refine X_gI C0 (pc := 63) f_OM_169_10 rfl dX12_feed_63 h (fun v20 h => ?_)
          refine j_sipush C0 (pc := 66) dX12_feed_66 (v := (1000 : Int32)) (by decide) ?_
          refine j_icmp_ge C0 (pc := 69) (tgt := 114) dX12_feed_69 (by decide) (fun hc => ?_) (fun hc => ?_)
          · replace h := (X_if h).1 hc
            exact j_J.wq (hk114 v7 v8 v9 v10 v11 M1 h) (And.intro rfl (And.intro rfl (And.intro rfl (And.intro rfl (And.intro rfl (trivial))))))
          · replace h := (X_if h).2 hc
            refine X_join (fun (kj : Nat → Int64 → Int64 → Int64 → Int32 → Int32 → m_M → Option (Int32 × m_M)) => ∀ (p0 : Nat) (p1 : Int64) (p2 : Int64) (p3 : Int64) (p4 : Int32) (p5 : Int32) (M : m_M), m_ok e_I Φ (kj p0 p1 p2 p3 p4 p5 M) → j_J X 11 93 [some (.ref p0), some (.long p1), none, some (.long p2), none, some (.long p3), none, some (.int p4), none, none, some (.int p5)] [] (0, 0) M) h (fun v21 v22 v23 v24 v25 v26 M3 h => ?_) (fun k93 hk93 h => ?_)
            · refine j_aload_n C0 (pc := 93) dX12_feed_93 rfl ?_
              refine X_gN C0 (pc := 94) f_OM_7_10 rfl dX12_feed_94 h (fun v27 h => ?_)
              refine j_aload_n C0 (pc := 97) dX12_feed_97 rfl ?_
              refine X_gI C0 (pc := 98) f_OM_169_10 rfl dX12_feed_98 h (fun v28 h => ?_)
              refine j_iload C0 (pc := 101) dX12_feed_101 rfl ?_
              refine X_iast C0 (pc := 103) dX12_feed_103 h (fun M4 h => ?_)
              refine j_aload_n C0 (pc := 104) dX12_feed_104 rfl ?_
              refine j_dup C0 (pc := 105) dX12_feed_105 rfl ?_
              refine X_gI C0 (pc := 106) f_OM_169_10 rfl dX12_feed_106 h (fun v29 h => ?_)
              refine j_iconst C0 (pc := 109) dX12_feed_109 (v := (1 : Int32)) (by decide) ?_
              refine j_iadd C0 (pc := 110) dX12_feed_110 ?_
              refine X_pI C0 (pc := 111) f_OM_169_10 rfl rfl dX12_feed_111 h (fun M5 h => ?_)
              exact j_J.wq (hk114 v21 v22 v23 v24 v25 M5 h) (And.intro rfl (And.intro rfl (And.intro rfl (And.intro rfl (And.intro rfl (trivial))))))
            · refine j_iload C0 (pc := 72) dX12_feed_72 rfl ?_
              refine j_bipush C0 (pc := 74) dX12_feed_74 (v := (10 : Int32)) (by decide) ?_
              refine j_icmp_eq C0 (pc := 76) (tgt := 93) dX12_feed_76 (by decide) (fun hc => ?_) (fun hc => ?_)
              · replace h := (X_if h).1 hc
                exact j_J.wq (hk93 v7 v8 v9 v10 v11 v19 M1 h) (And.intro rfl (And.intro rfl (And.intro rfl (And.intro rfl (And.intro rfl (And.intro rfl (trivial)))))))
              · replace h := (X_if h).2 hc
                refine j_iload C0 (pc := 79) dX12_feed_79 rfl ?_
                refine j_bipush C0 (pc := 81) dX12_feed_81 (v := (32 : Int32)) (by decide) ?_
                refine j_icmp_lt C0 (pc := 83) (tgt := 114) dX12_feed_83 (by decide) (fun hc => ?_) (fun hc => ?_)
                · replace h := (X_if h).1 hc
                  exact j_J.wq (hk114 v7 v8 v9 v10 v11 M1 h) (And.intro rfl (And.intro rfl (And.intro rfl (And.intro rfl (And.intro rfl (trivial))))))
                · replace h := (X_if h).2 hc
                  refine j_iload C0 (pc := 86) dX12_feed_86 rfl ?_
                  refine j_bipush C0 (pc := 88) dX12_feed_88 (v := (126 : Int32)) (by decide) ?_
                  refine j_icmp_gt C0 (pc := 90) (tgt := 114) dX12_feed_90 (by decide) (fun hc => ?_) (fun hc => ?_)
                  · replace h := (X_if h).1 hc
                    exact j_J.wq (hk114 v7 v8 v9 v10 v11 M1 h) (And.intro rfl (And.intro rfl (And.intro rfl (And.intro rfl (And.intro rfl (trivial))))))
                  · replace h := (X_if h).2 hc
                    exact j_J.wq (hk93 v7 v8 v9 v10 v11 v19 M1 h) (And.intro rfl (And.intro rfl (And.intro rfl (And.intro rfl (And.intro rfl (And.intro rfl (trivial)))))))
      · refine j_iload C0 (pc := 15) dX12_feed_15 rfl ?_
        refine j_bipush C0 (pc := 17) dX12_feed_17 (v := (8 : Int32)) (by decide) ?_
        refine j_icmp_ge C0 (pc := 19) (tgt := 26) dX12_feed_19 (by decide) (fun hc => ?_) (fun hc => ?_)
        · replace h := (X_if h).1 hc
          refine j_iload C0 (pc := 26) dX12_feed_26 rfl ?_
          refine j_bipush C0 (pc := 28) dX12_feed_28 (v := (16 : Int32)) (by decide) ?_
          refine j_icmp_ge C0 (pc := 30) (tgt := 37) dX12_feed_30 (by decide) (fun hc => ?_) (fun hc => ?_)
          · replace h := (X_if h).1 hc
            refine j_lload C0 (pc := 37) dX12_feed_37 rfl ?_
            exact j_J.wq (hk39 v1 v2 v3 v4 v5 v4 M h) (And.intro rfl (And.intro rfl (And.intro rfl (And.intro rfl (And.intro rfl (trivial))))))
          · replace h := (X_if h).2 hc
            refine j_lload_n C0 (pc := 33) dX12_feed_33 rfl ?_
            refine j_goto C0 (pc := 34) (tgt := 39) dX12_feed_34 (by decide) ?_
            exact j_J.wq (hk39 v1 v2 v3 v4 v5 v3 M h) (And.intro rfl (And.intro rfl (And.intro rfl (And.intro rfl (And.intro rfl (trivial))))))
        · replace h := (X_if h).2 hc
          refine j_lload_n C0 (pc := 22) dX12_feed_22 rfl ?_
          refine j_goto C0 (pc := 23) (tgt := 39) dX12_feed_23 (by decide) ?_
          exact j_J.wq (hk39 v1 v2 v3 v4 v5 v2 M h) (And.intro rfl (And.intro rfl (And.intro rfl (And.intro rfl (And.intro rfl (trivial))))))
set_option maxHeartbeats 4000000 in
theorem K_X12_feed (a0 : Nat) (a1 : Int64) (a2 : Int64) (a3 : Int64) (M : m_M) (Φ : Option Value → m_M → Prop) (h : m_ok e_I Φ (F_X12_feed a0 a1 a2 a3 M)) : j_Ct yX12_feed cX12_feed 11 (some .int) 1 0 0 [.ref a0, .long a1, .long a2, .long a3] M Φ := by
  refine j_Ct.of (by decide +kernel) (Nat.le_of_ble_eq_true rfl) fun X C => ?_
  have C0 := C.1
  show j_J X 11 0 [some (.ref a0), some (.long a1), none, some (.long a2), none, some (.long a3), none, none, none, none, none] [] (0, 0) M
  unfold F_X12_feed at h
  refine j_aload_n C0 (pc := 0) dX12_feed_0 rfl ?_
  refine j_iconst C0 (pc := 1) dX12_feed_1 (v := (0 : Int32)) (by decide) ?_
  refine X_pI C0 (pc := 2) f_OM_163_10 rfl rfl dX12_feed_2 h (fun M1 h => ?_)
  refine j_iconst C0 (pc := 5) dX12_feed_5 (v := (0 : Int32)) (by decide) ?_
  refine j_istore C0 (pc := 6) dX12_feed_6 (Nat.le_of_ble_eq_true rfl) ?_
  show j_J X 11 8 [some (.ref a0), some (.long a1), none, some (.long a2), none, some (.long a3), none, some (.int (0 : Int32)), none, none, none] [] (0, 0) M1
  exact j_J.wq (L_X12_feed_8 C m_FU a0 a1 a2 a3 (0 : Int32) M1 h) (And.intro rfl (And.intro rfl (And.intro rfl (And.intro rfl (And.intro rfl (trivial))))))
theorem dX12_hasBy_0 : decode cX12_hasBy 0 = .ok (.aload_n 0, 1) := by decide +kernel
theorem dX12_hasBy_1 : decode cX12_hasBy 1 = .ok (.invokevirtual 540, 3) := by decide +kernel
theorem dX12_hasBy_4 : decode cX12_hasBy 4 = .ok (.istore_n 2, 1) := by decide +kernel
theorem dX12_hasBy_5 : decode cX12_hasBy 5 = .ok (.iload_n 2, 1) := by decide +kernel
theorem dX12_hasBy_6 : decode cX12_hasBy 6 = .ok (.ifCond .ge 7, 3) := by decide +kernel
theorem dX12_hasBy_9 : decode cX12_hasBy 9 = .ok (.iconst 0, 1) := by decide +kernel
theorem dX12_hasBy_10 : decode cX12_hasBy 10 = .ok (.goto 18, 3) := by decide +kernel
theorem dX12_hasBy_13 : decode cX12_hasBy 13 = .ok (.iconst 0, 1) := by decide +kernel
theorem dX12_hasBy_14 : decode cX12_hasBy 14 = .ok (.aload_n 0, 1) := by decide +kernel
theorem dX12_hasBy_15 : decode cX12_hasBy 15 = .ok (.getfield 35, 3) := by decide +kernel
theorem dX12_hasBy_18 : decode cX12_hasBy 18 = .ok (.bipush 6, 2) := by decide +kernel
theorem dX12_hasBy_20 : decode cX12_hasBy 20 = .ok (.iload_n 1, 1) := by decide +kernel
theorem dX12_hasBy_21 : decode cX12_hasBy 21 = .ok (.imul, 1) := by decide +kernel
theorem dX12_hasBy_22 : decode cX12_hasBy 22 = .ok (.iload_n 2, 1) := by decide +kernel
theorem dX12_hasBy_23 : decode cX12_hasBy 23 = .ok (.iadd, 1) := by decide +kernel
theorem dX12_hasBy_24 : decode cX12_hasBy 24 = .ok (.iaload, 1) := by decide +kernel
theorem dX12_hasBy_25 : decode cX12_hasBy 25 = .ok (.invokestatic 543, 3) := by decide +kernel
theorem dX12_hasBy_28 : decode cX12_hasBy 28 = .ok (.istore_n 3, 1) := by decide +kernel
theorem dX12_hasBy_29 : decode cX12_hasBy 29 = .ok (.iload_n 3, 1) := by decide +kernel
theorem dX12_hasBy_30 : decode cX12_hasBy 30 = .ok (.aload_n 0, 1) := by decide +kernel
theorem dX12_hasBy_31 : decode cX12_hasBy 31 = .ok (.getfield 147, 3) := by decide +kernel
theorem dX12_hasBy_34 : decode cX12_hasBy 34 = .ok (.iload_n 1, 1) := by decide +kernel
theorem dX12_hasBy_35 : decode cX12_hasBy 35 = .ok (.iaload, 1) := by decide +kernel
theorem dX12_hasBy_36 : decode cX12_hasBy 36 = .ok (.ifCond .le 13, 3) := by decide +kernel
theorem dX12_hasBy_39 : decode cX12_hasBy 39 = .ok (.aload_n 0, 1) := by decide +kernel
theorem dX12_hasBy_40 : decode cX12_hasBy 40 = .ok (.getfield 13, 3) := by decide +kernel
theorem dX12_hasBy_43 : decode cX12_hasBy 43 = .ok (.bipush 6, 2) := by decide +kernel
theorem dX12_hasBy_45 : decode cX12_hasBy 45 = .ok (.iaload, 1) := by decide +kernel
theorem dX12_hasBy_46 : decode cX12_hasBy 46 = .ok (.goto 4, 3) := by decide +kernel
theorem dX12_hasBy_49 : decode cX12_hasBy 49 = .ok (.iconst 0, 1) := by decide +kernel
theorem dX12_hasBy_50 : decode cX12_hasBy 50 = .ok (.isub, 1) := by decide +kernel
theorem dX12_hasBy_51 : decode cX12_hasBy 51 = .ok (.ireturn, 1) := by decide +kernel
noncomputable def F_X12_hasBy (a0 : Nat) (a1 : Int32) (M : m_M) : Option (Int32 × m_M) :=
  m_let (fun (v1 : Nat) (v2 : Int32) (v3 : Int32) (M1 : m_M) =>
    x_gN 10 M1 v1 70 fun v4 =>
    x_aI 12 M1 v4 v2 fun v5 =>
    if v5 ≤ 0 then (
      some (v3 - (0 : Int32), M1)
    ) else
    x_gN 10 M1 v1 10 fun v6 =>
    x_aI 12 M1 v6 (6 : Int32) fun v7 =>
    some (v3 - v7, M1)
  ) fun (k28 : Nat → Int32 → Int32 → m_M → Option (Int32 × m_M)) =>
  x_cV 10 M a0 (F_X12_bell a0 M) fun v8 M2 =>
  if 0 ≤ v8 then (
    x_gN 10 M2 a0 17 fun v9 =>
    x_aI 12 M2 v9 (((6 : Int32) * a1) + v8) fun v10 =>
    x_bd (F_J9_max_7cf53 (0 : Int32) v10 M2) fun v11 M3 =>
    k28 a0 a1 v11 M3
  ) else
  k28 a0 a1 (0 : Int32) M2
set_option maxHeartbeats 4000000 in
theorem K_X12_hasBy (a0 : Nat) (a1 : Int32) (M : m_M) (Φ : Option Value → m_M → Prop) (h : m_ok e_I Φ (F_X12_hasBy a0 a1 M)) : j_Ct yX12_hasBy cX12_hasBy 4 (some .int) 3 0 0 [.ref a0, .int a1] M Φ := by
  refine j_Ct.of (by decide +kernel) (Nat.le_of_ble_eq_true rfl) fun X C => ?_
  have C0 := C.1
  show j_J X 4 0 [some (.ref a0), some (.int a1), none, none] [] (0, 0) M
  unfold F_X12_hasBy at h
  refine X_join (fun (kj : Nat → Int32 → Int32 → m_M → Option (Int32 × m_M)) => ∀ (p0 : Nat) (p1 : Int32) (p2 : Int32) (M : m_M), m_ok e_I Φ (kj p0 p1 p2 M) → j_J X 4 28 [some (.ref p0), some (.int p1), none, none] [.int p2] (0, 0) M) h (fun v1 v2 v3 M1 h => ?_) (fun k28 hk28 h => ?_)
  · refine j_istore_n C0 (pc := 28) dX12_hasBy_28 (Nat.le_of_ble_eq_true rfl) ?_
    show j_J X 4 29 [some (.ref v1), some (.int v2), none, some (.int v3)] [] (0, 0) M1
    refine j_iload_n C0 (pc := 29) dX12_hasBy_29 rfl ?_
    refine j_aload_n C0 (pc := 30) dX12_hasBy_30 rfl ?_
    refine X_gN C0 (pc := 31) f_OM_147_10 rfl dX12_hasBy_31 h (fun v4 h => ?_)
    refine j_iload_n C0 (pc := 34) dX12_hasBy_34 rfl ?_
    refine X_iald C0 (pc := 35) dX12_hasBy_35 h (fun v5 h => ?_)
    refine j_if_le C0 (pc := 36) (tgt := 49) dX12_hasBy_36 (by decide) (fun hc => ?_) (fun hc => ?_)
    · replace h := (X_if h).1 hc
      refine j_iconst C0 (pc := 49) dX12_hasBy_49 (v := (0 : Int32)) (by decide) ?_
      refine j_isub C0 (pc := 50) dX12_hasBy_50 ?_
      exact j_iret C rfl h dX12_hasBy_51 (by decide)
    · replace h := (X_if h).2 hc
      refine j_aload_n C0 (pc := 39) dX12_hasBy_39 rfl ?_
      refine X_gN C0 (pc := 40) f_OM_13_10 rfl dX12_hasBy_40 h (fun v6 h => ?_)
      refine j_bipush C0 (pc := 43) dX12_hasBy_43 (v := (6 : Int32)) (by decide) ?_
      refine X_iald C0 (pc := 45) dX12_hasBy_45 h (fun v7 h => ?_)
      refine j_goto C0 (pc := 46) (tgt := 50) dX12_hasBy_46 (by decide) ?_
      refine j_isub C0 (pc := 50) dX12_hasBy_50 ?_
      exact j_iret C rfl h dX12_hasBy_51 (by decide)
  · refine j_aload_n C0 (pc := 0) dX12_hasBy_0 rfl ?_
    refine X_cV C0 (pc := 1) (e' := e_I) (as := []) (rest := []) (s' := fun w => .int w :: []) (g' := (0, 0)) v_OM_540_10 (fun Ψ hΨ => K_X12_bell a0 M Ψ hΨ) rfl rfl (fun _ => rfl) (by decide) (by decide) rfl (Nat.le_of_ble_eq_true rfl) dX12_hasBy_1 h (fun v8 M2 h => ?_)
    refine j_istore_n C0 (pc := 4) dX12_hasBy_4 (Nat.le_of_ble_eq_true rfl) ?_
    show j_J X 4 5 [some (.ref a0), some (.int a1), some (.int v8), none] [] (0, 0) M2
    refine j_iload_n C0 (pc := 5) dX12_hasBy_5 rfl ?_
    refine j_if_ge C0 (pc := 6) (tgt := 13) dX12_hasBy_6 (by decide) (fun hc => ?_) (fun hc => ?_)
    · replace h := (X_if h).1 hc
      refine j_iconst C0 (pc := 13) dX12_hasBy_13 (v := (0 : Int32)) (by decide) ?_
      refine j_aload_n C0 (pc := 14) dX12_hasBy_14 rfl ?_
      refine X_gN C0 (pc := 15) f_OM_35_10 rfl dX12_hasBy_15 h (fun v9 h => ?_)
      refine j_bipush C0 (pc := 18) dX12_hasBy_18 (v := (6 : Int32)) (by decide) ?_
      refine j_iload_n C0 (pc := 20) dX12_hasBy_20 rfl ?_
      refine j_imul C0 (pc := 21) dX12_hasBy_21 ?_
      refine j_iload_n C0 (pc := 22) dX12_hasBy_22 rfl ?_
      refine j_iadd C0 (pc := 23) dX12_hasBy_23 ?_
      refine X_iald C0 (pc := 24) dX12_hasBy_24 h (fun v10 h => ?_)
      refine X_cS C0 (pc := 25) (e' := e_I) (as := [.int (0 : Int32), .int v10]) (rest := []) (s' := fun w => .int w :: []) (g' := (0, 0)) s_OM_543 (fun Ψ hΨ => K_J9_max_7cf53 (0 : Int32) v10 M2 Ψ hΨ) rfl rfl (fun _ => rfl) (by decide) (by decide) rfl (Nat.le_of_ble_eq_true rfl) dX12_hasBy_25 h (fun v11 M3 h => ?_)
      exact j_J.wq (hk28 a0 a1 v11 M3 h) (And.intro rfl (And.intro rfl (trivial)))
    · replace h := (X_if h).2 hc
      refine j_iconst C0 (pc := 9) dX12_hasBy_9 (v := (0 : Int32)) (by decide) ?_
      refine j_goto C0 (pc := 10) (tgt := 28) dX12_hasBy_10 (by decide) ?_
      exact j_J.wq (hk28 a0 a1 (0 : Int32) M2 h) (And.intro rfl (And.intro rfl (trivial)))
theorem dX12_isWorld_0 : decode cX12_isWorld 0 = .ok (.iload_n 1, 1) := by decide +kernel
theorem dX12_isWorld_1 : decode cX12_isWorld 1 = .ok (.ifCond .lt 15, 3) := by decide +kernel
theorem dX12_isWorld_4 : decode cX12_isWorld 4 = .ok (.iload_n 1, 1) := by decide +kernel
theorem dX12_isWorld_5 : decode cX12_isWorld 5 = .ok (.aload_n 0, 1) := by decide +kernel
theorem dX12_isWorld_6 : decode cX12_isWorld 6 = .ok (.getfield 383, 3) := by decide +kernel
theorem dX12_isWorld_9 : decode cX12_isWorld 9 = .ok (.if_icmp .ge 7, 3) := by decide +kernel
theorem dX12_isWorld_12 : decode cX12_isWorld 12 = .ok (.iconst 1, 1) := by decide +kernel
theorem dX12_isWorld_13 : decode cX12_isWorld 13 = .ok (.goto 4, 3) := by decide +kernel
theorem dX12_isWorld_16 : decode cX12_isWorld 16 = .ok (.iconst 0, 1) := by decide +kernel
theorem dX12_isWorld_17 : decode cX12_isWorld 17 = .ok (.ireturn, 1) := by decide +kernel
noncomputable def F_X12_isWorld (a0 : Nat) (a1 : Int32) (M : m_M) : Option (Int32 × m_M) :=
  m_let (fun  (M1 : m_M) =>
    some ((0 : Int32), M1)
  ) fun (k16 : m_M → Option (Int32 × m_M)) =>
  if a1 < 0 then (
    k16 M
  ) else
  x_gI 10 M a0 42 fun v1 =>
  if v1 ≤ a1 then (
    k16 M
  ) else
  some ((1 : Int32), M)
set_option maxHeartbeats 4000000 in
theorem K_X12_isWorld (a0 : Nat) (a1 : Int32) (M : m_M) (Φ : Option Value → m_M → Prop) (h : m_ok e_I Φ (F_X12_isWorld a0 a1 M)) : j_Ct yX12_isWorld cX12_isWorld 2 (some .boolean) 1 0 0 [.ref a0, .int a1] M Φ := by
  refine j_Ct.of (by decide +kernel) (Nat.le_of_ble_eq_true rfl) fun X C => ?_
  have C0 := C.1
  show j_J X 2 0 [some (.ref a0), some (.int a1)] [] (0, 0) M
  unfold F_X12_isWorld at h
  refine X_join (fun (kj : m_M → Option (Int32 × m_M)) => ∀  (M : m_M), m_ok e_I Φ (kj M) → j_J X 2 16 [none, none] [] (0, 0) M) h (fun M1 h => ?_) (fun k16 hk16 h => ?_)
  · refine j_iconst C0 (pc := 16) dX12_isWorld_16 (v := (0 : Int32)) (by decide) ?_
    exact j_zret C rfl (by decide) h dX12_isWorld_17 (by decide)
  · refine j_iload_n C0 (pc := 0) dX12_isWorld_0 rfl ?_
    refine j_if_lt C0 (pc := 1) (tgt := 16) dX12_isWorld_1 (by decide) (fun hc => ?_) (fun hc => ?_)
    · replace h := (X_if h).1 hc
      exact j_J.wq (hk16 M h) (trivial)
    · replace h := (X_if h).2 hc
      refine j_iload_n C0 (pc := 4) dX12_isWorld_4 rfl ?_
      refine j_aload_n C0 (pc := 5) dX12_isWorld_5 rfl ?_
      refine X_gI C0 (pc := 6) f_OM_383_10 rfl dX12_isWorld_6 h (fun v1 h => ?_)
      refine j_icmp_ge C0 (pc := 9) (tgt := 16) dX12_isWorld_9 (by decide) (fun hc => ?_) (fun hc => ?_)
      · replace h := (X_if h).1 hc
        exact j_J.wq (hk16 M h) (trivial)
      · replace h := (X_if h).2 hc
        refine j_iconst C0 (pc := 12) dX12_isWorld_12 (v := (1 : Int32)) (by decide) ?_
        refine j_goto C0 (pc := 13) (tgt := 17) dX12_isWorld_13 (by decide) ?_
        exact j_zret C rfl (by decide) h dX12_isWorld_17 (by decide)
theorem dX12_holds_0 : decode cX12_holds 0 = .ok (.aload_n 0, 1) := by decide +kernel
theorem dX12_holds_1 : decode cX12_holds 1 = .ok (.iconst 0, 1) := by decide +kernel
theorem dX12_holds_2 : decode cX12_holds 2 = .ok (.putfield 163, 3) := by decide +kernel
theorem dX12_holds_5 : decode cX12_holds 5 = .ok (.aload_n 0, 1) := by decide +kernel
theorem dX12_holds_6 : decode cX12_holds 6 = .ok (.iload_n 1, 1) := by decide +kernel
theorem dX12_holds_7 : decode cX12_holds 7 = .ok (.invokevirtual 475, 3) := by decide +kernel
theorem dX12_holds_10 : decode cX12_holds 10 = .ok (.ifCond .eq 15, 3) := by decide +kernel
theorem dX12_holds_13 : decode cX12_holds 13 = .ok (.iload_n 2, 1) := by decide +kernel
theorem dX12_holds_14 : decode cX12_holds 14 = .ok (.ifCond .lt 11, 3) := by decide +kernel
theorem dX12_holds_17 : decode cX12_holds 17 = .ok (.aload_n 0, 1) := by decide +kernel
theorem dX12_holds_18 : decode cX12_holds 18 = .ok (.iload_n 3, 1) := by decide +kernel
theorem dX12_holds_19 : decode cX12_holds 19 = .ok (.invokevirtual 466, 3) := by decide +kernel
theorem dX12_holds_22 : decode cX12_holds 22 = .ok (.ifCond .ne 5, 3) := by decide +kernel
theorem dX12_holds_25 : decode cX12_holds 25 = .ok (.iconst (-1), 1) := by decide +kernel
theorem dX12_holds_26 : decode cX12_holds 26 = .ok (.ireturn, 1) := by decide +kernel
theorem dX12_holds_27 : decode cX12_holds 27 = .ok (.aload_n 0, 1) := by decide +kernel
theorem dX12_holds_28 : decode cX12_holds 28 = .ok (.iload_n 3, 1) := by decide +kernel
theorem dX12_holds_29 : decode cX12_holds 29 = .ok (.invokevirtual 402, 3) := by decide +kernel
theorem dX12_holds_32 : decode cX12_holds 32 = .ok (.aload_n 0, 1) := by decide +kernel
theorem dX12_holds_33 : decode cX12_holds 33 = .ok (.iload_n 1, 1) := by decide +kernel
theorem dX12_holds_34 : decode cX12_holds 34 = .ok (.aload_n 0, 1) := by decide +kernel
theorem dX12_holds_35 : decode cX12_holds 35 = .ok (.iload_n 2, 1) := by decide +kernel
theorem dX12_holds_36 : decode cX12_holds 36 = .ok (.invokevirtual 436, 3) := by decide +kernel
theorem dX12_holds_39 : decode cX12_holds 39 = .ok (.invokevirtual 478, 3) := by decide +kernel
theorem dX12_holds_42 : decode cX12_holds 42 = .ok (.ifCond .eq 7, 3) := by decide +kernel
theorem dX12_holds_45 : decode cX12_holds 45 = .ok (.iconst 1, 1) := by decide +kernel
theorem dX12_holds_46 : decode cX12_holds 46 = .ok (.goto 4, 3) := by decide +kernel
theorem dX12_holds_49 : decode cX12_holds 49 = .ok (.iconst 0, 1) := by decide +kernel
theorem dX12_holds_50 : decode cX12_holds 50 = .ok (.ireturn, 1) := by decide +kernel
noncomputable def F_X12_holds (a0 : Nat) (a1 : Int32) (a2 : Int32) (a3 : Int32) (M : m_M) : Option (Int32 × m_M) :=
  x_pI 10 M a0 0 (0 : Int32) fun M1 =>
  x_cV 10 M1 a0 (F_X12_isClause a0 a1 M1) fun v1 M2 =>
  if v1 = 0 then (
    some ((-1 : Int32), M2)
  ) else
  if a2 < 0 then (
    some ((-1 : Int32), M2)
  ) else
  x_cV 10 M2 a0 (F_X12_isWorld a0 a3 M2) fun v2 M3 =>
  if v2 = 0 then (
    some ((-1 : Int32), M3)
  ) else
  x_cV 10 M3 a0 (F_X12_shows a0 a3 M3) fun _ M4 =>
  x_cV 10 M4 a0 (F_X12_verbOf a0 a2 M4) fun v3 M5 =>
  x_cV 10 M5 a0 (F_X12_clauseHolds a0 a1 v3 M5) fun v4 M6 =>
  if v4 = 0 then (
    some ((0 : Int32), M6)
  ) else
  some ((1 : Int32), M6)
set_option maxHeartbeats 4000000 in
theorem K_X12_holds (a0 : Nat) (a1 : Int32) (a2 : Int32) (a3 : Int32) (M : m_M) (Φ : Option Value → m_M → Prop) (h : m_ok e_I Φ (F_X12_holds a0 a1 a2 a3 M)) : j_Ct yX12_holds cX12_holds 4 (some .int) 8 0 0 [.ref a0, .int a1, .int a2, .int a3] M Φ := by
  refine j_Ct.of (by decide +kernel) (Nat.le_of_ble_eq_true rfl) fun X C => ?_
  have C0 := C.1
  show j_J X 4 0 [some (.ref a0), some (.int a1), some (.int a2), some (.int a3)] [] (0, 0) M
  unfold F_X12_holds at h
  refine j_aload_n C0 (pc := 0) dX12_holds_0 rfl ?_
  refine j_iconst C0 (pc := 1) dX12_holds_1 (v := (0 : Int32)) (by decide) ?_
  refine X_pI C0 (pc := 2) f_OM_163_10 rfl rfl dX12_holds_2 h (fun M1 h => ?_)
  refine j_aload_n C0 (pc := 5) dX12_holds_5 rfl ?_
  refine j_iload_n C0 (pc := 6) dX12_holds_6 rfl ?_
  refine X_cV C0 (pc := 7) (e' := e_I) (as := [.int a1]) (rest := []) (s' := fun w => .int w :: []) (g' := (0, 0)) v_OM_475_10 (fun Ψ hΨ => K_X12_isClause a0 a1 M1 Ψ hΨ) rfl rfl (fun _ => rfl) (by decide) (by decide) rfl (Nat.le_of_ble_eq_true rfl) dX12_holds_7 h (fun v1 M2 h => ?_)
  refine j_if_eq C0 (pc := 10) (tgt := 25) dX12_holds_10 (by decide) (fun hc => ?_) (fun hc => ?_)
  · replace h := (X_if h).1 hc
    refine j_iconst C0 (pc := 25) dX12_holds_25 (v := (-1 : Int32)) (by decide) ?_
    exact j_iret C rfl h dX12_holds_26 (by decide)
  · replace h := (X_if h).2 hc
    refine j_iload_n C0 (pc := 13) dX12_holds_13 rfl ?_
    refine j_if_lt C0 (pc := 14) (tgt := 25) dX12_holds_14 (by decide) (fun hc => ?_) (fun hc => ?_)
    · replace h := (X_if h).1 hc
      refine j_iconst C0 (pc := 25) dX12_holds_25 (v := (-1 : Int32)) (by decide) ?_
      exact j_iret C rfl h dX12_holds_26 (by decide)
    · replace h := (X_if h).2 hc
      refine j_aload_n C0 (pc := 17) dX12_holds_17 rfl ?_
      refine j_iload_n C0 (pc := 18) dX12_holds_18 rfl ?_
      refine X_cV C0 (pc := 19) (e' := e_I) (as := [.int a3]) (rest := []) (s' := fun w => .int w :: []) (g' := (0, 0)) v_OM_466_10 (fun Ψ hΨ => K_X12_isWorld a0 a3 M2 Ψ hΨ) rfl rfl (fun _ => rfl) (by decide) (by decide) rfl (Nat.le_of_ble_eq_true rfl) dX12_holds_19 h (fun v2 M3 h => ?_)
      refine j_if_ne C0 (pc := 22) (tgt := 27) dX12_holds_22 (by decide) (fun hc => ?_) (fun hc => ?_)
      · replace h := (X_if h).2 hc
        refine j_aload_n C0 (pc := 27) dX12_holds_27 rfl ?_
        refine j_iload_n C0 (pc := 28) dX12_holds_28 rfl ?_
        refine X_cV C0 (pc := 29) (e' := e_V) (as := [.int a3]) (rest := []) (s' := fun _ => []) (g' := (0, 0)) v_OM_402_10 (fun Ψ hΨ => K_X12_shows a0 a3 M3 Ψ hΨ) rfl rfl (fun _ => rfl) (by decide) (by decide) rfl (Nat.le_of_ble_eq_true rfl) dX12_holds_29 h (fun _ M4 h => ?_)
        refine j_aload_n C0 (pc := 32) dX12_holds_32 rfl ?_
        refine j_iload_n C0 (pc := 33) dX12_holds_33 rfl ?_
        refine j_aload_n C0 (pc := 34) dX12_holds_34 rfl ?_
        refine j_iload_n C0 (pc := 35) dX12_holds_35 rfl ?_
        refine X_cV C0 (pc := 36) (e' := e_I) (as := [.int a2]) (rest := [.int a1, .ref a0]) (s' := fun w => .int w :: [.int a1, .ref a0]) (g' := (0, 0)) v_OM_436_10 (fun Ψ hΨ => K_X12_verbOf a0 a2 M4 Ψ hΨ) rfl rfl (fun _ => rfl) (by decide) (by decide) rfl (Nat.le_of_ble_eq_true rfl) dX12_holds_36 h (fun v3 M5 h => ?_)
        refine X_cV C0 (pc := 39) (e' := e_I) (as := [.int a1, .int v3]) (rest := []) (s' := fun w => .int w :: []) (g' := (0, 0)) v_OM_478_10 (fun Ψ hΨ => K_X12_clauseHolds a0 a1 v3 M5 Ψ hΨ) rfl rfl (fun _ => rfl) (by decide) (by decide) rfl (Nat.le_of_ble_eq_true rfl) dX12_holds_39 h (fun v4 M6 h => ?_)
        refine j_if_eq C0 (pc := 42) (tgt := 49) dX12_holds_42 (by decide) (fun hc => ?_) (fun hc => ?_)
        · replace h := (X_if h).1 hc
          refine j_iconst C0 (pc := 49) dX12_holds_49 (v := (0 : Int32)) (by decide) ?_
          exact j_iret C rfl h dX12_holds_50 (by decide)
        · replace h := (X_if h).2 hc
          refine j_iconst C0 (pc := 45) dX12_holds_45 (v := (1 : Int32)) (by decide) ?_
          refine j_goto C0 (pc := 46) (tgt := 50) dX12_holds_46 (by decide) ?_
          exact j_iret C rfl h dX12_holds_50 (by decide)
      · replace h := (X_if h).1 hc
        refine j_iconst C0 (pc := 25) dX12_holds_25 (v := (-1 : Int32)) (by decide) ?_
        exact j_iret C rfl h dX12_holds_26 (by decide)
theorem dX12_plain_0 : decode cX12_plain 0 = .ok (.iconst 0, 1) := by decide +kernel
theorem dX12_plain_1 : decode cX12_plain 1 = .ok (.istore_n 2, 1) := by decide +kernel
theorem dX12_plain_2 : decode cX12_plain 2 = .ok (.iload_n 2, 1) := by decide +kernel
theorem dX12_plain_3 : decode cX12_plain 3 = .ok (.bipush 8, 2) := by decide +kernel
theorem dX12_plain_5 : decode cX12_plain 5 = .ok (.if_icmp .ge 21, 3) := by decide +kernel
theorem dX12_plain_8 : decode cX12_plain 8 = .ok (.aload_n 0, 1) := by decide +kernel
theorem dX12_plain_9 : decode cX12_plain 9 = .ok (.getfield 13, 3) := by decide +kernel
theorem dX12_plain_12 : decode cX12_plain 12 = .ok (.bipush 8, 2) := by decide +kernel
theorem dX12_plain_14 : decode cX12_plain 14 = .ok (.iload_n 1, 1) := by decide +kernel
theorem dX12_plain_15 : decode cX12_plain 15 = .ok (.imul, 1) := by decide +kernel
theorem dX12_plain_16 : decode cX12_plain 16 = .ok (.iload_n 2, 1) := by decide +kernel
theorem dX12_plain_17 : decode cX12_plain 17 = .ok (.iadd, 1) := by decide +kernel
theorem dX12_plain_18 : decode cX12_plain 18 = .ok (.iconst 0, 1) := by decide +kernel
theorem dX12_plain_19 : decode cX12_plain 19 = .ok (.iastore, 1) := by decide +kernel
theorem dX12_plain_20 : decode cX12_plain 20 = .ok (.iinc 2 1, 3) := by decide +kernel
theorem dX12_plain_23 : decode cX12_plain 23 = .ok (.goto (-21), 3) := by decide +kernel
theorem dX12_plain_26 : decode cX12_plain 26 = .ok (.aload_n 0, 1) := by decide +kernel
theorem dX12_plain_27 : decode cX12_plain 27 = .ok (.getfield 13, 3) := by decide +kernel
theorem dX12_plain_30 : decode cX12_plain 30 = .ok (.bipush 8, 2) := by decide +kernel
theorem dX12_plain_32 : decode cX12_plain 32 = .ok (.iload_n 1, 1) := by decide +kernel
theorem dX12_plain_33 : decode cX12_plain 33 = .ok (.imul, 1) := by decide +kernel
theorem dX12_plain_34 : decode cX12_plain 34 = .ok (.iconst 0, 1) := by decide +kernel
theorem dX12_plain_35 : decode cX12_plain 35 = .ok (.iadd, 1) := by decide +kernel
theorem dX12_plain_36 : decode cX12_plain 36 = .ok (.iconst 2, 1) := by decide +kernel
theorem dX12_plain_37 : decode cX12_plain 37 = .ok (.iastore, 1) := by decide +kernel
theorem dX12_plain_38 : decode cX12_plain 38 = .ok (.aload_n 0, 1) := by decide +kernel
theorem dX12_plain_39 : decode cX12_plain 39 = .ok (.getfield 13, 3) := by decide +kernel
theorem dX12_plain_42 : decode cX12_plain 42 = .ok (.bipush 8, 2) := by decide +kernel
theorem dX12_plain_44 : decode cX12_plain 44 = .ok (.iload_n 1, 1) := by decide +kernel
theorem dX12_plain_45 : decode cX12_plain 45 = .ok (.imul, 1) := by decide +kernel
theorem dX12_plain_46 : decode cX12_plain 46 = .ok (.bipush 6, 2) := by decide +kernel
theorem dX12_plain_48 : decode cX12_plain 48 = .ok (.iadd, 1) := by decide +kernel
theorem dX12_plain_49 : decode cX12_plain 49 = .ok (.iconst 1, 1) := by decide +kernel
theorem dX12_plain_50 : decode cX12_plain 50 = .ok (.iastore, 1) := by decide +kernel
theorem dX12_plain_51 : decode cX12_plain 51 = .ok (.return_, 1) := by decide +kernel
noncomputable def F_X12_plain_2 (k26 : Nat → Int32 → m_M → Option (Unit × m_M)) : Nat → Nat → Int32 → Int32 → m_M → Option (Unit × m_M)
  | 0, _, _, _, _ => none
  | n + 1, v1, v2, v3, M =>
    if (8 : Int32) ≤ v3 then (
      k26 v1 v2 M
    ) else
    x_gN 10 M v1 10 fun v4 =>
    x_sI 12 M v4 (((8 : Int32) * v2) + v3) (0 : Int32) fun M1 =>
    m_let (v3 + (1 : Int32)) fun v5 =>
    F_X12_plain_2 k26 n v1 v2 v5 M1
noncomputable def F_X12_plain (a0 : Nat) (a1 : Int32) (M : m_M) : Option (Unit × m_M) :=
  m_let (fun (v1 : Nat) (v2 : Int32) (M1 : m_M) =>
    x_gN 10 M1 v1 10 fun v3 =>
    x_sI 12 M1 v3 (((8 : Int32) * v2) + (0 : Int32)) (2 : Int32) fun M2 =>
    x_gN 10 M2 v1 10 fun v4 =>
    x_sI 12 M2 v4 (((8 : Int32) * v2) + (6 : Int32)) (1 : Int32) fun M3 =>
    some ((), M3)
  ) fun (k26 : Nat → Int32 → m_M → Option (Unit × m_M)) =>
  F_X12_plain_2 k26 m_FU a0 a1 (0 : Int32) M
set_option maxHeartbeats 4000000 in
theorem L_X12_plain_2 {X : j_X} {Φ : Option Value → m_M → Prop} (C : j_C X yX12_plain cX12_plain 3 none 1 0 0 Φ) {k26 : Nat → Int32 → m_M → Option (Unit × m_M)} (hk26 : ∀ (p0 : Nat) (p1 : Int32) (M : m_M), m_ok e_V Φ (k26 p0 p1 M) → j_J X 3 26 [some (.ref p0), some (.int p1), none] [] (0, 0) M) : ∀ (n : Nat) (v1 : Nat) (v2 : Int32) (v3 : Int32) (M : m_M), m_ok e_V Φ (F_X12_plain_2 k26 n v1 v2 v3 M) → j_J X 3 2 [some (.ref v1), some (.int v2), some (.int v3)] [] (0, 0) M := by
  have C0 := C.1
  intro n
  induction n with
  | zero => intro v1 v2 v3 M h; exact False.elim h
  | succ n ih =>
    intro v1 v2 v3 M h
    rw [F_X12_plain_2] at h
    refine j_iload_n C0 (pc := 2) dX12_plain_2 rfl ?_
    refine j_bipush C0 (pc := 3) dX12_plain_3 (v := (8 : Int32)) (by decide) ?_
    refine j_icmp_ge C0 (pc := 5) (tgt := 26) dX12_plain_5 (by decide) (fun hc => ?_) (fun hc => ?_)
    · replace h := (X_if h).1 hc
      exact j_J.wq (hk26 v1 v2 M h) (And.intro rfl (And.intro rfl (trivial)))
    · replace h := (X_if h).2 hc
      refine j_aload_n C0 (pc := 8) dX12_plain_8 rfl ?_
      refine X_gN C0 (pc := 9) f_OM_13_10 rfl dX12_plain_9 h (fun v4 h => ?_)
      refine j_bipush C0 (pc := 12) dX12_plain_12 (v := (8 : Int32)) (by decide) ?_
      refine j_iload_n C0 (pc := 14) dX12_plain_14 rfl ?_
      refine j_imul C0 (pc := 15) dX12_plain_15 ?_
      refine j_iload_n C0 (pc := 16) dX12_plain_16 rfl ?_
      refine j_iadd C0 (pc := 17) dX12_plain_17 ?_
      refine j_iconst C0 (pc := 18) dX12_plain_18 (v := (0 : Int32)) (by decide) ?_
      refine X_iast C0 (pc := 19) dX12_plain_19 h (fun M1 h => ?_)
      refine j_iinc C0 (pc := 20) dX12_plain_20 (v := v3 + (1 : Int32)) rfl (Nat.le_of_ble_eq_true rfl) (by rfl) ?_
      refine X_let (G := fun w => j_J X 3 23 [some (.ref v1), some (.int v2), some (.int w)] [] (0, 0) M1) h (fun v5 h => ?_)
      refine j_goto C0 (pc := 23) (tgt := 2) dX12_plain_23 (by decide) ?_
      exact j_J.wq (ih v1 v2 v5 M1 h) (And.intro rfl (And.intro rfl (And.intro rfl (trivial))))
set_option maxHeartbeats 4000000 in
theorem K_X12_plain (a0 : Nat) (a1 : Int32) (M : m_M) (Φ : Option Value → m_M → Prop) (h : m_ok e_V Φ (F_X12_plain a0 a1 M)) : j_Ct yX12_plain cX12_plain 3 none 1 0 0 [.ref a0, .int a1] M Φ := by
  refine j_Ct.of (by decide +kernel) (Nat.le_of_ble_eq_true rfl) fun X C => ?_
  have C0 := C.1
  show j_J X 3 0 [some (.ref a0), some (.int a1), none] [] (0, 0) M
  unfold F_X12_plain at h
  refine j_iconst C0 (pc := 0) dX12_plain_0 (v := (0 : Int32)) (by decide) ?_
  refine j_istore_n C0 (pc := 1) dX12_plain_1 (Nat.le_of_ble_eq_true rfl) ?_
  show j_J X 3 2 [some (.ref a0), some (.int a1), some (.int (0 : Int32))] [] (0, 0) M
  refine X_join (fun (kj : Nat → Int32 → m_M → Option (Unit × m_M)) => ∀ (p0 : Nat) (p1 : Int32) (M : m_M), m_ok e_V Φ (kj p0 p1 M) → j_J X 3 26 [some (.ref p0), some (.int p1), none] [] (0, 0) M) h (fun v1 v2 M1 h => ?_) (fun k26 hk26 h => ?_)
  · refine j_aload_n C0 (pc := 26) dX12_plain_26 rfl ?_
    refine X_gN C0 (pc := 27) f_OM_13_10 rfl dX12_plain_27 h (fun v3 h => ?_)
    refine j_bipush C0 (pc := 30) dX12_plain_30 (v := (8 : Int32)) (by decide) ?_
    refine j_iload_n C0 (pc := 32) dX12_plain_32 rfl ?_
    refine j_imul C0 (pc := 33) dX12_plain_33 ?_
    refine j_iconst C0 (pc := 34) dX12_plain_34 (v := (0 : Int32)) (by decide) ?_
    refine j_iadd C0 (pc := 35) dX12_plain_35 ?_
    refine j_iconst C0 (pc := 36) dX12_plain_36 (v := (2 : Int32)) (by decide) ?_
    refine X_iast C0 (pc := 37) dX12_plain_37 h (fun M2 h => ?_)
    refine j_aload_n C0 (pc := 38) dX12_plain_38 rfl ?_
    refine X_gN C0 (pc := 39) f_OM_13_10 rfl dX12_plain_39 h (fun v4 h => ?_)
    refine j_bipush C0 (pc := 42) dX12_plain_42 (v := (8 : Int32)) (by decide) ?_
    refine j_iload_n C0 (pc := 44) dX12_plain_44 rfl ?_
    refine j_imul C0 (pc := 45) dX12_plain_45 ?_
    refine j_bipush C0 (pc := 46) dX12_plain_46 (v := (6 : Int32)) (by decide) ?_
    refine j_iadd C0 (pc := 48) dX12_plain_48 ?_
    refine j_iconst C0 (pc := 49) dX12_plain_49 (v := (1 : Int32)) (by decide) ?_
    refine X_iast C0 (pc := 50) dX12_plain_50 h (fun M3 h => ?_)
    exact j_vret C rfl h dX12_plain_51 (by decide)
  · exact j_J.wq (L_X12_plain_2 C hk26 m_FU a0 a1 (0 : Int32) M h) (And.intro rfl (And.intro rfl (And.intro rfl (trivial))))
theorem dX12_measures_0 : decode cX12_measures 0 = .ok (.aload_n 0, 1) := by decide +kernel
theorem dX12_measures_1 : decode cX12_measures 1 = .ok (.iconst 1, 1) := by decide +kernel
theorem dX12_measures_2 : decode cX12_measures 2 = .ok (.putfield 383, 3) := by decide +kernel
theorem dX12_measures_5 : decode cX12_measures 5 = .ok (.iconst 0, 1) := by decide +kernel
theorem dX12_measures_6 : decode cX12_measures 6 = .ok (.istore_n 1, 1) := by decide +kernel
theorem dX12_measures_7 : decode cX12_measures 7 = .ok (.iload_n 1, 1) := by decide +kernel
theorem dX12_measures_8 : decode cX12_measures 8 = .ok (.aload_n 0, 1) := by decide +kernel
theorem dX12_measures_9 : decode cX12_measures 9 = .ok (.getfield 13, 3) := by decide +kernel
theorem dX12_measures_12 : decode cX12_measures 12 = .ok (.iconst 1, 1) := by decide +kernel
theorem dX12_measures_13 : decode cX12_measures 13 = .ok (.iaload, 1) := by decide +kernel
theorem dX12_measures_14 : decode cX12_measures 14 = .ok (.if_icmp .ge 24, 3) := by decide +kernel
theorem dX12_measures_17 : decode cX12_measures 17 = .ok (.aload_n 0, 1) := by decide +kernel
theorem dX12_measures_18 : decode cX12_measures 18 = .ok (.dup, 1) := by decide +kernel
theorem dX12_measures_19 : decode cX12_measures 19 = .ok (.getfield 383, 3) := by decide +kernel
theorem dX12_measures_22 : decode cX12_measures 22 = .ok (.aload_n 0, 1) := by decide +kernel
theorem dX12_measures_23 : decode cX12_measures 23 = .ok (.getfield 13, 3) := by decide +kernel
theorem dX12_measures_26 : decode cX12_measures 26 = .ok (.iconst 0, 1) := by decide +kernel
theorem dX12_measures_27 : decode cX12_measures 27 = .ok (.iaload, 1) := by decide +kernel
theorem dX12_measures_28 : decode cX12_measures 28 = .ok (.imul, 1) := by decide +kernel
theorem dX12_measures_29 : decode cX12_measures 29 = .ok (.putfield 383, 3) := by decide +kernel
theorem dX12_measures_32 : decode cX12_measures 32 = .ok (.iinc 1 1, 3) := by decide +kernel
theorem dX12_measures_35 : decode cX12_measures 35 = .ok (.goto (-28), 3) := by decide +kernel
theorem dX12_measures_38 : decode cX12_measures 38 = .ok (.aload_n 0, 1) := by decide +kernel
theorem dX12_measures_39 : decode cX12_measures 39 = .ok (.aload_n 0, 1) := by decide +kernel
theorem dX12_measures_40 : decode cX12_measures 40 = .ok (.getfield 383, 3) := by decide +kernel
theorem dX12_measures_43 : decode cX12_measures 43 = .ok (.bipush 63, 2) := by decide +kernel
theorem dX12_measures_45 : decode cX12_measures 45 = .ok (.iadd, 1) := by decide +kernel
theorem dX12_measures_46 : decode cX12_measures 46 = .ok (.bipush 64, 2) := by decide +kernel
theorem dX12_measures_48 : decode cX12_measures 48 = .ok (.idiv, 1) := by decide +kernel
theorem dX12_measures_49 : decode cX12_measures 49 = .ok (.putfield 386, 3) := by decide +kernel
theorem dX12_measures_52 : decode cX12_measures 52 = .ok (.return_, 1) := by decide +kernel
noncomputable def F_X12_measures_7 (k38 : Nat → m_M → Option (Unit × m_M)) : Nat → Nat → Int32 → m_M → Option (Unit × m_M)
  | 0, _, _, _ => none
  | n + 1, v1, v2, M =>
    x_gN 10 M v1 10 fun v3 =>
    x_aI 12 M v3 (1 : Int32) fun v4 =>
    if v4 ≤ v2 then (
      k38 v1 M
    ) else
    x_gI 10 M v1 42 fun v5 =>
    x_gN 10 M v1 10 fun v6 =>
    x_aI 12 M v6 (0 : Int32) fun v7 =>
    x_pI 10 M v1 42 (v5 * v7) fun M1 =>
    m_let (v2 + (1 : Int32)) fun v8 =>
    F_X12_measures_7 k38 n v1 v8 M1
noncomputable def F_X12_measures (a0 : Nat) (M : m_M) : Option (Unit × m_M) :=
  x_pI 10 M a0 42 (1 : Int32) fun M1 =>
  m_let (fun (v1 : Nat) (M2 : m_M) =>
    x_gI 10 M2 v1 42 fun v2 =>
    x_nz (64 : Int32) <|
    x_pI 10 M2 v1 43 ((v2 + (63 : Int32)) / (64 : Int32)) fun M3 =>
    some ((), M3)
  ) fun (k38 : Nat → m_M → Option (Unit × m_M)) =>
  F_X12_measures_7 k38 m_FU a0 (0 : Int32) M1
set_option maxHeartbeats 4000000 in
theorem L_X12_measures_7 {X : j_X} {Φ : Option Value → m_M → Prop} (C : j_C X yX12_measures cX12_measures 2 none 1 0 0 Φ) {k38 : Nat → m_M → Option (Unit × m_M)} (hk38 : ∀ (p0 : Nat) (M : m_M), m_ok e_V Φ (k38 p0 M) → j_J X 2 38 [some (.ref p0), none] [] (0, 0) M) : ∀ (n : Nat) (v1 : Nat) (v2 : Int32) (M : m_M), m_ok e_V Φ (F_X12_measures_7 k38 n v1 v2 M) → j_J X 2 7 [some (.ref v1), some (.int v2)] [] (0, 0) M := by
  have C0 := C.1
  intro n
  induction n with
  | zero => intro v1 v2 M h; exact False.elim h
  | succ n ih =>
    intro v1 v2 M h
    rw [F_X12_measures_7] at h
    refine j_iload_n C0 (pc := 7) dX12_measures_7 rfl ?_
    refine j_aload_n C0 (pc := 8) dX12_measures_8 rfl ?_
    refine X_gN C0 (pc := 9) f_OM_13_10 rfl dX12_measures_9 h (fun v3 h => ?_)
    refine j_iconst C0 (pc := 12) dX12_measures_12 (v := (1 : Int32)) (by decide) ?_
    refine X_iald C0 (pc := 13) dX12_measures_13 h (fun v4 h => ?_)
    refine j_icmp_ge C0 (pc := 14) (tgt := 38) dX12_measures_14 (by decide) (fun hc => ?_) (fun hc => ?_)
    · replace h := (X_if h).1 hc
      exact j_J.wq (hk38 v1 M h) (And.intro rfl (trivial))
    · replace h := (X_if h).2 hc
      refine j_aload_n C0 (pc := 17) dX12_measures_17 rfl ?_
      refine j_dup C0 (pc := 18) dX12_measures_18 rfl ?_
      refine X_gI C0 (pc := 19) f_OM_383_10 rfl dX12_measures_19 h (fun v5 h => ?_)
      refine j_aload_n C0 (pc := 22) dX12_measures_22 rfl ?_
      refine X_gN C0 (pc := 23) f_OM_13_10 rfl dX12_measures_23 h (fun v6 h => ?_)
      refine j_iconst C0 (pc := 26) dX12_measures_26 (v := (0 : Int32)) (by decide) ?_
      refine X_iald C0 (pc := 27) dX12_measures_27 h (fun v7 h => ?_)
      refine j_imul C0 (pc := 28) dX12_measures_28 ?_
      refine X_pI C0 (pc := 29) f_OM_383_10 rfl rfl dX12_measures_29 h (fun M1 h => ?_)
      refine j_iinc C0 (pc := 32) dX12_measures_32 (v := v2 + (1 : Int32)) rfl (Nat.le_of_ble_eq_true rfl) (by rfl) ?_
      refine X_let (G := fun w => j_J X 2 35 [some (.ref v1), some (.int w)] [] (0, 0) M1) h (fun v8 h => ?_)
      refine j_goto C0 (pc := 35) (tgt := 7) dX12_measures_35 (by decide) ?_
      exact j_J.wq (ih v1 v8 M1 h) (And.intro rfl (And.intro rfl (trivial)))
set_option maxHeartbeats 4000000 in
theorem K_X12_measures (a0 : Nat) (M : m_M) (Φ : Option Value → m_M → Prop) (h : m_ok e_V Φ (F_X12_measures a0 M)) : j_Ct yX12_measures cX12_measures 2 none 1 0 0 [.ref a0] M Φ := by
  refine j_Ct.of (by decide +kernel) (Nat.le_of_ble_eq_true rfl) fun X C => ?_
  have C0 := C.1
  show j_J X 2 0 [some (.ref a0), none] [] (0, 0) M
  unfold F_X12_measures at h
  refine j_aload_n C0 (pc := 0) dX12_measures_0 rfl ?_
  refine j_iconst C0 (pc := 1) dX12_measures_1 (v := (1 : Int32)) (by decide) ?_
  refine X_pI C0 (pc := 2) f_OM_383_10 rfl rfl dX12_measures_2 h (fun M1 h => ?_)
  refine j_iconst C0 (pc := 5) dX12_measures_5 (v := (0 : Int32)) (by decide) ?_
  refine j_istore_n C0 (pc := 6) dX12_measures_6 (Nat.le_of_ble_eq_true rfl) ?_
  show j_J X 2 7 [some (.ref a0), some (.int (0 : Int32))] [] (0, 0) M1
  refine X_join (fun (kj : Nat → m_M → Option (Unit × m_M)) => ∀ (p0 : Nat) (M : m_M), m_ok e_V Φ (kj p0 M) → j_J X 2 38 [some (.ref p0), none] [] (0, 0) M) h (fun v1 M2 h => ?_) (fun k38 hk38 h => ?_)
  · refine j_aload_n C0 (pc := 38) dX12_measures_38 rfl ?_
    refine j_aload_n C0 (pc := 39) dX12_measures_39 rfl ?_
    refine X_gI C0 (pc := 40) f_OM_383_10 rfl dX12_measures_40 h (fun v2 h => ?_)
    refine j_bipush C0 (pc := 43) dX12_measures_43 (v := (63 : Int32)) (by decide) ?_
    refine j_iadd C0 (pc := 45) dX12_measures_45 ?_
    refine j_bipush C0 (pc := 46) dX12_measures_46 (v := (64 : Int32)) (by decide) ?_
    refine X_idiv C0 (pc := 48) dX12_measures_48 h (fun h => ?_)
    refine X_pI C0 (pc := 49) f_OM_386_10 rfl rfl dX12_measures_49 h (fun M3 h => ?_)
    exact j_vret C rfl h dX12_measures_52 (by decide)
  · exact j_J.wq (L_X12_measures_7 C hk38 m_FU a0 (0 : Int32) M1 h) (And.intro rfl (And.intro rfl (trivial)))
theorem dX12_init_0 : decode cX12_init 0 = .ok (.aload_n 0, 1) := by decide +kernel
theorem dX12_init_1 : decode cX12_init 1 = .ok (.invokespecial 1, 3) := by decide +kernel
theorem dX12_init_4 : decode cX12_init 4 = .ok (.aload_n 0, 1) := by decide +kernel
theorem dX12_init_5 : decode cX12_init 5 = .ok (.sipush 1000, 3) := by decide +kernel
theorem dX12_init_8 : decode cX12_init 8 = .ok (.newarray .int, 2) := by decide +kernel
theorem dX12_init_10 : decode cX12_init 10 = .ok (.putfield 7, 3) := by decide +kernel
theorem dX12_init_13 : decode cX12_init 13 = .ok (.aload_n 0, 1) := by decide +kernel
theorem dX12_init_14 : decode cX12_init 14 = .ok (.bipush 16, 2) := by decide +kernel
theorem dX12_init_16 : decode cX12_init 16 = .ok (.newarray .int, 2) := by decide +kernel
theorem dX12_init_18 : decode cX12_init 18 = .ok (.putfield 13, 3) := by decide +kernel
theorem dX12_init_21 : decode cX12_init 21 = .ok (.aload_n 0, 1) := by decide +kernel
theorem dX12_init_22 : decode cX12_init 22 = .ok (.bipush 10, 2) := by decide +kernel
theorem dX12_init_24 : decode cX12_init 24 = .ok (.newarray .long, 2) := by decide +kernel
theorem dX12_init_26 : decode cX12_init 26 = .ok (.putfield 16, 3) := by decide +kernel
theorem dX12_init_29 : decode cX12_init 29 = .ok (.aload_n 0, 1) := by decide +kernel
theorem dX12_init_30 : decode cX12_init 30 = .ok (.bipush 6, 2) := by decide +kernel
theorem dX12_init_32 : decode cX12_init 32 = .ok (.newarray .long, 2) := by decide +kernel
theorem dX12_init_34 : decode cX12_init 34 = .ok (.putfield 20, 3) := by decide +kernel
theorem dX12_init_37 : decode cX12_init 37 = .ok (.aload_n 0, 1) := by decide +kernel
theorem dX12_init_38 : decode cX12_init 38 = .ok (.bipush 12, 2) := by decide +kernel
theorem dX12_init_40 : decode cX12_init 40 = .ok (.newarray .long, 2) := by decide +kernel
theorem dX12_init_42 : decode cX12_init 42 = .ok (.putfield 23, 3) := by decide +kernel
theorem dX12_init_45 : decode cX12_init 45 = .ok (.aload_n 0, 1) := by decide +kernel
theorem dX12_init_46 : decode cX12_init 46 = .ok (.iconst 3, 1) := by decide +kernel
theorem dX12_init_47 : decode cX12_init 47 = .ok (.newarray .long, 2) := by decide +kernel
theorem dX12_init_49 : decode cX12_init 49 = .ok (.putfield 26, 3) := by decide +kernel
theorem dX12_init_52 : decode cX12_init 52 = .ok (.aload_n 0, 1) := by decide +kernel
theorem dX12_init_53 : decode cX12_init 53 = .ok (.bipush 10, 2) := by decide +kernel
theorem dX12_init_55 : decode cX12_init 55 = .ok (.newarray .int, 2) := by decide +kernel
theorem dX12_init_57 : decode cX12_init 57 = .ok (.putfield 29, 3) := by decide +kernel
theorem dX12_init_60 : decode cX12_init 60 = .ok (.aload_n 0, 1) := by decide +kernel
theorem dX12_init_61 : decode cX12_init 61 = .ok (.bipush 14, 2) := by decide +kernel
theorem dX12_init_63 : decode cX12_init 63 = .ok (.newarray .int, 2) := by decide +kernel
theorem dX12_init_65 : decode cX12_init 65 = .ok (.putfield 32, 3) := by decide +kernel
theorem dX12_init_68 : decode cX12_init 68 = .ok (.aload_n 0, 1) := by decide +kernel
theorem dX12_init_69 : decode cX12_init 69 = .ok (.bipush 36, 2) := by decide +kernel
theorem dX12_init_71 : decode cX12_init 71 = .ok (.newarray .int, 2) := by decide +kernel
theorem dX12_init_73 : decode cX12_init 73 = .ok (.putfield 35, 3) := by decide +kernel
theorem dX12_init_76 : decode cX12_init 76 = .ok (.aload_n 0, 1) := by decide +kernel
theorem dX12_init_77 : decode cX12_init 77 = .ok (.bipush 18, 2) := by decide +kernel
theorem dX12_init_79 : decode cX12_init 79 = .ok (.newarray .int, 2) := by decide +kernel
theorem dX12_init_81 : decode cX12_init 81 = .ok (.putfield 38, 3) := by decide +kernel
theorem dX12_init_84 : decode cX12_init 84 = .ok (.aload_n 0, 1) := by decide +kernel
theorem dX12_init_85 : decode cX12_init 85 = .ok (.bipush 18, 2) := by decide +kernel
theorem dX12_init_87 : decode cX12_init 87 = .ok (.newarray .int, 2) := by decide +kernel
theorem dX12_init_89 : decode cX12_init 89 = .ok (.putfield 41, 3) := by decide +kernel
theorem dX12_init_92 : decode cX12_init 92 = .ok (.aload_n 0, 1) := by decide +kernel
theorem dX12_init_93 : decode cX12_init 93 = .ok (.sipush 2000, 3) := by decide +kernel
theorem dX12_init_96 : decode cX12_init 96 = .ok (.newarray .int, 2) := by decide +kernel
theorem dX12_init_98 : decode cX12_init 98 = .ok (.putfield 44, 3) := by decide +kernel
theorem dX12_init_101 : decode cX12_init 101 = .ok (.aload_n 0, 1) := by decide +kernel
theorem dX12_init_102 : decode cX12_init 102 = .ok (.bipush 7, 2) := by decide +kernel
theorem dX12_init_104 : decode cX12_init 104 = .ok (.newarray .int, 2) := by decide +kernel
theorem dX12_init_106 : decode cX12_init 106 = .ok (.putfield 47, 3) := by decide +kernel
theorem dX12_init_109 : decode cX12_init 109 = .ok (.aload_n 0, 1) := by decide +kernel
theorem dX12_init_110 : decode cX12_init 110 = .ok (.bipush 7, 2) := by decide +kernel
theorem dX12_init_112 : decode cX12_init 112 = .ok (.newarray .boolean, 2) := by decide +kernel
theorem dX12_init_114 : decode cX12_init 114 = .ok (.putfield 50, 3) := by decide +kernel
theorem dX12_init_117 : decode cX12_init 117 = .ok (.aload_n 0, 1) := by decide +kernel
theorem dX12_init_118 : decode cX12_init 118 = .ok (.bipush 7, 2) := by decide +kernel
theorem dX12_init_120 : decode cX12_init 120 = .ok (.newarray .int, 2) := by decide +kernel
theorem dX12_init_122 : decode cX12_init 122 = .ok (.putfield 54, 3) := by decide +kernel
theorem dX12_init_125 : decode cX12_init 125 = .ok (.aload_n 0, 1) := by decide +kernel
theorem dX12_init_126 : decode cX12_init 126 = .ok (.bipush 7, 2) := by decide +kernel
theorem dX12_init_128 : decode cX12_init 128 = .ok (.newarray .int, 2) := by decide +kernel
theorem dX12_init_130 : decode cX12_init 130 = .ok (.putfield 57, 3) := by decide +kernel
theorem dX12_init_133 : decode cX12_init 133 = .ok (.aload_n 0, 1) := by decide +kernel
theorem dX12_init_134 : decode cX12_init 134 = .ok (.bipush 7, 2) := by decide +kernel
theorem dX12_init_136 : decode cX12_init 136 = .ok (.newarray .int, 2) := by decide +kernel
theorem dX12_init_138 : decode cX12_init 138 = .ok (.putfield 60, 3) := by decide +kernel
theorem dX12_init_141 : decode cX12_init 141 = .ok (.aload_n 0, 1) := by decide +kernel
theorem dX12_init_142 : decode cX12_init 142 = .ok (.bipush 7, 2) := by decide +kernel
theorem dX12_init_144 : decode cX12_init 144 = .ok (.newarray .int, 2) := by decide +kernel
theorem dX12_init_146 : decode cX12_init 146 = .ok (.putfield 63, 3) := by decide +kernel
theorem dX12_init_149 : decode cX12_init 149 = .ok (.aload_n 0, 1) := by decide +kernel
theorem dX12_init_150 : decode cX12_init 150 = .ok (.bipush 7, 2) := by decide +kernel
theorem dX12_init_152 : decode cX12_init 152 = .ok (.newarray .int, 2) := by decide +kernel
theorem dX12_init_154 : decode cX12_init 154 = .ok (.putfield 66, 3) := by decide +kernel
theorem dX12_init_157 : decode cX12_init 157 = .ok (.aload_n 0, 1) := by decide +kernel
theorem dX12_init_158 : decode cX12_init 158 = .ok (.bipush 7, 2) := by decide +kernel
theorem dX12_init_160 : decode cX12_init 160 = .ok (.newarray .int, 2) := by decide +kernel
theorem dX12_init_162 : decode cX12_init 162 = .ok (.putfield 69, 3) := by decide +kernel
theorem dX12_init_165 : decode cX12_init 165 = .ok (.aload_n 0, 1) := by decide +kernel
theorem dX12_init_166 : decode cX12_init 166 = .ok (.bipush 7, 2) := by decide +kernel
theorem dX12_init_168 : decode cX12_init 168 = .ok (.newarray .int, 2) := by decide +kernel
theorem dX12_init_170 : decode cX12_init 170 = .ok (.putfield 72, 3) := by decide +kernel
theorem dX12_init_173 : decode cX12_init 173 = .ok (.aload_n 0, 1) := by decide +kernel
theorem dX12_init_174 : decode cX12_init 174 = .ok (.bipush 7, 2) := by decide +kernel
theorem dX12_init_176 : decode cX12_init 176 = .ok (.newarray .int, 2) := by decide +kernel
theorem dX12_init_178 : decode cX12_init 178 = .ok (.putfield 75, 3) := by decide +kernel
theorem dX12_init_181 : decode cX12_init 181 = .ok (.aload_n 0, 1) := by decide +kernel
theorem dX12_init_182 : decode cX12_init 182 = .ok (.bipush 7, 2) := by decide +kernel
theorem dX12_init_184 : decode cX12_init 184 = .ok (.newarray .int, 2) := by decide +kernel
theorem dX12_init_186 : decode cX12_init 186 = .ok (.putfield 78, 3) := by decide +kernel
theorem dX12_init_189 : decode cX12_init 189 = .ok (.aload_n 0, 1) := by decide +kernel
theorem dX12_init_190 : decode cX12_init 190 = .ok (.bipush 20, 2) := by decide +kernel
theorem dX12_init_192 : decode cX12_init 192 = .ok (.newarray .int, 2) := by decide +kernel
theorem dX12_init_194 : decode cX12_init 194 = .ok (.putfield 81, 3) := by decide +kernel
theorem dX12_init_197 : decode cX12_init 197 = .ok (.aload_n 0, 1) := by decide +kernel
theorem dX12_init_198 : decode cX12_init 198 = .ok (.sipush 1000, 3) := by decide +kernel
theorem dX12_init_201 : decode cX12_init 201 = .ok (.newarray .int, 2) := by decide +kernel
theorem dX12_init_203 : decode cX12_init 203 = .ok (.putfield 84, 3) := by decide +kernel
theorem dX12_init_206 : decode cX12_init 206 = .ok (.aload_n 0, 1) := by decide +kernel
theorem dX12_init_207 : decode cX12_init 207 = .ok (.iconst 5, 1) := by decide +kernel
theorem dX12_init_208 : decode cX12_init 208 = .ok (.newarray .int, 2) := by decide +kernel
theorem dX12_init_210 : decode cX12_init 210 = .ok (.putfield 87, 3) := by decide +kernel
theorem dX12_init_213 : decode cX12_init 213 = .ok (.aload_n 0, 1) := by decide +kernel
theorem dX12_init_214 : decode cX12_init 214 = .ok (.sipush 600, 3) := by decide +kernel
theorem dX12_init_217 : decode cX12_init 217 = .ok (.newarray .boolean, 2) := by decide +kernel
theorem dX12_init_219 : decode cX12_init 219 = .ok (.putfield 90, 3) := by decide +kernel
theorem dX12_init_222 : decode cX12_init 222 = .ok (.aload_n 0, 1) := by decide +kernel
theorem dX12_init_223 : decode cX12_init 223 = .ok (.sipush 3264, 3) := by decide +kernel
theorem dX12_init_226 : decode cX12_init 226 = .ok (.newarray .long, 2) := by decide +kernel
theorem dX12_init_228 : decode cX12_init 228 = .ok (.putfield 93, 3) := by decide +kernel
theorem dX12_init_231 : decode cX12_init 231 = .ok (.aload_n 0, 1) := by decide +kernel
theorem dX12_init_232 : decode cX12_init 232 = .ok (.sipush 204, 3) := by decide +kernel
theorem dX12_init_235 : decode cX12_init 235 = .ok (.newarray .int, 2) := by decide +kernel
theorem dX12_init_237 : decode cX12_init 237 = .ok (.putfield 96, 3) := by decide +kernel
theorem dX12_init_240 : decode cX12_init 240 = .ok (.aload_n 0, 1) := by decide +kernel
theorem dX12_init_241 : decode cX12_init 241 = .ok (.sipush 1088, 3) := by decide +kernel
theorem dX12_init_244 : decode cX12_init 244 = .ok (.newarray .long, 2) := by decide +kernel
theorem dX12_init_246 : decode cX12_init 246 = .ok (.putfield 99, 3) := by decide +kernel
theorem dX12_init_249 : decode cX12_init 249 = .ok (.aload_n 0, 1) := by decide +kernel
theorem dX12_init_250 : decode cX12_init 250 = .ok (.sipush 1088, 3) := by decide +kernel
theorem dX12_init_253 : decode cX12_init 253 = .ok (.newarray .long, 2) := by decide +kernel
theorem dX12_init_255 : decode cX12_init 255 = .ok (.putfield 102, 3) := by decide +kernel
theorem dX12_init_258 : decode cX12_init 258 = .ok (.aload_n 0, 1) := by decide +kernel
theorem dX12_init_259 : decode cX12_init 259 = .ok (.bipush 68, 2) := by decide +kernel
theorem dX12_init_261 : decode cX12_init 261 = .ok (.newarray .int, 2) := by decide +kernel
theorem dX12_init_263 : decode cX12_init 263 = .ok (.putfield 105, 3) := by decide +kernel
theorem dX12_init_266 : decode cX12_init 266 = .ok (.aload_n 0, 1) := by decide +kernel
theorem dX12_init_267 : decode cX12_init 267 = .ok (.bipush 34, 2) := by decide +kernel
theorem dX12_init_269 : decode cX12_init 269 = .ok (.newarray .int, 2) := by decide +kernel
theorem dX12_init_271 : decode cX12_init 271 = .ok (.putfield 108, 3) := by decide +kernel
theorem dX12_init_274 : decode cX12_init 274 = .ok (.aload_n 0, 1) := by decide +kernel
theorem dX12_init_275 : decode cX12_init 275 = .ok (.sipush 560, 3) := by decide +kernel
theorem dX12_init_278 : decode cX12_init 278 = .ok (.newarray .long, 2) := by decide +kernel
theorem dX12_init_280 : decode cX12_init 280 = .ok (.putfield 111, 3) := by decide +kernel
theorem dX12_init_283 : decode cX12_init 283 = .ok (.aload_n 0, 1) := by decide +kernel
theorem dX12_init_284 : decode cX12_init 284 = .ok (.iconst 5, 1) := by decide +kernel
theorem dX12_init_285 : decode cX12_init 285 = .ok (.newarray .boolean, 2) := by decide +kernel
theorem dX12_init_287 : decode cX12_init 287 = .ok (.putfield 114, 3) := by decide +kernel
theorem dX12_init_290 : decode cX12_init 290 = .ok (.aload_n 0, 1) := by decide +kernel
theorem dX12_init_291 : decode cX12_init 291 = .ok (.bipush 100, 2) := by decide +kernel
theorem dX12_init_293 : decode cX12_init 293 = .ok (.newarray .int, 2) := by decide +kernel
theorem dX12_init_295 : decode cX12_init 295 = .ok (.putfield 117, 3) := by decide +kernel
theorem dX12_init_298 : decode cX12_init 298 = .ok (.aload_n 0, 1) := by decide +kernel
theorem dX12_init_299 : decode cX12_init 299 = .ok (.bipush 100, 2) := by decide +kernel
theorem dX12_init_301 : decode cX12_init 301 = .ok (.newarray .int, 2) := by decide +kernel
theorem dX12_init_303 : decode cX12_init 303 = .ok (.putfield 120, 3) := by decide +kernel
theorem dX12_init_306 : decode cX12_init 306 = .ok (.aload_n 0, 1) := by decide +kernel
theorem dX12_init_307 : decode cX12_init 307 = .ok (.bipush 100, 2) := by decide +kernel
theorem dX12_init_309 : decode cX12_init 309 = .ok (.newarray .boolean, 2) := by decide +kernel
theorem dX12_init_311 : decode cX12_init 311 = .ok (.putfield 123, 3) := by decide +kernel
theorem dX12_init_314 : decode cX12_init 314 = .ok (.aload_n 0, 1) := by decide +kernel
theorem dX12_init_315 : decode cX12_init 315 = .ok (.iconst 5, 1) := by decide +kernel
theorem dX12_init_316 : decode cX12_init 316 = .ok (.newarray .int, 2) := by decide +kernel
theorem dX12_init_318 : decode cX12_init 318 = .ok (.putfield 126, 3) := by decide +kernel
theorem dX12_init_321 : decode cX12_init 321 = .ok (.aload_n 0, 1) := by decide +kernel
theorem dX12_init_322 : decode cX12_init 322 = .ok (.iconst 5, 1) := by decide +kernel
theorem dX12_init_323 : decode cX12_init 323 = .ok (.newarray .int, 2) := by decide +kernel
theorem dX12_init_325 : decode cX12_init 325 = .ok (.putfield 129, 3) := by decide +kernel
theorem dX12_init_328 : decode cX12_init 328 = .ok (.aload_n 0, 1) := by decide +kernel
theorem dX12_init_329 : decode cX12_init 329 = .ok (.iconst 4, 1) := by decide +kernel
theorem dX12_init_330 : decode cX12_init 330 = .ok (.newarray .boolean, 2) := by decide +kernel
theorem dX12_init_332 : decode cX12_init 332 = .ok (.putfield 132, 3) := by decide +kernel
theorem dX12_init_335 : decode cX12_init 335 = .ok (.aload_n 0, 1) := by decide +kernel
theorem dX12_init_336 : decode cX12_init 336 = .ok (.bipush 16, 2) := by decide +kernel
theorem dX12_init_338 : decode cX12_init 338 = .ok (.newarray .long, 2) := by decide +kernel
theorem dX12_init_340 : decode cX12_init 340 = .ok (.putfield 135, 3) := by decide +kernel
theorem dX12_init_343 : decode cX12_init 343 = .ok (.aload_n 0, 1) := by decide +kernel
theorem dX12_init_344 : decode cX12_init 344 = .ok (.bipush 16, 2) := by decide +kernel
theorem dX12_init_346 : decode cX12_init 346 = .ok (.newarray .long, 2) := by decide +kernel
theorem dX12_init_348 : decode cX12_init 348 = .ok (.putfield 138, 3) := by decide +kernel
theorem dX12_init_351 : decode cX12_init 351 = .ok (.aload_n 0, 1) := by decide +kernel
theorem dX12_init_352 : decode cX12_init 352 = .ok (.sipush 12800, 3) := by decide +kernel
theorem dX12_init_355 : decode cX12_init 355 = .ok (.newarray .long, 2) := by decide +kernel
theorem dX12_init_357 : decode cX12_init 357 = .ok (.putfield 141, 3) := by decide +kernel
theorem dX12_init_360 : decode cX12_init 360 = .ok (.aload_n 0, 1) := by decide +kernel
theorem dX12_init_361 : decode cX12_init 361 = .ok (.sipush 12800, 3) := by decide +kernel
theorem dX12_init_364 : decode cX12_init 364 = .ok (.newarray .long, 2) := by decide +kernel
theorem dX12_init_366 : decode cX12_init 366 = .ok (.putfield 144, 3) := by decide +kernel
theorem dX12_init_369 : decode cX12_init 369 = .ok (.aload_n 0, 1) := by decide +kernel
theorem dX12_init_370 : decode cX12_init 370 = .ok (.iconst 3, 1) := by decide +kernel
theorem dX12_init_371 : decode cX12_init 371 = .ok (.newarray .int, 2) := by decide +kernel
theorem dX12_init_373 : decode cX12_init 373 = .ok (.putfield 147, 3) := by decide +kernel
theorem dX12_init_376 : decode cX12_init 376 = .ok (.aload_n 0, 1) := by decide +kernel
theorem dX12_init_377 : decode cX12_init 377 = .ok (.bipush 6, 2) := by decide +kernel
theorem dX12_init_379 : decode cX12_init 379 = .ok (.newarray .int, 2) := by decide +kernel
theorem dX12_init_381 : decode cX12_init 381 = .ok (.putfield 150, 3) := by decide +kernel
theorem dX12_init_384 : decode cX12_init 384 = .ok (.aload_n 0, 1) := by decide +kernel
theorem dX12_init_385 : decode cX12_init 385 = .ok (.bipush 20, 2) := by decide +kernel
theorem dX12_init_387 : decode cX12_init 387 = .ok (.newarray .int, 2) := by decide +kernel
theorem dX12_init_389 : decode cX12_init 389 = .ok (.putfield 153, 3) := by decide +kernel
theorem dX12_init_392 : decode cX12_init 392 = .ok (.aload_n 0, 1) := by decide +kernel
theorem dX12_init_393 : decode cX12_init 393 = .ok (.iconst 0, 1) := by decide +kernel
theorem dX12_init_394 : decode cX12_init 394 = .ok (.invokevirtual 156, 3) := by decide +kernel
theorem dX12_init_397 : decode cX12_init 397 = .ok (.aload_n 0, 1) := by decide +kernel
theorem dX12_init_398 : decode cX12_init 398 = .ok (.invokevirtual 160, 3) := by decide +kernel
theorem dX12_init_401 : decode cX12_init 401 = .ok (.return_, 1) := by decide +kernel
noncomputable def F_X12_init (a0 : Nat) (M : m_M) : Option (Unit × m_M) :=
  x_newA 12 1000 M (1000 : Int32) fun v1 M1 =>
  x_pR 10 M1 a0 2 (some v1) fun M2 =>
  x_newA 12 16 M2 (16 : Int32) fun v2 M3 =>
  x_pR 10 M3 a0 10 (some v2) fun M4 =>
  x_newA 13 10 M4 (10 : Int32) fun v3 M5 =>
  x_pR 10 M5 a0 11 (some v3) fun M6 =>
  x_newA 13 6 M6 (6 : Int32) fun v4 M7 =>
  x_pR 10 M7 a0 12 (some v4) fun M8 =>
  x_newA 13 12 M8 (12 : Int32) fun v5 M9 =>
  x_pR 10 M9 a0 13 (some v5) fun M10 =>
  x_newA 13 3 M10 (3 : Int32) fun v6 M11 =>
  x_pR 10 M11 a0 14 (some v6) fun M12 =>
  x_newA 12 10 M12 (10 : Int32) fun v7 M13 =>
  x_pR 10 M13 a0 15 (some v7) fun M14 =>
  x_newA 12 14 M14 (14 : Int32) fun v8 M15 =>
  x_pR 10 M15 a0 16 (some v8) fun M16 =>
  x_newA 12 36 M16 (36 : Int32) fun v9 M17 =>
  x_pR 10 M17 a0 17 (some v9) fun M18 =>
  x_newA 12 18 M18 (18 : Int32) fun v10 M19 =>
  x_pR 10 M19 a0 18 (some v10) fun M20 =>
  x_newA 12 18 M20 (18 : Int32) fun v11 M21 =>
  x_pR 10 M21 a0 19 (some v11) fun M22 =>
  x_newA 12 2000 M22 (2000 : Int32) fun v12 M23 =>
  x_pR 10 M23 a0 20 (some v12) fun M24 =>
  x_newA 12 7 M24 (7 : Int32) fun v13 M25 =>
  x_pR 10 M25 a0 25 (some v13) fun M26 =>
  x_newA 14 7 M26 (7 : Int32) fun v14 M27 =>
  x_pR 10 M27 a0 26 (some v14) fun M28 =>
  x_newA 12 7 M28 (7 : Int32) fun v15 M29 =>
  x_pR 10 M29 a0 27 (some v15) fun M30 =>
  x_newA 12 7 M30 (7 : Int32) fun v16 M31 =>
  x_pR 10 M31 a0 28 (some v16) fun M32 =>
  x_newA 12 7 M32 (7 : Int32) fun v17 M33 =>
  x_pR 10 M33 a0 29 (some v17) fun M34 =>
  x_newA 12 7 M34 (7 : Int32) fun v18 M35 =>
  x_pR 10 M35 a0 30 (some v18) fun M36 =>
  x_newA 12 7 M36 (7 : Int32) fun v19 M37 =>
  x_pR 10 M37 a0 31 (some v19) fun M38 =>
  x_newA 12 7 M38 (7 : Int32) fun v20 M39 =>
  x_pR 10 M39 a0 32 (some v20) fun M40 =>
  x_newA 12 7 M40 (7 : Int32) fun v21 M41 =>
  x_pR 10 M41 a0 33 (some v21) fun M42 =>
  x_newA 12 7 M42 (7 : Int32) fun v22 M43 =>
  x_pR 10 M43 a0 34 (some v22) fun M44 =>
  x_newA 12 7 M44 (7 : Int32) fun v23 M45 =>
  x_pR 10 M45 a0 35 (some v23) fun M46 =>
  x_newA 12 20 M46 (20 : Int32) fun v24 M47 =>
  x_pR 10 M47 a0 36 (some v24) fun M48 =>
  x_newA 12 1000 M48 (1000 : Int32) fun v25 M49 =>
  x_pR 10 M49 a0 38 (some v25) fun M50 =>
  x_newA 12 5 M50 (5 : Int32) fun v26 M51 =>
  x_pR 10 M51 a0 44 (some v26) fun M52 =>
  x_newA 14 600 M52 (600 : Int32) fun v27 M53 =>
  x_pR 10 M53 a0 45 (some v27) fun M54 =>
  x_newA 13 3264 M54 (3264 : Int32) fun v28 M55 =>
  x_pR 10 M55 a0 46 (some v28) fun M56 =>
  x_newA 12 204 M56 (204 : Int32) fun v29 M57 =>
  x_pR 10 M57 a0 47 (some v29) fun M58 =>
  x_newA 13 1088 M58 (1088 : Int32) fun v30 M59 =>
  x_pR 10 M59 a0 48 (some v30) fun M60 =>
  x_newA 13 1088 M60 (1088 : Int32) fun v31 M61 =>
  x_pR 10 M61 a0 49 (some v31) fun M62 =>
  x_newA 12 68 M62 (68 : Int32) fun v32 M63 =>
  x_pR 10 M63 a0 50 (some v32) fun M64 =>
  x_newA 12 34 M64 (34 : Int32) fun v33 M65 =>
  x_pR 10 M65 a0 51 (some v33) fun M66 =>
  x_newA 13 560 M66 (560 : Int32) fun v34 M67 =>
  x_pR 10 M67 a0 54 (some v34) fun M68 =>
  x_newA 14 5 M68 (5 : Int32) fun v35 M69 =>
  x_pR 10 M69 a0 55 (some v35) fun M70 =>
  x_newA 12 100 M70 (100 : Int32) fun v36 M71 =>
  x_pR 10 M71 a0 56 (some v36) fun M72 =>
  x_newA 12 100 M72 (100 : Int32) fun v37 M73 =>
  x_pR 10 M73 a0 57 (some v37) fun M74 =>
  x_newA 14 100 M74 (100 : Int32) fun v38 M75 =>
  x_pR 10 M75 a0 58 (some v38) fun M76 =>
  x_newA 12 5 M76 (5 : Int32) fun v39 M77 =>
  x_pR 10 M77 a0 59 (some v39) fun M78 =>
  x_newA 12 5 M78 (5 : Int32) fun v40 M79 =>
  x_pR 10 M79 a0 60 (some v40) fun M80 =>
  x_newA 14 4 M80 (4 : Int32) fun v41 M81 =>
  x_pR 10 M81 a0 61 (some v41) fun M82 =>
  x_newA 13 16 M82 (16 : Int32) fun v42 M83 =>
  x_pR 10 M83 a0 62 (some v42) fun M84 =>
  x_newA 13 16 M84 (16 : Int32) fun v43 M85 =>
  x_pR 10 M85 a0 63 (some v43) fun M86 =>
  x_newA 13 12800 M86 (12800 : Int32) fun v44 M87 =>
  x_pR 10 M87 a0 64 (some v44) fun M88 =>
  x_newA 13 12800 M88 (12800 : Int32) fun v45 M89 =>
  x_pR 10 M89 a0 65 (some v45) fun M90 =>
  x_newA 12 3 M90 (3 : Int32) fun v46 M91 =>
  x_pR 10 M91 a0 70 (some v46) fun M92 =>
  x_newA 12 6 M92 (6 : Int32) fun v47 M93 =>
  x_pR 10 M93 a0 71 (some v47) fun M94 =>
  x_newA 12 20 M94 (20 : Int32) fun v48 M95 =>
  x_pR 10 M95 a0 72 (some v48) fun M96 =>
  x_cV 10 M96 a0 (F_X12_plain a0 (0 : Int32) M96) fun _ M97 =>
  x_cV 10 M97 a0 (F_X12_measures a0 M97) fun _ M98 =>
  some ((), M98)
set_option maxHeartbeats 4000000 in
theorem K_X12_init (a0 : Nat) (M : m_M) (Φ : Option Value → m_M → Prop) (h : m_ok e_V Φ (F_X12_init a0 M)) : j_Ct yX12_init cX12_init 1 none 2 48 37131 [.ref a0] M Φ := by
  refine j_Ct.of (by decide +kernel) (Nat.le_of_ble_eq_true rfl) fun X C => ?_
  have C0 := C.1
  show j_J X 1 0 [some (.ref a0)] [] (0, 0) M
  unfold F_X12_init at h
  refine j_aload_n C0 (pc := 0) dX12_init_0 rfl ?_
  refine j_objInit C0 (pc := 1) (j_c7 76 (by decide +kernel)) (j_c1 35 (by decide +kernel)) (j_c1 36 (by decide +kernel)) (by decide) (Nat.le_of_ble_eq_true rfl) dX12_init_1 ?_
  refine j_aload_n C0 (pc := 4) dX12_init_4 rfl ?_
  refine j_sipush C0 (pc := 5) dX12_init_5 (v := (1000 : Int32)) (by decide) ?_
  refine X_newI C0 (pc := 8) (cap := 1000) (g' := (1, 1000)) (j_c1 172 (by decide +kernel)) (by decide) (by decide) rfl dX12_init_8 h (fun v1 M1 h => ?_)
  refine X_pNF C0 (pc := 10) f_OM_7_10 rfl ⟨_, rfl, rfl⟩ (Or.inr ⟨_, rfl⟩) rfl dX12_init_10 h (fun M2 h => ?_)
  refine j_aload_n C0 (pc := 13) dX12_init_13 rfl ?_
  refine j_bipush C0 (pc := 14) dX12_init_14 (v := (16 : Int32)) (by decide) ?_
  refine X_newI C0 (pc := 16) (cap := 16) (g' := (2, 1016)) (j_c1 172 (by decide +kernel)) (by decide) (by decide) rfl dX12_init_16 h (fun v2 M3 h => ?_)
  refine X_pNF C0 (pc := 18) f_OM_13_10 rfl ⟨_, rfl, rfl⟩ (Or.inr ⟨_, rfl⟩) rfl dX12_init_18 h (fun M4 h => ?_)
  refine j_aload_n C0 (pc := 21) dX12_init_21 rfl ?_
  refine j_bipush C0 (pc := 22) dX12_init_22 (v := (10 : Int32)) (by decide) ?_
  refine X_newJ C0 (pc := 24) (cap := 10) (g' := (3, 1026)) (j_c1 173 (by decide +kernel)) (by decide) (by decide) rfl dX12_init_24 h (fun v3 M5 h => ?_)
  refine X_pNF C0 (pc := 26) f_OM_16_10 rfl ⟨_, rfl, rfl⟩ (Or.inr ⟨_, rfl⟩) rfl dX12_init_26 h (fun M6 h => ?_)
  refine j_aload_n C0 (pc := 29) dX12_init_29 rfl ?_
  refine j_bipush C0 (pc := 30) dX12_init_30 (v := (6 : Int32)) (by decide) ?_
  refine X_newJ C0 (pc := 32) (cap := 6) (g' := (4, 1032)) (j_c1 173 (by decide +kernel)) (by decide) (by decide) rfl dX12_init_32 h (fun v4 M7 h => ?_)
  refine X_pNF C0 (pc := 34) f_OM_20_10 rfl ⟨_, rfl, rfl⟩ (Or.inr ⟨_, rfl⟩) rfl dX12_init_34 h (fun M8 h => ?_)
  refine j_aload_n C0 (pc := 37) dX12_init_37 rfl ?_
  refine j_bipush C0 (pc := 38) dX12_init_38 (v := (12 : Int32)) (by decide) ?_
  refine X_newJ C0 (pc := 40) (cap := 12) (g' := (5, 1044)) (j_c1 173 (by decide +kernel)) (by decide) (by decide) rfl dX12_init_40 h (fun v5 M9 h => ?_)
  refine X_pNF C0 (pc := 42) f_OM_23_10 rfl ⟨_, rfl, rfl⟩ (Or.inr ⟨_, rfl⟩) rfl dX12_init_42 h (fun M10 h => ?_)
  refine j_aload_n C0 (pc := 45) dX12_init_45 rfl ?_
  refine j_iconst C0 (pc := 46) dX12_init_46 (v := (3 : Int32)) (by decide) ?_
  refine X_newJ C0 (pc := 47) (cap := 3) (g' := (6, 1047)) (j_c1 173 (by decide +kernel)) (by decide) (by decide) rfl dX12_init_47 h (fun v6 M11 h => ?_)
  refine X_pNF C0 (pc := 49) f_OM_26_10 rfl ⟨_, rfl, rfl⟩ (Or.inr ⟨_, rfl⟩) rfl dX12_init_49 h (fun M12 h => ?_)
  refine j_aload_n C0 (pc := 52) dX12_init_52 rfl ?_
  refine j_bipush C0 (pc := 53) dX12_init_53 (v := (10 : Int32)) (by decide) ?_
  refine X_newI C0 (pc := 55) (cap := 10) (g' := (7, 1057)) (j_c1 172 (by decide +kernel)) (by decide) (by decide) rfl dX12_init_55 h (fun v7 M13 h => ?_)
  refine X_pNF C0 (pc := 57) f_OM_29_10 rfl ⟨_, rfl, rfl⟩ (Or.inr ⟨_, rfl⟩) rfl dX12_init_57 h (fun M14 h => ?_)
  refine j_aload_n C0 (pc := 60) dX12_init_60 rfl ?_
  refine j_bipush C0 (pc := 61) dX12_init_61 (v := (14 : Int32)) (by decide) ?_
  refine X_newI C0 (pc := 63) (cap := 14) (g' := (8, 1071)) (j_c1 172 (by decide +kernel)) (by decide) (by decide) rfl dX12_init_63 h (fun v8 M15 h => ?_)
  refine X_pNF C0 (pc := 65) f_OM_32_10 rfl ⟨_, rfl, rfl⟩ (Or.inr ⟨_, rfl⟩) rfl dX12_init_65 h (fun M16 h => ?_)
  refine j_aload_n C0 (pc := 68) dX12_init_68 rfl ?_
  refine j_bipush C0 (pc := 69) dX12_init_69 (v := (36 : Int32)) (by decide) ?_
  refine X_newI C0 (pc := 71) (cap := 36) (g' := (9, 1107)) (j_c1 172 (by decide +kernel)) (by decide) (by decide) rfl dX12_init_71 h (fun v9 M17 h => ?_)
  refine X_pNF C0 (pc := 73) f_OM_35_10 rfl ⟨_, rfl, rfl⟩ (Or.inr ⟨_, rfl⟩) rfl dX12_init_73 h (fun M18 h => ?_)
  refine j_aload_n C0 (pc := 76) dX12_init_76 rfl ?_
  refine j_bipush C0 (pc := 77) dX12_init_77 (v := (18 : Int32)) (by decide) ?_
  refine X_newI C0 (pc := 79) (cap := 18) (g' := (10, 1125)) (j_c1 172 (by decide +kernel)) (by decide) (by decide) rfl dX12_init_79 h (fun v10 M19 h => ?_)
  refine X_pNF C0 (pc := 81) f_OM_38_10 rfl ⟨_, rfl, rfl⟩ (Or.inr ⟨_, rfl⟩) rfl dX12_init_81 h (fun M20 h => ?_)
  refine j_aload_n C0 (pc := 84) dX12_init_84 rfl ?_
  refine j_bipush C0 (pc := 85) dX12_init_85 (v := (18 : Int32)) (by decide) ?_
  refine X_newI C0 (pc := 87) (cap := 18) (g' := (11, 1143)) (j_c1 172 (by decide +kernel)) (by decide) (by decide) rfl dX12_init_87 h (fun v11 M21 h => ?_)
  refine X_pNF C0 (pc := 89) f_OM_41_10 rfl ⟨_, rfl, rfl⟩ (Or.inr ⟨_, rfl⟩) rfl dX12_init_89 h (fun M22 h => ?_)
  refine j_aload_n C0 (pc := 92) dX12_init_92 rfl ?_
  refine j_sipush C0 (pc := 93) dX12_init_93 (v := (2000 : Int32)) (by decide) ?_
  refine X_newI C0 (pc := 96) (cap := 2000) (g' := (12, 3143)) (j_c1 172 (by decide +kernel)) (by decide) (by decide) rfl dX12_init_96 h (fun v12 M23 h => ?_)
  refine X_pNF C0 (pc := 98) f_OM_44_10 rfl ⟨_, rfl, rfl⟩ (Or.inr ⟨_, rfl⟩) rfl dX12_init_98 h (fun M24 h => ?_)
  refine j_aload_n C0 (pc := 101) dX12_init_101 rfl ?_
  refine j_bipush C0 (pc := 102) dX12_init_102 (v := (7 : Int32)) (by decide) ?_
  refine X_newI C0 (pc := 104) (cap := 7) (g' := (13, 3150)) (j_c1 172 (by decide +kernel)) (by decide) (by decide) rfl dX12_init_104 h (fun v13 M25 h => ?_)
  refine X_pNF C0 (pc := 106) f_OM_47_10 rfl ⟨_, rfl, rfl⟩ (Or.inr ⟨_, rfl⟩) rfl dX12_init_106 h (fun M26 h => ?_)
  refine j_aload_n C0 (pc := 109) dX12_init_109 rfl ?_
  refine j_bipush C0 (pc := 110) dX12_init_110 (v := (7 : Int32)) (by decide) ?_
  refine X_newZ C0 (pc := 112) (cap := 7) (g' := (14, 3157)) (j_c2 221 (by decide +kernel)) (by decide) (by decide) rfl dX12_init_112 h (fun v14 M27 h => ?_)
  refine X_pNF C0 (pc := 114) f_OM_50_10 rfl ⟨_, rfl, rfl⟩ (Or.inr ⟨_, rfl⟩) rfl dX12_init_114 h (fun M28 h => ?_)
  refine j_aload_n C0 (pc := 117) dX12_init_117 rfl ?_
  refine j_bipush C0 (pc := 118) dX12_init_118 (v := (7 : Int32)) (by decide) ?_
  refine X_newI C0 (pc := 120) (cap := 7) (g' := (15, 3164)) (j_c1 172 (by decide +kernel)) (by decide) (by decide) rfl dX12_init_120 h (fun v15 M29 h => ?_)
  refine X_pNF C0 (pc := 122) f_OM_54_10 rfl ⟨_, rfl, rfl⟩ (Or.inr ⟨_, rfl⟩) rfl dX12_init_122 h (fun M30 h => ?_)
  refine j_aload_n C0 (pc := 125) dX12_init_125 rfl ?_
  refine j_bipush C0 (pc := 126) dX12_init_126 (v := (7 : Int32)) (by decide) ?_
  refine X_newI C0 (pc := 128) (cap := 7) (g' := (16, 3171)) (j_c1 172 (by decide +kernel)) (by decide) (by decide) rfl dX12_init_128 h (fun v16 M31 h => ?_)
  refine X_pNF C0 (pc := 130) f_OM_57_10 rfl ⟨_, rfl, rfl⟩ (Or.inr ⟨_, rfl⟩) rfl dX12_init_130 h (fun M32 h => ?_)
  refine j_aload_n C0 (pc := 133) dX12_init_133 rfl ?_
  refine j_bipush C0 (pc := 134) dX12_init_134 (v := (7 : Int32)) (by decide) ?_
  refine X_newI C0 (pc := 136) (cap := 7) (g' := (17, 3178)) (j_c1 172 (by decide +kernel)) (by decide) (by decide) rfl dX12_init_136 h (fun v17 M33 h => ?_)
  refine X_pNF C0 (pc := 138) f_OM_60_10 rfl ⟨_, rfl, rfl⟩ (Or.inr ⟨_, rfl⟩) rfl dX12_init_138 h (fun M34 h => ?_)
  refine j_aload_n C0 (pc := 141) dX12_init_141 rfl ?_
  refine j_bipush C0 (pc := 142) dX12_init_142 (v := (7 : Int32)) (by decide) ?_
  refine X_newI C0 (pc := 144) (cap := 7) (g' := (18, 3185)) (j_c1 172 (by decide +kernel)) (by decide) (by decide) rfl dX12_init_144 h (fun v18 M35 h => ?_)
  refine X_pNF C0 (pc := 146) f_OM_63_10 rfl ⟨_, rfl, rfl⟩ (Or.inr ⟨_, rfl⟩) rfl dX12_init_146 h (fun M36 h => ?_)
  refine j_aload_n C0 (pc := 149) dX12_init_149 rfl ?_
  refine j_bipush C0 (pc := 150) dX12_init_150 (v := (7 : Int32)) (by decide) ?_
  refine X_newI C0 (pc := 152) (cap := 7) (g' := (19, 3192)) (j_c1 172 (by decide +kernel)) (by decide) (by decide) rfl dX12_init_152 h (fun v19 M37 h => ?_)
  refine X_pNF C0 (pc := 154) f_OM_66_10 rfl ⟨_, rfl, rfl⟩ (Or.inr ⟨_, rfl⟩) rfl dX12_init_154 h (fun M38 h => ?_)
  refine j_aload_n C0 (pc := 157) dX12_init_157 rfl ?_
  refine j_bipush C0 (pc := 158) dX12_init_158 (v := (7 : Int32)) (by decide) ?_
  refine X_newI C0 (pc := 160) (cap := 7) (g' := (20, 3199)) (j_c1 172 (by decide +kernel)) (by decide) (by decide) rfl dX12_init_160 h (fun v20 M39 h => ?_)
  refine X_pNF C0 (pc := 162) f_OM_69_10 rfl ⟨_, rfl, rfl⟩ (Or.inr ⟨_, rfl⟩) rfl dX12_init_162 h (fun M40 h => ?_)
  refine j_aload_n C0 (pc := 165) dX12_init_165 rfl ?_
  refine j_bipush C0 (pc := 166) dX12_init_166 (v := (7 : Int32)) (by decide) ?_
  refine X_newI C0 (pc := 168) (cap := 7) (g' := (21, 3206)) (j_c1 172 (by decide +kernel)) (by decide) (by decide) rfl dX12_init_168 h (fun v21 M41 h => ?_)
  refine X_pNF C0 (pc := 170) f_OM_72_10 rfl ⟨_, rfl, rfl⟩ (Or.inr ⟨_, rfl⟩) rfl dX12_init_170 h (fun M42 h => ?_)
  refine j_aload_n C0 (pc := 173) dX12_init_173 rfl ?_
  refine j_bipush C0 (pc := 174) dX12_init_174 (v := (7 : Int32)) (by decide) ?_
  refine X_newI C0 (pc := 176) (cap := 7) (g' := (22, 3213)) (j_c1 172 (by decide +kernel)) (by decide) (by decide) rfl dX12_init_176 h (fun v22 M43 h => ?_)
  refine X_pNF C0 (pc := 178) f_OM_75_10 rfl ⟨_, rfl, rfl⟩ (Or.inr ⟨_, rfl⟩) rfl dX12_init_178 h (fun M44 h => ?_)
  refine j_aload_n C0 (pc := 181) dX12_init_181 rfl ?_
  refine j_bipush C0 (pc := 182) dX12_init_182 (v := (7 : Int32)) (by decide) ?_
  refine X_newI C0 (pc := 184) (cap := 7) (g' := (23, 3220)) (j_c1 172 (by decide +kernel)) (by decide) (by decide) rfl dX12_init_184 h (fun v23 M45 h => ?_)
  refine X_pNF C0 (pc := 186) f_OM_78_10 rfl ⟨_, rfl, rfl⟩ (Or.inr ⟨_, rfl⟩) rfl dX12_init_186 h (fun M46 h => ?_)
  refine j_aload_n C0 (pc := 189) dX12_init_189 rfl ?_
  refine j_bipush C0 (pc := 190) dX12_init_190 (v := (20 : Int32)) (by decide) ?_
  refine X_newI C0 (pc := 192) (cap := 20) (g' := (24, 3240)) (j_c1 172 (by decide +kernel)) (by decide) (by decide) rfl dX12_init_192 h (fun v24 M47 h => ?_)
  refine X_pNF C0 (pc := 194) f_OM_81_10 rfl ⟨_, rfl, rfl⟩ (Or.inr ⟨_, rfl⟩) rfl dX12_init_194 h (fun M48 h => ?_)
  refine j_aload_n C0 (pc := 197) dX12_init_197 rfl ?_
  refine j_sipush C0 (pc := 198) dX12_init_198 (v := (1000 : Int32)) (by decide) ?_
  refine X_newI C0 (pc := 201) (cap := 1000) (g' := (25, 4240)) (j_c1 172 (by decide +kernel)) (by decide) (by decide) rfl dX12_init_201 h (fun v25 M49 h => ?_)
  refine X_pNF C0 (pc := 203) f_OM_84_10 rfl ⟨_, rfl, rfl⟩ (Or.inr ⟨_, rfl⟩) rfl dX12_init_203 h (fun M50 h => ?_)
  refine j_aload_n C0 (pc := 206) dX12_init_206 rfl ?_
  refine j_iconst C0 (pc := 207) dX12_init_207 (v := (5 : Int32)) (by decide) ?_
  refine X_newI C0 (pc := 208) (cap := 5) (g' := (26, 4245)) (j_c1 172 (by decide +kernel)) (by decide) (by decide) rfl dX12_init_208 h (fun v26 M51 h => ?_)
  refine X_pNF C0 (pc := 210) f_OM_87_10 rfl ⟨_, rfl, rfl⟩ (Or.inr ⟨_, rfl⟩) rfl dX12_init_210 h (fun M52 h => ?_)
  refine j_aload_n C0 (pc := 213) dX12_init_213 rfl ?_
  refine j_sipush C0 (pc := 214) dX12_init_214 (v := (600 : Int32)) (by decide) ?_
  refine X_newZ C0 (pc := 217) (cap := 600) (g' := (27, 4845)) (j_c2 221 (by decide +kernel)) (by decide) (by decide) rfl dX12_init_217 h (fun v27 M53 h => ?_)
  refine X_pNF C0 (pc := 219) f_OM_90_10 rfl ⟨_, rfl, rfl⟩ (Or.inr ⟨_, rfl⟩) rfl dX12_init_219 h (fun M54 h => ?_)
  refine j_aload_n C0 (pc := 222) dX12_init_222 rfl ?_
  refine j_sipush C0 (pc := 223) dX12_init_223 (v := (3264 : Int32)) (by decide) ?_
  refine X_newJ C0 (pc := 226) (cap := 3264) (g' := (28, 8109)) (j_c1 173 (by decide +kernel)) (by decide) (by decide) rfl dX12_init_226 h (fun v28 M55 h => ?_)
  refine X_pNF C0 (pc := 228) f_OM_93_10 rfl ⟨_, rfl, rfl⟩ (Or.inr ⟨_, rfl⟩) rfl dX12_init_228 h (fun M56 h => ?_)
  refine j_aload_n C0 (pc := 231) dX12_init_231 rfl ?_
  refine j_sipush C0 (pc := 232) dX12_init_232 (v := (204 : Int32)) (by decide) ?_
  refine X_newI C0 (pc := 235) (cap := 204) (g' := (29, 8313)) (j_c1 172 (by decide +kernel)) (by decide) (by decide) rfl dX12_init_235 h (fun v29 M57 h => ?_)
  refine X_pNF C0 (pc := 237) f_OM_96_10 rfl ⟨_, rfl, rfl⟩ (Or.inr ⟨_, rfl⟩) rfl dX12_init_237 h (fun M58 h => ?_)
  refine j_aload_n C0 (pc := 240) dX12_init_240 rfl ?_
  refine j_sipush C0 (pc := 241) dX12_init_241 (v := (1088 : Int32)) (by decide) ?_
  refine X_newJ C0 (pc := 244) (cap := 1088) (g' := (30, 9401)) (j_c1 173 (by decide +kernel)) (by decide) (by decide) rfl dX12_init_244 h (fun v30 M59 h => ?_)
  refine X_pNF C0 (pc := 246) f_OM_99_10 rfl ⟨_, rfl, rfl⟩ (Or.inr ⟨_, rfl⟩) rfl dX12_init_246 h (fun M60 h => ?_)
  refine j_aload_n C0 (pc := 249) dX12_init_249 rfl ?_
  refine j_sipush C0 (pc := 250) dX12_init_250 (v := (1088 : Int32)) (by decide) ?_
  refine X_newJ C0 (pc := 253) (cap := 1088) (g' := (31, 10489)) (j_c1 173 (by decide +kernel)) (by decide) (by decide) rfl dX12_init_253 h (fun v31 M61 h => ?_)
  refine X_pNF C0 (pc := 255) f_OM_102_10 rfl ⟨_, rfl, rfl⟩ (Or.inr ⟨_, rfl⟩) rfl dX12_init_255 h (fun M62 h => ?_)
  refine j_aload_n C0 (pc := 258) dX12_init_258 rfl ?_
  refine j_bipush C0 (pc := 259) dX12_init_259 (v := (68 : Int32)) (by decide) ?_
  refine X_newI C0 (pc := 261) (cap := 68) (g' := (32, 10557)) (j_c1 172 (by decide +kernel)) (by decide) (by decide) rfl dX12_init_261 h (fun v32 M63 h => ?_)
  refine X_pNF C0 (pc := 263) f_OM_105_10 rfl ⟨_, rfl, rfl⟩ (Or.inr ⟨_, rfl⟩) rfl dX12_init_263 h (fun M64 h => ?_)
  refine j_aload_n C0 (pc := 266) dX12_init_266 rfl ?_
  refine j_bipush C0 (pc := 267) dX12_init_267 (v := (34 : Int32)) (by decide) ?_
  refine X_newI C0 (pc := 269) (cap := 34) (g' := (33, 10591)) (j_c1 172 (by decide +kernel)) (by decide) (by decide) rfl dX12_init_269 h (fun v33 M65 h => ?_)
  refine X_pNF C0 (pc := 271) f_OM_108_10 rfl ⟨_, rfl, rfl⟩ (Or.inr ⟨_, rfl⟩) rfl dX12_init_271 h (fun M66 h => ?_)
  refine j_aload_n C0 (pc := 274) dX12_init_274 rfl ?_
  refine j_sipush C0 (pc := 275) dX12_init_275 (v := (560 : Int32)) (by decide) ?_
  refine X_newJ C0 (pc := 278) (cap := 560) (g' := (34, 11151)) (j_c1 173 (by decide +kernel)) (by decide) (by decide) rfl dX12_init_278 h (fun v34 M67 h => ?_)
  refine X_pNF C0 (pc := 280) f_OM_111_10 rfl ⟨_, rfl, rfl⟩ (Or.inr ⟨_, rfl⟩) rfl dX12_init_280 h (fun M68 h => ?_)
  refine j_aload_n C0 (pc := 283) dX12_init_283 rfl ?_
  refine j_iconst C0 (pc := 284) dX12_init_284 (v := (5 : Int32)) (by decide) ?_
  refine X_newZ C0 (pc := 285) (cap := 5) (g' := (35, 11156)) (j_c2 221 (by decide +kernel)) (by decide) (by decide) rfl dX12_init_285 h (fun v35 M69 h => ?_)
  refine X_pNF C0 (pc := 287) f_OM_114_10 rfl ⟨_, rfl, rfl⟩ (Or.inr ⟨_, rfl⟩) rfl dX12_init_287 h (fun M70 h => ?_)
  refine j_aload_n C0 (pc := 290) dX12_init_290 rfl ?_
  refine j_bipush C0 (pc := 291) dX12_init_291 (v := (100 : Int32)) (by decide) ?_
  refine X_newI C0 (pc := 293) (cap := 100) (g' := (36, 11256)) (j_c1 172 (by decide +kernel)) (by decide) (by decide) rfl dX12_init_293 h (fun v36 M71 h => ?_)
  refine X_pNF C0 (pc := 295) f_OM_117_10 rfl ⟨_, rfl, rfl⟩ (Or.inr ⟨_, rfl⟩) rfl dX12_init_295 h (fun M72 h => ?_)
  refine j_aload_n C0 (pc := 298) dX12_init_298 rfl ?_
  refine j_bipush C0 (pc := 299) dX12_init_299 (v := (100 : Int32)) (by decide) ?_
  refine X_newI C0 (pc := 301) (cap := 100) (g' := (37, 11356)) (j_c1 172 (by decide +kernel)) (by decide) (by decide) rfl dX12_init_301 h (fun v37 M73 h => ?_)
  refine X_pNF C0 (pc := 303) f_OM_120_10 rfl ⟨_, rfl, rfl⟩ (Or.inr ⟨_, rfl⟩) rfl dX12_init_303 h (fun M74 h => ?_)
  refine j_aload_n C0 (pc := 306) dX12_init_306 rfl ?_
  refine j_bipush C0 (pc := 307) dX12_init_307 (v := (100 : Int32)) (by decide) ?_
  refine X_newZ C0 (pc := 309) (cap := 100) (g' := (38, 11456)) (j_c2 221 (by decide +kernel)) (by decide) (by decide) rfl dX12_init_309 h (fun v38 M75 h => ?_)
  refine X_pNF C0 (pc := 311) f_OM_123_10 rfl ⟨_, rfl, rfl⟩ (Or.inr ⟨_, rfl⟩) rfl dX12_init_311 h (fun M76 h => ?_)
  refine j_aload_n C0 (pc := 314) dX12_init_314 rfl ?_
  refine j_iconst C0 (pc := 315) dX12_init_315 (v := (5 : Int32)) (by decide) ?_
  refine X_newI C0 (pc := 316) (cap := 5) (g' := (39, 11461)) (j_c1 172 (by decide +kernel)) (by decide) (by decide) rfl dX12_init_316 h (fun v39 M77 h => ?_)
  refine X_pNF C0 (pc := 318) f_OM_126_10 rfl ⟨_, rfl, rfl⟩ (Or.inr ⟨_, rfl⟩) rfl dX12_init_318 h (fun M78 h => ?_)
  refine j_aload_n C0 (pc := 321) dX12_init_321 rfl ?_
  refine j_iconst C0 (pc := 322) dX12_init_322 (v := (5 : Int32)) (by decide) ?_
  refine X_newI C0 (pc := 323) (cap := 5) (g' := (40, 11466)) (j_c1 172 (by decide +kernel)) (by decide) (by decide) rfl dX12_init_323 h (fun v40 M79 h => ?_)
  refine X_pNF C0 (pc := 325) f_OM_129_10 rfl ⟨_, rfl, rfl⟩ (Or.inr ⟨_, rfl⟩) rfl dX12_init_325 h (fun M80 h => ?_)
  refine j_aload_n C0 (pc := 328) dX12_init_328 rfl ?_
  refine j_iconst C0 (pc := 329) dX12_init_329 (v := (4 : Int32)) (by decide) ?_
  refine X_newZ C0 (pc := 330) (cap := 4) (g' := (41, 11470)) (j_c2 221 (by decide +kernel)) (by decide) (by decide) rfl dX12_init_330 h (fun v41 M81 h => ?_)
  refine X_pNF C0 (pc := 332) f_OM_132_10 rfl ⟨_, rfl, rfl⟩ (Or.inr ⟨_, rfl⟩) rfl dX12_init_332 h (fun M82 h => ?_)
  refine j_aload_n C0 (pc := 335) dX12_init_335 rfl ?_
  refine j_bipush C0 (pc := 336) dX12_init_336 (v := (16 : Int32)) (by decide) ?_
  refine X_newJ C0 (pc := 338) (cap := 16) (g' := (42, 11486)) (j_c1 173 (by decide +kernel)) (by decide) (by decide) rfl dX12_init_338 h (fun v42 M83 h => ?_)
  refine X_pNF C0 (pc := 340) f_OM_135_10 rfl ⟨_, rfl, rfl⟩ (Or.inr ⟨_, rfl⟩) rfl dX12_init_340 h (fun M84 h => ?_)
  refine j_aload_n C0 (pc := 343) dX12_init_343 rfl ?_
  refine j_bipush C0 (pc := 344) dX12_init_344 (v := (16 : Int32)) (by decide) ?_
  refine X_newJ C0 (pc := 346) (cap := 16) (g' := (43, 11502)) (j_c1 173 (by decide +kernel)) (by decide) (by decide) rfl dX12_init_346 h (fun v43 M85 h => ?_)
  refine X_pNF C0 (pc := 348) f_OM_138_10 rfl ⟨_, rfl, rfl⟩ (Or.inr ⟨_, rfl⟩) rfl dX12_init_348 h (fun M86 h => ?_)
  refine j_aload_n C0 (pc := 351) dX12_init_351 rfl ?_
  refine j_sipush C0 (pc := 352) dX12_init_352 (v := (12800 : Int32)) (by decide) ?_
  refine X_newJ C0 (pc := 355) (cap := 12800) (g' := (44, 24302)) (j_c1 173 (by decide +kernel)) (by decide) (by decide) rfl dX12_init_355 h (fun v44 M87 h => ?_)
  refine X_pNF C0 (pc := 357) f_OM_141_10 rfl ⟨_, rfl, rfl⟩ (Or.inr ⟨_, rfl⟩) rfl dX12_init_357 h (fun M88 h => ?_)
  refine j_aload_n C0 (pc := 360) dX12_init_360 rfl ?_
  refine j_sipush C0 (pc := 361) dX12_init_361 (v := (12800 : Int32)) (by decide) ?_
  refine X_newJ C0 (pc := 364) (cap := 12800) (g' := (45, 37102)) (j_c1 173 (by decide +kernel)) (by decide) (by decide) rfl dX12_init_364 h (fun v45 M89 h => ?_)
  refine X_pNF C0 (pc := 366) f_OM_144_10 rfl ⟨_, rfl, rfl⟩ (Or.inr ⟨_, rfl⟩) rfl dX12_init_366 h (fun M90 h => ?_)
  refine j_aload_n C0 (pc := 369) dX12_init_369 rfl ?_
  refine j_iconst C0 (pc := 370) dX12_init_370 (v := (3 : Int32)) (by decide) ?_
  refine X_newI C0 (pc := 371) (cap := 3) (g' := (46, 37105)) (j_c1 172 (by decide +kernel)) (by decide) (by decide) rfl dX12_init_371 h (fun v46 M91 h => ?_)
  refine X_pNF C0 (pc := 373) f_OM_147_10 rfl ⟨_, rfl, rfl⟩ (Or.inr ⟨_, rfl⟩) rfl dX12_init_373 h (fun M92 h => ?_)
  refine j_aload_n C0 (pc := 376) dX12_init_376 rfl ?_
  refine j_bipush C0 (pc := 377) dX12_init_377 (v := (6 : Int32)) (by decide) ?_
  refine X_newI C0 (pc := 379) (cap := 6) (g' := (47, 37111)) (j_c1 172 (by decide +kernel)) (by decide) (by decide) rfl dX12_init_379 h (fun v47 M93 h => ?_)
  refine X_pNF C0 (pc := 381) f_OM_150_10 rfl ⟨_, rfl, rfl⟩ (Or.inr ⟨_, rfl⟩) rfl dX12_init_381 h (fun M94 h => ?_)
  refine j_aload_n C0 (pc := 384) dX12_init_384 rfl ?_
  refine j_bipush C0 (pc := 385) dX12_init_385 (v := (20 : Int32)) (by decide) ?_
  refine X_newI C0 (pc := 387) (cap := 20) (g' := (48, 37131)) (j_c1 172 (by decide +kernel)) (by decide) (by decide) rfl dX12_init_387 h (fun v48 M95 h => ?_)
  refine X_pNF C0 (pc := 389) f_OM_153_10 rfl ⟨_, rfl, rfl⟩ (Or.inr ⟨_, rfl⟩) rfl dX12_init_389 h (fun M96 h => ?_)
  refine j_aload_n C0 (pc := 392) dX12_init_392 rfl ?_
  refine j_iconst C0 (pc := 393) dX12_init_393 (v := (0 : Int32)) (by decide) ?_
  refine X_cV C0 (pc := 394) (e' := e_V) (as := [.int (0 : Int32)]) (rest := []) (s' := fun _ => []) (g' := (48, 37131)) v_OM_156_10 (fun Ψ hΨ => K_X12_plain a0 (0 : Int32) M96 Ψ hΨ) rfl rfl (fun _ => rfl) (by decide) (by decide) rfl (Nat.le_of_ble_eq_true rfl) dX12_init_394 h (fun _ M97 h => ?_)
  refine j_aload_n C0 (pc := 397) dX12_init_397 rfl ?_
  refine X_cV C0 (pc := 398) (e' := e_V) (as := []) (rest := []) (s' := fun _ => []) (g' := (48, 37131)) v_OM_160_10 (fun Ψ hΨ => K_X12_measures a0 M97 Ψ hΨ) rfl rfl (fun _ => rfl) (by decide) (by decide) rfl (Nat.le_of_ble_eq_true rfl) dX12_init_398 h (fun _ M98 h => ?_)
  exact j_vret C rfl h dX12_init_401 (by decide)
theorem dX12_isAbove_0 : decode cX12_isAbove 0 = .ok (.iconst 0, 1) := by decide +kernel
theorem dX12_isAbove_1 : decode cX12_isAbove 1 = .ok (.istore_n 3, 1) := by decide +kernel
theorem dX12_isAbove_2 : decode cX12_isAbove 2 = .ok (.iload_n 3, 1) := by decide +kernel
theorem dX12_isAbove_3 : decode cX12_isAbove 3 = .ok (.aload_n 0, 1) := by decide +kernel
theorem dX12_isAbove_4 : decode cX12_isAbove 4 = .ok (.getfield 386, 3) := by decide +kernel
theorem dX12_isAbove_7 : decode cX12_isAbove 7 = .ok (.if_icmp .ge 40, 3) := by decide +kernel
theorem dX12_isAbove_10 : decode cX12_isAbove 10 = .ok (.aload_n 0, 1) := by decide +kernel
theorem dX12_isAbove_11 : decode cX12_isAbove 11 = .ok (.getfield 111, 3) := by decide +kernel
theorem dX12_isAbove_14 : decode cX12_isAbove 14 = .ok (.iload_n 2, 1) := by decide +kernel
theorem dX12_isAbove_15 : decode cX12_isAbove 15 = .ok (.iload_n 3, 1) := by decide +kernel
theorem dX12_isAbove_16 : decode cX12_isAbove 16 = .ok (.iadd, 1) := by decide +kernel
theorem dX12_isAbove_17 : decode cX12_isAbove 17 = .ok (.laload, 1) := by decide +kernel
theorem dX12_isAbove_18 : decode cX12_isAbove 18 = .ok (.aload_n 0, 1) := by decide +kernel
theorem dX12_isAbove_19 : decode cX12_isAbove 19 = .ok (.getfield 141, 3) := by decide +kernel
theorem dX12_isAbove_22 : decode cX12_isAbove 22 = .ok (.bipush 16, 2) := by decide +kernel
theorem dX12_isAbove_24 : decode cX12_isAbove 24 = .ok (.iload_n 1, 1) := by decide +kernel
theorem dX12_isAbove_25 : decode cX12_isAbove 25 = .ok (.imul, 1) := by decide +kernel
theorem dX12_isAbove_26 : decode cX12_isAbove 26 = .ok (.iload_n 3, 1) := by decide +kernel
theorem dX12_isAbove_27 : decode cX12_isAbove 27 = .ok (.iadd, 1) := by decide +kernel
theorem dX12_isAbove_28 : decode cX12_isAbove 28 = .ok (.laload, 1) := by decide +kernel
theorem dX12_isAbove_29 : decode cX12_isAbove 29 = .ok (.ldc2_w 453, 3) := by decide +kernel
theorem dX12_isAbove_32 : decode cX12_isAbove 32 = .ok (.lxor, 1) := by decide +kernel
theorem dX12_isAbove_33 : decode cX12_isAbove 33 = .ok (.land, 1) := by decide +kernel
theorem dX12_isAbove_34 : decode cX12_isAbove 34 = .ok (.lconst 0, 1) := by decide +kernel
theorem dX12_isAbove_35 : decode cX12_isAbove 35 = .ok (.lcmp, 1) := by decide +kernel
theorem dX12_isAbove_36 : decode cX12_isAbove 36 = .ok (.ifCond .eq 5, 3) := by decide +kernel
theorem dX12_isAbove_39 : decode cX12_isAbove 39 = .ok (.iconst 0, 1) := by decide +kernel
theorem dX12_isAbove_40 : decode cX12_isAbove 40 = .ok (.ireturn, 1) := by decide +kernel
theorem dX12_isAbove_41 : decode cX12_isAbove 41 = .ok (.iinc 3 1, 3) := by decide +kernel
theorem dX12_isAbove_44 : decode cX12_isAbove 44 = .ok (.goto (-42), 3) := by decide +kernel
theorem dX12_isAbove_47 : decode cX12_isAbove 47 = .ok (.iconst 1, 1) := by decide +kernel
theorem dX12_isAbove_48 : decode cX12_isAbove 48 = .ok (.ireturn, 1) := by decide +kernel
noncomputable def F_X12_isAbove_2 : Nat → Nat → Int32 → Int32 → Int32 → m_M → Option (Int32 × m_M)
  | 0, _, _, _, _, _ => none
  | n + 1, v1, v2, v3, v4, M =>
    x_gI 10 M v1 43 fun v5 =>
    if v5 ≤ v4 then (
      some ((1 : Int32), M)
    ) else
    x_gN 10 M v1 54 fun v6 =>
    x_aL M v6 (v3 + v4) fun v7 =>
    x_gN 10 M v1 64 fun v8 =>
    x_aL M v8 (((16 : Int32) * v2) + v4) fun v9 =>
    if (lg_cmp (v7 &&& (v9 ^^^ (-1 : Int64))) (0 : Int64)) = 0 then (
      m_let (v4 + (1 : Int32)) fun v10 =>
      F_X12_isAbove_2 n v1 v2 v3 v10 M
    ) else
    some ((0 : Int32), M)
noncomputable def F_X12_isAbove (a0 : Nat) (a1 : Int32) (a2 : Int32) (M : m_M) : Option (Int32 × m_M) :=
  F_X12_isAbove_2 m_FU a0 a1 a2 (0 : Int32) M
set_option maxHeartbeats 4000000 in
theorem L_X12_isAbove_2 {X : j_X} {Φ : Option Value → m_M → Prop} (C : j_C X yX12_isAbove cX12_isAbove 4 (some .boolean) 1 0 0 Φ) : ∀ (n : Nat) (v1 : Nat) (v2 : Int32) (v3 : Int32) (v4 : Int32) (M : m_M), m_ok e_I Φ (F_X12_isAbove_2 n v1 v2 v3 v4 M) → j_J X 4 2 [some (.ref v1), some (.int v2), some (.int v3), some (.int v4)] [] (0, 0) M := by
  have C0 := C.1
  intro n
  induction n with
  | zero => intro v1 v2 v3 v4 M h; exact False.elim h
  | succ n ih =>
    intro v1 v2 v3 v4 M h
    rw [F_X12_isAbove_2] at h
    refine j_iload_n C0 (pc := 2) dX12_isAbove_2 rfl ?_
    refine j_aload_n C0 (pc := 3) dX12_isAbove_3 rfl ?_
    refine X_gI C0 (pc := 4) f_OM_386_10 rfl dX12_isAbove_4 h (fun v5 h => ?_)
    refine j_icmp_ge C0 (pc := 7) (tgt := 47) dX12_isAbove_7 (by decide) (fun hc => ?_) (fun hc => ?_)
    · replace h := (X_if h).1 hc
      refine j_iconst C0 (pc := 47) dX12_isAbove_47 (v := (1 : Int32)) (by decide) ?_
      exact j_zret C rfl (by decide) h dX12_isAbove_48 (by decide)
    · replace h := (X_if h).2 hc
      refine j_aload_n C0 (pc := 10) dX12_isAbove_10 rfl ?_
      refine X_gN C0 (pc := 11) f_OM_111_10 rfl dX12_isAbove_11 h (fun v6 h => ?_)
      refine j_iload_n C0 (pc := 14) dX12_isAbove_14 rfl ?_
      refine j_iload_n C0 (pc := 15) dX12_isAbove_15 rfl ?_
      refine j_iadd C0 (pc := 16) dX12_isAbove_16 ?_
      refine X_lald C0 (pc := 17) dX12_isAbove_17 h (fun v7 h => ?_)
      refine j_aload_n C0 (pc := 18) dX12_isAbove_18 rfl ?_
      refine X_gN C0 (pc := 19) f_OM_141_10 rfl dX12_isAbove_19 h (fun v8 h => ?_)
      refine j_bipush C0 (pc := 22) dX12_isAbove_22 (v := (16 : Int32)) (by decide) ?_
      refine j_iload_n C0 (pc := 24) dX12_isAbove_24 rfl ?_
      refine j_imul C0 (pc := 25) dX12_isAbove_25 ?_
      refine j_iload_n C0 (pc := 26) dX12_isAbove_26 rfl ?_
      refine j_iadd C0 (pc := 27) dX12_isAbove_27 ?_
      refine X_lald C0 (pc := 28) dX12_isAbove_28 h (fun v9 h => ?_)
      refine j_ldc2 C0 (pc := 29) (v := (-1 : Int64)) (j_c9 82 (by decide +kernel)) dX12_isAbove_29 ?_
      refine j_lxor C0 (pc := 32) dX12_isAbove_32 ?_
      refine j_land C0 (pc := 33) dX12_isAbove_33 ?_
      refine j_lconst C0 (pc := 34) dX12_isAbove_34 (v := (0 : Int64)) (by decide) ?_
      refine j_lcmp C0 (pc := 35) dX12_isAbove_35 ?_
      refine j_if_eq C0 (pc := 36) (tgt := 41) dX12_isAbove_36 (by decide) (fun hc => ?_) (fun hc => ?_)
      · replace h := (X_if h).1 hc
        refine j_iinc C0 (pc := 41) dX12_isAbove_41 (v := v4 + (1 : Int32)) rfl (Nat.le_of_ble_eq_true rfl) (by rfl) ?_
        refine X_let (G := fun w => j_J X 4 44 [some (.ref v1), some (.int v2), some (.int v3), some (.int w)] [] (0, 0) M) h (fun v10 h => ?_)
        refine j_goto C0 (pc := 44) (tgt := 2) dX12_isAbove_44 (by decide) ?_
        exact j_J.wq (ih v1 v2 v3 v10 M h) (And.intro rfl (And.intro rfl (And.intro rfl (And.intro rfl (trivial)))))
      · replace h := (X_if h).2 hc
        refine j_iconst C0 (pc := 39) dX12_isAbove_39 (v := (0 : Int32)) (by decide) ?_
        exact j_zret C rfl (by decide) h dX12_isAbove_40 (by decide)
set_option maxHeartbeats 4000000 in
theorem K_X12_isAbove (a0 : Nat) (a1 : Int32) (a2 : Int32) (M : m_M) (Φ : Option Value → m_M → Prop) (h : m_ok e_I Φ (F_X12_isAbove a0 a1 a2 M)) : j_Ct yX12_isAbove cX12_isAbove 4 (some .boolean) 1 0 0 [.ref a0, .int a1, .int a2] M Φ := by
  refine j_Ct.of (by decide +kernel) (Nat.le_of_ble_eq_true rfl) fun X C => ?_
  have C0 := C.1
  show j_J X 4 0 [some (.ref a0), some (.int a1), some (.int a2), none] [] (0, 0) M
  unfold F_X12_isAbove at h
  refine j_iconst C0 (pc := 0) dX12_isAbove_0 (v := (0 : Int32)) (by decide) ?_
  refine j_istore_n C0 (pc := 1) dX12_isAbove_1 (Nat.le_of_ble_eq_true rfl) ?_
  show j_J X 4 2 [some (.ref a0), some (.int a1), some (.int a2), some (.int (0 : Int32))] [] (0, 0) M
  exact j_J.wq (L_X12_isAbove_2 C m_FU a0 a1 a2 (0 : Int32) M h) (And.intro rfl (And.intro rfl (And.intro rfl (And.intro rfl (trivial)))))
theorem dX12_isAsAsked_0 : decode cX12_isAsAsked 0 = .ok (.iconst 0, 1) := by decide +kernel
theorem dX12_isAsAsked_1 : decode cX12_isAsAsked 1 = .ok (.istore 4, 2) := by decide +kernel
theorem dX12_isAsAsked_3 : decode cX12_isAsAsked 3 = .ok (.iload 4, 2) := by decide +kernel
theorem dX12_isAsAsked_5 : decode cX12_isAsAsked 5 = .ok (.aload_n 0, 1) := by decide +kernel
theorem dX12_isAsAsked_6 : decode cX12_isAsAsked 6 = .ok (.getfield 383, 3) := by decide +kernel
theorem dX12_isAsAsked_9 : decode cX12_isAsAsked 9 = .ok (.if_icmp .ge 56, 3) := by decide +kernel
theorem dX12_isAsAsked_12 : decode cX12_isAsAsked 12 = .ok (.aload_n 0, 1) := by decide +kernel
theorem dX12_isAsAsked_13 : decode cX12_isAsAsked 13 = .ok (.iload 4, 2) := by decide +kernel
theorem dX12_isAsAsked_15 : decode cX12_isAsAsked 15 = .ok (.invokevirtual 402, 3) := by decide +kernel
theorem dX12_isAsAsked_18 : decode cX12_isAsAsked 18 = .ok (.aload_n 0, 1) := by decide +kernel
theorem dX12_isAsAsked_19 : decode cX12_isAsAsked 19 = .ok (.iload_n 1, 1) := by decide +kernel
theorem dX12_isAsAsked_20 : decode cX12_isAsAsked 20 = .ok (.iload_n 2, 1) := by decide +kernel
theorem dX12_isAsAsked_21 : decode cX12_isAsAsked 21 = .ok (.invokevirtual 478, 3) := by decide +kernel
theorem dX12_isAsAsked_24 : decode cX12_isAsAsked 24 = .ok (.aload_n 0, 1) := by decide +kernel
theorem dX12_isAsAsked_25 : decode cX12_isAsAsked 25 = .ok (.getfield 111, 3) := by decide +kernel
theorem dX12_isAsAsked_28 : decode cX12_isAsAsked 28 = .ok (.iload_n 3, 1) := by decide +kernel
theorem dX12_isAsAsked_29 : decode cX12_isAsAsked 29 = .ok (.iload 4, 2) := by decide +kernel
theorem dX12_isAsAsked_31 : decode cX12_isAsAsked 31 = .ok (.bipush 64, 2) := by decide +kernel
theorem dX12_isAsAsked_33 : decode cX12_isAsAsked 33 = .ok (.idiv, 1) := by decide +kernel
theorem dX12_isAsAsked_34 : decode cX12_isAsAsked 34 = .ok (.iadd, 1) := by decide +kernel
theorem dX12_isAsAsked_35 : decode cX12_isAsAsked 35 = .ok (.laload, 1) := by decide +kernel
theorem dX12_isAsAsked_36 : decode cX12_isAsAsked 36 = .ok (.iload 4, 2) := by decide +kernel
theorem dX12_isAsAsked_38 : decode cX12_isAsAsked 38 = .ok (.bipush 64, 2) := by decide +kernel
theorem dX12_isAsAsked_40 : decode cX12_isAsAsked 40 = .ok (.irem, 1) := by decide +kernel
theorem dX12_isAsAsked_41 : decode cX12_isAsAsked 41 = .ok (.lshr, 1) := by decide +kernel
theorem dX12_isAsAsked_42 : decode cX12_isAsAsked 42 = .ok (.lconst 1, 1) := by decide +kernel
theorem dX12_isAsAsked_43 : decode cX12_isAsAsked 43 = .ok (.land, 1) := by decide +kernel
theorem dX12_isAsAsked_44 : decode cX12_isAsAsked 44 = .ok (.lconst 1, 1) := by decide +kernel
theorem dX12_isAsAsked_45 : decode cX12_isAsAsked 45 = .ok (.lcmp, 1) := by decide +kernel
theorem dX12_isAsAsked_46 : decode cX12_isAsAsked 46 = .ok (.ifCond .ne 7, 3) := by decide +kernel
theorem dX12_isAsAsked_49 : decode cX12_isAsAsked 49 = .ok (.iconst 1, 1) := by decide +kernel
theorem dX12_isAsAsked_50 : decode cX12_isAsAsked 50 = .ok (.goto 4, 3) := by decide +kernel
theorem dX12_isAsAsked_53 : decode cX12_isAsAsked 53 = .ok (.iconst 0, 1) := by decide +kernel
theorem dX12_isAsAsked_54 : decode cX12_isAsAsked 54 = .ok (.if_icmp .eq 5, 3) := by decide +kernel
theorem dX12_isAsAsked_57 : decode cX12_isAsAsked 57 = .ok (.iconst 0, 1) := by decide +kernel
theorem dX12_isAsAsked_58 : decode cX12_isAsAsked 58 = .ok (.ireturn, 1) := by decide +kernel
theorem dX12_isAsAsked_59 : decode cX12_isAsAsked 59 = .ok (.iinc 4 1, 3) := by decide +kernel
theorem dX12_isAsAsked_62 : decode cX12_isAsAsked 62 = .ok (.goto (-59), 3) := by decide +kernel
theorem dX12_isAsAsked_65 : decode cX12_isAsAsked 65 = .ok (.iconst 1, 1) := by decide +kernel
theorem dX12_isAsAsked_66 : decode cX12_isAsAsked 66 = .ok (.ireturn, 1) := by decide +kernel
noncomputable def F_X12_isAsAsked_3 : Nat → Nat → Int32 → Int32 → Int32 → Int32 → m_M → Option (Int32 × m_M)
  | 0, _, _, _, _, _, _ => none
  | n + 1, v1, v2, v3, v4, v5, M =>
    x_gI 10 M v1 42 fun v6 =>
    if v6 ≤ v5 then (
      some ((1 : Int32), M)
    ) else
    m_let (fun (v7 : Nat) (v8 : Int32) (v9 : Int32) (v10 : Int32) (v11 : Int32) (v12 : Int32) (v13 : Int32) (M1 : m_M) =>
      if v12 = v13 then (
        m_let (v11 + (1 : Int32)) fun v14 =>
        F_X12_isAsAsked_3 n v7 v8 v9 v10 v14 M1
      ) else
      some ((0 : Int32), M1)
    ) fun (k54 : Nat → Int32 → Int32 → Int32 → Int32 → Int32 → Int32 → m_M → Option (Int32 × m_M)) =>
    x_cV 10 M v1 (F_X12_shows v1 v5 M) fun _ M2 =>
    x_cV 10 M2 v1 (F_X12_clauseHolds v1 v2 v3 M2) fun v15 M3 =>
    x_gN 10 M3 v1 54 fun v16 =>
    x_nz (64 : Int32) <|
    x_aL M3 v16 (v4 + (v5 / (64 : Int32))) fun v17 =>
    x_nz (64 : Int32) <|
    if (lg_cmp ((v17 >>> ((v5 - v5 / (64 : Int32) * (64 : Int32)).toInt64 &&& 63)) &&& (1 : Int64)) (1 : Int64)) = 0 then (
      k54 v1 v2 v3 v4 v5 v15 (1 : Int32) M3
    ) else
    k54 v1 v2 v3 v4 v5 v15 (0 : Int32) M3
noncomputable def F_X12_isAsAsked (a0 : Nat) (a1 : Int32) (a2 : Int32) (a3 : Int32) (M : m_M) : Option (Int32 × m_M) :=
  F_X12_isAsAsked_3 m_FU a0 a1 a2 a3 (0 : Int32) M
set_option maxHeartbeats 4000000 in
theorem L_X12_isAsAsked_3 {X : j_X} {Φ : Option Value → m_M → Prop} (C : j_C X yX12_isAsAsked cX12_isAsAsked 5 (some .boolean) 8 0 0 Φ) : ∀ (n : Nat) (v1 : Nat) (v2 : Int32) (v3 : Int32) (v4 : Int32) (v5 : Int32) (M : m_M), m_ok e_I Φ (F_X12_isAsAsked_3 n v1 v2 v3 v4 v5 M) → j_J X 5 3 [some (.ref v1), some (.int v2), some (.int v3), some (.int v4), some (.int v5)] [] (0, 0) M := by
  have C0 := C.1
  intro n
  induction n with
  | zero => intro v1 v2 v3 v4 v5 M h; exact False.elim h
  | succ n ih =>
    intro v1 v2 v3 v4 v5 M h
    rw [F_X12_isAsAsked_3] at h
    refine j_iload C0 (pc := 3) dX12_isAsAsked_3 rfl ?_
    refine j_aload_n C0 (pc := 5) dX12_isAsAsked_5 rfl ?_
    refine X_gI C0 (pc := 6) f_OM_383_10 rfl dX12_isAsAsked_6 h (fun v6 h => ?_)
    refine j_icmp_ge C0 (pc := 9) (tgt := 65) dX12_isAsAsked_9 (by decide) (fun hc => ?_) (fun hc => ?_)
    · replace h := (X_if h).1 hc
      refine j_iconst C0 (pc := 65) dX12_isAsAsked_65 (v := (1 : Int32)) (by decide) ?_
      exact j_zret C rfl (by decide) h dX12_isAsAsked_66 (by decide)
    · replace h := (X_if h).2 hc
      refine X_join (fun (kj : Nat → Int32 → Int32 → Int32 → Int32 → Int32 → Int32 → m_M → Option (Int32 × m_M)) => ∀ (p0 : Nat) (p1 : Int32) (p2 : Int32) (p3 : Int32) (p4 : Int32) (p5 : Int32) (p6 : Int32) (M : m_M), m_ok e_I Φ (kj p0 p1 p2 p3 p4 p5 p6 M) → j_J X 5 54 [some (.ref p0), some (.int p1), some (.int p2), some (.int p3), some (.int p4)] [.int p6, .int p5] (0, 0) M) h (fun v7 v8 v9 v10 v11 v12 v13 M1 h => ?_) (fun k54 hk54 h => ?_)
      · refine j_icmp_eq C0 (pc := 54) (tgt := 59) dX12_isAsAsked_54 (by decide) (fun hc => ?_) (fun hc => ?_)
        · replace h := (X_if h).1 hc
          refine j_iinc C0 (pc := 59) dX12_isAsAsked_59 (v := v11 + (1 : Int32)) rfl (Nat.le_of_ble_eq_true rfl) (by rfl) ?_
          refine X_let (G := fun w => j_J X 5 62 [some (.ref v7), some (.int v8), some (.int v9), some (.int v10), some (.int w)] [] (0, 0) M1) h (fun v14 h => ?_)
          refine j_goto C0 (pc := 62) (tgt := 3) dX12_isAsAsked_62 (by decide) ?_
          exact j_J.wq (ih v7 v8 v9 v10 v14 M1 h) (And.intro rfl (And.intro rfl (And.intro rfl (And.intro rfl (And.intro rfl (trivial))))))
        · replace h := (X_if h).2 hc
          refine j_iconst C0 (pc := 57) dX12_isAsAsked_57 (v := (0 : Int32)) (by decide) ?_
          exact j_zret C rfl (by decide) h dX12_isAsAsked_58 (by decide)
      · refine j_aload_n C0 (pc := 12) dX12_isAsAsked_12 rfl ?_
        refine j_iload C0 (pc := 13) dX12_isAsAsked_13 rfl ?_
        refine X_cV C0 (pc := 15) (e' := e_V) (as := [.int v5]) (rest := []) (s' := fun _ => []) (g' := (0, 0)) v_OM_402_10 (fun Ψ hΨ => K_X12_shows v1 v5 M Ψ hΨ) rfl rfl (fun _ => rfl) (by decide) (by decide) rfl (Nat.le_of_ble_eq_true rfl) dX12_isAsAsked_15 h (fun _ M2 h => ?_)
        refine j_aload_n C0 (pc := 18) dX12_isAsAsked_18 rfl ?_
        refine j_iload_n C0 (pc := 19) dX12_isAsAsked_19 rfl ?_
        refine j_iload_n C0 (pc := 20) dX12_isAsAsked_20 rfl ?_
        refine X_cV C0 (pc := 21) (e' := e_I) (as := [.int v2, .int v3]) (rest := []) (s' := fun w => .int w :: []) (g' := (0, 0)) v_OM_478_10 (fun Ψ hΨ => K_X12_clauseHolds v1 v2 v3 M2 Ψ hΨ) rfl rfl (fun _ => rfl) (by decide) (by decide) rfl (Nat.le_of_ble_eq_true rfl) dX12_isAsAsked_21 h (fun v15 M3 h => ?_)
        refine j_aload_n C0 (pc := 24) dX12_isAsAsked_24 rfl ?_
        refine X_gN C0 (pc := 25) f_OM_111_10 rfl dX12_isAsAsked_25 h (fun v16 h => ?_)
        refine j_iload_n C0 (pc := 28) dX12_isAsAsked_28 rfl ?_
        refine j_iload C0 (pc := 29) dX12_isAsAsked_29 rfl ?_
        refine j_bipush C0 (pc := 31) dX12_isAsAsked_31 (v := (64 : Int32)) (by decide) ?_
        refine X_idiv C0 (pc := 33) dX12_isAsAsked_33 h (fun h => ?_)
        refine j_iadd C0 (pc := 34) dX12_isAsAsked_34 ?_
        refine X_lald C0 (pc := 35) dX12_isAsAsked_35 h (fun v17 h => ?_)
        refine j_iload C0 (pc := 36) dX12_isAsAsked_36 rfl ?_
        refine j_bipush C0 (pc := 38) dX12_isAsAsked_38 (v := (64 : Int32)) (by decide) ?_
        refine X_irem C0 (pc := 40) dX12_isAsAsked_40 h (fun h => ?_)
        refine j_lshr C0 (pc := 41) dX12_isAsAsked_41 (v := v17 >>> ((v5 - v5 / (64 : Int32) * (64 : Int32)).toInt64 &&& 63)) rfl ?_
        refine j_lconst C0 (pc := 42) dX12_isAsAsked_42 (v := (1 : Int64)) (by decide) ?_
        refine j_land C0 (pc := 43) dX12_isAsAsked_43 ?_
        refine j_lconst C0 (pc := 44) dX12_isAsAsked_44 (v := (1 : Int64)) (by decide) ?_
        refine j_lcmp C0 (pc := 45) dX12_isAsAsked_45 ?_
        refine j_if_ne C0 (pc := 46) (tgt := 53) dX12_isAsAsked_46 (by decide) (fun hc => ?_) (fun hc => ?_)
        · replace h := (X_if h).2 hc
          refine j_iconst C0 (pc := 53) dX12_isAsAsked_53 (v := (0 : Int32)) (by decide) ?_
          exact j_J.wq (hk54 v1 v2 v3 v4 v5 v15 (0 : Int32) M3 h) (And.intro rfl (And.intro rfl (And.intro rfl (And.intro rfl (And.intro rfl (trivial))))))
        · replace h := (X_if h).1 hc
          refine j_iconst C0 (pc := 49) dX12_isAsAsked_49 (v := (1 : Int32)) (by decide) ?_
          refine j_goto C0 (pc := 50) (tgt := 54) dX12_isAsAsked_50 (by decide) ?_
          exact j_J.wq (hk54 v1 v2 v3 v4 v5 v15 (1 : Int32) M3 h) (And.intro rfl (And.intro rfl (And.intro rfl (And.intro rfl (And.intro rfl (trivial))))))
set_option maxHeartbeats 4000000 in
theorem K_X12_isAsAsked (a0 : Nat) (a1 : Int32) (a2 : Int32) (a3 : Int32) (M : m_M) (Φ : Option Value → m_M → Prop) (h : m_ok e_I Φ (F_X12_isAsAsked a0 a1 a2 a3 M)) : j_Ct yX12_isAsAsked cX12_isAsAsked 5 (some .boolean) 8 0 0 [.ref a0, .int a1, .int a2, .int a3] M Φ := by
  refine j_Ct.of (by decide +kernel) (Nat.le_of_ble_eq_true rfl) fun X C => ?_
  have C0 := C.1
  show j_J X 5 0 [some (.ref a0), some (.int a1), some (.int a2), some (.int a3), none] [] (0, 0) M
  unfold F_X12_isAsAsked at h
  refine j_iconst C0 (pc := 0) dX12_isAsAsked_0 (v := (0 : Int32)) (by decide) ?_
  refine j_istore C0 (pc := 1) dX12_isAsAsked_1 (Nat.le_of_ble_eq_true rfl) ?_
  show j_J X 5 3 [some (.ref a0), some (.int a1), some (.int a2), some (.int a3), some (.int (0 : Int32))] [] (0, 0) M
  exact j_J.wq (L_X12_isAsAsked_3 C m_FU a0 a1 a2 a3 (0 : Int32) M h) (And.intro rfl (And.intro rfl (And.intro rfl (And.intro rfl (And.intro rfl (trivial))))))
theorem dX12_verbNamed_0 : decode cX12_verbNamed 0 = .ok (.iconst 0, 1) := by decide +kernel
theorem dX12_verbNamed_1 : decode cX12_verbNamed 1 = .ok (.istore_n 2, 1) := by decide +kernel
theorem dX12_verbNamed_2 : decode cX12_verbNamed 2 = .ok (.iload_n 2, 1) := by decide +kernel
theorem dX12_verbNamed_3 : decode cX12_verbNamed 3 = .ok (.aload_n 0, 1) := by decide +kernel
theorem dX12_verbNamed_4 : decode cX12_verbNamed 4 = .ok (.getfield 13, 3) := by decide +kernel
theorem dX12_verbNamed_7 : decode cX12_verbNamed 7 = .ok (.bipush 8, 2) := by decide +kernel
theorem dX12_verbNamed_9 : decode cX12_verbNamed 9 = .ok (.iload_n 1, 1) := by decide +kernel
theorem dX12_verbNamed_10 : decode cX12_verbNamed 10 = .ok (.imul, 1) := by decide +kernel
theorem dX12_verbNamed_11 : decode cX12_verbNamed 11 = .ok (.iconst 3, 1) := by decide +kernel
theorem dX12_verbNamed_12 : decode cX12_verbNamed 12 = .ok (.iadd, 1) := by decide +kernel
theorem dX12_verbNamed_13 : decode cX12_verbNamed 13 = .ok (.iaload, 1) := by decide +kernel
theorem dX12_verbNamed_14 : decode cX12_verbNamed 14 = .ok (.if_icmp .ge 30, 3) := by decide +kernel
theorem dX12_verbNamed_17 : decode cX12_verbNamed 17 = .ok (.aload_n 0, 1) := by decide +kernel
theorem dX12_verbNamed_18 : decode cX12_verbNamed 18 = .ok (.getfield 23, 3) := by decide +kernel
theorem dX12_verbNamed_21 : decode cX12_verbNamed 21 = .ok (.bipush 6, 2) := by decide +kernel
theorem dX12_verbNamed_23 : decode cX12_verbNamed 23 = .ok (.iload_n 1, 1) := by decide +kernel
theorem dX12_verbNamed_24 : decode cX12_verbNamed 24 = .ok (.imul, 1) := by decide +kernel
theorem dX12_verbNamed_25 : decode cX12_verbNamed 25 = .ok (.iload_n 2, 1) := by decide +kernel
theorem dX12_verbNamed_26 : decode cX12_verbNamed 26 = .ok (.iadd, 1) := by decide +kernel
theorem dX12_verbNamed_27 : decode cX12_verbNamed 27 = .ok (.laload, 1) := by decide +kernel
theorem dX12_verbNamed_28 : decode cX12_verbNamed 28 = .ok (.aload_n 0, 1) := by decide +kernel
theorem dX12_verbNamed_29 : decode cX12_verbNamed 29 = .ok (.getfield 181, 3) := by decide +kernel
theorem dX12_verbNamed_32 : decode cX12_verbNamed 32 = .ok (.lcmp, 1) := by decide +kernel
theorem dX12_verbNamed_33 : decode cX12_verbNamed 33 = .ok (.ifCond .ne 5, 3) := by decide +kernel
theorem dX12_verbNamed_36 : decode cX12_verbNamed 36 = .ok (.iload_n 2, 1) := by decide +kernel
theorem dX12_verbNamed_37 : decode cX12_verbNamed 37 = .ok (.ireturn, 1) := by decide +kernel
theorem dX12_verbNamed_38 : decode cX12_verbNamed 38 = .ok (.iinc 2 1, 3) := by decide +kernel
theorem dX12_verbNamed_41 : decode cX12_verbNamed 41 = .ok (.goto (-39), 3) := by decide +kernel
theorem dX12_verbNamed_44 : decode cX12_verbNamed 44 = .ok (.iconst (-1), 1) := by decide +kernel
theorem dX12_verbNamed_45 : decode cX12_verbNamed 45 = .ok (.ireturn, 1) := by decide +kernel
noncomputable def F_X12_verbNamed_2 : Nat → Nat → Int32 → Int32 → m_M → Option (Int32 × m_M)
  | 0, _, _, _, _ => none
  | n + 1, v1, v2, v3, M =>
    x_gN 10 M v1 10 fun v4 =>
    x_aI 12 M v4 (((8 : Int32) * v2) + (3 : Int32)) fun v5 =>
    if v5 ≤ v3 then (
      some ((-1 : Int32), M)
    ) else
    x_gN 10 M v1 13 fun v6 =>
    x_aL M v6 (((6 : Int32) * v2) + v3) fun v7 =>
    x_gL 10 M v1 7 fun v8 =>
    if (lg_cmp v7 v8) = 0 then (
      some (v3, M)
    ) else
    m_let (v3 + (1 : Int32)) fun v9 =>
    F_X12_verbNamed_2 n v1 v2 v9 M
noncomputable def F_X12_verbNamed (a0 : Nat) (a1 : Int32) (M : m_M) : Option (Int32 × m_M) :=
  F_X12_verbNamed_2 m_FU a0 a1 (0 : Int32) M
set_option maxHeartbeats 4000000 in
theorem L_X12_verbNamed_2 {X : j_X} {Φ : Option Value → m_M → Prop} (C : j_C X yX12_verbNamed cX12_verbNamed 3 (some .int) 1 0 0 Φ) : ∀ (n : Nat) (v1 : Nat) (v2 : Int32) (v3 : Int32) (M : m_M), m_ok e_I Φ (F_X12_verbNamed_2 n v1 v2 v3 M) → j_J X 3 2 [some (.ref v1), some (.int v2), some (.int v3)] [] (0, 0) M := by
  have C0 := C.1
  intro n
  induction n with
  | zero => intro v1 v2 v3 M h; exact False.elim h
  | succ n ih =>
    intro v1 v2 v3 M h
    rw [F_X12_verbNamed_2] at h
    refine j_iload_n C0 (pc := 2) dX12_verbNamed_2 rfl ?_
    refine j_aload_n C0 (pc := 3) dX12_verbNamed_3 rfl ?_
    refine X_gN C0 (pc := 4) f_OM_13_10 rfl dX12_verbNamed_4 h (fun v4 h => ?_)
    refine j_bipush C0 (pc := 7) dX12_verbNamed_7 (v := (8 : Int32)) (by decide) ?_
    refine j_iload_n C0 (pc := 9) dX12_verbNamed_9 rfl ?_
    refine j_imul C0 (pc := 10) dX12_verbNamed_10 ?_
    refine j_iconst C0 (pc := 11) dX12_verbNamed_11 (v := (3 : Int32)) (by decide) ?_
    refine j_iadd C0 (pc := 12) dX12_verbNamed_12 ?_
    refine X_iald C0 (pc := 13) dX12_verbNamed_13 h (fun v5 h => ?_)
    refine j_icmp_ge C0 (pc := 14) (tgt := 44) dX12_verbNamed_14 (by decide) (fun hc => ?_) (fun hc => ?_)
    · replace h := (X_if h).1 hc
      refine j_iconst C0 (pc := 44) dX12_verbNamed_44 (v := (-1 : Int32)) (by decide) ?_
      exact j_iret C rfl h dX12_verbNamed_45 (by decide)
    · replace h := (X_if h).2 hc
      refine j_aload_n C0 (pc := 17) dX12_verbNamed_17 rfl ?_
      refine X_gN C0 (pc := 18) f_OM_23_10 rfl dX12_verbNamed_18 h (fun v6 h => ?_)
      refine j_bipush C0 (pc := 21) dX12_verbNamed_21 (v := (6 : Int32)) (by decide) ?_
      refine j_iload_n C0 (pc := 23) dX12_verbNamed_23 rfl ?_
      refine j_imul C0 (pc := 24) dX12_verbNamed_24 ?_
      refine j_iload_n C0 (pc := 25) dX12_verbNamed_25 rfl ?_
      refine j_iadd C0 (pc := 26) dX12_verbNamed_26 ?_
      refine X_lald C0 (pc := 27) dX12_verbNamed_27 h (fun v7 h => ?_)
      refine j_aload_n C0 (pc := 28) dX12_verbNamed_28 rfl ?_
      refine X_gL C0 (pc := 29) f_OM_181_10 rfl dX12_verbNamed_29 h (fun v8 h => ?_)
      refine j_lcmp C0 (pc := 32) dX12_verbNamed_32 ?_
      refine j_if_ne C0 (pc := 33) (tgt := 38) dX12_verbNamed_33 (by decide) (fun hc => ?_) (fun hc => ?_)
      · replace h := (X_if h).2 hc
        refine j_iinc C0 (pc := 38) dX12_verbNamed_38 (v := v3 + (1 : Int32)) rfl (Nat.le_of_ble_eq_true rfl) (by rfl) ?_
        refine X_let (G := fun w => j_J X 3 41 [some (.ref v1), some (.int v2), some (.int w)] [] (0, 0) M) h (fun v9 h => ?_)
        refine j_goto C0 (pc := 41) (tgt := 2) dX12_verbNamed_41 (by decide) ?_
        exact j_J.wq (ih v1 v2 v9 M h) (And.intro rfl (And.intro rfl (And.intro rfl (trivial))))
      · replace h := (X_if h).1 hc
        refine j_iload_n C0 (pc := 36) dX12_verbNamed_36 rfl ?_
        exact j_iret C rfl h dX12_verbNamed_37 (by decide)
set_option maxHeartbeats 4000000 in
theorem K_X12_verbNamed (a0 : Nat) (a1 : Int32) (M : m_M) (Φ : Option Value → m_M → Prop) (h : m_ok e_I Φ (F_X12_verbNamed a0 a1 M)) : j_Ct yX12_verbNamed cX12_verbNamed 3 (some .int) 1 0 0 [.ref a0, .int a1] M Φ := by
  refine j_Ct.of (by decide +kernel) (Nat.le_of_ble_eq_true rfl) fun X C => ?_
  have C0 := C.1
  show j_J X 3 0 [some (.ref a0), some (.int a1), none] [] (0, 0) M
  unfold F_X12_verbNamed at h
  refine j_iconst C0 (pc := 0) dX12_verbNamed_0 (v := (0 : Int32)) (by decide) ?_
  refine j_istore_n C0 (pc := 1) dX12_verbNamed_1 (Nat.le_of_ble_eq_true rfl) ?_
  show j_J X 3 2 [some (.ref a0), some (.int a1), some (.int (0 : Int32))] [] (0, 0) M
  exact j_J.wq (L_X12_verbNamed_2 C m_FU a0 a1 (0 : Int32) M h) (And.intro rfl (And.intro rfl (And.intro rfl (trivial))))
theorem dX12_isNew_0 : decode cX12_isNew 0 = .ok (.aload_n 0, 1) := by decide +kernel
theorem dX12_isNew_1 : decode cX12_isNew 1 = .ok (.invokevirtual 286, 3) := by decide +kernel
theorem dX12_isNew_4 : decode cX12_isNew 4 = .ok (.ifCond .eq 9, 3) := by decide +kernel
theorem dX12_isNew_7 : decode cX12_isNew 7 = .ok (.aload_n 0, 1) := by decide +kernel
theorem dX12_isNew_8 : decode cX12_isNew 8 = .ok (.iconst 1, 1) := by decide +kernel
theorem dX12_isNew_9 : decode cX12_isNew 9 = .ok (.invokevirtual 237, 3) := by decide +kernel
theorem dX12_isNew_12 : decode cX12_isNew 12 = .ok (.ireturn, 1) := by decide +kernel
theorem dX12_isNew_13 : decode cX12_isNew 13 = .ok (.aload_n 0, 1) := by decide +kernel
theorem dX12_isNew_14 : decode cX12_isNew 14 = .ok (.iconst 1, 1) := by decide +kernel
theorem dX12_isNew_15 : decode cX12_isNew 15 = .ok (.invokevirtual 290, 3) := by decide +kernel
theorem dX12_isNew_18 : decode cX12_isNew 18 = .ok (.ifCond .ge 23, 3) := by decide +kernel
theorem dX12_isNew_21 : decode cX12_isNew 21 = .ok (.aload_n 0, 1) := by decide +kernel
theorem dX12_isNew_22 : decode cX12_isNew 22 = .ok (.iconst 1, 1) := by decide +kernel
theorem dX12_isNew_23 : decode cX12_isNew 23 = .ok (.invokevirtual 293, 3) := by decide +kernel
theorem dX12_isNew_26 : decode cX12_isNew 26 = .ok (.ifCond .ge 15, 3) := by decide +kernel
theorem dX12_isNew_29 : decode cX12_isNew 29 = .ok (.aload_n 0, 1) := by decide +kernel
theorem dX12_isNew_30 : decode cX12_isNew 30 = .ok (.iconst 1, 1) := by decide +kernel
theorem dX12_isNew_31 : decode cX12_isNew 31 = .ok (.invokevirtual 296, 3) := by decide +kernel
theorem dX12_isNew_34 : decode cX12_isNew 34 = .ok (.ifCond .ge 7, 3) := by decide +kernel
theorem dX12_isNew_37 : decode cX12_isNew 37 = .ok (.iconst 1, 1) := by decide +kernel
theorem dX12_isNew_38 : decode cX12_isNew 38 = .ok (.goto 4, 3) := by decide +kernel
theorem dX12_isNew_41 : decode cX12_isNew 41 = .ok (.iconst 0, 1) := by decide +kernel
theorem dX12_isNew_42 : decode cX12_isNew 42 = .ok (.istore_n 1, 1) := by decide +kernel
theorem dX12_isNew_43 : decode cX12_isNew 43 = .ok (.iconst 0, 1) := by decide +kernel
theorem dX12_isNew_44 : decode cX12_isNew 44 = .ok (.istore_n 2, 1) := by decide +kernel
theorem dX12_isNew_45 : decode cX12_isNew 45 = .ok (.iload_n 2, 1) := by decide +kernel
theorem dX12_isNew_46 : decode cX12_isNew 46 = .ok (.aload_n 0, 1) := by decide +kernel
theorem dX12_isNew_47 : decode cX12_isNew 47 = .ok (.getfield 13, 3) := by decide +kernel
theorem dX12_isNew_50 : decode cX12_isNew 50 = .ok (.bipush 12, 2) := by decide +kernel
theorem dX12_isNew_52 : decode cX12_isNew 52 = .ok (.iaload, 1) := by decide +kernel
theorem dX12_isNew_53 : decode cX12_isNew 53 = .ok (.if_icmp .ge 33, 3) := by decide +kernel
theorem dX12_isNew_56 : decode cX12_isNew 56 = .ok (.iload_n 1, 1) := by decide +kernel
theorem dX12_isNew_57 : decode cX12_isNew 57 = .ok (.ifCond .eq 21, 3) := by decide +kernel
theorem dX12_isNew_60 : decode cX12_isNew 60 = .ok (.aload_n 0, 1) := by decide +kernel
theorem dX12_isNew_61 : decode cX12_isNew 61 = .ok (.getfield 26, 3) := by decide +kernel
theorem dX12_isNew_64 : decode cX12_isNew 64 = .ok (.iload_n 2, 1) := by decide +kernel
theorem dX12_isNew_65 : decode cX12_isNew 65 = .ok (.laload, 1) := by decide +kernel
theorem dX12_isNew_66 : decode cX12_isNew 66 = .ok (.aload_n 0, 1) := by decide +kernel
theorem dX12_isNew_67 : decode cX12_isNew 67 = .ok (.getfield 181, 3) := by decide +kernel
theorem dX12_isNew_70 : decode cX12_isNew 70 = .ok (.lcmp, 1) := by decide +kernel
theorem dX12_isNew_71 : decode cX12_isNew 71 = .ok (.ifCond .eq 7, 3) := by decide +kernel
theorem dX12_isNew_74 : decode cX12_isNew 74 = .ok (.iconst 1, 1) := by decide +kernel
theorem dX12_isNew_75 : decode cX12_isNew 75 = .ok (.goto 4, 3) := by decide +kernel
theorem dX12_isNew_78 : decode cX12_isNew 78 = .ok (.iconst 0, 1) := by decide +kernel
theorem dX12_isNew_79 : decode cX12_isNew 79 = .ok (.istore_n 1, 1) := by decide +kernel
theorem dX12_isNew_80 : decode cX12_isNew 80 = .ok (.iinc 2 1, 3) := by decide +kernel
theorem dX12_isNew_83 : decode cX12_isNew 83 = .ok (.goto (-38), 3) := by decide +kernel
theorem dX12_isNew_86 : decode cX12_isNew 86 = .ok (.iload_n 1, 1) := by decide +kernel
theorem dX12_isNew_87 : decode cX12_isNew 87 = .ok (.ifCond .ne 11, 3) := by decide +kernel
theorem dX12_isNew_90 : decode cX12_isNew 90 = .ok (.aload_n 0, 1) := by decide +kernel
theorem dX12_isNew_91 : decode cX12_isNew 91 = .ok (.iconst 3, 1) := by decide +kernel
theorem dX12_isNew_92 : decode cX12_isNew 92 = .ok (.invokevirtual 237, 3) := by decide +kernel
theorem dX12_isNew_95 : decode cX12_isNew 95 = .ok (.ifCond .eq 7, 3) := by decide +kernel
theorem dX12_isNew_98 : decode cX12_isNew 98 = .ok (.iconst 1, 1) := by decide +kernel
theorem dX12_isNew_99 : decode cX12_isNew 99 = .ok (.goto 4, 3) := by decide +kernel
theorem dX12_isNew_102 : decode cX12_isNew 102 = .ok (.iconst 0, 1) := by decide +kernel
theorem dX12_isNew_103 : decode cX12_isNew 103 = .ok (.ireturn, 1) := by decide +kernel
noncomputable def F_X12_isNew_45 (k86 : Nat → Int32 → m_M → Option (Int32 × m_M)) : Nat → Nat → Int32 → Int32 → m_M → Option (Int32 × m_M)
  | 0, _, _, _, _ => none
  | n + 1, v1, v2, v3, M =>
    x_gN 10 M v1 10 fun v4 =>
    x_aI 12 M v4 (12 : Int32) fun v5 =>
    if v5 ≤ v3 then (
      k86 v1 v2 M
    ) else
    m_let (fun (v6 : Nat) (v7 : Int32) (v8 : Int32) (M1 : m_M) =>
      m_let (v7 + (1 : Int32)) fun v9 =>
      F_X12_isNew_45 k86 n v6 v8 v9 M1
    ) fun (k79 : Nat → Int32 → Int32 → m_M → Option (Int32 × m_M)) =>
    m_let (fun (v10 : Nat) (v11 : Int32) (M2 : m_M) =>
      k79 v10 v11 (0 : Int32) M2
    ) fun (k78 : Nat → Int32 → m_M → Option (Int32 × m_M)) =>
    if v2 = 0 then (
      k78 v1 v3 M
    ) else
    x_gN 10 M v1 14 fun v12 =>
    x_aL M v12 v3 fun v13 =>
    x_gL 10 M v1 7 fun v14 =>
    if (lg_cmp v13 v14) = 0 then (
      k78 v1 v3 M
    ) else
    k79 v1 v3 (1 : Int32) M
noncomputable def F_X12_isNew (a0 : Nat) (M : m_M) : Option (Int32 × m_M) :=
  x_cV 10 M a0 (F_X12_isKept a0 M) fun v1 M1 =>
  if v1 = 0 then (
    m_let (fun (v2 : Nat) (v3 : Int32) (M2 : m_M) =>
      m_let (fun (v4 : Nat) (v5 : Int32) (M3 : m_M) =>
        m_let (fun  (M4 : m_M) =>
          some ((1 : Int32), M4)
        ) fun (k98 : m_M → Option (Int32 × m_M)) =>
        if v5 = 0 then (
          x_cV 10 M3 v4 (F_X12_fails v4 (3 : Int32) M3) fun v6 M5 =>
          if v6 = 0 then (
            some ((0 : Int32), M5)
          ) else
          k98 M5
        ) else
        k98 M3
      ) fun (k86 : Nat → Int32 → m_M → Option (Int32 × m_M)) =>
      F_X12_isNew_45 k86 m_FU v2 v3 (0 : Int32) M2
    ) fun (k42 : Nat → Int32 → m_M → Option (Int32 × m_M)) =>
    m_let (fun (v7 : Nat) (M6 : m_M) =>
      k42 v7 (0 : Int32) M6
    ) fun (k41 : Nat → m_M → Option (Int32 × m_M)) =>
    x_cV 10 M1 a0 (F_X12_thingNamed a0 (1 : Int32) M1) fun v8 M7 =>
    if 0 ≤ v8 then (
      k41 a0 M7
    ) else
    x_cV 10 M7 a0 (F_X12_bendNamed a0 (1 : Int32) M7) fun v9 M8 =>
    if 0 ≤ v9 then (
      k41 a0 M8
    ) else
    x_cV 10 M8 a0 (F_X12_verbNamed a0 (1 : Int32) M8) fun v10 M9 =>
    if 0 ≤ v10 then (
      k41 a0 M9
    ) else
    k42 a0 (1 : Int32) M9
  ) else
  x_cV 10 M1 a0 (F_X12_fails a0 (1 : Int32) M1) fun v11 M10 =>
  x_b v11 <| some (v11, M10)
set_option maxHeartbeats 4000000 in
theorem L_X12_isNew_45 {X : j_X} {Φ : Option Value → m_M → Prop} (C : j_C X yX12_isNew cX12_isNew 3 (some .boolean) 2 0 0 Φ) {k86 : Nat → Int32 → m_M → Option (Int32 × m_M)} (hk86 : ∀ (p0 : Nat) (p1 : Int32) (M : m_M), m_ok e_I Φ (k86 p0 p1 M) → j_J X 3 86 [some (.ref p0), some (.int p1), none] [] (0, 0) M) : ∀ (n : Nat) (v1 : Nat) (v2 : Int32) (v3 : Int32) (M : m_M), m_ok e_I Φ (F_X12_isNew_45 k86 n v1 v2 v3 M) → j_J X 3 45 [some (.ref v1), some (.int v2), some (.int v3)] [] (0, 0) M := by
  have C0 := C.1
  intro n
  induction n with
  | zero => intro v1 v2 v3 M h; exact False.elim h
  | succ n ih =>
    intro v1 v2 v3 M h
    rw [F_X12_isNew_45] at h
    refine j_iload_n C0 (pc := 45) dX12_isNew_45 rfl ?_
    refine j_aload_n C0 (pc := 46) dX12_isNew_46 rfl ?_
    refine X_gN C0 (pc := 47) f_OM_13_10 rfl dX12_isNew_47 h (fun v4 h => ?_)
    refine j_bipush C0 (pc := 50) dX12_isNew_50 (v := (12 : Int32)) (by decide) ?_
    refine X_iald C0 (pc := 52) dX12_isNew_52 h (fun v5 h => ?_)
    refine j_icmp_ge C0 (pc := 53) (tgt := 86) dX12_isNew_53 (by decide) (fun hc => ?_) (fun hc => ?_)
    · replace h := (X_if h).1 hc
      exact j_J.wq (hk86 v1 v2 M h) (And.intro rfl (And.intro rfl (trivial)))
    · replace h := (X_if h).2 hc
      refine X_join (fun (kj : Nat → Int32 → Int32 → m_M → Option (Int32 × m_M)) => ∀ (p0 : Nat) (p1 : Int32) (p2 : Int32) (M : m_M), m_ok e_I Φ (kj p0 p1 p2 M) → j_J X 3 79 [some (.ref p0), none, some (.int p1)] [.int p2] (0, 0) M) h (fun v6 v7 v8 M1 h => ?_) (fun k79 hk79 h => ?_)
      · refine j_istore_n C0 (pc := 79) dX12_isNew_79 (Nat.le_of_ble_eq_true rfl) ?_
        show j_J X 3 80 [some (.ref v6), some (.int v8), some (.int v7)] [] (0, 0) M1
        refine j_iinc C0 (pc := 80) dX12_isNew_80 (v := v7 + (1 : Int32)) rfl (Nat.le_of_ble_eq_true rfl) (by rfl) ?_
        refine X_let (G := fun w => j_J X 3 83 [some (.ref v6), some (.int v8), some (.int w)] [] (0, 0) M1) h (fun v9 h => ?_)
        refine j_goto C0 (pc := 83) (tgt := 45) dX12_isNew_83 (by decide) ?_
        exact j_J.wq (ih v6 v8 v9 M1 h) (And.intro rfl (And.intro rfl (And.intro rfl (trivial))))
      · refine X_join (fun (kj : Nat → Int32 → m_M → Option (Int32 × m_M)) => ∀ (p0 : Nat) (p1 : Int32) (M : m_M), m_ok e_I Φ (kj p0 p1 M) → j_J X 3 78 [some (.ref p0), none, some (.int p1)] [] (0, 0) M) h (fun v10 v11 M2 h => ?_) (fun k78 hk78 h => ?_)
        · refine j_iconst C0 (pc := 78) dX12_isNew_78 (v := (0 : Int32)) (by decide) ?_
          exact j_J.wq (hk79 v10 v11 (0 : Int32) M2 h) (And.intro rfl (And.intro rfl (trivial)))
        · refine j_iload_n C0 (pc := 56) dX12_isNew_56 rfl ?_
          refine j_if_eq C0 (pc := 57) (tgt := 78) dX12_isNew_57 (by decide) (fun hc => ?_) (fun hc => ?_)
          · replace h := (X_if h).1 hc
            exact j_J.wq (hk78 v1 v3 M h) (And.intro rfl (And.intro rfl (trivial)))
          · replace h := (X_if h).2 hc
            refine j_aload_n C0 (pc := 60) dX12_isNew_60 rfl ?_
            refine X_gN C0 (pc := 61) f_OM_26_10 rfl dX12_isNew_61 h (fun v12 h => ?_)
            refine j_iload_n C0 (pc := 64) dX12_isNew_64 rfl ?_
            refine X_lald C0 (pc := 65) dX12_isNew_65 h (fun v13 h => ?_)
            refine j_aload_n C0 (pc := 66) dX12_isNew_66 rfl ?_
            refine X_gL C0 (pc := 67) f_OM_181_10 rfl dX12_isNew_67 h (fun v14 h => ?_)
            refine j_lcmp C0 (pc := 70) dX12_isNew_70 ?_
            refine j_if_eq C0 (pc := 71) (tgt := 78) dX12_isNew_71 (by decide) (fun hc => ?_) (fun hc => ?_)
            · replace h := (X_if h).1 hc
              exact j_J.wq (hk78 v1 v3 M h) (And.intro rfl (And.intro rfl (trivial)))
            · replace h := (X_if h).2 hc
              refine j_iconst C0 (pc := 74) dX12_isNew_74 (v := (1 : Int32)) (by decide) ?_
              refine j_goto C0 (pc := 75) (tgt := 79) dX12_isNew_75 (by decide) ?_
              exact j_J.wq (hk79 v1 v3 (1 : Int32) M h) (And.intro rfl (And.intro rfl (trivial)))
set_option maxHeartbeats 4000000 in
theorem K_X12_isNew (a0 : Nat) (M : m_M) (Φ : Option Value → m_M → Prop) (h : m_ok e_I Φ (F_X12_isNew a0 M)) : j_Ct yX12_isNew cX12_isNew 3 (some .boolean) 2 0 0 [.ref a0] M Φ := by
  refine j_Ct.of (by decide +kernel) (Nat.le_of_ble_eq_true rfl) fun X C => ?_
  have C0 := C.1
  show j_J X 3 0 [some (.ref a0), none, none] [] (0, 0) M
  unfold F_X12_isNew at h
  refine j_aload_n C0 (pc := 0) dX12_isNew_0 rfl ?_
  refine X_cV C0 (pc := 1) (e' := e_I) (as := []) (rest := []) (s' := fun w => .int w :: []) (g' := (0, 0)) v_OM_286_10 (fun Ψ hΨ => K_X12_isKept a0 M Ψ hΨ) rfl rfl (fun _ => rfl) (by decide) (by decide) rfl (Nat.le_of_ble_eq_true rfl) dX12_isNew_1 h (fun v1 M1 h => ?_)
  refine j_if_eq C0 (pc := 4) (tgt := 13) dX12_isNew_4 (by decide) (fun hc => ?_) (fun hc => ?_)
  · replace h := (X_if h).1 hc
    refine X_join (fun (kj : Nat → Int32 → m_M → Option (Int32 × m_M)) => ∀ (p0 : Nat) (p1 : Int32) (M : m_M), m_ok e_I Φ (kj p0 p1 M) → j_J X 3 42 [some (.ref p0), none, none] [.int p1] (0, 0) M) h (fun v2 v3 M2 h => ?_) (fun k42 hk42 h => ?_)
    · refine j_istore_n C0 (pc := 42) dX12_isNew_42 (Nat.le_of_ble_eq_true rfl) ?_
      show j_J X 3 43 [some (.ref v2), some (.int v3), none] [] (0, 0) M2
      refine j_iconst C0 (pc := 43) dX12_isNew_43 (v := (0 : Int32)) (by decide) ?_
      refine j_istore_n C0 (pc := 44) dX12_isNew_44 (Nat.le_of_ble_eq_true rfl) ?_
      show j_J X 3 45 [some (.ref v2), some (.int v3), some (.int (0 : Int32))] [] (0, 0) M2
      refine X_join (fun (kj : Nat → Int32 → m_M → Option (Int32 × m_M)) => ∀ (p0 : Nat) (p1 : Int32) (M : m_M), m_ok e_I Φ (kj p0 p1 M) → j_J X 3 86 [some (.ref p0), some (.int p1), none] [] (0, 0) M) h (fun v4 v5 M3 h => ?_) (fun k86 hk86 h => ?_)
      · refine X_join (fun (kj : m_M → Option (Int32 × m_M)) => ∀  (M : m_M), m_ok e_I Φ (kj M) → j_J X 3 98 [none, none, none] [] (0, 0) M) h (fun M4 h => ?_) (fun k98 hk98 h => ?_)
        · refine j_iconst C0 (pc := 98) dX12_isNew_98 (v := (1 : Int32)) (by decide) ?_
          refine j_goto C0 (pc := 99) (tgt := 103) dX12_isNew_99 (by decide) ?_
          exact j_zret C rfl (by decide) h dX12_isNew_103 (by decide)
        · refine j_iload_n C0 (pc := 86) dX12_isNew_86 rfl ?_
          refine j_if_ne C0 (pc := 87) (tgt := 98) dX12_isNew_87 (by decide) (fun hc => ?_) (fun hc => ?_)
          · replace h := (X_if h).2 hc
            exact j_J.wq (hk98 M3 h) (trivial)
          · replace h := (X_if h).1 hc
            refine j_aload_n C0 (pc := 90) dX12_isNew_90 rfl ?_
            refine j_iconst C0 (pc := 91) dX12_isNew_91 (v := (3 : Int32)) (by decide) ?_
            refine X_cV C0 (pc := 92) (e' := e_I) (as := [.int (3 : Int32)]) (rest := []) (s' := fun w => .int w :: []) (g' := (0, 0)) v_OM_237_10 (fun Ψ hΨ => K_X12_fails v4 (3 : Int32) M3 Ψ hΨ) rfl rfl (fun _ => rfl) (by decide) (by decide) rfl (Nat.le_of_ble_eq_true rfl) dX12_isNew_92 h (fun v6 M5 h => ?_)
            refine j_if_eq C0 (pc := 95) (tgt := 102) dX12_isNew_95 (by decide) (fun hc => ?_) (fun hc => ?_)
            · replace h := (X_if h).1 hc
              refine j_iconst C0 (pc := 102) dX12_isNew_102 (v := (0 : Int32)) (by decide) ?_
              exact j_zret C rfl (by decide) h dX12_isNew_103 (by decide)
            · replace h := (X_if h).2 hc
              exact j_J.wq (hk98 M5 h) (trivial)
      · exact j_J.wq (L_X12_isNew_45 C hk86 m_FU v2 v3 (0 : Int32) M2 h) (And.intro rfl (And.intro rfl (And.intro rfl (trivial))))
    · refine X_join (fun (kj : Nat → m_M → Option (Int32 × m_M)) => ∀ (p0 : Nat) (M : m_M), m_ok e_I Φ (kj p0 M) → j_J X 3 41 [some (.ref p0), none, none] [] (0, 0) M) h (fun v7 M6 h => ?_) (fun k41 hk41 h => ?_)
      · refine j_iconst C0 (pc := 41) dX12_isNew_41 (v := (0 : Int32)) (by decide) ?_
        exact j_J.wq (hk42 v7 (0 : Int32) M6 h) (And.intro rfl (trivial))
      · refine j_aload_n C0 (pc := 13) dX12_isNew_13 rfl ?_
        refine j_iconst C0 (pc := 14) dX12_isNew_14 (v := (1 : Int32)) (by decide) ?_
        refine X_cV C0 (pc := 15) (e' := e_I) (as := [.int (1 : Int32)]) (rest := []) (s' := fun w => .int w :: []) (g' := (0, 0)) v_OM_290_10 (fun Ψ hΨ => K_X12_thingNamed a0 (1 : Int32) M1 Ψ hΨ) rfl rfl (fun _ => rfl) (by decide) (by decide) rfl (Nat.le_of_ble_eq_true rfl) dX12_isNew_15 h (fun v8 M7 h => ?_)
        refine j_if_ge C0 (pc := 18) (tgt := 41) dX12_isNew_18 (by decide) (fun hc => ?_) (fun hc => ?_)
        · replace h := (X_if h).1 hc
          exact j_J.wq (hk41 a0 M7 h) (And.intro rfl (trivial))
        · replace h := (X_if h).2 hc
          refine j_aload_n C0 (pc := 21) dX12_isNew_21 rfl ?_
          refine j_iconst C0 (pc := 22) dX12_isNew_22 (v := (1 : Int32)) (by decide) ?_
          refine X_cV C0 (pc := 23) (e' := e_I) (as := [.int (1 : Int32)]) (rest := []) (s' := fun w => .int w :: []) (g' := (0, 0)) v_OM_293_10 (fun Ψ hΨ => K_X12_bendNamed a0 (1 : Int32) M7 Ψ hΨ) rfl rfl (fun _ => rfl) (by decide) (by decide) rfl (Nat.le_of_ble_eq_true rfl) dX12_isNew_23 h (fun v9 M8 h => ?_)
          refine j_if_ge C0 (pc := 26) (tgt := 41) dX12_isNew_26 (by decide) (fun hc => ?_) (fun hc => ?_)
          · replace h := (X_if h).1 hc
            exact j_J.wq (hk41 a0 M8 h) (And.intro rfl (trivial))
          · replace h := (X_if h).2 hc
            refine j_aload_n C0 (pc := 29) dX12_isNew_29 rfl ?_
            refine j_iconst C0 (pc := 30) dX12_isNew_30 (v := (1 : Int32)) (by decide) ?_
            refine X_cV C0 (pc := 31) (e' := e_I) (as := [.int (1 : Int32)]) (rest := []) (s' := fun w => .int w :: []) (g' := (0, 0)) v_OM_296_10 (fun Ψ hΨ => K_X12_verbNamed a0 (1 : Int32) M8 Ψ hΨ) rfl rfl (fun _ => rfl) (by decide) (by decide) rfl (Nat.le_of_ble_eq_true rfl) dX12_isNew_31 h (fun v10 M9 h => ?_)
            refine j_if_ge C0 (pc := 34) (tgt := 41) dX12_isNew_34 (by decide) (fun hc => ?_) (fun hc => ?_)
            · replace h := (X_if h).1 hc
              exact j_J.wq (hk41 a0 M9 h) (And.intro rfl (trivial))
            · replace h := (X_if h).2 hc
              refine j_iconst C0 (pc := 37) dX12_isNew_37 (v := (1 : Int32)) (by decide) ?_
              refine j_goto C0 (pc := 38) (tgt := 42) dX12_isNew_38 (by decide) ?_
              exact j_J.wq (hk42 a0 (1 : Int32) M9 h) (And.intro rfl (trivial))
  · replace h := (X_if h).2 hc
    refine j_aload_n C0 (pc := 7) dX12_isNew_7 rfl ?_
    refine j_iconst C0 (pc := 8) dX12_isNew_8 (v := (1 : Int32)) (by decide) ?_
    refine X_cV C0 (pc := 9) (e' := e_I) (as := [.int (1 : Int32)]) (rest := []) (s' := fun w => .int w :: []) (g' := (0, 0)) v_OM_237_10 (fun Ψ hΨ => K_X12_fails a0 (1 : Int32) M1 Ψ hΨ) rfl rfl (fun _ => rfl) (by decide) (by decide) rfl (Nat.le_of_ble_eq_true rfl) dX12_isNew_9 h (fun v11 M10 h => ?_)
    exact j_zret C rfl (by rcases (X_gd h).1 with q | q <;> (rw [q]; rfl)) (X_gd h).2 dX12_isNew_12 (by decide)
theorem dX12_isRest_0 : decode cX12_isRest 0 = .ok (.iconst 0, 1) := by decide +kernel
theorem dX12_isRest_1 : decode cX12_isRest 1 = .ok (.istore_n 1, 1) := by decide +kernel
theorem dX12_isRest_2 : decode cX12_isRest 2 = .ok (.iload_n 1, 1) := by decide +kernel
theorem dX12_isRest_3 : decode cX12_isRest 3 = .ok (.aload_n 0, 1) := by decide +kernel
theorem dX12_isRest_4 : decode cX12_isRest 4 = .ok (.getfield 13, 3) := by decide +kernel
theorem dX12_isRest_7 : decode cX12_isRest 7 = .ok (.iconst 4, 1) := by decide +kernel
theorem dX12_isRest_8 : decode cX12_isRest 8 = .ok (.iaload, 1) := by decide +kernel
theorem dX12_isRest_9 : decode cX12_isRest 9 = .ok (.if_icmp .ge 88, 3) := by decide +kernel
theorem dX12_isRest_12 : decode cX12_isRest 12 = .ok (.aload_n 0, 1) := by decide +kernel
theorem dX12_isRest_13 : decode cX12_isRest 13 = .ok (.getfield 147, 3) := by decide +kernel
theorem dX12_isRest_16 : decode cX12_isRest 16 = .ok (.iload_n 1, 1) := by decide +kernel
theorem dX12_isRest_17 : decode cX12_isRest 17 = .ok (.iaload, 1) := by decide +kernel
theorem dX12_isRest_18 : decode cX12_isRest 18 = .ok (.istore_n 2, 1) := by decide +kernel
theorem dX12_isRest_19 : decode cX12_isRest 19 = .ok (.aload_n 0, 1) := by decide +kernel
theorem dX12_isRest_20 : decode cX12_isRest 20 = .ok (.iload_n 1, 1) := by decide +kernel
theorem dX12_isRest_21 : decode cX12_isRest 21 = .ok (.invokevirtual 549, 3) := by decide +kernel
theorem dX12_isRest_24 : decode cX12_isRest 24 = .ok (.istore_n 3, 1) := by decide +kernel
theorem dX12_isRest_25 : decode cX12_isRest 25 = .ok (.iconst 0, 1) := by decide +kernel
theorem dX12_isRest_26 : decode cX12_isRest 26 = .ok (.istore 4, 2) := by decide +kernel
theorem dX12_isRest_28 : decode cX12_isRest 28 = .ok (.iconst 0, 1) := by decide +kernel
theorem dX12_isRest_29 : decode cX12_isRest 29 = .ok (.istore 5, 2) := by decide +kernel
theorem dX12_isRest_31 : decode cX12_isRest 31 = .ok (.iload 5, 2) := by decide +kernel
theorem dX12_isRest_33 : decode cX12_isRest 33 = .ok (.aload_n 0, 1) := by decide +kernel
theorem dX12_isRest_34 : decode cX12_isRest 34 = .ok (.getfield 13, 3) := by decide +kernel
theorem dX12_isRest_37 : decode cX12_isRest 37 = .ok (.iconst 3, 1) := by decide +kernel
theorem dX12_isRest_38 : decode cX12_isRest 38 = .ok (.iaload, 1) := by decide +kernel
theorem dX12_isRest_39 : decode cX12_isRest 39 = .ok (.if_icmp .gt 38, 3) := by decide +kernel
theorem dX12_isRest_42 : decode cX12_isRest 42 = .ok (.aload_n 0, 1) := by decide +kernel
theorem dX12_isRest_43 : decode cX12_isRest 43 = .ok (.getfield 147, 3) := by decide +kernel
theorem dX12_isRest_46 : decode cX12_isRest 46 = .ok (.iload_n 1, 1) := by decide +kernel
theorem dX12_isRest_47 : decode cX12_isRest 47 = .ok (.iload 5, 2) := by decide +kernel
theorem dX12_isRest_49 : decode cX12_isRest 49 = .ok (.iastore, 1) := by decide +kernel
theorem dX12_isRest_50 : decode cX12_isRest 50 = .ok (.iload 4, 2) := by decide +kernel
theorem dX12_isRest_52 : decode cX12_isRest 52 = .ok (.ifCond .ne 12, 3) := by decide +kernel
theorem dX12_isRest_55 : decode cX12_isRest 55 = .ok (.aload_n 0, 1) := by decide +kernel
theorem dX12_isRest_56 : decode cX12_isRest 56 = .ok (.iload_n 1, 1) := by decide +kernel
theorem dX12_isRest_57 : decode cX12_isRest 57 = .ok (.invokevirtual 549, 3) := by decide +kernel
theorem dX12_isRest_60 : decode cX12_isRest 60 = .ok (.iload_n 3, 1) := by decide +kernel
theorem dX12_isRest_61 : decode cX12_isRest 61 = .ok (.if_icmp .le 7, 3) := by decide +kernel
theorem dX12_isRest_64 : decode cX12_isRest 64 = .ok (.iconst 1, 1) := by decide +kernel
theorem dX12_isRest_65 : decode cX12_isRest 65 = .ok (.goto 4, 3) := by decide +kernel
theorem dX12_isRest_68 : decode cX12_isRest 68 = .ok (.iconst 0, 1) := by decide +kernel
theorem dX12_isRest_69 : decode cX12_isRest 69 = .ok (.istore 4, 2) := by decide +kernel
theorem dX12_isRest_71 : decode cX12_isRest 71 = .ok (.iinc 5 1, 3) := by decide +kernel
theorem dX12_isRest_74 : decode cX12_isRest 74 = .ok (.goto (-43), 3) := by decide +kernel
theorem dX12_isRest_77 : decode cX12_isRest 77 = .ok (.aload_n 0, 1) := by decide +kernel
theorem dX12_isRest_78 : decode cX12_isRest 78 = .ok (.getfield 147, 3) := by decide +kernel
theorem dX12_isRest_81 : decode cX12_isRest 81 = .ok (.iload_n 1, 1) := by decide +kernel
theorem dX12_isRest_82 : decode cX12_isRest 82 = .ok (.iload_n 2, 1) := by decide +kernel
theorem dX12_isRest_83 : decode cX12_isRest 83 = .ok (.iastore, 1) := by decide +kernel
theorem dX12_isRest_84 : decode cX12_isRest 84 = .ok (.iload 4, 2) := by decide +kernel
theorem dX12_isRest_86 : decode cX12_isRest 86 = .ok (.ifCond .eq 5, 3) := by decide +kernel
theorem dX12_isRest_89 : decode cX12_isRest 89 = .ok (.iconst 0, 1) := by decide +kernel
theorem dX12_isRest_90 : decode cX12_isRest 90 = .ok (.ireturn, 1) := by decide +kernel
theorem dX12_isRest_91 : decode cX12_isRest 91 = .ok (.iinc 1 1, 3) := by decide +kernel
theorem dX12_isRest_94 : decode cX12_isRest 94 = .ok (.goto (-92), 3) := by decide +kernel
theorem dX12_isRest_97 : decode cX12_isRest 97 = .ok (.iconst 1, 1) := by decide +kernel
theorem dX12_isRest_98 : decode cX12_isRest 98 = .ok (.ireturn, 1) := by decide +kernel
noncomputable def F_X12_isRest_31 (k77 : Nat → Int32 → Int32 → Int32 → m_M → Option (Int32 × m_M)) : Nat → Nat → Int32 → Int32 → Int32 → Int32 → Int32 → m_M → Option (Int32 × m_M)
  | 0, _, _, _, _, _, _, _ => none
  | n + 1, v1, v2, v3, v4, v5, v6, M =>
    x_gN 10 M v1 10 fun v7 =>
    x_aI 12 M v7 (3 : Int32) fun v8 =>
    if v8 < v6 then (
      k77 v1 v2 v3 v5 M
    ) else
    m_let (fun (v9 : Nat) (v10 : Int32) (v11 : Int32) (v12 : Int32) (v13 : Int32) (v14 : Int32) (M1 : m_M) =>
      m_let (v13 + (1 : Int32)) fun v15 =>
      F_X12_isRest_31 k77 n v9 v10 v11 v12 v14 v15 M1
    ) fun (k69 : Nat → Int32 → Int32 → Int32 → Int32 → Int32 → m_M → Option (Int32 × m_M)) =>
    m_let (fun (v16 : Nat) (v17 : Int32) (v18 : Int32) (v19 : Int32) (v20 : Int32) (M2 : m_M) =>
      k69 v16 v17 v18 v19 v20 (1 : Int32) M2
    ) fun (k64 : Nat → Int32 → Int32 → Int32 → Int32 → m_M → Option (Int32 × m_M)) =>
    x_gN 10 M v1 70 fun v21 =>
    x_sI 12 M v21 v2 v6 fun M3 =>
    if v5 = 0 then (
      x_cV 10 M3 v1 (F_X12_hasBy v1 v2 M3) fun v22 M4 =>
      if v22 ≤ v4 then (
        k69 v1 v2 v3 v4 v6 (0 : Int32) M4
      ) else
      k64 v1 v2 v3 v4 v6 M4
    ) else
    k64 v1 v2 v3 v4 v6 M3
noncomputable def F_X12_isRest_2 : Nat → Nat → Int32 → m_M → Option (Int32 × m_M)
  | 0, _, _, _ => none
  | n + 1, v1, v2, M =>
    x_gN 10 M v1 10 fun v3 =>
    x_aI 12 M v3 (4 : Int32) fun v4 =>
    if v4 ≤ v2 then (
      some ((1 : Int32), M)
    ) else
    x_gN 10 M v1 70 fun v5 =>
    x_aI 12 M v5 v2 fun v6 =>
    x_cV 10 M v1 (F_X12_hasBy v1 v2 M) fun v7 M1 =>
    m_let (fun (v8 : Nat) (v9 : Int32) (v10 : Int32) (v11 : Int32) (M2 : m_M) =>
      x_gN 10 M2 v8 70 fun v12 =>
      x_sI 12 M2 v12 v9 v10 fun M3 =>
      if v11 = 0 then (
        m_let (v9 + (1 : Int32)) fun v13 =>
        F_X12_isRest_2 n v8 v13 M3
      ) else
      some ((0 : Int32), M3)
    ) fun (k77 : Nat → Int32 → Int32 → Int32 → m_M → Option (Int32 × m_M)) =>
    F_X12_isRest_31 k77 m_FU v1 v2 v6 v7 (0 : Int32) (0 : Int32) M1
noncomputable def F_X12_isRest (a0 : Nat) (M : m_M) : Option (Int32 × m_M) :=
  F_X12_isRest_2 m_FU a0 (0 : Int32) M
set_option maxHeartbeats 4000000 in
theorem L_X12_isRest_31 {X : j_X} {Φ : Option Value → m_M → Prop} (C : j_C X yX12_isRest cX12_isRest 6 (some .boolean) 4 0 0 Φ) {k77 : Nat → Int32 → Int32 → Int32 → m_M → Option (Int32 × m_M)} (hk77 : ∀ (p0 : Nat) (p1 : Int32) (p2 : Int32) (p3 : Int32) (M : m_M), m_ok e_I Φ (k77 p0 p1 p2 p3 M) → j_J X 6 77 [some (.ref p0), some (.int p1), some (.int p2), none, some (.int p3), none] [] (0, 0) M) : ∀ (n : Nat) (v1 : Nat) (v2 : Int32) (v3 : Int32) (v4 : Int32) (v5 : Int32) (v6 : Int32) (M : m_M), m_ok e_I Φ (F_X12_isRest_31 k77 n v1 v2 v3 v4 v5 v6 M) → j_J X 6 31 [some (.ref v1), some (.int v2), some (.int v3), some (.int v4), some (.int v5), some (.int v6)] [] (0, 0) M := by
  have C0 := C.1
  intro n
  induction n with
  | zero => intro v1 v2 v3 v4 v5 v6 M h; exact False.elim h
  | succ n ih =>
    intro v1 v2 v3 v4 v5 v6 M h
    rw [F_X12_isRest_31] at h
    refine j_iload C0 (pc := 31) dX12_isRest_31 rfl ?_
    refine j_aload_n C0 (pc := 33) dX12_isRest_33 rfl ?_
    refine X_gN C0 (pc := 34) f_OM_13_10 rfl dX12_isRest_34 h (fun v7 h => ?_)
    refine j_iconst C0 (pc := 37) dX12_isRest_37 (v := (3 : Int32)) (by decide) ?_
    refine X_iald C0 (pc := 38) dX12_isRest_38 h (fun v8 h => ?_)
    refine j_icmp_gt C0 (pc := 39) (tgt := 77) dX12_isRest_39 (by decide) (fun hc => ?_) (fun hc => ?_)
    · replace h := (X_if h).1 hc
      exact j_J.wq (hk77 v1 v2 v3 v5 M h) (And.intro rfl (And.intro rfl (And.intro rfl (And.intro rfl (trivial)))))
    · replace h := (X_if h).2 hc
      refine X_join (fun (kj : Nat → Int32 → Int32 → Int32 → Int32 → Int32 → m_M → Option (Int32 × m_M)) => ∀ (p0 : Nat) (p1 : Int32) (p2 : Int32) (p3 : Int32) (p4 : Int32) (p5 : Int32) (M : m_M), m_ok e_I Φ (kj p0 p1 p2 p3 p4 p5 M) → j_J X 6 69 [some (.ref p0), some (.int p1), some (.int p2), some (.int p3), none, some (.int p4)] [.int p5] (0, 0) M) h (fun v9 v10 v11 v12 v13 v14 M1 h => ?_) (fun k69 hk69 h => ?_)
      · refine j_istore C0 (pc := 69) dX12_isRest_69 (Nat.le_of_ble_eq_true rfl) ?_
        show j_J X 6 71 [some (.ref v9), some (.int v10), some (.int v11), some (.int v12), some (.int v14), some (.int v13)] [] (0, 0) M1
        refine j_iinc C0 (pc := 71) dX12_isRest_71 (v := v13 + (1 : Int32)) rfl (Nat.le_of_ble_eq_true rfl) (by rfl) ?_
        refine X_let (G := fun w => j_J X 6 74 [some (.ref v9), some (.int v10), some (.int v11), some (.int v12), some (.int v14), some (.int w)] [] (0, 0) M1) h (fun v15 h => ?_)
        refine j_goto C0 (pc := 74) (tgt := 31) dX12_isRest_74 (by decide) ?_
        exact j_J.wq (ih v9 v10 v11 v12 v14 v15 M1 h) (And.intro rfl (And.intro rfl (And.intro rfl (And.intro rfl (And.intro rfl (And.intro rfl (trivial)))))))
      · refine X_join (fun (kj : Nat → Int32 → Int32 → Int32 → Int32 → m_M → Option (Int32 × m_M)) => ∀ (p0 : Nat) (p1 : Int32) (p2 : Int32) (p3 : Int32) (p4 : Int32) (M : m_M), m_ok e_I Φ (kj p0 p1 p2 p3 p4 M) → j_J X 6 64 [some (.ref p0), some (.int p1), some (.int p2), some (.int p3), none, some (.int p4)] [] (0, 0) M) h (fun v16 v17 v18 v19 v20 M2 h => ?_) (fun k64 hk64 h => ?_)
        · refine j_iconst C0 (pc := 64) dX12_isRest_64 (v := (1 : Int32)) (by decide) ?_
          refine j_goto C0 (pc := 65) (tgt := 69) dX12_isRest_65 (by decide) ?_
          exact j_J.wq (hk69 v16 v17 v18 v19 v20 (1 : Int32) M2 h) (And.intro rfl (And.intro rfl (And.intro rfl (And.intro rfl (And.intro rfl (trivial))))))
        · refine j_aload_n C0 (pc := 42) dX12_isRest_42 rfl ?_
          refine X_gN C0 (pc := 43) f_OM_147_10 rfl dX12_isRest_43 h (fun v21 h => ?_)
          refine j_iload_n C0 (pc := 46) dX12_isRest_46 rfl ?_
          refine j_iload C0 (pc := 47) dX12_isRest_47 rfl ?_
          refine X_iast C0 (pc := 49) dX12_isRest_49 h (fun M3 h => ?_)
          refine j_iload C0 (pc := 50) dX12_isRest_50 rfl ?_
          refine j_if_ne C0 (pc := 52) (tgt := 64) dX12_isRest_52 (by decide) (fun hc => ?_) (fun hc => ?_)
          · replace h := (X_if h).2 hc
            exact j_J.wq (hk64 v1 v2 v3 v4 v6 M3 h) (And.intro rfl (And.intro rfl (And.intro rfl (And.intro rfl (And.intro rfl (trivial))))))
          · replace h := (X_if h).1 hc
            refine j_aload_n C0 (pc := 55) dX12_isRest_55 rfl ?_
            refine j_iload_n C0 (pc := 56) dX12_isRest_56 rfl ?_
            refine X_cV C0 (pc := 57) (e' := e_I) (as := [.int v2]) (rest := []) (s' := fun w => .int w :: []) (g' := (0, 0)) v_OM_549_10 (fun Ψ hΨ => K_X12_hasBy v1 v2 M3 Ψ hΨ) rfl rfl (fun _ => rfl) (by decide) (by decide) rfl (Nat.le_of_ble_eq_true rfl) dX12_isRest_57 h (fun v22 M4 h => ?_)
            refine j_iload_n C0 (pc := 60) dX12_isRest_60 rfl ?_
            refine j_icmp_le C0 (pc := 61) (tgt := 68) dX12_isRest_61 (by decide) (fun hc => ?_) (fun hc => ?_)
            · replace h := (X_if h).1 hc
              refine j_iconst C0 (pc := 68) dX12_isRest_68 (v := (0 : Int32)) (by decide) ?_
              exact j_J.wq (hk69 v1 v2 v3 v4 v6 (0 : Int32) M4 h) (And.intro rfl (And.intro rfl (And.intro rfl (And.intro rfl (And.intro rfl (trivial))))))
            · replace h := (X_if h).2 hc
              exact j_J.wq (hk64 v1 v2 v3 v4 v6 M4 h) (And.intro rfl (And.intro rfl (And.intro rfl (And.intro rfl (And.intro rfl (trivial))))))
set_option maxHeartbeats 4000000 in
theorem L_X12_isRest_2 {X : j_X} {Φ : Option Value → m_M → Prop} (C : j_C X yX12_isRest cX12_isRest 6 (some .boolean) 4 0 0 Φ) : ∀ (n : Nat) (v1 : Nat) (v2 : Int32) (M : m_M), m_ok e_I Φ (F_X12_isRest_2 n v1 v2 M) → j_J X 6 2 [some (.ref v1), some (.int v2), none, none, none, none] [] (0, 0) M := by
  have C0 := C.1
  intro n
  induction n with
  | zero => intro v1 v2 M h; exact False.elim h
  | succ n ih =>
    intro v1 v2 M h
    rw [F_X12_isRest_2] at h
    refine j_iload_n C0 (pc := 2) dX12_isRest_2 rfl ?_
    refine j_aload_n C0 (pc := 3) dX12_isRest_3 rfl ?_
    refine X_gN C0 (pc := 4) f_OM_13_10 rfl dX12_isRest_4 h (fun v3 h => ?_)
    refine j_iconst C0 (pc := 7) dX12_isRest_7 (v := (4 : Int32)) (by decide) ?_
    refine X_iald C0 (pc := 8) dX12_isRest_8 h (fun v4 h => ?_)
    refine j_icmp_ge C0 (pc := 9) (tgt := 97) dX12_isRest_9 (by decide) (fun hc => ?_) (fun hc => ?_)
    · replace h := (X_if h).1 hc
      refine j_iconst C0 (pc := 97) dX12_isRest_97 (v := (1 : Int32)) (by decide) ?_
      exact j_zret C rfl (by decide) h dX12_isRest_98 (by decide)
    · replace h := (X_if h).2 hc
      refine j_aload_n C0 (pc := 12) dX12_isRest_12 rfl ?_
      refine X_gN C0 (pc := 13) f_OM_147_10 rfl dX12_isRest_13 h (fun v5 h => ?_)
      refine j_iload_n C0 (pc := 16) dX12_isRest_16 rfl ?_
      refine X_iald C0 (pc := 17) dX12_isRest_17 h (fun v6 h => ?_)
      refine j_istore_n C0 (pc := 18) dX12_isRest_18 (Nat.le_of_ble_eq_true rfl) ?_
      show j_J X 6 19 [some (.ref v1), some (.int v2), some (.int v6), none, none, none] [] (0, 0) M
      refine j_aload_n C0 (pc := 19) dX12_isRest_19 rfl ?_
      refine j_iload_n C0 (pc := 20) dX12_isRest_20 rfl ?_
      refine X_cV C0 (pc := 21) (e' := e_I) (as := [.int v2]) (rest := []) (s' := fun w => .int w :: []) (g' := (0, 0)) v_OM_549_10 (fun Ψ hΨ => K_X12_hasBy v1 v2 M Ψ hΨ) rfl rfl (fun _ => rfl) (by decide) (by decide) rfl (Nat.le_of_ble_eq_true rfl) dX12_isRest_21 h (fun v7 M1 h => ?_)
      refine j_istore_n C0 (pc := 24) dX12_isRest_24 (Nat.le_of_ble_eq_true rfl) ?_
      show j_J X 6 25 [some (.ref v1), some (.int v2), some (.int v6), some (.int v7), none, none] [] (0, 0) M1
      refine j_iconst C0 (pc := 25) dX12_isRest_25 (v := (0 : Int32)) (by decide) ?_
      refine j_istore C0 (pc := 26) dX12_isRest_26 (Nat.le_of_ble_eq_true rfl) ?_
      show j_J X 6 28 [some (.ref v1), some (.int v2), some (.int v6), some (.int v7), some (.int (0 : Int32)), none] [] (0, 0) M1
      refine j_iconst C0 (pc := 28) dX12_isRest_28 (v := (0 : Int32)) (by decide) ?_
      refine j_istore C0 (pc := 29) dX12_isRest_29 (Nat.le_of_ble_eq_true rfl) ?_
      show j_J X 6 31 [some (.ref v1), some (.int v2), some (.int v6), some (.int v7), some (.int (0 : Int32)), some (.int (0 : Int32))] [] (0, 0) M1
      refine X_join (fun (kj : Nat → Int32 → Int32 → Int32 → m_M → Option (Int32 × m_M)) => ∀ (p0 : Nat) (p1 : Int32) (p2 : Int32) (p3 : Int32) (M : m_M), m_ok e_I Φ (kj p0 p1 p2 p3 M) → j_J X 6 77 [some (.ref p0), some (.int p1), some (.int p2), none, some (.int p3), none] [] (0, 0) M) h (fun v8 v9 v10 v11 M2 h => ?_) (fun k77 hk77 h => ?_)
      · refine j_aload_n C0 (pc := 77) dX12_isRest_77 rfl ?_
        refine X_gN C0 (pc := 78) f_OM_147_10 rfl dX12_isRest_78 h (fun v12 h => ?_)
        refine j_iload_n C0 (pc := 81) dX12_isRest_81 rfl ?_
        refine j_iload_n C0 (pc := 82) dX12_isRest_82 rfl ?_
        refine X_iast C0 (pc := 83) dX12_isRest_83 h (fun M3 h => ?_)
        refine j_iload C0 (pc := 84) dX12_isRest_84 rfl ?_
        refine j_if_eq C0 (pc := 86) (tgt := 91) dX12_isRest_86 (by decide) (fun hc => ?_) (fun hc => ?_)
        · replace h := (X_if h).1 hc
          refine j_iinc C0 (pc := 91) dX12_isRest_91 (v := v9 + (1 : Int32)) rfl (Nat.le_of_ble_eq_true rfl) (by rfl) ?_
          refine X_let (G := fun w => j_J X 6 94 [some (.ref v8), some (.int w), some (.int v10), none, some (.int v11), none] [] (0, 0) M3) h (fun v13 h => ?_)
          refine j_goto C0 (pc := 94) (tgt := 2) dX12_isRest_94 (by decide) ?_
          exact j_J.wq (ih v8 v13 M3 h) (And.intro rfl (And.intro rfl (trivial)))
        · replace h := (X_if h).2 hc
          refine j_iconst C0 (pc := 89) dX12_isRest_89 (v := (0 : Int32)) (by decide) ?_
          exact j_zret C rfl (by decide) h dX12_isRest_90 (by decide)
      · exact j_J.wq (L_X12_isRest_31 C hk77 m_FU v1 v2 v6 v7 (0 : Int32) (0 : Int32) M1 h) (And.intro rfl (And.intro rfl (And.intro rfl (And.intro rfl (And.intro rfl (And.intro rfl (trivial)))))))
set_option maxHeartbeats 4000000 in
theorem K_X12_isRest (a0 : Nat) (M : m_M) (Φ : Option Value → m_M → Prop) (h : m_ok e_I Φ (F_X12_isRest a0 M)) : j_Ct yX12_isRest cX12_isRest 6 (some .boolean) 4 0 0 [.ref a0] M Φ := by
  refine j_Ct.of (by decide +kernel) (Nat.le_of_ble_eq_true rfl) fun X C => ?_
  have C0 := C.1
  show j_J X 6 0 [some (.ref a0), none, none, none, none, none] [] (0, 0) M
  unfold F_X12_isRest at h
  refine j_iconst C0 (pc := 0) dX12_isRest_0 (v := (0 : Int32)) (by decide) ?_
  refine j_istore_n C0 (pc := 1) dX12_isRest_1 (Nat.le_of_ble_eq_true rfl) ?_
  show j_J X 6 2 [some (.ref a0), some (.int (0 : Int32)), none, none, none, none] [] (0, 0) M
  exact j_J.wq (L_X12_isRest_2 C m_FU a0 (0 : Int32) M h) (And.intro rfl (And.intro rfl (trivial)))
theorem dX12_isThingAt_0 : decode cX12_isThingAt 0 = .ok (.iload_n 1, 1) := by decide +kernel
theorem dX12_isThingAt_1 : decode cX12_isThingAt 1 = .ok (.ifCond .lt 31, 3) := by decide +kernel
theorem dX12_isThingAt_4 : decode cX12_isThingAt 4 = .ok (.iload_n 1, 1) := by decide +kernel
theorem dX12_isThingAt_5 : decode cX12_isThingAt 5 = .ok (.aload_n 0, 1) := by decide +kernel
theorem dX12_isThingAt_6 : decode cX12_isThingAt 6 = .ok (.getfield 13, 3) := by decide +kernel
theorem dX12_isThingAt_9 : decode cX12_isThingAt 9 = .ok (.iconst 1, 1) := by decide +kernel
theorem dX12_isThingAt_10 : decode cX12_isThingAt 10 = .ok (.iaload, 1) := by decide +kernel
theorem dX12_isThingAt_11 : decode cX12_isThingAt 11 = .ok (.if_icmp .ge 21, 3) := by decide +kernel
theorem dX12_isThingAt_14 : decode cX12_isThingAt 14 = .ok (.iload_n 2, 1) := by decide +kernel
theorem dX12_isThingAt_15 : decode cX12_isThingAt 15 = .ok (.ifCond .lt 17, 3) := by decide +kernel
theorem dX12_isThingAt_18 : decode cX12_isThingAt 18 = .ok (.iload_n 2, 1) := by decide +kernel
theorem dX12_isThingAt_19 : decode cX12_isThingAt 19 = .ok (.aload_n 0, 1) := by decide +kernel
theorem dX12_isThingAt_20 : decode cX12_isThingAt 20 = .ok (.getfield 13, 3) := by decide +kernel
theorem dX12_isThingAt_23 : decode cX12_isThingAt 23 = .ok (.iconst 0, 1) := by decide +kernel
theorem dX12_isThingAt_24 : decode cX12_isThingAt 24 = .ok (.iaload, 1) := by decide +kernel
theorem dX12_isThingAt_25 : decode cX12_isThingAt 25 = .ok (.if_icmp .ge 7, 3) := by decide +kernel
theorem dX12_isThingAt_28 : decode cX12_isThingAt 28 = .ok (.iconst 1, 1) := by decide +kernel
theorem dX12_isThingAt_29 : decode cX12_isThingAt 29 = .ok (.goto 4, 3) := by decide +kernel
theorem dX12_isThingAt_32 : decode cX12_isThingAt 32 = .ok (.iconst 0, 1) := by decide +kernel
theorem dX12_isThingAt_33 : decode cX12_isThingAt 33 = .ok (.ireturn, 1) := by decide +kernel
noncomputable def F_X12_isThingAt (a0 : Nat) (a1 : Int32) (a2 : Int32) (M : m_M) : Option (Int32 × m_M) :=
  m_let (fun  (M1 : m_M) =>
    some ((0 : Int32), M1)
  ) fun (k32 : m_M → Option (Int32 × m_M)) =>
  if a1 < 0 then (
    k32 M
  ) else
  x_gN 10 M a0 10 fun v1 =>
  x_aI 12 M v1 (1 : Int32) fun v2 =>
  if v2 ≤ a1 then (
    k32 M
  ) else
  if a2 < 0 then (
    k32 M
  ) else
  x_gN 10 M a0 10 fun v3 =>
  x_aI 12 M v3 (0 : Int32) fun v4 =>
  if v4 ≤ a2 then (
    k32 M
  ) else
  some ((1 : Int32), M)
set_option maxHeartbeats 4000000 in
theorem K_X12_isThingAt (a0 : Nat) (a1 : Int32) (a2 : Int32) (M : m_M) (Φ : Option Value → m_M → Prop) (h : m_ok e_I Φ (F_X12_isThingAt a0 a1 a2 M)) : j_Ct yX12_isThingAt cX12_isThingAt 3 (some .boolean) 1 0 0 [.ref a0, .int a1, .int a2] M Φ := by
  refine j_Ct.of (by decide +kernel) (Nat.le_of_ble_eq_true rfl) fun X C => ?_
  have C0 := C.1
  show j_J X 3 0 [some (.ref a0), some (.int a1), some (.int a2)] [] (0, 0) M
  unfold F_X12_isThingAt at h
  refine X_join (fun (kj : m_M → Option (Int32 × m_M)) => ∀  (M : m_M), m_ok e_I Φ (kj M) → j_J X 3 32 [none, none, none] [] (0, 0) M) h (fun M1 h => ?_) (fun k32 hk32 h => ?_)
  · refine j_iconst C0 (pc := 32) dX12_isThingAt_32 (v := (0 : Int32)) (by decide) ?_
    exact j_zret C rfl (by decide) h dX12_isThingAt_33 (by decide)
  · refine j_iload_n C0 (pc := 0) dX12_isThingAt_0 rfl ?_
    refine j_if_lt C0 (pc := 1) (tgt := 32) dX12_isThingAt_1 (by decide) (fun hc => ?_) (fun hc => ?_)
    · replace h := (X_if h).1 hc
      exact j_J.wq (hk32 M h) (trivial)
    · replace h := (X_if h).2 hc
      refine j_iload_n C0 (pc := 4) dX12_isThingAt_4 rfl ?_
      refine j_aload_n C0 (pc := 5) dX12_isThingAt_5 rfl ?_
      refine X_gN C0 (pc := 6) f_OM_13_10 rfl dX12_isThingAt_6 h (fun v1 h => ?_)
      refine j_iconst C0 (pc := 9) dX12_isThingAt_9 (v := (1 : Int32)) (by decide) ?_
      refine X_iald C0 (pc := 10) dX12_isThingAt_10 h (fun v2 h => ?_)
      refine j_icmp_ge C0 (pc := 11) (tgt := 32) dX12_isThingAt_11 (by decide) (fun hc => ?_) (fun hc => ?_)
      · replace h := (X_if h).1 hc
        exact j_J.wq (hk32 M h) (trivial)
      · replace h := (X_if h).2 hc
        refine j_iload_n C0 (pc := 14) dX12_isThingAt_14 rfl ?_
        refine j_if_lt C0 (pc := 15) (tgt := 32) dX12_isThingAt_15 (by decide) (fun hc => ?_) (fun hc => ?_)
        · replace h := (X_if h).1 hc
          exact j_J.wq (hk32 M h) (trivial)
        · replace h := (X_if h).2 hc
          refine j_iload_n C0 (pc := 18) dX12_isThingAt_18 rfl ?_
          refine j_aload_n C0 (pc := 19) dX12_isThingAt_19 rfl ?_
          refine X_gN C0 (pc := 20) f_OM_13_10 rfl dX12_isThingAt_20 h (fun v3 h => ?_)
          refine j_iconst C0 (pc := 23) dX12_isThingAt_23 (v := (0 : Int32)) (by decide) ?_
          refine X_iald C0 (pc := 24) dX12_isThingAt_24 h (fun v4 h => ?_)
          refine j_icmp_ge C0 (pc := 25) (tgt := 32) dX12_isThingAt_25 (by decide) (fun hc => ?_) (fun hc => ?_)
          · replace h := (X_if h).1 hc
            exact j_J.wq (hk32 M h) (trivial)
          · replace h := (X_if h).2 hc
            refine j_iconst C0 (pc := 28) dX12_isThingAt_28 (v := (1 : Int32)) (by decide) ?_
            refine j_goto C0 (pc := 29) (tgt := 33) dX12_isThingAt_29 (by decide) ?_
            exact j_zret C rfl (by decide) h dX12_isThingAt_33 (by decide)
theorem dX12_joins_0 : decode cX12_joins 0 = .ok (.iconst 0, 1) := by decide +kernel
theorem dX12_joins_1 : decode cX12_joins 1 = .ok (.istore 5, 2) := by decide +kernel
theorem dX12_joins_3 : decode cX12_joins 3 = .ok (.iload 5, 2) := by decide +kernel
theorem dX12_joins_5 : decode cX12_joins 5 = .ok (.aload_n 0, 1) := by decide +kernel
theorem dX12_joins_6 : decode cX12_joins 6 = .ok (.getfield 386, 3) := by decide +kernel
theorem dX12_joins_9 : decode cX12_joins 9 = .ok (.if_icmp .ge 71, 3) := by decide +kernel
theorem dX12_joins_12 : decode cX12_joins 12 = .ok (.aload_n 0, 1) := by decide +kernel
theorem dX12_joins_13 : decode cX12_joins 13 = .ok (.getfield 141, 3) := by decide +kernel
theorem dX12_joins_16 : decode cX12_joins 16 = .ok (.bipush 16, 2) := by decide +kernel
theorem dX12_joins_18 : decode cX12_joins 18 = .ok (.iload_n 2, 1) := by decide +kernel
theorem dX12_joins_19 : decode cX12_joins 19 = .ok (.imul, 1) := by decide +kernel
theorem dX12_joins_20 : decode cX12_joins 20 = .ok (.iload 5, 2) := by decide +kernel
theorem dX12_joins_22 : decode cX12_joins 22 = .ok (.iadd, 1) := by decide +kernel
theorem dX12_joins_23 : decode cX12_joins 23 = .ok (.laload, 1) := by decide +kernel
theorem dX12_joins_24 : decode cX12_joins 24 = .ok (.lstore 6, 2) := by decide +kernel
theorem dX12_joins_26 : decode cX12_joins 26 = .ok (.aload_n 0, 1) := by decide +kernel
theorem dX12_joins_27 : decode cX12_joins 27 = .ok (.getfield 141, 3) := by decide +kernel
theorem dX12_joins_30 : decode cX12_joins 30 = .ok (.bipush 16, 2) := by decide +kernel
theorem dX12_joins_32 : decode cX12_joins 32 = .ok (.iload_n 3, 1) := by decide +kernel
theorem dX12_joins_33 : decode cX12_joins 33 = .ok (.imul, 1) := by decide +kernel
theorem dX12_joins_34 : decode cX12_joins 34 = .ok (.iload 5, 2) := by decide +kernel
theorem dX12_joins_36 : decode cX12_joins 36 = .ok (.iadd, 1) := by decide +kernel
theorem dX12_joins_37 : decode cX12_joins 37 = .ok (.laload, 1) := by decide +kernel
theorem dX12_joins_38 : decode cX12_joins 38 = .ok (.lstore 8, 2) := by decide +kernel
theorem dX12_joins_40 : decode cX12_joins 40 = .ok (.iload_n 1, 1) := by decide +kernel
theorem dX12_joins_41 : decode cX12_joins 41 = .ok (.iconst 1, 1) := by decide +kernel
theorem dX12_joins_42 : decode cX12_joins 42 = .ok (.if_icmp .ne 11, 3) := by decide +kernel
theorem dX12_joins_45 : decode cX12_joins 45 = .ok (.lload 6, 2) := by decide +kernel
theorem dX12_joins_47 : decode cX12_joins 47 = .ok (.lload 8, 2) := by decide +kernel
theorem dX12_joins_49 : decode cX12_joins 49 = .ok (.land, 1) := by decide +kernel
theorem dX12_joins_50 : decode cX12_joins 50 = .ok (.goto 8, 3) := by decide +kernel
theorem dX12_joins_53 : decode cX12_joins 53 = .ok (.lload 6, 2) := by decide +kernel
theorem dX12_joins_55 : decode cX12_joins 55 = .ok (.lload 8, 2) := by decide +kernel
theorem dX12_joins_57 : decode cX12_joins 57 = .ok (.lor, 1) := by decide +kernel
theorem dX12_joins_58 : decode cX12_joins 58 = .ok (.aload_n 0, 1) := by decide +kernel
theorem dX12_joins_59 : decode cX12_joins 59 = .ok (.getfield 111, 3) := by decide +kernel
theorem dX12_joins_62 : decode cX12_joins 62 = .ok (.iload 4, 2) := by decide +kernel
theorem dX12_joins_64 : decode cX12_joins 64 = .ok (.iload 5, 2) := by decide +kernel
theorem dX12_joins_66 : decode cX12_joins 66 = .ok (.iadd, 1) := by decide +kernel
theorem dX12_joins_67 : decode cX12_joins 67 = .ok (.laload, 1) := by decide +kernel
theorem dX12_joins_68 : decode cX12_joins 68 = .ok (.lcmp, 1) := by decide +kernel
theorem dX12_joins_69 : decode cX12_joins 69 = .ok (.ifCond .eq 5, 3) := by decide +kernel
theorem dX12_joins_72 : decode cX12_joins 72 = .ok (.iconst 0, 1) := by decide +kernel
theorem dX12_joins_73 : decode cX12_joins 73 = .ok (.ireturn, 1) := by decide +kernel
theorem dX12_joins_74 : decode cX12_joins 74 = .ok (.iinc 5 1, 3) := by decide +kernel
theorem dX12_joins_77 : decode cX12_joins 77 = .ok (.goto (-74), 3) := by decide +kernel
theorem dX12_joins_80 : decode cX12_joins 80 = .ok (.iconst 1, 1) := by decide +kernel
theorem dX12_joins_81 : decode cX12_joins 81 = .ok (.ireturn, 1) := by decide +kernel
noncomputable def F_X12_joins_3 : Nat → Nat → Int32 → Int32 → Int32 → Int32 → Int32 → m_M → Option (Int32 × m_M)
  | 0, _, _, _, _, _, _, _ => none
  | n + 1, v1, v2, v3, v4, v5, v6, M =>
    x_gI 10 M v1 43 fun v7 =>
    if v7 ≤ v6 then (
      some ((1 : Int32), M)
    ) else
    m_let (fun (v8 : Nat) (v9 : Int32) (v10 : Int32) (v11 : Int32) (v12 : Int32) (v13 : Int32) (v14 : Int64) (M1 : m_M) =>
      x_gN 10 M1 v8 54 fun v15 =>
      x_aL M1 v15 (v12 + v13) fun v16 =>
      if (lg_cmp v14 v16) = 0 then (
        m_let (v13 + (1 : Int32)) fun v17 =>
        F_X12_joins_3 n v8 v9 v10 v11 v12 v17 M1
      ) else
      some ((0 : Int32), M1)
    ) fun (k58 : Nat → Int32 → Int32 → Int32 → Int32 → Int32 → Int64 → m_M → Option (Int32 × m_M)) =>
    x_gN 10 M v1 64 fun v18 =>
    x_aL M v18 (((16 : Int32) * v3) + v6) fun v19 =>
    x_gN 10 M v1 64 fun v20 =>
    x_aL M v20 (((16 : Int32) * v4) + v6) fun v21 =>
    if v2 = (1 : Int32) then (
      k58 v1 v2 v3 v4 v5 v6 (v19 &&& v21) M
    ) else
    k58 v1 v2 v3 v4 v5 v6 (v19 ||| v21) M
noncomputable def F_X12_joins (a0 : Nat) (a1 : Int32) (a2 : Int32) (a3 : Int32) (a4 : Int32) (M : m_M) : Option (Int32 × m_M) :=
  F_X12_joins_3 m_FU a0 a1 a2 a3 a4 (0 : Int32) M
set_option maxHeartbeats 4000000 in
theorem L_X12_joins_3 {X : j_X} {Φ : Option Value → m_M → Prop} (C : j_C X yX12_joins cX12_joins 10 (some .boolean) 1 0 0 Φ) : ∀ (n : Nat) (v1 : Nat) (v2 : Int32) (v3 : Int32) (v4 : Int32) (v5 : Int32) (v6 : Int32) (M : m_M), m_ok e_I Φ (F_X12_joins_3 n v1 v2 v3 v4 v5 v6 M) → j_J X 10 3 [some (.ref v1), some (.int v2), some (.int v3), some (.int v4), some (.int v5), some (.int v6), none, none, none, none] [] (0, 0) M := by
  have C0 := C.1
  intro n
  induction n with
  | zero => intro v1 v2 v3 v4 v5 v6 M h; exact False.elim h
  | succ n ih =>
    intro v1 v2 v3 v4 v5 v6 M h
    rw [F_X12_joins_3] at h
    refine j_iload C0 (pc := 3) dX12_joins_3 rfl ?_
    refine j_aload_n C0 (pc := 5) dX12_joins_5 rfl ?_
    refine X_gI C0 (pc := 6) f_OM_386_10 rfl dX12_joins_6 h (fun v7 h => ?_)
    refine j_icmp_ge C0 (pc := 9) (tgt := 80) dX12_joins_9 (by decide) (fun hc => ?_) (fun hc => ?_)
    · replace h := (X_if h).1 hc
      refine j_iconst C0 (pc := 80) dX12_joins_80 (v := (1 : Int32)) (by decide) ?_
      exact j_zret C rfl (by decide) h dX12_joins_81 (by decide)
    · replace h := (X_if h).2 hc
      refine X_join (fun (kj : Nat → Int32 → Int32 → Int32 → Int32 → Int32 → Int64 → m_M → Option (Int32 × m_M)) => ∀ (p0 : Nat) (p1 : Int32) (p2 : Int32) (p3 : Int32) (p4 : Int32) (p5 : Int32) (p6 : Int64) (M : m_M), m_ok e_I Φ (kj p0 p1 p2 p3 p4 p5 p6 M) → j_J X 10 58 [some (.ref p0), some (.int p1), some (.int p2), some (.int p3), some (.int p4), some (.int p5), none, none, none, none] [.long p6] (0, 0) M) h (fun v8 v9 v10 v11 v12 v13 v14 M1 h => ?_) (fun k58 hk58 h => ?_)
      · refine j_aload_n C0 (pc := 58) dX12_joins_58 rfl ?_
        refine X_gN C0 (pc := 59) f_OM_111_10 rfl dX12_joins_59 h (fun v15 h => ?_)
        refine j_iload C0 (pc := 62) dX12_joins_62 rfl ?_
        refine j_iload C0 (pc := 64) dX12_joins_64 rfl ?_
        refine j_iadd C0 (pc := 66) dX12_joins_66 ?_
        refine X_lald C0 (pc := 67) dX12_joins_67 h (fun v16 h => ?_)
        refine j_lcmp C0 (pc := 68) dX12_joins_68 ?_
        refine j_if_eq C0 (pc := 69) (tgt := 74) dX12_joins_69 (by decide) (fun hc => ?_) (fun hc => ?_)
        · replace h := (X_if h).1 hc
          refine j_iinc C0 (pc := 74) dX12_joins_74 (v := v13 + (1 : Int32)) rfl (Nat.le_of_ble_eq_true rfl) (by rfl) ?_
          refine X_let (G := fun w => j_J X 10 77 [some (.ref v8), some (.int v9), some (.int v10), some (.int v11), some (.int v12), some (.int w), none, none, none, none] [] (0, 0) M1) h (fun v17 h => ?_)
          refine j_goto C0 (pc := 77) (tgt := 3) dX12_joins_77 (by decide) ?_
          exact j_J.wq (ih v8 v9 v10 v11 v12 v17 M1 h) (And.intro rfl (And.intro rfl (And.intro rfl (And.intro rfl (And.intro rfl (And.intro rfl (trivial)))))))
        · replace h := (X_if h).2 hc
          refine j_iconst C0 (pc := 72) dX12_joins_72 (v := (0 : Int32)) (by decide) ?_
          exact j_zret C rfl (by decide) h dX12_joins_73 (by decide)
      · refine j_aload_n C0 (pc := 12) dX12_joins_12 rfl ?_
        refine X_gN C0 (pc := 13) f_OM_141_10 rfl dX12_joins_13 h (fun v18 h => ?_)
        refine j_bipush C0 (pc := 16) dX12_joins_16 (v := (16 : Int32)) (by decide) ?_
        refine j_iload_n C0 (pc := 18) dX12_joins_18 rfl ?_
        refine j_imul C0 (pc := 19) dX12_joins_19 ?_
        refine j_iload C0 (pc := 20) dX12_joins_20 rfl ?_
        refine j_iadd C0 (pc := 22) dX12_joins_22 ?_
        refine X_lald C0 (pc := 23) dX12_joins_23 h (fun v19 h => ?_)
        refine j_lstore C0 (pc := 24) dX12_joins_24 (Nat.le_of_ble_eq_true rfl) ?_
        show j_J X 10 26 [some (.ref v1), some (.int v2), some (.int v3), some (.int v4), some (.int v5), some (.int v6), some (.long v19), none, none, none] [] (0, 0) M
        refine j_aload_n C0 (pc := 26) dX12_joins_26 rfl ?_
        refine X_gN C0 (pc := 27) f_OM_141_10 rfl dX12_joins_27 h (fun v20 h => ?_)
        refine j_bipush C0 (pc := 30) dX12_joins_30 (v := (16 : Int32)) (by decide) ?_
        refine j_iload_n C0 (pc := 32) dX12_joins_32 rfl ?_
        refine j_imul C0 (pc := 33) dX12_joins_33 ?_
        refine j_iload C0 (pc := 34) dX12_joins_34 rfl ?_
        refine j_iadd C0 (pc := 36) dX12_joins_36 ?_
        refine X_lald C0 (pc := 37) dX12_joins_37 h (fun v21 h => ?_)
        refine j_lstore C0 (pc := 38) dX12_joins_38 (Nat.le_of_ble_eq_true rfl) ?_
        show j_J X 10 40 [some (.ref v1), some (.int v2), some (.int v3), some (.int v4), some (.int v5), some (.int v6), some (.long v19), none, some (.long v21), none] [] (0, 0) M
        refine j_iload_n C0 (pc := 40) dX12_joins_40 rfl ?_
        refine j_iconst C0 (pc := 41) dX12_joins_41 (v := (1 : Int32)) (by decide) ?_
        refine j_icmp_ne C0 (pc := 42) (tgt := 53) dX12_joins_42 (by decide) (fun hc => ?_) (fun hc => ?_)
        · replace h := (X_if h).2 hc
          refine j_lload C0 (pc := 53) dX12_joins_53 rfl ?_
          refine j_lload C0 (pc := 55) dX12_joins_55 rfl ?_
          refine j_lor C0 (pc := 57) dX12_joins_57 ?_
          exact j_J.wq (hk58 v1 v2 v3 v4 v5 v6 (v19 ||| v21) M h) (And.intro rfl (And.intro rfl (And.intro rfl (And.intro rfl (And.intro rfl (And.intro rfl (trivial)))))))
        · replace h := (X_if h).1 hc
          refine j_lload C0 (pc := 45) dX12_joins_45 rfl ?_
          refine j_lload C0 (pc := 47) dX12_joins_47 rfl ?_
          refine j_land C0 (pc := 49) dX12_joins_49 ?_
          refine j_goto C0 (pc := 50) (tgt := 58) dX12_joins_50 (by decide) ?_
          exact j_J.wq (hk58 v1 v2 v3 v4 v5 v6 (v19 &&& v21) M h) (And.intro rfl (And.intro rfl (And.intro rfl (And.intro rfl (And.intro rfl (And.intro rfl (trivial)))))))
set_option maxHeartbeats 4000000 in
theorem K_X12_joins (a0 : Nat) (a1 : Int32) (a2 : Int32) (a3 : Int32) (a4 : Int32) (M : m_M) (Φ : Option Value → m_M → Prop) (h : m_ok e_I Φ (F_X12_joins a0 a1 a2 a3 a4 M)) : j_Ct yX12_joins cX12_joins 10 (some .boolean) 1 0 0 [.ref a0, .int a1, .int a2, .int a3, .int a4] M Φ := by
  refine j_Ct.of (by decide +kernel) (Nat.le_of_ble_eq_true rfl) fun X C => ?_
  have C0 := C.1
  show j_J X 10 0 [some (.ref a0), some (.int a1), some (.int a2), some (.int a3), some (.int a4), none, none, none, none, none] [] (0, 0) M
  unfold F_X12_joins at h
  refine j_iconst C0 (pc := 0) dX12_joins_0 (v := (0 : Int32)) (by decide) ?_
  refine j_istore C0 (pc := 1) dX12_joins_1 (Nat.le_of_ble_eq_true rfl) ?_
  show j_J X 10 3 [some (.ref a0), some (.int a1), some (.int a2), some (.int a3), some (.int a4), some (.int (0 : Int32)), none, none, none, none] [] (0, 0) M
  exact j_J.wq (L_X12_joins_3 C m_FU a0 a1 a2 a3 a4 (0 : Int32) M h) (And.intro rfl (And.intro rfl (And.intro rfl (And.intro rfl (And.intro rfl (And.intro rfl (trivial)))))))
theorem dX12_movesRow_0 : decode cX12_movesRow 0 = .ok (.iconst 0, 1) := by decide +kernel
theorem dX12_movesRow_1 : decode cX12_movesRow 1 = .ok (.istore 4, 2) := by decide +kernel
theorem dX12_movesRow_3 : decode cX12_movesRow 3 = .ok (.iload 4, 2) := by decide +kernel
theorem dX12_movesRow_5 : decode cX12_movesRow 5 = .ok (.iload_n 1, 1) := by decide +kernel
theorem dX12_movesRow_6 : decode cX12_movesRow 6 = .ok (.if_icmp .ge 25, 3) := by decide +kernel
theorem dX12_movesRow_9 : decode cX12_movesRow 9 = .ok (.aload_n 0, 1) := by decide +kernel
theorem dX12_movesRow_10 : decode cX12_movesRow 10 = .ok (.iload_n 1, 1) := by decide +kernel
theorem dX12_movesRow_11 : decode cX12_movesRow 11 = .ok (.iload_n 3, 1) := by decide +kernel
theorem dX12_movesRow_12 : decode cX12_movesRow 12 = .ok (.imul, 1) := by decide +kernel
theorem dX12_movesRow_13 : decode cX12_movesRow 13 = .ok (.iload 4, 2) := by decide +kernel
theorem dX12_movesRow_15 : decode cX12_movesRow 15 = .ok (.iadd, 1) := by decide +kernel
theorem dX12_movesRow_16 : decode cX12_movesRow 16 = .ok (.aload_n 0, 1) := by decide +kernel
theorem dX12_movesRow_17 : decode cX12_movesRow 17 = .ok (.iload_n 1, 1) := by decide +kernel
theorem dX12_movesRow_18 : decode cX12_movesRow 18 = .ok (.iload_n 2, 1) := by decide +kernel
theorem dX12_movesRow_19 : decode cX12_movesRow 19 = .ok (.imul, 1) := by decide +kernel
theorem dX12_movesRow_20 : decode cX12_movesRow 20 = .ok (.iload 4, 2) := by decide +kernel
theorem dX12_movesRow_22 : decode cX12_movesRow 22 = .ok (.iadd, 1) := by decide +kernel
theorem dX12_movesRow_23 : decode cX12_movesRow 23 = .ok (.laload, 1) := by decide +kernel
theorem dX12_movesRow_24 : decode cX12_movesRow 24 = .ok (.lastore, 1) := by decide +kernel
theorem dX12_movesRow_25 : decode cX12_movesRow 25 = .ok (.iinc 4 1, 3) := by decide +kernel
theorem dX12_movesRow_28 : decode cX12_movesRow 28 = .ok (.goto (-25), 3) := by decide +kernel
theorem dX12_movesRow_31 : decode cX12_movesRow 31 = .ok (.return_, 1) := by decide +kernel
noncomputable def F_X12_movesRow_3 : Nat → Nat → Int32 → Int32 → Int32 → Int32 → m_M → Option (Unit × m_M)
  | 0, _, _, _, _, _, _ => none
  | n + 1, v1, v2, v3, v4, v5, M =>
    if v2 ≤ v5 then (
      some ((), M)
    ) else
    x_aL M v1 ((v2 * v3) + v5) fun v6 =>
    x_sL M v1 ((v2 * v4) + v5) v6 fun M1 =>
    m_let (v5 + (1 : Int32)) fun v7 =>
    F_X12_movesRow_3 n v1 v2 v3 v4 v7 M1
noncomputable def F_X12_movesRow (a1 : Nat) (a2 : Int32) (a3 : Int32) (a4 : Int32) (M : m_M) : Option (Unit × m_M) :=
  F_X12_movesRow_3 m_FU a1 a2 a3 a4 (0 : Int32) M
set_option maxHeartbeats 4000000 in
theorem L_X12_movesRow_3 {X : j_X} {Φ : Option Value → m_M → Prop} (C : j_C X yX12_movesRow cX12_movesRow 5 none 1 0 0 Φ) : ∀ (n : Nat) (v1 : Nat) (v2 : Int32) (v3 : Int32) (v4 : Int32) (v5 : Int32) (M : m_M), m_ok e_V Φ (F_X12_movesRow_3 n v1 v2 v3 v4 v5 M) → j_J X 5 3 [some (.ref v1), some (.int v2), some (.int v3), some (.int v4), some (.int v5)] [] (0, 0) M := by
  have C0 := C.1
  intro n
  induction n with
  | zero => intro v1 v2 v3 v4 v5 M h; exact False.elim h
  | succ n ih =>
    intro v1 v2 v3 v4 v5 M h
    rw [F_X12_movesRow_3] at h
    refine j_iload C0 (pc := 3) dX12_movesRow_3 rfl ?_
    refine j_iload_n C0 (pc := 5) dX12_movesRow_5 rfl ?_
    refine j_icmp_ge C0 (pc := 6) (tgt := 31) dX12_movesRow_6 (by decide) (fun hc => ?_) (fun hc => ?_)
    · replace h := (X_if h).1 hc
      exact j_vret C rfl h dX12_movesRow_31 (by decide)
    · replace h := (X_if h).2 hc
      refine j_aload_n C0 (pc := 9) dX12_movesRow_9 rfl ?_
      refine j_iload_n C0 (pc := 10) dX12_movesRow_10 rfl ?_
      refine j_iload_n C0 (pc := 11) dX12_movesRow_11 rfl ?_
      refine j_imul C0 (pc := 12) dX12_movesRow_12 ?_
      refine j_iload C0 (pc := 13) dX12_movesRow_13 rfl ?_
      refine j_iadd C0 (pc := 15) dX12_movesRow_15 ?_
      refine j_aload_n C0 (pc := 16) dX12_movesRow_16 rfl ?_
      refine j_iload_n C0 (pc := 17) dX12_movesRow_17 rfl ?_
      refine j_iload_n C0 (pc := 18) dX12_movesRow_18 rfl ?_
      refine j_imul C0 (pc := 19) dX12_movesRow_19 ?_
      refine j_iload C0 (pc := 20) dX12_movesRow_20 rfl ?_
      refine j_iadd C0 (pc := 22) dX12_movesRow_22 ?_
      refine X_lald C0 (pc := 23) dX12_movesRow_23 h (fun v6 h => ?_)
      refine X_last C0 (pc := 24) dX12_movesRow_24 h (fun M1 h => ?_)
      refine j_iinc C0 (pc := 25) dX12_movesRow_25 (v := v5 + (1 : Int32)) rfl (Nat.le_of_ble_eq_true rfl) (by rfl) ?_
      refine X_let (G := fun w => j_J X 5 28 [some (.ref v1), some (.int v2), some (.int v3), some (.int v4), some (.int w)] [] (0, 0) M1) h (fun v7 h => ?_)
      refine j_goto C0 (pc := 28) (tgt := 3) dX12_movesRow_28 (by decide) ?_
      exact j_J.wq (ih v1 v2 v3 v4 v7 M1 h) (And.intro rfl (And.intro rfl (And.intro rfl (And.intro rfl (And.intro rfl (trivial))))))
set_option maxHeartbeats 4000000 in
theorem K_X12_movesRow (a1 : Nat) (a2 : Int32) (a3 : Int32) (a4 : Int32) (M : m_M) (Φ : Option Value → m_M → Prop) (h : m_ok e_V Φ (F_X12_movesRow a1 a2 a3 a4 M)) : j_Ct yX12_movesRow cX12_movesRow 5 none 1 0 0 [.ref a1, .int a2, .int a3, .int a4] M Φ := by
  refine j_Ct.of (by decide +kernel) (Nat.le_of_ble_eq_true rfl) fun X C => ?_
  have C0 := C.1
  show j_J X 5 0 [some (.ref a1), some (.int a2), some (.int a3), some (.int a4), none] [] (0, 0) M
  unfold F_X12_movesRow at h
  refine j_iconst C0 (pc := 0) dX12_movesRow_0 (v := (0 : Int32)) (by decide) ?_
  refine j_istore C0 (pc := 1) dX12_movesRow_1 (Nat.le_of_ble_eq_true rfl) ?_
  show j_J X 5 3 [some (.ref a1), some (.int a2), some (.int a3), some (.int a4), some (.int (0 : Int32))] [] (0, 0) M
  exact j_J.wq (L_X12_movesRow_3 C m_FU a1 a2 a3 a4 (0 : Int32) M h) (And.intro rfl (And.intro rfl (And.intro rfl (And.intro rfl (And.intro rfl (trivial))))))
theorem dX12_movesInts_0 : decode cX12_movesInts 0 = .ok (.iconst 0, 1) := by decide +kernel
theorem dX12_movesInts_1 : decode cX12_movesInts 1 = .ok (.istore 4, 2) := by decide +kernel
theorem dX12_movesInts_3 : decode cX12_movesInts 3 = .ok (.iload 4, 2) := by decide +kernel
theorem dX12_movesInts_5 : decode cX12_movesInts 5 = .ok (.iload_n 1, 1) := by decide +kernel
theorem dX12_movesInts_6 : decode cX12_movesInts 6 = .ok (.if_icmp .ge 25, 3) := by decide +kernel
theorem dX12_movesInts_9 : decode cX12_movesInts 9 = .ok (.aload_n 0, 1) := by decide +kernel
theorem dX12_movesInts_10 : decode cX12_movesInts 10 = .ok (.iload_n 1, 1) := by decide +kernel
theorem dX12_movesInts_11 : decode cX12_movesInts 11 = .ok (.iload_n 3, 1) := by decide +kernel
theorem dX12_movesInts_12 : decode cX12_movesInts 12 = .ok (.imul, 1) := by decide +kernel
theorem dX12_movesInts_13 : decode cX12_movesInts 13 = .ok (.iload 4, 2) := by decide +kernel
theorem dX12_movesInts_15 : decode cX12_movesInts 15 = .ok (.iadd, 1) := by decide +kernel
theorem dX12_movesInts_16 : decode cX12_movesInts 16 = .ok (.aload_n 0, 1) := by decide +kernel
theorem dX12_movesInts_17 : decode cX12_movesInts 17 = .ok (.iload_n 1, 1) := by decide +kernel
theorem dX12_movesInts_18 : decode cX12_movesInts 18 = .ok (.iload_n 2, 1) := by decide +kernel
theorem dX12_movesInts_19 : decode cX12_movesInts 19 = .ok (.imul, 1) := by decide +kernel
theorem dX12_movesInts_20 : decode cX12_movesInts 20 = .ok (.iload 4, 2) := by decide +kernel
theorem dX12_movesInts_22 : decode cX12_movesInts 22 = .ok (.iadd, 1) := by decide +kernel
theorem dX12_movesInts_23 : decode cX12_movesInts 23 = .ok (.iaload, 1) := by decide +kernel
theorem dX12_movesInts_24 : decode cX12_movesInts 24 = .ok (.iastore, 1) := by decide +kernel
theorem dX12_movesInts_25 : decode cX12_movesInts 25 = .ok (.iinc 4 1, 3) := by decide +kernel
theorem dX12_movesInts_28 : decode cX12_movesInts 28 = .ok (.goto (-25), 3) := by decide +kernel
theorem dX12_movesInts_31 : decode cX12_movesInts 31 = .ok (.return_, 1) := by decide +kernel
noncomputable def F_X12_movesInts_3 : Nat → Nat → Int32 → Int32 → Int32 → Int32 → m_M → Option (Unit × m_M)
  | 0, _, _, _, _, _, _ => none
  | n + 1, v1, v2, v3, v4, v5, M =>
    if v2 ≤ v5 then (
      some ((), M)
    ) else
    x_aI 12 M v1 ((v2 * v3) + v5) fun v6 =>
    x_sI 12 M v1 ((v2 * v4) + v5) v6 fun M1 =>
    m_let (v5 + (1 : Int32)) fun v7 =>
    F_X12_movesInts_3 n v1 v2 v3 v4 v7 M1
noncomputable def F_X12_movesInts (a1 : Nat) (a2 : Int32) (a3 : Int32) (a4 : Int32) (M : m_M) : Option (Unit × m_M) :=
  F_X12_movesInts_3 m_FU a1 a2 a3 a4 (0 : Int32) M
set_option maxHeartbeats 4000000 in
theorem L_X12_movesInts_3 {X : j_X} {Φ : Option Value → m_M → Prop} (C : j_C X yX12_movesInts cX12_movesInts 5 none 1 0 0 Φ) : ∀ (n : Nat) (v1 : Nat) (v2 : Int32) (v3 : Int32) (v4 : Int32) (v5 : Int32) (M : m_M), m_ok e_V Φ (F_X12_movesInts_3 n v1 v2 v3 v4 v5 M) → j_J X 5 3 [some (.ref v1), some (.int v2), some (.int v3), some (.int v4), some (.int v5)] [] (0, 0) M := by
  have C0 := C.1
  intro n
  induction n with
  | zero => intro v1 v2 v3 v4 v5 M h; exact False.elim h
  | succ n ih =>
    intro v1 v2 v3 v4 v5 M h
    rw [F_X12_movesInts_3] at h
    refine j_iload C0 (pc := 3) dX12_movesInts_3 rfl ?_
    refine j_iload_n C0 (pc := 5) dX12_movesInts_5 rfl ?_
    refine j_icmp_ge C0 (pc := 6) (tgt := 31) dX12_movesInts_6 (by decide) (fun hc => ?_) (fun hc => ?_)
    · replace h := (X_if h).1 hc
      exact j_vret C rfl h dX12_movesInts_31 (by decide)
    · replace h := (X_if h).2 hc
      refine j_aload_n C0 (pc := 9) dX12_movesInts_9 rfl ?_
      refine j_iload_n C0 (pc := 10) dX12_movesInts_10 rfl ?_
      refine j_iload_n C0 (pc := 11) dX12_movesInts_11 rfl ?_
      refine j_imul C0 (pc := 12) dX12_movesInts_12 ?_
      refine j_iload C0 (pc := 13) dX12_movesInts_13 rfl ?_
      refine j_iadd C0 (pc := 15) dX12_movesInts_15 ?_
      refine j_aload_n C0 (pc := 16) dX12_movesInts_16 rfl ?_
      refine j_iload_n C0 (pc := 17) dX12_movesInts_17 rfl ?_
      refine j_iload_n C0 (pc := 18) dX12_movesInts_18 rfl ?_
      refine j_imul C0 (pc := 19) dX12_movesInts_19 ?_
      refine j_iload C0 (pc := 20) dX12_movesInts_20 rfl ?_
      refine j_iadd C0 (pc := 22) dX12_movesInts_22 ?_
      refine X_iald C0 (pc := 23) dX12_movesInts_23 h (fun v6 h => ?_)
      refine X_iast C0 (pc := 24) dX12_movesInts_24 h (fun M1 h => ?_)
      refine j_iinc C0 (pc := 25) dX12_movesInts_25 (v := v5 + (1 : Int32)) rfl (Nat.le_of_ble_eq_true rfl) (by rfl) ?_
      refine X_let (G := fun w => j_J X 5 28 [some (.ref v1), some (.int v2), some (.int v3), some (.int v4), some (.int w)] [] (0, 0) M1) h (fun v7 h => ?_)
      refine j_goto C0 (pc := 28) (tgt := 3) dX12_movesInts_28 (by decide) ?_
      exact j_J.wq (ih v1 v2 v3 v4 v7 M1 h) (And.intro rfl (And.intro rfl (And.intro rfl (And.intro rfl (And.intro rfl (trivial))))))
set_option maxHeartbeats 4000000 in
theorem K_X12_movesInts (a1 : Nat) (a2 : Int32) (a3 : Int32) (a4 : Int32) (M : m_M) (Φ : Option Value → m_M → Prop) (h : m_ok e_V Φ (F_X12_movesInts a1 a2 a3 a4 M)) : j_Ct yX12_movesInts cX12_movesInts 5 none 1 0 0 [.ref a1, .int a2, .int a3, .int a4] M Φ := by
  refine j_Ct.of (by decide +kernel) (Nat.le_of_ble_eq_true rfl) fun X C => ?_
  have C0 := C.1
  show j_J X 5 0 [some (.ref a1), some (.int a2), some (.int a3), some (.int a4), none] [] (0, 0) M
  unfold F_X12_movesInts at h
  refine j_iconst C0 (pc := 0) dX12_movesInts_0 (v := (0 : Int32)) (by decide) ?_
  refine j_istore C0 (pc := 1) dX12_movesInts_1 (Nat.le_of_ble_eq_true rfl) ?_
  show j_J X 5 3 [some (.ref a1), some (.int a2), some (.int a3), some (.int a4), some (.int (0 : Int32))] [] (0, 0) M
  exact j_J.wq (L_X12_movesInts_3 C m_FU a1 a2 a3 a4 (0 : Int32) M h) (And.intro rfl (And.intro rfl (And.intro rfl (And.intro rfl (And.intro rfl (trivial))))))
theorem dX12_laysTold_0 : decode cX12_laysTold 0 = .ok (.aload_n 0, 1) := by decide +kernel
theorem dX12_laysTold_1 : decode cX12_laysTold 1 = .ok (.getfield 93, 3) := by decide +kernel
theorem dX12_laysTold_4 : decode cX12_laysTold 4 = .ok (.sipush 192, 3) := by decide +kernel
theorem dX12_laysTold_7 : decode cX12_laysTold 7 = .ok (.iload_n 1, 1) := by decide +kernel
theorem dX12_laysTold_8 : decode cX12_laysTold 8 = .ok (.iload_n 2, 1) := by decide +kernel
theorem dX12_laysTold_9 : decode cX12_laysTold 9 = .ok (.invokestatic 412, 3) := by decide +kernel
theorem dX12_laysTold_12 : decode cX12_laysTold 12 = .ok (.aload_n 0, 1) := by decide +kernel
theorem dX12_laysTold_13 : decode cX12_laysTold 13 = .ok (.getfield 96, 3) := by decide +kernel
theorem dX12_laysTold_16 : decode cX12_laysTold 16 = .ok (.bipush 12, 2) := by decide +kernel
theorem dX12_laysTold_18 : decode cX12_laysTold 18 = .ok (.iload_n 1, 1) := by decide +kernel
theorem dX12_laysTold_19 : decode cX12_laysTold 19 = .ok (.iload_n 2, 1) := by decide +kernel
theorem dX12_laysTold_20 : decode cX12_laysTold 20 = .ok (.invokestatic 416, 3) := by decide +kernel
theorem dX12_laysTold_23 : decode cX12_laysTold 23 = .ok (.aload_n 0, 1) := by decide +kernel
theorem dX12_laysTold_24 : decode cX12_laysTold 24 = .ok (.getfield 99, 3) := by decide +kernel
theorem dX12_laysTold_27 : decode cX12_laysTold 27 = .ok (.bipush 64, 2) := by decide +kernel
theorem dX12_laysTold_29 : decode cX12_laysTold 29 = .ok (.iload_n 1, 1) := by decide +kernel
theorem dX12_laysTold_30 : decode cX12_laysTold 30 = .ok (.iload_n 2, 1) := by decide +kernel
theorem dX12_laysTold_31 : decode cX12_laysTold 31 = .ok (.invokestatic 412, 3) := by decide +kernel
theorem dX12_laysTold_34 : decode cX12_laysTold 34 = .ok (.aload_n 0, 1) := by decide +kernel
theorem dX12_laysTold_35 : decode cX12_laysTold 35 = .ok (.getfield 102, 3) := by decide +kernel
theorem dX12_laysTold_38 : decode cX12_laysTold 38 = .ok (.bipush 64, 2) := by decide +kernel
theorem dX12_laysTold_40 : decode cX12_laysTold 40 = .ok (.iload_n 1, 1) := by decide +kernel
theorem dX12_laysTold_41 : decode cX12_laysTold 41 = .ok (.iload_n 2, 1) := by decide +kernel
theorem dX12_laysTold_42 : decode cX12_laysTold 42 = .ok (.invokestatic 412, 3) := by decide +kernel
theorem dX12_laysTold_45 : decode cX12_laysTold 45 = .ok (.aload_n 0, 1) := by decide +kernel
theorem dX12_laysTold_46 : decode cX12_laysTold 46 = .ok (.getfield 105, 3) := by decide +kernel
theorem dX12_laysTold_49 : decode cX12_laysTold 49 = .ok (.iconst 4, 1) := by decide +kernel
theorem dX12_laysTold_50 : decode cX12_laysTold 50 = .ok (.iload_n 1, 1) := by decide +kernel
theorem dX12_laysTold_51 : decode cX12_laysTold 51 = .ok (.iload_n 2, 1) := by decide +kernel
theorem dX12_laysTold_52 : decode cX12_laysTold 52 = .ok (.invokestatic 416, 3) := by decide +kernel
theorem dX12_laysTold_55 : decode cX12_laysTold 55 = .ok (.aload_n 0, 1) := by decide +kernel
theorem dX12_laysTold_56 : decode cX12_laysTold 56 = .ok (.getfield 108, 3) := by decide +kernel
theorem dX12_laysTold_59 : decode cX12_laysTold 59 = .ok (.iconst 2, 1) := by decide +kernel
theorem dX12_laysTold_60 : decode cX12_laysTold 60 = .ok (.iload_n 1, 1) := by decide +kernel
theorem dX12_laysTold_61 : decode cX12_laysTold 61 = .ok (.iload_n 2, 1) := by decide +kernel
theorem dX12_laysTold_62 : decode cX12_laysTold 62 = .ok (.invokestatic 416, 3) := by decide +kernel
theorem dX12_laysTold_65 : decode cX12_laysTold 65 = .ok (.return_, 1) := by decide +kernel
noncomputable def F_X12_laysTold (a0 : Nat) (a1 : Int32) (a2 : Int32) (M : m_M) : Option (Unit × m_M) :=
  x_gN 10 M a0 46 fun v1 =>
  x_bd (F_X12_movesRow v1 (192 : Int32) a1 a2 M) fun _ M1 =>
  x_gN 10 M1 a0 47 fun v2 =>
  x_bd (F_X12_movesInts v2 (12 : Int32) a1 a2 M1) fun _ M2 =>
  x_gN 10 M2 a0 48 fun v3 =>
  x_bd (F_X12_movesRow v3 (64 : Int32) a1 a2 M2) fun _ M3 =>
  x_gN 10 M3 a0 49 fun v4 =>
  x_bd (F_X12_movesRow v4 (64 : Int32) a1 a2 M3) fun _ M4 =>
  x_gN 10 M4 a0 50 fun v5 =>
  x_bd (F_X12_movesInts v5 (4 : Int32) a1 a2 M4) fun _ M5 =>
  x_gN 10 M5 a0 51 fun v6 =>
  x_bd (F_X12_movesInts v6 (2 : Int32) a1 a2 M5) fun _ M6 =>
  some ((), M6)
set_option maxHeartbeats 4000000 in
theorem K_X12_laysTold (a0 : Nat) (a1 : Int32) (a2 : Int32) (M : m_M) (Φ : Option Value → m_M → Prop) (h : m_ok e_V Φ (F_X12_laysTold a0 a1 a2 M)) : j_Ct yX12_laysTold cX12_laysTold 3 none 2 0 0 [.ref a0, .int a1, .int a2] M Φ := by
  refine j_Ct.of (by decide +kernel) (Nat.le_of_ble_eq_true rfl) fun X C => ?_
  have C0 := C.1
  show j_J X 3 0 [some (.ref a0), some (.int a1), some (.int a2)] [] (0, 0) M
  unfold F_X12_laysTold at h
  refine j_aload_n C0 (pc := 0) dX12_laysTold_0 rfl ?_
  refine X_gN C0 (pc := 1) f_OM_93_10 rfl dX12_laysTold_1 h (fun v1 h => ?_)
  refine j_sipush C0 (pc := 4) dX12_laysTold_4 (v := (192 : Int32)) (by decide) ?_
  refine j_iload_n C0 (pc := 7) dX12_laysTold_7 rfl ?_
  refine j_iload_n C0 (pc := 8) dX12_laysTold_8 rfl ?_
  refine X_cS C0 (pc := 9) (e' := e_V) (as := [.ref v1, .int (192 : Int32), .int a1, .int a2]) (rest := []) (s' := fun _ => []) (g' := (0, 0)) s_OM_412 (fun Ψ hΨ => K_X12_movesRow v1 (192 : Int32) a1 a2 M Ψ hΨ) rfl rfl (fun _ => rfl) (by decide) (by decide) rfl (Nat.le_of_ble_eq_true rfl) dX12_laysTold_9 h (fun _ M1 h => ?_)
  refine j_aload_n C0 (pc := 12) dX12_laysTold_12 rfl ?_
  refine X_gN C0 (pc := 13) f_OM_96_10 rfl dX12_laysTold_13 h (fun v2 h => ?_)
  refine j_bipush C0 (pc := 16) dX12_laysTold_16 (v := (12 : Int32)) (by decide) ?_
  refine j_iload_n C0 (pc := 18) dX12_laysTold_18 rfl ?_
  refine j_iload_n C0 (pc := 19) dX12_laysTold_19 rfl ?_
  refine X_cS C0 (pc := 20) (e' := e_V) (as := [.ref v2, .int (12 : Int32), .int a1, .int a2]) (rest := []) (s' := fun _ => []) (g' := (0, 0)) s_OM_416 (fun Ψ hΨ => K_X12_movesInts v2 (12 : Int32) a1 a2 M1 Ψ hΨ) rfl rfl (fun _ => rfl) (by decide) (by decide) rfl (Nat.le_of_ble_eq_true rfl) dX12_laysTold_20 h (fun _ M2 h => ?_)
  refine j_aload_n C0 (pc := 23) dX12_laysTold_23 rfl ?_
  refine X_gN C0 (pc := 24) f_OM_99_10 rfl dX12_laysTold_24 h (fun v3 h => ?_)
  refine j_bipush C0 (pc := 27) dX12_laysTold_27 (v := (64 : Int32)) (by decide) ?_
  refine j_iload_n C0 (pc := 29) dX12_laysTold_29 rfl ?_
  refine j_iload_n C0 (pc := 30) dX12_laysTold_30 rfl ?_
  refine X_cS C0 (pc := 31) (e' := e_V) (as := [.ref v3, .int (64 : Int32), .int a1, .int a2]) (rest := []) (s' := fun _ => []) (g' := (0, 0)) s_OM_412 (fun Ψ hΨ => K_X12_movesRow v3 (64 : Int32) a1 a2 M2 Ψ hΨ) rfl rfl (fun _ => rfl) (by decide) (by decide) rfl (Nat.le_of_ble_eq_true rfl) dX12_laysTold_31 h (fun _ M3 h => ?_)
  refine j_aload_n C0 (pc := 34) dX12_laysTold_34 rfl ?_
  refine X_gN C0 (pc := 35) f_OM_102_10 rfl dX12_laysTold_35 h (fun v4 h => ?_)
  refine j_bipush C0 (pc := 38) dX12_laysTold_38 (v := (64 : Int32)) (by decide) ?_
  refine j_iload_n C0 (pc := 40) dX12_laysTold_40 rfl ?_
  refine j_iload_n C0 (pc := 41) dX12_laysTold_41 rfl ?_
  refine X_cS C0 (pc := 42) (e' := e_V) (as := [.ref v4, .int (64 : Int32), .int a1, .int a2]) (rest := []) (s' := fun _ => []) (g' := (0, 0)) s_OM_412 (fun Ψ hΨ => K_X12_movesRow v4 (64 : Int32) a1 a2 M3 Ψ hΨ) rfl rfl (fun _ => rfl) (by decide) (by decide) rfl (Nat.le_of_ble_eq_true rfl) dX12_laysTold_42 h (fun _ M4 h => ?_)
  refine j_aload_n C0 (pc := 45) dX12_laysTold_45 rfl ?_
  refine X_gN C0 (pc := 46) f_OM_105_10 rfl dX12_laysTold_46 h (fun v5 h => ?_)
  refine j_iconst C0 (pc := 49) dX12_laysTold_49 (v := (4 : Int32)) (by decide) ?_
  refine j_iload_n C0 (pc := 50) dX12_laysTold_50 rfl ?_
  refine j_iload_n C0 (pc := 51) dX12_laysTold_51 rfl ?_
  refine X_cS C0 (pc := 52) (e' := e_V) (as := [.ref v5, .int (4 : Int32), .int a1, .int a2]) (rest := []) (s' := fun _ => []) (g' := (0, 0)) s_OM_416 (fun Ψ hΨ => K_X12_movesInts v5 (4 : Int32) a1 a2 M4 Ψ hΨ) rfl rfl (fun _ => rfl) (by decide) (by decide) rfl (Nat.le_of_ble_eq_true rfl) dX12_laysTold_52 h (fun _ M5 h => ?_)
  refine j_aload_n C0 (pc := 55) dX12_laysTold_55 rfl ?_
  refine X_gN C0 (pc := 56) f_OM_108_10 rfl dX12_laysTold_56 h (fun v6 h => ?_)
  refine j_iconst C0 (pc := 59) dX12_laysTold_59 (v := (2 : Int32)) (by decide) ?_
  refine j_iload_n C0 (pc := 60) dX12_laysTold_60 rfl ?_
  refine j_iload_n C0 (pc := 61) dX12_laysTold_61 rfl ?_
  refine X_cS C0 (pc := 62) (e' := e_V) (as := [.ref v6, .int (2 : Int32), .int a1, .int a2]) (rest := []) (s' := fun _ => []) (g' := (0, 0)) s_OM_416 (fun Ψ hΨ => K_X12_movesInts v6 (2 : Int32) a1 a2 M5 Ψ hΨ) rfl rfl (fun _ => rfl) (by decide) (by decide) rfl (Nat.le_of_ble_eq_true rfl) dX12_laysTold_62 h (fun _ M6 h => ?_)
  exact j_vret C rfl h dX12_laysTold_65 (by decide)
theorem dX12_keeps_0 : decode cX12_keeps 0 = .ok (.aload_n 0, 1) := by decide +kernel
theorem dX12_keeps_1 : decode cX12_keeps 1 = .ok (.getfield 420, 3) := by decide +kernel
theorem dX12_keeps_4 : decode cX12_keeps 4 = .ok (.bipush 12, 2) := by decide +kernel
theorem dX12_keeps_6 : decode cX12_keeps 6 = .ok (.if_icmp .ne 39, 3) := by decide +kernel
theorem dX12_keeps_9 : decode cX12_keeps 9 = .ok (.iconst 0, 1) := by decide +kernel
theorem dX12_keeps_10 : decode cX12_keeps 10 = .ok (.istore_n 1, 1) := by decide +kernel
theorem dX12_keeps_11 : decode cX12_keeps 11 = .ok (.iload_n 1, 1) := by decide +kernel
theorem dX12_keeps_12 : decode cX12_keeps 12 = .ok (.bipush 11, 2) := by decide +kernel
theorem dX12_keeps_14 : decode cX12_keeps 14 = .ok (.if_icmp .ge 21, 3) := by decide +kernel
theorem dX12_keeps_17 : decode cX12_keeps 17 = .ok (.aload_n 0, 1) := by decide +kernel
theorem dX12_keeps_18 : decode cX12_keeps 18 = .ok (.iconst 5, 1) := by decide +kernel
theorem dX12_keeps_19 : decode cX12_keeps 19 = .ok (.iload_n 1, 1) := by decide +kernel
theorem dX12_keeps_20 : decode cX12_keeps 20 = .ok (.iadd, 1) := by decide +kernel
theorem dX12_keeps_21 : decode cX12_keeps 21 = .ok (.iconst 1, 1) := by decide +kernel
theorem dX12_keeps_22 : decode cX12_keeps 22 = .ok (.iadd, 1) := by decide +kernel
theorem dX12_keeps_23 : decode cX12_keeps 23 = .ok (.iconst 5, 1) := by decide +kernel
theorem dX12_keeps_24 : decode cX12_keeps 24 = .ok (.iload_n 1, 1) := by decide +kernel
theorem dX12_keeps_25 : decode cX12_keeps 25 = .ok (.iadd, 1) := by decide +kernel
theorem dX12_keeps_26 : decode cX12_keeps 26 = .ok (.invokevirtual 423, 3) := by decide +kernel
theorem dX12_keeps_29 : decode cX12_keeps 29 = .ok (.iinc 1 1, 3) := by decide +kernel
theorem dX12_keeps_32 : decode cX12_keeps 32 = .ok (.goto (-21), 3) := by decide +kernel
theorem dX12_keeps_35 : decode cX12_keeps 35 = .ok (.aload_n 0, 1) := by decide +kernel
theorem dX12_keeps_36 : decode cX12_keeps 36 = .ok (.dup, 1) := by decide +kernel
theorem dX12_keeps_37 : decode cX12_keeps 37 = .ok (.getfield 420, 3) := by decide +kernel
theorem dX12_keeps_40 : decode cX12_keeps 40 = .ok (.iconst 1, 1) := by decide +kernel
theorem dX12_keeps_41 : decode cX12_keeps 41 = .ok (.isub, 1) := by decide +kernel
theorem dX12_keeps_42 : decode cX12_keeps 42 = .ok (.putfield 420, 3) := by decide +kernel
theorem dX12_keeps_45 : decode cX12_keeps 45 = .ok (.aload_n 0, 1) := by decide +kernel
theorem dX12_keeps_46 : decode cX12_keeps 46 = .ok (.iconst 0, 1) := by decide +kernel
theorem dX12_keeps_47 : decode cX12_keeps 47 = .ok (.iconst 5, 1) := by decide +kernel
theorem dX12_keeps_48 : decode cX12_keeps 48 = .ok (.aload_n 0, 1) := by decide +kernel
theorem dX12_keeps_49 : decode cX12_keeps 49 = .ok (.getfield 420, 3) := by decide +kernel
theorem dX12_keeps_52 : decode cX12_keeps 52 = .ok (.iadd, 1) := by decide +kernel
theorem dX12_keeps_53 : decode cX12_keeps 53 = .ok (.invokevirtual 423, 3) := by decide +kernel
theorem dX12_keeps_56 : decode cX12_keeps 56 = .ok (.aload_n 0, 1) := by decide +kernel
theorem dX12_keeps_57 : decode cX12_keeps 57 = .ok (.dup, 1) := by decide +kernel
theorem dX12_keeps_58 : decode cX12_keeps 58 = .ok (.getfield 420, 3) := by decide +kernel
theorem dX12_keeps_61 : decode cX12_keeps 61 = .ok (.iconst 1, 1) := by decide +kernel
theorem dX12_keeps_62 : decode cX12_keeps 62 = .ok (.iadd, 1) := by decide +kernel
theorem dX12_keeps_63 : decode cX12_keeps 63 = .ok (.putfield 420, 3) := by decide +kernel
theorem dX12_keeps_66 : decode cX12_keeps 66 = .ok (.return_, 1) := by decide +kernel
noncomputable def F_X12_keeps_11 (k35 : Nat → m_M → Option (Unit × m_M)) : Nat → Nat → Int32 → m_M → Option (Unit × m_M)
  | 0, _, _, _ => none
  | n + 1, v1, v2, M =>
    if (11 : Int32) ≤ v2 then (
      k35 v1 M
    ) else
    x_cV 10 M v1 (F_X12_laysTold v1 (((5 : Int32) + v2) + (1 : Int32)) ((5 : Int32) + v2) M) fun _ M1 =>
    m_let (v2 + (1 : Int32)) fun v3 =>
    F_X12_keeps_11 k35 n v1 v3 M1
noncomputable def F_X12_keeps (a0 : Nat) (M : m_M) : Option (Unit × m_M) :=
  m_let (fun (v1 : Nat) (M1 : m_M) =>
    x_gI 10 M1 v1 52 fun v2 =>
    x_cV 10 M1 v1 (F_X12_laysTold v1 (0 : Int32) ((5 : Int32) + v2) M1) fun _ M2 =>
    x_gI 10 M2 v1 52 fun v3 =>
    x_pI 10 M2 v1 52 (v3 + (1 : Int32)) fun M3 =>
    some ((), M3)
  ) fun (k45 : Nat → m_M → Option (Unit × m_M)) =>
  x_gI 10 M a0 52 fun v4 =>
  if v4 = (12 : Int32) then (
    m_let (fun (v5 : Nat) (M4 : m_M) =>
      x_gI 10 M4 v5 52 fun v6 =>
      x_pI 10 M4 v5 52 (v6 - (1 : Int32)) fun M5 =>
      k45 v5 M5
    ) fun (k35 : Nat → m_M → Option (Unit × m_M)) =>
    F_X12_keeps_11 k35 m_FU a0 (0 : Int32) M
  ) else
  k45 a0 M
set_option maxHeartbeats 4000000 in
theorem L_X12_keeps_11 {X : j_X} {Φ : Option Value → m_M → Prop} (C : j_C X yX12_keeps cX12_keeps 2 none 3 0 0 Φ) {k35 : Nat → m_M → Option (Unit × m_M)} (hk35 : ∀ (p0 : Nat) (M : m_M), m_ok e_V Φ (k35 p0 M) → j_J X 2 35 [some (.ref p0), none] [] (0, 0) M) : ∀ (n : Nat) (v1 : Nat) (v2 : Int32) (M : m_M), m_ok e_V Φ (F_X12_keeps_11 k35 n v1 v2 M) → j_J X 2 11 [some (.ref v1), some (.int v2)] [] (0, 0) M := by
  have C0 := C.1
  intro n
  induction n with
  | zero => intro v1 v2 M h; exact False.elim h
  | succ n ih =>
    intro v1 v2 M h
    rw [F_X12_keeps_11] at h
    refine j_iload_n C0 (pc := 11) dX12_keeps_11 rfl ?_
    refine j_bipush C0 (pc := 12) dX12_keeps_12 (v := (11 : Int32)) (by decide) ?_
    refine j_icmp_ge C0 (pc := 14) (tgt := 35) dX12_keeps_14 (by decide) (fun hc => ?_) (fun hc => ?_)
    · replace h := (X_if h).1 hc
      exact j_J.wq (hk35 v1 M h) (And.intro rfl (trivial))
    · replace h := (X_if h).2 hc
      refine j_aload_n C0 (pc := 17) dX12_keeps_17 rfl ?_
      refine j_iconst C0 (pc := 18) dX12_keeps_18 (v := (5 : Int32)) (by decide) ?_
      refine j_iload_n C0 (pc := 19) dX12_keeps_19 rfl ?_
      refine j_iadd C0 (pc := 20) dX12_keeps_20 ?_
      refine j_iconst C0 (pc := 21) dX12_keeps_21 (v := (1 : Int32)) (by decide) ?_
      refine j_iadd C0 (pc := 22) dX12_keeps_22 ?_
      refine j_iconst C0 (pc := 23) dX12_keeps_23 (v := (5 : Int32)) (by decide) ?_
      refine j_iload_n C0 (pc := 24) dX12_keeps_24 rfl ?_
      refine j_iadd C0 (pc := 25) dX12_keeps_25 ?_
      refine X_cV C0 (pc := 26) (e' := e_V) (as := [.int (((5 : Int32) + v2) + (1 : Int32)), .int ((5 : Int32) + v2)]) (rest := []) (s' := fun _ => []) (g' := (0, 0)) v_OM_423_10 (fun Ψ hΨ => K_X12_laysTold v1 (((5 : Int32) + v2) + (1 : Int32)) ((5 : Int32) + v2) M Ψ hΨ) rfl rfl (fun _ => rfl) (by decide) (by decide) rfl (Nat.le_of_ble_eq_true rfl) dX12_keeps_26 h (fun _ M1 h => ?_)
      refine j_iinc C0 (pc := 29) dX12_keeps_29 (v := v2 + (1 : Int32)) rfl (Nat.le_of_ble_eq_true rfl) (by rfl) ?_
      refine X_let (G := fun w => j_J X 2 32 [some (.ref v1), some (.int w)] [] (0, 0) M1) h (fun v3 h => ?_)
      refine j_goto C0 (pc := 32) (tgt := 11) dX12_keeps_32 (by decide) ?_
      exact j_J.wq (ih v1 v3 M1 h) (And.intro rfl (And.intro rfl (trivial)))
set_option maxHeartbeats 4000000 in
theorem K_X12_keeps (a0 : Nat) (M : m_M) (Φ : Option Value → m_M → Prop) (h : m_ok e_V Φ (F_X12_keeps a0 M)) : j_Ct yX12_keeps cX12_keeps 2 none 3 0 0 [.ref a0] M Φ := by
  refine j_Ct.of (by decide +kernel) (Nat.le_of_ble_eq_true rfl) fun X C => ?_
  have C0 := C.1
  show j_J X 2 0 [some (.ref a0), none] [] (0, 0) M
  unfold F_X12_keeps at h
  refine X_join (fun (kj : Nat → m_M → Option (Unit × m_M)) => ∀ (p0 : Nat) (M : m_M), m_ok e_V Φ (kj p0 M) → j_J X 2 45 [some (.ref p0), none] [] (0, 0) M) h (fun v1 M1 h => ?_) (fun k45 hk45 h => ?_)
  · refine j_aload_n C0 (pc := 45) dX12_keeps_45 rfl ?_
    refine j_iconst C0 (pc := 46) dX12_keeps_46 (v := (0 : Int32)) (by decide) ?_
    refine j_iconst C0 (pc := 47) dX12_keeps_47 (v := (5 : Int32)) (by decide) ?_
    refine j_aload_n C0 (pc := 48) dX12_keeps_48 rfl ?_
    refine X_gI C0 (pc := 49) f_OM_420_10 rfl dX12_keeps_49 h (fun v2 h => ?_)
    refine j_iadd C0 (pc := 52) dX12_keeps_52 ?_
    refine X_cV C0 (pc := 53) (e' := e_V) (as := [.int (0 : Int32), .int ((5 : Int32) + v2)]) (rest := []) (s' := fun _ => []) (g' := (0, 0)) v_OM_423_10 (fun Ψ hΨ => K_X12_laysTold v1 (0 : Int32) ((5 : Int32) + v2) M1 Ψ hΨ) rfl rfl (fun _ => rfl) (by decide) (by decide) rfl (Nat.le_of_ble_eq_true rfl) dX12_keeps_53 h (fun _ M2 h => ?_)
    refine j_aload_n C0 (pc := 56) dX12_keeps_56 rfl ?_
    refine j_dup C0 (pc := 57) dX12_keeps_57 rfl ?_
    refine X_gI C0 (pc := 58) f_OM_420_10 rfl dX12_keeps_58 h (fun v3 h => ?_)
    refine j_iconst C0 (pc := 61) dX12_keeps_61 (v := (1 : Int32)) (by decide) ?_
    refine j_iadd C0 (pc := 62) dX12_keeps_62 ?_
    refine X_pI C0 (pc := 63) f_OM_420_10 rfl rfl dX12_keeps_63 h (fun M3 h => ?_)
    exact j_vret C rfl h dX12_keeps_66 (by decide)
  · refine j_aload_n C0 (pc := 0) dX12_keeps_0 rfl ?_
    refine X_gI C0 (pc := 1) f_OM_420_10 rfl dX12_keeps_1 h (fun v4 h => ?_)
    refine j_bipush C0 (pc := 4) dX12_keeps_4 (v := (12 : Int32)) (by decide) ?_
    refine j_icmp_ne C0 (pc := 6) (tgt := 45) dX12_keeps_6 (by decide) (fun hc => ?_) (fun hc => ?_)
    · replace h := (X_if h).2 hc
      exact j_J.wq (hk45 a0 M h) (And.intro rfl (trivial))
    · replace h := (X_if h).1 hc
      refine j_iconst C0 (pc := 9) dX12_keeps_9 (v := (0 : Int32)) (by decide) ?_
      refine j_istore_n C0 (pc := 10) dX12_keeps_10 (Nat.le_of_ble_eq_true rfl) ?_
      show j_J X 2 11 [some (.ref a0), some (.int (0 : Int32))] [] (0, 0) M
      refine X_join (fun (kj : Nat → m_M → Option (Unit × m_M)) => ∀ (p0 : Nat) (M : m_M), m_ok e_V Φ (kj p0 M) → j_J X 2 35 [some (.ref p0), none] [] (0, 0) M) h (fun v5 M4 h => ?_) (fun k35 hk35 h => ?_)
      · refine j_aload_n C0 (pc := 35) dX12_keeps_35 rfl ?_
        refine j_dup C0 (pc := 36) dX12_keeps_36 rfl ?_
        refine X_gI C0 (pc := 37) f_OM_420_10 rfl dX12_keeps_37 h (fun v6 h => ?_)
        refine j_iconst C0 (pc := 40) dX12_keeps_40 (v := (1 : Int32)) (by decide) ?_
        refine j_isub C0 (pc := 41) dX12_keeps_41 ?_
        refine X_pI C0 (pc := 42) f_OM_420_10 rfl rfl dX12_keeps_42 h (fun M5 h => ?_)
        exact j_J.wq (hk45 v5 M5 h) (And.intro rfl (trivial))
      · exact j_J.wq (L_X12_keeps_11 C hk35 m_FU a0 (0 : Int32) M h) (And.intro rfl (And.intro rfl (trivial)))
