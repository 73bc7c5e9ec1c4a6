theorem dX0_choiceMany_0 : decode cX0_choiceMany 0 = .ok (.iconst 1, 1) := by decide +kernel
theorem dX0_choiceMany_1 : decode cX0_choiceMany 1 = .ok (.iconst 3, 1) := by decide +kernel
theorem dX0_choiceMany_2 : decode cX0_choiceMany 2 = .ok (.aload_n 0, 1) := by decide +kernel
theorem dX0_choiceMany_3 : decode cX0_choiceMany 3 = .ok (.getfield 18, 3) := by decide +kernel
theorem dX0_choiceMany_6 : decode cX0_choiceMany 6 = .ok (.getfield 22, 3) := by decide +kernel
theorem dX0_choiceMany_9 : decode cX0_choiceMany 9 = .ok (.iconst 3, 1) := by decide +kernel
theorem dX0_choiceMany_10 : decode cX0_choiceMany 10 = .ok (.iaload, 1) := by decide +kernel
theorem dX0_choiceMany_11 : decode cX0_choiceMany 11 = .ok (.imul, 1) := by decide +kernel
theorem dX0_choiceMany_12 : decode cX0_choiceMany 12 = .ok (.ishl, 1) := by decide +kernel
theorem dX0_choiceMany_13 : decode cX0_choiceMany 13 = .ok (.ireturn, 1) := by decide +kernel
noncomputable def F_X0_choiceMany (a0 : Nat) (M : m_M) : Option (Int32 × m_M) :=
  x_gN 0 M a0 0 fun v1 =>
  x_gN 3 M v1 6 fun v2 =>
  x_aI 12 M v2 (3 : Int32) fun v3 =>
  some ((1 : Int32) <<< (((3 : Int32) * v3) &&& 31), M)
set_option maxHeartbeats 4000000 in
theorem K_X0_choiceMany (a0 : Nat) (M : m_M) (Φ : Option Value → m_M → Prop) (h : m_ok e_I Φ (F_X0_choiceMany a0 M)) : j_Ct yX0_choiceMany cX0_choiceMany 1 (some .int) 1 0 0 [.ref a0] M Φ := by
  refine j_Ct.of (by decide +kernel) (Nat.le_of_ble_eq_true rfl) fun X C => ?_
  have C0 := C.1
  show j_J X 1 0 [some (.ref a0)] [] (0, 0) M
  unfold F_X0_choiceMany at h
  refine j_iconst C0 (pc := 0) dX0_choiceMany_0 (v := (1 : Int32)) (by decide) ?_
  refine j_iconst C0 (pc := 1) dX0_choiceMany_1 (v := (3 : Int32)) (by decide) ?_
  refine j_aload_n C0 (pc := 2) dX0_choiceMany_2 rfl ?_
  refine X_gN C0 (pc := 3) f_Bell_18_0 rfl dX0_choiceMany_3 h (fun v1 h => ?_)
  refine X_gN C0 (pc := 6) f_Bell_22_3 rfl dX0_choiceMany_6 h (fun v2 h => ?_)
  refine j_iconst C0 (pc := 9) dX0_choiceMany_9 (v := (3 : Int32)) (by decide) ?_
  refine X_iald C0 (pc := 10) dX0_choiceMany_10 h (fun v3 h => ?_)
  refine j_imul C0 (pc := 11) dX0_choiceMany_11 ?_
  refine j_ishl C0 (pc := 12) dX0_choiceMany_12 ?_
  exact j_iret C rfl h dX0_choiceMany_13 (by decide)
theorem dX0_choiceOf_0 : decode cX0_choiceOf 0 = .ok (.iload_n 0, 1) := by decide +kernel
theorem dX0_choiceOf_1 : decode cX0_choiceOf 1 = .ok (.iconst 3, 1) := by decide +kernel
theorem dX0_choiceOf_2 : decode cX0_choiceOf 2 = .ok (.iload_n 1, 1) := by decide +kernel
theorem dX0_choiceOf_3 : decode cX0_choiceOf 3 = .ok (.imul, 1) := by decide +kernel
theorem dX0_choiceOf_4 : decode cX0_choiceOf 4 = .ok (.ishr, 1) := by decide +kernel
theorem dX0_choiceOf_5 : decode cX0_choiceOf 5 = .ok (.bipush 7, 2) := by decide +kernel
theorem dX0_choiceOf_7 : decode cX0_choiceOf 7 = .ok (.iand, 1) := by decide +kernel
theorem dX0_choiceOf_8 : decode cX0_choiceOf 8 = .ok (.ireturn, 1) := by decide +kernel
noncomputable def F_X0_choiceOf (a1 : Int32) (a2 : Int32) (M : m_M) : Option (Int32 × m_M) :=
  some ((a1 >>> (((3 : Int32) * a2) &&& 31)) &&& (7 : Int32), M)
set_option maxHeartbeats 4000000 in
theorem K_X0_choiceOf (a1 : Int32) (a2 : Int32) (M : m_M) (Φ : Option Value → m_M → Prop) (h : m_ok e_I Φ (F_X0_choiceOf a1 a2 M)) : j_Ct yX0_choiceOf cX0_choiceOf 2 (some .int) 1 0 0 [.int a1, .int a2] M Φ := by
  refine j_Ct.of (by decide +kernel) (Nat.le_of_ble_eq_true rfl) fun X C => ?_
  have C0 := C.1
  show j_J X 2 0 [some (.int a1), some (.int a2)] [] (0, 0) M
  unfold F_X0_choiceOf at h
  refine j_iload_n C0 (pc := 0) dX0_choiceOf_0 rfl ?_
  refine j_iconst C0 (pc := 1) dX0_choiceOf_1 (v := (3 : Int32)) (by decide) ?_
  refine j_iload_n C0 (pc := 2) dX0_choiceOf_2 rfl ?_
  refine j_imul C0 (pc := 3) dX0_choiceOf_3 ?_
  refine j_ishr C0 (pc := 4) dX0_choiceOf_4 ?_
  refine j_bipush C0 (pc := 5) dX0_choiceOf_5 (v := (7 : Int32)) (by decide) ?_
  refine j_iand C0 (pc := 7) dX0_choiceOf_7 ?_
  exact j_iret C rfl h dX0_choiceOf_8 (by decide)
theorem dX0_verbRung_0 : decode cX0_verbRung 0 = .ok (.aload_n 0, 1) := by decide +kernel
theorem dX0_verbRung_1 : decode cX0_verbRung 1 = .ok (.getfield 15, 3) := by decide +kernel
theorem dX0_verbRung_4 : decode cX0_verbRung 4 = .ok (.iconst 0, 1) := by decide +kernel
theorem dX0_verbRung_5 : decode cX0_verbRung 5 = .ok (.invokestatic 35, 3) := by decide +kernel
theorem dX0_verbRung_8 : decode cX0_verbRung 8 = .ok (.iconst (-1), 1) := by decide +kernel
theorem dX0_verbRung_9 : decode cX0_verbRung 9 = .ok (.istore_n 3, 1) := by decide +kernel
theorem dX0_verbRung_10 : decode cX0_verbRung 10 = .ok (.iconst 0, 1) := by decide +kernel
theorem dX0_verbRung_11 : decode cX0_verbRung 11 = .ok (.istore 4, 2) := by decide +kernel
theorem dX0_verbRung_13 : decode cX0_verbRung 13 = .ok (.iconst 0, 1) := by decide +kernel
theorem dX0_verbRung_14 : decode cX0_verbRung 14 = .ok (.istore 5, 2) := by decide +kernel
theorem dX0_verbRung_16 : decode cX0_verbRung 16 = .ok (.iload 5, 2) := by decide +kernel
theorem dX0_verbRung_18 : decode cX0_verbRung 18 = .ok (.aload_n 0, 1) := by decide +kernel
theorem dX0_verbRung_19 : decode cX0_verbRung 19 = .ok (.getfield 18, 3) := by decide +kernel
theorem dX0_verbRung_22 : decode cX0_verbRung 22 = .ok (.getfield 22, 3) := by decide +kernel
theorem dX0_verbRung_25 : decode cX0_verbRung 25 = .ok (.iconst 3, 1) := by decide +kernel
theorem dX0_verbRung_26 : decode cX0_verbRung 26 = .ok (.iaload, 1) := by decide +kernel
theorem dX0_verbRung_27 : decode cX0_verbRung 27 = .ok (.if_icmp .ge 42, 3) := by decide +kernel
theorem dX0_verbRung_30 : decode cX0_verbRung 30 = .ok (.iload_n 1, 1) := by decide +kernel
theorem dX0_verbRung_31 : decode cX0_verbRung 31 = .ok (.iload 5, 2) := by decide +kernel
theorem dX0_verbRung_33 : decode cX0_verbRung 33 = .ok (.invokestatic 31, 3) := by decide +kernel
theorem dX0_verbRung_36 : decode cX0_verbRung 36 = .ok (.iconst 1, 1) := by decide +kernel
theorem dX0_verbRung_37 : decode cX0_verbRung 37 = .ok (.isub, 1) := by decide +kernel
theorem dX0_verbRung_38 : decode cX0_verbRung 38 = .ok (.istore 6, 2) := by decide +kernel
theorem dX0_verbRung_40 : decode cX0_verbRung 40 = .ok (.iload 6, 2) := by decide +kernel
theorem dX0_verbRung_42 : decode cX0_verbRung 42 = .ok (.ifCond .lt 21, 3) := by decide +kernel
theorem dX0_verbRung_45 : decode cX0_verbRung 45 = .ok (.iload 6, 2) := by decide +kernel
theorem dX0_verbRung_47 : decode cX0_verbRung 47 = .ok (.bipush 6, 2) := by decide +kernel
theorem dX0_verbRung_49 : decode cX0_verbRung 49 = .ok (.if_icmp .ge 14, 3) := by decide +kernel
theorem dX0_verbRung_52 : decode cX0_verbRung 52 = .ok (.aload_n 0, 1) := by decide +kernel
theorem dX0_verbRung_53 : decode cX0_verbRung 53 = .ok (.getfield 15, 3) := by decide +kernel
theorem dX0_verbRung_56 : decode cX0_verbRung 56 = .ok (.iload 6, 2) := by decide +kernel
theorem dX0_verbRung_58 : decode cX0_verbRung 58 = .ok (.dup2, 1) := by decide +kernel
theorem dX0_verbRung_59 : decode cX0_verbRung 59 = .ok (.iaload, 1) := by decide +kernel
theorem dX0_verbRung_60 : decode cX0_verbRung 60 = .ok (.iconst 1, 1) := by decide +kernel
theorem dX0_verbRung_61 : decode cX0_verbRung 61 = .ok (.iadd, 1) := by decide +kernel
theorem dX0_verbRung_62 : decode cX0_verbRung 62 = .ok (.iastore, 1) := by decide +kernel
theorem dX0_verbRung_63 : decode cX0_verbRung 63 = .ok (.iinc 5 1, 3) := by decide +kernel
theorem dX0_verbRung_66 : decode cX0_verbRung 66 = .ok (.goto (-50), 3) := by decide +kernel
theorem dX0_verbRung_69 : decode cX0_verbRung 69 = .ok (.iconst 0, 1) := by decide +kernel
theorem dX0_verbRung_70 : decode cX0_verbRung 70 = .ok (.istore 5, 2) := by decide +kernel
theorem dX0_verbRung_72 : decode cX0_verbRung 72 = .ok (.iload 5, 2) := by decide +kernel
theorem dX0_verbRung_74 : decode cX0_verbRung 74 = .ok (.bipush 6, 2) := by decide +kernel
theorem dX0_verbRung_76 : decode cX0_verbRung 76 = .ok (.if_icmp .ge 33, 3) := by decide +kernel
theorem dX0_verbRung_79 : decode cX0_verbRung 79 = .ok (.aload_n 0, 1) := by decide +kernel
theorem dX0_verbRung_80 : decode cX0_verbRung 80 = .ok (.getfield 15, 3) := by decide +kernel
theorem dX0_verbRung_83 : decode cX0_verbRung 83 = .ok (.iload 5, 2) := by decide +kernel
theorem dX0_verbRung_85 : decode cX0_verbRung 85 = .ok (.iaload, 1) := by decide +kernel
theorem dX0_verbRung_86 : decode cX0_verbRung 86 = .ok (.iload 4, 2) := by decide +kernel
theorem dX0_verbRung_88 : decode cX0_verbRung 88 = .ok (.if_icmp .le 15, 3) := by decide +kernel
theorem dX0_verbRung_91 : decode cX0_verbRung 91 = .ok (.aload_n 0, 1) := by decide +kernel
theorem dX0_verbRung_92 : decode cX0_verbRung 92 = .ok (.getfield 15, 3) := by decide +kernel
theorem dX0_verbRung_95 : decode cX0_verbRung 95 = .ok (.iload 5, 2) := by decide +kernel
theorem dX0_verbRung_97 : decode cX0_verbRung 97 = .ok (.iaload, 1) := by decide +kernel
theorem dX0_verbRung_98 : decode cX0_verbRung 98 = .ok (.istore 4, 2) := by decide +kernel
theorem dX0_verbRung_100 : decode cX0_verbRung 100 = .ok (.iload 5, 2) := by decide +kernel
theorem dX0_verbRung_102 : decode cX0_verbRung 102 = .ok (.istore_n 3, 1) := by decide +kernel
theorem dX0_verbRung_103 : decode cX0_verbRung 103 = .ok (.iinc 5 1, 3) := by decide +kernel
theorem dX0_verbRung_106 : decode cX0_verbRung 106 = .ok (.goto (-34), 3) := by decide +kernel
theorem dX0_verbRung_109 : decode cX0_verbRung 109 = .ok (.iload 4, 2) := by decide +kernel
theorem dX0_verbRung_111 : decode cX0_verbRung 111 = .ok (.ifCond .le 7, 3) := by decide +kernel
theorem dX0_verbRung_114 : decode cX0_verbRung 114 = .ok (.iload_n 3, 1) := by decide +kernel
theorem dX0_verbRung_115 : decode cX0_verbRung 115 = .ok (.goto 4, 3) := by decide +kernel
theorem dX0_verbRung_118 : decode cX0_verbRung 118 = .ok (.iload_n 2, 1) := by decide +kernel
theorem dX0_verbRung_119 : decode cX0_verbRung 119 = .ok (.ireturn, 1) := by decide +kernel
noncomputable def F_X0_verbRung_72 (k109 : Int32 → Int32 → Int32 → m_M → Option (Int32 × m_M)) : Nat → Nat → Int32 → Int32 → Int32 → Int32 → m_M → Option (Int32 × m_M)
  | 0, _, _, _, _, _, _ => none
  | n + 1, v1, v2, v3, v4, v5, M =>
    if (6 : Int32) ≤ v5 then (
      k109 v2 v3 v4 M
    ) else
    m_let (fun (v6 : Nat) (v7 : Int32) (v8 : Int32) (v9 : Int32) (v10 : Int32) (M1 : m_M) =>
      m_let (v10 + (1 : Int32)) fun v11 =>
      F_X0_verbRung_72 k109 n v6 v7 v8 v9 v11 M1
    ) fun (k103 : Nat → Int32 → Int32 → Int32 → Int32 → m_M → Option (Int32 × m_M)) =>
    x_gN 0 M v1 2 fun v12 =>
    x_aI 12 M v12 v5 fun v13 =>
    if v13 ≤ v4 then (
      k103 v1 v2 v3 v4 v5 M
    ) else
    x_gN 0 M v1 2 fun v14 =>
    x_aI 12 M v14 v5 fun v15 =>
    k103 v1 v2 v5 v15 v5 M
noncomputable def F_X0_verbRung_16 (k69 : Nat → Int32 → Int32 → Int32 → m_M → Option (Int32 × m_M)) : Nat → Nat → Int32 → Int32 → Int32 → Int32 → Int32 → m_M → Option (Int32 × m_M)
  | 0, _, _, _, _, _, _, _ => none
  | n + 1, v1, v2, v3, v4, v5, v6, M =>
    x_gN 0 M v1 0 fun v7 =>
    x_gN 3 M v7 6 fun v8 =>
    x_aI 12 M v8 (3 : Int32) fun v9 =>
    if v9 ≤ v6 then (
      k69 v1 v3 v4 v5 M
    ) else
    m_let (fun (v10 : Nat) (v11 : Int32) (v12 : Int32) (v13 : Int32) (v14 : Int32) (v15 : Int32) (M1 : m_M) =>
      m_let (v15 + (1 : Int32)) fun v16 =>
      F_X0_verbRung_16 k69 n v10 v11 v12 v13 v14 v16 M1
    ) fun (k63 : Nat → Int32 → Int32 → Int32 → Int32 → Int32 → m_M → Option (Int32 × m_M)) =>
    x_bd (F_X0_choiceOf v2 v6 M) fun v17 M2 =>
    m_let (v17 - (1 : Int32)) fun v18 =>
    if v18 < 0 then (
      k63 v1 v2 v3 v4 v5 v6 M2
    ) else
    if (6 : Int32) ≤ v18 then (
      k63 v1 v2 v3 v4 v5 v6 M2
    ) else
    x_gN 0 M2 v1 2 fun v19 =>
    x_aI 12 M2 v19 v18 fun v20 =>
    x_sI 12 M2 v19 v18 (v20 + (1 : Int32)) fun M3 =>
    k63 v1 v2 v3 v4 v5 v6 M3
noncomputable def F_X0_verbRung (a0 : Nat) (a1 : Int32) (a2 : Int32) (M : m_M) : Option (Int32 × m_M) :=
  x_gN 0 M a0 2 fun v1 =>
  x_bd (F_J7_fill_53178 v1 (0 : Int32) M) fun _ M1 =>
  m_let (fun (v2 : Nat) (v3 : Int32) (v4 : Int32) (v5 : Int32) (M2 : m_M) =>
    m_let (fun (v6 : Int32) (v7 : Int32) (v8 : Int32) (M3 : m_M) =>
      if v8 ≤ 0 then (
        some (v6, M3)
      ) else
      some (v7, M3)
    ) fun (k109 : Int32 → Int32 → Int32 → m_M → Option (Int32 × m_M)) =>
    F_X0_verbRung_72 k109 m_FU v2 v3 v4 v5 (0 : Int32) M2
  ) fun (k69 : Nat → Int32 → Int32 → Int32 → m_M → Option (Int32 × m_M)) =>
  F_X0_verbRung_16 k69 m_FU a0 a1 a2 (-1 : Int32) (0 : Int32) (0 : Int32) M1
set_option maxHeartbeats 4000000 in
theorem L_X0_verbRung_72 {X : j_X} {Φ : Option Value → m_M → Prop} (C : j_C X yX0_verbRung cX0_verbRung 7 (some .int) 2 0 0 Φ) {k109 : Int32 → Int32 → Int32 → m_M → Option (Int32 × m_M)} (hk109 : ∀ (p0 : Int32) (p1 : Int32) (p2 : Int32) (M : m_M), m_ok e_I Φ (k109 p0 p1 p2 M) → j_J X 7 109 [none, none, some (.int p0), some (.int p1), some (.int p2), none, none] [] (0, 0) M) : ∀ (n : Nat) (v1 : Nat) (v2 : Int32) (v3 : Int32) (v4 : Int32) (v5 : Int32) (M : m_M), m_ok e_I Φ (F_X0_verbRung_72 k109 n v1 v2 v3 v4 v5 M) → j_J X 7 72 [some (.ref v1), none, some (.int v2), some (.int v3), some (.int v4), some (.int v5), none] [] (0, 0) M := by
  have C0 := C.1
  intro n
  induction n with
  | zero => intro v1 v2 v3 v4 v5 M h; exact False.elim h
  | succ n ih =>
    intro v1 v2 v3 v4 v5 M h
    rw [F_X0_verbRung_72] at h
    refine j_iload C0 (pc := 72) dX0_verbRung_72 rfl ?_
    refine j_bipush C0 (pc := 74) dX0_verbRung_74 (v := (6 : Int32)) (by decide) ?_
    refine j_icmp_ge C0 (pc := 76) (tgt := 109) dX0_verbRung_76 (by decide) (fun hc => ?_) (fun hc => ?_)
    · replace h := (X_if h).1 hc
      exact j_J.wq (hk109 v2 v3 v4 M h) (And.intro rfl (And.intro rfl (And.intro rfl (trivial))))
    · replace h := (X_if h).2 hc
      refine X_join (fun (kj : Nat → Int32 → Int32 → Int32 → Int32 → m_M → Option (Int32 × m_M)) => ∀ (p0 : Nat) (p1 : Int32) (p2 : Int32) (p3 : Int32) (p4 : Int32) (M : m_M), m_ok e_I Φ (kj p0 p1 p2 p3 p4 M) → j_J X 7 103 [some (.ref p0), none, some (.int p1), some (.int p2), some (.int p3), some (.int p4), none] [] (0, 0) M) h (fun v6 v7 v8 v9 v10 M1 h => ?_) (fun k103 hk103 h => ?_)
      · refine j_iinc C0 (pc := 103) dX0_verbRung_103 (v := v10 + (1 : Int32)) rfl (Nat.le_of_ble_eq_true rfl) (by rfl) ?_
        refine X_let (G := fun w => j_J X 7 106 [some (.ref v6), none, some (.int v7), some (.int v8), some (.int v9), some (.int w), none] [] (0, 0) M1) h (fun v11 h => ?_)
        refine j_goto C0 (pc := 106) (tgt := 72) dX0_verbRung_106 (by decide) ?_
        exact j_J.wq (ih v6 v7 v8 v9 v11 M1 h) (And.intro rfl (And.intro rfl (And.intro rfl (And.intro rfl (And.intro rfl (trivial))))))
      · refine j_aload_n C0 (pc := 79) dX0_verbRung_79 rfl ?_
        refine X_gN C0 (pc := 80) f_Bell_15_0 rfl dX0_verbRung_80 h (fun v12 h => ?_)
        refine j_iload C0 (pc := 83) dX0_verbRung_83 rfl ?_
        refine X_iald C0 (pc := 85) dX0_verbRung_85 h (fun v13 h => ?_)
        refine j_iload C0 (pc := 86) dX0_verbRung_86 rfl ?_
        refine j_icmp_le C0 (pc := 88) (tgt := 103) dX0_verbRung_88 (by decide) (fun hc => ?_) (fun hc => ?_)
        · replace h := (X_if h).1 hc
          exact j_J.wq (hk103 v1 v2 v3 v4 v5 M h) (And.intro rfl (And.intro rfl (And.intro rfl (And.intro rfl (And.intro rfl (trivial))))))
        · replace h := (X_if h).2 hc
          refine j_aload_n C0 (pc := 91) dX0_verbRung_91 rfl ?_
          refine X_gN C0 (pc := 92) f_Bell_15_0 rfl dX0_verbRung_92 h (fun v14 h => ?_)
          refine j_iload C0 (pc := 95) dX0_verbRung_95 rfl ?_
          refine X_iald C0 (pc := 97) dX0_verbRung_97 h (fun v15 h => ?_)
          refine j_istore C0 (pc := 98) dX0_verbRung_98 (Nat.le_of_ble_eq_true rfl) ?_
          show j_J X 7 100 [some (.ref v1), none, some (.int v2), some (.int v3), some (.int v15), some (.int v5), none] [] (0, 0) M
          refine j_iload C0 (pc := 100) dX0_verbRung_100 rfl ?_
          refine j_istore_n C0 (pc := 102) dX0_verbRung_102 (Nat.le_of_ble_eq_true rfl) ?_
          show j_J X 7 103 [some (.ref v1), none, some (.int v2), some (.int v5), some (.int v15), some (.int v5), none] [] (0, 0) M
          exact j_J.wq (hk103 v1 v2 v5 v15 v5 M h) (And.intro rfl (And.intro rfl (And.intro rfl (And.intro rfl (And.intro rfl (trivial))))))
set_option maxHeartbeats 4000000 in
theorem L_X0_verbRung_16 {X : j_X} {Φ : Option Value → m_M → Prop} (C : j_C X yX0_verbRung cX0_verbRung 7 (some .int) 2 0 0 Φ) {k69 : Nat → Int32 → Int32 → Int32 → m_M → Option (Int32 × m_M)} (hk69 : ∀ (p0 : Nat) (p1 : Int32) (p2 : Int32) (p3 : Int32) (M : m_M), m_ok e_I Φ (k69 p0 p1 p2 p3 M) → j_J X 7 69 [some (.ref p0), none, some (.int p1), some (.int p2), some (.int p3), none, none] [] (0, 0) M) : ∀ (n : Nat) (v1 : Nat) (v2 : Int32) (v3 : Int32) (v4 : Int32) (v5 : Int32) (v6 : Int32) (M : m_M), m_ok e_I Φ (F_X0_verbRung_16 k69 n v1 v2 v3 v4 v5 v6 M) → j_J X 7 16 [some (.ref v1), some (.int v2), some (.int v3), some (.int v4), some (.int v5), some (.int v6), none] [] (0, 0) M := by
  have C0 := C.1
  intro n
  induction n with
  | zero => intro v1 v2 v3 v4 v5 v6 M h; exact False.elim h
  | succ n ih =>
    intro v1 v2 v3 v4 v5 v6 M h
    rw [F_X0_verbRung_16] at h
    refine j_iload C0 (pc := 16) dX0_verbRung_16 rfl ?_
    refine j_aload_n C0 (pc := 18) dX0_verbRung_18 rfl ?_
    refine X_gN C0 (pc := 19) f_Bell_18_0 rfl dX0_verbRung_19 h (fun v7 h => ?_)
    refine X_gN C0 (pc := 22) f_Bell_22_3 rfl dX0_verbRung_22 h (fun v8 h => ?_)
    refine j_iconst C0 (pc := 25) dX0_verbRung_25 (v := (3 : Int32)) (by decide) ?_
    refine X_iald C0 (pc := 26) dX0_verbRung_26 h (fun v9 h => ?_)
    refine j_icmp_ge C0 (pc := 27) (tgt := 69) dX0_verbRung_27 (by decide) (fun hc => ?_) (fun hc => ?_)
    · replace h := (X_if h).1 hc
      exact j_J.wq (hk69 v1 v3 v4 v5 M h) (And.intro rfl (And.intro rfl (And.intro rfl (And.intro rfl (trivial)))))
    · replace h := (X_if h).2 hc
      refine X_join (fun (kj : Nat → Int32 → Int32 → Int32 → Int32 → Int32 → m_M → Option (Int32 × m_M)) => ∀ (p0 : Nat) (p1 : Int32) (p2 : Int32) (p3 : Int32) (p4 : Int32) (p5 : Int32) (M : m_M), m_ok e_I Φ (kj p0 p1 p2 p3 p4 p5 M) → j_J X 7 63 [some (.ref p0), some (.int p1), some (.int p2), some (.int p3), some (.int p4), some (.int p5), none] [] (0, 0) M) h (fun v10 v11 v12 v13 v14 v15 M1 h => ?_) (fun k63 hk63 h => ?_)
      · refine j_iinc C0 (pc := 63) dX0_verbRung_63 (v := v15 + (1 : Int32)) rfl (Nat.le_of_ble_eq_true rfl) (by rfl) ?_
        refine X_let (G := fun w => j_J X 7 66 [some (.ref v10), some (.int v11), some (.int v12), some (.int v13), some (.int v14), some (.int w), none] [] (0, 0) M1) h (fun v16 h => ?_)
        refine j_goto C0 (pc := 66) (tgt := 16) dX0_verbRung_66 (by decide) ?_
        exact j_J.wq (ih v10 v11 v12 v13 v14 v16 M1 h) (And.intro rfl (And.intro rfl (And.intro rfl (And.intro rfl (And.intro rfl (And.intro rfl (trivial)))))))
      · refine j_iload_n C0 (pc := 30) dX0_verbRung_30 rfl ?_
        refine j_iload C0 (pc := 31) dX0_verbRung_31 rfl ?_
        refine X_cS C0 (pc := 33) (e' := e_I) (as := [.int v2, .int v6]) (rest := []) (s' := fun w => .int w :: []) (g' := (0, 0)) s_Bell_31 (fun Ψ hΨ => K_X0_choiceOf v2 v6 M Ψ hΨ) rfl rfl (fun _ => rfl) (by decide) (by decide) rfl (Nat.le_of_ble_eq_true rfl) dX0_verbRung_33 h (fun v17 M2 h => ?_)
        refine j_iconst C0 (pc := 36) dX0_verbRung_36 (v := (1 : Int32)) (by decide) ?_
        refine j_isub C0 (pc := 37) dX0_verbRung_37 ?_
        refine X_let (G := fun w => j_J X 7 38 [some (.ref v1), some (.int v2), some (.int v3), some (.int v4), some (.int v5), some (.int v6), none] (.int w :: []) (0, 0) M2) h (fun v18 h => ?_)
        refine j_istore C0 (pc := 38) dX0_verbRung_38 (Nat.le_of_ble_eq_true rfl) ?_
        show j_J X 7 40 [some (.ref v1), some (.int v2), some (.int v3), some (.int v4), some (.int v5), some (.int v6), some (.int v18)] [] (0, 0) M2
        refine j_iload C0 (pc := 40) dX0_verbRung_40 rfl ?_
        refine j_if_lt C0 (pc := 42) (tgt := 63) dX0_verbRung_42 (by decide) (fun hc => ?_) (fun hc => ?_)
        · replace h := (X_if h).1 hc
          exact j_J.wq (hk63 v1 v2 v3 v4 v5 v6 M2 h) (And.intro rfl (And.intro rfl (And.intro rfl (And.intro rfl (And.intro rfl (And.intro rfl (trivial)))))))
        · replace h := (X_if h).2 hc
          refine j_iload C0 (pc := 45) dX0_verbRung_45 rfl ?_
          refine j_bipush C0 (pc := 47) dX0_verbRung_47 (v := (6 : Int32)) (by decide) ?_
          refine j_icmp_ge C0 (pc := 49) (tgt := 63) dX0_verbRung_49 (by decide) (fun hc => ?_) (fun hc => ?_)
          · replace h := (X_if h).1 hc
            exact j_J.wq (hk63 v1 v2 v3 v4 v5 v6 M2 h) (And.intro rfl (And.intro rfl (And.intro rfl (And.intro rfl (And.intro rfl (And.intro rfl (trivial)))))))
          · replace h := (X_if h).2 hc
            refine j_aload_n C0 (pc := 52) dX0_verbRung_52 rfl ?_
            refine X_gN C0 (pc := 53) f_Bell_15_0 rfl dX0_verbRung_53 h (fun v19 h => ?_)
            refine j_iload C0 (pc := 56) dX0_verbRung_56 rfl ?_
            refine j_dup2 C0 (pc := 58) dX0_verbRung_58 rfl rfl ?_
            refine X_iald C0 (pc := 59) dX0_verbRung_59 h (fun v20 h => ?_)
            refine j_iconst C0 (pc := 60) dX0_verbRung_60 (v := (1 : Int32)) (by decide) ?_
            refine j_iadd C0 (pc := 61) dX0_verbRung_61 ?_
            refine X_iast C0 (pc := 62) dX0_verbRung_62 h (fun M3 h => ?_)
            exact j_J.wq (hk63 v1 v2 v3 v4 v5 v6 M3 h) (And.intro rfl (And.intro rfl (And.intro rfl (And.intro rfl (And.intro rfl (And.intro rfl (trivial)))))))
set_option maxHeartbeats 4000000 in
theorem K_X0_verbRung (a0 : Nat) (a1 : Int32) (a2 : Int32) (M : m_M) (Φ : Option Value → m_M → Prop) (h : m_ok e_I Φ (F_X0_verbRung a0 a1 a2 M)) : j_Ct yX0_verbRung cX0_verbRung 7 (some .int) 2 0 0 [.ref a0, .int a1, .int a2] M Φ := by
  refine j_Ct.of (by decide +kernel) (Nat.le_of_ble_eq_true rfl) fun X C => ?_
  have C0 := C.1
  show j_J X 7 0 [some (.ref a0), some (.int a1), some (.int a2), none, none, none, none] [] (0, 0) M
  unfold F_X0_verbRung at h
  refine j_aload_n C0 (pc := 0) dX0_verbRung_0 rfl ?_
  refine X_gN C0 (pc := 1) f_Bell_15_0 rfl dX0_verbRung_1 h (fun v1 h => ?_)
  refine j_iconst C0 (pc := 4) dX0_verbRung_4 (v := (0 : Int32)) (by decide) ?_
  refine X_cS C0 (pc := 5) (e' := e_V) (as := [.ref v1, .int (0 : Int32)]) (rest := []) (s' := fun _ => []) (g' := (0, 0)) s_Bell_35 (fun Ψ hΨ => K_J7_fill_53178 v1 (0 : Int32) M Ψ hΨ) rfl rfl (fun _ => rfl) (by decide) (by decide) rfl (Nat.le_of_ble_eq_true rfl) dX0_verbRung_5 h (fun _ M1 h => ?_)
  refine j_iconst C0 (pc := 8) dX0_verbRung_8 (v := (-1 : Int32)) (by decide) ?_
  refine j_istore_n C0 (pc := 9) dX0_verbRung_9 (Nat.le_of_ble_eq_true rfl) ?_
  show j_J X 7 10 [some (.ref a0), some (.int a1), some (.int a2), some (.int (-1 : Int32)), none, none, none] [] (0, 0) M1
  refine j_iconst C0 (pc := 10) dX0_verbRung_10 (v := (0 : Int32)) (by decide) ?_
  refine j_istore C0 (pc := 11) dX0_verbRung_11 (Nat.le_of_ble_eq_true rfl) ?_
  show j_J X 7 13 [some (.ref a0), some (.int a1), some (.int a2), some (.int (-1 : Int32)), some (.int (0 : Int32)), none, none] [] (0, 0) M1
  refine j_iconst C0 (pc := 13) dX0_verbRung_13 (v := (0 : Int32)) (by decide) ?_
  refine j_istore C0 (pc := 14) dX0_verbRung_14 (Nat.le_of_ble_eq_true rfl) ?_
  show j_J X 7 16 [some (.ref a0), some (.int a1), some (.int a2), some (.int (-1 : Int32)), some (.int (0 : Int32)), some (.int (0 : Int32)), none] [] (0, 0) M1
  refine X_join (fun (kj : Nat → Int32 → Int32 → Int32 → m_M → Option (Int32 × m_M)) => ∀ (p0 : Nat) (p1 : Int32) (p2 : Int32) (p3 : Int32) (M : m_M), m_ok e_I Φ (kj p0 p1 p2 p3 M) → j_J X 7 69 [some (.ref p0), none, some (.int p1), some (.int p2), some (.int p3), none, none] [] (0, 0) M) h (fun v2 v3 v4 v5 M2 h => ?_) (fun k69 hk69 h => ?_)
  · refine j_iconst C0 (pc := 69) dX0_verbRung_69 (v := (0 : Int32)) (by decide) ?_
    refine j_istore C0 (pc := 70) dX0_verbRung_70 (Nat.le_of_ble_eq_true rfl) ?_
    show j_J X 7 72 [some (.ref v2), none, some (.int v3), some (.int v4), some (.int v5), some (.int (0 : Int32)), none] [] (0, 0) M2
    refine X_join (fun (kj : Int32 → Int32 → Int32 → m_M → Option (Int32 × m_M)) => ∀ (p0 : Int32) (p1 : Int32) (p2 : Int32) (M : m_M), m_ok e_I Φ (kj p0 p1 p2 M) → j_J X 7 109 [none, none, some (.int p0), some (.int p1), some (.int p2), none, none] [] (0, 0) M) h (fun v6 v7 v8 M3 h => ?_) (fun k109 hk109 h => ?_)
    · refine j_iload C0 (pc := 109) dX0_verbRung_109 rfl ?_
      refine j_if_le C0 (pc := 111) (tgt := 118) dX0_verbRung_111 (by decide) (fun hc => ?_) (fun hc => ?_)
      · replace h := (X_if h).1 hc
        refine j_iload_n C0 (pc := 118) dX0_verbRung_118 rfl ?_
        exact j_iret C rfl h dX0_verbRung_119 (by decide)
      · replace h := (X_if h).2 hc
        refine j_iload_n C0 (pc := 114) dX0_verbRung_114 rfl ?_
        refine j_goto C0 (pc := 115) (tgt := 119) dX0_verbRung_115 (by decide) ?_
        exact j_iret C rfl h dX0_verbRung_119 (by decide)
    · exact j_J.wq (L_X0_verbRung_72 C hk109 m_FU v2 v3 v4 v5 (0 : Int32) M2 h) (And.intro rfl (And.intro rfl (And.intro rfl (And.intro rfl (And.intro rfl (trivial))))))
  · exact j_J.wq (L_X0_verbRung_16 C hk69 m_FU a0 a1 a2 (-1 : Int32) (0 : Int32) (0 : Int32) M1 h) (And.intro rfl (And.intro rfl (And.intro rfl (And.intro rfl (And.intro rfl (And.intro rfl (trivial)))))))
theorem dX0_areChoices_0 : decode cX0_areChoices 0 = .ok (.iload_n 1, 1) := by decide +kernel
theorem dX0_areChoices_1 : decode cX0_areChoices 1 = .ok (.ifCond .lt 11, 3) := by decide +kernel
theorem dX0_areChoices_4 : decode cX0_areChoices 4 = .ok (.iload_n 1, 1) := by decide +kernel
theorem dX0_areChoices_5 : decode cX0_areChoices 5 = .ok (.aload_n 0, 1) := by decide +kernel
theorem dX0_areChoices_6 : decode cX0_areChoices 6 = .ok (.invokevirtual 27, 3) := by decide +kernel
theorem dX0_areChoices_9 : decode cX0_areChoices 9 = .ok (.if_icmp .lt 5, 3) := by decide +kernel
theorem dX0_areChoices_12 : decode cX0_areChoices 12 = .ok (.iconst 0, 1) := by decide +kernel
theorem dX0_areChoices_13 : decode cX0_areChoices 13 = .ok (.ireturn, 1) := by decide +kernel
theorem dX0_areChoices_14 : decode cX0_areChoices 14 = .ok (.iconst 0, 1) := by decide +kernel
theorem dX0_areChoices_15 : decode cX0_areChoices 15 = .ok (.istore_n 2, 1) := by decide +kernel
theorem dX0_areChoices_16 : decode cX0_areChoices 16 = .ok (.iload_n 2, 1) := by decide +kernel
theorem dX0_areChoices_17 : decode cX0_areChoices 17 = .ok (.aload_n 0, 1) := by decide +kernel
theorem dX0_areChoices_18 : decode cX0_areChoices 18 = .ok (.getfield 18, 3) := by decide +kernel
theorem dX0_areChoices_21 : decode cX0_areChoices 21 = .ok (.getfield 22, 3) := by decide +kernel
theorem dX0_areChoices_24 : decode cX0_areChoices 24 = .ok (.iconst 3, 1) := by decide +kernel
theorem dX0_areChoices_25 : decode cX0_areChoices 25 = .ok (.iaload, 1) := by decide +kernel
theorem dX0_areChoices_26 : decode cX0_areChoices 26 = .ok (.if_icmp .ge 28, 3) := by decide +kernel
theorem dX0_areChoices_29 : decode cX0_areChoices 29 = .ok (.iload_n 1, 1) := by decide +kernel
theorem dX0_areChoices_30 : decode cX0_areChoices 30 = .ok (.iload_n 2, 1) := by decide +kernel
theorem dX0_areChoices_31 : decode cX0_areChoices 31 = .ok (.invokestatic 31, 3) := by decide +kernel
theorem dX0_areChoices_34 : decode cX0_areChoices 34 = .ok (.aload_n 0, 1) := by decide +kernel
theorem dX0_areChoices_35 : decode cX0_areChoices 35 = .ok (.getfield 18, 3) := by decide +kernel
theorem dX0_areChoices_38 : decode cX0_areChoices 38 = .ok (.getfield 22, 3) := by decide +kernel
theorem dX0_areChoices_41 : decode cX0_areChoices 41 = .ok (.iconst 2, 1) := by decide +kernel
theorem dX0_areChoices_42 : decode cX0_areChoices 42 = .ok (.iaload, 1) := by decide +kernel
theorem dX0_areChoices_43 : decode cX0_areChoices 43 = .ok (.if_icmp .le 5, 3) := by decide +kernel
theorem dX0_areChoices_46 : decode cX0_areChoices 46 = .ok (.iconst 0, 1) := by decide +kernel
theorem dX0_areChoices_47 : decode cX0_areChoices 47 = .ok (.ireturn, 1) := by decide +kernel
theorem dX0_areChoices_48 : decode cX0_areChoices 48 = .ok (.iinc 2 1, 3) := by decide +kernel
theorem dX0_areChoices_51 : decode cX0_areChoices 51 = .ok (.goto (-35), 3) := by decide +kernel
theorem dX0_areChoices_54 : decode cX0_areChoices 54 = .ok (.iconst 1, 1) := by decide +kernel
theorem dX0_areChoices_55 : decode cX0_areChoices 55 = .ok (.ireturn, 1) := by decide +kernel
noncomputable def F_X0_areChoices_16 : Nat → Nat → Int32 → Int32 → m_M → Option (Int32 × m_M)
  | 0, _, _, _, _ => none
  | n + 1, v1, v2, v3, M =>
    x_gN 0 M v1 0 fun v4 =>
    x_gN 3 M v4 6 fun v5 =>
    x_aI 12 M v5 (3 : Int32) fun v6 =>
    if v6 ≤ v3 then (
      some ((1 : Int32), M)
    ) else
    x_bd (F_X0_choiceOf v2 v3 M) fun v7 M1 =>
    x_gN 0 M1 v1 0 fun v8 =>
    x_gN 3 M1 v8 6 fun v9 =>
    x_aI 12 M1 v9 (2 : Int32) fun v10 =>
    if v7 ≤ v10 then (
      m_let (v3 + (1 : Int32)) fun v11 =>
      F_X0_areChoices_16 n v1 v2 v11 M1
    ) else
    some ((0 : Int32), M1)
noncomputable def F_X0_areChoices (a0 : Nat) (a1 : Int32) (M : m_M) : Option (Int32 × m_M) :=
  if a1 < 0 then (
    some ((0 : Int32), M)
  ) else
  x_cV 0 M a0 (F_X0_choiceMany a0 M) fun v1 M1 =>
  if a1 < v1 then (
    F_X0_areChoices_16 m_FU a0 a1 (0 : Int32) M1
  ) else
  some ((0 : Int32), M1)
set_option maxHeartbeats 4000000 in
theorem L_X0_areChoices_16 {X : j_X} {Φ : Option Value → m_M → Prop} (C : j_C X yX0_areChoices cX0_areChoices 3 (some .boolean) 2 0 0 Φ) : ∀ (n : Nat) (v1 : Nat) (v2 : Int32) (v3 : Int32) (M : m_M), m_ok e_I Φ (F_X0_areChoices_16 n v1 v2 v3 M) → j_J X 3 16 [some (.ref v1), some (.int v2), some (.int v3)] [] (0, 0) M := by
  have C0 := C.1
  intro n
  induction n with
  | zero => intro v1 v2 v3 M h; exact False.elim h
  | succ n ih =>
    intro v1 v2 v3 M h
    rw [F_X0_areChoices_16] at h
    refine j_iload_n C0 (pc := 16) dX0_areChoices_16 rfl ?_
    refine j_aload_n C0 (pc := 17) dX0_areChoices_17 rfl ?_
    refine X_gN C0 (pc := 18) f_Bell_18_0 rfl dX0_areChoices_18 h (fun v4 h => ?_)
    refine X_gN C0 (pc := 21) f_Bell_22_3 rfl dX0_areChoices_21 h (fun v5 h => ?_)
    refine j_iconst C0 (pc := 24) dX0_areChoices_24 (v := (3 : Int32)) (by decide) ?_
    refine X_iald C0 (pc := 25) dX0_areChoices_25 h (fun v6 h => ?_)
    refine j_icmp_ge C0 (pc := 26) (tgt := 54) dX0_areChoices_26 (by decide) (fun hc => ?_) (fun hc => ?_)
    · replace h := (X_if h).1 hc
      refine j_iconst C0 (pc := 54) dX0_areChoices_54 (v := (1 : Int32)) (by decide) ?_
      exact j_zret C rfl (by decide) h dX0_areChoices_55 (by decide)
    · replace h := (X_if h).2 hc
      refine j_iload_n C0 (pc := 29) dX0_areChoices_29 rfl ?_
      refine j_iload_n C0 (pc := 30) dX0_areChoices_30 rfl ?_
      refine X_cS C0 (pc := 31) (e' := e_I) (as := [.int v2, .int v3]) (rest := []) (s' := fun w => .int w :: []) (g' := (0, 0)) s_Bell_31 (fun Ψ hΨ => K_X0_choiceOf v2 v3 M Ψ hΨ) rfl rfl (fun _ => rfl) (by decide) (by decide) rfl (Nat.le_of_ble_eq_true rfl) dX0_areChoices_31 h (fun v7 M1 h => ?_)
      refine j_aload_n C0 (pc := 34) dX0_areChoices_34 rfl ?_
      refine X_gN C0 (pc := 35) f_Bell_18_0 rfl dX0_areChoices_35 h (fun v8 h => ?_)
      refine X_gN C0 (pc := 38) f_Bell_22_3 rfl dX0_areChoices_38 h (fun v9 h => ?_)
      refine j_iconst C0 (pc := 41) dX0_areChoices_41 (v := (2 : Int32)) (by decide) ?_
      refine X_iald C0 (pc := 42) dX0_areChoices_42 h (fun v10 h => ?_)
      refine j_icmp_le C0 (pc := 43) (tgt := 48) dX0_areChoices_43 (by decide) (fun hc => ?_) (fun hc => ?_)
      · replace h := (X_if h).1 hc
        refine j_iinc C0 (pc := 48) dX0_areChoices_48 (v := v3 + (1 : Int32)) rfl (Nat.le_of_ble_eq_true rfl) (by rfl) ?_
        refine X_let (G := fun w => j_J X 3 51 [some (.ref v1), some (.int v2), some (.int w)] [] (0, 0) M1) h (fun v11 h => ?_)
        refine j_goto C0 (pc := 51) (tgt := 16) dX0_areChoices_51 (by decide) ?_
        exact j_J.wq (ih v1 v2 v11 M1 h) (And.intro rfl (And.intro rfl (And.intro rfl (trivial))))
      · replace h := (X_if h).2 hc
        refine j_iconst C0 (pc := 46) dX0_areChoices_46 (v := (0 : Int32)) (by decide) ?_
        exact j_zret C rfl (by decide) h dX0_areChoices_47 (by decide)
set_option maxHeartbeats 4000000 in
theorem K_X0_areChoices (a0 : Nat) (a1 : Int32) (M : m_M) (Φ : Option Value → m_M → Prop) (h : m_ok e_I Φ (F_X0_areChoices a0 a1 M)) : j_Ct yX0_areChoices cX0_areChoices 3 (some .boolean) 2 0 0 [.ref a0, .int a1] M Φ := by
  refine j_Ct.of (by decide +kernel) (Nat.le_of_ble_eq_true rfl) fun X C => ?_
  have C0 := C.1
  show j_J X 3 0 [some (.ref a0), some (.int a1), none] [] (0, 0) M
  unfold F_X0_areChoices at h
  refine j_iload_n C0 (pc := 0) dX0_areChoices_0 rfl ?_
  refine j_if_lt C0 (pc := 1) (tgt := 12) dX0_areChoices_1 (by decide) (fun hc => ?_) (fun hc => ?_)
  · replace h := (X_if h).1 hc
    refine j_iconst C0 (pc := 12) dX0_areChoices_12 (v := (0 : Int32)) (by decide) ?_
    exact j_zret C rfl (by decide) h dX0_areChoices_13 (by decide)
  · replace h := (X_if h).2 hc
    refine j_iload_n C0 (pc := 4) dX0_areChoices_4 rfl ?_
    refine j_aload_n C0 (pc := 5) dX0_areChoices_5 rfl ?_
    refine X_cV C0 (pc := 6) (e' := e_I) (as := []) (rest := [.int a1]) (s' := fun w => .int w :: [.int a1]) (g' := (0, 0)) v_Bell_27_0 (fun Ψ hΨ => K_X0_choiceMany a0 M Ψ hΨ) rfl rfl (fun _ => rfl) (by decide) (by decide) rfl (Nat.le_of_ble_eq_true rfl) dX0_areChoices_6 h (fun v1 M1 h => ?_)
    refine j_icmp_lt C0 (pc := 9) (tgt := 14) dX0_areChoices_9 (by decide) (fun hc => ?_) (fun hc => ?_)
    · replace h := (X_if h).1 hc
      refine j_iconst C0 (pc := 14) dX0_areChoices_14 (v := (0 : Int32)) (by decide) ?_
      refine j_istore_n C0 (pc := 15) dX0_areChoices_15 (Nat.le_of_ble_eq_true rfl) ?_
      show j_J X 3 16 [some (.ref a0), some (.int a1), some (.int (0 : Int32))] [] (0, 0) M1
      exact j_J.wq (L_X0_areChoices_16 C m_FU a0 a1 (0 : Int32) M1 h) (And.intro rfl (And.intro rfl (And.intro rfl (trivial))))
    · replace h := (X_if h).2 hc
      refine j_iconst C0 (pc := 12) dX0_areChoices_12 (v := (0 : Int32)) (by decide) ?_
      exact j_zret C rfl (by decide) h dX0_areChoices_13 (by decide)
theorem dX3_worthOf_0 : decode cX3_worthOf 0 = .ok (.iload_n 1, 1) := by decide +kernel
theorem dX3_worthOf_1 : decode cX3_worthOf 1 = .ok (.ifCond .lt 22, 3) := by decide +kernel
theorem dX3_worthOf_4 : decode cX3_worthOf 4 = .ok (.iload_n 1, 1) := by decide +kernel
theorem dX3_worthOf_5 : decode cX3_worthOf 5 = .ok (.iconst 3, 1) := by decide +kernel
theorem dX3_worthOf_6 : decode cX3_worthOf 6 = .ok (.if_icmp .ge 17, 3) := by decide +kernel
theorem dX3_worthOf_9 : decode cX3_worthOf 9 = .ok (.iload_n 2, 1) := by decide +kernel
theorem dX3_worthOf_10 : decode cX3_worthOf 10 = .ok (.ifCond .lt 13, 3) := by decide +kernel
theorem dX3_worthOf_13 : decode cX3_worthOf 13 = .ok (.iload_n 2, 1) := by decide +kernel
theorem dX3_worthOf_14 : decode cX3_worthOf 14 = .ok (.bipush 6, 2) := by decide +kernel
theorem dX3_worthOf_16 : decode cX3_worthOf 16 = .ok (.if_icmp .ge 7, 3) := by decide +kernel
theorem dX3_worthOf_19 : decode cX3_worthOf 19 = .ok (.iconst 1, 1) := by decide +kernel
theorem dX3_worthOf_20 : decode cX3_worthOf 20 = .ok (.goto 4, 3) := by decide +kernel
theorem dX3_worthOf_23 : decode cX3_worthOf 23 = .ok (.iconst 0, 1) := by decide +kernel
theorem dX3_worthOf_24 : decode cX3_worthOf 24 = .ok (.istore_n 3, 1) := by decide +kernel
theorem dX3_worthOf_25 : decode cX3_worthOf 25 = .ok (.iload_n 3, 1) := by decide +kernel
theorem dX3_worthOf_26 : decode cX3_worthOf 26 = .ok (.ifCond .eq 17, 3) := by decide +kernel
theorem dX3_worthOf_29 : decode cX3_worthOf 29 = .ok (.aload_n 0, 1) := by decide +kernel
theorem dX3_worthOf_30 : decode cX3_worthOf 30 = .ok (.getfield 21, 3) := by decide +kernel
theorem dX3_worthOf_33 : decode cX3_worthOf 33 = .ok (.iload_n 1, 1) := by decide +kernel
theorem dX3_worthOf_34 : decode cX3_worthOf 34 = .ok (.bipush 6, 2) := by decide +kernel
theorem dX3_worthOf_36 : decode cX3_worthOf 36 = .ok (.imul, 1) := by decide +kernel
theorem dX3_worthOf_37 : decode cX3_worthOf 37 = .ok (.iload_n 2, 1) := by decide +kernel
theorem dX3_worthOf_38 : decode cX3_worthOf 38 = .ok (.iadd, 1) := by decide +kernel
theorem dX3_worthOf_39 : decode cX3_worthOf 39 = .ok (.iaload, 1) := by decide +kernel
theorem dX3_worthOf_40 : decode cX3_worthOf 40 = .ok (.goto 4, 3) := by decide +kernel
theorem dX3_worthOf_43 : decode cX3_worthOf 43 = .ok (.iconst 0, 1) := by decide +kernel
theorem dX3_worthOf_44 : decode cX3_worthOf 44 = .ok (.ireturn, 1) := by decide +kernel
noncomputable def F_X3_worthOf (a0 : Nat) (a1 : Int32) (a2 : Int32) (M : m_M) : Option (Int32 × m_M) :=
  m_let (fun (v1 : Nat) (v2 : Int32) (v3 : Int32) (v4 : Int32) (M1 : m_M) =>
    if v4 = 0 then (
      some ((0 : Int32), M1)
    ) else
    x_gN 3 M1 v1 9 fun v5 =>
    x_aI 12 M1 v5 ((v2 * (6 : Int32)) + v3) fun v6 =>
    some (v6, M1)
  ) fun (k24 : Nat → Int32 → Int32 → Int32 → m_M → Option (Int32 × m_M)) =>
  m_let (fun (v7 : Nat) (v8 : Int32) (v9 : Int32) (M2 : m_M) =>
    k24 v7 v8 v9 (0 : Int32) M2
  ) fun (k23 : Nat → Int32 → Int32 → m_M → Option (Int32 × m_M)) =>
  if a1 < 0 then (
    k23 a0 a1 a2 M
  ) else
  if (3 : Int32) ≤ a1 then (
    k23 a0 a1 a2 M
  ) else
  if a2 < 0 then (
    k23 a0 a1 a2 M
  ) else
  if (6 : Int32) ≤ a2 then (
    k23 a0 a1 a2 M
  ) else
  k24 a0 a1 a2 (1 : Int32) M
set_option maxHeartbeats 4000000 in
theorem K_X3_worthOf (a0 : Nat) (a1 : Int32) (a2 : Int32) (M : m_M) (Φ : Option Value → m_M → Prop) (h : m_ok e_I Φ (F_X3_worthOf a0 a1 a2 M)) : j_Ct yX3_worthOf cX3_worthOf 4 (some .int) 1 0 0 [.ref a0, .int a1, .int a2] M Φ := by
  refine j_Ct.of (by decide +kernel) (Nat.le_of_ble_eq_true rfl) fun X C => ?_
  have C0 := C.1
  show j_J X 4 0 [some (.ref a0), some (.int a1), some (.int a2), none] [] (0, 0) M
  unfold F_X3_worthOf at h
  refine X_join (fun (kj : Nat → Int32 → Int32 → Int32 → m_M → Option (Int32 × m_M)) => ∀ (p0 : Nat) (p1 : Int32) (p2 : Int32) (p3 : Int32) (M : m_M), m_ok e_I Φ (kj p0 p1 p2 p3 M) → j_J X 4 24 [some (.ref p0), some (.int p1), some (.int p2), none] [.int p3] (0, 0) M) h (fun v1 v2 v3 v4 M1 h => ?_) (fun k24 hk24 h => ?_)
  · refine j_istore_n C0 (pc := 24) dX3_worthOf_24 (Nat.le_of_ble_eq_true rfl) ?_
    show j_J X 4 25 [some (.ref v1), some (.int v2), some (.int v3), some (.int v4)] [] (0, 0) M1
    refine j_iload_n C0 (pc := 25) dX3_worthOf_25 rfl ?_
    refine j_if_eq C0 (pc := 26) (tgt := 43) dX3_worthOf_26 (by decide) (fun hc => ?_) (fun hc => ?_)
    · replace h := (X_if h).1 hc
      refine j_iconst C0 (pc := 43) dX3_worthOf_43 (v := (0 : Int32)) (by decide) ?_
      exact j_iret C rfl h dX3_worthOf_44 (by decide)
    · replace h := (X_if h).2 hc
      refine j_aload_n C0 (pc := 29) dX3_worthOf_29 rfl ?_
      refine X_gN C0 (pc := 30) f_Land_21_3 rfl dX3_worthOf_30 h (fun v5 h => ?_)
      refine j_iload_n C0 (pc := 33) dX3_worthOf_33 rfl ?_
      refine j_bipush C0 (pc := 34) dX3_worthOf_34 (v := (6 : Int32)) (by decide) ?_
      refine j_imul C0 (pc := 36) dX3_worthOf_36 ?_
      refine j_iload_n C0 (pc := 37) dX3_worthOf_37 rfl ?_
      refine j_iadd C0 (pc := 38) dX3_worthOf_38 ?_
      refine X_iald C0 (pc := 39) dX3_worthOf_39 h (fun v6 h => ?_)
      refine j_goto C0 (pc := 40) (tgt := 44) dX3_worthOf_40 (by decide) ?_
      exact j_iret C rfl h dX3_worthOf_44 (by decide)
  · refine X_join (fun (kj : Nat → Int32 → Int32 → m_M → Option (Int32 × m_M)) => ∀ (p0 : Nat) (p1 : Int32) (p2 : Int32) (M : m_M), m_ok e_I Φ (kj p0 p1 p2 M) → j_J X 4 23 [some (.ref p0), some (.int p1), some (.int p2), none] [] (0, 0) M) h (fun v7 v8 v9 M2 h => ?_) (fun k23 hk23 h => ?_)
    · refine j_iconst C0 (pc := 23) dX3_worthOf_23 (v := (0 : Int32)) (by decide) ?_
      exact j_J.wq (hk24 v7 v8 v9 (0 : Int32) M2 h) (And.intro rfl (And.intro rfl (And.intro rfl (trivial))))
    · refine j_iload_n C0 (pc := 0) dX3_worthOf_0 rfl ?_
      refine j_if_lt C0 (pc := 1) (tgt := 23) dX3_worthOf_1 (by decide) (fun hc => ?_) (fun hc => ?_)
      · replace h := (X_if h).1 hc
        exact j_J.wq (hk23 a0 a1 a2 M h) (And.intro rfl (And.intro rfl (And.intro rfl (trivial))))
      · replace h := (X_if h).2 hc
        refine j_iload_n C0 (pc := 4) dX3_worthOf_4 rfl ?_
        refine j_iconst C0 (pc := 5) dX3_worthOf_5 (v := (3 : Int32)) (by decide) ?_
        refine j_icmp_ge C0 (pc := 6) (tgt := 23) dX3_worthOf_6 (by decide) (fun hc => ?_) (fun hc => ?_)
        · replace h := (X_if h).1 hc
          exact j_J.wq (hk23 a0 a1 a2 M h) (And.intro rfl (And.intro rfl (And.intro rfl (trivial))))
        · replace h := (X_if h).2 hc
          refine j_iload_n C0 (pc := 9) dX3_worthOf_9 rfl ?_
          refine j_if_lt C0 (pc := 10) (tgt := 23) dX3_worthOf_10 (by decide) (fun hc => ?_) (fun hc => ?_)
          · replace h := (X_if h).1 hc
            exact j_J.wq (hk23 a0 a1 a2 M h) (And.intro rfl (And.intro rfl (And.intro rfl (trivial))))
          · replace h := (X_if h).2 hc
            refine j_iload_n C0 (pc := 13) dX3_worthOf_13 rfl ?_
            refine j_bipush C0 (pc := 14) dX3_worthOf_14 (v := (6 : Int32)) (by decide) ?_
            refine j_icmp_ge C0 (pc := 16) (tgt := 23) dX3_worthOf_16 (by decide) (fun hc => ?_) (fun hc => ?_)
            · replace h := (X_if h).1 hc
              exact j_J.wq (hk23 a0 a1 a2 M h) (And.intro rfl (And.intro rfl (And.intro rfl (trivial))))
            · replace h := (X_if h).2 hc
              refine j_iconst C0 (pc := 19) dX3_worthOf_19 (v := (1 : Int32)) (by decide) ?_
              refine j_goto C0 (pc := 20) (tgt := 24) dX3_worthOf_20 (by decide) ?_
              exact j_J.wq (hk24 a0 a1 a2 (1 : Int32) M h) (And.intro rfl (And.intro rfl (And.intro rfl (trivial))))
theorem dX0_gainOf_0 : decode cX0_gainOf 0 = .ok (.iload_n 2, 1) := by decide +kernel
theorem dX0_gainOf_1 : decode cX0_gainOf 1 = .ok (.ifCond .lt 19, 3) := by decide +kernel
theorem dX0_gainOf_4 : decode cX0_gainOf 4 = .ok (.iload_n 2, 1) := by decide +kernel
theorem dX0_gainOf_5 : decode cX0_gainOf 5 = .ok (.sipush 512, 3) := by decide +kernel
theorem dX0_gainOf_8 : decode cX0_gainOf 8 = .ok (.if_icmp .ge 12, 3) := by decide +kernel
theorem dX0_gainOf_11 : decode cX0_gainOf 11 = .ok (.aload_n 0, 1) := by decide +kernel
theorem dX0_gainOf_12 : decode cX0_gainOf 12 = .ok (.getfield 11, 3) := by decide +kernel
theorem dX0_gainOf_15 : decode cX0_gainOf 15 = .ok (.iload_n 2, 1) := by decide +kernel
theorem dX0_gainOf_16 : decode cX0_gainOf 16 = .ok (.iaload, 1) := by decide +kernel
theorem dX0_gainOf_17 : decode cX0_gainOf 17 = .ok (.goto 4, 3) := by decide +kernel
theorem dX0_gainOf_20 : decode cX0_gainOf 20 = .ok (.iconst (-1), 1) := by decide +kernel
theorem dX0_gainOf_21 : decode cX0_gainOf 21 = .ok (.istore_n 3, 1) := by decide +kernel
theorem dX0_gainOf_22 : decode cX0_gainOf 22 = .ok (.iload_n 2, 1) := by decide +kernel
theorem dX0_gainOf_23 : decode cX0_gainOf 23 = .ok (.iload_n 1, 1) := by decide +kernel
theorem dX0_gainOf_24 : decode cX0_gainOf 24 = .ok (.invokestatic 31, 3) := by decide +kernel
theorem dX0_gainOf_27 : decode cX0_gainOf 27 = .ok (.ifCond .le 13, 3) := by decide +kernel
theorem dX0_gainOf_30 : decode cX0_gainOf 30 = .ok (.aload_n 0, 1) := by decide +kernel
theorem dX0_gainOf_31 : decode cX0_gainOf 31 = .ok (.getfield 18, 3) := by decide +kernel
theorem dX0_gainOf_34 : decode cX0_gainOf 34 = .ok (.getfield 59, 3) := by decide +kernel
theorem dX0_gainOf_37 : decode cX0_gainOf 37 = .ok (.goto 4, 3) := by decide +kernel
theorem dX0_gainOf_40 : decode cX0_gainOf 40 = .ok (.iconst 0, 1) := by decide +kernel
theorem dX0_gainOf_41 : decode cX0_gainOf 41 = .ok (.istore 4, 2) := by decide +kernel
theorem dX0_gainOf_43 : decode cX0_gainOf 43 = .ok (.aload_n 0, 1) := by decide +kernel
theorem dX0_gainOf_44 : decode cX0_gainOf 44 = .ok (.getfield 18, 3) := by decide +kernel
theorem dX0_gainOf_47 : decode cX0_gainOf 47 = .ok (.iload_n 1, 1) := by decide +kernel
theorem dX0_gainOf_48 : decode cX0_gainOf 48 = .ok (.iload_n 3, 1) := by decide +kernel
theorem dX0_gainOf_49 : decode cX0_gainOf 49 = .ok (.invokevirtual 63, 3) := by decide +kernel
theorem dX0_gainOf_52 : decode cX0_gainOf 52 = .ok (.iload 4, 2) := by decide +kernel
theorem dX0_gainOf_54 : decode cX0_gainOf 54 = .ok (.isub, 1) := by decide +kernel
theorem dX0_gainOf_55 : decode cX0_gainOf 55 = .ok (.ireturn, 1) := by decide +kernel
noncomputable def F_X0_gainOf (a0 : Nat) (a1 : Int32) (a2 : Int32) (M : m_M) : Option (Int32 × m_M) :=
  m_let (fun (v1 : Nat) (v2 : Int32) (v3 : Int32) (v4 : Int32) (M1 : m_M) =>
    m_let (fun (v5 : Nat) (v6 : Int32) (v7 : Int32) (v8 : Int32) (M2 : m_M) =>
      x_gN 0 M2 v5 0 fun v9 =>
      x_cV 3 M2 v9 (F_X3_worthOf v9 v6 v7 M2) fun v10 M3 =>
      some (v10 - v8, M3)
    ) fun (k41 : Nat → Int32 → Int32 → Int32 → m_M → Option (Int32 × m_M)) =>
    x_bd (F_X0_choiceOf v3 v2 M1) fun v11 M4 =>
    if v11 ≤ 0 then (
      k41 v1 v2 v4 (0 : Int32) M4
    ) else
    x_gN 0 M4 v1 0 fun v12 =>
    x_gI 3 M4 v12 1 fun v13 =>
    k41 v1 v2 v4 v13 M4
  ) fun (k21 : Nat → Int32 → Int32 → Int32 → m_M → Option (Int32 × m_M)) =>
  m_let (fun (v14 : Nat) (v15 : Int32) (v16 : Int32) (M5 : m_M) =>
    k21 v14 v15 v16 (-1 : Int32) M5
  ) fun (k20 : Nat → Int32 → Int32 → m_M → Option (Int32 × m_M)) =>
  if a2 < 0 then (
    k20 a0 a1 a2 M
  ) else
  if (512 : Int32) ≤ a2 then (
    k20 a0 a1 a2 M
  ) else
  x_gN 0 M a0 1 fun v17 =>
  x_aI 12 M v17 a2 fun v18 =>
  k21 a0 a1 a2 v18 M
set_option maxHeartbeats 4000000 in
theorem K_X0_gainOf (a0 : Nat) (a1 : Int32) (a2 : Int32) (M : m_M) (Φ : Option Value → m_M → Prop) (h : m_ok e_I Φ (F_X0_gainOf a0 a1 a2 M)) : j_Ct yX0_gainOf cX0_gainOf 5 (some .int) 2 0 0 [.ref a0, .int a1, .int a2] M Φ := by
  refine j_Ct.of (by decide +kernel) (Nat.le_of_ble_eq_true rfl) fun X C => ?_
  have C0 := C.1
  show j_J X 5 0 [some (.ref a0), some (.int a1), some (.int a2), none, none] [] (0, 0) M
  unfold F_X0_gainOf at h
  refine X_join (fun (kj : Nat → Int32 → Int32 → Int32 → m_M → Option (Int32 × m_M)) => ∀ (p0 : Nat) (p1 : Int32) (p2 : Int32) (p3 : Int32) (M : m_M), m_ok e_I Φ (kj p0 p1 p2 p3 M) → j_J X 5 21 [some (.ref p0), some (.int p1), some (.int p2), none, none] [.int p3] (0, 0) M) h (fun v1 v2 v3 v4 M1 h => ?_) (fun k21 hk21 h => ?_)
  · refine X_join (fun (kj : Nat → Int32 → Int32 → Int32 → m_M → Option (Int32 × m_M)) => ∀ (p0 : Nat) (p1 : Int32) (p2 : Int32) (p3 : Int32) (M : m_M), m_ok e_I Φ (kj p0 p1 p2 p3 M) → j_J X 5 41 [some (.ref p0), some (.int p1), none, some (.int p2), none] [.int p3] (0, 0) M) h (fun v5 v6 v7 v8 M2 h => ?_) (fun k41 hk41 h => ?_)
    · refine j_istore C0 (pc := 41) dX0_gainOf_41 (Nat.le_of_ble_eq_true rfl) ?_
      show j_J X 5 43 [some (.ref v5), some (.int v6), none, some (.int v7), some (.int v8)] [] (0, 0) M2
      refine j_aload_n C0 (pc := 43) dX0_gainOf_43 rfl ?_
      refine X_gN C0 (pc := 44) f_Bell_18_0 rfl dX0_gainOf_44 h (fun v9 h => ?_)
      refine j_iload_n C0 (pc := 47) dX0_gainOf_47 rfl ?_
      refine j_iload_n C0 (pc := 48) dX0_gainOf_48 rfl ?_
      refine X_cV C0 (pc := 49) (e' := e_I) (as := [.int v6, .int v7]) (rest := []) (s' := fun w => .int w :: []) (g' := (0, 0)) v_Bell_63_3 (fun Ψ hΨ => K_X3_worthOf v9 v6 v7 M2 Ψ hΨ) rfl rfl (fun _ => rfl) (by decide) (by decide) rfl (Nat.le_of_ble_eq_true rfl) dX0_gainOf_49 h (fun v10 M3 h => ?_)
      refine j_iload C0 (pc := 52) dX0_gainOf_52 rfl ?_
      refine j_isub C0 (pc := 54) dX0_gainOf_54 ?_
      exact j_iret C rfl h dX0_gainOf_55 (by decide)
    · refine j_istore_n C0 (pc := 21) dX0_gainOf_21 (Nat.le_of_ble_eq_true rfl) ?_
      show j_J X 5 22 [some (.ref v1), some (.int v2), some (.int v3), some (.int v4), none] [] (0, 0) M1
      refine j_iload_n C0 (pc := 22) dX0_gainOf_22 rfl ?_
      refine j_iload_n C0 (pc := 23) dX0_gainOf_23 rfl ?_
      refine X_cS C0 (pc := 24) (e' := e_I) (as := [.int v3, .int v2]) (rest := []) (s' := fun w => .int w :: []) (g' := (0, 0)) s_Bell_31 (fun Ψ hΨ => K_X0_choiceOf v3 v2 M1 Ψ hΨ) rfl rfl (fun _ => rfl) (by decide) (by decide) rfl (Nat.le_of_ble_eq_true rfl) dX0_gainOf_24 h (fun v11 M4 h => ?_)
      refine j_if_le C0 (pc := 27) (tgt := 40) dX0_gainOf_27 (by decide) (fun hc => ?_) (fun hc => ?_)
      · replace h := (X_if h).1 hc
        refine j_iconst C0 (pc := 40) dX0_gainOf_40 (v := (0 : Int32)) (by decide) ?_
        exact j_J.wq (hk41 v1 v2 v4 (0 : Int32) M4 h) (And.intro rfl (And.intro rfl (And.intro rfl (trivial))))
      · replace h := (X_if h).2 hc
        refine j_aload_n C0 (pc := 30) dX0_gainOf_30 rfl ?_
        refine X_gN C0 (pc := 31) f_Bell_18_0 rfl dX0_gainOf_31 h (fun v12 h => ?_)
        refine X_gI C0 (pc := 34) f_Bell_59_3 rfl dX0_gainOf_34 h (fun v13 h => ?_)
        refine j_goto C0 (pc := 37) (tgt := 41) dX0_gainOf_37 (by decide) ?_
        exact j_J.wq (hk41 v1 v2 v4 v13 M4 h) (And.intro rfl (And.intro rfl (And.intro rfl (trivial))))
  · refine X_join (fun (kj : Nat → Int32 → Int32 → m_M → Option (Int32 × m_M)) => ∀ (p0 : Nat) (p1 : Int32) (p2 : Int32) (M : m_M), m_ok e_I Φ (kj p0 p1 p2 M) → j_J X 5 20 [some (.ref p0), some (.int p1), some (.int p2), none, none] [] (0, 0) M) h (fun v14 v15 v16 M5 h => ?_) (fun k20 hk20 h => ?_)
    · refine j_iconst C0 (pc := 20) dX0_gainOf_20 (v := (-1 : Int32)) (by decide) ?_
      exact j_J.wq (hk21 v14 v15 v16 (-1 : Int32) M5 h) (And.intro rfl (And.intro rfl (And.intro rfl (trivial))))
    · refine j_iload_n C0 (pc := 0) dX0_gainOf_0 rfl ?_
      refine j_if_lt C0 (pc := 1) (tgt := 20) dX0_gainOf_1 (by decide) (fun hc => ?_) (fun hc => ?_)
      · replace h := (X_if h).1 hc
        exact j_J.wq (hk20 a0 a1 a2 M h) (And.intro rfl (And.intro rfl (And.intro rfl (trivial))))
      · replace h := (X_if h).2 hc
        refine j_iload_n C0 (pc := 4) dX0_gainOf_4 rfl ?_
        refine j_sipush C0 (pc := 5) dX0_gainOf_5 (v := (512 : Int32)) (by decide) ?_
        refine j_icmp_ge C0 (pc := 8) (tgt := 20) dX0_gainOf_8 (by decide) (fun hc => ?_) (fun hc => ?_)
        · replace h := (X_if h).1 hc
          exact j_J.wq (hk20 a0 a1 a2 M h) (And.intro rfl (And.intro rfl (And.intro rfl (trivial))))
        · replace h := (X_if h).2 hc
          refine j_aload_n C0 (pc := 11) dX0_gainOf_11 rfl ?_
          refine X_gN C0 (pc := 12) f_Bell_11_0 rfl dX0_gainOf_12 h (fun v17 h => ?_)
          refine j_iload_n C0 (pc := 15) dX0_gainOf_15 rfl ?_
          refine X_iald C0 (pc := 16) dX0_gainOf_16 h (fun v18 h => ?_)
          refine j_goto C0 (pc := 17) (tgt := 21) dX0_gainOf_17 (by decide) ?_
          exact j_J.wq (hk21 a0 a1 a2 v18 M h) (And.intro rfl (And.intro rfl (And.intro rfl (trivial))))
theorem dX0_isAtRest_0 : decode cX0_isAtRest 0 = .ok (.iconst 0, 1) := by decide +kernel
theorem dX0_isAtRest_1 : decode cX0_isAtRest 1 = .ok (.istore_n 2, 1) := by decide +kernel
theorem dX0_isAtRest_2 : decode cX0_isAtRest 2 = .ok (.iload_n 2, 1) := by decide +kernel
theorem dX0_isAtRest_3 : decode cX0_isAtRest 3 = .ok (.aload_n 0, 1) := by decide +kernel
theorem dX0_isAtRest_4 : decode cX0_isAtRest 4 = .ok (.getfield 18, 3) := by decide +kernel
theorem dX0_isAtRest_7 : decode cX0_isAtRest 7 = .ok (.getfield 22, 3) := by decide +kernel
theorem dX0_isAtRest_10 : decode cX0_isAtRest 10 = .ok (.iconst 3, 1) := by decide +kernel
theorem dX0_isAtRest_11 : decode cX0_isAtRest 11 = .ok (.iaload, 1) := by decide +kernel
theorem dX0_isAtRest_12 : decode cX0_isAtRest 12 = .ok (.if_icmp .ge 71, 3) := by decide +kernel
theorem dX0_isAtRest_15 : decode cX0_isAtRest 15 = .ok (.aload_n 0, 1) := by decide +kernel
theorem dX0_isAtRest_16 : decode cX0_isAtRest 16 = .ok (.iload_n 2, 1) := by decide +kernel
theorem dX0_isAtRest_17 : decode cX0_isAtRest 17 = .ok (.iload_n 1, 1) := by decide +kernel
theorem dX0_isAtRest_18 : decode cX0_isAtRest 18 = .ok (.invokevirtual 56, 3) := by decide +kernel
theorem dX0_isAtRest_21 : decode cX0_isAtRest 21 = .ok (.istore_n 3, 1) := by decide +kernel
theorem dX0_isAtRest_22 : decode cX0_isAtRest 22 = .ok (.iload_n 1, 1) := by decide +kernel
theorem dX0_isAtRest_23 : decode cX0_isAtRest 23 = .ok (.bipush 7, 2) := by decide +kernel
theorem dX0_isAtRest_25 : decode cX0_isAtRest 25 = .ok (.iconst 3, 1) := by decide +kernel
theorem dX0_isAtRest_26 : decode cX0_isAtRest 26 = .ok (.iload_n 2, 1) := by decide +kernel
theorem dX0_isAtRest_27 : decode cX0_isAtRest 27 = .ok (.imul, 1) := by decide +kernel
theorem dX0_isAtRest_28 : decode cX0_isAtRest 28 = .ok (.ishl, 1) := by decide +kernel
theorem dX0_isAtRest_29 : decode cX0_isAtRest 29 = .ok (.iconst (-1), 1) := by decide +kernel
theorem dX0_isAtRest_30 : decode cX0_isAtRest 30 = .ok (.ixor, 1) := by decide +kernel
theorem dX0_isAtRest_31 : decode cX0_isAtRest 31 = .ok (.iand, 1) := by decide +kernel
theorem dX0_isAtRest_32 : decode cX0_isAtRest 32 = .ok (.istore 4, 2) := by decide +kernel
theorem dX0_isAtRest_34 : decode cX0_isAtRest 34 = .ok (.iconst 0, 1) := by decide +kernel
theorem dX0_isAtRest_35 : decode cX0_isAtRest 35 = .ok (.istore 5, 2) := by decide +kernel
theorem dX0_isAtRest_37 : decode cX0_isAtRest 37 = .ok (.iload 5, 2) := by decide +kernel
theorem dX0_isAtRest_39 : decode cX0_isAtRest 39 = .ok (.aload_n 0, 1) := by decide +kernel
theorem dX0_isAtRest_40 : decode cX0_isAtRest 40 = .ok (.getfield 18, 3) := by decide +kernel
theorem dX0_isAtRest_43 : decode cX0_isAtRest 43 = .ok (.getfield 22, 3) := by decide +kernel
theorem dX0_isAtRest_46 : decode cX0_isAtRest 46 = .ok (.iconst 2, 1) := by decide +kernel
theorem dX0_isAtRest_47 : decode cX0_isAtRest 47 = .ok (.iaload, 1) := by decide +kernel
theorem dX0_isAtRest_48 : decode cX0_isAtRest 48 = .ok (.if_icmp .gt 29, 3) := by decide +kernel
theorem dX0_isAtRest_51 : decode cX0_isAtRest 51 = .ok (.aload_n 0, 1) := by decide +kernel
theorem dX0_isAtRest_52 : decode cX0_isAtRest 52 = .ok (.iload_n 2, 1) := by decide +kernel
theorem dX0_isAtRest_53 : decode cX0_isAtRest 53 = .ok (.iload 4, 2) := by decide +kernel
theorem dX0_isAtRest_55 : decode cX0_isAtRest 55 = .ok (.iload 5, 2) := by decide +kernel
theorem dX0_isAtRest_57 : decode cX0_isAtRest 57 = .ok (.iconst 3, 1) := by decide +kernel
theorem dX0_isAtRest_58 : decode cX0_isAtRest 58 = .ok (.iload_n 2, 1) := by decide +kernel
theorem dX0_isAtRest_59 : decode cX0_isAtRest 59 = .ok (.imul, 1) := by decide +kernel
theorem dX0_isAtRest_60 : decode cX0_isAtRest 60 = .ok (.ishl, 1) := by decide +kernel
theorem dX0_isAtRest_61 : decode cX0_isAtRest 61 = .ok (.ior, 1) := by decide +kernel
theorem dX0_isAtRest_62 : decode cX0_isAtRest 62 = .ok (.invokevirtual 56, 3) := by decide +kernel
theorem dX0_isAtRest_65 : decode cX0_isAtRest 65 = .ok (.iload_n 3, 1) := by decide +kernel
theorem dX0_isAtRest_66 : decode cX0_isAtRest 66 = .ok (.if_icmp .le 5, 3) := by decide +kernel
theorem dX0_isAtRest_69 : decode cX0_isAtRest 69 = .ok (.iconst 0, 1) := by decide +kernel
theorem dX0_isAtRest_70 : decode cX0_isAtRest 70 = .ok (.ireturn, 1) := by decide +kernel
theorem dX0_isAtRest_71 : decode cX0_isAtRest 71 = .ok (.iinc 5 1, 3) := by decide +kernel
theorem dX0_isAtRest_74 : decode cX0_isAtRest 74 = .ok (.goto (-37), 3) := by decide +kernel
theorem dX0_isAtRest_77 : decode cX0_isAtRest 77 = .ok (.iinc 2 1, 3) := by decide +kernel
theorem dX0_isAtRest_80 : decode cX0_isAtRest 80 = .ok (.goto (-78), 3) := by decide +kernel
theorem dX0_isAtRest_83 : decode cX0_isAtRest 83 = .ok (.iconst 1, 1) := by decide +kernel
theorem dX0_isAtRest_84 : decode cX0_isAtRest 84 = .ok (.ireturn, 1) := by decide +kernel
noncomputable def F_X0_isAtRest_37 (k77 : Nat → Int32 → Int32 → m_M → Option (Int32 × m_M)) : Nat → Nat → Int32 → Int32 → Int32 → Int32 → Int32 → m_M → Option (Int32 × m_M)
  | 0, _, _, _, _, _, _, _ => none
  | n + 1, v1, v2, v3, v4, v5, v6, M =>
    x_gN 0 M v1 0 fun v7 =>
    x_gN 3 M v7 6 fun v8 =>
    x_aI 12 M v8 (2 : Int32) fun v9 =>
    if v9 < v6 then (
      k77 v1 v2 v3 M
    ) else
    x_cV 0 M v1 (F_X0_gainOf v1 v3 (v5 ||| (v6 <<< (((3 : Int32) * v3) &&& 31))) M) fun v10 M1 =>
    if v10 ≤ v4 then (
      m_let (v6 + (1 : Int32)) fun v11 =>
      F_X0_isAtRest_37 k77 n v1 v2 v3 v4 v5 v11 M1
    ) else
    some ((0 : Int32), M1)
noncomputable def F_X0_isAtRest_2 : Nat → Nat → Int32 → Int32 → m_M → Option (Int32 × m_M)
  | 0, _, _, _, _ => none
  | n + 1, v1, v2, v3, M =>
    x_gN 0 M v1 0 fun v4 =>
    x_gN 3 M v4 6 fun v5 =>
    x_aI 12 M v5 (3 : Int32) fun v6 =>
    if v6 ≤ v3 then (
      some ((1 : Int32), M)
    ) else
    x_cV 0 M v1 (F_X0_gainOf v1 v3 v2 M) fun v7 M1 =>
    m_let (v2 &&& (((7 : Int32) <<< (((3 : Int32) * v3) &&& 31)) ^^^ (-1 : Int32))) fun v8 =>
    m_let (fun (v9 : Nat) (v10 : Int32) (v11 : Int32) (M2 : m_M) =>
      m_let (v11 + (1 : Int32)) fun v12 =>
      F_X0_isAtRest_2 n v9 v10 v12 M2
    ) fun (k77 : Nat → Int32 → Int32 → m_M → Option (Int32 × m_M)) =>
    F_X0_isAtRest_37 k77 m_FU v1 v2 v3 v7 v8 (0 : Int32) M1
noncomputable def F_X0_isAtRest (a0 : Nat) (a1 : Int32) (M : m_M) : Option (Int32 × m_M) :=
  F_X0_isAtRest_2 m_FU a0 a1 (0 : Int32) M
set_option maxHeartbeats 4000000 in
theorem L_X0_isAtRest_37 {X : j_X} {Φ : Option Value → m_M → Prop} (C : j_C X yX0_isAtRest cX0_isAtRest 6 (some .boolean) 3 0 0 Φ) {k77 : Nat → Int32 → Int32 → m_M → Option (Int32 × m_M)} (hk77 : ∀ (p0 : Nat) (p1 : Int32) (p2 : Int32) (M : m_M), m_ok e_I Φ (k77 p0 p1 p2 M) → j_J X 6 77 [some (.ref p0), some (.int p1), some (.int p2), none, none, none] [] (0, 0) M) : ∀ (n : Nat) (v1 : Nat) (v2 : Int32) (v3 : Int32) (v4 : Int32) (v5 : Int32) (v6 : Int32) (M : m_M), m_ok e_I Φ (F_X0_isAtRest_37 k77 n v1 v2 v3 v4 v5 v6 M) → j_J X 6 37 [some (.ref v1), some (.int v2), some (.int v3), some (.int v4), some (.int v5), some (.int v6)] [] (0, 0) M := by
  have C0 := C.1
  intro n
  induction n with
  | zero => intro v1 v2 v3 v4 v5 v6 M h; exact False.elim h
  | succ n ih =>
    intro v1 v2 v3 v4 v5 v6 M h
    rw [F_X0_isAtRest_37] at h
    refine j_iload C0 (pc := 37) dX0_isAtRest_37 rfl ?_
    refine j_aload_n C0 (pc := 39) dX0_isAtRest_39 rfl ?_
    refine X_gN C0 (pc := 40) f_Bell_18_0 rfl dX0_isAtRest_40 h (fun v7 h => ?_)
    refine X_gN C0 (pc := 43) f_Bell_22_3 rfl dX0_isAtRest_43 h (fun v8 h => ?_)
    refine j_iconst C0 (pc := 46) dX0_isAtRest_46 (v := (2 : Int32)) (by decide) ?_
    refine X_iald C0 (pc := 47) dX0_isAtRest_47 h (fun v9 h => ?_)
    refine j_icmp_gt C0 (pc := 48) (tgt := 77) dX0_isAtRest_48 (by decide) (fun hc => ?_) (fun hc => ?_)
    · replace h := (X_if h).1 hc
      exact j_J.wq (hk77 v1 v2 v3 M h) (And.intro rfl (And.intro rfl (And.intro rfl (trivial))))
    · replace h := (X_if h).2 hc
      refine j_aload_n C0 (pc := 51) dX0_isAtRest_51 rfl ?_
      refine j_iload_n C0 (pc := 52) dX0_isAtRest_52 rfl ?_
      refine j_iload C0 (pc := 53) dX0_isAtRest_53 rfl ?_
      refine j_iload C0 (pc := 55) dX0_isAtRest_55 rfl ?_
      refine j_iconst C0 (pc := 57) dX0_isAtRest_57 (v := (3 : Int32)) (by decide) ?_
      refine j_iload_n C0 (pc := 58) dX0_isAtRest_58 rfl ?_
      refine j_imul C0 (pc := 59) dX0_isAtRest_59 ?_
      refine j_ishl C0 (pc := 60) dX0_isAtRest_60 ?_
      refine j_ior C0 (pc := 61) dX0_isAtRest_61 ?_
      refine X_cV C0 (pc := 62) (e' := e_I) (as := [.int v3, .int (v5 ||| (v6 <<< (((3 : Int32) * v3) &&& 31)))]) (rest := []) (s' := fun w => .int w :: []) (g' := (0, 0)) v_Bell_56_0 (fun Ψ hΨ => K_X0_gainOf v1 v3 (v5 ||| (v6 <<< (((3 : Int32) * v3) &&& 31))) M Ψ hΨ) rfl rfl (fun _ => rfl) (by decide) (by decide) rfl (Nat.le_of_ble_eq_true rfl) dX0_isAtRest_62 h (fun v10 M1 h => ?_)
      refine j_iload_n C0 (pc := 65) dX0_isAtRest_65 rfl ?_
      refine j_icmp_le C0 (pc := 66) (tgt := 71) dX0_isAtRest_66 (by decide) (fun hc => ?_) (fun hc => ?_)
      · replace h := (X_if h).1 hc
        refine j_iinc C0 (pc := 71) dX0_isAtRest_71 (v := v6 + (1 : Int32)) rfl (Nat.le_of_ble_eq_true rfl) (by rfl) ?_
        refine X_let (G := fun w => j_J X 6 74 [some (.ref v1), some (.int v2), some (.int v3), some (.int v4), some (.int v5), some (.int w)] [] (0, 0) M1) h (fun v11 h => ?_)
        refine j_goto C0 (pc := 74) (tgt := 37) dX0_isAtRest_74 (by decide) ?_
        exact j_J.wq (ih v1 v2 v3 v4 v5 v11 M1 h) (And.intro rfl (And.intro rfl (And.intro rfl (And.intro rfl (And.intro rfl (And.intro rfl (trivial)))))))
      · replace h := (X_if h).2 hc
        refine j_iconst C0 (pc := 69) dX0_isAtRest_69 (v := (0 : Int32)) (by decide) ?_
        exact j_zret C rfl (by decide) h dX0_isAtRest_70 (by decide)
set_option maxHeartbeats 4000000 in
theorem L_X0_isAtRest_2 {X : j_X} {Φ : Option Value → m_M → Prop} (C : j_C X yX0_isAtRest cX0_isAtRest 6 (some .boolean) 3 0 0 Φ) : ∀ (n : Nat) (v1 : Nat) (v2 : Int32) (v3 : Int32) (M : m_M), m_ok e_I Φ (F_X0_isAtRest_2 n v1 v2 v3 M) → j_J X 6 2 [some (.ref v1), some (.int v2), some (.int v3), none, none, none] [] (0, 0) M := by
  have C0 := C.1
  intro n
  induction n with
  | zero => intro v1 v2 v3 M h; exact False.elim h
  | succ n ih =>
    intro v1 v2 v3 M h
    rw [F_X0_isAtRest_2] at h
    refine j_iload_n C0 (pc := 2) dX0_isAtRest_2 rfl ?_
    refine j_aload_n C0 (pc := 3) dX0_isAtRest_3 rfl ?_
    refine X_gN C0 (pc := 4) f_Bell_18_0 rfl dX0_isAtRest_4 h (fun v4 h => ?_)
    refine X_gN C0 (pc := 7) f_Bell_22_3 rfl dX0_isAtRest_7 h (fun v5 h => ?_)
    refine j_iconst C0 (pc := 10) dX0_isAtRest_10 (v := (3 : Int32)) (by decide) ?_
    refine X_iald C0 (pc := 11) dX0_isAtRest_11 h (fun v6 h => ?_)
    refine j_icmp_ge C0 (pc := 12) (tgt := 83) dX0_isAtRest_12 (by decide) (fun hc => ?_) (fun hc => ?_)
    · replace h := (X_if h).1 hc
      refine j_iconst C0 (pc := 83) dX0_isAtRest_83 (v := (1 : Int32)) (by decide) ?_
      exact j_zret C rfl (by decide) h dX0_isAtRest_84 (by decide)
    · replace h := (X_if h).2 hc
      refine j_aload_n C0 (pc := 15) dX0_isAtRest_15 rfl ?_
      refine j_iload_n C0 (pc := 16) dX0_isAtRest_16 rfl ?_
      refine j_iload_n C0 (pc := 17) dX0_isAtRest_17 rfl ?_
      refine X_cV C0 (pc := 18) (e' := e_I) (as := [.int v3, .int v2]) (rest := []) (s' := fun w => .int w :: []) (g' := (0, 0)) v_Bell_56_0 (fun Ψ hΨ => K_X0_gainOf v1 v3 v2 M Ψ hΨ) rfl rfl (fun _ => rfl) (by decide) (by decide) rfl (Nat.le_of_ble_eq_true rfl) dX0_isAtRest_18 h (fun v7 M1 h => ?_)
      refine j_istore_n C0 (pc := 21) dX0_isAtRest_21 (Nat.le_of_ble_eq_true rfl) ?_
      show j_J X 6 22 [some (.ref v1), some (.int v2), some (.int v3), some (.int v7), none, none] [] (0, 0) M1
      refine j_iload_n C0 (pc := 22) dX0_isAtRest_22 rfl ?_
      refine j_bipush C0 (pc := 23) dX0_isAtRest_23 (v := (7 : Int32)) (by decide) ?_
      refine j_iconst C0 (pc := 25) dX0_isAtRest_25 (v := (3 : Int32)) (by decide) ?_
      refine j_iload_n C0 (pc := 26) dX0_isAtRest_26 rfl ?_
      refine j_imul C0 (pc := 27) dX0_isAtRest_27 ?_
      refine j_ishl C0 (pc := 28) dX0_isAtRest_28 ?_
      refine j_iconst C0 (pc := 29) dX0_isAtRest_29 (v := (-1 : Int32)) (by decide) ?_
      refine j_ixor C0 (pc := 30) dX0_isAtRest_30 ?_
      refine j_iand C0 (pc := 31) dX0_isAtRest_31 ?_
      refine X_let (G := fun w => j_J X 6 32 [some (.ref v1), some (.int v2), some (.int v3), some (.int v7), none, none] (.int w :: []) (0, 0) M1) h (fun v8 h => ?_)
      refine j_istore C0 (pc := 32) dX0_isAtRest_32 (Nat.le_of_ble_eq_true rfl) ?_
      show j_J X 6 34 [some (.ref v1), some (.int v2), some (.int v3), some (.int v7), some (.int v8), none] [] (0, 0) M1
      refine j_iconst C0 (pc := 34) dX0_isAtRest_34 (v := (0 : Int32)) (by decide) ?_
      refine j_istore C0 (pc := 35) dX0_isAtRest_35 (Nat.le_of_ble_eq_true rfl) ?_
      show j_J X 6 37 [some (.ref v1), some (.int v2), some (.int v3), some (.int v7), some (.int v8), some (.int (0 : Int32))] [] (0, 0) M1
      refine X_join (fun (kj : Nat → Int32 → Int32 → m_M → Option (Int32 × m_M)) => ∀ (p0 : Nat) (p1 : Int32) (p2 : Int32) (M : m_M), m_ok e_I Φ (kj p0 p1 p2 M) → j_J X 6 77 [some (.ref p0), some (.int p1), some (.int p2), none, none, none] [] (0, 0) M) h (fun v9 v10 v11 M2 h => ?_) (fun k77 hk77 h => ?_)
      · refine j_iinc C0 (pc := 77) dX0_isAtRest_77 (v := v11 + (1 : Int32)) rfl (Nat.le_of_ble_eq_true rfl) (by rfl) ?_
        refine X_let (G := fun w => j_J X 6 80 [some (.ref v9), some (.int v10), some (.int w), none, none, none] [] (0, 0) M2) h (fun v12 h => ?_)
        refine j_goto C0 (pc := 80) (tgt := 2) dX0_isAtRest_80 (by decide) ?_
        exact j_J.wq (ih v9 v10 v12 M2 h) (And.intro rfl (And.intro rfl (And.intro rfl (trivial))))
      · exact j_J.wq (L_X0_isAtRest_37 C hk77 m_FU v1 v2 v3 v7 v8 (0 : Int32) M1 h) (And.intro rfl (And.intro rfl (And.intro rfl (And.intro rfl (And.intro rfl (And.intro rfl (trivial)))))))
set_option maxHeartbeats 4000000 in
theorem K_X0_isAtRest (a0 : Nat) (a1 : Int32) (M : m_M) (Φ : Option Value → m_M → Prop) (h : m_ok e_I Φ (F_X0_isAtRest a0 a1 M)) : j_Ct yX0_isAtRest cX0_isAtRest 6 (some .boolean) 3 0 0 [.ref a0, .int a1] M Φ := by
  refine j_Ct.of (by decide +kernel) (Nat.le_of_ble_eq_true rfl) fun X C => ?_
  have C0 := C.1
  show j_J X 6 0 [some (.ref a0), some (.int a1), none, none, none, none] [] (0, 0) M
  unfold F_X0_isAtRest at h
  refine j_iconst C0 (pc := 0) dX0_isAtRest_0 (v := (0 : Int32)) (by decide) ?_
  refine j_istore_n C0 (pc := 1) dX0_isAtRest_1 (Nat.le_of_ble_eq_true rfl) ?_
  show j_J X 6 2 [some (.ref a0), some (.int a1), some (.int (0 : Int32)), none, none, none] [] (0, 0) M
  exact j_J.wq (L_X0_isAtRest_2 C m_FU a0 a1 (0 : Int32) M h) (And.intro rfl (And.intro rfl (And.intro rfl (trivial))))
theorem dX0_findRest_0 : decode cX0_findRest 0 = .ok (.aload_n 0, 1) := by decide +kernel
theorem dX0_findRest_1 : decode cX0_findRest 1 = .ok (.invokevirtual 27, 3) := by decide +kernel
theorem dX0_findRest_4 : decode cX0_findRest 4 = .ok (.sipush 512, 3) := by decide +kernel
theorem dX0_findRest_7 : decode cX0_findRest 7 = .ok (.invokestatic 41, 3) := by decide +kernel
theorem dX0_findRest_10 : decode cX0_findRest 10 = .ok (.istore_n 3, 1) := by decide +kernel
theorem dX0_findRest_11 : decode cX0_findRest 11 = .ok (.iconst 0, 1) := by decide +kernel
theorem dX0_findRest_12 : decode cX0_findRest 12 = .ok (.istore 4, 2) := by decide +kernel
theorem dX0_findRest_14 : decode cX0_findRest 14 = .ok (.iload 4, 2) := by decide +kernel
theorem dX0_findRest_16 : decode cX0_findRest 16 = .ok (.iload_n 3, 1) := by decide +kernel
theorem dX0_findRest_17 : decode cX0_findRest 17 = .ok (.if_icmp .ge 23, 3) := by decide +kernel
theorem dX0_findRest_20 : decode cX0_findRest 20 = .ok (.aload_n 0, 1) := by decide +kernel
theorem dX0_findRest_21 : decode cX0_findRest 21 = .ok (.getfield 11, 3) := by decide +kernel
theorem dX0_findRest_24 : decode cX0_findRest 24 = .ok (.iload 4, 2) := by decide +kernel
theorem dX0_findRest_26 : decode cX0_findRest 26 = .ok (.aload_n 0, 1) := by decide +kernel
theorem dX0_findRest_27 : decode cX0_findRest 27 = .ok (.iload 4, 2) := by decide +kernel
theorem dX0_findRest_29 : decode cX0_findRest 29 = .ok (.iload_n 2, 1) := by decide +kernel
theorem dX0_findRest_30 : decode cX0_findRest 30 = .ok (.invokevirtual 46, 3) := by decide +kernel
theorem dX0_findRest_33 : decode cX0_findRest 33 = .ok (.iastore, 1) := by decide +kernel
theorem dX0_findRest_34 : decode cX0_findRest 34 = .ok (.iinc 4 1, 3) := by decide +kernel
theorem dX0_findRest_37 : decode cX0_findRest 37 = .ok (.goto (-23), 3) := by decide +kernel
theorem dX0_findRest_40 : decode cX0_findRest 40 = .ok (.iconst 0, 1) := by decide +kernel
theorem dX0_findRest_41 : decode cX0_findRest 41 = .ok (.istore 4, 2) := by decide +kernel
theorem dX0_findRest_43 : decode cX0_findRest 43 = .ok (.iconst 0, 1) := by decide +kernel
theorem dX0_findRest_44 : decode cX0_findRest 44 = .ok (.istore 5, 2) := by decide +kernel
theorem dX0_findRest_46 : decode cX0_findRest 46 = .ok (.iload 5, 2) := by decide +kernel
theorem dX0_findRest_48 : decode cX0_findRest 48 = .ok (.iload_n 3, 1) := by decide +kernel
theorem dX0_findRest_49 : decode cX0_findRest 49 = .ok (.if_icmp .ge 39, 3) := by decide +kernel
theorem dX0_findRest_52 : decode cX0_findRest 52 = .ok (.aload_n 0, 1) := by decide +kernel
theorem dX0_findRest_53 : decode cX0_findRest 53 = .ok (.iload 5, 2) := by decide +kernel
theorem dX0_findRest_55 : decode cX0_findRest 55 = .ok (.invokevirtual 49, 3) := by decide +kernel
theorem dX0_findRest_58 : decode cX0_findRest 58 = .ok (.ifCond .eq 24, 3) := by decide +kernel
theorem dX0_findRest_61 : decode cX0_findRest 61 = .ok (.aload_n 0, 1) := by decide +kernel
theorem dX0_findRest_62 : decode cX0_findRest 62 = .ok (.iload 5, 2) := by decide +kernel
theorem dX0_findRest_64 : decode cX0_findRest 64 = .ok (.invokevirtual 53, 3) := by decide +kernel
theorem dX0_findRest_67 : decode cX0_findRest 67 = .ok (.ifCond .eq 15, 3) := by decide +kernel
theorem dX0_findRest_70 : decode cX0_findRest 70 = .ok (.iload 4, 2) := by decide +kernel
theorem dX0_findRest_72 : decode cX0_findRest 72 = .ok (.iload_n 1, 1) := by decide +kernel
theorem dX0_findRest_73 : decode cX0_findRest 73 = .ok (.if_icmp .ne 6, 3) := by decide +kernel
theorem dX0_findRest_76 : decode cX0_findRest 76 = .ok (.iload 5, 2) := by decide +kernel
theorem dX0_findRest_78 : decode cX0_findRest 78 = .ok (.ireturn, 1) := by decide +kernel
theorem dX0_findRest_79 : decode cX0_findRest 79 = .ok (.iinc 4 1, 3) := by decide +kernel
theorem dX0_findRest_82 : decode cX0_findRest 82 = .ok (.iinc 5 1, 3) := by decide +kernel
theorem dX0_findRest_85 : decode cX0_findRest 85 = .ok (.goto (-39), 3) := by decide +kernel
theorem dX0_findRest_88 : decode cX0_findRest 88 = .ok (.iload_n 1, 1) := by decide +kernel
theorem dX0_findRest_89 : decode cX0_findRest 89 = .ok (.iconst (-1), 1) := by decide +kernel
theorem dX0_findRest_90 : decode cX0_findRest 90 = .ok (.if_icmp .ne 8, 3) := by decide +kernel
theorem dX0_findRest_93 : decode cX0_findRest 93 = .ok (.iload 4, 2) := by decide +kernel
theorem dX0_findRest_95 : decode cX0_findRest 95 = .ok (.goto 4, 3) := by decide +kernel
theorem dX0_findRest_98 : decode cX0_findRest 98 = .ok (.iconst (-1), 1) := by decide +kernel
theorem dX0_findRest_99 : decode cX0_findRest 99 = .ok (.ireturn, 1) := by decide +kernel
noncomputable def F_X0_findRest_46 (k88 : Int32 → Int32 → m_M → Option (Int32 × m_M)) : Nat → Nat → Int32 → Int32 → Int32 → Int32 → m_M → Option (Int32 × m_M)
  | 0, _, _, _, _, _, _ => none
  | n + 1, v1, v2, v3, v4, v5, M =>
    if v3 ≤ v5 then (
      k88 v2 v4 M
    ) else
    m_let (fun (v6 : Nat) (v7 : Int32) (v8 : Int32) (v9 : Int32) (v10 : Int32) (M1 : m_M) =>
      m_let (v10 + (1 : Int32)) fun v11 =>
      F_X0_findRest_46 k88 n v6 v7 v8 v9 v11 M1
    ) fun (k82 : Nat → Int32 → Int32 → Int32 → Int32 → m_M → Option (Int32 × m_M)) =>
    x_cV 0 M v1 (F_X0_areChoices v1 v5 M) fun v12 M2 =>
    if v12 = 0 then (
      k82 v1 v2 v3 v4 v5 M2
    ) else
    x_cV 0 M2 v1 (F_X0_isAtRest v1 v5 M2) fun v13 M3 =>
    if v13 = 0 then (
      k82 v1 v2 v3 v4 v5 M3
    ) else
    if v4 = v2 then (
      some (v5, M3)
    ) else
    m_let (v4 + (1 : Int32)) fun v14 =>
    k82 v1 v2 v3 v14 v5 M3
noncomputable def F_X0_findRest_14 (k40 : Nat → Int32 → Int32 → m_M → Option (Int32 × m_M)) : Nat → Nat → Int32 → Int32 → Int32 → Int32 → m_M → Option (Int32 × m_M)
  | 0, _, _, _, _, _, _ => none
  | n + 1, v1, v2, v3, v4, v5, M =>
    if v4 ≤ v5 then (
      k40 v1 v2 v4 M
    ) else
    x_gN 0 M v1 1 fun v6 =>
    x_cV 0 M v1 (F_X0_verbRung v1 v5 v3 M) fun v7 M1 =>
    x_sI 12 M1 v6 v5 v7 fun M2 =>
    m_let (v5 + (1 : Int32)) fun v8 =>
    F_X0_findRest_14 k40 n v1 v2 v3 v4 v8 M2
noncomputable def F_X0_findRest (a0 : Nat) (a1 : Int32) (a2 : Int32) (M : m_M) : Option (Int32 × m_M) :=
  x_cV 0 M a0 (F_X0_choiceMany a0 M) fun v1 M1 =>
  x_bd (F_J9_min_7cf53 v1 (512 : Int32) M1) fun v2 M2 =>
  m_let (fun (v3 : Nat) (v4 : Int32) (v5 : Int32) (M3 : m_M) =>
    m_let (fun (v6 : Int32) (v7 : Int32) (M4 : m_M) =>
      if v6 = (-1 : Int32) then (
        some (v7, M4)
      ) else
      some ((-1 : Int32), M4)
    ) fun (k88 : Int32 → Int32 → m_M → Option (Int32 × m_M)) =>
    F_X0_findRest_46 k88 m_FU v3 v4 v5 (0 : Int32) (0 : Int32) M3
  ) fun (k40 : Nat → Int32 → Int32 → m_M → Option (Int32 × m_M)) =>
  F_X0_findRest_14 k40 m_FU a0 a1 a2 v2 (0 : Int32) M2
set_option maxHeartbeats 4000000 in
theorem L_X0_findRest_46 {X : j_X} {Φ : Option Value → m_M → Prop} (C : j_C X yX0_findRest cX0_findRest 6 (some .int) 4 0 0 Φ) {k88 : Int32 → Int32 → m_M → Option (Int32 × m_M)} (hk88 : ∀ (p0 : Int32) (p1 : Int32) (M : m_M), m_ok e_I Φ (k88 p0 p1 M) → j_J X 6 88 [none, some (.int p0), none, none, some (.int p1), none] [] (0, 0) M) : ∀ (n : Nat) (v1 : Nat) (v2 : Int32) (v3 : Int32) (v4 : Int32) (v5 : Int32) (M : m_M), m_ok e_I Φ (F_X0_findRest_46 k88 n v1 v2 v3 v4 v5 M) → j_J X 6 46 [some (.ref v1), some (.int v2), none, some (.int v3), some (.int v4), some (.int v5)] [] (0, 0) M := by
  have C0 := C.1
  intro n
  induction n with
  | zero => intro v1 v2 v3 v4 v5 M h; exact False.elim h
  | succ n ih =>
    intro v1 v2 v3 v4 v5 M h
    rw [F_X0_findRest_46] at h
    refine j_iload C0 (pc := 46) dX0_findRest_46 rfl ?_
    refine j_iload_n C0 (pc := 48) dX0_findRest_48 rfl ?_
    refine j_icmp_ge C0 (pc := 49) (tgt := 88) dX0_findRest_49 (by decide) (fun hc => ?_) (fun hc => ?_)
    · replace h := (X_if h).1 hc
      exact j_J.wq (hk88 v2 v4 M h) (And.intro rfl (And.intro rfl (trivial)))
    · replace h := (X_if h).2 hc
      refine X_join (fun (kj : Nat → Int32 → Int32 → Int32 → Int32 → m_M → Option (Int32 × m_M)) => ∀ (p0 : Nat) (p1 : Int32) (p2 : Int32) (p3 : Int32) (p4 : Int32) (M : m_M), m_ok e_I Φ (kj p0 p1 p2 p3 p4 M) → j_J X 6 82 [some (.ref p0), some (.int p1), none, some (.int p2), some (.int p3), some (.int p4)] [] (0, 0) M) h (fun v6 v7 v8 v9 v10 M1 h => ?_) (fun k82 hk82 h => ?_)
      · refine j_iinc C0 (pc := 82) dX0_findRest_82 (v := v10 + (1 : Int32)) rfl (Nat.le_of_ble_eq_true rfl) (by rfl) ?_
        refine X_let (G := fun w => j_J X 6 85 [some (.ref v6), some (.int v7), none, some (.int v8), some (.int v9), some (.int w)] [] (0, 0) M1) h (fun v11 h => ?_)
        refine j_goto C0 (pc := 85) (tgt := 46) dX0_findRest_85 (by decide) ?_
        exact j_J.wq (ih v6 v7 v8 v9 v11 M1 h) (And.intro rfl (And.intro rfl (And.intro rfl (And.intro rfl (And.intro rfl (trivial))))))
      · refine j_aload_n C0 (pc := 52) dX0_findRest_52 rfl ?_
        refine j_iload C0 (pc := 53) dX0_findRest_53 rfl ?_
        refine X_cV C0 (pc := 55) (e' := e_I) (as := [.int v5]) (rest := []) (s' := fun w => .int w :: []) (g' := (0, 0)) v_Bell_49_0 (fun Ψ hΨ => K_X0_areChoices v1 v5 M Ψ hΨ) rfl rfl (fun _ => rfl) (by decide) (by decide) rfl (Nat.le_of_ble_eq_true rfl) dX0_findRest_55 h (fun v12 M2 h => ?_)
        refine j_if_eq C0 (pc := 58) (tgt := 82) dX0_findRest_58 (by decide) (fun hc => ?_) (fun hc => ?_)
        · replace h := (X_if h).1 hc
          exact j_J.wq (hk82 v1 v2 v3 v4 v5 M2 h) (And.intro rfl (And.intro rfl (And.intro rfl (And.intro rfl (And.intro rfl (trivial))))))
        · replace h := (X_if h).2 hc
          refine j_aload_n C0 (pc := 61) dX0_findRest_61 rfl ?_
          refine j_iload C0 (pc := 62) dX0_findRest_62 rfl ?_
          refine X_cV C0 (pc := 64) (e' := e_I) (as := [.int v5]) (rest := []) (s' := fun w => .int w :: []) (g' := (0, 0)) v_Bell_53_0 (fun Ψ hΨ => K_X0_isAtRest v1 v5 M2 Ψ hΨ) rfl rfl (fun _ => rfl) (by decide) (by decide) rfl (Nat.le_of_ble_eq_true rfl) dX0_findRest_64 h (fun v13 M3 h => ?_)
          refine j_if_eq C0 (pc := 67) (tgt := 82) dX0_findRest_67 (by decide) (fun hc => ?_) (fun hc => ?_)
          · replace h := (X_if h).1 hc
            exact j_J.wq (hk82 v1 v2 v3 v4 v5 M3 h) (And.intro rfl (And.intro rfl (And.intro rfl (And.intro rfl (And.intro rfl (trivial))))))
          · replace h := (X_if h).2 hc
            refine j_iload C0 (pc := 70) dX0_findRest_70 rfl ?_
            refine j_iload_n C0 (pc := 72) dX0_findRest_72 rfl ?_
            refine j_icmp_ne C0 (pc := 73) (tgt := 79) dX0_findRest_73 (by decide) (fun hc => ?_) (fun hc => ?_)
            · replace h := (X_if h).2 hc
              refine j_iinc C0 (pc := 79) dX0_findRest_79 (v := v4 + (1 : Int32)) rfl (Nat.le_of_ble_eq_true rfl) (by rfl) ?_
              refine X_let (G := fun w => j_J X 6 82 [some (.ref v1), some (.int v2), none, some (.int v3), some (.int w), some (.int v5)] [] (0, 0) M3) h (fun v14 h => ?_)
              exact j_J.wq (hk82 v1 v2 v3 v14 v5 M3 h) (And.intro rfl (And.intro rfl (And.intro rfl (And.intro rfl (And.intro rfl (trivial))))))
            · replace h := (X_if h).1 hc
              refine j_iload C0 (pc := 76) dX0_findRest_76 rfl ?_
              exact j_iret C rfl h dX0_findRest_78 (by decide)
set_option maxHeartbeats 4000000 in
theorem L_X0_findRest_14 {X : j_X} {Φ : Option Value → m_M → Prop} (C : j_C X yX0_findRest cX0_findRest 6 (some .int) 4 0 0 Φ) {k40 : Nat → Int32 → Int32 → m_M → Option (Int32 × m_M)} (hk40 : ∀ (p0 : Nat) (p1 : Int32) (p2 : Int32) (M : m_M), m_ok e_I Φ (k40 p0 p1 p2 M) → j_J X 6 40 [some (.ref p0), some (.int p1), none, some (.int p2), none, none] [] (0, 0) M) : ∀ (n : Nat) (v1 : Nat) (v2 : Int32) (v3 : Int32) (v4 : Int32) (v5 : Int32) (M : m_M), m_ok e_I Φ (F_X0_findRest_14 k40 n v1 v2 v3 v4 v5 M) → j_J X 6 14 [some (.ref v1), some (.int v2), some (.int v3), some (.int v4), some (.int v5), none] [] (0, 0) M := by
  have C0 := C.1
  intro n
  induction n with
  | zero => intro v1 v2 v3 v4 v5 M h; exact False.elim h
  | succ n ih =>
    intro v1 v2 v3 v4 v5 M h
    rw [F_X0_findRest_14] at h
    refine j_iload C0 (pc := 14) dX0_findRest_14 rfl ?_
    refine j_iload_n C0 (pc := 16) dX0_findRest_16 rfl ?_
    refine j_icmp_ge C0 (pc := 17) (tgt := 40) dX0_findRest_17 (by decide) (fun hc => ?_) (fun hc => ?_)
    · replace h := (X_if h).1 hc
      exact j_J.wq (hk40 v1 v2 v4 M h) (And.intro rfl (And.intro rfl (And.intro rfl (trivial))))
    · replace h := (X_if h).2 hc
      refine j_aload_n C0 (pc := 20) dX0_findRest_20 rfl ?_
      refine X_gN C0 (pc := 21) f_Bell_11_0 rfl dX0_findRest_21 h (fun v6 h => ?_)
      refine j_iload C0 (pc := 24) dX0_findRest_24 rfl ?_
      refine j_aload_n C0 (pc := 26) dX0_findRest_26 rfl ?_
      refine j_iload C0 (pc := 27) dX0_findRest_27 rfl ?_
      refine j_iload_n C0 (pc := 29) dX0_findRest_29 rfl ?_
      refine X_cV C0 (pc := 30) (e' := e_I) (as := [.int v5, .int v3]) (rest := [.int v5, .ref v6]) (s' := fun w => .int w :: [.int v5, .ref v6]) (g' := (0, 0)) v_Bell_46_0 (fun Ψ hΨ => K_X0_verbRung v1 v5 v3 M Ψ hΨ) rfl rfl (fun _ => rfl) (by decide) (by decide) rfl (Nat.le_of_ble_eq_true rfl) dX0_findRest_30 h (fun v7 M1 h => ?_)
      refine X_iast C0 (pc := 33) dX0_findRest_33 h (fun M2 h => ?_)
      refine j_iinc C0 (pc := 34) dX0_findRest_34 (v := v5 + (1 : Int32)) rfl (Nat.le_of_ble_eq_true rfl) (by rfl) ?_
      refine X_let (G := fun w => j_J X 6 37 [some (.ref v1), some (.int v2), some (.int v3), some (.int v4), some (.int w), none] [] (0, 0) M2) h (fun v8 h => ?_)
      refine j_goto C0 (pc := 37) (tgt := 14) dX0_findRest_37 (by decide) ?_
      exact j_J.wq (ih v1 v2 v3 v4 v8 M2 h) (And.intro rfl (And.intro rfl (And.intro rfl (And.intro rfl (And.intro rfl (trivial))))))
set_option maxHeartbeats 4000000 in
theorem K_X0_findRest (a0 : Nat) (a1 : Int32) (a2 : Int32) (M : m_M) (Φ : Option Value → m_M → Prop) (h : m_ok e_I Φ (F_X0_findRest a0 a1 a2 M)) : j_Ct yX0_findRest cX0_findRest 6 (some .int) 4 0 0 [.ref a0, .int a1, .int a2] M Φ := by
  refine j_Ct.of (by decide +kernel) (Nat.le_of_ble_eq_true rfl) fun X C => ?_
  have C0 := C.1
  show j_J X 6 0 [some (.ref a0), some (.int a1), some (.int a2), none, none, none] [] (0, 0) M
  unfold F_X0_findRest at h
  refine j_aload_n C0 (pc := 0) dX0_findRest_0 rfl ?_
  refine X_cV C0 (pc := 1) (e' := e_I) (as := []) (rest := []) (s' := fun w => .int w :: []) (g' := (0, 0)) v_Bell_27_0 (fun Ψ hΨ => K_X0_choiceMany a0 M Ψ hΨ) rfl rfl (fun _ => rfl) (by decide) (by decide) rfl (Nat.le_of_ble_eq_true rfl) dX0_findRest_1 h (fun v1 M1 h => ?_)
  refine j_sipush C0 (pc := 4) dX0_findRest_4 (v := (512 : Int32)) (by decide) ?_
  refine X_cS C0 (pc := 7) (e' := e_I) (as := [.int v1, .int (512 : Int32)]) (rest := []) (s' := fun w => .int w :: []) (g' := (0, 0)) s_Bell_41 (fun Ψ hΨ => K_J9_min_7cf53 v1 (512 : Int32) M1 Ψ hΨ) rfl rfl (fun _ => rfl) (by decide) (by decide) rfl (Nat.le_of_ble_eq_true rfl) dX0_findRest_7 h (fun v2 M2 h => ?_)
  refine j_istore_n C0 (pc := 10) dX0_findRest_10 (Nat.le_of_ble_eq_true rfl) ?_
  show j_J X 6 11 [some (.ref a0), some (.int a1), some (.int a2), some (.int v2), none, none] [] (0, 0) M2
  refine j_iconst C0 (pc := 11) dX0_findRest_11 (v := (0 : Int32)) (by decide) ?_
  refine j_istore C0 (pc := 12) dX0_findRest_12 (Nat.le_of_ble_eq_true rfl) ?_
  show j_J X 6 14 [some (.ref a0), some (.int a1), some (.int a2), some (.int v2), some (.int (0 : Int32)), none] [] (0, 0) M2
  refine X_join (fun (kj : Nat → Int32 → Int32 → m_M → Option (Int32 × m_M)) => ∀ (p0 : Nat) (p1 : Int32) (p2 : Int32) (M : m_M), m_ok e_I Φ (kj p0 p1 p2 M) → j_J X 6 40 [some (.ref p0), some (.int p1), none, some (.int p2), none, none] [] (0, 0) M) h (fun v3 v4 v5 M3 h => ?_) (fun k40 hk40 h => ?_)
  · refine j_iconst C0 (pc := 40) dX0_findRest_40 (v := (0 : Int32)) (by decide) ?_
    refine j_istore C0 (pc := 41) dX0_findRest_41 (Nat.le_of_ble_eq_true rfl) ?_
    show j_J X 6 43 [some (.ref v3), some (.int v4), none, some (.int v5), some (.int (0 : Int32)), none] [] (0, 0) M3
    refine j_iconst C0 (pc := 43) dX0_findRest_43 (v := (0 : Int32)) (by decide) ?_
    refine j_istore C0 (pc := 44) dX0_findRest_44 (Nat.le_of_ble_eq_true rfl) ?_
    show j_J X 6 46 [some (.ref v3), some (.int v4), none, some (.int v5), some (.int (0 : Int32)), some (.int (0 : Int32))] [] (0, 0) M3
    refine X_join (fun (kj : Int32 → Int32 → m_M → Option (Int32 × m_M)) => ∀ (p0 : Int32) (p1 : Int32) (M : m_M), m_ok e_I Φ (kj p0 p1 M) → j_J X 6 88 [none, some (.int p0), none, none, some (.int p1), none] [] (0, 0) M) h (fun v6 v7 M4 h => ?_) (fun k88 hk88 h => ?_)
    · refine j_iload_n C0 (pc := 88) dX0_findRest_88 rfl ?_
      refine j_iconst C0 (pc := 89) dX0_findRest_89 (v := (-1 : Int32)) (by decide) ?_
      refine j_icmp_ne C0 (pc := 90) (tgt := 98) dX0_findRest_90 (by decide) (fun hc => ?_) (fun hc => ?_)
      · replace h := (X_if h).2 hc
        refine j_iconst C0 (pc := 98) dX0_findRest_98 (v := (-1 : Int32)) (by decide) ?_
        exact j_iret C rfl h dX0_findRest_99 (by decide)
      · replace h := (X_if h).1 hc
        refine j_iload C0 (pc := 93) dX0_findRest_93 rfl ?_
        refine j_goto C0 (pc := 95) (tgt := 99) dX0_findRest_95 (by decide) ?_
        exact j_iret C rfl h dX0_findRest_99 (by decide)
    · exact j_J.wq (L_X0_findRest_46 C hk88 m_FU v3 v4 v5 (0 : Int32) (0 : Int32) M3 h) (And.intro rfl (And.intro rfl (And.intro rfl (And.intro rfl (And.intro rfl (trivial))))))
  · exact j_J.wq (L_X0_findRest_14 C hk40 m_FU a0 a1 a2 v2 (0 : Int32) M2 h) (And.intro rfl (And.intro rfl (And.intro rfl (And.intro rfl (And.intro rfl (trivial))))))
theorem dX11_rests_0 : decode cX11_rests 0 = .ok (.iload_n 1, 1) := by decide +kernel
theorem dX11_rests_1 : decode cX11_rests 1 = .ok (.iconst (-1), 1) := by decide +kernel
theorem dX11_rests_2 : decode cX11_rests 2 = .ok (.if_icmp .lt 15, 3) := by decide +kernel
theorem dX11_rests_5 : decode cX11_rests 5 = .ok (.aload_n 0, 1) := by decide +kernel
theorem dX11_rests_6 : decode cX11_rests 6 = .ok (.getfield 16, 3) := by decide +kernel
theorem dX11_rests_9 : decode cX11_rests 9 = .ok (.getfield 279, 3) := by decide +kernel
theorem dX11_rests_12 : decode cX11_rests 12 = .ok (.iconst 3, 1) := by decide +kernel
theorem dX11_rests_13 : decode cX11_rests 13 = .ok (.iaload, 1) := by decide +kernel
theorem dX11_rests_14 : decode cX11_rests 14 = .ok (.ifCond .ne 5, 3) := by decide +kernel
theorem dX11_rests_17 : decode cX11_rests 17 = .ok (.iconst (-1), 1) := by decide +kernel
theorem dX11_rests_18 : decode cX11_rests 18 = .ok (.ireturn, 1) := by decide +kernel
theorem dX11_rests_19 : decode cX11_rests 19 = .ok (.aload_n 0, 1) := by decide +kernel
theorem dX11_rests_20 : decode cX11_rests 20 = .ok (.getfield 58, 3) := by decide +kernel
theorem dX11_rests_23 : decode cX11_rests 23 = .ok (.iload_n 1, 1) := by decide +kernel
theorem dX11_rests_24 : decode cX11_rests 24 = .ok (.aload_n 0, 1) := by decide +kernel
theorem dX11_rests_25 : decode cX11_rests 25 = .ok (.getfield 16, 3) := by decide +kernel
theorem dX11_rests_28 : decode cX11_rests 28 = .ok (.aload_n 0, 1) := by decide +kernel
theorem dX11_rests_29 : decode cX11_rests 29 = .ok (.getfield 65, 3) := by decide +kernel
theorem dX11_rests_32 : decode cX11_rests 32 = .ok (.getfield 119, 3) := by decide +kernel
theorem dX11_rests_35 : decode cX11_rests 35 = .ok (.iconst 1, 1) := by decide +kernel
theorem dX11_rests_36 : decode cX11_rests 36 = .ok (.iadd, 1) := by decide +kernel
theorem dX11_rests_37 : decode cX11_rests 37 = .ok (.invokevirtual 162, 3) := by decide +kernel
theorem dX11_rests_40 : decode cX11_rests 40 = .ok (.invokevirtual 282, 3) := by decide +kernel
theorem dX11_rests_43 : decode cX11_rests 43 = .ok (.ireturn, 1) := by decide +kernel
noncomputable def F_X11_rests (a0 : Nat) (a1 : Int32) (M : m_M) : Option (Int32 × m_M) :=
  if a1 < (-1 : Int32) then (
    some ((-1 : Int32), M)
  ) else
  x_gN 9 M a0 2 fun v1 =>
  x_gN 3 M v1 6 fun v2 =>
  x_aI 12 M v2 (3 : Int32) fun v3 =>
  if v3 = 0 then (
    some ((-1 : Int32), M)
  ) else
  x_gN 9 M a0 8 fun v4 =>
  x_gN 9 M a0 2 fun v5 =>
  x_gN 9 M a0 9 fun v6 =>
  x_gI 1 M v6 0 fun v7 =>
  x_cV 3 M v5 (F_X3_verbOf v5 (v7 + (1 : Int32)) M) fun v8 M1 =>
  x_cV 0 M1 v4 (F_X0_findRest v4 a1 v8 M1) fun v9 M2 =>
  some (v9, M2)
set_option maxHeartbeats 4000000 in
theorem K_X11_rests (a0 : Nat) (a1 : Int32) (M : m_M) (Φ : Option Value → m_M → Prop) (h : m_ok e_I Φ (F_X11_rests a0 a1 M)) : j_Ct yX11_rests cX11_rests 2 (some .int) 5 0 0 [.ref a0, .int a1] M Φ := by
  refine j_Ct.of (by decide +kernel) (Nat.le_of_ble_eq_true rfl) fun X C => ?_
  have C0 := C.1
  show j_J X 2 0 [some (.ref a0), some (.int a1)] [] (0, 0) M
  unfold F_X11_rests at h
  refine j_iload_n C0 (pc := 0) dX11_rests_0 rfl ?_
  refine j_iconst C0 (pc := 1) dX11_rests_1 (v := (-1 : Int32)) (by decide) ?_
  refine j_icmp_lt C0 (pc := 2) (tgt := 17) dX11_rests_2 (by decide) (fun hc => ?_) (fun hc => ?_)
  · replace h := (X_if h).1 hc
    refine j_iconst C0 (pc := 17) dX11_rests_17 (v := (-1 : Int32)) (by decide) ?_
    exact j_iret C rfl h dX11_rests_18 (by decide)
  · replace h := (X_if h).2 hc
    refine j_aload_n C0 (pc := 5) dX11_rests_5 rfl ?_
    refine X_gN C0 (pc := 6) f_OV_16_9 rfl dX11_rests_6 h (fun v1 h => ?_)
    refine X_gN C0 (pc := 9) f_OV_279_3 rfl dX11_rests_9 h (fun v2 h => ?_)
    refine j_iconst C0 (pc := 12) dX11_rests_12 (v := (3 : Int32)) (by decide) ?_
    refine X_iald C0 (pc := 13) dX11_rests_13 h (fun v3 h => ?_)
    refine j_if_ne C0 (pc := 14) (tgt := 19) dX11_rests_14 (by decide) (fun hc => ?_) (fun hc => ?_)
    · replace h := (X_if h).2 hc
      refine j_aload_n C0 (pc := 19) dX11_rests_19 rfl ?_
      refine X_gN C0 (pc := 20) f_OV_58_9 rfl dX11_rests_20 h (fun v4 h => ?_)
      refine j_iload_n C0 (pc := 23) dX11_rests_23 rfl ?_
      refine j_aload_n C0 (pc := 24) dX11_rests_24 rfl ?_
      refine X_gN C0 (pc := 25) f_OV_16_9 rfl dX11_rests_25 h (fun v5 h => ?_)
      refine j_aload_n C0 (pc := 28) dX11_rests_28 rfl ?_
      refine X_gN C0 (pc := 29) f_OV_65_9 rfl dX11_rests_29 h (fun v6 h => ?_)
      refine X_gI C0 (pc := 32) f_OV_119_1 rfl dX11_rests_32 h (fun v7 h => ?_)
      refine j_iconst C0 (pc := 35) dX11_rests_35 (v := (1 : Int32)) (by decide) ?_
      refine j_iadd C0 (pc := 36) dX11_rests_36 ?_
      refine X_cV C0 (pc := 37) (e' := e_I) (as := [.int (v7 + (1 : Int32))]) (rest := [.int a1, .ref v4]) (s' := fun w => .int w :: [.int a1, .ref v4]) (g' := (0, 0)) v_OV_162_3 (fun Ψ hΨ => K_X3_verbOf v5 (v7 + (1 : Int32)) M Ψ hΨ) rfl rfl (fun _ => rfl) (by decide) (by decide) rfl (Nat.le_of_ble_eq_true rfl) dX11_rests_37 h (fun v8 M1 h => ?_)
      refine X_cV C0 (pc := 40) (e' := e_I) (as := [.int a1, .int v8]) (rest := []) (s' := fun w => .int w :: []) (g' := (0, 0)) v_OV_282_0 (fun Ψ hΨ => K_X0_findRest v4 a1 v8 M1 Ψ hΨ) rfl rfl (fun _ => rfl) (by decide) (by decide) rfl (Nat.le_of_ble_eq_true rfl) dX11_rests_40 h (fun v9 M2 h => ?_)
      exact j_iret C rfl h dX11_rests_43 (by decide)
    · replace h := (X_if h).1 hc
      refine j_iconst C0 (pc := 17) dX11_rests_17 (v := (-1 : Int32)) (by decide) ?_
      exact j_iret C rfl h dX11_rests_18 (by decide)
theorem dX2_isClauseMeant_0 : decode cX2_isClauseMeant 0 = .ok (.aload_n 0, 1) := by decide +kernel
theorem dX2_isClauseMeant_1 : decode cX2_isClauseMeant 1 = .ok (.getfield 38, 3) := by decide +kernel
theorem dX2_isClauseMeant_4 : decode cX2_isClauseMeant 4 = .ok (.iload_n 2, 1) := by decide +kernel
theorem dX2_isClauseMeant_5 : decode cX2_isClauseMeant 5 = .ok (.iload_n 3, 1) := by decide +kernel
theorem dX2_isClauseMeant_6 : decode cX2_isClauseMeant 6 = .ok (.invokevirtual 113, 3) := by decide +kernel
theorem dX2_isClauseMeant_9 : decode cX2_isClauseMeant 9 = .ok (.istore 4, 2) := by decide +kernel
theorem dX2_isClauseMeant_11 : decode cX2_isClauseMeant 11 = .ok (.aload_n 0, 1) := by decide +kernel
theorem dX2_isClauseMeant_12 : decode cX2_isClauseMeant 12 = .ok (.getfield 38, 3) := by decide +kernel
theorem dX2_isClauseMeant_15 : decode cX2_isClauseMeant 15 = .ok (.iload_n 2, 1) := by decide +kernel
theorem dX2_isClauseMeant_16 : decode cX2_isClauseMeant 16 = .ok (.invokevirtual 117, 3) := by decide +kernel
theorem dX2_isClauseMeant_19 : decode cX2_isClauseMeant 19 = .ok (.istore 5, 2) := by decide +kernel
theorem dX2_isClauseMeant_21 : decode cX2_isClauseMeant 21 = .ok (.aload_n 0, 1) := by decide +kernel
theorem dX2_isClauseMeant_22 : decode cX2_isClauseMeant 22 = .ok (.getfield 38, 3) := by decide +kernel
theorem dX2_isClauseMeant_25 : decode cX2_isClauseMeant 25 = .ok (.iload_n 2, 1) := by decide +kernel
theorem dX2_isClauseMeant_26 : decode cX2_isClauseMeant 26 = .ok (.invokevirtual 120, 3) := by decide +kernel
theorem dX2_isClauseMeant_29 : decode cX2_isClauseMeant 29 = .ok (.istore 6, 2) := by decide +kernel
theorem dX2_isClauseMeant_31 : decode cX2_isClauseMeant 31 = .ok (.iconst 0, 1) := by decide +kernel
theorem dX2_isClauseMeant_32 : decode cX2_isClauseMeant 32 = .ok (.istore 7, 2) := by decide +kernel
theorem dX2_isClauseMeant_34 : decode cX2_isClauseMeant 34 = .ok (.iload 7, 2) := by decide +kernel
theorem dX2_isClauseMeant_36 : decode cX2_isClauseMeant 36 = .ok (.aload_n 0, 1) := by decide +kernel
theorem dX2_isClauseMeant_37 : decode cX2_isClauseMeant 37 = .ok (.getfield 38, 3) := by decide +kernel
theorem dX2_isClauseMeant_40 : decode cX2_isClauseMeant 40 = .ok (.getfield 123, 3) := by decide +kernel
theorem dX2_isClauseMeant_43 : decode cX2_isClauseMeant 43 = .ok (.if_icmp .ge 44, 3) := by decide +kernel
theorem dX2_isClauseMeant_46 : decode cX2_isClauseMeant 46 = .ok (.iload 7, 2) := by decide +kernel
theorem dX2_isClauseMeant_48 : decode cX2_isClauseMeant 48 = .ok (.bipush 16, 2) := by decide +kernel
theorem dX2_isClauseMeant_50 : decode cX2_isClauseMeant 50 = .ok (.if_icmp .ge 37, 3) := by decide +kernel
theorem dX2_isClauseMeant_53 : decode cX2_isClauseMeant 53 = .ok (.aload_n 0, 1) := by decide +kernel
theorem dX2_isClauseMeant_54 : decode cX2_isClauseMeant 54 = .ok (.getfield 38, 3) := by decide +kernel
theorem dX2_isClauseMeant_57 : decode cX2_isClauseMeant 57 = .ok (.iload 4, 2) := by decide +kernel
theorem dX2_isClauseMeant_59 : decode cX2_isClauseMeant 59 = .ok (.iload 5, 2) := by decide +kernel
theorem dX2_isClauseMeant_61 : decode cX2_isClauseMeant 61 = .ok (.iload 6, 2) := by decide +kernel
theorem dX2_isClauseMeant_63 : decode cX2_isClauseMeant 63 = .ok (.iload 7, 2) := by decide +kernel
theorem dX2_isClauseMeant_65 : decode cX2_isClauseMeant 65 = .ok (.invokevirtual 126, 3) := by decide +kernel
theorem dX2_isClauseMeant_68 : decode cX2_isClauseMeant 68 = .ok (.aload_n 1, 1) := by decide +kernel
theorem dX2_isClauseMeant_69 : decode cX2_isClauseMeant 69 = .ok (.getfield 136, 3) := by decide +kernel
theorem dX2_isClauseMeant_72 : decode cX2_isClauseMeant 72 = .ok (.iload 7, 2) := by decide +kernel
theorem dX2_isClauseMeant_74 : decode cX2_isClauseMeant 74 = .ok (.laload, 1) := by decide +kernel
theorem dX2_isClauseMeant_75 : decode cX2_isClauseMeant 75 = .ok (.lcmp, 1) := by decide +kernel
theorem dX2_isClauseMeant_76 : decode cX2_isClauseMeant 76 = .ok (.ifCond .eq 5, 3) := by decide +kernel
theorem dX2_isClauseMeant_79 : decode cX2_isClauseMeant 79 = .ok (.iconst 0, 1) := by decide +kernel
theorem dX2_isClauseMeant_80 : decode cX2_isClauseMeant 80 = .ok (.ireturn, 1) := by decide +kernel
theorem dX2_isClauseMeant_81 : decode cX2_isClauseMeant 81 = .ok (.iinc 7 1, 3) := by decide +kernel
theorem dX2_isClauseMeant_84 : decode cX2_isClauseMeant 84 = .ok (.goto (-50), 3) := by decide +kernel
theorem dX2_isClauseMeant_87 : decode cX2_isClauseMeant 87 = .ok (.iconst 1, 1) := by decide +kernel
theorem dX2_isClauseMeant_88 : decode cX2_isClauseMeant 88 = .ok (.ireturn, 1) := by decide +kernel
noncomputable def F_X2_isClauseMeant_34 : Nat → Nat → Nat → Int32 → Int32 → Int32 → Int32 → m_M → Option (Int32 × m_M)
  | 0, _, _, _, _, _, _, _ => none
  | n + 1, v1, v2, v3, v4, v5, v6, M =>
    x_gN 2 M v1 5 fun v7 =>
    x_gI 3 M v7 4 fun v8 =>
    if v8 ≤ v6 then (
      some ((1 : Int32), M)
    ) else
    if (16 : Int32) ≤ v6 then (
      some ((1 : Int32), M)
    ) else
    x_gN 2 M v1 5 fun v9 =>
    x_cV 3 M v9 (F_X3_longOf v9 v3 v4 v5 v6 M) fun v10 M1 =>
    x_gN 8 M1 v2 0 fun v11 =>
    x_aL M1 v11 v6 fun v12 =>
    if (lg_cmp v10 v12) = 0 then (
      m_let (v6 + (1 : Int32)) fun v13 =>
      F_X2_isClauseMeant_34 n v1 v2 v3 v4 v5 v13 M1
    ) else
    some ((0 : Int32), M1)
noncomputable def F_X2_isClauseMeant (a0 : Nat) (a1 : Nat) (a2 : Int32) (a3 : Int32) (M : m_M) : Option (Int32 × m_M) :=
  x_gN 2 M a0 5 fun v1 =>
  x_cV 3 M v1 (F_X3_clauseTable v1 a2 a3 M) fun v2 M1 =>
  x_gN 2 M1 a0 5 fun v3 =>
  x_cV 3 M1 v3 (F_X3_firstThing v3 a2 M1) fun v4 M2 =>
  x_gN 2 M2 a0 5 fun v5 =>
  x_cV 3 M2 v5 (F_X3_secondThing v5 a2 M2) fun v6 M3 =>
  F_X2_isClauseMeant_34 m_FU a0 a1 v2 v4 v6 (0 : Int32) M3
set_option maxHeartbeats 4000000 in
theorem L_X2_isClauseMeant_34 {X : j_X} {Φ : Option Value → m_M → Prop} (C : j_C X yX2_isClauseMeant cX2_isClauseMeant 8 (some .boolean) 6 0 0 Φ) : ∀ (n : Nat) (v1 : Nat) (v2 : Nat) (v3 : Int32) (v4 : Int32) (v5 : Int32) (v6 : Int32) (M : m_M), m_ok e_I Φ (F_X2_isClauseMeant_34 n v1 v2 v3 v4 v5 v6 M) → j_J X 8 34 [some (.ref v1), some (.ref v2), none, none, some (.int v3), some (.int v4), some (.int v5), some (.int v6)] [] (0, 0) M := by
  have C0 := C.1
  intro n
  induction n with
  | zero => intro v1 v2 v3 v4 v5 v6 M h; exact False.elim h
  | succ n ih =>
    intro v1 v2 v3 v4 v5 v6 M h
    rw [F_X2_isClauseMeant_34] at h
    refine j_iload C0 (pc := 34) dX2_isClauseMeant_34 rfl ?_
    refine j_aload_n C0 (pc := 36) dX2_isClauseMeant_36 rfl ?_
    refine X_gN C0 (pc := 37) f_Finder_38_2 rfl dX2_isClauseMeant_37 h (fun v7 h => ?_)
    refine X_gI C0 (pc := 40) f_Finder_123_3 rfl dX2_isClauseMeant_40 h (fun v8 h => ?_)
    refine j_icmp_ge C0 (pc := 43) (tgt := 87) dX2_isClauseMeant_43 (by decide) (fun hc => ?_) (fun hc => ?_)
    · replace h := (X_if h).1 hc
      refine j_iconst C0 (pc := 87) dX2_isClauseMeant_87 (v := (1 : Int32)) (by decide) ?_
      exact j_zret C rfl (by decide) h dX2_isClauseMeant_88 (by decide)
    · replace h := (X_if h).2 hc
      refine j_iload C0 (pc := 46) dX2_isClauseMeant_46 rfl ?_
      refine j_bipush C0 (pc := 48) dX2_isClauseMeant_48 (v := (16 : Int32)) (by decide) ?_
      refine j_icmp_ge C0 (pc := 50) (tgt := 87) dX2_isClauseMeant_50 (by decide) (fun hc => ?_) (fun hc => ?_)
      · replace h := (X_if h).1 hc
        refine j_iconst C0 (pc := 87) dX2_isClauseMeant_87 (v := (1 : Int32)) (by decide) ?_
        exact j_zret C rfl (by decide) h dX2_isClauseMeant_88 (by decide)
      · replace h := (X_if h).2 hc
        refine j_aload_n C0 (pc := 53) dX2_isClauseMeant_53 rfl ?_
        refine X_gN C0 (pc := 54) f_Finder_38_2 rfl dX2_isClauseMeant_54 h (fun v9 h => ?_)
        refine j_iload C0 (pc := 57) dX2_isClauseMeant_57 rfl ?_
        refine j_iload C0 (pc := 59) dX2_isClauseMeant_59 rfl ?_
        refine j_iload C0 (pc := 61) dX2_isClauseMeant_61 rfl ?_
        refine j_iload C0 (pc := 63) dX2_isClauseMeant_63 rfl ?_
        refine X_cV C0 (pc := 65) (e' := e_L) (as := [.int v3, .int v4, .int v5, .int v6]) (rest := []) (s' := fun w => .long w :: []) (g' := (0, 0)) v_Finder_126_3 (fun Ψ hΨ => K_X3_longOf v9 v3 v4 v5 v6 M Ψ hΨ) rfl rfl (fun _ => rfl) (by decide) (by decide) rfl (Nat.le_of_ble_eq_true rfl) dX2_isClauseMeant_65 h (fun v10 M1 h => ?_)
        refine j_aload_n C0 (pc := 68) dX2_isClauseMeant_68 rfl ?_
        refine X_gN C0 (pc := 69) f_Finder_136_8 rfl dX2_isClauseMeant_69 h (fun v11 h => ?_)
        refine j_iload C0 (pc := 72) dX2_isClauseMeant_72 rfl ?_
        refine X_lald C0 (pc := 74) dX2_isClauseMeant_74 h (fun v12 h => ?_)
        refine j_lcmp C0 (pc := 75) dX2_isClauseMeant_75 ?_
        refine j_if_eq C0 (pc := 76) (tgt := 81) dX2_isClauseMeant_76 (by decide) (fun hc => ?_) (fun hc => ?_)
        · replace h := (X_if h).1 hc
          refine j_iinc C0 (pc := 81) dX2_isClauseMeant_81 (v := v6 + (1 : Int32)) rfl (Nat.le_of_ble_eq_true rfl) (by rfl) ?_
          refine X_let (G := fun w => j_J X 8 84 [some (.ref v1), some (.ref v2), none, none, some (.int v3), some (.int v4), some (.int v5), some (.int w)] [] (0, 0) M1) h (fun v13 h => ?_)
          refine j_goto C0 (pc := 84) (tgt := 34) dX2_isClauseMeant_84 (by decide) ?_
          exact j_J.wq (ih v1 v2 v3 v4 v5 v13 M1 h) (And.intro rfl (And.intro rfl (And.intro rfl (And.intro rfl (And.intro rfl (And.intro rfl (trivial)))))))
        · replace h := (X_if h).2 hc
          refine j_iconst C0 (pc := 79) dX2_isClauseMeant_79 (v := (0 : Int32)) (by decide) ?_
          exact j_zret C rfl (by decide) h dX2_isClauseMeant_80 (by decide)
set_option maxHeartbeats 4000000 in
theorem K_X2_isClauseMeant (a0 : Nat) (a1 : Nat) (a2 : Int32) (a3 : Int32) (M : m_M) (Φ : Option Value → m_M → Prop) (h : m_ok e_I Φ (F_X2_isClauseMeant a0 a1 a2 a3 M)) : j_Ct yX2_isClauseMeant cX2_isClauseMeant 8 (some .boolean) 6 0 0 [.ref a0, .ref a1, .int a2, .int a3] M Φ := by
  refine j_Ct.of (by decide +kernel) (Nat.le_of_ble_eq_true rfl) fun X C => ?_
  have C0 := C.1
  show j_J X 8 0 [some (.ref a0), some (.ref a1), some (.int a2), some (.int a3), none, none, none, none] [] (0, 0) M
  unfold F_X2_isClauseMeant at h
  refine j_aload_n C0 (pc := 0) dX2_isClauseMeant_0 rfl ?_
  refine X_gN C0 (pc := 1) f_Finder_38_2 rfl dX2_isClauseMeant_1 h (fun v1 h => ?_)
  refine j_iload_n C0 (pc := 4) dX2_isClauseMeant_4 rfl ?_
  refine j_iload_n C0 (pc := 5) dX2_isClauseMeant_5 rfl ?_
  refine X_cV C0 (pc := 6) (e' := e_I) (as := [.int a2, .int a3]) (rest := []) (s' := fun w => .int w :: []) (g' := (0, 0)) v_Finder_113_3 (fun Ψ hΨ => K_X3_clauseTable v1 a2 a3 M Ψ hΨ) rfl rfl (fun _ => rfl) (by decide) (by decide) rfl (Nat.le_of_ble_eq_true rfl) dX2_isClauseMeant_6 h (fun v2 M1 h => ?_)
  refine j_istore C0 (pc := 9) dX2_isClauseMeant_9 (Nat.le_of_ble_eq_true rfl) ?_
  show j_J X 8 11 [some (.ref a0), some (.ref a1), some (.int a2), some (.int a3), some (.int v2), none, none, none] [] (0, 0) M1
  refine j_aload_n C0 (pc := 11) dX2_isClauseMeant_11 rfl ?_
  refine X_gN C0 (pc := 12) f_Finder_38_2 rfl dX2_isClauseMeant_12 h (fun v3 h => ?_)
  refine j_iload_n C0 (pc := 15) dX2_isClauseMeant_15 rfl ?_
  refine X_cV C0 (pc := 16) (e' := e_I) (as := [.int a2]) (rest := []) (s' := fun w => .int w :: []) (g' := (0, 0)) v_Finder_117_3 (fun Ψ hΨ => K_X3_firstThing v3 a2 M1 Ψ hΨ) rfl rfl (fun _ => rfl) (by decide) (by decide) rfl (Nat.le_of_ble_eq_true rfl) dX2_isClauseMeant_16 h (fun v4 M2 h => ?_)
  refine j_istore C0 (pc := 19) dX2_isClauseMeant_19 (Nat.le_of_ble_eq_true rfl) ?_
  show j_J X 8 21 [some (.ref a0), some (.ref a1), some (.int a2), some (.int a3), some (.int v2), some (.int v4), none, none] [] (0, 0) M2
  refine j_aload_n C0 (pc := 21) dX2_isClauseMeant_21 rfl ?_
  refine X_gN C0 (pc := 22) f_Finder_38_2 rfl dX2_isClauseMeant_22 h (fun v5 h => ?_)
  refine j_iload_n C0 (pc := 25) dX2_isClauseMeant_25 rfl ?_
  refine X_cV C0 (pc := 26) (e' := e_I) (as := [.int a2]) (rest := []) (s' := fun w => .int w :: []) (g' := (0, 0)) v_Finder_120_3 (fun Ψ hΨ => K_X3_secondThing v5 a2 M2 Ψ hΨ) rfl rfl (fun _ => rfl) (by decide) (by decide) rfl (Nat.le_of_ble_eq_true rfl) dX2_isClauseMeant_26 h (fun v6 M3 h => ?_)
  refine j_istore C0 (pc := 29) dX2_isClauseMeant_29 (Nat.le_of_ble_eq_true rfl) ?_
  show j_J X 8 31 [some (.ref a0), some (.ref a1), some (.int a2), some (.int a3), some (.int v2), some (.int v4), some (.int v6), none] [] (0, 0) M3
  refine j_iconst C0 (pc := 31) dX2_isClauseMeant_31 (v := (0 : Int32)) (by decide) ?_
  refine j_istore C0 (pc := 32) dX2_isClauseMeant_32 (Nat.le_of_ble_eq_true rfl) ?_
  show j_J X 8 34 [some (.ref a0), some (.ref a1), some (.int a2), some (.int a3), some (.int v2), some (.int v4), some (.int v6), some (.int (0 : Int32))] [] (0, 0) M3
  exact j_J.wq (L_X2_isClauseMeant_34 C m_FU a0 a1 v2 v4 v6 (0 : Int32) M3 h) (And.intro rfl (And.intro rfl (And.intro rfl (And.intro rfl (And.intro rfl (And.intro rfl (trivial)))))))
theorem dX2_isMeantElse_0 : decode cX2_isMeantElse 0 = .ok (.iconst 0, 1) := by decide +kernel
theorem dX2_isMeantElse_1 : decode cX2_isMeantElse 1 = .ok (.istore 5, 2) := by decide +kernel
theorem dX2_isMeantElse_3 : decode cX2_isMeantElse 3 = .ok (.iload 5, 2) := by decide +kernel
theorem dX2_isMeantElse_5 : decode cX2_isMeantElse 5 = .ok (.bipush 6, 2) := by decide +kernel
theorem dX2_isMeantElse_7 : decode cX2_isMeantElse 7 = .ok (.if_icmp .gt 48, 3) := by decide +kernel
theorem dX2_isMeantElse_10 : decode cX2_isMeantElse 10 = .ok (.aload_n 0, 1) := by decide +kernel
theorem dX2_isMeantElse_11 : decode cX2_isMeantElse 11 = .ok (.getfield 38, 3) := by decide +kernel
theorem dX2_isMeantElse_14 : decode cX2_isMeantElse 14 = .ok (.iload_n 3, 1) := by decide +kernel
theorem dX2_isMeantElse_15 : decode cX2_isMeantElse 15 = .ok (.iload 5, 2) := by decide +kernel
theorem dX2_isMeantElse_17 : decode cX2_isMeantElse 17 = .ok (.iadd, 1) := by decide +kernel
theorem dX2_isMeantElse_18 : decode cX2_isMeantElse 18 = .ok (.invokevirtual 106, 3) := by decide +kernel
theorem dX2_isMeantElse_21 : decode cX2_isMeantElse 21 = .ok (.istore 6, 2) := by decide +kernel
theorem dX2_isMeantElse_23 : decode cX2_isMeantElse 23 = .ok (.iload 5, 2) := by decide +kernel
theorem dX2_isMeantElse_25 : decode cX2_isMeantElse 25 = .ok (.iload 4, 2) := by decide +kernel
theorem dX2_isMeantElse_27 : decode cX2_isMeantElse 27 = .ok (.if_icmp .eq 22, 3) := by decide +kernel
theorem dX2_isMeantElse_30 : decode cX2_isMeantElse 30 = .ok (.iload 6, 2) := by decide +kernel
theorem dX2_isMeantElse_32 : decode cX2_isMeantElse 32 = .ok (.iconst (-1), 1) := by decide +kernel
theorem dX2_isMeantElse_33 : decode cX2_isMeantElse 33 = .ok (.if_icmp .eq 16, 3) := by decide +kernel
theorem dX2_isMeantElse_36 : decode cX2_isMeantElse 36 = .ok (.aload_n 0, 1) := by decide +kernel
theorem dX2_isMeantElse_37 : decode cX2_isMeantElse 37 = .ok (.aload_n 1, 1) := by decide +kernel
theorem dX2_isMeantElse_38 : decode cX2_isMeantElse 38 = .ok (.iload_n 2, 1) := by decide +kernel
theorem dX2_isMeantElse_39 : decode cX2_isMeantElse 39 = .ok (.iload 6, 2) := by decide +kernel
theorem dX2_isMeantElse_41 : decode cX2_isMeantElse 41 = .ok (.invokevirtual 142, 3) := by decide +kernel
theorem dX2_isMeantElse_44 : decode cX2_isMeantElse 44 = .ok (.ifCond .eq 5, 3) := by decide +kernel
theorem dX2_isMeantElse_47 : decode cX2_isMeantElse 47 = .ok (.iconst 1, 1) := by decide +kernel
theorem dX2_isMeantElse_48 : decode cX2_isMeantElse 48 = .ok (.ireturn, 1) := by decide +kernel
theorem dX2_isMeantElse_49 : decode cX2_isMeantElse 49 = .ok (.iinc 5 1, 3) := by decide +kernel
theorem dX2_isMeantElse_52 : decode cX2_isMeantElse 52 = .ok (.goto (-49), 3) := by decide +kernel
theorem dX2_isMeantElse_55 : decode cX2_isMeantElse 55 = .ok (.iconst 0, 1) := by decide +kernel
theorem dX2_isMeantElse_56 : decode cX2_isMeantElse 56 = .ok (.ireturn, 1) := by decide +kernel
noncomputable def F_X2_isMeantElse_3 : Nat → Nat → Nat → Int32 → Int32 → Int32 → Int32 → m_M → Option (Int32 × m_M)
  | 0, _, _, _, _, _, _, _ => none
  | n + 1, v1, v2, v3, v4, v5, v6, M =>
    if (6 : Int32) < v6 then (
      some ((0 : Int32), M)
    ) else
    m_let (fun (v7 : Nat) (v8 : Nat) (v9 : Int32) (v10 : Int32) (v11 : Int32) (v12 : Int32) (M1 : m_M) =>
      m_let (v12 + (1 : Int32)) fun v13 =>
      F_X2_isMeantElse_3 n v7 v8 v9 v10 v11 v13 M1
    ) fun (k49 : Nat → Nat → Int32 → Int32 → Int32 → Int32 → m_M → Option (Int32 × m_M)) =>
    x_gN 2 M v1 5 fun v14 =>
    x_cV 3 M v14 (F_X3_verbOf v14 (v4 + v6) M) fun v15 M2 =>
    if v6 = v5 then (
      k49 v1 v2 v3 v4 v5 v6 M2
    ) else
    if v15 = (-1 : Int32) then (
      k49 v1 v2 v3 v4 v5 v6 M2
    ) else
    x_cV 2 M2 v1 (F_X2_isClauseMeant v1 v2 v3 v15 M2) fun v16 M3 =>
    if v16 = 0 then (
      k49 v1 v2 v3 v4 v5 v6 M3
    ) else
    some ((1 : Int32), M3)
noncomputable def F_X2_isMeantElse (a0 : Nat) (a1 : Nat) (a2 : Int32) (a3 : Int32) (a4 : Int32) (M : m_M) : Option (Int32 × m_M) :=
  F_X2_isMeantElse_3 m_FU a0 a1 a2 a3 a4 (0 : Int32) M
set_option maxHeartbeats 4000000 in
theorem L_X2_isMeantElse_3 {X : j_X} {Φ : Option Value → m_M → Prop} (C : j_C X yX2_isMeantElse cX2_isMeantElse 7 (some .boolean) 7 0 0 Φ) : ∀ (n : Nat) (v1 : Nat) (v2 : Nat) (v3 : Int32) (v4 : Int32) (v5 : Int32) (v6 : Int32) (M : m_M), m_ok e_I Φ (F_X2_isMeantElse_3 n v1 v2 v3 v4 v5 v6 M) → j_J X 7 3 [some (.ref v1), some (.ref v2), some (.int v3), some (.int v4), some (.int v5), some (.int v6), none] [] (0, 0) M := by
  have C0 := C.1
  intro n
  induction n with
  | zero => intro v1 v2 v3 v4 v5 v6 M h; exact False.elim h
  | succ n ih =>
    intro v1 v2 v3 v4 v5 v6 M h
    rw [F_X2_isMeantElse_3] at h
    refine j_iload C0 (pc := 3) dX2_isMeantElse_3 rfl ?_
    refine j_bipush C0 (pc := 5) dX2_isMeantElse_5 (v := (6 : Int32)) (by decide) ?_
    refine j_icmp_gt C0 (pc := 7) (tgt := 55) dX2_isMeantElse_7 (by decide) (fun hc => ?_) (fun hc => ?_)
    · replace h := (X_if h).1 hc
      refine j_iconst C0 (pc := 55) dX2_isMeantElse_55 (v := (0 : Int32)) (by decide) ?_
      exact j_zret C rfl (by decide) h dX2_isMeantElse_56 (by decide)
    · replace h := (X_if h).2 hc
      refine X_join (fun (kj : Nat → Nat → Int32 → Int32 → Int32 → Int32 → m_M → Option (Int32 × m_M)) => ∀ (p0 : Nat) (p1 : Nat) (p2 : Int32) (p3 : Int32) (p4 : Int32) (p5 : Int32) (M : m_M), m_ok e_I Φ (kj p0 p1 p2 p3 p4 p5 M) → j_J X 7 49 [some (.ref p0), some (.ref p1), some (.int p2), some (.int p3), some (.int p4), some (.int p5), none] [] (0, 0) M) h (fun v7 v8 v9 v10 v11 v12 M1 h => ?_) (fun k49 hk49 h => ?_)
      · refine j_iinc C0 (pc := 49) dX2_isMeantElse_49 (v := v12 + (1 : Int32)) rfl (Nat.le_of_ble_eq_true rfl) (by rfl) ?_
        refine X_let (G := fun w => j_J X 7 52 [some (.ref v7), some (.ref v8), some (.int v9), some (.int v10), some (.int v11), some (.int w), none] [] (0, 0) M1) h (fun v13 h => ?_)
        refine j_goto C0 (pc := 52) (tgt := 3) dX2_isMeantElse_52 (by decide) ?_
        exact j_J.wq (ih v7 v8 v9 v10 v11 v13 M1 h) (And.intro rfl (And.intro rfl (And.intro rfl (And.intro rfl (And.intro rfl (And.intro rfl (trivial)))))))
      · refine j_aload_n C0 (pc := 10) dX2_isMeantElse_10 rfl ?_
        refine X_gN C0 (pc := 11) f_Finder_38_2 rfl dX2_isMeantElse_11 h (fun v14 h => ?_)
        refine j_iload_n C0 (pc := 14) dX2_isMeantElse_14 rfl ?_
        refine j_iload C0 (pc := 15) dX2_isMeantElse_15 rfl ?_
        refine j_iadd C0 (pc := 17) dX2_isMeantElse_17 ?_
        refine X_cV C0 (pc := 18) (e' := e_I) (as := [.int (v4 + v6)]) (rest := []) (s' := fun w => .int w :: []) (g' := (0, 0)) v_Finder_106_3 (fun Ψ hΨ => K_X3_verbOf v14 (v4 + v6) M Ψ hΨ) rfl rfl (fun _ => rfl) (by decide) (by decide) rfl (Nat.le_of_ble_eq_true rfl) dX2_isMeantElse_18 h (fun v15 M2 h => ?_)
        refine j_istore C0 (pc := 21) dX2_isMeantElse_21 (Nat.le_of_ble_eq_true rfl) ?_
        show j_J X 7 23 [some (.ref v1), some (.ref v2), some (.int v3), some (.int v4), some (.int v5), some (.int v6), some (.int v15)] [] (0, 0) M2
        refine j_iload C0 (pc := 23) dX2_isMeantElse_23 rfl ?_
        refine j_iload C0 (pc := 25) dX2_isMeantElse_25 rfl ?_
        refine j_icmp_eq C0 (pc := 27) (tgt := 49) dX2_isMeantElse_27 (by decide) (fun hc => ?_) (fun hc => ?_)
        · replace h := (X_if h).1 hc
          exact j_J.wq (hk49 v1 v2 v3 v4 v5 v6 M2 h) (And.intro rfl (And.intro rfl (And.intro rfl (And.intro rfl (And.intro rfl (And.intro rfl (trivial)))))))
        · replace h := (X_if h).2 hc
          refine j_iload C0 (pc := 30) dX2_isMeantElse_30 rfl ?_
          refine j_iconst C0 (pc := 32) dX2_isMeantElse_32 (v := (-1 : Int32)) (by decide) ?_
          refine j_icmp_eq C0 (pc := 33) (tgt := 49) dX2_isMeantElse_33 (by decide) (fun hc => ?_) (fun hc => ?_)
          · replace h := (X_if h).1 hc
            exact j_J.wq (hk49 v1 v2 v3 v4 v5 v6 M2 h) (And.intro rfl (And.intro rfl (And.intro rfl (And.intro rfl (And.intro rfl (And.intro rfl (trivial)))))))
          · replace h := (X_if h).2 hc
            refine j_aload_n C0 (pc := 36) dX2_isMeantElse_36 rfl ?_
            refine j_aload_n C0 (pc := 37) dX2_isMeantElse_37 rfl ?_
            refine j_iload_n C0 (pc := 38) dX2_isMeantElse_38 rfl ?_
            refine j_iload C0 (pc := 39) dX2_isMeantElse_39 rfl ?_
            refine X_cV C0 (pc := 41) (e' := e_I) (as := [.ref v2, .int v3, .int v15]) (rest := []) (s' := fun w => .int w :: []) (g' := (0, 0)) v_Finder_142_2 (fun Ψ hΨ => K_X2_isClauseMeant v1 v2 v3 v15 M2 Ψ hΨ) rfl rfl (fun _ => rfl) (by decide) (by decide) rfl (Nat.le_of_ble_eq_true rfl) dX2_isMeantElse_41 h (fun v16 M3 h => ?_)
            refine j_if_eq C0 (pc := 44) (tgt := 49) dX2_isMeantElse_44 (by decide) (fun hc => ?_) (fun hc => ?_)
            · replace h := (X_if h).1 hc
              exact j_J.wq (hk49 v1 v2 v3 v4 v5 v6 M3 h) (And.intro rfl (And.intro rfl (And.intro rfl (And.intro rfl (And.intro rfl (And.intro rfl (trivial)))))))
            · replace h := (X_if h).2 hc
              refine j_iconst C0 (pc := 47) dX2_isMeantElse_47 (v := (1 : Int32)) (by decide) ?_
              exact j_zret C rfl (by decide) h dX2_isMeantElse_48 (by decide)
set_option maxHeartbeats 4000000 in
theorem K_X2_isMeantElse (a0 : Nat) (a1 : Nat) (a2 : Int32) (a3 : Int32) (a4 : Int32) (M : m_M) (Φ : Option Value → m_M → Prop) (h : m_ok e_I Φ (F_X2_isMeantElse a0 a1 a2 a3 a4 M)) : j_Ct yX2_isMeantElse cX2_isMeantElse 7 (some .boolean) 7 0 0 [.ref a0, .ref a1, .int a2, .int a3, .int a4] M Φ := by
  refine j_Ct.of (by decide +kernel) (Nat.le_of_ble_eq_true rfl) fun X C => ?_
  have C0 := C.1
  show j_J X 7 0 [some (.ref a0), some (.ref a1), some (.int a2), some (.int a3), some (.int a4), none, none] [] (0, 0) M
  unfold F_X2_isMeantElse at h
  refine j_iconst C0 (pc := 0) dX2_isMeantElse_0 (v := (0 : Int32)) (by decide) ?_
  refine j_istore C0 (pc := 1) dX2_isMeantElse_1 (Nat.le_of_ble_eq_true rfl) ?_
  show j_J X 7 3 [some (.ref a0), some (.ref a1), some (.int a2), some (.int a3), some (.int a4), some (.int (0 : Int32)), none] [] (0, 0) M
  exact j_J.wq (L_X2_isMeantElse_3 C m_FU a0 a1 a2 a3 a4 (0 : Int32) M h) (And.intro rfl (And.intro rfl (And.intro rfl (And.intro rfl (And.intro rfl (And.intro rfl (trivial)))))))
theorem dX2_findRiddle_0 : decode cX2_findRiddle 0 = .ok (.aload_n 0, 1) := by decide +kernel
theorem dX2_findRiddle_1 : decode cX2_findRiddle 1 = .ok (.getfield 38, 3) := by decide +kernel
theorem dX2_findRiddle_4 : decode cX2_findRiddle 4 = .ok (.iload_n 2, 1) := by decide +kernel
theorem dX2_findRiddle_5 : decode cX2_findRiddle 5 = .ok (.iload_n 3, 1) := by decide +kernel
theorem dX2_findRiddle_6 : decode cX2_findRiddle 6 = .ok (.iadd, 1) := by decide +kernel
theorem dX2_findRiddle_7 : decode cX2_findRiddle 7 = .ok (.invokevirtual 106, 3) := by decide +kernel
theorem dX2_findRiddle_10 : decode cX2_findRiddle 10 = .ok (.istore 4, 2) := by decide +kernel
theorem dX2_findRiddle_12 : decode cX2_findRiddle 12 = .ok (.iload 4, 2) := by decide +kernel
theorem dX2_findRiddle_14 : decode cX2_findRiddle 14 = .ok (.iconst (-1), 1) := by decide +kernel
theorem dX2_findRiddle_15 : decode cX2_findRiddle 15 = .ok (.if_icmp .ne 5, 3) := by decide +kernel
theorem dX2_findRiddle_18 : decode cX2_findRiddle 18 = .ok (.iconst (-1), 1) := by decide +kernel
theorem dX2_findRiddle_19 : decode cX2_findRiddle 19 = .ok (.ireturn, 1) := by decide +kernel
theorem dX2_findRiddle_20 : decode cX2_findRiddle 20 = .ok (.iconst 0, 1) := by decide +kernel
theorem dX2_findRiddle_21 : decode cX2_findRiddle 21 = .ok (.istore 5, 2) := by decide +kernel
theorem dX2_findRiddle_23 : decode cX2_findRiddle 23 = .ok (.iload 5, 2) := by decide +kernel
theorem dX2_findRiddle_25 : decode cX2_findRiddle 25 = .ok (.sipush 400, 3) := by decide +kernel
theorem dX2_findRiddle_28 : decode cX2_findRiddle 28 = .ok (.if_icmp .ge 48, 3) := by decide +kernel
theorem dX2_findRiddle_31 : decode cX2_findRiddle 31 = .ok (.aload_n 0, 1) := by decide +kernel
theorem dX2_findRiddle_32 : decode cX2_findRiddle 32 = .ok (.getfield 38, 3) := by decide +kernel
theorem dX2_findRiddle_35 : decode cX2_findRiddle 35 = .ok (.iload 5, 2) := by decide +kernel
theorem dX2_findRiddle_37 : decode cX2_findRiddle 37 = .ok (.invokevirtual 73, 3) := by decide +kernel
theorem dX2_findRiddle_40 : decode cX2_findRiddle 40 = .ok (.ifCond .eq 30, 3) := by decide +kernel
theorem dX2_findRiddle_43 : decode cX2_findRiddle 43 = .ok (.aload_n 0, 1) := by decide +kernel
theorem dX2_findRiddle_44 : decode cX2_findRiddle 44 = .ok (.aload_n 1, 1) := by decide +kernel
theorem dX2_findRiddle_45 : decode cX2_findRiddle 45 = .ok (.iload 5, 2) := by decide +kernel
theorem dX2_findRiddle_47 : decode cX2_findRiddle 47 = .ok (.iload 4, 2) := by decide +kernel
theorem dX2_findRiddle_49 : decode cX2_findRiddle 49 = .ok (.invokevirtual 142, 3) := by decide +kernel
theorem dX2_findRiddle_52 : decode cX2_findRiddle 52 = .ok (.ifCond .eq 18, 3) := by decide +kernel
theorem dX2_findRiddle_55 : decode cX2_findRiddle 55 = .ok (.aload_n 0, 1) := by decide +kernel
theorem dX2_findRiddle_56 : decode cX2_findRiddle 56 = .ok (.aload_n 1, 1) := by decide +kernel
theorem dX2_findRiddle_57 : decode cX2_findRiddle 57 = .ok (.iload 5, 2) := by decide +kernel
theorem dX2_findRiddle_59 : decode cX2_findRiddle 59 = .ok (.iload_n 2, 1) := by decide +kernel
theorem dX2_findRiddle_60 : decode cX2_findRiddle 60 = .ok (.iload_n 3, 1) := by decide +kernel
theorem dX2_findRiddle_61 : decode cX2_findRiddle 61 = .ok (.invokevirtual 146, 3) := by decide +kernel
theorem dX2_findRiddle_64 : decode cX2_findRiddle 64 = .ok (.ifCond .ne 6, 3) := by decide +kernel
theorem dX2_findRiddle_67 : decode cX2_findRiddle 67 = .ok (.iload 5, 2) := by decide +kernel
theorem dX2_findRiddle_69 : decode cX2_findRiddle 69 = .ok (.ireturn, 1) := by decide +kernel
theorem dX2_findRiddle_70 : decode cX2_findRiddle 70 = .ok (.iinc 5 1, 3) := by decide +kernel
theorem dX2_findRiddle_73 : decode cX2_findRiddle 73 = .ok (.goto (-50), 3) := by decide +kernel
theorem dX2_findRiddle_76 : decode cX2_findRiddle 76 = .ok (.iconst (-1), 1) := by decide +kernel
theorem dX2_findRiddle_77 : decode cX2_findRiddle 77 = .ok (.ireturn, 1) := by decide +kernel
noncomputable def F_X2_findRiddle_23 : Nat → Nat → Nat → Int32 → Int32 → Int32 → Int32 → m_M → Option (Int32 × m_M)
  | 0, _, _, _, _, _, _, _ => none
  | n + 1, v1, v2, v3, v4, v5, v6, M =>
    if (400 : Int32) ≤ v6 then (
      some ((-1 : Int32), M)
    ) else
    m_let (fun (v7 : Nat) (v8 : Nat) (v9 : Int32) (v10 : Int32) (v11 : Int32) (v12 : Int32) (M1 : m_M) =>
      m_let (v12 + (1 : Int32)) fun v13 =>
      F_X2_findRiddle_23 n v7 v8 v9 v10 v11 v13 M1
    ) fun (k70 : Nat → Nat → Int32 → Int32 → Int32 → Int32 → m_M → Option (Int32 × m_M)) =>
    x_gN 2 M v1 5 fun v14 =>
    x_cV 3 M v14 (F_X3_isClause v14 v6 M) fun v15 M2 =>
    if v15 = 0 then (
      k70 v1 v2 v3 v4 v5 v6 M2
    ) else
    x_cV 2 M2 v1 (F_X2_isClauseMeant v1 v2 v6 v5 M2) fun v16 M3 =>
    if v16 = 0 then (
      k70 v1 v2 v3 v4 v5 v6 M3
    ) else
    x_cV 2 M3 v1 (F_X2_isMeantElse v1 v2 v6 v3 v4 M3) fun v17 M4 =>
    if v17 = 0 then (
      some (v6, M4)
    ) else
    k70 v1 v2 v3 v4 v5 v6 M4
noncomputable def F_X2_findRiddle (a0 : Nat) (a1 : Nat) (a2 : Int32) (a3 : Int32) (M : m_M) : Option (Int32 × m_M) :=
  x_gN 2 M a0 5 fun v1 =>
  x_cV 3 M v1 (F_X3_verbOf v1 (a2 + a3) M) fun v2 M1 =>
  if v2 = (-1 : Int32) then (
    some ((-1 : Int32), M1)
  ) else
  F_X2_findRiddle_23 m_FU a0 a1 a2 a3 v2 (0 : Int32) M1
set_option maxHeartbeats 4000000 in
theorem L_X2_findRiddle_23 {X : j_X} {Φ : Option Value → m_M → Prop} (C : j_C X yX2_findRiddle cX2_findRiddle 6 (some .int) 8 0 0 Φ) : ∀ (n : Nat) (v1 : Nat) (v2 : Nat) (v3 : Int32) (v4 : Int32) (v5 : Int32) (v6 : Int32) (M : m_M), m_ok e_I Φ (F_X2_findRiddle_23 n v1 v2 v3 v4 v5 v6 M) → j_J X 6 23 [some (.ref v1), some (.ref v2), some (.int v3), some (.int v4), some (.int v5), some (.int v6)] [] (0, 0) M := by
  have C0 := C.1
  intro n
  induction n with
  | zero => intro v1 v2 v3 v4 v5 v6 M h; exact False.elim h
  | succ n ih =>
    intro v1 v2 v3 v4 v5 v6 M h
    rw [F_X2_findRiddle_23] at h
    refine j_iload C0 (pc := 23) dX2_findRiddle_23 rfl ?_
    refine j_sipush C0 (pc := 25) dX2_findRiddle_25 (v := (400 : Int32)) (by decide) ?_
    refine j_icmp_ge C0 (pc := 28) (tgt := 76) dX2_findRiddle_28 (by decide) (fun hc => ?_) (fun hc => ?_)
    · replace h := (X_if h).1 hc
      refine j_iconst C0 (pc := 76) dX2_findRiddle_76 (v := (-1 : Int32)) (by decide) ?_
      exact j_iret C rfl h dX2_findRiddle_77 (by decide)
    · replace h := (X_if h).2 hc
      refine X_join (fun (kj : Nat → Nat → Int32 → Int32 → Int32 → Int32 → m_M → Option (Int32 × m_M)) => ∀ (p0 : Nat) (p1 : Nat) (p2 : Int32) (p3 : Int32) (p4 : Int32) (p5 : Int32) (M : m_M), m_ok e_I Φ (kj p0 p1 p2 p3 p4 p5 M) → j_J X 6 70 [some (.ref p0), some (.ref p1), some (.int p2), some (.int p3), some (.int p4), some (.int p5)] [] (0, 0) M) h (fun v7 v8 v9 v10 v11 v12 M1 h => ?_) (fun k70 hk70 h => ?_)
      · refine j_iinc C0 (pc := 70) dX2_findRiddle_70 (v := v12 + (1 : Int32)) rfl (Nat.le_of_ble_eq_true rfl) (by rfl) ?_
        refine X_let (G := fun w => j_J X 6 73 [some (.ref v7), some (.ref v8), some (.int v9), some (.int v10), some (.int v11), some (.int w)] [] (0, 0) M1) h (fun v13 h => ?_)
        refine j_goto C0 (pc := 73) (tgt := 23) dX2_findRiddle_73 (by decide) ?_
        exact j_J.wq (ih v7 v8 v9 v10 v11 v13 M1 h) (And.intro rfl (And.intro rfl (And.intro rfl (And.intro rfl (And.intro rfl (And.intro rfl (trivial)))))))
      · refine j_aload_n C0 (pc := 31) dX2_findRiddle_31 rfl ?_
        refine X_gN C0 (pc := 32) f_Finder_38_2 rfl dX2_findRiddle_32 h (fun v14 h => ?_)
        refine j_iload C0 (pc := 35) dX2_findRiddle_35 rfl ?_
        refine X_cV C0 (pc := 37) (e' := e_I) (as := [.int v6]) (rest := []) (s' := fun w => .int w :: []) (g' := (0, 0)) v_Finder_73_3 (fun Ψ hΨ => K_X3_isClause v14 v6 M Ψ hΨ) rfl rfl (fun _ => rfl) (by decide) (by decide) rfl (Nat.le_of_ble_eq_true rfl) dX2_findRiddle_37 h (fun v15 M2 h => ?_)
        refine j_if_eq C0 (pc := 40) (tgt := 70) dX2_findRiddle_40 (by decide) (fun hc => ?_) (fun hc => ?_)
        · replace h := (X_if h).1 hc
          exact j_J.wq (hk70 v1 v2 v3 v4 v5 v6 M2 h) (And.intro rfl (And.intro rfl (And.intro rfl (And.intro rfl (And.intro rfl (And.intro rfl (trivial)))))))
        · replace h := (X_if h).2 hc
          refine j_aload_n C0 (pc := 43) dX2_findRiddle_43 rfl ?_
          refine j_aload_n C0 (pc := 44) dX2_findRiddle_44 rfl ?_
          refine j_iload C0 (pc := 45) dX2_findRiddle_45 rfl ?_
          refine j_iload C0 (pc := 47) dX2_findRiddle_47 rfl ?_
          refine X_cV C0 (pc := 49) (e' := e_I) (as := [.ref v2, .int v6, .int v5]) (rest := []) (s' := fun w => .int w :: []) (g' := (0, 0)) v_Finder_142_2 (fun Ψ hΨ => K_X2_isClauseMeant v1 v2 v6 v5 M2 Ψ hΨ) rfl rfl (fun _ => rfl) (by decide) (by decide) rfl (Nat.le_of_ble_eq_true rfl) dX2_findRiddle_49 h (fun v16 M3 h => ?_)
          refine j_if_eq C0 (pc := 52) (tgt := 70) dX2_findRiddle_52 (by decide) (fun hc => ?_) (fun hc => ?_)
          · replace h := (X_if h).1 hc
            exact j_J.wq (hk70 v1 v2 v3 v4 v5 v6 M3 h) (And.intro rfl (And.intro rfl (And.intro rfl (And.intro rfl (And.intro rfl (And.intro rfl (trivial)))))))
          · replace h := (X_if h).2 hc
            refine j_aload_n C0 (pc := 55) dX2_findRiddle_55 rfl ?_
            refine j_aload_n C0 (pc := 56) dX2_findRiddle_56 rfl ?_
            refine j_iload C0 (pc := 57) dX2_findRiddle_57 rfl ?_
            refine j_iload_n C0 (pc := 59) dX2_findRiddle_59 rfl ?_
            refine j_iload_n C0 (pc := 60) dX2_findRiddle_60 rfl ?_
            refine X_cV C0 (pc := 61) (e' := e_I) (as := [.ref v2, .int v6, .int v3, .int v4]) (rest := []) (s' := fun w => .int w :: []) (g' := (0, 0)) v_Finder_146_2 (fun Ψ hΨ => K_X2_isMeantElse v1 v2 v6 v3 v4 M3 Ψ hΨ) rfl rfl (fun _ => rfl) (by decide) (by decide) rfl (Nat.le_of_ble_eq_true rfl) dX2_findRiddle_61 h (fun v17 M4 h => ?_)
            refine j_if_ne C0 (pc := 64) (tgt := 70) dX2_findRiddle_64 (by decide) (fun hc => ?_) (fun hc => ?_)
            · replace h := (X_if h).2 hc
              exact j_J.wq (hk70 v1 v2 v3 v4 v5 v6 M4 h) (And.intro rfl (And.intro rfl (And.intro rfl (And.intro rfl (And.intro rfl (And.intro rfl (trivial)))))))
            · replace h := (X_if h).1 hc
              refine j_iload C0 (pc := 67) dX2_findRiddle_67 rfl ?_
              exact j_iret C rfl h dX2_findRiddle_69 (by decide)
set_option maxHeartbeats 4000000 in
theorem K_X2_findRiddle (a0 : Nat) (a1 : Nat) (a2 : Int32) (a3 : Int32) (M : m_M) (Φ : Option Value → m_M → Prop) (h : m_ok e_I Φ (F_X2_findRiddle a0 a1 a2 a3 M)) : j_Ct yX2_findRiddle cX2_findRiddle 6 (some .int) 8 0 0 [.ref a0, .ref a1, .int a2, .int a3] M Φ := by
  refine j_Ct.of (by decide +kernel) (Nat.le_of_ble_eq_true rfl) fun X C => ?_
  have C0 := C.1
  show j_J X 6 0 [some (.ref a0), some (.ref a1), some (.int a2), some (.int a3), none, none] [] (0, 0) M
  unfold F_X2_findRiddle at h
  refine j_aload_n C0 (pc := 0) dX2_findRiddle_0 rfl ?_
  refine X_gN C0 (pc := 1) f_Finder_38_2 rfl dX2_findRiddle_1 h (fun v1 h => ?_)
  refine j_iload_n C0 (pc := 4) dX2_findRiddle_4 rfl ?_
  refine j_iload_n C0 (pc := 5) dX2_findRiddle_5 rfl ?_
  refine j_iadd C0 (pc := 6) dX2_findRiddle_6 ?_
  refine X_cV C0 (pc := 7) (e' := e_I) (as := [.int (a2 + a3)]) (rest := []) (s' := fun w => .int w :: []) (g' := (0, 0)) v_Finder_106_3 (fun Ψ hΨ => K_X3_verbOf v1 (a2 + a3) M Ψ hΨ) rfl rfl (fun _ => rfl) (by decide) (by decide) rfl (Nat.le_of_ble_eq_true rfl) dX2_findRiddle_7 h (fun v2 M1 h => ?_)
  refine j_istore C0 (pc := 10) dX2_findRiddle_10 (Nat.le_of_ble_eq_true rfl) ?_
  show j_J X 6 12 [some (.ref a0), some (.ref a1), some (.int a2), some (.int a3), some (.int v2), none] [] (0, 0) M1
  refine j_iload C0 (pc := 12) dX2_findRiddle_12 rfl ?_
  refine j_iconst C0 (pc := 14) dX2_findRiddle_14 (v := (-1 : Int32)) (by decide) ?_
  refine j_icmp_ne C0 (pc := 15) (tgt := 20) dX2_findRiddle_15 (by decide) (fun hc => ?_) (fun hc => ?_)
  · replace h := (X_if h).2 hc
    refine j_iconst C0 (pc := 20) dX2_findRiddle_20 (v := (0 : Int32)) (by decide) ?_
    refine j_istore C0 (pc := 21) dX2_findRiddle_21 (Nat.le_of_ble_eq_true rfl) ?_
    show j_J X 6 23 [some (.ref a0), some (.ref a1), some (.int a2), some (.int a3), some (.int v2), some (.int (0 : Int32))] [] (0, 0) M1
    exact j_J.wq (L_X2_findRiddle_23 C m_FU a0 a1 a2 a3 v2 (0 : Int32) M1 h) (And.intro rfl (And.intro rfl (And.intro rfl (And.intro rfl (And.intro rfl (And.intro rfl (trivial)))))))
  · replace h := (X_if h).1 hc
    refine j_iconst C0 (pc := 18) dX2_findRiddle_18 (v := (-1 : Int32)) (by decide) ?_
    exact j_iret C rfl h dX2_findRiddle_19 (by decide)
theorem dX11_riddle_0 : decode cX11_riddle 0 = .ok (.iload_n 1, 1) := by decide +kernel
theorem dX11_riddle_1 : decode cX11_riddle 1 = .ok (.ifCond .lt 19, 3) := by decide +kernel
theorem dX11_riddle_4 : decode cX11_riddle 4 = .ok (.iload_n 1, 1) := by decide +kernel
theorem dX11_riddle_5 : decode cX11_riddle 5 = .ok (.bipush 6, 2) := by decide +kernel
theorem dX11_riddle_7 : decode cX11_riddle 7 = .ok (.if_icmp .gt 13, 3) := by decide +kernel
theorem dX11_riddle_10 : decode cX11_riddle 10 = .ok (.aload_n 0, 1) := by decide +kernel
theorem dX11_riddle_11 : decode cX11_riddle 11 = .ok (.getfield 65, 3) := by decide +kernel
theorem dX11_riddle_14 : decode cX11_riddle 14 = .ok (.invokevirtual 205, 3) := by decide +kernel
theorem dX11_riddle_17 : decode cX11_riddle 17 = .ok (.ifCond .ne 5, 3) := by decide +kernel
theorem dX11_riddle_20 : decode cX11_riddle 20 = .ok (.iconst (-1), 1) := by decide +kernel
theorem dX11_riddle_21 : decode cX11_riddle 21 = .ok (.ireturn, 1) := by decide +kernel
theorem dX11_riddle_22 : decode cX11_riddle 22 = .ok (.aload_n 0, 1) := by decide +kernel
theorem dX11_riddle_23 : decode cX11_riddle 23 = .ok (.getfield 44, 3) := by decide +kernel
theorem dX11_riddle_26 : decode cX11_riddle 26 = .ok (.aload_n 0, 1) := by decide +kernel
theorem dX11_riddle_27 : decode cX11_riddle 27 = .ok (.getfield 65, 3) := by decide +kernel
theorem dX11_riddle_30 : decode cX11_riddle 30 = .ok (.getfield 140, 3) := by decide +kernel
theorem dX11_riddle_33 : decode cX11_riddle 33 = .ok (.aload_n 0, 1) := by decide +kernel
theorem dX11_riddle_34 : decode cX11_riddle 34 = .ok (.invokevirtual 113, 3) := by decide +kernel
theorem dX11_riddle_37 : decode cX11_riddle 37 = .ok (.aload_n 0, 1) := by decide +kernel
theorem dX11_riddle_38 : decode cX11_riddle 38 = .ok (.getfield 84, 3) := by decide +kernel
theorem dX11_riddle_41 : decode cX11_riddle 41 = .ok (.invokevirtual 208, 3) := by decide +kernel
theorem dX11_riddle_44 : decode cX11_riddle 44 = .ok (.aload_n 0, 1) := by decide +kernel
theorem dX11_riddle_45 : decode cX11_riddle 45 = .ok (.getfield 51, 3) := by decide +kernel
theorem dX11_riddle_48 : decode cX11_riddle 48 = .ok (.aload_n 0, 1) := by decide +kernel
theorem dX11_riddle_49 : decode cX11_riddle 49 = .ok (.getfield 84, 3) := by decide +kernel
theorem dX11_riddle_52 : decode cX11_riddle 52 = .ok (.aload_n 0, 1) := by decide +kernel
theorem dX11_riddle_53 : decode cX11_riddle 53 = .ok (.getfield 65, 3) := by decide +kernel
theorem dX11_riddle_56 : decode cX11_riddle 56 = .ok (.getfield 119, 3) := by decide +kernel
theorem dX11_riddle_59 : decode cX11_riddle 59 = .ok (.iload_n 1, 1) := by decide +kernel
theorem dX11_riddle_60 : decode cX11_riddle 60 = .ok (.invokevirtual 261, 3) := by decide +kernel
theorem dX11_riddle_63 : decode cX11_riddle 63 = .ok (.ireturn, 1) := by decide +kernel
noncomputable def F_X11_riddle (a0 : Nat) (a1 : Int32) (M : m_M) : Option (Int32 × m_M) :=
  if a1 < 0 then (
    some ((-1 : Int32), M)
  ) else
  if (6 : Int32) < a1 then (
    some ((-1 : Int32), M)
  ) else
  x_gN 9 M a0 9 fun v1 =>
  x_cV 1 M v1 (F_X1_hasAsked v1 M) fun v2 M1 =>
  if v2 = 0 then (
    some ((-1 : Int32), M1)
  ) else
  x_gN 9 M1 a0 6 fun v3 =>
  x_gN 9 M1 a0 9 fun v4 =>
  x_gN 1 M1 v4 5 fun v5 =>
  x_cV 9 M1 a0 (F_X11_verbToday a0 M1) fun v6 M2 =>
  x_gN 9 M2 a0 13 fun v7 =>
  x_cV 5 M2 v3 (F_X5_find v3 v5 v6 v7 M2) fun _ M3 =>
  x_gN 9 M3 a0 7 fun v8 =>
  x_gN 9 M3 a0 13 fun v9 =>
  x_gN 9 M3 a0 9 fun v10 =>
  x_gI 1 M3 v10 0 fun v11 =>
  x_cV 2 M3 v8 (F_X2_findRiddle v8 v9 v11 a1 M3) fun v12 M4 =>
  some (v12, M4)
set_option maxHeartbeats 4000000 in
theorem K_X11_riddle (a0 : Nat) (a1 : Int32) (M : m_M) (Φ : Option Value → m_M → Prop) (h : m_ok e_I Φ (F_X11_riddle a0 a1 M)) : j_Ct yX11_riddle cX11_riddle 2 (some .int) 9 0 0 [.ref a0, .int a1] M Φ := by
  refine j_Ct.of (by decide +kernel) (Nat.le_of_ble_eq_true rfl) fun X C => ?_
  have C0 := C.1
  show j_J X 2 0 [some (.ref a0), some (.int a1)] [] (0, 0) M
  unfold F_X11_riddle at h
  refine j_iload_n C0 (pc := 0) dX11_riddle_0 rfl ?_
  refine j_if_lt C0 (pc := 1) (tgt := 20) dX11_riddle_1 (by decide) (fun hc => ?_) (fun hc => ?_)
  · replace h := (X_if h).1 hc
    refine j_iconst C0 (pc := 20) dX11_riddle_20 (v := (-1 : Int32)) (by decide) ?_
    exact j_iret C rfl h dX11_riddle_21 (by decide)
  · replace h := (X_if h).2 hc
    refine j_iload_n C0 (pc := 4) dX11_riddle_4 rfl ?_
    refine j_bipush C0 (pc := 5) dX11_riddle_5 (v := (6 : Int32)) (by decide) ?_
    refine j_icmp_gt C0 (pc := 7) (tgt := 20) dX11_riddle_7 (by decide) (fun hc => ?_) (fun hc => ?_)
    · replace h := (X_if h).1 hc
      refine j_iconst C0 (pc := 20) dX11_riddle_20 (v := (-1 : Int32)) (by decide) ?_
      exact j_iret C rfl h dX11_riddle_21 (by decide)
    · replace h := (X_if h).2 hc
      refine j_aload_n C0 (pc := 10) dX11_riddle_10 rfl ?_
      refine X_gN C0 (pc := 11) f_OV_65_9 rfl dX11_riddle_11 h (fun v1 h => ?_)
      refine X_cV C0 (pc := 14) (e' := e_I) (as := []) (rest := []) (s' := fun w => .int w :: []) (g' := (0, 0)) v_OV_205_1 (fun Ψ hΨ => K_X1_hasAsked v1 M Ψ hΨ) rfl rfl (fun _ => rfl) (by decide) (by decide) rfl (Nat.le_of_ble_eq_true rfl) dX11_riddle_14 h (fun v2 M1 h => ?_)
      refine j_if_ne C0 (pc := 17) (tgt := 22) dX11_riddle_17 (by decide) (fun hc => ?_) (fun hc => ?_)
      · replace h := (X_if h).2 hc
        refine j_aload_n C0 (pc := 22) dX11_riddle_22 rfl ?_
        refine X_gN C0 (pc := 23) f_OV_44_9 rfl dX11_riddle_23 h (fun v3 h => ?_)
        refine j_aload_n C0 (pc := 26) dX11_riddle_26 rfl ?_
        refine X_gN C0 (pc := 27) f_OV_65_9 rfl dX11_riddle_27 h (fun v4 h => ?_)
        refine X_gN C0 (pc := 30) f_OV_140_1 rfl dX11_riddle_30 h (fun v5 h => ?_)
        refine j_aload_n C0 (pc := 33) dX11_riddle_33 rfl ?_
        refine X_cV C0 (pc := 34) (e' := e_I) (as := []) (rest := [.ref v5, .ref v3]) (s' := fun w => .int w :: [.ref v5, .ref v3]) (g' := (0, 0)) v_OV_113_9 (fun Ψ hΨ => K_X11_verbToday a0 M1 Ψ hΨ) rfl rfl (fun _ => rfl) (by decide) (by decide) rfl (Nat.le_of_ble_eq_true rfl) dX11_riddle_34 h (fun v6 M2 h => ?_)
        refine j_aload_n C0 (pc := 37) dX11_riddle_37 rfl ?_
        refine X_gN C0 (pc := 38) f_OV_84_9 rfl dX11_riddle_38 h (fun v7 h => ?_)
        refine X_cV C0 (pc := 41) (e' := e_V) (as := [.ref v5, .int v6, .ref v7]) (rest := []) (s' := fun _ => []) (g' := (0, 0)) v_OV_208_5 (fun Ψ hΨ => K_X5_find v3 v5 v6 v7 M2 Ψ hΨ) rfl rfl (fun _ => rfl) (by decide) (by decide) rfl (Nat.le_of_ble_eq_true rfl) dX11_riddle_41 h (fun _ M3 h => ?_)
        refine j_aload_n C0 (pc := 44) dX11_riddle_44 rfl ?_
        refine X_gN C0 (pc := 45) f_OV_51_9 rfl dX11_riddle_45 h (fun v8 h => ?_)
        refine j_aload_n C0 (pc := 48) dX11_riddle_48 rfl ?_
        refine X_gN C0 (pc := 49) f_OV_84_9 rfl dX11_riddle_49 h (fun v9 h => ?_)
        refine j_aload_n C0 (pc := 52) dX11_riddle_52 rfl ?_
        refine X_gN C0 (pc := 53) f_OV_65_9 rfl dX11_riddle_53 h (fun v10 h => ?_)
        refine X_gI C0 (pc := 56) f_OV_119_1 rfl dX11_riddle_56 h (fun v11 h => ?_)
        refine j_iload_n C0 (pc := 59) dX11_riddle_59 rfl ?_
        refine X_cV C0 (pc := 60) (e' := e_I) (as := [.ref v9, .int v11, .int a1]) (rest := []) (s' := fun w => .int w :: []) (g' := (0, 0)) v_OV_261_2 (fun Ψ hΨ => K_X2_findRiddle v8 v9 v11 a1 M3 Ψ hΨ) rfl rfl (fun _ => rfl) (by decide) (by decide) rfl (Nat.le_of_ble_eq_true rfl) dX11_riddle_60 h (fun v12 M4 h => ?_)
        exact j_iret C rfl h dX11_riddle_63 (by decide)
      · replace h := (X_if h).1 hc
        refine j_iconst C0 (pc := 20) dX11_riddle_20 (v := (-1 : Int32)) (by decide) ?_
        exact j_iret C rfl h dX11_riddle_21 (by decide)
theorem dX10_isLike_0 : decode cX10_isLike 0 = .ok (.iconst 0, 1) := by decide +kernel
theorem dX10_isLike_1 : decode cX10_isLike 1 = .ok (.istore_n 2, 1) := by decide +kernel
theorem dX10_isLike_2 : decode cX10_isLike 2 = .ok (.iload_n 2, 1) := by decide +kernel
theorem dX10_isLike_3 : decode cX10_isLike 3 = .ok (.bipush 16, 2) := by decide +kernel
theorem dX10_isLike_5 : decode cX10_isLike 5 = .ok (.if_icmp .ge 27, 3) := by decide +kernel
theorem dX10_isLike_8 : decode cX10_isLike 8 = .ok (.aload_n 0, 1) := by decide +kernel
theorem dX10_isLike_9 : decode cX10_isLike 9 = .ok (.getfield 9, 3) := by decide +kernel
theorem dX10_isLike_12 : decode cX10_isLike 12 = .ok (.iload_n 2, 1) := by decide +kernel
theorem dX10_isLike_13 : decode cX10_isLike 13 = .ok (.laload, 1) := by decide +kernel
theorem dX10_isLike_14 : decode cX10_isLike 14 = .ok (.aload_n 1, 1) := by decide +kernel
theorem dX10_isLike_15 : decode cX10_isLike 15 = .ok (.getfield 9, 3) := by decide +kernel
theorem dX10_isLike_18 : decode cX10_isLike 18 = .ok (.iload_n 2, 1) := by decide +kernel
theorem dX10_isLike_19 : decode cX10_isLike 19 = .ok (.laload, 1) := by decide +kernel
theorem dX10_isLike_20 : decode cX10_isLike 20 = .ok (.lcmp, 1) := by decide +kernel
theorem dX10_isLike_21 : decode cX10_isLike 21 = .ok (.ifCond .eq 5, 3) := by decide +kernel
theorem dX10_isLike_24 : decode cX10_isLike 24 = .ok (.iconst 0, 1) := by decide +kernel
theorem dX10_isLike_25 : decode cX10_isLike 25 = .ok (.ireturn, 1) := by decide +kernel
theorem dX10_isLike_26 : decode cX10_isLike 26 = .ok (.iinc 2 1, 3) := by decide +kernel
theorem dX10_isLike_29 : decode cX10_isLike 29 = .ok (.goto (-27), 3) := by decide +kernel
theorem dX10_isLike_32 : decode cX10_isLike 32 = .ok (.iconst 1, 1) := by decide +kernel
theorem dX10_isLike_33 : decode cX10_isLike 33 = .ok (.ireturn, 1) := by decide +kernel
noncomputable def F_X10_isLike_2 : Nat → Nat → Nat → Int32 → m_M → Option (Int32 × m_M)
  | 0, _, _, _, _ => none
  | n + 1, v1, v2, v3, M =>
    if (16 : Int32) ≤ v3 then (
      some ((1 : Int32), M)
    ) else
    x_gN 8 M v1 0 fun v4 =>
    x_aL M v4 v3 fun v5 =>
    x_gN 8 M v2 0 fun v6 =>
    x_aL M v6 v3 fun v7 =>
    if (lg_cmp v5 v7) = 0 then (
      m_let (v3 + (1 : Int32)) fun v8 =>
      F_X10_isLike_2 n v1 v2 v8 M
    ) else
    some ((0 : Int32), M)
noncomputable def F_X10_isLike (a0 : Nat) (a1 : Nat) (M : m_M) : Option (Int32 × m_M) :=
  F_X10_isLike_2 m_FU a0 a1 (0 : Int32) M
set_option maxHeartbeats 4000000 in
theorem L_X10_isLike_2 {X : j_X} {Φ : Option Value → m_M → Prop} (C : j_C X yX10_isLike cX10_isLike 3 (some .boolean) 1 0 0 Φ) : ∀ (n : Nat) (v1 : Nat) (v2 : Nat) (v3 : Int32) (M : m_M), m_ok e_I Φ (F_X10_isLike_2 n v1 v2 v3 M) → j_J X 3 2 [some (.ref v1), some (.ref v2), some (.int v3)] [] (0, 0) M := by
  have C0 := C.1
  intro n
  induction n with
  | zero => intro v1 v2 v3 M h; exact False.elim h
  | succ n ih =>
    intro v1 v2 v3 M h
    rw [F_X10_isLike_2] at h
    refine j_iload_n C0 (pc := 2) dX10_isLike_2 rfl ?_
    refine j_bipush C0 (pc := 3) dX10_isLike_3 (v := (16 : Int32)) (by decide) ?_
    refine j_icmp_ge C0 (pc := 5) (tgt := 32) dX10_isLike_5 (by decide) (fun hc => ?_) (fun hc => ?_)
    · replace h := (X_if h).1 hc
      refine j_iconst C0 (pc := 32) dX10_isLike_32 (v := (1 : Int32)) (by decide) ?_
      exact j_zret C rfl (by decide) h dX10_isLike_33 (by decide)
    · replace h := (X_if h).2 hc
      refine j_aload_n C0 (pc := 8) dX10_isLike_8 rfl ?_
      refine X_gN C0 (pc := 9) f_WS_9_8 rfl dX10_isLike_9 h (fun v4 h => ?_)
      refine j_iload_n C0 (pc := 12) dX10_isLike_12 rfl ?_
      refine X_lald C0 (pc := 13) dX10_isLike_13 h (fun v5 h => ?_)
      refine j_aload_n C0 (pc := 14) dX10_isLike_14 rfl ?_
      refine X_gN C0 (pc := 15) f_WS_9_8 rfl dX10_isLike_15 h (fun v6 h => ?_)
      refine j_iload_n C0 (pc := 18) dX10_isLike_18 rfl ?_
      refine X_lald C0 (pc := 19) dX10_isLike_19 h (fun v7 h => ?_)
      refine j_lcmp C0 (pc := 20) dX10_isLike_20 ?_
      refine j_if_eq C0 (pc := 21) (tgt := 26) dX10_isLike_21 (by decide) (fun hc => ?_) (fun hc => ?_)
      · replace h := (X_if h).1 hc
        refine j_iinc C0 (pc := 26) dX10_isLike_26 (v := v3 + (1 : Int32)) rfl (Nat.le_of_ble_eq_true rfl) (by rfl) ?_
        refine X_let (G := fun w => j_J X 3 29 [some (.ref v1), some (.ref v2), some (.int w)] [] (0, 0) M) h (fun v8 h => ?_)
        refine j_goto C0 (pc := 29) (tgt := 2) dX10_isLike_29 (by decide) ?_
        exact j_J.wq (ih v1 v2 v8 M h) (And.intro rfl (And.intro rfl (And.intro rfl (trivial))))
      · replace h := (X_if h).2 hc
        refine j_iconst C0 (pc := 24) dX10_isLike_24 (v := (0 : Int32)) (by decide) ?_
        exact j_zret C rfl (by decide) h dX10_isLike_25 (by decide)
set_option maxHeartbeats 4000000 in
theorem K_X10_isLike (a0 : Nat) (a1 : Nat) (M : m_M) (Φ : Option Value → m_M → Prop) (h : m_ok e_I Φ (F_X10_isLike a0 a1 M)) : j_Ct yX10_isLike cX10_isLike 3 (some .boolean) 1 0 0 [.ref a0, .ref a1] M Φ := by
  refine j_Ct.of (by decide +kernel) (Nat.le_of_ble_eq_true rfl) fun X C => ?_
  have C0 := C.1
  show j_J X 3 0 [some (.ref a0), some (.ref a1), none] [] (0, 0) M
  unfold F_X10_isLike at h
  refine j_iconst C0 (pc := 0) dX10_isLike_0 (v := (0 : Int32)) (by decide) ?_
  refine j_istore_n C0 (pc := 1) dX10_isLike_1 (Nat.le_of_ble_eq_true rfl) ?_
  show j_J X 3 2 [some (.ref a0), some (.ref a1), some (.int (0 : Int32))] [] (0, 0) M
  exact j_J.wq (L_X10_isLike_2 C m_FU a0 a1 (0 : Int32) M h) (And.intro rfl (And.intro rfl (And.intro rfl (trivial))))
theorem dX11_same_0 : decode cX11_same 0 = .ok (.iload_n 1, 1) := by decide +kernel
theorem dX11_same_1 : decode cX11_same 1 = .ok (.ifCond .lt 17, 3) := by decide +kernel
theorem dX11_same_4 : decode cX11_same 4 = .ok (.iload_n 2, 1) := by decide +kernel
theorem dX11_same_5 : decode cX11_same 5 = .ok (.ifCond .lt 13, 3) := by decide +kernel
theorem dX11_same_8 : decode cX11_same 8 = .ok (.aload_n 0, 1) := by decide +kernel
theorem dX11_same_9 : decode cX11_same 9 = .ok (.getfield 65, 3) := by decide +kernel
theorem dX11_same_12 : decode cX11_same 12 = .ok (.invokevirtual 205, 3) := by decide +kernel
theorem dX11_same_15 : decode cX11_same 15 = .ok (.ifCond .ne 5, 3) := by decide +kernel
theorem dX11_same_18 : decode cX11_same 18 = .ok (.iconst (-1), 1) := by decide +kernel
theorem dX11_same_19 : decode cX11_same 19 = .ok (.ireturn, 1) := by decide +kernel
theorem dX11_same_20 : decode cX11_same 20 = .ok (.aload_n 0, 1) := by decide +kernel
theorem dX11_same_21 : decode cX11_same 21 = .ok (.getfield 44, 3) := by decide +kernel
theorem dX11_same_24 : decode cX11_same 24 = .ok (.aload_n 0, 1) := by decide +kernel
theorem dX11_same_25 : decode cX11_same 25 = .ok (.getfield 65, 3) := by decide +kernel
theorem dX11_same_28 : decode cX11_same 28 = .ok (.getfield 140, 3) := by decide +kernel
theorem dX11_same_31 : decode cX11_same 31 = .ok (.aload_n 0, 1) := by decide +kernel
theorem dX11_same_32 : decode cX11_same 32 = .ok (.getfield 16, 3) := by decide +kernel
theorem dX11_same_35 : decode cX11_same 35 = .ok (.iload_n 1, 1) := by decide +kernel
theorem dX11_same_36 : decode cX11_same 36 = .ok (.invokevirtual 162, 3) := by decide +kernel
theorem dX11_same_39 : decode cX11_same 39 = .ok (.aload_n 0, 1) := by decide +kernel
theorem dX11_same_40 : decode cX11_same 40 = .ok (.getfield 84, 3) := by decide +kernel
theorem dX11_same_43 : decode cX11_same 43 = .ok (.invokevirtual 208, 3) := by decide +kernel
theorem dX11_same_46 : decode cX11_same 46 = .ok (.aload_n 0, 1) := by decide +kernel
theorem dX11_same_47 : decode cX11_same 47 = .ok (.getfield 44, 3) := by decide +kernel
theorem dX11_same_50 : decode cX11_same 50 = .ok (.aload_n 0, 1) := by decide +kernel
theorem dX11_same_51 : decode cX11_same 51 = .ok (.getfield 65, 3) := by decide +kernel
theorem dX11_same_54 : decode cX11_same 54 = .ok (.getfield 140, 3) := by decide +kernel
theorem dX11_same_57 : decode cX11_same 57 = .ok (.aload_n 0, 1) := by decide +kernel
theorem dX11_same_58 : decode cX11_same 58 = .ok (.getfield 16, 3) := by decide +kernel
theorem dX11_same_61 : decode cX11_same 61 = .ok (.iload_n 2, 1) := by decide +kernel
theorem dX11_same_62 : decode cX11_same 62 = .ok (.invokevirtual 162, 3) := by decide +kernel
theorem dX11_same_65 : decode cX11_same 65 = .ok (.aload_n 0, 1) := by decide +kernel
theorem dX11_same_66 : decode cX11_same 66 = .ok (.getfield 87, 3) := by decide +kernel
theorem dX11_same_69 : decode cX11_same 69 = .ok (.invokevirtual 208, 3) := by decide +kernel
theorem dX11_same_72 : decode cX11_same 72 = .ok (.aload_n 0, 1) := by decide +kernel
theorem dX11_same_73 : decode cX11_same 73 = .ok (.getfield 84, 3) := by decide +kernel
theorem dX11_same_76 : decode cX11_same 76 = .ok (.aload_n 0, 1) := by decide +kernel
theorem dX11_same_77 : decode cX11_same 77 = .ok (.getfield 87, 3) := by decide +kernel
theorem dX11_same_80 : decode cX11_same 80 = .ok (.invokevirtual 212, 3) := by decide +kernel
theorem dX11_same_83 : decode cX11_same 83 = .ok (.ifCond .eq 7, 3) := by decide +kernel
theorem dX11_same_86 : decode cX11_same 86 = .ok (.iconst 1, 1) := by decide +kernel
theorem dX11_same_87 : decode cX11_same 87 = .ok (.goto 4, 3) := by decide +kernel
theorem dX11_same_90 : decode cX11_same 90 = .ok (.iconst 0, 1) := by decide +kernel
theorem dX11_same_91 : decode cX11_same 91 = .ok (.ireturn, 1) := by decide +kernel
noncomputable def F_X11_same (a0 : Nat) (a1 : Int32) (a2 : Int32) (M : m_M) : Option (Int32 × m_M) :=
  if a1 < 0 then (
    some ((-1 : Int32), M)
  ) else
  if a2 < 0 then (
    some ((-1 : Int32), M)
  ) else
  x_gN 9 M a0 9 fun v1 =>
  x_cV 1 M v1 (F_X1_hasAsked v1 M) fun v2 M1 =>
  if v2 = 0 then (
    some ((-1 : Int32), M1)
  ) else
  x_gN 9 M1 a0 6 fun v3 =>
  x_gN 9 M1 a0 9 fun v4 =>
  x_gN 1 M1 v4 5 fun v5 =>
  x_gN 9 M1 a0 2 fun v6 =>
  x_cV 3 M1 v6 (F_X3_verbOf v6 a1 M1) fun v7 M2 =>
  x_gN 9 M2 a0 13 fun v8 =>
  x_cV 5 M2 v3 (F_X5_find v3 v5 v7 v8 M2) fun _ M3 =>
  x_gN 9 M3 a0 6 fun v9 =>
  x_gN 9 M3 a0 9 fun v10 =>
  x_gN 1 M3 v10 5 fun v11 =>
  x_gN 9 M3 a0 2 fun v12 =>
  x_cV 3 M3 v12 (F_X3_verbOf v12 a2 M3) fun v13 M4 =>
  x_gN 9 M4 a0 14 fun v14 =>
  x_cV 5 M4 v9 (F_X5_find v9 v11 v13 v14 M4) fun _ M5 =>
  x_gN 9 M5 a0 13 fun v15 =>
  x_gN 9 M5 a0 14 fun v16 =>
  x_cV 8 M5 v15 (F_X10_isLike v15 v16 M5) fun v17 M6 =>
  if v17 = 0 then (
    some ((0 : Int32), M6)
  ) else
  some ((1 : Int32), M6)
set_option maxHeartbeats 4000000 in
theorem K_X11_same (a0 : Nat) (a1 : Int32) (a2 : Int32) (M : m_M) (Φ : Option Value → m_M → Prop) (h : m_ok e_I Φ (F_X11_same a0 a1 a2 M)) : j_Ct yX11_same cX11_same 3 (some .int) 7 0 0 [.ref a0, .int a1, .int a2] M Φ := by
  refine j_Ct.of (by decide +kernel) (Nat.le_of_ble_eq_true rfl) fun X C => ?_
  have C0 := C.1
  show j_J X 3 0 [some (.ref a0), some (.int a1), some (.int a2)] [] (0, 0) M
  unfold F_X11_same at h
  refine j_iload_n C0 (pc := 0) dX11_same_0 rfl ?_
  refine j_if_lt C0 (pc := 1) (tgt := 18) dX11_same_1 (by decide) (fun hc => ?_) (fun hc => ?_)
  · replace h := (X_if h).1 hc
    refine j_iconst C0 (pc := 18) dX11_same_18 (v := (-1 : Int32)) (by decide) ?_
    exact j_iret C rfl h dX11_same_19 (by decide)
  · replace h := (X_if h).2 hc
    refine j_iload_n C0 (pc := 4) dX11_same_4 rfl ?_
    refine j_if_lt C0 (pc := 5) (tgt := 18) dX11_same_5 (by decide) (fun hc => ?_) (fun hc => ?_)
    · replace h := (X_if h).1 hc
      refine j_iconst C0 (pc := 18) dX11_same_18 (v := (-1 : Int32)) (by decide) ?_
      exact j_iret C rfl h dX11_same_19 (by decide)
    · replace h := (X_if h).2 hc
      refine j_aload_n C0 (pc := 8) dX11_same_8 rfl ?_
      refine X_gN C0 (pc := 9) f_OV_65_9 rfl dX11_same_9 h (fun v1 h => ?_)
      refine X_cV C0 (pc := 12) (e' := e_I) (as := []) (rest := []) (s' := fun w => .int w :: []) (g' := (0, 0)) v_OV_205_1 (fun Ψ hΨ => K_X1_hasAsked v1 M Ψ hΨ) rfl rfl (fun _ => rfl) (by decide) (by decide) rfl (Nat.le_of_ble_eq_true rfl) dX11_same_12 h (fun v2 M1 h => ?_)
      refine j_if_ne C0 (pc := 15) (tgt := 20) dX11_same_15 (by decide) (fun hc => ?_) (fun hc => ?_)
      · replace h := (X_if h).2 hc
        refine j_aload_n C0 (pc := 20) dX11_same_20 rfl ?_
        refine X_gN C0 (pc := 21) f_OV_44_9 rfl dX11_same_21 h (fun v3 h => ?_)
        refine j_aload_n C0 (pc := 24) dX11_same_24 rfl ?_
        refine X_gN C0 (pc := 25) f_OV_65_9 rfl dX11_same_25 h (fun v4 h => ?_)
        refine X_gN C0 (pc := 28) f_OV_140_1 rfl dX11_same_28 h (fun v5 h => ?_)
        refine j_aload_n C0 (pc := 31) dX11_same_31 rfl ?_
        refine X_gN C0 (pc := 32) f_OV_16_9 rfl dX11_same_32 h (fun v6 h => ?_)
        refine j_iload_n C0 (pc := 35) dX11_same_35 rfl ?_
        refine X_cV C0 (pc := 36) (e' := e_I) (as := [.int a1]) (rest := [.ref v5, .ref v3]) (s' := fun w => .int w :: [.ref v5, .ref v3]) (g' := (0, 0)) v_OV_162_3 (fun Ψ hΨ => K_X3_verbOf v6 a1 M1 Ψ hΨ) rfl rfl (fun _ => rfl) (by decide) (by decide) rfl (Nat.le_of_ble_eq_true rfl) dX11_same_36 h (fun v7 M2 h => ?_)
        refine j_aload_n C0 (pc := 39) dX11_same_39 rfl ?_
        refine X_gN C0 (pc := 40) f_OV_84_9 rfl dX11_same_40 h (fun v8 h => ?_)
        refine X_cV C0 (pc := 43) (e' := e_V) (as := [.ref v5, .int v7, .ref v8]) (rest := []) (s' := fun _ => []) (g' := (0, 0)) v_OV_208_5 (fun Ψ hΨ => K_X5_find v3 v5 v7 v8 M2 Ψ hΨ) rfl rfl (fun _ => rfl) (by decide) (by decide) rfl (Nat.le_of_ble_eq_true rfl) dX11_same_43 h (fun _ M3 h => ?_)
        refine j_aload_n C0 (pc := 46) dX11_same_46 rfl ?_
        refine X_gN C0 (pc := 47) f_OV_44_9 rfl dX11_same_47 h (fun v9 h => ?_)
        refine j_aload_n C0 (pc := 50) dX11_same_50 rfl ?_
        refine X_gN C0 (pc := 51) f_OV_65_9 rfl dX11_same_51 h (fun v10 h => ?_)
        refine X_gN C0 (pc := 54) f_OV_140_1 rfl dX11_same_54 h (fun v11 h => ?_)
        refine j_aload_n C0 (pc := 57) dX11_same_57 rfl ?_
        refine X_gN C0 (pc := 58) f_OV_16_9 rfl dX11_same_58 h (fun v12 h => ?_)
        refine j_iload_n C0 (pc := 61) dX11_same_61 rfl ?_
        refine X_cV C0 (pc := 62) (e' := e_I) (as := [.int a2]) (rest := [.ref v11, .ref v9]) (s' := fun w => .int w :: [.ref v11, .ref v9]) (g' := (0, 0)) v_OV_162_3 (fun Ψ hΨ => K_X3_verbOf v12 a2 M3 Ψ hΨ) rfl rfl (fun _ => rfl) (by decide) (by decide) rfl (Nat.le_of_ble_eq_true rfl) dX11_same_62 h (fun v13 M4 h => ?_)
        refine j_aload_n C0 (pc := 65) dX11_same_65 rfl ?_
        refine X_gN C0 (pc := 66) f_OV_87_9 rfl dX11_same_66 h (fun v14 h => ?_)
        refine X_cV C0 (pc := 69) (e' := e_V) (as := [.ref v11, .int v13, .ref v14]) (rest := []) (s' := fun _ => []) (g' := (0, 0)) v_OV_208_5 (fun Ψ hΨ => K_X5_find v9 v11 v13 v14 M4 Ψ hΨ) rfl rfl (fun _ => rfl) (by decide) (by decide) rfl (Nat.le_of_ble_eq_true rfl) dX11_same_69 h (fun _ M5 h => ?_)
        refine j_aload_n C0 (pc := 72) dX11_same_72 rfl ?_
        refine X_gN C0 (pc := 73) f_OV_84_9 rfl dX11_same_73 h (fun v15 h => ?_)
        refine j_aload_n C0 (pc := 76) dX11_same_76 rfl ?_
        refine X_gN C0 (pc := 77) f_OV_87_9 rfl dX11_same_77 h (fun v16 h => ?_)
        refine X_cV C0 (pc := 80) (e' := e_I) (as := [.ref v16]) (rest := []) (s' := fun w => .int w :: []) (g' := (0, 0)) v_OV_212_8 (fun Ψ hΨ => K_X10_isLike v15 v16 M5 Ψ hΨ) rfl rfl (fun _ => rfl) (by decide) (by decide) rfl (Nat.le_of_ble_eq_true rfl) dX11_same_80 h (fun v17 M6 h => ?_)
        refine j_if_eq C0 (pc := 83) (tgt := 90) dX11_same_83 (by decide) (fun hc => ?_) (fun hc => ?_)
        · replace h := (X_if h).1 hc
          refine j_iconst C0 (pc := 90) dX11_same_90 (v := (0 : Int32)) (by decide) ?_
          exact j_iret C rfl h dX11_same_91 (by decide)
        · replace h := (X_if h).2 hc
          refine j_iconst C0 (pc := 86) dX11_same_86 (v := (1 : Int32)) (by decide) ?_
          refine j_goto C0 (pc := 87) (tgt := 91) dX11_same_87 (by decide) ?_
          exact j_iret C rfl h dX11_same_91 (by decide)
      · replace h := (X_if h).1 hc
        refine j_iconst C0 (pc := 18) dX11_same_18 (v := (-1 : Int32)) (by decide) ?_
        exact j_iret C rfl h dX11_same_19 (by decide)
theorem dX1_insertSaid_0 : decode cX1_insertSaid 0 = .ok (.iload_n 1, 1) := by decide +kernel
theorem dX1_insertSaid_1 : decode cX1_insertSaid 1 = .ok (.ifCond .lt 20, 3) := by decide +kernel
theorem dX1_insertSaid_4 : decode cX1_insertSaid 4 = .ok (.iload_n 1, 1) := by decide +kernel
theorem dX1_insertSaid_5 : decode cX1_insertSaid 5 = .ok (.aload_n 0, 1) := by decide +kernel
theorem dX1_insertSaid_6 : decode cX1_insertSaid 6 = .ok (.getfield 43, 3) := by decide +kernel
theorem dX1_insertSaid_9 : decode cX1_insertSaid 9 = .ok (.if_icmp .gt 12, 3) := by decide +kernel
theorem dX1_insertSaid_12 : decode cX1_insertSaid 12 = .ok (.aload_n 0, 1) := by decide +kernel
theorem dX1_insertSaid_13 : decode cX1_insertSaid 13 = .ok (.getfield 43, 3) := by decide +kernel
theorem dX1_insertSaid_16 : decode cX1_insertSaid 16 = .ok (.bipush 12, 2) := by decide +kernel
theorem dX1_insertSaid_18 : decode cX1_insertSaid 18 = .ok (.if_icmp .lt 5, 3) := by decide +kernel
theorem dX1_insertSaid_21 : decode cX1_insertSaid 21 = .ok (.iconst 0, 1) := by decide +kernel
theorem dX1_insertSaid_22 : decode cX1_insertSaid 22 = .ok (.ireturn, 1) := by decide +kernel
theorem dX1_insertSaid_23 : decode cX1_insertSaid 23 = .ok (.aload_n 0, 1) := by decide +kernel
theorem dX1_insertSaid_24 : decode cX1_insertSaid 24 = .ok (.getfield 43, 3) := by decide +kernel
theorem dX1_insertSaid_27 : decode cX1_insertSaid 27 = .ok (.istore_n 3, 1) := by decide +kernel
theorem dX1_insertSaid_28 : decode cX1_insertSaid 28 = .ok (.iload_n 3, 1) := by decide +kernel
theorem dX1_insertSaid_29 : decode cX1_insertSaid 29 = .ok (.iload_n 1, 1) := by decide +kernel
theorem dX1_insertSaid_30 : decode cX1_insertSaid 30 = .ok (.if_icmp .le 23, 3) := by decide +kernel
theorem dX1_insertSaid_33 : decode cX1_insertSaid 33 = .ok (.aload_n 0, 1) := by decide +kernel
theorem dX1_insertSaid_34 : decode cX1_insertSaid 34 = .ok (.getfield 20, 3) := by decide +kernel
theorem dX1_insertSaid_37 : decode cX1_insertSaid 37 = .ok (.iload_n 3, 1) := by decide +kernel
theorem dX1_insertSaid_38 : decode cX1_insertSaid 38 = .ok (.aload_n 0, 1) := by decide +kernel
theorem dX1_insertSaid_39 : decode cX1_insertSaid 39 = .ok (.getfield 20, 3) := by decide +kernel
theorem dX1_insertSaid_42 : decode cX1_insertSaid 42 = .ok (.iload_n 3, 1) := by decide +kernel
theorem dX1_insertSaid_43 : decode cX1_insertSaid 43 = .ok (.iconst 1, 1) := by decide +kernel
theorem dX1_insertSaid_44 : decode cX1_insertSaid 44 = .ok (.isub, 1) := by decide +kernel
theorem dX1_insertSaid_45 : decode cX1_insertSaid 45 = .ok (.aaload, 1) := by decide +kernel
theorem dX1_insertSaid_46 : decode cX1_insertSaid 46 = .ok (.aastore, 1) := by decide +kernel
theorem dX1_insertSaid_47 : decode cX1_insertSaid 47 = .ok (.iinc 3 (-1), 3) := by decide +kernel
theorem dX1_insertSaid_50 : decode cX1_insertSaid 50 = .ok (.goto (-22), 3) := by decide +kernel
theorem dX1_insertSaid_53 : decode cX1_insertSaid 53 = .ok (.aload_n 0, 1) := by decide +kernel
theorem dX1_insertSaid_54 : decode cX1_insertSaid 54 = .ok (.getfield 20, 3) := by decide +kernel
theorem dX1_insertSaid_57 : decode cX1_insertSaid 57 = .ok (.iload_n 1, 1) := by decide +kernel
theorem dX1_insertSaid_58 : decode cX1_insertSaid 58 = .ok (.aload_n 2, 1) := by decide +kernel
theorem dX1_insertSaid_59 : decode cX1_insertSaid 59 = .ok (.aastore, 1) := by decide +kernel
theorem dX1_insertSaid_60 : decode cX1_insertSaid 60 = .ok (.aload_n 0, 1) := by decide +kernel
theorem dX1_insertSaid_61 : decode cX1_insertSaid 61 = .ok (.dup, 1) := by decide +kernel
theorem dX1_insertSaid_62 : decode cX1_insertSaid 62 = .ok (.getfield 43, 3) := by decide +kernel
theorem dX1_insertSaid_65 : decode cX1_insertSaid 65 = .ok (.iconst 1, 1) := by decide +kernel
theorem dX1_insertSaid_66 : decode cX1_insertSaid 66 = .ok (.iadd, 1) := by decide +kernel
theorem dX1_insertSaid_67 : decode cX1_insertSaid 67 = .ok (.putfield 43, 3) := by decide +kernel
theorem dX1_insertSaid_70 : decode cX1_insertSaid 70 = .ok (.iconst 1, 1) := by decide +kernel
theorem dX1_insertSaid_71 : decode cX1_insertSaid 71 = .ok (.ireturn, 1) := by decide +kernel
noncomputable def F_X1_insertSaid_28 (k53 : Nat → Int32 → Nat → m_M → Option (Int32 × m_M)) : Nat → Nat → Int32 → Nat → Int32 → m_M → Option (Int32 × m_M)
  | 0, _, _, _, _, _ => none
  | n + 1, v1, v2, v3, v4, M =>
    if v4 ≤ v2 then (
      k53 v1 v2 v3 M
    ) else
    x_gN 1 M v1 7 fun v5 =>
    x_gN 1 M v1 7 fun v6 =>
    x_aN 16 M v6 (v4 - (1 : Int32)) fun v7 =>
    x_sR 16 6 M v5 v4 (some v7) fun M1 =>
    m_let (v4 + (-1 : Int32)) fun v8 =>
    F_X1_insertSaid_28 k53 n v1 v2 v3 v8 M1
noncomputable def F_X1_insertSaid (a0 : Nat) (a1 : Int32) (a2 : Nat) (M : m_M) : Option (Int32 × m_M) :=
  if a1 < 0 then (
    some ((0 : Int32), M)
  ) else
  x_gI 1 M a0 1 fun v1 =>
  if v1 < a1 then (
    some ((0 : Int32), M)
  ) else
  x_gI 1 M a0 1 fun v2 =>
  if v2 < (12 : Int32) then (
    x_gI 1 M a0 1 fun v3 =>
    m_let (fun (v4 : Nat) (v5 : Int32) (v6 : Nat) (M1 : m_M) =>
      x_gN 1 M1 v4 7 fun v7 =>
      x_sR 16 6 M1 v7 v5 (some v6) fun M2 =>
      x_gI 1 M2 v4 1 fun v8 =>
      x_pI 1 M2 v4 1 (v8 + (1 : Int32)) fun M3 =>
      some ((1 : Int32), M3)
    ) fun (k53 : Nat → Int32 → Nat → m_M → Option (Int32 × m_M)) =>
    F_X1_insertSaid_28 k53 m_FU a0 a1 a2 v3 M
  ) else
  some ((0 : Int32), M)
set_option maxHeartbeats 4000000 in
theorem L_X1_insertSaid_28 {X : j_X} {Φ : Option Value → m_M → Prop} (C : j_C X yX1_insertSaid cX1_insertSaid 4 (some .boolean) 1 0 0 Φ) {k53 : Nat → Int32 → Nat → m_M → Option (Int32 × m_M)} (hk53 : ∀ (p0 : Nat) (p1 : Int32) (p2 : Nat) (M : m_M), m_ok e_I Φ (k53 p0 p1 p2 M) → j_J X 4 53 [some (.ref p0), some (.int p1), some (.ref p2), none] [] (0, 0) M) : ∀ (n : Nat) (v1 : Nat) (v2 : Int32) (v3 : Nat) (v4 : Int32) (M : m_M), m_ok e_I Φ (F_X1_insertSaid_28 k53 n v1 v2 v3 v4 M) → j_J X 4 28 [some (.ref v1), some (.int v2), some (.ref v3), some (.int v4)] [] (0, 0) M := by
  have C0 := C.1
  intro n
  induction n with
  | zero => intro v1 v2 v3 v4 M h; exact False.elim h
  | succ n ih =>
    intro v1 v2 v3 v4 M h
    rw [F_X1_insertSaid_28] at h
    refine j_iload_n C0 (pc := 28) dX1_insertSaid_28 rfl ?_
    refine j_iload_n C0 (pc := 29) dX1_insertSaid_29 rfl ?_
    refine j_icmp_le C0 (pc := 30) (tgt := 53) dX1_insertSaid_30 (by decide) (fun hc => ?_) (fun hc => ?_)
    · replace h := (X_if h).1 hc
      exact j_J.wq (hk53 v1 v2 v3 M h) (And.intro rfl (And.intro rfl (And.intro rfl (trivial))))
    · replace h := (X_if h).2 hc
      refine j_aload_n C0 (pc := 33) dX1_insertSaid_33 rfl ?_
      refine X_gN C0 (pc := 34) f_Book_20_1 rfl dX1_insertSaid_34 h (fun v5 h => ?_)
      refine j_iload_n C0 (pc := 37) dX1_insertSaid_37 rfl ?_
      refine j_aload_n C0 (pc := 38) dX1_insertSaid_38 rfl ?_
      refine X_gN C0 (pc := 39) f_Book_20_1 rfl dX1_insertSaid_39 h (fun v6 h => ?_)
      refine j_iload_n C0 (pc := 42) dX1_insertSaid_42 rfl ?_
      refine j_iconst C0 (pc := 43) dX1_insertSaid_43 (v := (1 : Int32)) (by decide) ?_
      refine j_isub C0 (pc := 44) dX1_insertSaid_44 ?_
      refine X_aaldN C0 (pc := 45) (by decide) dX1_insertSaid_45 h (fun v7 h => ?_)
      refine X_aastN C0 (pc := 46) (by decide) dX1_insertSaid_46 h (fun M1 h => ?_)
      refine j_iinc C0 (pc := 47) dX1_insertSaid_47 (v := v4 + (-1 : Int32)) rfl (Nat.le_of_ble_eq_true rfl) (by rfl) ?_
      refine X_let (G := fun w => j_J X 4 50 [some (.ref v1), some (.int v2), some (.ref v3), some (.int w)] [] (0, 0) M1) h (fun v8 h => ?_)
      refine j_goto C0 (pc := 50) (tgt := 28) dX1_insertSaid_50 (by decide) ?_
      exact j_J.wq (ih v1 v2 v3 v8 M1 h) (And.intro rfl (And.intro rfl (And.intro rfl (And.intro rfl (trivial)))))
set_option maxHeartbeats 4000000 in
theorem K_X1_insertSaid (a0 : Nat) (a1 : Int32) (a2 : Nat) (M : m_M) (Φ : Option Value → m_M → Prop) (h : m_ok e_I Φ (F_X1_insertSaid a0 a1 a2 M)) : j_Ct yX1_insertSaid cX1_insertSaid 4 (some .boolean) 1 0 0 [.ref a0, .int a1, .ref a2] M Φ := by
  refine j_Ct.of (by decide +kernel) (Nat.le_of_ble_eq_true rfl) fun X C => ?_
  have C0 := C.1
  show j_J X 4 0 [some (.ref a0), some (.int a1), some (.ref a2), none] [] (0, 0) M
  unfold F_X1_insertSaid at h
  refine j_iload_n C0 (pc := 0) dX1_insertSaid_0 rfl ?_
  refine j_if_lt C0 (pc := 1) (tgt := 21) dX1_insertSaid_1 (by decide) (fun hc => ?_) (fun hc => ?_)
  · replace h := (X_if h).1 hc
    refine j_iconst C0 (pc := 21) dX1_insertSaid_21 (v := (0 : Int32)) (by decide) ?_
    exact j_zret C rfl (by decide) h dX1_insertSaid_22 (by decide)
  · replace h := (X_if h).2 hc
    refine j_iload_n C0 (pc := 4) dX1_insertSaid_4 rfl ?_
    refine j_aload_n C0 (pc := 5) dX1_insertSaid_5 rfl ?_
    refine X_gI C0 (pc := 6) f_Book_43_1 rfl dX1_insertSaid_6 h (fun v1 h => ?_)
    refine j_icmp_gt C0 (pc := 9) (tgt := 21) dX1_insertSaid_9 (by decide) (fun hc => ?_) (fun hc => ?_)
    · replace h := (X_if h).1 hc
      refine j_iconst C0 (pc := 21) dX1_insertSaid_21 (v := (0 : Int32)) (by decide) ?_
      exact j_zret C rfl (by decide) h dX1_insertSaid_22 (by decide)
    · replace h := (X_if h).2 hc
      refine j_aload_n C0 (pc := 12) dX1_insertSaid_12 rfl ?_
      refine X_gI C0 (pc := 13) f_Book_43_1 rfl dX1_insertSaid_13 h (fun v2 h => ?_)
      refine j_bipush C0 (pc := 16) dX1_insertSaid_16 (v := (12 : Int32)) (by decide) ?_
      refine j_icmp_lt C0 (pc := 18) (tgt := 23) dX1_insertSaid_18 (by decide) (fun hc => ?_) (fun hc => ?_)
      · replace h := (X_if h).1 hc
        refine j_aload_n C0 (pc := 23) dX1_insertSaid_23 rfl ?_
        refine X_gI C0 (pc := 24) f_Book_43_1 rfl dX1_insertSaid_24 h (fun v3 h => ?_)
        refine j_istore_n C0 (pc := 27) dX1_insertSaid_27 (Nat.le_of_ble_eq_true rfl) ?_
        show j_J X 4 28 [some (.ref a0), some (.int a1), some (.ref a2), some (.int v3)] [] (0, 0) M
        refine X_join (fun (kj : Nat → Int32 → Nat → m_M → Option (Int32 × m_M)) => ∀ (p0 : Nat) (p1 : Int32) (p2 : Nat) (M : m_M), m_ok e_I Φ (kj p0 p1 p2 M) → j_J X 4 53 [some (.ref p0), some (.int p1), some (.ref p2), none] [] (0, 0) M) h (fun v4 v5 v6 M1 h => ?_) (fun k53 hk53 h => ?_)
        · refine j_aload_n C0 (pc := 53) dX1_insertSaid_53 rfl ?_
          refine X_gN C0 (pc := 54) f_Book_20_1 rfl dX1_insertSaid_54 h (fun v7 h => ?_)
          refine j_iload_n C0 (pc := 57) dX1_insertSaid_57 rfl ?_
          refine j_aload_n C0 (pc := 58) dX1_insertSaid_58 rfl ?_
          refine X_aastN C0 (pc := 59) (by decide) dX1_insertSaid_59 h (fun M2 h => ?_)
          refine j_aload_n C0 (pc := 60) dX1_insertSaid_60 rfl ?_
          refine j_dup C0 (pc := 61) dX1_insertSaid_61 rfl ?_
          refine X_gI C0 (pc := 62) f_Book_43_1 rfl dX1_insertSaid_62 h (fun v8 h => ?_)
          refine j_iconst C0 (pc := 65) dX1_insertSaid_65 (v := (1 : Int32)) (by decide) ?_
          refine j_iadd C0 (pc := 66) dX1_insertSaid_66 ?_
          refine X_pI C0 (pc := 67) f_Book_43_1 rfl rfl dX1_insertSaid_67 h (fun M3 h => ?_)
          refine j_iconst C0 (pc := 70) dX1_insertSaid_70 (v := (1 : Int32)) (by decide) ?_
          exact j_zret C rfl (by decide) h dX1_insertSaid_71 (by decide)
        · exact j_J.wq (L_X1_insertSaid_28 C hk53 m_FU a0 a1 a2 v3 M h) (And.intro rfl (And.intro rfl (And.intro rfl (And.intro rfl (trivial)))))
      · replace h := (X_if h).2 hc
        refine j_iconst C0 (pc := 21) dX1_insertSaid_21 (v := (0 : Int32)) (by decide) ?_
        exact j_zret C rfl (by decide) h dX1_insertSaid_22 (by decide)
theorem dX1_tell_0 : decode cX1_tell 0 = .ok (.aload_n 0, 1) := by decide +kernel
theorem dX1_tell_1 : decode cX1_tell 1 = .ok (.aload_n 0, 1) := by decide +kernel
theorem dX1_tell_2 : decode cX1_tell 2 = .ok (.getfield 43, 3) := by decide +kernel
theorem dX1_tell_5 : decode cX1_tell 5 = .ok (.aload_n 1, 1) := by decide +kernel
theorem dX1_tell_6 : decode cX1_tell 6 = .ok (.invokevirtual 61, 3) := by decide +kernel
theorem dX1_tell_9 : decode cX1_tell 9 = .ok (.ifCond .eq 15, 3) := by decide +kernel
theorem dX1_tell_12 : decode cX1_tell 12 = .ok (.aload_n 0, 1) := by decide +kernel
theorem dX1_tell_13 : decode cX1_tell 13 = .ok (.iconst 0, 1) := by decide +kernel
theorem dX1_tell_14 : decode cX1_tell 14 = .ok (.aload_n 0, 1) := by decide +kernel
theorem dX1_tell_15 : decode cX1_tell 15 = .ok (.getfield 43, 3) := by decide +kernel
theorem dX1_tell_18 : decode cX1_tell 18 = .ok (.iconst 1, 1) := by decide +kernel
theorem dX1_tell_19 : decode cX1_tell 19 = .ok (.isub, 1) := by decide +kernel
theorem dX1_tell_20 : decode cX1_tell 20 = .ok (.aload_n 1, 1) := by decide +kernel
theorem dX1_tell_21 : decode cX1_tell 21 = .ok (.invokevirtual 65, 3) := by decide +kernel
theorem dX1_tell_24 : decode cX1_tell 24 = .ok (.return_, 1) := by decide +kernel
noncomputable def F_X1_tell (a0 : Nat) (a1 : Nat) (M : m_M) : Option (Unit × m_M) :=
  x_gI 1 M a0 1 fun v1 =>
  x_cV 1 M a0 (F_X1_insertSaid a0 v1 a1 M) fun v2 M1 =>
  if v2 = 0 then (
    some ((), M1)
  ) else
  x_gI 1 M1 a0 1 fun v3 =>
  x_cV 1 M1 a0 (F_X1_noteDeed a0 (0 : Int32) (v3 - (1 : Int32)) a1 M1) fun _ M2 =>
  some ((), M2)
set_option maxHeartbeats 4000000 in
theorem K_X1_tell (a0 : Nat) (a1 : Nat) (M : m_M) (Φ : Option Value → m_M → Prop) (h : m_ok e_V Φ (F_X1_tell a0 a1 M)) : j_Ct yX1_tell cX1_tell 2 none 2 0 0 [.ref a0, .ref a1] M Φ := by
  refine j_Ct.of (by decide +kernel) (Nat.le_of_ble_eq_true rfl) fun X C => ?_
  have C0 := C.1
  show j_J X 2 0 [some (.ref a0), some (.ref a1)] [] (0, 0) M
  unfold F_X1_tell at h
  refine j_aload_n C0 (pc := 0) dX1_tell_0 rfl ?_
  refine j_aload_n C0 (pc := 1) dX1_tell_1 rfl ?_
  refine X_gI C0 (pc := 2) f_Book_43_1 rfl dX1_tell_2 h (fun v1 h => ?_)
  refine j_aload_n C0 (pc := 5) dX1_tell_5 rfl ?_
  refine X_cV C0 (pc := 6) (e' := e_I) (as := [.int v1, .ref a1]) (rest := []) (s' := fun w => .int w :: []) (g' := (0, 0)) v_Book_61_1 (fun Ψ hΨ => K_X1_insertSaid a0 v1 a1 M Ψ hΨ) rfl rfl (fun _ => rfl) (by decide) (by decide) rfl (Nat.le_of_ble_eq_true rfl) dX1_tell_6 h (fun v2 M1 h => ?_)
  refine j_if_eq C0 (pc := 9) (tgt := 24) dX1_tell_9 (by decide) (fun hc => ?_) (fun hc => ?_)
  · replace h := (X_if h).1 hc
    exact j_vret C rfl h dX1_tell_24 (by decide)
  · replace h := (X_if h).2 hc
    refine j_aload_n C0 (pc := 12) dX1_tell_12 rfl ?_
    refine j_iconst C0 (pc := 13) dX1_tell_13 (v := (0 : Int32)) (by decide) ?_
    refine j_aload_n C0 (pc := 14) dX1_tell_14 rfl ?_
    refine X_gI C0 (pc := 15) f_Book_43_1 rfl dX1_tell_15 h (fun v3 h => ?_)
    refine j_iconst C0 (pc := 18) dX1_tell_18 (v := (1 : Int32)) (by decide) ?_
    refine j_isub C0 (pc := 19) dX1_tell_19 ?_
    refine j_aload_n C0 (pc := 20) dX1_tell_20 rfl ?_
    refine X_cV C0 (pc := 21) (e' := e_V) (as := [.int (0 : Int32), .int (v3 - (1 : Int32)), .ref a1]) (rest := []) (s' := fun _ => []) (g' := (0, 0)) v_Book_65_1 (fun Ψ hΨ => K_X1_noteDeed a0 (0 : Int32) (v3 - (1 : Int32)) a1 M1 Ψ hΨ) rfl rfl (fun _ => rfl) (by decide) (by decide) rfl (Nat.le_of_ble_eq_true rfl) dX1_tell_21 h (fun _ M2 h => ?_)
    exact j_vret C rfl h dX1_tell_24 (by decide)
theorem dX11_say_0 : decode cX11_say 0 = .ok (.aload_n 0, 1) := by decide +kernel
theorem dX11_say_1 : decode cX11_say 1 = .ok (.getfield 35, 3) := by decide +kernel
theorem dX11_say_4 : decode cX11_say 4 = .ok (.aload_n 0, 1) := by decide +kernel
theorem dX11_say_5 : decode cX11_say 5 = .ok (.invokevirtual 98, 3) := by decide +kernel
theorem dX11_say_8 : decode cX11_say 8 = .ok (.invokevirtual 112, 3) := by decide +kernel
theorem dX11_say_11 : decode cX11_say 11 = .ok (.istore_n 1, 1) := by decide +kernel
theorem dX11_say_12 : decode cX11_say 12 = .ok (.iload_n 1, 1) := by decide +kernel
theorem dX11_say_13 : decode cX11_say 13 = .ok (.ifCond .eq 5, 3) := by decide +kernel
theorem dX11_say_16 : decode cX11_say 16 = .ok (.iload_n 1, 1) := by decide +kernel
theorem dX11_say_17 : decode cX11_say 17 = .ok (.ireturn, 1) := by decide +kernel
theorem dX11_say_18 : decode cX11_say 18 = .ok (.aload_n 0, 1) := by decide +kernel
theorem dX11_say_19 : decode cX11_say 19 = .ok (.invokevirtual 113, 3) := by decide +kernel
theorem dX11_say_22 : decode cX11_say 22 = .ok (.iconst (-1), 1) := by decide +kernel
theorem dX11_say_23 : decode cX11_say 23 = .ok (.if_icmp .ne 6, 3) := by decide +kernel
theorem dX11_say_26 : decode cX11_say 26 = .ok (.bipush (-2), 2) := by decide +kernel
theorem dX11_say_28 : decode cX11_say 28 = .ok (.ireturn, 1) := by decide +kernel
theorem dX11_say_29 : decode cX11_say 29 = .ok (.aload_n 0, 1) := by decide +kernel
theorem dX11_say_30 : decode cX11_say 30 = .ok (.getfield 65, 3) := by decide +kernel
theorem dX11_say_33 : decode cX11_say 33 = .ok (.getfield 116, 3) := by decide +kernel
theorem dX11_say_36 : decode cX11_say 36 = .ok (.bipush 12, 2) := by decide +kernel
theorem dX11_say_38 : decode cX11_say 38 = .ok (.if_icmp .lt 6, 3) := by decide +kernel
theorem dX11_say_41 : decode cX11_say 41 = .ok (.bipush (-3), 2) := by decide +kernel
theorem dX11_say_43 : decode cX11_say 43 = .ok (.ireturn, 1) := by decide +kernel
theorem dX11_say_44 : decode cX11_say 44 = .ok (.aload_n 0, 1) := by decide +kernel
theorem dX11_say_45 : decode cX11_say 45 = .ok (.getfield 65, 3) := by decide +kernel
theorem dX11_say_48 : decode cX11_say 48 = .ok (.aload_n 0, 1) := by decide +kernel
theorem dX11_say_49 : decode cX11_say 49 = .ok (.aload_n 0, 1) := by decide +kernel
theorem dX11_say_50 : decode cX11_say 50 = .ok (.getfield 65, 3) := by decide +kernel
theorem dX11_say_53 : decode cX11_say 53 = .ok (.getfield 119, 3) := by decide +kernel
theorem dX11_say_56 : decode cX11_say 56 = .ok (.invokevirtual 122, 3) := by decide +kernel
theorem dX11_say_59 : decode cX11_say 59 = .ok (.invokevirtual 126, 3) := by decide +kernel
theorem dX11_say_62 : decode cX11_say 62 = .ok (.iconst 0, 1) := by decide +kernel
theorem dX11_say_63 : decode cX11_say 63 = .ok (.ireturn, 1) := by decide +kernel
noncomputable def F_X11_say (a0 : Nat) (M : m_M) : Option (Int32 × m_M) :=
  x_gN 9 M a0 5 fun v1 =>
  x_cV 9 M a0 (F_X11_takeTape a0 M) fun v2 M1 =>
  x_cV 7 M1 v1 (F_X7_read v1 v2 M1) fun v3 M2 =>
  if v3 = 0 then (
    x_cV 9 M2 a0 (F_X11_verbToday a0 M2) fun v4 M3 =>
    if v4 = (-1 : Int32) then (
      some ((-2 : Int32), M3)
    ) else
    x_gN 9 M3 a0 9 fun v5 =>
    x_gI 1 M3 v5 1 fun v6 =>
    if v6 < (12 : Int32) then (
      x_gN 9 M3 a0 9 fun v7 =>
      x_gN 9 M3 a0 9 fun v8 =>
      x_gI 1 M3 v8 0 fun v9 =>
      x_cV 9 M3 a0 (F_X11_sayingFor a0 v9 M3) fun v10 M4 =>
      x_cV 1 M4 v7 (F_X1_tell v7 v10 M4) fun _ M5 =>
      some ((0 : Int32), M5)
    ) else
    some ((-3 : Int32), M3)
  ) else
  some (v3, M2)
set_option maxHeartbeats 4000000 in
theorem K_X11_say (a0 : Nat) (M : m_M) (Φ : Option Value → m_M → Prop) (h : m_ok e_I Φ (F_X11_say a0 M)) : j_Ct yX11_say cX11_say 2 (some .int) 74 4 1021 [.ref a0] M Φ := by
  refine j_Ct.of (by decide +kernel) (Nat.le_of_ble_eq_true rfl) fun X C => ?_
  have C0 := C.1
  show j_J X 2 0 [some (.ref a0), none] [] (0, 0) M
  unfold F_X11_say at h
  refine j_aload_n C0 (pc := 0) dX11_say_0 rfl ?_
  refine X_gN C0 (pc := 1) f_OV_35_9 rfl dX11_say_1 h (fun v1 h => ?_)
  refine j_aload_n C0 (pc := 4) dX11_say_4 rfl ?_
  refine X_cV C0 (pc := 5) (e' := e_I) (as := []) (rest := [.ref v1]) (s' := fun w => .int w :: [.ref v1]) (g' := (0, 0)) v_OV_98_9 (fun Ψ hΨ => K_X11_takeTape a0 M Ψ hΨ) rfl rfl (fun _ => rfl) (by decide) (by decide) rfl (Nat.le_of_ble_eq_true rfl) dX11_say_5 h (fun v2 M1 h => ?_)
  refine X_cV C0 (pc := 8) (e' := e_I) (as := [.int v2]) (rest := []) (s' := fun w => .int w :: []) (g' := (0, 0)) v_OV_112_7 (fun Ψ hΨ => K_X7_read v1 v2 M1 Ψ hΨ) rfl rfl (fun _ => rfl) (by decide) (by decide) rfl (Nat.le_of_ble_eq_true rfl) dX11_say_8 h (fun v3 M2 h => ?_)
  refine j_istore_n C0 (pc := 11) dX11_say_11 (Nat.le_of_ble_eq_true rfl) ?_
  show j_J X 2 12 [some (.ref a0), some (.int v3)] [] (0, 0) M2
  refine j_iload_n C0 (pc := 12) dX11_say_12 rfl ?_
  refine j_if_eq C0 (pc := 13) (tgt := 18) dX11_say_13 (by decide) (fun hc => ?_) (fun hc => ?_)
  · replace h := (X_if h).1 hc
    refine j_aload_n C0 (pc := 18) dX11_say_18 rfl ?_
    refine X_cV C0 (pc := 19) (e' := e_I) (as := []) (rest := []) (s' := fun w => .int w :: []) (g' := (0, 0)) v_OV_113_9 (fun Ψ hΨ => K_X11_verbToday a0 M2 Ψ hΨ) rfl rfl (fun _ => rfl) (by decide) (by decide) rfl (Nat.le_of_ble_eq_true rfl) dX11_say_19 h (fun v4 M3 h => ?_)
    refine j_iconst C0 (pc := 22) dX11_say_22 (v := (-1 : Int32)) (by decide) ?_
    refine j_icmp_ne C0 (pc := 23) (tgt := 29) dX11_say_23 (by decide) (fun hc => ?_) (fun hc => ?_)
    · replace h := (X_if h).2 hc
      refine j_aload_n C0 (pc := 29) dX11_say_29 rfl ?_
      refine X_gN C0 (pc := 30) f_OV_65_9 rfl dX11_say_30 h (fun v5 h => ?_)
      refine X_gI C0 (pc := 33) f_OV_116_1 rfl dX11_say_33 h (fun v6 h => ?_)
      refine j_bipush C0 (pc := 36) dX11_say_36 (v := (12 : Int32)) (by decide) ?_
      refine j_icmp_lt C0 (pc := 38) (tgt := 44) dX11_say_38 (by decide) (fun hc => ?_) (fun hc => ?_)
      · replace h := (X_if h).1 hc
        refine j_aload_n C0 (pc := 44) dX11_say_44 rfl ?_
        refine X_gN C0 (pc := 45) f_OV_65_9 rfl dX11_say_45 h (fun v7 h => ?_)
        refine j_aload_n C0 (pc := 48) dX11_say_48 rfl ?_
        refine j_aload_n C0 (pc := 49) dX11_say_49 rfl ?_
        refine X_gN C0 (pc := 50) f_OV_65_9 rfl dX11_say_50 h (fun v8 h => ?_)
        refine X_gI C0 (pc := 53) f_OV_119_1 rfl dX11_say_53 h (fun v9 h => ?_)
        refine X_cV C0 (pc := 56) (e' := e_N) (as := [.int v9]) (rest := [.ref v7]) (s' := fun w => .ref w :: [.ref v7]) (g' := (4, 1021)) v_OV_122_9 (fun Ψ hΨ => K_X11_sayingFor a0 v9 M3 Ψ hΨ) rfl rfl (fun _ => rfl) (by decide) (by decide) rfl (Nat.le_of_ble_eq_true rfl) dX11_say_56 h (fun v10 M4 h => ?_)
        refine X_cV C0 (pc := 59) (e' := e_V) (as := [.ref v10]) (rest := []) (s' := fun _ => []) (g' := (4, 1021)) v_OV_126_1 (fun Ψ hΨ => K_X1_tell v7 v10 M4 Ψ hΨ) rfl rfl (fun _ => rfl) (by decide) (by decide) rfl (Nat.le_of_ble_eq_true rfl) dX11_say_59 h (fun _ M5 h => ?_)
        refine j_iconst C0 (pc := 62) dX11_say_62 (v := (0 : Int32)) (by decide) ?_
        exact j_iret C rfl h dX11_say_63 (by decide)
      · replace h := (X_if h).2 hc
        refine j_bipush C0 (pc := 41) dX11_say_41 (v := (-3 : Int32)) (by decide) ?_
        exact j_iret C rfl h dX11_say_43 (by decide)
    · replace h := (X_if h).1 hc
      refine j_bipush C0 (pc := 26) dX11_say_26 (v := (-2 : Int32)) (by decide) ?_
      exact j_iret C rfl h dX11_say_28 (by decide)
  · replace h := (X_if h).2 hc
    refine j_iload_n C0 (pc := 16) dX11_say_16 rfl ?_
    exact j_iret C rfl h dX11_say_17 (by decide)
theorem dX3_isPlace_0 : decode cX3_isPlace 0 = .ok (.iload_n 1, 1) := by decide +kernel
theorem dX3_isPlace_1 : decode cX3_isPlace 1 = .ok (.ifCond .lt 15, 3) := by decide +kernel
theorem dX3_isPlace_4 : decode cX3_isPlace 4 = .ok (.iload_n 1, 1) := by decide +kernel
theorem dX3_isPlace_5 : decode cX3_isPlace 5 = .ok (.aload_n 0, 1) := by decide +kernel
theorem dX3_isPlace_6 : decode cX3_isPlace 6 = .ok (.getfield 58, 3) := by decide +kernel
theorem dX3_isPlace_9 : decode cX3_isPlace 9 = .ok (.if_icmp .ge 7, 3) := by decide +kernel
theorem dX3_isPlace_12 : decode cX3_isPlace 12 = .ok (.iconst 1, 1) := by decide +kernel
theorem dX3_isPlace_13 : decode cX3_isPlace 13 = .ok (.goto 4, 3) := by decide +kernel
theorem dX3_isPlace_16 : decode cX3_isPlace 16 = .ok (.iconst 0, 1) := by decide +kernel
theorem dX3_isPlace_17 : decode cX3_isPlace 17 = .ok (.ireturn, 1) := by decide +kernel
noncomputable def F_X3_isPlace (a0 : Nat) (a1 : Int32) (M : m_M) : Option (Int32 × m_M) :=
  m_let (fun  (M1 : m_M) =>
    some ((0 : Int32), M1)
  ) fun (k16 : m_M → Option (Int32 × m_M)) =>
  if a1 < 0 then (
    k16 M
  ) else
  x_gI 3 M a0 0 fun v1 =>
  if v1 ≤ a1 then (
    k16 M
  ) else
  some ((1 : Int32), M)
set_option maxHeartbeats 4000000 in
theorem K_X3_isPlace (a0 : Nat) (a1 : Int32) (M : m_M) (Φ : Option Value → m_M → Prop) (h : m_ok e_I Φ (F_X3_isPlace a0 a1 M)) : j_Ct yX3_isPlace cX3_isPlace 2 (some .boolean) 1 0 0 [.ref a0, .int a1] M Φ := by
  refine j_Ct.of (by decide +kernel) (Nat.le_of_ble_eq_true rfl) fun X C => ?_
  have C0 := C.1
  show j_J X 2 0 [some (.ref a0), some (.int a1)] [] (0, 0) M
  unfold F_X3_isPlace at h
  refine X_join (fun (kj : m_M → Option (Int32 × m_M)) => ∀  (M : m_M), m_ok e_I Φ (kj M) → j_J X 2 16 [none, none] [] (0, 0) M) h (fun M1 h => ?_) (fun k16 hk16 h => ?_)
  · refine j_iconst C0 (pc := 16) dX3_isPlace_16 (v := (0 : Int32)) (by decide) ?_
    exact j_zret C rfl (by decide) h dX3_isPlace_17 (by decide)
  · refine j_iload_n C0 (pc := 0) dX3_isPlace_0 rfl ?_
    refine j_if_lt C0 (pc := 1) (tgt := 16) dX3_isPlace_1 (by decide) (fun hc => ?_) (fun hc => ?_)
    · replace h := (X_if h).1 hc
      exact j_J.wq (hk16 M h) (trivial)
    · replace h := (X_if h).2 hc
      refine j_iload_n C0 (pc := 4) dX3_isPlace_4 rfl ?_
      refine j_aload_n C0 (pc := 5) dX3_isPlace_5 rfl ?_
      refine X_gI C0 (pc := 6) f_Land_58_3 rfl dX3_isPlace_6 h (fun v1 h => ?_)
      refine j_icmp_ge C0 (pc := 9) (tgt := 16) dX3_isPlace_9 (by decide) (fun hc => ?_) (fun hc => ?_)
      · replace h := (X_if h).1 hc
        exact j_J.wq (hk16 M h) (trivial)
      · replace h := (X_if h).2 hc
        refine j_iconst C0 (pc := 12) dX3_isPlace_12 (v := (1 : Int32)) (by decide) ?_
        refine j_goto C0 (pc := 13) (tgt := 17) dX3_isPlace_13 (by decide) ?_
        exact j_zret C rfl (by decide) h dX3_isPlace_17 (by decide)
theorem dX11_sayable_0 : decode cX11_sayable 0 = .ok (.aload_n 0, 1) := by decide +kernel
theorem dX11_sayable_1 : decode cX11_sayable 1 = .ok (.getfield 16, 3) := by decide +kernel
theorem dX11_sayable_4 : decode cX11_sayable 4 = .ok (.iload_n 1, 1) := by decide +kernel
theorem dX11_sayable_5 : decode cX11_sayable 5 = .ok (.invokevirtual 156, 3) := by decide +kernel
theorem dX11_sayable_8 : decode cX11_sayable 8 = .ok (.ifCond .eq 14, 3) := by decide +kernel
theorem dX11_sayable_11 : decode cX11_sayable 11 = .ok (.aload_n 0, 1) := by decide +kernel
theorem dX11_sayable_12 : decode cX11_sayable 12 = .ok (.getfield 16, 3) := by decide +kernel
theorem dX11_sayable_15 : decode cX11_sayable 15 = .ok (.iload_n 2, 1) := by decide +kernel
theorem dX11_sayable_16 : decode cX11_sayable 16 = .ok (.invokevirtual 220, 3) := by decide +kernel
theorem dX11_sayable_19 : decode cX11_sayable 19 = .ok (.ifCond .ne 5, 3) := by decide +kernel
theorem dX11_sayable_22 : decode cX11_sayable 22 = .ok (.iconst (-1), 1) := by decide +kernel
theorem dX11_sayable_23 : decode cX11_sayable 23 = .ok (.ireturn, 1) := by decide +kernel
theorem dX11_sayable_24 : decode cX11_sayable 24 = .ok (.aload_n 0, 1) := by decide +kernel
theorem dX11_sayable_25 : decode cX11_sayable 25 = .ok (.getfield 51, 3) := by decide +kernel
theorem dX11_sayable_28 : decode cX11_sayable 28 = .ok (.invokevirtual 285, 3) := by decide +kernel
theorem dX11_sayable_31 : decode cX11_sayable 31 = .ok (.aload_n 0, 1) := by decide +kernel
theorem dX11_sayable_32 : decode cX11_sayable 32 = .ok (.getfield 51, 3) := by decide +kernel
theorem dX11_sayable_35 : decode cX11_sayable 35 = .ok (.getfield 288, 3) := by decide +kernel
theorem dX11_sayable_38 : decode cX11_sayable 38 = .ok (.iload_n 1, 1) := by decide +kernel
theorem dX11_sayable_39 : decode cX11_sayable 39 = .ok (.iconst 4, 1) := by decide +kernel
theorem dX11_sayable_40 : decode cX11_sayable 40 = .ok (.imul, 1) := by decide +kernel
theorem dX11_sayable_41 : decode cX11_sayable 41 = .ok (.iload_n 2, 1) := by decide +kernel
theorem dX11_sayable_42 : decode cX11_sayable 42 = .ok (.iadd, 1) := by decide +kernel
theorem dX11_sayable_43 : decode cX11_sayable 43 = .ok (.iaload, 1) := by decide +kernel
theorem dX11_sayable_44 : decode cX11_sayable 44 = .ok (.ireturn, 1) := by decide +kernel
noncomputable def F_X11_sayable (a0 : Nat) (a1 : Int32) (a2 : Int32) (M : m_M) : Option (Int32 × m_M) :=
  x_gN 9 M a0 2 fun v1 =>
  x_cV 3 M v1 (F_X3_isThing v1 a1 M) fun v2 M1 =>
  if v2 = 0 then (
    some ((-1 : Int32), M1)
  ) else
  x_gN 9 M1 a0 2 fun v3 =>
  x_cV 3 M1 v3 (F_X3_isPlace v3 a2 M1) fun v4 M2 =>
  if v4 = 0 then (
    some ((-1 : Int32), M2)
  ) else
  x_gN 9 M2 a0 7 fun v5 =>
  x_cV 2 M2 v5 (F_X2_findSayable v5 M2) fun _ M3 =>
  x_gN 9 M3 a0 7 fun v6 =>
  x_gN 2 M3 v6 4 fun v7 =>
  x_aI 12 M3 v7 ((a1 * (4 : Int32)) + a2) fun v8 =>
  some (v8, M3)
set_option maxHeartbeats 4000000 in
theorem K_X11_sayable (a0 : Nat) (a1 : Int32) (a2 : Int32) (M : m_M) (Φ : Option Value → m_M → Prop) (h : m_ok e_I Φ (F_X11_sayable a0 a1 a2 M)) : j_Ct yX11_sayable cX11_sayable 3 (some .int) 8 0 0 [.ref a0, .int a1, .int a2] M Φ := by
  refine j_Ct.of (by decide +kernel) (Nat.le_of_ble_eq_true rfl) fun X C => ?_
  have C0 := C.1
  show j_J X 3 0 [some (.ref a0), some (.int a1), some (.int a2)] [] (0, 0) M
  unfold F_X11_sayable at h
  refine j_aload_n C0 (pc := 0) dX11_sayable_0 rfl ?_
  refine X_gN C0 (pc := 1) f_OV_16_9 rfl dX11_sayable_1 h (fun v1 h => ?_)
  refine j_iload_n C0 (pc := 4) dX11_sayable_4 rfl ?_
  refine X_cV C0 (pc := 5) (e' := e_I) (as := [.int a1]) (rest := []) (s' := fun w => .int w :: []) (g' := (0, 0)) v_OV_156_3 (fun Ψ hΨ => K_X3_isThing v1 a1 M Ψ hΨ) rfl rfl (fun _ => rfl) (by decide) (by decide) rfl (Nat.le_of_ble_eq_true rfl) dX11_sayable_5 h (fun v2 M1 h => ?_)
  refine j_if_eq C0 (pc := 8) (tgt := 22) dX11_sayable_8 (by decide) (fun hc => ?_) (fun hc => ?_)
  · replace h := (X_if h).1 hc
    refine j_iconst C0 (pc := 22) dX11_sayable_22 (v := (-1 : Int32)) (by decide) ?_
    exact j_iret C rfl h dX11_sayable_23 (by decide)
  · replace h := (X_if h).2 hc
    refine j_aload_n C0 (pc := 11) dX11_sayable_11 rfl ?_
    refine X_gN C0 (pc := 12) f_OV_16_9 rfl dX11_sayable_12 h (fun v3 h => ?_)
    refine j_iload_n C0 (pc := 15) dX11_sayable_15 rfl ?_
    refine X_cV C0 (pc := 16) (e' := e_I) (as := [.int a2]) (rest := []) (s' := fun w => .int w :: []) (g' := (0, 0)) v_OV_220_3 (fun Ψ hΨ => K_X3_isPlace v3 a2 M1 Ψ hΨ) rfl rfl (fun _ => rfl) (by decide) (by decide) rfl (Nat.le_of_ble_eq_true rfl) dX11_sayable_16 h (fun v4 M2 h => ?_)
    refine j_if_ne C0 (pc := 19) (tgt := 24) dX11_sayable_19 (by decide) (fun hc => ?_) (fun hc => ?_)
    · replace h := (X_if h).2 hc
      refine j_aload_n C0 (pc := 24) dX11_sayable_24 rfl ?_
      refine X_gN C0 (pc := 25) f_OV_51_9 rfl dX11_sayable_25 h (fun v5 h => ?_)
      refine X_cV C0 (pc := 28) (e' := e_V) (as := []) (rest := []) (s' := fun _ => []) (g' := (0, 0)) v_OV_285_2 (fun Ψ hΨ => K_X2_findSayable v5 M2 Ψ hΨ) rfl rfl (fun _ => rfl) (by decide) (by decide) rfl (Nat.le_of_ble_eq_true rfl) dX11_sayable_28 h (fun _ M3 h => ?_)
      refine j_aload_n C0 (pc := 31) dX11_sayable_31 rfl ?_
      refine X_gN C0 (pc := 32) f_OV_51_9 rfl dX11_sayable_32 h (fun v6 h => ?_)
      refine X_gN C0 (pc := 35) f_OV_288_2 rfl dX11_sayable_35 h (fun v7 h => ?_)
      refine j_iload_n C0 (pc := 38) dX11_sayable_38 rfl ?_
      refine j_iconst C0 (pc := 39) dX11_sayable_39 (v := (4 : Int32)) (by decide) ?_
      refine j_imul C0 (pc := 40) dX11_sayable_40 ?_
      refine j_iload_n C0 (pc := 41) dX11_sayable_41 rfl ?_
      refine j_iadd C0 (pc := 42) dX11_sayable_42 ?_
      refine X_iald C0 (pc := 43) dX11_sayable_43 h (fun v8 h => ?_)
      exact j_iret C rfl h dX11_sayable_44 (by decide)
    · replace h := (X_if h).1 hc
      refine j_iconst C0 (pc := 22) dX11_sayable_22 (v := (-1 : Int32)) (by decide) ?_
      exact j_iret C rfl h dX11_sayable_23 (by decide)
theorem dX11_saying_0 : decode cX11_saying 0 = .ok (.aload_n 0, 1) := by decide +kernel
theorem dX11_saying_1 : decode cX11_saying 1 = .ok (.getfield 65, 3) := by decide +kernel
theorem dX11_saying_4 : decode cX11_saying 4 = .ok (.iload_n 1, 1) := by decide +kernel
theorem dX11_saying_5 : decode cX11_saying 5 = .ok (.invokevirtual 165, 3) := by decide +kernel
theorem dX11_saying_8 : decode cX11_saying 8 = .ok (.astore_n 3, 1) := by decide +kernel
theorem dX11_saying_9 : decode cX11_saying 9 = .ok (.aload_n 3, 1) := by decide +kernel
theorem dX11_saying_10 : decode cX11_saying 10 = .ok (.ifnonnull 5, 3) := by decide +kernel
theorem dX11_saying_13 : decode cX11_saying 13 = .ok (.iconst (-1), 1) := by decide +kernel
theorem dX11_saying_14 : decode cX11_saying 14 = .ok (.ireturn, 1) := by decide +kernel
theorem dX11_saying_15 : decode cX11_saying 15 = .ok (.iload_n 2, 1) := by decide +kernel
theorem dX11_saying_16 : decode cX11_saying 16 = .ok (.lookupswitch 41 #[(0, 28), (1, 33)], 28) := by decide +kernel
theorem dX11_saying_44 : decode cX11_saying 44 = .ok (.aload_n 3, 1) := by decide +kernel
theorem dX11_saying_45 : decode cX11_saying 45 = .ok (.getfield 168, 3) := by decide +kernel
theorem dX11_saying_48 : decode cX11_saying 48 = .ok (.ireturn, 1) := by decide +kernel
theorem dX11_saying_49 : decode cX11_saying 49 = .ok (.aload_n 3, 1) := by decide +kernel
theorem dX11_saying_50 : decode cX11_saying 50 = .ok (.getfield 171, 3) := by decide +kernel
theorem dX11_saying_53 : decode cX11_saying 53 = .ok (.invokevirtual 174, 3) := by decide +kernel
theorem dX11_saying_56 : decode cX11_saying 56 = .ok (.ireturn, 1) := by decide +kernel
theorem dX11_saying_57 : decode cX11_saying 57 = .ok (.iconst (-1), 1) := by decide +kernel
theorem dX11_saying_58 : decode cX11_saying 58 = .ok (.ireturn, 1) := by decide +kernel
noncomputable def F_X11_saying (a0 : Nat) (a1 : Int32) (a2 : Int32) (M : m_M) : Option (Int32 × m_M) :=
  x_gN 9 M a0 9 fun v1 =>
  x_cV 1 M v1 (F_X1_saidAt v1 a1 M) fun v2 M1 =>
  x_nul v2 (
    some ((-1 : Int32), M1)
  ) fun v3 =>
  if a2 = (0 : Int32) then (
    x_gI 6 M1 v3 2 fun v4 =>
    some (v4, M1)
  ) else
  if a2 = (1 : Int32) then (
    x_gN 6 M1 v3 3 fun v5 =>
    x_cV 8 M1 v5 (F_X10_size v5 M1) fun v6 M2 =>
    some (v6, M2)
  ) else
  some ((-1 : Int32), M1)
set_option maxHeartbeats 4000000 in
theorem K_X11_saying (a0 : Nat) (a1 : Int32) (a2 : Int32) (M : m_M) (Φ : Option Value → m_M → Prop) (h : m_ok e_I Φ (F_X11_saying a0 a1 a2 M)) : j_Ct yX11_saying cX11_saying 4 (some .int) 3 0 0 [.ref a0, .int a1, .int a2] M Φ := by
  refine j_Ct.of (by decide +kernel) (Nat.le_of_ble_eq_true rfl) fun X C => ?_
  have C0 := C.1
  show j_J X 4 0 [some (.ref a0), some (.int a1), some (.int a2), none] [] (0, 0) M
  unfold F_X11_saying at h
  refine j_aload_n C0 (pc := 0) dX11_saying_0 rfl ?_
  refine X_gN C0 (pc := 1) f_OV_65_9 rfl dX11_saying_1 h (fun v1 h => ?_)
  refine j_iload_n C0 (pc := 4) dX11_saying_4 rfl ?_
  refine X_cV C0 (pc := 5) (e' := e_O) (as := [.int a1]) (rest := []) (s' := fun w => va_rf w :: []) (g' := (0, 0)) v_OV_165_1 (fun Ψ hΨ => K_X1_saidAt v1 a1 M Ψ hΨ) rfl rfl (fun _ => rfl) (by decide) (by decide) rfl (Nat.le_of_ble_eq_true rfl) dX11_saying_5 h (fun v2 M1 h => ?_)
  refine j_astore_nO C0 (pc := 8) dX11_saying_8 (Nat.le_of_ble_eq_true rfl) ?_
  show j_J X 4 9 [some (.ref a0), some (.int a1), some (.int a2), some (va_rf v2)] [] (0, 0) M1
  refine j_aload_nO C0 (pc := 9) dX11_saying_9 rfl ?_
  rcases v2 with _ | v3
  · refine j_ifnonnullN C0 (pc := 10) dX11_saying_10 ?_
    simp only [x_nul] at h
    refine j_iconst C0 (pc := 13) dX11_saying_13 (v := (-1 : Int32)) (by decide) ?_
    exact j_iret C rfl h dX11_saying_14 (by decide)
  · refine j_ifnonnull C0 (pc := 10) (tgt := 15) dX11_saying_10 (by decide) ?_
    simp only [x_nul] at h
    refine j_iload_n C0 (pc := 15) dX11_saying_15 rfl ?_
    by_cases hc : a2 = (0 : Int32)
    · replace h := (X_if h).1 hc
      refine j_lookup C0 (pc := 16) (off := 28) (tgt := 44) dX11_saying_16 (by decide) (by rw [hc]; decide) (by decide) ?_
      refine j_aload_n C0 (pc := 44) dX11_saying_44 rfl ?_
      refine X_gI C0 (pc := 45) f_OV_168_6 rfl dX11_saying_45 h (fun v4 h => ?_)
      exact j_iret C rfl h dX11_saying_48 (by decide)
    · replace h := (X_if h).2 hc
      have hn0 : ¬ a2 = Int32.ofInt (0) := hc
      by_cases hc : a2 = (1 : Int32)
      · replace h := (X_if h).1 hc
        refine j_lookup C0 (pc := 16) (off := 33) (tgt := 49) dX11_saying_16 (by decide) (by rw [hc]; decide) (by decide) ?_
        refine j_aload_n C0 (pc := 49) dX11_saying_49 rfl ?_
        refine X_gN C0 (pc := 50) f_OV_171_6 rfl dX11_saying_50 h (fun v5 h => ?_)
        refine X_cV C0 (pc := 53) (e' := e_I) (as := []) (rest := []) (s' := fun w => .int w :: []) (g' := (0, 0)) v_OV_174_8 (fun Ψ hΨ => K_X10_size v5 M1 Ψ hΨ) rfl rfl (fun _ => rfl) (by decide) (by decide) rfl (Nat.le_of_ble_eq_true rfl) dX11_saying_53 h (fun v6 M2 h => ?_)
        exact j_iret C rfl h dX11_saying_56 (by decide)
      · replace h := (X_if h).2 hc
        have hn1 : ¬ a2 = Int32.ofInt (1) := hc
        refine j_lookup C0 (pc := 16) (tgt := 57) dX11_saying_16 (by decide) (m_lk2 (m_sw (k := 0) hn0) (m_sw (k := 1) hn1)) (by decide) ?_
        refine j_iconst C0 (pc := 57) dX11_saying_57 (v := (-1 : Int32)) (by decide) ?_
        exact j_iret C rfl h dX11_saying_58 (by decide)
theorem dX1_noteSeen_0 : decode cX1_noteSeen 0 = .ok (.aload_n 0, 1) := by decide +kernel
theorem dX1_noteSeen_1 : decode cX1_noteSeen 1 = .ok (.getfield 49, 3) := by decide +kernel
theorem dX1_noteSeen_4 : decode cX1_noteSeen 4 = .ok (.bipush 20, 2) := by decide +kernel
theorem dX1_noteSeen_6 : decode cX1_noteSeen 6 = .ok (.if_icmp .lt 5, 3) := by decide +kernel
theorem dX1_noteSeen_9 : decode cX1_noteSeen 9 = .ok (.iconst 0, 1) := by decide +kernel
theorem dX1_noteSeen_10 : decode cX1_noteSeen 10 = .ok (.ireturn, 1) := by decide +kernel
theorem dX1_noteSeen_11 : decode cX1_noteSeen 11 = .ok (.aload_n 0, 1) := by decide +kernel
theorem dX1_noteSeen_12 : decode cX1_noteSeen 12 = .ok (.getfield 27, 3) := by decide +kernel
theorem dX1_noteSeen_15 : decode cX1_noteSeen 15 = .ok (.aload_n 0, 1) := by decide +kernel
theorem dX1_noteSeen_16 : decode cX1_noteSeen 16 = .ok (.getfield 49, 3) := by decide +kernel
theorem dX1_noteSeen_19 : decode cX1_noteSeen 19 = .ok (.iload_n 1, 1) := by decide +kernel
theorem dX1_noteSeen_20 : decode cX1_noteSeen 20 = .ok (.bipush 16, 2) := by decide +kernel
theorem dX1_noteSeen_22 : decode cX1_noteSeen 22 = .ok (.imul, 1) := by decide +kernel
theorem dX1_noteSeen_23 : decode cX1_noteSeen 23 = .ok (.bipush 64, 2) := by decide +kernel
theorem dX1_noteSeen_25 : decode cX1_noteSeen 25 = .ok (.imul, 1) := by decide +kernel
theorem dX1_noteSeen_26 : decode cX1_noteSeen 26 = .ok (.iload_n 2, 1) := by decide +kernel
theorem dX1_noteSeen_27 : decode cX1_noteSeen 27 = .ok (.iadd, 1) := by decide +kernel
theorem dX1_noteSeen_28 : decode cX1_noteSeen 28 = .ok (.iconst 2, 1) := by decide +kernel
theorem dX1_noteSeen_29 : decode cX1_noteSeen 29 = .ok (.imul, 1) := by decide +kernel
theorem dX1_noteSeen_30 : decode cX1_noteSeen 30 = .ok (.iload_n 3, 1) := by decide +kernel
theorem dX1_noteSeen_31 : decode cX1_noteSeen 31 = .ok (.ifCond .eq 7, 3) := by decide +kernel
theorem dX1_noteSeen_34 : decode cX1_noteSeen 34 = .ok (.iconst 1, 1) := by decide +kernel
theorem dX1_noteSeen_35 : decode cX1_noteSeen 35 = .ok (.goto 4, 3) := by decide +kernel
theorem dX1_noteSeen_38 : decode cX1_noteSeen 38 = .ok (.iconst 0, 1) := by decide +kernel
theorem dX1_noteSeen_39 : decode cX1_noteSeen 39 = .ok (.iadd, 1) := by decide +kernel
theorem dX1_noteSeen_40 : decode cX1_noteSeen 40 = .ok (.iastore, 1) := by decide +kernel
theorem dX1_noteSeen_41 : decode cX1_noteSeen 41 = .ok (.aload_n 0, 1) := by decide +kernel
theorem dX1_noteSeen_42 : decode cX1_noteSeen 42 = .ok (.dup, 1) := by decide +kernel
theorem dX1_noteSeen_43 : decode cX1_noteSeen 43 = .ok (.getfield 49, 3) := by decide +kernel
theorem dX1_noteSeen_46 : decode cX1_noteSeen 46 = .ok (.iconst 1, 1) := by decide +kernel
theorem dX1_noteSeen_47 : decode cX1_noteSeen 47 = .ok (.iadd, 1) := by decide +kernel
theorem dX1_noteSeen_48 : decode cX1_noteSeen 48 = .ok (.putfield 49, 3) := by decide +kernel
theorem dX1_noteSeen_51 : decode cX1_noteSeen 51 = .ok (.iconst 1, 1) := by decide +kernel
theorem dX1_noteSeen_52 : decode cX1_noteSeen 52 = .ok (.ireturn, 1) := by decide +kernel
noncomputable def F_X1_noteSeen (a0 : Nat) (a1 : Int32) (a2 : Int32) (a3 : Int32) (M : m_M) : Option (Int32 × m_M) :=
  x_gI 1 M a0 3 fun v1 =>
  if v1 < (20 : Int32) then (
    m_let (fun (v2 : Nat) (v3 : Nat) (v4 : Int32) (v5 : Int32) (v6 : Int32) (M1 : m_M) =>
      x_sI 12 M1 v3 v4 (v5 + v6) fun M2 =>
      x_gI 1 M2 v2 3 fun v7 =>
      x_pI 1 M2 v2 3 (v7 + (1 : Int32)) fun M3 =>
      some ((1 : Int32), M3)
    ) fun (k39 : Nat → Nat → Int32 → Int32 → Int32 → m_M → Option (Int32 × m_M)) =>
    x_gN 1 M a0 9 fun v8 =>
    x_gI 1 M a0 3 fun v9 =>
    if a3 = 0 then (
      k39 a0 v8 v9 ((((a1 * (16 : Int32)) * (64 : Int32)) + a2) * (2 : Int32)) (0 : Int32) M
    ) else
    k39 a0 v8 v9 ((((a1 * (16 : Int32)) * (64 : Int32)) + a2) * (2 : Int32)) (1 : Int32) M
  ) else
  some ((0 : Int32), M)
set_option maxHeartbeats 4000000 in
theorem K_X1_noteSeen (a0 : Nat) (a1 : Int32) (a2 : Int32) (a3 : Int32) (M : m_M) (Φ : Option Value → m_M → Prop) (h : m_ok e_I Φ (F_X1_noteSeen a0 a1 a2 a3 M)) : j_Ct yX1_noteSeen cX1_noteSeen 4 (some .boolean) 1 0 0 [.ref a0, .int a1, .int a2, .int a3] M Φ := by
  refine j_Ct.of (by decide +kernel) (Nat.le_of_ble_eq_true rfl) fun X C => ?_
  have C0 := C.1
  show j_J X 4 0 [some (.ref a0), some (.int a1), some (.int a2), some (.int a3)] [] (0, 0) M
  unfold F_X1_noteSeen at h
  refine j_aload_n C0 (pc := 0) dX1_noteSeen_0 rfl ?_
  refine X_gI C0 (pc := 1) f_Book_49_1 rfl dX1_noteSeen_1 h (fun v1 h => ?_)
  refine j_bipush C0 (pc := 4) dX1_noteSeen_4 (v := (20 : Int32)) (by decide) ?_
  refine j_icmp_lt C0 (pc := 6) (tgt := 11) dX1_noteSeen_6 (by decide) (fun hc => ?_) (fun hc => ?_)
  · replace h := (X_if h).1 hc
    refine X_join (fun (kj : Nat → Nat → Int32 → Int32 → Int32 → m_M → Option (Int32 × m_M)) => ∀ (p0 : Nat) (p1 : Nat) (p2 : Int32) (p3 : Int32) (p4 : Int32) (M : m_M), m_ok e_I Φ (kj p0 p1 p2 p3 p4 M) → j_J X 4 39 [some (.ref p0), none, none, none] [.int p4, .int p3, .int p2, .ref p1] (0, 0) M) h (fun v2 v3 v4 v5 v6 M1 h => ?_) (fun k39 hk39 h => ?_)
    · refine j_iadd C0 (pc := 39) dX1_noteSeen_39 ?_
      refine X_iast C0 (pc := 40) dX1_noteSeen_40 h (fun M2 h => ?_)
      refine j_aload_n C0 (pc := 41) dX1_noteSeen_41 rfl ?_
      refine j_dup C0 (pc := 42) dX1_noteSeen_42 rfl ?_
      refine X_gI C0 (pc := 43) f_Book_49_1 rfl dX1_noteSeen_43 h (fun v7 h => ?_)
      refine j_iconst C0 (pc := 46) dX1_noteSeen_46 (v := (1 : Int32)) (by decide) ?_
      refine j_iadd C0 (pc := 47) dX1_noteSeen_47 ?_
      refine X_pI C0 (pc := 48) f_Book_49_1 rfl rfl dX1_noteSeen_48 h (fun M3 h => ?_)
      refine j_iconst C0 (pc := 51) dX1_noteSeen_51 (v := (1 : Int32)) (by decide) ?_
      exact j_zret C rfl (by decide) h dX1_noteSeen_52 (by decide)
    · refine j_aload_n C0 (pc := 11) dX1_noteSeen_11 rfl ?_
      refine X_gN C0 (pc := 12) f_Book_27_1 rfl dX1_noteSeen_12 h (fun v8 h => ?_)
      refine j_aload_n C0 (pc := 15) dX1_noteSeen_15 rfl ?_
      refine X_gI C0 (pc := 16) f_Book_49_1 rfl dX1_noteSeen_16 h (fun v9 h => ?_)
      refine j_iload_n C0 (pc := 19) dX1_noteSeen_19 rfl ?_
      refine j_bipush C0 (pc := 20) dX1_noteSeen_20 (v := (16 : Int32)) (by decide) ?_
      refine j_imul C0 (pc := 22) dX1_noteSeen_22 ?_
      refine j_bipush C0 (pc := 23) dX1_noteSeen_23 (v := (64 : Int32)) (by decide) ?_
      refine j_imul C0 (pc := 25) dX1_noteSeen_25 ?_
      refine j_iload_n C0 (pc := 26) dX1_noteSeen_26 rfl ?_
      refine j_iadd C0 (pc := 27) dX1_noteSeen_27 ?_
      refine j_iconst C0 (pc := 28) dX1_noteSeen_28 (v := (2 : Int32)) (by decide) ?_
      refine j_imul C0 (pc := 29) dX1_noteSeen_29 ?_
      refine j_iload_n C0 (pc := 30) dX1_noteSeen_30 rfl ?_
      refine j_if_eq C0 (pc := 31) (tgt := 38) dX1_noteSeen_31 (by decide) (fun hc => ?_) (fun hc => ?_)
      · replace h := (X_if h).1 hc
        refine j_iconst C0 (pc := 38) dX1_noteSeen_38 (v := (0 : Int32)) (by decide) ?_
        exact j_J.wq (hk39 a0 v8 v9 ((((a1 * (16 : Int32)) * (64 : Int32)) + a2) * (2 : Int32)) (0 : Int32) M h) (And.intro rfl (trivial))
      · replace h := (X_if h).2 hc
        refine j_iconst C0 (pc := 34) dX1_noteSeen_34 (v := (1 : Int32)) (by decide) ?_
        refine j_goto C0 (pc := 35) (tgt := 39) dX1_noteSeen_35 (by decide) ?_
        exact j_J.wq (hk39 a0 v8 v9 ((((a1 * (16 : Int32)) * (64 : Int32)) + a2) * (2 : Int32)) (1 : Int32) M h) (And.intro rfl (trivial))
  · replace h := (X_if h).2 hc
    refine j_iconst C0 (pc := 9) dX1_noteSeen_9 (v := (0 : Int32)) (by decide) ?_
    exact j_zret C rfl (by decide) h dX1_noteSeen_10 (by decide)
theorem dX11_see_0 : decode cX11_see 0 = .ok (.aload_n 0, 1) := by decide +kernel
theorem dX11_see_1 : decode cX11_see 1 = .ok (.getfield 16, 3) := by decide +kernel
theorem dX11_see_4 : decode cX11_see 4 = .ok (.iload_n 1, 1) := by decide +kernel
theorem dX11_see_5 : decode cX11_see 5 = .ok (.invokevirtual 198, 3) := by decide +kernel
theorem dX11_see_8 : decode cX11_see 8 = .ok (.ifCond .eq 14, 3) := by decide +kernel
theorem dX11_see_11 : decode cX11_see 11 = .ok (.aload_n 0, 1) := by decide +kernel
theorem dX11_see_12 : decode cX11_see 12 = .ok (.getfield 16, 3) := by decide +kernel
theorem dX11_see_15 : decode cX11_see 15 = .ok (.iload_n 2, 1) := by decide +kernel
theorem dX11_see_16 : decode cX11_see 16 = .ok (.invokevirtual 192, 3) := by decide +kernel
theorem dX11_see_19 : decode cX11_see 19 = .ok (.ifCond .ne 5, 3) := by decide +kernel
theorem dX11_see_22 : decode cX11_see 22 = .ok (.iconst 0, 1) := by decide +kernel
theorem dX11_see_23 : decode cX11_see 23 = .ok (.ireturn, 1) := by decide +kernel
theorem dX11_see_24 : decode cX11_see 24 = .ok (.aload_n 0, 1) := by decide +kernel
theorem dX11_see_25 : decode cX11_see 25 = .ok (.getfield 65, 3) := by decide +kernel
theorem dX11_see_28 : decode cX11_see 28 = .ok (.iload_n 1, 1) := by decide +kernel
theorem dX11_see_29 : decode cX11_see 29 = .ok (.iload_n 2, 1) := by decide +kernel
theorem dX11_see_30 : decode cX11_see 30 = .ok (.iload_n 3, 1) := by decide +kernel
theorem dX11_see_31 : decode cX11_see 31 = .ok (.invokevirtual 294, 3) := by decide +kernel
theorem dX11_see_34 : decode cX11_see 34 = .ok (.ireturn, 1) := by decide +kernel
noncomputable def F_X11_see (a0 : Nat) (a1 : Int32) (a2 : Int32) (a3 : Int32) (M : m_M) : Option (Int32 × m_M) :=
  x_gN 9 M a0 2 fun v1 =>
  x_cV 3 M v1 (F_X3_isClause v1 a1 M) fun v2 M1 =>
  if v2 = 0 then (
    some ((0 : Int32), M1)
  ) else
  x_gN 9 M1 a0 2 fun v3 =>
  x_cV 3 M1 v3 (F_X3_isWorld v3 a2 M1) fun v4 M2 =>
  if v4 = 0 then (
    some ((0 : Int32), M2)
  ) else
  x_gN 9 M2 a0 9 fun v5 =>
  x_cV 1 M2 v5 (F_X1_noteSeen v5 a1 a2 a3 M2) fun v6 M3 =>
  x_b v6 <| some (v6, M3)
set_option maxHeartbeats 4000000 in
theorem K_X11_see (a0 : Nat) (a1 : Int32) (a2 : Int32) (a3 : Int32) (M : m_M) (Φ : Option Value → m_M → Prop) (h : m_ok e_I Φ (F_X11_see a0 a1 a2 a3 M)) : j_Ct yX11_see cX11_see 4 (some .boolean) 3 0 0 [.ref a0, .int a1, .int a2, .int a3] M Φ := by
  refine j_Ct.of (by decide +kernel) (Nat.le_of_ble_eq_true rfl) fun X C => ?_
  have C0 := C.1
  show j_J X 4 0 [some (.ref a0), some (.int a1), some (.int a2), some (.int a3)] [] (0, 0) M
  unfold F_X11_see at h
  refine j_aload_n C0 (pc := 0) dX11_see_0 rfl ?_
  refine X_gN C0 (pc := 1) f_OV_16_9 rfl dX11_see_1 h (fun v1 h => ?_)
  refine j_iload_n C0 (pc := 4) dX11_see_4 rfl ?_
  refine X_cV C0 (pc := 5) (e' := e_I) (as := [.int a1]) (rest := []) (s' := fun w => .int w :: []) (g' := (0, 0)) v_OV_198_3 (fun Ψ hΨ => K_X3_isClause v1 a1 M Ψ hΨ) rfl rfl (fun _ => rfl) (by decide) (by decide) rfl (Nat.le_of_ble_eq_true rfl) dX11_see_5 h (fun v2 M1 h => ?_)
  refine j_if_eq C0 (pc := 8) (tgt := 22) dX11_see_8 (by decide) (fun hc => ?_) (fun hc => ?_)
  · replace h := (X_if h).1 hc
    refine j_iconst C0 (pc := 22) dX11_see_22 (v := (0 : Int32)) (by decide) ?_
    exact j_zret C rfl (by decide) h dX11_see_23 (by decide)
  · replace h := (X_if h).2 hc
    refine j_aload_n C0 (pc := 11) dX11_see_11 rfl ?_
    refine X_gN C0 (pc := 12) f_OV_16_9 rfl dX11_see_12 h (fun v3 h => ?_)
    refine j_iload_n C0 (pc := 15) dX11_see_15 rfl ?_
    refine X_cV C0 (pc := 16) (e' := e_I) (as := [.int a2]) (rest := []) (s' := fun w => .int w :: []) (g' := (0, 0)) v_OV_192_3 (fun Ψ hΨ => K_X3_isWorld v3 a2 M1 Ψ hΨ) rfl rfl (fun _ => rfl) (by decide) (by decide) rfl (Nat.le_of_ble_eq_true rfl) dX11_see_16 h (fun v4 M2 h => ?_)
    refine j_if_ne C0 (pc := 19) (tgt := 24) dX11_see_19 (by decide) (fun hc => ?_) (fun hc => ?_)
    · replace h := (X_if h).2 hc
      refine j_aload_n C0 (pc := 24) dX11_see_24 rfl ?_
      refine X_gN C0 (pc := 25) f_OV_65_9 rfl dX11_see_25 h (fun v5 h => ?_)
      refine j_iload_n C0 (pc := 28) dX11_see_28 rfl ?_
      refine j_iload_n C0 (pc := 29) dX11_see_29 rfl ?_
      refine j_iload_n C0 (pc := 30) dX11_see_30 rfl ?_
      refine X_cV C0 (pc := 31) (e' := e_I) (as := [.int a1, .int a2, .int a3]) (rest := []) (s' := fun w => .int w :: []) (g' := (0, 0)) v_OV_294_1 (fun Ψ hΨ => K_X1_noteSeen v5 a1 a2 a3 M2 Ψ hΨ) rfl rfl (fun _ => rfl) (by decide) (by decide) rfl (Nat.le_of_ble_eq_true rfl) dX11_see_31 h (fun v6 M3 h => ?_)
      exact j_zret C rfl (by rcases (X_gd h).1 with q | q <;> (rw [q]; rfl)) (X_gd h).2 dX11_see_34 (by decide)
    · replace h := (X_if h).1 hc
      refine j_iconst C0 (pc := 22) dX11_see_22 (v := (0 : Int32)) (by decide) ?_
      exact j_zret C rfl (by decide) h dX11_see_23 (by decide)
theorem dX2_spreadAll_0 : decode cX2_spreadAll 0 = .ok (.iconst 0, 1) := by decide +kernel
theorem dX2_spreadAll_1 : decode cX2_spreadAll 1 = .ok (.istore_n 3, 1) := by decide +kernel
theorem dX2_spreadAll_2 : decode cX2_spreadAll 2 = .ok (.iload_n 3, 1) := by decide +kernel
theorem dX2_spreadAll_3 : decode cX2_spreadAll 3 = .ok (.sipush 400, 3) := by decide +kernel
theorem dX2_spreadAll_6 : decode cX2_spreadAll 6 = .ok (.if_icmp .ge 103, 3) := by decide +kernel
theorem dX2_spreadAll_9 : decode cX2_spreadAll 9 = .ok (.aload_n 0, 1) := by decide +kernel
theorem dX2_spreadAll_10 : decode cX2_spreadAll 10 = .ok (.getfield 38, 3) := by decide +kernel
theorem dX2_spreadAll_13 : decode cX2_spreadAll 13 = .ok (.iload_n 3, 1) := by decide +kernel
theorem dX2_spreadAll_14 : decode cX2_spreadAll 14 = .ok (.invokevirtual 73, 3) := by decide +kernel
theorem dX2_spreadAll_17 : decode cX2_spreadAll 17 = .ok (.ifCond .eq 86, 3) := by decide +kernel
theorem dX2_spreadAll_20 : decode cX2_spreadAll 20 = .ok (.aload_n 0, 1) := by decide +kernel
theorem dX2_spreadAll_21 : decode cX2_spreadAll 21 = .ok (.getfield 38, 3) := by decide +kernel
theorem dX2_spreadAll_24 : decode cX2_spreadAll 24 = .ok (.iload_n 3, 1) := by decide +kernel
theorem dX2_spreadAll_25 : decode cX2_spreadAll 25 = .ok (.iload_n 1, 1) := by decide +kernel
theorem dX2_spreadAll_26 : decode cX2_spreadAll 26 = .ok (.invokevirtual 113, 3) := by decide +kernel
theorem dX2_spreadAll_29 : decode cX2_spreadAll 29 = .ok (.istore 4, 2) := by decide +kernel
theorem dX2_spreadAll_31 : decode cX2_spreadAll 31 = .ok (.aload_n 0, 1) := by decide +kernel
theorem dX2_spreadAll_32 : decode cX2_spreadAll 32 = .ok (.getfield 38, 3) := by decide +kernel
theorem dX2_spreadAll_35 : decode cX2_spreadAll 35 = .ok (.iload_n 3, 1) := by decide +kernel
theorem dX2_spreadAll_36 : decode cX2_spreadAll 36 = .ok (.invokevirtual 117, 3) := by decide +kernel
theorem dX2_spreadAll_39 : decode cX2_spreadAll 39 = .ok (.istore 5, 2) := by decide +kernel
theorem dX2_spreadAll_41 : decode cX2_spreadAll 41 = .ok (.aload_n 0, 1) := by decide +kernel
theorem dX2_spreadAll_42 : decode cX2_spreadAll 42 = .ok (.getfield 38, 3) := by decide +kernel
theorem dX2_spreadAll_45 : decode cX2_spreadAll 45 = .ok (.iload_n 3, 1) := by decide +kernel
theorem dX2_spreadAll_46 : decode cX2_spreadAll 46 = .ok (.invokevirtual 120, 3) := by decide +kernel
theorem dX2_spreadAll_49 : decode cX2_spreadAll 49 = .ok (.istore 6, 2) := by decide +kernel
theorem dX2_spreadAll_51 : decode cX2_spreadAll 51 = .ok (.iconst 0, 1) := by decide +kernel
theorem dX2_spreadAll_52 : decode cX2_spreadAll 52 = .ok (.istore 7, 2) := by decide +kernel
theorem dX2_spreadAll_54 : decode cX2_spreadAll 54 = .ok (.iload 7, 2) := by decide +kernel
theorem dX2_spreadAll_56 : decode cX2_spreadAll 56 = .ok (.aload_n 0, 1) := by decide +kernel
theorem dX2_spreadAll_57 : decode cX2_spreadAll 57 = .ok (.getfield 38, 3) := by decide +kernel
theorem dX2_spreadAll_60 : decode cX2_spreadAll 60 = .ok (.getfield 123, 3) := by decide +kernel
theorem dX2_spreadAll_63 : decode cX2_spreadAll 63 = .ok (.if_icmp .ge 40, 3) := by decide +kernel
theorem dX2_spreadAll_66 : decode cX2_spreadAll 66 = .ok (.iload 7, 2) := by decide +kernel
theorem dX2_spreadAll_68 : decode cX2_spreadAll 68 = .ok (.bipush 16, 2) := by decide +kernel
theorem dX2_spreadAll_70 : decode cX2_spreadAll 70 = .ok (.if_icmp .ge 33, 3) := by decide +kernel
theorem dX2_spreadAll_73 : decode cX2_spreadAll 73 = .ok (.aload_n 2, 1) := by decide +kernel
theorem dX2_spreadAll_74 : decode cX2_spreadAll 74 = .ok (.iload_n 3, 1) := by decide +kernel
theorem dX2_spreadAll_75 : decode cX2_spreadAll 75 = .ok (.bipush 16, 2) := by decide +kernel
theorem dX2_spreadAll_77 : decode cX2_spreadAll 77 = .ok (.imul, 1) := by decide +kernel
theorem dX2_spreadAll_78 : decode cX2_spreadAll 78 = .ok (.iload 7, 2) := by decide +kernel
theorem dX2_spreadAll_80 : decode cX2_spreadAll 80 = .ok (.iadd, 1) := by decide +kernel
theorem dX2_spreadAll_81 : decode cX2_spreadAll 81 = .ok (.aload_n 0, 1) := by decide +kernel
theorem dX2_spreadAll_82 : decode cX2_spreadAll 82 = .ok (.getfield 38, 3) := by decide +kernel
theorem dX2_spreadAll_85 : decode cX2_spreadAll 85 = .ok (.iload 4, 2) := by decide +kernel
theorem dX2_spreadAll_87 : decode cX2_spreadAll 87 = .ok (.iload 5, 2) := by decide +kernel
theorem dX2_spreadAll_89 : decode cX2_spreadAll 89 = .ok (.iload 6, 2) := by decide +kernel
theorem dX2_spreadAll_91 : decode cX2_spreadAll 91 = .ok (.iload 7, 2) := by decide +kernel
theorem dX2_spreadAll_93 : decode cX2_spreadAll 93 = .ok (.invokevirtual 126, 3) := by decide +kernel
theorem dX2_spreadAll_96 : decode cX2_spreadAll 96 = .ok (.lastore, 1) := by decide +kernel
theorem dX2_spreadAll_97 : decode cX2_spreadAll 97 = .ok (.iinc 7 1, 3) := by decide +kernel
theorem dX2_spreadAll_100 : decode cX2_spreadAll 100 = .ok (.goto (-46), 3) := by decide +kernel
theorem dX2_spreadAll_103 : decode cX2_spreadAll 103 = .ok (.iinc 3 1, 3) := by decide +kernel
theorem dX2_spreadAll_106 : decode cX2_spreadAll 106 = .ok (.goto (-104), 3) := by decide +kernel
theorem dX2_spreadAll_109 : decode cX2_spreadAll 109 = .ok (.return_, 1) := by decide +kernel
noncomputable def F_X2_spreadAll_54 (k103 : Nat → Int32 → Nat → Int32 → m_M → Option (Unit × m_M)) : Nat → Nat → Int32 → Nat → Int32 → Int32 → Int32 → Int32 → Int32 → m_M → Option (Unit × m_M)
  | 0, _, _, _, _, _, _, _, _, _ => none
  | n + 1, v1, v2, v3, v4, v5, v6, v7, v8, M =>
    x_gN 2 M v1 5 fun v9 =>
    x_gI 3 M v9 4 fun v10 =>
    if v10 ≤ v8 then (
      k103 v1 v2 v3 v4 M
    ) else
    if (16 : Int32) ≤ v8 then (
      k103 v1 v2 v3 v4 M
    ) else
    x_gN 2 M v1 5 fun v11 =>
    x_cV 3 M v11 (F_X3_longOf v11 v5 v6 v7 v8 M) fun v12 M1 =>
    x_sL M1 v3 ((v4 * (16 : Int32)) + v8) v12 fun M2 =>
    m_let (v8 + (1 : Int32)) fun v13 =>
    F_X2_spreadAll_54 k103 n v1 v2 v3 v4 v5 v6 v7 v13 M2
noncomputable def F_X2_spreadAll_2 : Nat → Nat → Int32 → Nat → Int32 → m_M → Option (Unit × m_M)
  | 0, _, _, _, _, _ => none
  | n + 1, v1, v2, v3, v4, M =>
    if (400 : Int32) ≤ v4 then (
      some ((), M)
    ) else
    m_let (fun (v5 : Nat) (v6 : Int32) (v7 : Nat) (v8 : Int32) (M1 : m_M) =>
      m_let (v8 + (1 : Int32)) fun v9 =>
      F_X2_spreadAll_2 n v5 v6 v7 v9 M1
    ) fun (k103 : Nat → Int32 → Nat → Int32 → m_M → Option (Unit × m_M)) =>
    x_gN 2 M v1 5 fun v10 =>
    x_cV 3 M v10 (F_X3_isClause v10 v4 M) fun v11 M2 =>
    if v11 = 0 then (
      k103 v1 v2 v3 v4 M2
    ) else
    x_gN 2 M2 v1 5 fun v12 =>
    x_cV 3 M2 v12 (F_X3_clauseTable v12 v4 v2 M2) fun v13 M3 =>
    x_gN 2 M3 v1 5 fun v14 =>
    x_cV 3 M3 v14 (F_X3_firstThing v14 v4 M3) fun v15 M4 =>
    x_gN 2 M4 v1 5 fun v16 =>
    x_cV 3 M4 v16 (F_X3_secondThing v16 v4 M4) fun v17 M5 =>
    F_X2_spreadAll_54 k103 m_FU v1 v2 v3 v4 v13 v15 v17 (0 : Int32) M5
noncomputable def F_X2_spreadAll (a0 : Nat) (a1 : Int32) (a2 : Nat) (M : m_M) : Option (Unit × m_M) :=
  F_X2_spreadAll_2 m_FU a0 a1 a2 (0 : Int32) M
set_option maxHeartbeats 4000000 in
theorem L_X2_spreadAll_54 {X : j_X} {Φ : Option Value → m_M → Prop} (C : j_C X yX2_spreadAll cX2_spreadAll 8 none 6 0 0 Φ) {k103 : Nat → Int32 → Nat → Int32 → m_M → Option (Unit × m_M)} (hk103 : ∀ (p0 : Nat) (p1 : Int32) (p2 : Nat) (p3 : Int32) (M : m_M), m_ok e_V Φ (k103 p0 p1 p2 p3 M) → j_J X 8 103 [some (.ref p0), some (.int p1), some (.ref p2), some (.int p3), none, none, none, none] [] (0, 0) M) : ∀ (n : Nat) (v1 : Nat) (v2 : Int32) (v3 : Nat) (v4 : Int32) (v5 : Int32) (v6 : Int32) (v7 : Int32) (v8 : Int32) (M : m_M), m_ok e_V Φ (F_X2_spreadAll_54 k103 n v1 v2 v3 v4 v5 v6 v7 v8 M) → j_J X 8 54 [some (.ref v1), some (.int v2), some (.ref v3), some (.int v4), some (.int v5), some (.int v6), some (.int v7), some (.int v8)] [] (0, 0) M := by
  have C0 := C.1
  intro n
  induction n with
  | zero => intro v1 v2 v3 v4 v5 v6 v7 v8 M h; exact False.elim h
  | succ n ih =>
    intro v1 v2 v3 v4 v5 v6 v7 v8 M h
    rw [F_X2_spreadAll_54] at h
    refine j_iload C0 (pc := 54) dX2_spreadAll_54 rfl ?_
    refine j_aload_n C0 (pc := 56) dX2_spreadAll_56 rfl ?_
    refine X_gN C0 (pc := 57) f_Finder_38_2 rfl dX2_spreadAll_57 h (fun v9 h => ?_)
    refine X_gI C0 (pc := 60) f_Finder_123_3 rfl dX2_spreadAll_60 h (fun v10 h => ?_)
    refine j_icmp_ge C0 (pc := 63) (tgt := 103) dX2_spreadAll_63 (by decide) (fun hc => ?_) (fun hc => ?_)
    · replace h := (X_if h).1 hc
      exact j_J.wq (hk103 v1 v2 v3 v4 M h) (And.intro rfl (And.intro rfl (And.intro rfl (And.intro rfl (trivial)))))
    · replace h := (X_if h).2 hc
      refine j_iload C0 (pc := 66) dX2_spreadAll_66 rfl ?_
      refine j_bipush C0 (pc := 68) dX2_spreadAll_68 (v := (16 : Int32)) (by decide) ?_
      refine j_icmp_ge C0 (pc := 70) (tgt := 103) dX2_spreadAll_70 (by decide) (fun hc => ?_) (fun hc => ?_)
      · replace h := (X_if h).1 hc
        exact j_J.wq (hk103 v1 v2 v3 v4 M h) (And.intro rfl (And.intro rfl (And.intro rfl (And.intro rfl (trivial)))))
      · replace h := (X_if h).2 hc
        refine j_aload_n C0 (pc := 73) dX2_spreadAll_73 rfl ?_
        refine j_iload_n C0 (pc := 74) dX2_spreadAll_74 rfl ?_
        refine j_bipush C0 (pc := 75) dX2_spreadAll_75 (v := (16 : Int32)) (by decide) ?_
        refine j_imul C0 (pc := 77) dX2_spreadAll_77 ?_
        refine j_iload C0 (pc := 78) dX2_spreadAll_78 rfl ?_
        refine j_iadd C0 (pc := 80) dX2_spreadAll_80 ?_
        refine j_aload_n C0 (pc := 81) dX2_spreadAll_81 rfl ?_
        refine X_gN C0 (pc := 82) f_Finder_38_2 rfl dX2_spreadAll_82 h (fun v11 h => ?_)
        refine j_iload C0 (pc := 85) dX2_spreadAll_85 rfl ?_
        refine j_iload C0 (pc := 87) dX2_spreadAll_87 rfl ?_
        refine j_iload C0 (pc := 89) dX2_spreadAll_89 rfl ?_
        refine j_iload C0 (pc := 91) dX2_spreadAll_91 rfl ?_
        refine X_cV C0 (pc := 93) (e' := e_L) (as := [.int v5, .int v6, .int v7, .int v8]) (rest := [.int ((v4 * (16 : Int32)) + v8), .ref v3]) (s' := fun w => .long w :: [.int ((v4 * (16 : Int32)) + v8), .ref v3]) (g' := (0, 0)) v_Finder_126_3 (fun Ψ hΨ => K_X3_longOf v11 v5 v6 v7 v8 M Ψ hΨ) rfl rfl (fun _ => rfl) (by decide) (by decide) rfl (Nat.le_of_ble_eq_true rfl) dX2_spreadAll_93 h (fun v12 M1 h => ?_)
        refine X_last C0 (pc := 96) dX2_spreadAll_96 h (fun M2 h => ?_)
        refine j_iinc C0 (pc := 97) dX2_spreadAll_97 (v := v8 + (1 : Int32)) rfl (Nat.le_of_ble_eq_true rfl) (by rfl) ?_
        refine X_let (G := fun w => j_J X 8 100 [some (.ref v1), some (.int v2), some (.ref v3), some (.int v4), some (.int v5), some (.int v6), some (.int v7), some (.int w)] [] (0, 0) M2) h (fun v13 h => ?_)
        refine j_goto C0 (pc := 100) (tgt := 54) dX2_spreadAll_100 (by decide) ?_
        exact j_J.wq (ih v1 v2 v3 v4 v5 v6 v7 v13 M2 h) (And.intro rfl (And.intro rfl (And.intro rfl (And.intro rfl (And.intro rfl (And.intro rfl (And.intro rfl (And.intro rfl (trivial)))))))))
set_option maxHeartbeats 4000000 in
theorem L_X2_spreadAll_2 {X : j_X} {Φ : Option Value → m_M → Prop} (C : j_C X yX2_spreadAll cX2_spreadAll 8 none 6 0 0 Φ) : ∀ (n : Nat) (v1 : Nat) (v2 : Int32) (v3 : Nat) (v4 : Int32) (M : m_M), m_ok e_V Φ (F_X2_spreadAll_2 n v1 v2 v3 v4 M) → j_J X 8 2 [some (.ref v1), some (.int v2), some (.ref v3), some (.int v4), none, none, none, none] [] (0, 0) M := by
  have C0 := C.1
  intro n
  induction n with
  | zero => intro v1 v2 v3 v4 M h; exact False.elim h
  | succ n ih =>
    intro v1 v2 v3 v4 M h
    rw [F_X2_spreadAll_2] at h
    refine j_iload_n C0 (pc := 2) dX2_spreadAll_2 rfl ?_
    refine j_sipush C0 (pc := 3) dX2_spreadAll_3 (v := (400 : Int32)) (by decide) ?_
    refine j_icmp_ge C0 (pc := 6) (tgt := 109) dX2_spreadAll_6 (by decide) (fun hc => ?_) (fun hc => ?_)
    · replace h := (X_if h).1 hc
      exact j_vret C rfl h dX2_spreadAll_109 (by decide)
    · replace h := (X_if h).2 hc
      refine X_join (fun (kj : Nat → Int32 → Nat → Int32 → m_M → Option (Unit × m_M)) => ∀ (p0 : Nat) (p1 : Int32) (p2 : Nat) (p3 : Int32) (M : m_M), m_ok e_V Φ (kj p0 p1 p2 p3 M) → j_J X 8 103 [some (.ref p0), some (.int p1), some (.ref p2), some (.int p3), none, none, none, none] [] (0, 0) M) h (fun v5 v6 v7 v8 M1 h => ?_) (fun k103 hk103 h => ?_)
      · refine j_iinc C0 (pc := 103) dX2_spreadAll_103 (v := v8 + (1 : Int32)) rfl (Nat.le_of_ble_eq_true rfl) (by rfl) ?_
        refine X_let (G := fun w => j_J X 8 106 [some (.ref v5), some (.int v6), some (.ref v7), some (.int w), none, none, none, none] [] (0, 0) M1) h (fun v9 h => ?_)
        refine j_goto C0 (pc := 106) (tgt := 2) dX2_spreadAll_106 (by decide) ?_
        exact j_J.wq (ih v5 v6 v7 v9 M1 h) (And.intro rfl (And.intro rfl (And.intro rfl (And.intro rfl (trivial)))))
      · refine j_aload_n C0 (pc := 9) dX2_spreadAll_9 rfl ?_
        refine X_gN C0 (pc := 10) f_Finder_38_2 rfl dX2_spreadAll_10 h (fun v10 h => ?_)
        refine j_iload_n C0 (pc := 13) dX2_spreadAll_13 rfl ?_
        refine X_cV C0 (pc := 14) (e' := e_I) (as := [.int v4]) (rest := []) (s' := fun w => .int w :: []) (g' := (0, 0)) v_Finder_73_3 (fun Ψ hΨ => K_X3_isClause v10 v4 M Ψ hΨ) rfl rfl (fun _ => rfl) (by decide) (by decide) rfl (Nat.le_of_ble_eq_true rfl) dX2_spreadAll_14 h (fun v11 M2 h => ?_)
        refine j_if_eq C0 (pc := 17) (tgt := 103) dX2_spreadAll_17 (by decide) (fun hc => ?_) (fun hc => ?_)
        · replace h := (X_if h).1 hc
          exact j_J.wq (hk103 v1 v2 v3 v4 M2 h) (And.intro rfl (And.intro rfl (And.intro rfl (And.intro rfl (trivial)))))
        · replace h := (X_if h).2 hc
          refine j_aload_n C0 (pc := 20) dX2_spreadAll_20 rfl ?_
          refine X_gN C0 (pc := 21) f_Finder_38_2 rfl dX2_spreadAll_21 h (fun v12 h => ?_)
          refine j_iload_n C0 (pc := 24) dX2_spreadAll_24 rfl ?_
          refine j_iload_n C0 (pc := 25) dX2_spreadAll_25 rfl ?_
          refine X_cV C0 (pc := 26) (e' := e_I) (as := [.int v4, .int v2]) (rest := []) (s' := fun w => .int w :: []) (g' := (0, 0)) v_Finder_113_3 (fun Ψ hΨ => K_X3_clauseTable v12 v4 v2 M2 Ψ hΨ) rfl rfl (fun _ => rfl) (by decide) (by decide) rfl (Nat.le_of_ble_eq_true rfl) dX2_spreadAll_26 h (fun v13 M3 h => ?_)
          refine j_istore C0 (pc := 29) dX2_spreadAll_29 (Nat.le_of_ble_eq_true rfl) ?_
          show j_J X 8 31 [some (.ref v1), some (.int v2), some (.ref v3), some (.int v4), some (.int v13), none, none, none] [] (0, 0) M3
          refine j_aload_n C0 (pc := 31) dX2_spreadAll_31 rfl ?_
          refine X_gN C0 (pc := 32) f_Finder_38_2 rfl dX2_spreadAll_32 h (fun v14 h => ?_)
          refine j_iload_n C0 (pc := 35) dX2_spreadAll_35 rfl ?_
          refine X_cV C0 (pc := 36) (e' := e_I) (as := [.int v4]) (rest := []) (s' := fun w => .int w :: []) (g' := (0, 0)) v_Finder_117_3 (fun Ψ hΨ => K_X3_firstThing v14 v4 M3 Ψ hΨ) rfl rfl (fun _ => rfl) (by decide) (by decide) rfl (Nat.le_of_ble_eq_true rfl) dX2_spreadAll_36 h (fun v15 M4 h => ?_)
          refine j_istore C0 (pc := 39) dX2_spreadAll_39 (Nat.le_of_ble_eq_true rfl) ?_
          show j_J X 8 41 [some (.ref v1), some (.int v2), some (.ref v3), some (.int v4), some (.int v13), some (.int v15), none, none] [] (0, 0) M4
          refine j_aload_n C0 (pc := 41) dX2_spreadAll_41 rfl ?_
          refine X_gN C0 (pc := 42) f_Finder_38_2 rfl dX2_spreadAll_42 h (fun v16 h => ?_)
          refine j_iload_n C0 (pc := 45) dX2_spreadAll_45 rfl ?_
          refine X_cV C0 (pc := 46) (e' := e_I) (as := [.int v4]) (rest := []) (s' := fun w => .int w :: []) (g' := (0, 0)) v_Finder_120_3 (fun Ψ hΨ => K_X3_secondThing v16 v4 M4 Ψ hΨ) rfl rfl (fun _ => rfl) (by decide) (by decide) rfl (Nat.le_of_ble_eq_true rfl) dX2_spreadAll_46 h (fun v17 M5 h => ?_)
          refine j_istore C0 (pc := 49) dX2_spreadAll_49 (Nat.le_of_ble_eq_true rfl) ?_
          show j_J X 8 51 [some (.ref v1), some (.int v2), some (.ref v3), some (.int v4), some (.int v13), some (.int v15), some (.int v17), none] [] (0, 0) M5
          refine j_iconst C0 (pc := 51) dX2_spreadAll_51 (v := (0 : Int32)) (by decide) ?_
          refine j_istore C0 (pc := 52) dX2_spreadAll_52 (Nat.le_of_ble_eq_true rfl) ?_
          show j_J X 8 54 [some (.ref v1), some (.int v2), some (.ref v3), some (.int v4), some (.int v13), some (.int v15), some (.int v17), some (.int (0 : Int32))] [] (0, 0) M5
          exact j_J.wq (L_X2_spreadAll_54 C hk103 m_FU v1 v2 v3 v4 v13 v15 v17 (0 : Int32) M5 h) (And.intro rfl (And.intro rfl (And.intro rfl (And.intro rfl (And.intro rfl (And.intro rfl (And.intro rfl (And.intro rfl (trivial)))))))))
set_option maxHeartbeats 4000000 in
theorem K_X2_spreadAll (a0 : Nat) (a1 : Int32) (a2 : Nat) (M : m_M) (Φ : Option Value → m_M → Prop) (h : m_ok e_V Φ (F_X2_spreadAll a0 a1 a2 M)) : j_Ct yX2_spreadAll cX2_spreadAll 8 none 6 0 0 [.ref a0, .int a1, .ref a2] M Φ := by
  refine j_Ct.of (by decide +kernel) (Nat.le_of_ble_eq_true rfl) fun X C => ?_
  have C0 := C.1
  show j_J X 8 0 [some (.ref a0), some (.int a1), some (.ref a2), none, none, none, none, none] [] (0, 0) M
  unfold F_X2_spreadAll at h
  refine j_iconst C0 (pc := 0) dX2_spreadAll_0 (v := (0 : Int32)) (by decide) ?_
  refine j_istore_n C0 (pc := 1) dX2_spreadAll_1 (Nat.le_of_ble_eq_true rfl) ?_
  show j_J X 8 2 [some (.ref a0), some (.int a1), some (.ref a2), some (.int (0 : Int32)), none, none, none, none] [] (0, 0) M
  exact j_J.wq (L_X2_spreadAll_2 C m_FU a0 a1 a2 (0 : Int32) M h) (And.intro rfl (And.intro rfl (And.intro rfl (And.intro rfl (trivial)))))
theorem dX2_findOutside_0 : decode cX2_findOutside 0 = .ok (.aload_n 0, 1) := by decide +kernel
theorem dX2_findOutside_1 : decode cX2_findOutside 1 = .ok (.getfield 31, 3) := by decide +kernel
theorem dX2_findOutside_4 : decode cX2_findOutside 4 = .ok (.aload_n 1, 1) := by decide +kernel
theorem dX2_findOutside_5 : decode cX2_findOutside 5 = .ok (.invokevirtual 61, 3) := by decide +kernel
theorem dX2_findOutside_8 : decode cX2_findOutside 8 = .ok (.aload_n 0, 1) := by decide +kernel
theorem dX2_findOutside_9 : decode cX2_findOutside 9 = .ok (.getfield 31, 3) := by decide +kernel
theorem dX2_findOutside_12 : decode cX2_findOutside 12 = .ok (.aload_n 0, 1) := by decide +kernel
theorem dX2_findOutside_13 : decode cX2_findOutside 13 = .ok (.getfield 38, 3) := by decide +kernel
theorem dX2_findOutside_16 : decode cX2_findOutside 16 = .ok (.getfield 64, 3) := by decide +kernel
theorem dX2_findOutside_19 : decode cX2_findOutside 19 = .ok (.invokevirtual 69, 3) := by decide +kernel
theorem dX2_findOutside_22 : decode cX2_findOutside 22 = .ok (.return_, 1) := by decide +kernel
noncomputable def F_X2_findOutside (a0 : Nat) (a1 : Nat) (M : m_M) : Option (Unit × m_M) :=
  x_gN 2 M a0 10 fun v1 =>
  x_cV 8 M v1 (F_X10_take v1 a1 M) fun _ M1 =>
  x_gN 2 M1 a0 10 fun v2 =>
  x_gN 2 M1 a0 5 fun v3 =>
  x_gI 3 M1 v3 3 fun v4 =>
  x_cV 8 M1 v2 (F_X10_turn v2 v4 M1) fun _ M2 =>
  some ((), M2)
set_option maxHeartbeats 4000000 in
theorem K_X2_findOutside (a0 : Nat) (a1 : Nat) (M : m_M) (Φ : Option Value → m_M → Prop) (h : m_ok e_V Φ (F_X2_findOutside a0 a1 M)) : j_Ct yX2_findOutside cX2_findOutside 2 none 3 0 0 [.ref a0, .ref a1] M Φ := by
  refine j_Ct.of (by decide +kernel) (Nat.le_of_ble_eq_true rfl) fun X C => ?_
  have C0 := C.1
  show j_J X 2 0 [some (.ref a0), some (.ref a1)] [] (0, 0) M
  unfold F_X2_findOutside at h
  refine j_aload_n C0 (pc := 0) dX2_findOutside_0 rfl ?_
  refine X_gN C0 (pc := 1) f_Finder_31_2 rfl dX2_findOutside_1 h (fun v1 h => ?_)
  refine j_aload_n C0 (pc := 4) dX2_findOutside_4 rfl ?_
  refine X_cV C0 (pc := 5) (e' := e_V) (as := [.ref a1]) (rest := []) (s' := fun _ => []) (g' := (0, 0)) v_Finder_61_8 (fun Ψ hΨ => K_X10_take v1 a1 M Ψ hΨ) rfl rfl (fun _ => rfl) (by decide) (by decide) rfl (Nat.le_of_ble_eq_true rfl) dX2_findOutside_5 h (fun _ M1 h => ?_)
  refine j_aload_n C0 (pc := 8) dX2_findOutside_8 rfl ?_
  refine X_gN C0 (pc := 9) f_Finder_31_2 rfl dX2_findOutside_9 h (fun v2 h => ?_)
  refine j_aload_n C0 (pc := 12) dX2_findOutside_12 rfl ?_
  refine X_gN C0 (pc := 13) f_Finder_38_2 rfl dX2_findOutside_13 h (fun v3 h => ?_)
  refine X_gI C0 (pc := 16) f_Finder_64_3 rfl dX2_findOutside_16 h (fun v4 h => ?_)
  refine X_cV C0 (pc := 19) (e' := e_V) (as := [.int v4]) (rest := []) (s' := fun _ => []) (g' := (0, 0)) v_Finder_69_8 (fun Ψ hΨ => K_X10_turn v2 v4 M1 Ψ hΨ) rfl rfl (fun _ => rfl) (by decide) (by decide) rfl (Nat.le_of_ble_eq_true rfl) dX2_findOutside_19 h (fun _ M2 h => ?_)
  exact j_vret C rfl h dX2_findOutside_22 (by decide)
theorem dX2_wordsOf_0 : decode cX2_wordsOf 0 = .ok (.iload_n 0, 1) := by decide +kernel
theorem dX2_wordsOf_1 : decode cX2_wordsOf 1 = .ok (.iconst 2, 1) := by decide +kernel
theorem dX2_wordsOf_2 : decode cX2_wordsOf 2 = .ok (.idiv, 1) := by decide +kernel
theorem dX2_wordsOf_3 : decode cX2_wordsOf 3 = .ok (.bipush 20, 2) := by decide +kernel
theorem dX2_wordsOf_5 : decode cX2_wordsOf 5 = .ok (.idiv, 1) := by decide +kernel
theorem dX2_wordsOf_6 : decode cX2_wordsOf 6 = .ok (.istore_n 1, 1) := by decide +kernel
theorem dX2_wordsOf_7 : decode cX2_wordsOf 7 = .ok (.iload_n 0, 1) := by decide +kernel
theorem dX2_wordsOf_8 : decode cX2_wordsOf 8 = .ok (.iconst 2, 1) := by decide +kernel
theorem dX2_wordsOf_9 : decode cX2_wordsOf 9 = .ok (.idiv, 1) := by decide +kernel
theorem dX2_wordsOf_10 : decode cX2_wordsOf 10 = .ok (.bipush 20, 2) := by decide +kernel
theorem dX2_wordsOf_12 : decode cX2_wordsOf 12 = .ok (.irem, 1) := by decide +kernel
theorem dX2_wordsOf_13 : decode cX2_wordsOf 13 = .ok (.istore_n 2, 1) := by decide +kernel
theorem dX2_wordsOf_14 : decode cX2_wordsOf 14 = .ok (.iload_n 1, 1) := by decide +kernel
theorem dX2_wordsOf_15 : decode cX2_wordsOf 15 = .ok (.iconst 4, 1) := by decide +kernel
theorem dX2_wordsOf_16 : decode cX2_wordsOf 16 = .ok (.irem, 1) := by decide +kernel
theorem dX2_wordsOf_17 : decode cX2_wordsOf 17 = .ok (.ifCond .le 7, 3) := by decide +kernel
theorem dX2_wordsOf_20 : decode cX2_wordsOf 20 = .ok (.iconst 1, 1) := by decide +kernel
theorem dX2_wordsOf_21 : decode cX2_wordsOf 21 = .ok (.goto 4, 3) := by decide +kernel
theorem dX2_wordsOf_24 : decode cX2_wordsOf 24 = .ok (.iconst 0, 1) := by decide +kernel
theorem dX2_wordsOf_25 : decode cX2_wordsOf 25 = .ok (.iload_n 2, 1) := by decide +kernel
theorem dX2_wordsOf_26 : decode cX2_wordsOf 26 = .ok (.iconst 4, 1) := by decide +kernel
theorem dX2_wordsOf_27 : decode cX2_wordsOf 27 = .ok (.irem, 1) := by decide +kernel
theorem dX2_wordsOf_28 : decode cX2_wordsOf 28 = .ok (.ifCond .le 7, 3) := by decide +kernel
theorem dX2_wordsOf_31 : decode cX2_wordsOf 31 = .ok (.iconst 1, 1) := by decide +kernel
theorem dX2_wordsOf_32 : decode cX2_wordsOf 32 = .ok (.goto 4, 3) := by decide +kernel
theorem dX2_wordsOf_35 : decode cX2_wordsOf 35 = .ok (.iconst 0, 1) := by decide +kernel
theorem dX2_wordsOf_36 : decode cX2_wordsOf 36 = .ok (.iadd, 1) := by decide +kernel
theorem dX2_wordsOf_37 : decode cX2_wordsOf 37 = .ok (.istore_n 3, 1) := by decide +kernel
theorem dX2_wordsOf_38 : decode cX2_wordsOf 38 = .ok (.iconst 2, 1) := by decide +kernel
theorem dX2_wordsOf_39 : decode cX2_wordsOf 39 = .ok (.iload_n 3, 1) := by decide +kernel
theorem dX2_wordsOf_40 : decode cX2_wordsOf 40 = .ok (.iadd, 1) := by decide +kernel
theorem dX2_wordsOf_41 : decode cX2_wordsOf 41 = .ok (.iload_n 0, 1) := by decide +kernel
theorem dX2_wordsOf_42 : decode cX2_wordsOf 42 = .ok (.iconst 2, 1) := by decide +kernel
theorem dX2_wordsOf_43 : decode cX2_wordsOf 43 = .ok (.irem, 1) := by decide +kernel
theorem dX2_wordsOf_44 : decode cX2_wordsOf 44 = .ok (.iadd, 1) := by decide +kernel
theorem dX2_wordsOf_45 : decode cX2_wordsOf 45 = .ok (.ireturn, 1) := by decide +kernel
noncomputable def F_X2_wordsOf (a1 : Int32) (M : m_M) : Option (Int32 × m_M) :=
  m_let (fun (v1 : Int32) (v2 : Int32) (v3 : Int32) (M1 : m_M) =>
    m_let (fun (v4 : Int32) (v5 : Int32) (v6 : Int32) (M2 : m_M) =>
      m_let (v5 + v6) fun v7 =>
      x_nz (2 : Int32) <|
      some (((2 : Int32) + v7) + (v4 - v4 / (2 : Int32) * (2 : Int32)), M2)
    ) fun (k36 : Int32 → Int32 → Int32 → m_M → Option (Int32 × m_M)) =>
    x_nz (4 : Int32) <|
    if (v2 - v2 / (4 : Int32) * (4 : Int32)) ≤ 0 then (
      k36 v1 v3 (0 : Int32) M1
    ) else
    k36 v1 v3 (1 : Int32) M1
  ) fun (k25 : Int32 → Int32 → Int32 → m_M → Option (Int32 × m_M)) =>
  x_nz (2 : Int32) <|
  x_nz (20 : Int32) <|
  m_let ((a1 / (2 : Int32)) / (20 : Int32)) fun v8 =>
  x_nz (2 : Int32) <|
  x_nz (20 : Int32) <|
  m_let ((a1 / (2 : Int32)) - (a1 / (2 : Int32)) / (20 : Int32) * (20 : Int32)) fun v9 =>
  x_nz (4 : Int32) <|
  if (v8 - v8 / (4 : Int32) * (4 : Int32)) ≤ 0 then (
    k25 a1 v9 (0 : Int32) M
  ) else
  k25 a1 v9 (1 : Int32) M
set_option maxHeartbeats 4000000 in
theorem K_X2_wordsOf (a1 : Int32) (M : m_M) (Φ : Option Value → m_M → Prop) (h : m_ok e_I Φ (F_X2_wordsOf a1 M)) : j_Ct yX2_wordsOf cX2_wordsOf 4 (some .int) 1 0 0 [.int a1] M Φ := by
  refine j_Ct.of (by decide +kernel) (Nat.le_of_ble_eq_true rfl) fun X C => ?_
  have C0 := C.1
  show j_J X 4 0 [some (.int a1), none, none, none] [] (0, 0) M
  unfold F_X2_wordsOf at h
  refine X_join (fun (kj : Int32 → Int32 → Int32 → m_M → Option (Int32 × m_M)) => ∀ (p0 : Int32) (p1 : Int32) (p2 : Int32) (M : m_M), m_ok e_I Φ (kj p0 p1 p2 M) → j_J X 4 25 [some (.int p0), none, some (.int p1), none] [.int p2] (0, 0) M) h (fun v1 v2 v3 M1 h => ?_) (fun k25 hk25 h => ?_)
  · refine X_join (fun (kj : Int32 → Int32 → Int32 → m_M → Option (Int32 × m_M)) => ∀ (p0 : Int32) (p1 : Int32) (p2 : Int32) (M : m_M), m_ok e_I Φ (kj p0 p1 p2 M) → j_J X 4 36 [some (.int p0), none, none, none] [.int p2, .int p1] (0, 0) M) h (fun v4 v5 v6 M2 h => ?_) (fun k36 hk36 h => ?_)
    · refine j_iadd C0 (pc := 36) dX2_wordsOf_36 ?_
      refine X_let (G := fun w => j_J X 4 37 [some (.int v4), none, none, none] (.int w :: []) (0, 0) M2) h (fun v7 h => ?_)
      refine j_istore_n C0 (pc := 37) dX2_wordsOf_37 (Nat.le_of_ble_eq_true rfl) ?_
      show j_J X 4 38 [some (.int v4), none, none, some (.int v7)] [] (0, 0) M2
      refine j_iconst C0 (pc := 38) dX2_wordsOf_38 (v := (2 : Int32)) (by decide) ?_
      refine j_iload_n C0 (pc := 39) dX2_wordsOf_39 rfl ?_
      refine j_iadd C0 (pc := 40) dX2_wordsOf_40 ?_
      refine j_iload_n C0 (pc := 41) dX2_wordsOf_41 rfl ?_
      refine j_iconst C0 (pc := 42) dX2_wordsOf_42 (v := (2 : Int32)) (by decide) ?_
      refine X_irem C0 (pc := 43) dX2_wordsOf_43 h (fun h => ?_)
      refine j_iadd C0 (pc := 44) dX2_wordsOf_44 ?_
      exact j_iret C rfl h dX2_wordsOf_45 (by decide)
    · refine j_iload_n C0 (pc := 25) dX2_wordsOf_25 rfl ?_
      refine j_iconst C0 (pc := 26) dX2_wordsOf_26 (v := (4 : Int32)) (by decide) ?_
      refine X_irem C0 (pc := 27) dX2_wordsOf_27 h (fun h => ?_)
      refine j_if_le C0 (pc := 28) (tgt := 35) dX2_wordsOf_28 (by decide) (fun hc => ?_) (fun hc => ?_)
      · replace h := (X_if h).1 hc
        refine j_iconst C0 (pc := 35) dX2_wordsOf_35 (v := (0 : Int32)) (by decide) ?_
        exact j_J.wq (hk36 v1 v3 (0 : Int32) M1 h) (And.intro rfl (trivial))
      · replace h := (X_if h).2 hc
        refine j_iconst C0 (pc := 31) dX2_wordsOf_31 (v := (1 : Int32)) (by decide) ?_
        refine j_goto C0 (pc := 32) (tgt := 36) dX2_wordsOf_32 (by decide) ?_
        exact j_J.wq (hk36 v1 v3 (1 : Int32) M1 h) (And.intro rfl (trivial))
  · refine j_iload_n C0 (pc := 0) dX2_wordsOf_0 rfl ?_
    refine j_iconst C0 (pc := 1) dX2_wordsOf_1 (v := (2 : Int32)) (by decide) ?_
    refine X_idiv C0 (pc := 2) dX2_wordsOf_2 h (fun h => ?_)
    refine j_bipush C0 (pc := 3) dX2_wordsOf_3 (v := (20 : Int32)) (by decide) ?_
    refine X_idiv C0 (pc := 5) dX2_wordsOf_5 h (fun h => ?_)
    refine X_let (G := fun w => j_J X 4 6 [some (.int a1), none, none, none] (.int w :: []) (0, 0) M) h (fun v8 h => ?_)
    refine j_istore_n C0 (pc := 6) dX2_wordsOf_6 (Nat.le_of_ble_eq_true rfl) ?_
    show j_J X 4 7 [some (.int a1), some (.int v8), none, none] [] (0, 0) M
    refine j_iload_n C0 (pc := 7) dX2_wordsOf_7 rfl ?_
    refine j_iconst C0 (pc := 8) dX2_wordsOf_8 (v := (2 : Int32)) (by decide) ?_
    refine X_idiv C0 (pc := 9) dX2_wordsOf_9 h (fun h => ?_)
    refine j_bipush C0 (pc := 10) dX2_wordsOf_10 (v := (20 : Int32)) (by decide) ?_
    refine X_irem C0 (pc := 12) dX2_wordsOf_12 h (fun h => ?_)
    refine X_let (G := fun w => j_J X 4 13 [some (.int a1), some (.int v8), none, none] (.int w :: []) (0, 0) M) h (fun v9 h => ?_)
    refine j_istore_n C0 (pc := 13) dX2_wordsOf_13 (Nat.le_of_ble_eq_true rfl) ?_
    show j_J X 4 14 [some (.int a1), some (.int v8), some (.int v9), none] [] (0, 0) M
    refine j_iload_n C0 (pc := 14) dX2_wordsOf_14 rfl ?_
    refine j_iconst C0 (pc := 15) dX2_wordsOf_15 (v := (4 : Int32)) (by decide) ?_
    refine X_irem C0 (pc := 16) dX2_wordsOf_16 h (fun h => ?_)
    refine j_if_le C0 (pc := 17) (tgt := 24) dX2_wordsOf_17 (by decide) (fun hc => ?_) (fun hc => ?_)
    · replace h := (X_if h).1 hc
      refine j_iconst C0 (pc := 24) dX2_wordsOf_24 (v := (0 : Int32)) (by decide) ?_
      exact j_J.wq (hk25 a1 v9 (0 : Int32) M h) (And.intro rfl (And.intro rfl (trivial)))
    · replace h := (X_if h).2 hc
      refine j_iconst C0 (pc := 20) dX2_wordsOf_20 (v := (1 : Int32)) (by decide) ?_
      refine j_goto C0 (pc := 21) (tgt := 25) dX2_wordsOf_21 (by decide) ?_
      exact j_J.wq (hk25 a1 v9 (1 : Int32) M h) (And.intro rfl (And.intro rfl (trivial)))
theorem dX3_wholeLong_0 : decode cX3_wholeLong 0 = .ok (.aload_n 0, 1) := by decide +kernel
theorem dX3_wholeLong_1 : decode cX3_wholeLong 1 = .ok (.getfield 87, 3) := by decide +kernel
theorem dX3_wholeLong_4 : decode cX3_wholeLong 4 = .ok (.iload_n 1, 1) := by decide +kernel
theorem dX3_wholeLong_5 : decode cX3_wholeLong 5 = .ok (.invokestatic 176, 3) := by decide +kernel
theorem dX3_wholeLong_8 : decode cX3_wholeLong 8 = .ok (.lreturn, 1) := by decide +kernel
noncomputable def F_X3_wholeLong (a0 : Nat) (a1 : Int32) (M : m_M) : Option (Int64 × m_M) :=
  x_gI 3 M a0 3 fun v1 =>
  x_bd (F_X10_wholeLong v1 a1 M) fun v2 M1 =>
  some (v2, M1)
set_option maxHeartbeats 4000000 in
theorem K_X3_wholeLong (a0 : Nat) (a1 : Int32) (M : m_M) (Φ : Option Value → m_M → Prop) (h : m_ok e_L Φ (F_X3_wholeLong a0 a1 M)) : j_Ct yX3_wholeLong cX3_wholeLong 2 (some .long) 2 0 0 [.ref a0, .int a1] M Φ := by
  refine j_Ct.of (by decide +kernel) (Nat.le_of_ble_eq_true rfl) fun X C => ?_
  have C0 := C.1
  show j_J X 2 0 [some (.ref a0), some (.int a1)] [] (0, 0) M
  unfold F_X3_wholeLong at h
  refine j_aload_n C0 (pc := 0) dX3_wholeLong_0 rfl ?_
  refine X_gI C0 (pc := 1) f_Land_87_3 rfl dX3_wholeLong_1 h (fun v1 h => ?_)
  refine j_iload_n C0 (pc := 4) dX3_wholeLong_4 rfl ?_
  refine X_cS C0 (pc := 5) (e' := e_L) (as := [.int v1, .int a1]) (rest := []) (s' := fun w => .long w :: []) (g' := (0, 0)) s_Land_176 (fun Ψ hΨ => K_X10_wholeLong v1 a1 M Ψ hΨ) rfl rfl (fun _ => rfl) (by decide) (by decide) rfl (Nat.le_of_ble_eq_true rfl) dX3_wholeLong_5 h (fun v2 M1 h => ?_)
  exact j_lret C rfl h dX3_wholeLong_8 (by decide)
theorem dX2_longOf_0 : decode cX2_longOf 0 = .ok (.aload_n 1, 1) := by decide +kernel
theorem dX2_longOf_1 : decode cX2_longOf 1 = .ok (.iload_n 2, 1) := by decide +kernel
theorem dX2_longOf_2 : decode cX2_longOf 2 = .ok (.iconst 2, 1) := by decide +kernel
theorem dX2_longOf_3 : decode cX2_longOf 3 = .ok (.idiv, 1) := by decide +kernel
theorem dX2_longOf_4 : decode cX2_longOf 4 = .ok (.bipush 16, 2) := by decide +kernel
theorem dX2_longOf_6 : decode cX2_longOf 6 = .ok (.imul, 1) := by decide +kernel
theorem dX2_longOf_7 : decode cX2_longOf 7 = .ok (.iload_n 3, 1) := by decide +kernel
theorem dX2_longOf_8 : decode cX2_longOf 8 = .ok (.iadd, 1) := by decide +kernel
theorem dX2_longOf_9 : decode cX2_longOf 9 = .ok (.laload, 1) := by decide +kernel
theorem dX2_longOf_10 : decode cX2_longOf 10 = .ok (.lstore 4, 2) := by decide +kernel
theorem dX2_longOf_12 : decode cX2_longOf 12 = .ok (.iload_n 2, 1) := by decide +kernel
theorem dX2_longOf_13 : decode cX2_longOf 13 = .ok (.iconst 2, 1) := by decide +kernel
theorem dX2_longOf_14 : decode cX2_longOf 14 = .ok (.irem, 1) := by decide +kernel
theorem dX2_longOf_15 : decode cX2_longOf 15 = .ok (.ifCond .ne 8, 3) := by decide +kernel
theorem dX2_longOf_18 : decode cX2_longOf 18 = .ok (.lload 4, 2) := by decide +kernel
theorem dX2_longOf_20 : decode cX2_longOf 20 = .ok (.goto 18, 3) := by decide +kernel
theorem dX2_longOf_23 : decode cX2_longOf 23 = .ok (.lload 4, 2) := by decide +kernel
theorem dX2_longOf_25 : decode cX2_longOf 25 = .ok (.ldc2_w 130, 3) := by decide +kernel
theorem dX2_longOf_28 : decode cX2_longOf 28 = .ok (.lxor, 1) := by decide +kernel
theorem dX2_longOf_29 : decode cX2_longOf 29 = .ok (.aload_n 0, 1) := by decide +kernel
theorem dX2_longOf_30 : decode cX2_longOf 30 = .ok (.getfield 38, 3) := by decide +kernel
theorem dX2_longOf_33 : decode cX2_longOf 33 = .ok (.iload_n 3, 1) := by decide +kernel
theorem dX2_longOf_34 : decode cX2_longOf 34 = .ok (.invokevirtual 132, 3) := by decide +kernel
theorem dX2_longOf_37 : decode cX2_longOf 37 = .ok (.land, 1) := by decide +kernel
theorem dX2_longOf_38 : decode cX2_longOf 38 = .ok (.lreturn, 1) := by decide +kernel
noncomputable def F_X2_longOf (a0 : Nat) (a1 : Nat) (a2 : Int32) (a3 : Int32) (M : m_M) : Option (Int64 × m_M) :=
  x_nz (2 : Int32) <|
  x_aL M a1 (((a2 / (2 : Int32)) * (16 : Int32)) + a3) fun v1 =>
  x_nz (2 : Int32) <|
  if (a2 - a2 / (2 : Int32) * (2 : Int32)) = 0 then (
    some (v1, M)
  ) else
  x_gN 2 M a0 5 fun v2 =>
  x_cV 3 M v2 (F_X3_wholeLong v2 a3 M) fun v3 M1 =>
  some ((v1 ^^^ (-1 : Int64)) &&& v3, M1)
set_option maxHeartbeats 4000000 in
theorem K_X2_longOf (a0 : Nat) (a1 : Nat) (a2 : Int32) (a3 : Int32) (M : m_M) (Φ : Option Value → m_M → Prop) (h : m_ok e_L Φ (F_X2_longOf a0 a1 a2 a3 M)) : j_Ct yX2_longOf cX2_longOf 6 (some .long) 3 0 0 [.ref a0, .ref a1, .int a2, .int a3] M Φ := by
  refine j_Ct.of (by decide +kernel) (Nat.le_of_ble_eq_true rfl) fun X C => ?_
  have C0 := C.1
  show j_J X 6 0 [some (.ref a0), some (.ref a1), some (.int a2), some (.int a3), none, none] [] (0, 0) M
  unfold F_X2_longOf at h
  refine j_aload_n C0 (pc := 0) dX2_longOf_0 rfl ?_
  refine j_iload_n C0 (pc := 1) dX2_longOf_1 rfl ?_
  refine j_iconst C0 (pc := 2) dX2_longOf_2 (v := (2 : Int32)) (by decide) ?_
  refine X_idiv C0 (pc := 3) dX2_longOf_3 h (fun h => ?_)
  refine j_bipush C0 (pc := 4) dX2_longOf_4 (v := (16 : Int32)) (by decide) ?_
  refine j_imul C0 (pc := 6) dX2_longOf_6 ?_
  refine j_iload_n C0 (pc := 7) dX2_longOf_7 rfl ?_
  refine j_iadd C0 (pc := 8) dX2_longOf_8 ?_
  refine X_lald C0 (pc := 9) dX2_longOf_9 h (fun v1 h => ?_)
  refine j_lstore C0 (pc := 10) dX2_longOf_10 (Nat.le_of_ble_eq_true rfl) ?_
  show j_J X 6 12 [some (.ref a0), some (.ref a1), some (.int a2), some (.int a3), some (.long v1), none] [] (0, 0) M
  refine j_iload_n C0 (pc := 12) dX2_longOf_12 rfl ?_
  refine j_iconst C0 (pc := 13) dX2_longOf_13 (v := (2 : Int32)) (by decide) ?_
  refine X_irem C0 (pc := 14) dX2_longOf_14 h (fun h => ?_)
  refine j_if_ne C0 (pc := 15) (tgt := 23) dX2_longOf_15 (by decide) (fun hc => ?_) (fun hc => ?_)
  · replace h := (X_if h).2 hc
    refine j_lload C0 (pc := 23) dX2_longOf_23 rfl ?_
    refine j_ldc2 C0 (pc := 25) (v := (-1 : Int64)) (j_c6 35 (by decide +kernel)) dX2_longOf_25 ?_
    refine j_lxor C0 (pc := 28) dX2_longOf_28 ?_
    refine j_aload_n C0 (pc := 29) dX2_longOf_29 rfl ?_
    refine X_gN C0 (pc := 30) f_Finder_38_2 rfl dX2_longOf_30 h (fun v2 h => ?_)
    refine j_iload_n C0 (pc := 33) dX2_longOf_33 rfl ?_
    refine X_cV C0 (pc := 34) (e' := e_L) (as := [.int a3]) (rest := [.long (v1 ^^^ (-1 : Int64))]) (s' := fun w => .long w :: [.long (v1 ^^^ (-1 : Int64))]) (g' := (0, 0)) v_Finder_132_3 (fun Ψ hΨ => K_X3_wholeLong v2 a3 M Ψ hΨ) rfl rfl (fun _ => rfl) (by decide) (by decide) rfl (Nat.le_of_ble_eq_true rfl) dX2_longOf_34 h (fun v3 M1 h => ?_)
    refine j_land C0 (pc := 37) dX2_longOf_37 ?_
    exact j_lret C rfl h dX2_longOf_38 (by decide)
  · replace h := (X_if h).1 hc
    refine j_lload C0 (pc := 18) dX2_longOf_18 rfl ?_
    refine j_goto C0 (pc := 20) (tgt := 38) dX2_longOf_20 (by decide) ?_
    exact j_lret C rfl h dX2_longOf_38 (by decide)
theorem dX2_isApart_0 : decode cX2_isApart 0 = .ok (.iconst 0, 1) := by decide +kernel
theorem dX2_isApart_1 : decode cX2_isApart 1 = .ok (.istore 4, 2) := by decide +kernel
theorem dX2_isApart_3 : decode cX2_isApart 3 = .ok (.iload 4, 2) := by decide +kernel
theorem dX2_isApart_5 : decode cX2_isApart 5 = .ok (.aload_n 0, 1) := by decide +kernel
theorem dX2_isApart_6 : decode cX2_isApart 6 = .ok (.getfield 38, 3) := by decide +kernel
theorem dX2_isApart_9 : decode cX2_isApart 9 = .ok (.getfield 123, 3) := by decide +kernel
theorem dX2_isApart_12 : decode cX2_isApart 12 = .ok (.if_icmp .ge 51, 3) := by decide +kernel
theorem dX2_isApart_15 : decode cX2_isApart 15 = .ok (.iload 4, 2) := by decide +kernel
theorem dX2_isApart_17 : decode cX2_isApart 17 = .ok (.bipush 16, 2) := by decide +kernel
theorem dX2_isApart_19 : decode cX2_isApart 19 = .ok (.if_icmp .ge 44, 3) := by decide +kernel
theorem dX2_isApart_22 : decode cX2_isApart 22 = .ok (.aload_n 1, 1) := by decide +kernel
theorem dX2_isApart_23 : decode cX2_isApart 23 = .ok (.getfield 136, 3) := by decide +kernel
theorem dX2_isApart_26 : decode cX2_isApart 26 = .ok (.iload 4, 2) := by decide +kernel
theorem dX2_isApart_28 : decode cX2_isApart 28 = .ok (.laload, 1) := by decide +kernel
theorem dX2_isApart_29 : decode cX2_isApart 29 = .ok (.lconst 0, 1) := by decide +kernel
theorem dX2_isApart_30 : decode cX2_isApart 30 = .ok (.lcmp, 1) := by decide +kernel
theorem dX2_isApart_31 : decode cX2_isApart 31 = .ok (.ifCond .eq 26, 3) := by decide +kernel
theorem dX2_isApart_34 : decode cX2_isApart 34 = .ok (.aload_n 1, 1) := by decide +kernel
theorem dX2_isApart_35 : decode cX2_isApart 35 = .ok (.getfield 136, 3) := by decide +kernel
theorem dX2_isApart_38 : decode cX2_isApart 38 = .ok (.iload 4, 2) := by decide +kernel
theorem dX2_isApart_40 : decode cX2_isApart 40 = .ok (.laload, 1) := by decide +kernel
theorem dX2_isApart_41 : decode cX2_isApart 41 = .ok (.aload_n 0, 1) := by decide +kernel
theorem dX2_isApart_42 : decode cX2_isApart 42 = .ok (.aload_n 2, 1) := by decide +kernel
theorem dX2_isApart_43 : decode cX2_isApart 43 = .ok (.iload_n 3, 1) := by decide +kernel
theorem dX2_isApart_44 : decode cX2_isApart 44 = .ok (.iload 4, 2) := by decide +kernel
theorem dX2_isApart_46 : decode cX2_isApart 46 = .ok (.invokevirtual 139, 3) := by decide +kernel
theorem dX2_isApart_49 : decode cX2_isApart 49 = .ok (.land, 1) := by decide +kernel
theorem dX2_isApart_50 : decode cX2_isApart 50 = .ok (.lconst 0, 1) := by decide +kernel
theorem dX2_isApart_51 : decode cX2_isApart 51 = .ok (.lcmp, 1) := by decide +kernel
theorem dX2_isApart_52 : decode cX2_isApart 52 = .ok (.ifCond .eq 5, 3) := by decide +kernel
theorem dX2_isApart_55 : decode cX2_isApart 55 = .ok (.iconst 0, 1) := by decide +kernel
theorem dX2_isApart_56 : decode cX2_isApart 56 = .ok (.ireturn, 1) := by decide +kernel
theorem dX2_isApart_57 : decode cX2_isApart 57 = .ok (.iinc 4 1, 3) := by decide +kernel
theorem dX2_isApart_60 : decode cX2_isApart 60 = .ok (.goto (-57), 3) := by decide +kernel
theorem dX2_isApart_63 : decode cX2_isApart 63 = .ok (.iconst 1, 1) := by decide +kernel
theorem dX2_isApart_64 : decode cX2_isApart 64 = .ok (.ireturn, 1) := by decide +kernel
noncomputable def F_X2_isApart_3 : Nat → Nat → Nat → Nat → Int32 → Int32 → m_M → Option (Int32 × m_M)
  | 0, _, _, _, _, _, _ => none
  | n + 1, v1, v2, v3, v4, v5, M =>
    x_gN 2 M v1 5 fun v6 =>
    x_gI 3 M v6 4 fun v7 =>
    if v7 ≤ v5 then (
      some ((1 : Int32), M)
    ) else
    if (16 : Int32) ≤ v5 then (
      some ((1 : Int32), M)
    ) else
    m_let (fun (v8 : Nat) (v9 : Nat) (v10 : Nat) (v11 : Int32) (v12 : Int32) (M1 : m_M) =>
      m_let (v12 + (1 : Int32)) fun v13 =>
      F_X2_isApart_3 n v8 v9 v10 v11 v13 M1
    ) fun (k57 : Nat → Nat → Nat → Int32 → Int32 → m_M → Option (Int32 × m_M)) =>
    x_gN 8 M v2 0 fun v14 =>
    x_aL M v14 v5 fun v15 =>
    if (lg_cmp v15 (0 : Int64)) = 0 then (
      k57 v1 v2 v3 v4 v5 M
    ) else
    x_gN 8 M v2 0 fun v16 =>
    x_aL M v16 v5 fun v17 =>
    x_cV 2 M v1 (F_X2_longOf v1 v3 v4 v5 M) fun v18 M2 =>
    if (lg_cmp (v17 &&& v18) (0 : Int64)) = 0 then (
      k57 v1 v2 v3 v4 v5 M2
    ) else
    some ((0 : Int32), M2)
noncomputable def F_X2_isApart (a0 : Nat) (a1 : Nat) (a2 : Nat) (a3 : Int32) (M : m_M) : Option (Int32 × m_M) :=
  F_X2_isApart_3 m_FU a0 a1 a2 a3 (0 : Int32) M
set_option maxHeartbeats 4000000 in
theorem L_X2_isApart_3 {X : j_X} {Φ : Option Value → m_M → Prop} (C : j_C X yX2_isApart cX2_isApart 5 (some .boolean) 4 0 0 Φ) : ∀ (n : Nat) (v1 : Nat) (v2 : Nat) (v3 : Nat) (v4 : Int32) (v5 : Int32) (M : m_M), m_ok e_I Φ (F_X2_isApart_3 n v1 v2 v3 v4 v5 M) → j_J X 5 3 [some (.ref v1), some (.ref v2), some (.ref v3), some (.int v4), some (.int v5)] [] (0, 0) M := by
  have C0 := C.1
  intro n
  induction n with
  | zero => intro v1 v2 v3 v4 v5 M h; exact False.elim h
  | succ n ih =>
    intro v1 v2 v3 v4 v5 M h
    rw [F_X2_isApart_3] at h
    refine j_iload C0 (pc := 3) dX2_isApart_3 rfl ?_
    refine j_aload_n C0 (pc := 5) dX2_isApart_5 rfl ?_
    refine X_gN C0 (pc := 6) f_Finder_38_2 rfl dX2_isApart_6 h (fun v6 h => ?_)
    refine X_gI C0 (pc := 9) f_Finder_123_3 rfl dX2_isApart_9 h (fun v7 h => ?_)
    refine j_icmp_ge C0 (pc := 12) (tgt := 63) dX2_isApart_12 (by decide) (fun hc => ?_) (fun hc => ?_)
    · replace h := (X_if h).1 hc
      refine j_iconst C0 (pc := 63) dX2_isApart_63 (v := (1 : Int32)) (by decide) ?_
      exact j_zret C rfl (by decide) h dX2_isApart_64 (by decide)
    · replace h := (X_if h).2 hc
      refine j_iload C0 (pc := 15) dX2_isApart_15 rfl ?_
      refine j_bipush C0 (pc := 17) dX2_isApart_17 (v := (16 : Int32)) (by decide) ?_
      refine j_icmp_ge C0 (pc := 19) (tgt := 63) dX2_isApart_19 (by decide) (fun hc => ?_) (fun hc => ?_)
      · replace h := (X_if h).1 hc
        refine j_iconst C0 (pc := 63) dX2_isApart_63 (v := (1 : Int32)) (by decide) ?_
        exact j_zret C rfl (by decide) h dX2_isApart_64 (by decide)
      · replace h := (X_if h).2 hc
        refine X_join (fun (kj : Nat → Nat → Nat → Int32 → Int32 → m_M → Option (Int32 × m_M)) => ∀ (p0 : Nat) (p1 : Nat) (p2 : Nat) (p3 : Int32) (p4 : Int32) (M : m_M), m_ok e_I Φ (kj p0 p1 p2 p3 p4 M) → j_J X 5 57 [some (.ref p0), some (.ref p1), some (.ref p2), some (.int p3), some (.int p4)] [] (0, 0) M) h (fun v8 v9 v10 v11 v12 M1 h => ?_) (fun k57 hk57 h => ?_)
        · refine j_iinc C0 (pc := 57) dX2_isApart_57 (v := v12 + (1 : Int32)) rfl (Nat.le_of_ble_eq_true rfl) (by rfl) ?_
          refine X_let (G := fun w => j_J X 5 60 [some (.ref v8), some (.ref v9), some (.ref v10), some (.int v11), some (.int w)] [] (0, 0) M1) h (fun v13 h => ?_)
          refine j_goto C0 (pc := 60) (tgt := 3) dX2_isApart_60 (by decide) ?_
          exact j_J.wq (ih v8 v9 v10 v11 v13 M1 h) (And.intro rfl (And.intro rfl (And.intro rfl (And.intro rfl (And.intro rfl (trivial))))))
        · refine j_aload_n C0 (pc := 22) dX2_isApart_22 rfl ?_
          refine X_gN C0 (pc := 23) f_Finder_136_8 rfl dX2_isApart_23 h (fun v14 h => ?_)
          refine j_iload C0 (pc := 26) dX2_isApart_26 rfl ?_
          refine X_lald C0 (pc := 28) dX2_isApart_28 h (fun v15 h => ?_)
          refine j_lconst C0 (pc := 29) dX2_isApart_29 (v := (0 : Int64)) (by decide) ?_
          refine j_lcmp C0 (pc := 30) dX2_isApart_30 ?_
          refine j_if_eq C0 (pc := 31) (tgt := 57) dX2_isApart_31 (by decide) (fun hc => ?_) (fun hc => ?_)
          · replace h := (X_if h).1 hc
            exact j_J.wq (hk57 v1 v2 v3 v4 v5 M h) (And.intro rfl (And.intro rfl (And.intro rfl (And.intro rfl (And.intro rfl (trivial))))))
          · replace h := (X_if h).2 hc
            refine j_aload_n C0 (pc := 34) dX2_isApart_34 rfl ?_
            refine X_gN C0 (pc := 35) f_Finder_136_8 rfl dX2_isApart_35 h (fun v16 h => ?_)
            refine j_iload C0 (pc := 38) dX2_isApart_38 rfl ?_
            refine X_lald C0 (pc := 40) dX2_isApart_40 h (fun v17 h => ?_)
            refine j_aload_n C0 (pc := 41) dX2_isApart_41 rfl ?_
            refine j_aload_n C0 (pc := 42) dX2_isApart_42 rfl ?_
            refine j_iload_n C0 (pc := 43) dX2_isApart_43 rfl ?_
            refine j_iload C0 (pc := 44) dX2_isApart_44 rfl ?_
            refine X_cV C0 (pc := 46) (e' := e_L) (as := [.ref v3, .int v4, .int v5]) (rest := [.long v17]) (s' := fun w => .long w :: [.long v17]) (g' := (0, 0)) v_Finder_139_2 (fun Ψ hΨ => K_X2_longOf v1 v3 v4 v5 M Ψ hΨ) rfl rfl (fun _ => rfl) (by decide) (by decide) rfl (Nat.le_of_ble_eq_true rfl) dX2_isApart_46 h (fun v18 M2 h => ?_)
            refine j_land C0 (pc := 49) dX2_isApart_49 ?_
            refine j_lconst C0 (pc := 50) dX2_isApart_50 (v := (0 : Int64)) (by decide) ?_
            refine j_lcmp C0 (pc := 51) dX2_isApart_51 ?_
            refine j_if_eq C0 (pc := 52) (tgt := 57) dX2_isApart_52 (by decide) (fun hc => ?_) (fun hc => ?_)
            · replace h := (X_if h).1 hc
              exact j_J.wq (hk57 v1 v2 v3 v4 v5 M2 h) (And.intro rfl (And.intro rfl (And.intro rfl (And.intro rfl (And.intro rfl (trivial))))))
            · replace h := (X_if h).2 hc
              refine j_iconst C0 (pc := 55) dX2_isApart_55 (v := (0 : Int32)) (by decide) ?_
              exact j_zret C rfl (by decide) h dX2_isApart_56 (by decide)
set_option maxHeartbeats 4000000 in
theorem K_X2_isApart (a0 : Nat) (a1 : Nat) (a2 : Nat) (a3 : Int32) (M : m_M) (Φ : Option Value → m_M → Prop) (h : m_ok e_I Φ (F_X2_isApart a0 a1 a2 a3 M)) : j_Ct yX2_isApart cX2_isApart 5 (some .boolean) 4 0 0 [.ref a0, .ref a1, .ref a2, .int a3] M Φ := by
  refine j_Ct.of (by decide +kernel) (Nat.le_of_ble_eq_true rfl) fun X C => ?_
  have C0 := C.1
  show j_J X 5 0 [some (.ref a0), some (.ref a1), some (.ref a2), some (.int a3), none] [] (0, 0) M
  unfold F_X2_isApart at h
  refine j_iconst C0 (pc := 0) dX2_isApart_0 (v := (0 : Int32)) (by decide) ?_
  refine j_istore C0 (pc := 1) dX2_isApart_1 (Nat.le_of_ble_eq_true rfl) ?_
  show j_J X 5 3 [some (.ref a0), some (.ref a1), some (.ref a2), some (.int a3), some (.int (0 : Int32))] [] (0, 0) M
  exact j_J.wq (L_X2_isApart_3 C m_FU a0 a1 a2 a3 (0 : Int32) M h) (And.intro rfl (And.intro rfl (And.intro rfl (And.intro rfl (And.intro rfl (trivial))))))
theorem dX2_keepBest_0 : decode cX2_keepBest 0 = .ok (.aload_n 0, 1) := by decide +kernel
theorem dX2_keepBest_1 : decode cX2_keepBest 1 = .ok (.iload_n 1, 1) := by decide +kernel
theorem dX2_keepBest_2 : decode cX2_keepBest 2 = .ok (.putfield 97, 3) := by decide +kernel
theorem dX2_keepBest_5 : decode cX2_keepBest 5 = .ok (.aload_n 0, 1) := by decide +kernel
theorem dX2_keepBest_6 : decode cX2_keepBest 6 = .ok (.iload_n 2, 1) := by decide +kernel
theorem dX2_keepBest_7 : decode cX2_keepBest 7 = .ok (.putfield 100, 3) := by decide +kernel
theorem dX2_keepBest_10 : decode cX2_keepBest 10 = .ok (.aload_n 0, 1) := by decide +kernel
theorem dX2_keepBest_11 : decode cX2_keepBest 11 = .ok (.iload_n 3, 1) := by decide +kernel
theorem dX2_keepBest_12 : decode cX2_keepBest 12 = .ok (.putfield 103, 3) := by decide +kernel
theorem dX2_keepBest_15 : decode cX2_keepBest 15 = .ok (.aload_n 0, 1) := by decide +kernel
theorem dX2_keepBest_16 : decode cX2_keepBest 16 = .ok (.iload 4, 2) := by decide +kernel
theorem dX2_keepBest_18 : decode cX2_keepBest 18 = .ok (.putfield 42, 3) := by decide +kernel
theorem dX2_keepBest_21 : decode cX2_keepBest 21 = .ok (.return_, 1) := by decide +kernel
noncomputable def F_X2_keepBest (a0 : Nat) (a1 : Int32) (a2 : Int32) (a3 : Int32) (a4 : Int32) (M : m_M) : Option (Unit × m_M) :=
  x_pI 2 M a0 1 a1 fun M1 =>
  x_pI 2 M1 a0 2 a2 fun M2 =>
  x_pI 2 M2 a0 3 a3 fun M3 =>
  x_pI 2 M3 a0 0 a4 fun M4 =>
  some ((), M4)
set_option maxHeartbeats 4000000 in
theorem K_X2_keepBest (a0 : Nat) (a1 : Int32) (a2 : Int32) (a3 : Int32) (a4 : Int32) (M : m_M) (Φ : Option Value → m_M → Prop) (h : m_ok e_V Φ (F_X2_keepBest a0 a1 a2 a3 a4 M)) : j_Ct yX2_keepBest cX2_keepBest 5 none 1 0 0 [.ref a0, .int a1, .int a2, .int a3, .int a4] M Φ := by
  refine j_Ct.of (by decide +kernel) (Nat.le_of_ble_eq_true rfl) fun X C => ?_
  have C0 := C.1
  show j_J X 5 0 [some (.ref a0), some (.int a1), some (.int a2), some (.int a3), some (.int a4)] [] (0, 0) M
  unfold F_X2_keepBest at h
  refine j_aload_n C0 (pc := 0) dX2_keepBest_0 rfl ?_
  refine j_iload_n C0 (pc := 1) dX2_keepBest_1 rfl ?_
  refine X_pI C0 (pc := 2) f_Finder_97_2 rfl rfl dX2_keepBest_2 h (fun M1 h => ?_)
  refine j_aload_n C0 (pc := 5) dX2_keepBest_5 rfl ?_
  refine j_iload_n C0 (pc := 6) dX2_keepBest_6 rfl ?_
  refine X_pI C0 (pc := 7) f_Finder_100_2 rfl rfl dX2_keepBest_7 h (fun M2 h => ?_)
  refine j_aload_n C0 (pc := 10) dX2_keepBest_10 rfl ?_
  refine j_iload_n C0 (pc := 11) dX2_keepBest_11 rfl ?_
  refine X_pI C0 (pc := 12) f_Finder_103_2 rfl rfl dX2_keepBest_12 h (fun M3 h => ?_)
  refine j_aload_n C0 (pc := 15) dX2_keepBest_15 rfl ?_
  refine j_iload C0 (pc := 16) dX2_keepBest_16 rfl ?_
  refine X_pI C0 (pc := 18) f_Finder_42_2 rfl rfl dX2_keepBest_18 h (fun M4 h => ?_)
  exact j_vret C rfl h dX2_keepBest_21 (by decide)
theorem dX2_findAlone_0 : decode cX2_findAlone 0 = .ok (.iconst 0, 1) := by decide +kernel
theorem dX2_findAlone_1 : decode cX2_findAlone 1 = .ok (.istore_n 2, 1) := by decide +kernel
theorem dX2_findAlone_2 : decode cX2_findAlone 2 = .ok (.iload_n 2, 1) := by decide +kernel
theorem dX2_findAlone_3 : decode cX2_findAlone 3 = .ok (.sipush 800, 3) := by decide +kernel
theorem dX2_findAlone_6 : decode cX2_findAlone 6 = .ok (.if_icmp .ge 75, 3) := by decide +kernel
theorem dX2_findAlone_9 : decode cX2_findAlone 9 = .ok (.aload_n 0, 1) := by decide +kernel
theorem dX2_findAlone_10 : decode cX2_findAlone 10 = .ok (.getfield 38, 3) := by decide +kernel
theorem dX2_findAlone_13 : decode cX2_findAlone 13 = .ok (.iload_n 2, 1) := by decide +kernel
theorem dX2_findAlone_14 : decode cX2_findAlone 14 = .ok (.iconst 2, 1) := by decide +kernel
theorem dX2_findAlone_15 : decode cX2_findAlone 15 = .ok (.idiv, 1) := by decide +kernel
theorem dX2_findAlone_16 : decode cX2_findAlone 16 = .ok (.invokevirtual 73, 3) := by decide +kernel
theorem dX2_findAlone_19 : decode cX2_findAlone 19 = .ok (.ifCond .eq 56, 3) := by decide +kernel
theorem dX2_findAlone_22 : decode cX2_findAlone 22 = .ok (.iload_n 2, 1) := by decide +kernel
theorem dX2_findAlone_23 : decode cX2_findAlone 23 = .ok (.invokestatic 77, 3) := by decide +kernel
theorem dX2_findAlone_26 : decode cX2_findAlone 26 = .ok (.aload_n 0, 1) := by decide +kernel
theorem dX2_findAlone_27 : decode cX2_findAlone 27 = .ok (.getfield 42, 3) := by decide +kernel
theorem dX2_findAlone_30 : decode cX2_findAlone 30 = .ok (.if_icmp .ge 45, 3) := by decide +kernel
theorem dX2_findAlone_33 : decode cX2_findAlone 33 = .ok (.aload_n 0, 1) := by decide +kernel
theorem dX2_findAlone_34 : decode cX2_findAlone 34 = .ok (.aload_n 0, 1) := by decide +kernel
theorem dX2_findAlone_35 : decode cX2_findAlone 35 = .ok (.getfield 31, 3) := by decide +kernel
theorem dX2_findAlone_38 : decode cX2_findAlone 38 = .ok (.aload_n 0, 1) := by decide +kernel
theorem dX2_findAlone_39 : decode cX2_findAlone 39 = .ok (.getfield 15, 3) := by decide +kernel
theorem dX2_findAlone_42 : decode cX2_findAlone 42 = .ok (.iload_n 2, 1) := by decide +kernel
theorem dX2_findAlone_43 : decode cX2_findAlone 43 = .ok (.invokevirtual 81, 3) := by decide +kernel
theorem dX2_findAlone_46 : decode cX2_findAlone 46 = .ok (.ifCond .eq 29, 3) := by decide +kernel
theorem dX2_findAlone_49 : decode cX2_findAlone 49 = .ok (.aload_n 0, 1) := by decide +kernel
theorem dX2_findAlone_50 : decode cX2_findAlone 50 = .ok (.aload_n 1, 1) := by decide +kernel
theorem dX2_findAlone_51 : decode cX2_findAlone 51 = .ok (.aload_n 0, 1) := by decide +kernel
theorem dX2_findAlone_52 : decode cX2_findAlone 52 = .ok (.getfield 15, 3) := by decide +kernel
theorem dX2_findAlone_55 : decode cX2_findAlone 55 = .ok (.iload_n 2, 1) := by decide +kernel
theorem dX2_findAlone_56 : decode cX2_findAlone 56 = .ok (.iconst 1, 1) := by decide +kernel
theorem dX2_findAlone_57 : decode cX2_findAlone 57 = .ok (.ixor, 1) := by decide +kernel
theorem dX2_findAlone_58 : decode cX2_findAlone 58 = .ok (.invokevirtual 81, 3) := by decide +kernel
theorem dX2_findAlone_61 : decode cX2_findAlone 61 = .ok (.ifCond .eq 14, 3) := by decide +kernel
theorem dX2_findAlone_64 : decode cX2_findAlone 64 = .ok (.aload_n 0, 1) := by decide +kernel
theorem dX2_findAlone_65 : decode cX2_findAlone 65 = .ok (.iconst 0, 1) := by decide +kernel
theorem dX2_findAlone_66 : decode cX2_findAlone 66 = .ok (.iload_n 2, 1) := by decide +kernel
theorem dX2_findAlone_67 : decode cX2_findAlone 67 = .ok (.iconst (-1), 1) := by decide +kernel
theorem dX2_findAlone_68 : decode cX2_findAlone 68 = .ok (.iload_n 2, 1) := by decide +kernel
theorem dX2_findAlone_69 : decode cX2_findAlone 69 = .ok (.invokestatic 77, 3) := by decide +kernel
theorem dX2_findAlone_72 : decode cX2_findAlone 72 = .ok (.invokevirtual 85, 3) := by decide +kernel
theorem dX2_findAlone_75 : decode cX2_findAlone 75 = .ok (.iinc 2 1, 3) := by decide +kernel
theorem dX2_findAlone_78 : decode cX2_findAlone 78 = .ok (.goto (-76), 3) := by decide +kernel
theorem dX2_findAlone_81 : decode cX2_findAlone 81 = .ok (.return_, 1) := by decide +kernel
noncomputable def F_X2_findAlone_2 : Nat → Nat → Nat → Int32 → m_M → Option (Unit × m_M)
  | 0, _, _, _, _ => none
  | n + 1, v1, v2, v3, M =>
    if (800 : Int32) ≤ v3 then (
      some ((), M)
    ) else
    m_let (fun (v4 : Nat) (v5 : Nat) (v6 : Int32) (M1 : m_M) =>
      m_let (v6 + (1 : Int32)) fun v7 =>
      F_X2_findAlone_2 n v4 v5 v7 M1
    ) fun (k75 : Nat → Nat → Int32 → m_M → Option (Unit × m_M)) =>
    x_gN 2 M v1 5 fun v8 =>
    x_nz (2 : Int32) <|
    x_cV 3 M v8 (F_X3_isClause v8 (v3 / (2 : Int32)) M) fun v9 M2 =>
    if v9 = 0 then (
      k75 v1 v2 v3 M2
    ) else
    x_bd (F_X2_wordsOf v3 M2) fun v10 M3 =>
    x_gI 2 M3 v1 0 fun v11 =>
    if v11 ≤ v10 then (
      k75 v1 v2 v3 M3
    ) else
    x_gN 2 M3 v1 10 fun v12 =>
    x_gN 2 M3 v1 6 fun v13 =>
    x_cV 2 M3 v1 (F_X2_isApart v1 v12 v13 v3 M3) fun v14 M4 =>
    if v14 = 0 then (
      k75 v1 v2 v3 M4
    ) else
    x_gN 2 M4 v1 6 fun v15 =>
    x_cV 2 M4 v1 (F_X2_isApart v1 v2 v15 (v3 ^^^ (1 : Int32)) M4) fun v16 M5 =>
    if v16 = 0 then (
      k75 v1 v2 v3 M5
    ) else
    x_bd (F_X2_wordsOf v3 M5) fun v17 M6 =>
    x_cV 2 M6 v1 (F_X2_keepBest v1 (0 : Int32) v3 (-1 : Int32) v17 M6) fun _ M7 =>
    k75 v1 v2 v3 M7
noncomputable def F_X2_findAlone (a0 : Nat) (a1 : Nat) (M : m_M) : Option (Unit × m_M) :=
  F_X2_findAlone_2 m_FU a0 a1 (0 : Int32) M
set_option maxHeartbeats 4000000 in
theorem L_X2_findAlone_2 {X : j_X} {Φ : Option Value → m_M → Prop} (C : j_C X yX2_findAlone cX2_findAlone 3 none 5 0 0 Φ) : ∀ (n : Nat) (v1 : Nat) (v2 : Nat) (v3 : Int32) (M : m_M), m_ok e_V Φ (F_X2_findAlone_2 n v1 v2 v3 M) → j_J X 3 2 [some (.ref v1), some (.ref v2), some (.int v3)] [] (0, 0) M := by
  have C0 := C.1
  intro n
  induction n with
  | zero => intro v1 v2 v3 M h; exact False.elim h
  | succ n ih =>
    intro v1 v2 v3 M h
    rw [F_X2_findAlone_2] at h
    refine j_iload_n C0 (pc := 2) dX2_findAlone_2 rfl ?_
    refine j_sipush C0 (pc := 3) dX2_findAlone_3 (v := (800 : Int32)) (by decide) ?_
    refine j_icmp_ge C0 (pc := 6) (tgt := 81) dX2_findAlone_6 (by decide) (fun hc => ?_) (fun hc => ?_)
    · replace h := (X_if h).1 hc
      exact j_vret C rfl h dX2_findAlone_81 (by decide)
    · replace h := (X_if h).2 hc
      refine X_join (fun (kj : Nat → Nat → Int32 → m_M → Option (Unit × m_M)) => ∀ (p0 : Nat) (p1 : Nat) (p2 : Int32) (M : m_M), m_ok e_V Φ (kj p0 p1 p2 M) → j_J X 3 75 [some (.ref p0), some (.ref p1), some (.int p2)] [] (0, 0) M) h (fun v4 v5 v6 M1 h => ?_) (fun k75 hk75 h => ?_)
      · refine j_iinc C0 (pc := 75) dX2_findAlone_75 (v := v6 + (1 : Int32)) rfl (Nat.le_of_ble_eq_true rfl) (by rfl) ?_
        refine X_let (G := fun w => j_J X 3 78 [some (.ref v4), some (.ref v5), some (.int w)] [] (0, 0) M1) h (fun v7 h => ?_)
        refine j_goto C0 (pc := 78) (tgt := 2) dX2_findAlone_78 (by decide) ?_
        exact j_J.wq (ih v4 v5 v7 M1 h) (And.intro rfl (And.intro rfl (And.intro rfl (trivial))))
      · refine j_aload_n C0 (pc := 9) dX2_findAlone_9 rfl ?_
        refine X_gN C0 (pc := 10) f_Finder_38_2 rfl dX2_findAlone_10 h (fun v8 h => ?_)
        refine j_iload_n C0 (pc := 13) dX2_findAlone_13 rfl ?_
        refine j_iconst C0 (pc := 14) dX2_findAlone_14 (v := (2 : Int32)) (by decide) ?_
        refine X_idiv C0 (pc := 15) dX2_findAlone_15 h (fun h => ?_)
        refine X_cV C0 (pc := 16) (e' := e_I) (as := [.int (v3 / (2 : Int32))]) (rest := []) (s' := fun w => .int w :: []) (g' := (0, 0)) v_Finder_73_3 (fun Ψ hΨ => K_X3_isClause v8 (v3 / (2 : Int32)) M Ψ hΨ) rfl rfl (fun _ => rfl) (by decide) (by decide) rfl (Nat.le_of_ble_eq_true rfl) dX2_findAlone_16 h (fun v9 M2 h => ?_)
        refine j_if_eq C0 (pc := 19) (tgt := 75) dX2_findAlone_19 (by decide) (fun hc => ?_) (fun hc => ?_)
        · replace h := (X_if h).1 hc
          exact j_J.wq (hk75 v1 v2 v3 M2 h) (And.intro rfl (And.intro rfl (And.intro rfl (trivial))))
        · replace h := (X_if h).2 hc
          refine j_iload_n C0 (pc := 22) dX2_findAlone_22 rfl ?_
          refine X_cS C0 (pc := 23) (e' := e_I) (as := [.int v3]) (rest := []) (s' := fun w => .int w :: []) (g' := (0, 0)) s_Finder_77 (fun Ψ hΨ => K_X2_wordsOf v3 M2 Ψ hΨ) rfl rfl (fun _ => rfl) (by decide) (by decide) rfl (Nat.le_of_ble_eq_true rfl) dX2_findAlone_23 h (fun v10 M3 h => ?_)
          refine j_aload_n C0 (pc := 26) dX2_findAlone_26 rfl ?_
          refine X_gI C0 (pc := 27) f_Finder_42_2 rfl dX2_findAlone_27 h (fun v11 h => ?_)
          refine j_icmp_ge C0 (pc := 30) (tgt := 75) dX2_findAlone_30 (by decide) (fun hc => ?_) (fun hc => ?_)
          · replace h := (X_if h).1 hc
            exact j_J.wq (hk75 v1 v2 v3 M3 h) (And.intro rfl (And.intro rfl (And.intro rfl (trivial))))
          · replace h := (X_if h).2 hc
            refine j_aload_n C0 (pc := 33) dX2_findAlone_33 rfl ?_
            refine j_aload_n C0 (pc := 34) dX2_findAlone_34 rfl ?_
            refine X_gN C0 (pc := 35) f_Finder_31_2 rfl dX2_findAlone_35 h (fun v12 h => ?_)
            refine j_aload_n C0 (pc := 38) dX2_findAlone_38 rfl ?_
            refine X_gN C0 (pc := 39) f_Finder_15_2 rfl dX2_findAlone_39 h (fun v13 h => ?_)
            refine j_iload_n C0 (pc := 42) dX2_findAlone_42 rfl ?_
            refine X_cV C0 (pc := 43) (e' := e_I) (as := [.ref v12, .ref v13, .int v3]) (rest := []) (s' := fun w => .int w :: []) (g' := (0, 0)) v_Finder_81_2 (fun Ψ hΨ => K_X2_isApart v1 v12 v13 v3 M3 Ψ hΨ) rfl rfl (fun _ => rfl) (by decide) (by decide) rfl (Nat.le_of_ble_eq_true rfl) dX2_findAlone_43 h (fun v14 M4 h => ?_)
            refine j_if_eq C0 (pc := 46) (tgt := 75) dX2_findAlone_46 (by decide) (fun hc => ?_) (fun hc => ?_)
            · replace h := (X_if h).1 hc
              exact j_J.wq (hk75 v1 v2 v3 M4 h) (And.intro rfl (And.intro rfl (And.intro rfl (trivial))))
            · replace h := (X_if h).2 hc
              refine j_aload_n C0 (pc := 49) dX2_findAlone_49 rfl ?_
              refine j_aload_n C0 (pc := 50) dX2_findAlone_50 rfl ?_
              refine j_aload_n C0 (pc := 51) dX2_findAlone_51 rfl ?_
              refine X_gN C0 (pc := 52) f_Finder_15_2 rfl dX2_findAlone_52 h (fun v15 h => ?_)
              refine j_iload_n C0 (pc := 55) dX2_findAlone_55 rfl ?_
              refine j_iconst C0 (pc := 56) dX2_findAlone_56 (v := (1 : Int32)) (by decide) ?_
              refine j_ixor C0 (pc := 57) dX2_findAlone_57 ?_
              refine X_cV C0 (pc := 58) (e' := e_I) (as := [.ref v2, .ref v15, .int (v3 ^^^ (1 : Int32))]) (rest := []) (s' := fun w => .int w :: []) (g' := (0, 0)) v_Finder_81_2 (fun Ψ hΨ => K_X2_isApart v1 v2 v15 (v3 ^^^ (1 : Int32)) M4 Ψ hΨ) rfl rfl (fun _ => rfl) (by decide) (by decide) rfl (Nat.le_of_ble_eq_true rfl) dX2_findAlone_58 h (fun v16 M5 h => ?_)
              refine j_if_eq C0 (pc := 61) (tgt := 75) dX2_findAlone_61 (by decide) (fun hc => ?_) (fun hc => ?_)
              · replace h := (X_if h).1 hc
                exact j_J.wq (hk75 v1 v2 v3 M5 h) (And.intro rfl (And.intro rfl (And.intro rfl (trivial))))
              · replace h := (X_if h).2 hc
                refine j_aload_n C0 (pc := 64) dX2_findAlone_64 rfl ?_
                refine j_iconst C0 (pc := 65) dX2_findAlone_65 (v := (0 : Int32)) (by decide) ?_
                refine j_iload_n C0 (pc := 66) dX2_findAlone_66 rfl ?_
                refine j_iconst C0 (pc := 67) dX2_findAlone_67 (v := (-1 : Int32)) (by decide) ?_
                refine j_iload_n C0 (pc := 68) dX2_findAlone_68 rfl ?_
                refine X_cS C0 (pc := 69) (e' := e_I) (as := [.int v3]) (rest := [.int (-1 : Int32), .int v3, .int (0 : Int32), .ref v1]) (s' := fun w => .int w :: [.int (-1 : Int32), .int v3, .int (0 : Int32), .ref v1]) (g' := (0, 0)) s_Finder_77 (fun Ψ hΨ => K_X2_wordsOf v3 M5 Ψ hΨ) rfl rfl (fun _ => rfl) (by decide) (by decide) rfl (Nat.le_of_ble_eq_true rfl) dX2_findAlone_69 h (fun v17 M6 h => ?_)
                refine X_cV C0 (pc := 72) (e' := e_V) (as := [.int (0 : Int32), .int v3, .int (-1 : Int32), .int v17]) (rest := []) (s' := fun _ => []) (g' := (0, 0)) v_Finder_85_2 (fun Ψ hΨ => K_X2_keepBest v1 (0 : Int32) v3 (-1 : Int32) v17 M6 Ψ hΨ) rfl rfl (fun _ => rfl) (by decide) (by decide) rfl (Nat.le_of_ble_eq_true rfl) dX2_findAlone_72 h (fun _ M7 h => ?_)
                exact j_J.wq (hk75 v1 v2 v3 M7 h) (And.intro rfl (And.intro rfl (And.intro rfl (trivial))))
set_option maxHeartbeats 4000000 in
theorem K_X2_findAlone (a0 : Nat) (a1 : Nat) (M : m_M) (Φ : Option Value → m_M → Prop) (h : m_ok e_V Φ (F_X2_findAlone a0 a1 M)) : j_Ct yX2_findAlone cX2_findAlone 3 none 5 0 0 [.ref a0, .ref a1] M Φ := by
  refine j_Ct.of (by decide +kernel) (Nat.le_of_ble_eq_true rfl) fun X C => ?_
  have C0 := C.1
  show j_J X 3 0 [some (.ref a0), some (.ref a1), none] [] (0, 0) M
  unfold F_X2_findAlone at h
  refine j_iconst C0 (pc := 0) dX2_findAlone_0 (v := (0 : Int32)) (by decide) ?_
  refine j_istore_n C0 (pc := 1) dX2_findAlone_1 (Nat.le_of_ble_eq_true rfl) ?_
  show j_J X 3 2 [some (.ref a0), some (.ref a1), some (.int (0 : Int32))] [] (0, 0) M
  exact j_J.wq (L_X2_findAlone_2 C m_FU a0 a1 (0 : Int32) M h) (And.intro rfl (And.intro rfl (And.intro rfl (trivial))))
theorem dX2_listAbove_0 : decode cX2_listAbove 0 = .ok (.iconst 0, 1) := by decide +kernel
theorem dX2_listAbove_1 : decode cX2_listAbove 1 = .ok (.istore 5, 2) := by decide +kernel
theorem dX2_listAbove_3 : decode cX2_listAbove 3 = .ok (.iconst 0, 1) := by decide +kernel
theorem dX2_listAbove_4 : decode cX2_listAbove 4 = .ok (.istore 6, 2) := by decide +kernel
theorem dX2_listAbove_6 : decode cX2_listAbove 6 = .ok (.iload 6, 2) := by decide +kernel
theorem dX2_listAbove_8 : decode cX2_listAbove 8 = .ok (.sipush 800, 3) := by decide +kernel
theorem dX2_listAbove_11 : decode cX2_listAbove 11 = .ok (.if_icmp .ge 48, 3) := by decide +kernel
theorem dX2_listAbove_14 : decode cX2_listAbove 14 = .ok (.aload_n 0, 1) := by decide +kernel
theorem dX2_listAbove_15 : decode cX2_listAbove 15 = .ok (.getfield 38, 3) := by decide +kernel
theorem dX2_listAbove_18 : decode cX2_listAbove 18 = .ok (.iload 6, 2) := by decide +kernel
theorem dX2_listAbove_20 : decode cX2_listAbove 20 = .ok (.iconst 2, 1) := by decide +kernel
theorem dX2_listAbove_21 : decode cX2_listAbove 21 = .ok (.idiv, 1) := by decide +kernel
theorem dX2_listAbove_22 : decode cX2_listAbove 22 = .ok (.invokevirtual 73, 3) := by decide +kernel
theorem dX2_listAbove_25 : decode cX2_listAbove 25 = .ok (.ifCond .eq 28, 3) := by decide +kernel
theorem dX2_listAbove_28 : decode cX2_listAbove 28 = .ok (.aload_n 0, 1) := by decide +kernel
theorem dX2_listAbove_29 : decode cX2_listAbove 29 = .ok (.aload_n 1, 1) := by decide +kernel
theorem dX2_listAbove_30 : decode cX2_listAbove 30 = .ok (.aload_n 2, 1) := by decide +kernel
theorem dX2_listAbove_31 : decode cX2_listAbove 31 = .ok (.iload 6, 2) := by decide +kernel
theorem dX2_listAbove_33 : decode cX2_listAbove 33 = .ok (.iload_n 3, 1) := by decide +kernel
theorem dX2_listAbove_34 : decode cX2_listAbove 34 = .ok (.ixor, 1) := by decide +kernel
theorem dX2_listAbove_35 : decode cX2_listAbove 35 = .ok (.iconst 1, 1) := by decide +kernel
theorem dX2_listAbove_36 : decode cX2_listAbove 36 = .ok (.ixor, 1) := by decide +kernel
theorem dX2_listAbove_37 : decode cX2_listAbove 37 = .ok (.invokevirtual 81, 3) := by decide +kernel
theorem dX2_listAbove_40 : decode cX2_listAbove 40 = .ok (.ifCond .eq 13, 3) := by decide +kernel
theorem dX2_listAbove_43 : decode cX2_listAbove 43 = .ok (.aload 4, 2) := by decide +kernel
theorem dX2_listAbove_45 : decode cX2_listAbove 45 = .ok (.iload 5, 2) := by decide +kernel
theorem dX2_listAbove_47 : decode cX2_listAbove 47 = .ok (.iload 6, 2) := by decide +kernel
theorem dX2_listAbove_49 : decode cX2_listAbove 49 = .ok (.iastore, 1) := by decide +kernel
theorem dX2_listAbove_50 : decode cX2_listAbove 50 = .ok (.iinc 5 1, 3) := by decide +kernel
theorem dX2_listAbove_53 : decode cX2_listAbove 53 = .ok (.iinc 6 1, 3) := by decide +kernel
theorem dX2_listAbove_56 : decode cX2_listAbove 56 = .ok (.goto (-50), 3) := by decide +kernel
theorem dX2_listAbove_59 : decode cX2_listAbove 59 = .ok (.iload 5, 2) := by decide +kernel
theorem dX2_listAbove_61 : decode cX2_listAbove 61 = .ok (.ireturn, 1) := by decide +kernel
noncomputable def F_X2_listAbove_6 : Nat → Nat → Nat → Nat → Int32 → Nat → Int32 → Int32 → m_M → Option (Int32 × m_M)
  | 0, _, _, _, _, _, _, _, _ => none
  | n + 1, v1, v2, v3, v4, v5, v6, v7, M =>
    if (800 : Int32) ≤ v7 then (
      some (v6, M)
    ) else
    m_let (fun (v8 : Nat) (v9 : Nat) (v10 : Nat) (v11 : Int32) (v12 : Nat) (v13 : Int32) (v14 : Int32) (M1 : m_M) =>
      m_let (v14 + (1 : Int32)) fun v15 =>
      F_X2_listAbove_6 n v8 v9 v10 v11 v12 v13 v15 M1
    ) fun (k53 : Nat → Nat → Nat → Int32 → Nat → Int32 → Int32 → m_M → Option (Int32 × m_M)) =>
    x_gN 2 M v1 5 fun v16 =>
    x_nz (2 : Int32) <|
    x_cV 3 M v16 (F_X3_isClause v16 (v7 / (2 : Int32)) M) fun v17 M2 =>
    if v17 = 0 then (
      k53 v1 v2 v3 v4 v5 v6 v7 M2
    ) else
    x_cV 2 M2 v1 (F_X2_isApart v1 v2 v3 ((v7 ^^^ v4) ^^^ (1 : Int32)) M2) fun v18 M3 =>
    if v18 = 0 then (
      k53 v1 v2 v3 v4 v5 v6 v7 M3
    ) else
    x_sI 12 M3 v5 v6 v7 fun M4 =>
    m_let (v6 + (1 : Int32)) fun v19 =>
    k53 v1 v2 v3 v4 v5 v19 v7 M4
noncomputable def F_X2_listAbove (a0 : Nat) (a1 : Nat) (a2 : Nat) (a3 : Int32) (a4 : Nat) (M : m_M) : Option (Int32 × m_M) :=
  F_X2_listAbove_6 m_FU a0 a1 a2 a3 a4 (0 : Int32) (0 : Int32) M
set_option maxHeartbeats 4000000 in
theorem L_X2_listAbove_6 {X : j_X} {Φ : Option Value → m_M → Prop} (C : j_C X yX2_listAbove cX2_listAbove 7 (some .int) 5 0 0 Φ) : ∀ (n : Nat) (v1 : Nat) (v2 : Nat) (v3 : Nat) (v4 : Int32) (v5 : Nat) (v6 : Int32) (v7 : Int32) (M : m_M), m_ok e_I Φ (F_X2_listAbove_6 n v1 v2 v3 v4 v5 v6 v7 M) → j_J X 7 6 [some (.ref v1), some (.ref v2), some (.ref v3), some (.int v4), some (.ref v5), some (.int v6), some (.int v7)] [] (0, 0) M := by
  have C0 := C.1
  intro n
  induction n with
  | zero => intro v1 v2 v3 v4 v5 v6 v7 M h; exact False.elim h
  | succ n ih =>
    intro v1 v2 v3 v4 v5 v6 v7 M h
    rw [F_X2_listAbove_6] at h
    refine j_iload C0 (pc := 6) dX2_listAbove_6 rfl ?_
    refine j_sipush C0 (pc := 8) dX2_listAbove_8 (v := (800 : Int32)) (by decide) ?_
    refine j_icmp_ge C0 (pc := 11) (tgt := 59) dX2_listAbove_11 (by decide) (fun hc => ?_) (fun hc => ?_)
    · replace h := (X_if h).1 hc
      refine j_iload C0 (pc := 59) dX2_listAbove_59 rfl ?_
      exact j_iret C rfl h dX2_listAbove_61 (by decide)
    · replace h := (X_if h).2 hc
      refine X_join (fun (kj : Nat → Nat → Nat → Int32 → Nat → Int32 → Int32 → m_M → Option (Int32 × m_M)) => ∀ (p0 : Nat) (p1 : Nat) (p2 : Nat) (p3 : Int32) (p4 : Nat) (p5 : Int32) (p6 : Int32) (M : m_M), m_ok e_I Φ (kj p0 p1 p2 p3 p4 p5 p6 M) → j_J X 7 53 [some (.ref p0), some (.ref p1), some (.ref p2), some (.int p3), some (.ref p4), some (.int p5), some (.int p6)] [] (0, 0) M) h (fun v8 v9 v10 v11 v12 v13 v14 M1 h => ?_) (fun k53 hk53 h => ?_)
      · refine j_iinc C0 (pc := 53) dX2_listAbove_53 (v := v14 + (1 : Int32)) rfl (Nat.le_of_ble_eq_true rfl) (by rfl) ?_
        refine X_let (G := fun w => j_J X 7 56 [some (.ref v8), some (.ref v9), some (.ref v10), some (.int v11), some (.ref v12), some (.int v13), some (.int w)] [] (0, 0) M1) h (fun v15 h => ?_)
        refine j_goto C0 (pc := 56) (tgt := 6) dX2_listAbove_56 (by decide) ?_
        exact j_J.wq (ih v8 v9 v10 v11 v12 v13 v15 M1 h) (And.intro rfl (And.intro rfl (And.intro rfl (And.intro rfl (And.intro rfl (And.intro rfl (And.intro rfl (trivial))))))))
      · refine j_aload_n C0 (pc := 14) dX2_listAbove_14 rfl ?_
        refine X_gN C0 (pc := 15) f_Finder_38_2 rfl dX2_listAbove_15 h (fun v16 h => ?_)
        refine j_iload C0 (pc := 18) dX2_listAbove_18 rfl ?_
        refine j_iconst C0 (pc := 20) dX2_listAbove_20 (v := (2 : Int32)) (by decide) ?_
        refine X_idiv C0 (pc := 21) dX2_listAbove_21 h (fun h => ?_)
        refine X_cV C0 (pc := 22) (e' := e_I) (as := [.int (v7 / (2 : Int32))]) (rest := []) (s' := fun w => .int w :: []) (g' := (0, 0)) v_Finder_73_3 (fun Ψ hΨ => K_X3_isClause v16 (v7 / (2 : Int32)) M Ψ hΨ) rfl rfl (fun _ => rfl) (by decide) (by decide) rfl (Nat.le_of_ble_eq_true rfl) dX2_listAbove_22 h (fun v17 M2 h => ?_)
        refine j_if_eq C0 (pc := 25) (tgt := 53) dX2_listAbove_25 (by decide) (fun hc => ?_) (fun hc => ?_)
        · replace h := (X_if h).1 hc
          exact j_J.wq (hk53 v1 v2 v3 v4 v5 v6 v7 M2 h) (And.intro rfl (And.intro rfl (And.intro rfl (And.intro rfl (And.intro rfl (And.intro rfl (And.intro rfl (trivial))))))))
        · replace h := (X_if h).2 hc
          refine j_aload_n C0 (pc := 28) dX2_listAbove_28 rfl ?_
          refine j_aload_n C0 (pc := 29) dX2_listAbove_29 rfl ?_
          refine j_aload_n C0 (pc := 30) dX2_listAbove_30 rfl ?_
          refine j_iload C0 (pc := 31) dX2_listAbove_31 rfl ?_
          refine j_iload_n C0 (pc := 33) dX2_listAbove_33 rfl ?_
          refine j_ixor C0 (pc := 34) dX2_listAbove_34 ?_
          refine j_iconst C0 (pc := 35) dX2_listAbove_35 (v := (1 : Int32)) (by decide) ?_
          refine j_ixor C0 (pc := 36) dX2_listAbove_36 ?_
          refine X_cV C0 (pc := 37) (e' := e_I) (as := [.ref v2, .ref v3, .int ((v7 ^^^ v4) ^^^ (1 : Int32))]) (rest := []) (s' := fun w => .int w :: []) (g' := (0, 0)) v_Finder_81_2 (fun Ψ hΨ => K_X2_isApart v1 v2 v3 ((v7 ^^^ v4) ^^^ (1 : Int32)) M2 Ψ hΨ) rfl rfl (fun _ => rfl) (by decide) (by decide) rfl (Nat.le_of_ble_eq_true rfl) dX2_listAbove_37 h (fun v18 M3 h => ?_)
          refine j_if_eq C0 (pc := 40) (tgt := 53) dX2_listAbove_40 (by decide) (fun hc => ?_) (fun hc => ?_)
          · replace h := (X_if h).1 hc
            exact j_J.wq (hk53 v1 v2 v3 v4 v5 v6 v7 M3 h) (And.intro rfl (And.intro rfl (And.intro rfl (And.intro rfl (And.intro rfl (And.intro rfl (And.intro rfl (trivial))))))))
          · replace h := (X_if h).2 hc
            refine j_aload C0 (pc := 43) dX2_listAbove_43 rfl ?_
            refine j_iload C0 (pc := 45) dX2_listAbove_45 rfl ?_
            refine j_iload C0 (pc := 47) dX2_listAbove_47 rfl ?_
            refine X_iast C0 (pc := 49) dX2_listAbove_49 h (fun M4 h => ?_)
            refine j_iinc C0 (pc := 50) dX2_listAbove_50 (v := v6 + (1 : Int32)) rfl (Nat.le_of_ble_eq_true rfl) (by rfl) ?_
            refine X_let (G := fun w => j_J X 7 53 [some (.ref v1), some (.ref v2), some (.ref v3), some (.int v4), some (.ref v5), some (.int w), some (.int v7)] [] (0, 0) M4) h (fun v19 h => ?_)
            exact j_J.wq (hk53 v1 v2 v3 v4 v5 v19 v7 M4 h) (And.intro rfl (And.intro rfl (And.intro rfl (And.intro rfl (And.intro rfl (And.intro rfl (And.intro rfl (trivial))))))))
set_option maxHeartbeats 4000000 in
theorem K_X2_listAbove (a0 : Nat) (a1 : Nat) (a2 : Nat) (a3 : Int32) (a4 : Nat) (M : m_M) (Φ : Option Value → m_M → Prop) (h : m_ok e_I Φ (F_X2_listAbove a0 a1 a2 a3 a4 M)) : j_Ct yX2_listAbove cX2_listAbove 7 (some .int) 5 0 0 [.ref a0, .ref a1, .ref a2, .int a3, .ref a4] M Φ := by
  refine j_Ct.of (by decide +kernel) (Nat.le_of_ble_eq_true rfl) fun X C => ?_
  have C0 := C.1
  show j_J X 7 0 [some (.ref a0), some (.ref a1), some (.ref a2), some (.int a3), some (.ref a4), none, none] [] (0, 0) M
  unfold F_X2_listAbove at h
  refine j_iconst C0 (pc := 0) dX2_listAbove_0 (v := (0 : Int32)) (by decide) ?_
  refine j_istore C0 (pc := 1) dX2_listAbove_1 (Nat.le_of_ble_eq_true rfl) ?_
  show j_J X 7 3 [some (.ref a0), some (.ref a1), some (.ref a2), some (.int a3), some (.ref a4), some (.int (0 : Int32)), none] [] (0, 0) M
  refine j_iconst C0 (pc := 3) dX2_listAbove_3 (v := (0 : Int32)) (by decide) ?_
  refine j_istore C0 (pc := 4) dX2_listAbove_4 (Nat.le_of_ble_eq_true rfl) ?_
  show j_J X 7 6 [some (.ref a0), some (.ref a1), some (.ref a2), some (.int a3), some (.ref a4), some (.int (0 : Int32)), some (.int (0 : Int32))] [] (0, 0) M
  exact j_J.wq (L_X2_listAbove_6 C m_FU a0 a1 a2 a3 a4 (0 : Int32) (0 : Int32) M h) (And.intro rfl (And.intro rfl (And.intro rfl (And.intro rfl (And.intro rfl (And.intro rfl (And.intro rfl (trivial))))))))
theorem dX2_findRest_0 : decode cX2_findRest 0 = .ok (.iconst 0, 1) := by decide +kernel
theorem dX2_findRest_1 : decode cX2_findRest 1 = .ok (.istore 4, 2) := by decide +kernel
theorem dX2_findRest_3 : decode cX2_findRest 3 = .ok (.iload 4, 2) := by decide +kernel
theorem dX2_findRest_5 : decode cX2_findRest 5 = .ok (.aload_n 0, 1) := by decide +kernel
theorem dX2_findRest_6 : decode cX2_findRest 6 = .ok (.getfield 38, 3) := by decide +kernel
theorem dX2_findRest_9 : decode cX2_findRest 9 = .ok (.getfield 123, 3) := by decide +kernel
theorem dX2_findRest_12 : decode cX2_findRest 12 = .ok (.if_icmp .ge 42, 3) := by decide +kernel
theorem dX2_findRest_15 : decode cX2_findRest 15 = .ok (.iload 4, 2) := by decide +kernel
theorem dX2_findRest_17 : decode cX2_findRest 17 = .ok (.bipush 16, 2) := by decide +kernel
theorem dX2_findRest_19 : decode cX2_findRest 19 = .ok (.if_icmp .ge 35, 3) := by decide +kernel
theorem dX2_findRest_22 : decode cX2_findRest 22 = .ok (.aload_n 0, 1) := by decide +kernel
theorem dX2_findRest_23 : decode cX2_findRest 23 = .ok (.getfield 35, 3) := by decide +kernel
theorem dX2_findRest_26 : decode cX2_findRest 26 = .ok (.getfield 136, 3) := by decide +kernel
theorem dX2_findRest_29 : decode cX2_findRest 29 = .ok (.iload 4, 2) := by decide +kernel
theorem dX2_findRest_31 : decode cX2_findRest 31 = .ok (.aload_n 1, 1) := by decide +kernel
theorem dX2_findRest_32 : decode cX2_findRest 32 = .ok (.getfield 136, 3) := by decide +kernel
theorem dX2_findRest_35 : decode cX2_findRest 35 = .ok (.iload 4, 2) := by decide +kernel
theorem dX2_findRest_37 : decode cX2_findRest 37 = .ok (.laload, 1) := by decide +kernel
theorem dX2_findRest_38 : decode cX2_findRest 38 = .ok (.aload_n 0, 1) := by decide +kernel
theorem dX2_findRest_39 : decode cX2_findRest 39 = .ok (.aload_n 2, 1) := by decide +kernel
theorem dX2_findRest_40 : decode cX2_findRest 40 = .ok (.iload_n 3, 1) := by decide +kernel
theorem dX2_findRest_41 : decode cX2_findRest 41 = .ok (.iload 4, 2) := by decide +kernel
theorem dX2_findRest_43 : decode cX2_findRest 43 = .ok (.invokevirtual 139, 3) := by decide +kernel
theorem dX2_findRest_46 : decode cX2_findRest 46 = .ok (.land, 1) := by decide +kernel
theorem dX2_findRest_47 : decode cX2_findRest 47 = .ok (.lastore, 1) := by decide +kernel
theorem dX2_findRest_48 : decode cX2_findRest 48 = .ok (.iinc 4 1, 3) := by decide +kernel
theorem dX2_findRest_51 : decode cX2_findRest 51 = .ok (.goto (-48), 3) := by decide +kernel
theorem dX2_findRest_54 : decode cX2_findRest 54 = .ok (.return_, 1) := by decide +kernel
noncomputable def F_X2_findRest_3 : Nat → Nat → Nat → Nat → Int32 → Int32 → m_M → Option (Unit × m_M)
  | 0, _, _, _, _, _, _ => none
  | n + 1, v1, v2, v3, v4, v5, M =>
    x_gN 2 M v1 5 fun v6 =>
    x_gI 3 M v6 4 fun v7 =>
    if v7 ≤ v5 then (
      some ((), M)
    ) else
    if (16 : Int32) ≤ v5 then (
      some ((), M)
    ) else
    x_gN 2 M v1 11 fun v8 =>
    x_gN 8 M v8 0 fun v9 =>
    x_gN 8 M v2 0 fun v10 =>
    x_aL M v10 v5 fun v11 =>
    x_cV 2 M v1 (F_X2_longOf v1 v3 v4 v5 M) fun v12 M1 =>
    x_sL M1 v9 v5 (v11 &&& v12) fun M2 =>
    m_let (v5 + (1 : Int32)) fun v13 =>
    F_X2_findRest_3 n v1 v2 v3 v4 v13 M2
noncomputable def F_X2_findRest (a0 : Nat) (a1 : Nat) (a2 : Nat) (a3 : Int32) (M : m_M) : Option (Unit × m_M) :=
  F_X2_findRest_3 m_FU a0 a1 a2 a3 (0 : Int32) M
set_option maxHeartbeats 4000000 in
theorem L_X2_findRest_3 {X : j_X} {Φ : Option Value → m_M → Prop} (C : j_C X yX2_findRest cX2_findRest 5 none 4 0 0 Φ) : ∀ (n : Nat) (v1 : Nat) (v2 : Nat) (v3 : Nat) (v4 : Int32) (v5 : Int32) (M : m_M), m_ok e_V Φ (F_X2_findRest_3 n v1 v2 v3 v4 v5 M) → j_J X 5 3 [some (.ref v1), some (.ref v2), some (.ref v3), some (.int v4), some (.int v5)] [] (0, 0) M := by
  have C0 := C.1
  intro n
  induction n with
  | zero => intro v1 v2 v3 v4 v5 M h; exact False.elim h
  | succ n ih =>
    intro v1 v2 v3 v4 v5 M h
    rw [F_X2_findRest_3] at h
    refine j_iload C0 (pc := 3) dX2_findRest_3 rfl ?_
    refine j_aload_n C0 (pc := 5) dX2_findRest_5 rfl ?_
    refine X_gN C0 (pc := 6) f_Finder_38_2 rfl dX2_findRest_6 h (fun v6 h => ?_)
    refine X_gI C0 (pc := 9) f_Finder_123_3 rfl dX2_findRest_9 h (fun v7 h => ?_)
    refine j_icmp_ge C0 (pc := 12) (tgt := 54) dX2_findRest_12 (by decide) (fun hc => ?_) (fun hc => ?_)
    · replace h := (X_if h).1 hc
      exact j_vret C rfl h dX2_findRest_54 (by decide)
    · replace h := (X_if h).2 hc
      refine j_iload C0 (pc := 15) dX2_findRest_15 rfl ?_
      refine j_bipush C0 (pc := 17) dX2_findRest_17 (v := (16 : Int32)) (by decide) ?_
      refine j_icmp_ge C0 (pc := 19) (tgt := 54) dX2_findRest_19 (by decide) (fun hc => ?_) (fun hc => ?_)
      · replace h := (X_if h).1 hc
        exact j_vret C rfl h dX2_findRest_54 (by decide)
      · replace h := (X_if h).2 hc
        refine j_aload_n C0 (pc := 22) dX2_findRest_22 rfl ?_
        refine X_gN C0 (pc := 23) f_Finder_35_2 rfl dX2_findRest_23 h (fun v8 h => ?_)
        refine X_gN C0 (pc := 26) f_Finder_136_8 rfl dX2_findRest_26 h (fun v9 h => ?_)
        refine j_iload C0 (pc := 29) dX2_findRest_29 rfl ?_
        refine j_aload_n C0 (pc := 31) dX2_findRest_31 rfl ?_
        refine X_gN C0 (pc := 32) f_Finder_136_8 rfl dX2_findRest_32 h (fun v10 h => ?_)
        refine j_iload C0 (pc := 35) dX2_findRest_35 rfl ?_
        refine X_lald C0 (pc := 37) dX2_findRest_37 h (fun v11 h => ?_)
        refine j_aload_n C0 (pc := 38) dX2_findRest_38 rfl ?_
        refine j_aload_n C0 (pc := 39) dX2_findRest_39 rfl ?_
        refine j_iload_n C0 (pc := 40) dX2_findRest_40 rfl ?_
        refine j_iload C0 (pc := 41) dX2_findRest_41 rfl ?_
        refine X_cV C0 (pc := 43) (e' := e_L) (as := [.ref v3, .int v4, .int v5]) (rest := [.long v11, .int v5, .ref v9]) (s' := fun w => .long w :: [.long v11, .int v5, .ref v9]) (g' := (0, 0)) v_Finder_139_2 (fun Ψ hΨ => K_X2_longOf v1 v3 v4 v5 M Ψ hΨ) rfl rfl (fun _ => rfl) (by decide) (by decide) rfl (Nat.le_of_ble_eq_true rfl) dX2_findRest_43 h (fun v12 M1 h => ?_)
        refine j_land C0 (pc := 46) dX2_findRest_46 ?_
        refine X_last C0 (pc := 47) dX2_findRest_47 h (fun M2 h => ?_)
        refine j_iinc C0 (pc := 48) dX2_findRest_48 (v := v5 + (1 : Int32)) rfl (Nat.le_of_ble_eq_true rfl) (by rfl) ?_
        refine X_let (G := fun w => j_J X 5 51 [some (.ref v1), some (.ref v2), some (.ref v3), some (.int v4), some (.int w)] [] (0, 0) M2) h (fun v13 h => ?_)
        refine j_goto C0 (pc := 51) (tgt := 3) dX2_findRest_51 (by decide) ?_
        exact j_J.wq (ih v1 v2 v3 v4 v13 M2 h) (And.intro rfl (And.intro rfl (And.intro rfl (And.intro rfl (And.intro rfl (trivial))))))
set_option maxHeartbeats 4000000 in
theorem K_X2_findRest (a0 : Nat) (a1 : Nat) (a2 : Nat) (a3 : Int32) (M : m_M) (Φ : Option Value → m_M → Prop) (h : m_ok e_V Φ (F_X2_findRest a0 a1 a2 a3 M)) : j_Ct yX2_findRest cX2_findRest 5 none 4 0 0 [.ref a0, .ref a1, .ref a2, .int a3] M Φ := by
  refine j_Ct.of (by decide +kernel) (Nat.le_of_ble_eq_true rfl) fun X C => ?_
  have C0 := C.1
  show j_J X 5 0 [some (.ref a0), some (.ref a1), some (.ref a2), some (.int a3), none] [] (0, 0) M
  unfold F_X2_findRest at h
  refine j_iconst C0 (pc := 0) dX2_findRest_0 (v := (0 : Int32)) (by decide) ?_
  refine j_istore C0 (pc := 1) dX2_findRest_1 (Nat.le_of_ble_eq_true rfl) ?_
  show j_J X 5 3 [some (.ref a0), some (.ref a1), some (.ref a2), some (.int a3), some (.int (0 : Int32))] [] (0, 0) M
  exact j_J.wq (L_X2_findRest_3 C m_FU a0 a1 a2 a3 (0 : Int32) M h) (And.intro rfl (And.intro rfl (And.intro rfl (And.intro rfl (And.intro rfl (trivial))))))
theorem dX2_findJoined_0 : decode cX2_findJoined 0 = .ok (.iload_n 3, 1) := by decide +kernel
theorem dX2_findJoined_1 : decode cX2_findJoined 1 = .ok (.iconst 2, 1) := by decide +kernel
theorem dX2_findJoined_2 : decode cX2_findJoined 2 = .ok (.if_icmp .ne 7, 3) := by decide +kernel
theorem dX2_findJoined_5 : decode cX2_findJoined 5 = .ok (.iconst 1, 1) := by decide +kernel
theorem dX2_findJoined_6 : decode cX2_findJoined 6 = .ok (.goto 4, 3) := by decide +kernel
theorem dX2_findJoined_9 : decode cX2_findJoined 9 = .ok (.iconst 0, 1) := by decide +kernel
theorem dX2_findJoined_10 : decode cX2_findJoined 10 = .ok (.istore 4, 2) := by decide +kernel
theorem dX2_findJoined_12 : decode cX2_findJoined 12 = .ok (.aload_n 0, 1) := by decide +kernel
theorem dX2_findJoined_13 : decode cX2_findJoined 13 = .ok (.aload_n 1, 1) := by decide +kernel
theorem dX2_findJoined_14 : decode cX2_findJoined 14 = .ok (.aload_n 0, 1) := by decide +kernel
theorem dX2_findJoined_15 : decode cX2_findJoined 15 = .ok (.getfield 15, 3) := by decide +kernel
theorem dX2_findJoined_18 : decode cX2_findJoined 18 = .ok (.iload 4, 2) := by decide +kernel
theorem dX2_findJoined_20 : decode cX2_findJoined 20 = .ok (.aload_n 0, 1) := by decide +kernel
theorem dX2_findJoined_21 : decode cX2_findJoined 21 = .ok (.getfield 22, 3) := by decide +kernel
theorem dX2_findJoined_24 : decode cX2_findJoined 24 = .ok (.invokevirtual 89, 3) := by decide +kernel
theorem dX2_findJoined_27 : decode cX2_findJoined 27 = .ok (.istore 5, 2) := by decide +kernel
theorem dX2_findJoined_29 : decode cX2_findJoined 29 = .ok (.iconst 0, 1) := by decide +kernel
theorem dX2_findJoined_30 : decode cX2_findJoined 30 = .ok (.istore 6, 2) := by decide +kernel
theorem dX2_findJoined_32 : decode cX2_findJoined 32 = .ok (.iload 6, 2) := by decide +kernel
theorem dX2_findJoined_34 : decode cX2_findJoined 34 = .ok (.iload 5, 2) := by decide +kernel
theorem dX2_findJoined_36 : decode cX2_findJoined 36 = .ok (.if_icmp .ge 142, 3) := by decide +kernel
theorem dX2_findJoined_39 : decode cX2_findJoined 39 = .ok (.aload_n 0, 1) := by decide +kernel
theorem dX2_findJoined_40 : decode cX2_findJoined 40 = .ok (.getfield 22, 3) := by decide +kernel
theorem dX2_findJoined_43 : decode cX2_findJoined 43 = .ok (.iload 6, 2) := by decide +kernel
theorem dX2_findJoined_45 : decode cX2_findJoined 45 = .ok (.iaload, 1) := by decide +kernel
theorem dX2_findJoined_46 : decode cX2_findJoined 46 = .ok (.invokestatic 77, 3) := by decide +kernel
theorem dX2_findJoined_49 : decode cX2_findJoined 49 = .ok (.iconst 1, 1) := by decide +kernel
theorem dX2_findJoined_50 : decode cX2_findJoined 50 = .ok (.iadd, 1) := by decide +kernel
theorem dX2_findJoined_51 : decode cX2_findJoined 51 = .ok (.istore 7, 2) := by decide +kernel
theorem dX2_findJoined_53 : decode cX2_findJoined 53 = .ok (.aload_n 0, 1) := by decide +kernel
theorem dX2_findJoined_54 : decode cX2_findJoined 54 = .ok (.aload_n 2, 1) := by decide +kernel
theorem dX2_findJoined_55 : decode cX2_findJoined 55 = .ok (.aload_n 0, 1) := by decide +kernel
theorem dX2_findJoined_56 : decode cX2_findJoined 56 = .ok (.getfield 15, 3) := by decide +kernel
theorem dX2_findJoined_59 : decode cX2_findJoined 59 = .ok (.aload_n 0, 1) := by decide +kernel
theorem dX2_findJoined_60 : decode cX2_findJoined 60 = .ok (.getfield 22, 3) := by decide +kernel
theorem dX2_findJoined_63 : decode cX2_findJoined 63 = .ok (.iload 6, 2) := by decide +kernel
theorem dX2_findJoined_65 : decode cX2_findJoined 65 = .ok (.iaload, 1) := by decide +kernel
theorem dX2_findJoined_66 : decode cX2_findJoined 66 = .ok (.iload 4, 2) := by decide +kernel
theorem dX2_findJoined_68 : decode cX2_findJoined 68 = .ok (.ixor, 1) := by decide +kernel
theorem dX2_findJoined_69 : decode cX2_findJoined 69 = .ok (.invokevirtual 93, 3) := by decide +kernel
theorem dX2_findJoined_72 : decode cX2_findJoined 72 = .ok (.iload 6, 2) := by decide +kernel
theorem dX2_findJoined_74 : decode cX2_findJoined 74 = .ok (.iconst 1, 1) := by decide +kernel
theorem dX2_findJoined_75 : decode cX2_findJoined 75 = .ok (.iadd, 1) := by decide +kernel
theorem dX2_findJoined_76 : decode cX2_findJoined 76 = .ok (.istore 8, 2) := by decide +kernel
theorem dX2_findJoined_78 : decode cX2_findJoined 78 = .ok (.iload 8, 2) := by decide +kernel
theorem dX2_findJoined_80 : decode cX2_findJoined 80 = .ok (.iload 5, 2) := by decide +kernel
theorem dX2_findJoined_82 : decode cX2_findJoined 82 = .ok (.if_icmp .ge 90, 3) := by decide +kernel
theorem dX2_findJoined_85 : decode cX2_findJoined 85 = .ok (.iload 7, 2) := by decide +kernel
theorem dX2_findJoined_87 : decode cX2_findJoined 87 = .ok (.iconst 2, 1) := by decide +kernel
theorem dX2_findJoined_88 : decode cX2_findJoined 88 = .ok (.iadd, 1) := by decide +kernel
theorem dX2_findJoined_89 : decode cX2_findJoined 89 = .ok (.aload_n 0, 1) := by decide +kernel
theorem dX2_findJoined_90 : decode cX2_findJoined 90 = .ok (.getfield 42, 3) := by decide +kernel
theorem dX2_findJoined_93 : decode cX2_findJoined 93 = .ok (.if_icmp .ge 79, 3) := by decide +kernel
theorem dX2_findJoined_96 : decode cX2_findJoined 96 = .ok (.iload 7, 2) := by decide +kernel
theorem dX2_findJoined_98 : decode cX2_findJoined 98 = .ok (.aload_n 0, 1) := by decide +kernel
theorem dX2_findJoined_99 : decode cX2_findJoined 99 = .ok (.getfield 22, 3) := by decide +kernel
theorem dX2_findJoined_102 : decode cX2_findJoined 102 = .ok (.iload 8, 2) := by decide +kernel
theorem dX2_findJoined_104 : decode cX2_findJoined 104 = .ok (.iaload, 1) := by decide +kernel
theorem dX2_findJoined_105 : decode cX2_findJoined 105 = .ok (.invokestatic 77, 3) := by decide +kernel
theorem dX2_findJoined_108 : decode cX2_findJoined 108 = .ok (.iadd, 1) := by decide +kernel
theorem dX2_findJoined_109 : decode cX2_findJoined 109 = .ok (.istore 9, 2) := by decide +kernel
theorem dX2_findJoined_111 : decode cX2_findJoined 111 = .ok (.iload 9, 2) := by decide +kernel
theorem dX2_findJoined_113 : decode cX2_findJoined 113 = .ok (.aload_n 0, 1) := by decide +kernel
theorem dX2_findJoined_114 : decode cX2_findJoined 114 = .ok (.getfield 42, 3) := by decide +kernel
theorem dX2_findJoined_117 : decode cX2_findJoined 117 = .ok (.if_icmp .ge 49, 3) := by decide +kernel
theorem dX2_findJoined_120 : decode cX2_findJoined 120 = .ok (.aload_n 0, 1) := by decide +kernel
theorem dX2_findJoined_121 : decode cX2_findJoined 121 = .ok (.aload_n 0, 1) := by decide +kernel
theorem dX2_findJoined_122 : decode cX2_findJoined 122 = .ok (.getfield 35, 3) := by decide +kernel
theorem dX2_findJoined_125 : decode cX2_findJoined 125 = .ok (.aload_n 0, 1) := by decide +kernel
theorem dX2_findJoined_126 : decode cX2_findJoined 126 = .ok (.getfield 15, 3) := by decide +kernel
theorem dX2_findJoined_129 : decode cX2_findJoined 129 = .ok (.aload_n 0, 1) := by decide +kernel
theorem dX2_findJoined_130 : decode cX2_findJoined 130 = .ok (.getfield 22, 3) := by decide +kernel
theorem dX2_findJoined_133 : decode cX2_findJoined 133 = .ok (.iload 8, 2) := by decide +kernel
theorem dX2_findJoined_135 : decode cX2_findJoined 135 = .ok (.iaload, 1) := by decide +kernel
theorem dX2_findJoined_136 : decode cX2_findJoined 136 = .ok (.iload 4, 2) := by decide +kernel
theorem dX2_findJoined_138 : decode cX2_findJoined 138 = .ok (.ixor, 1) := by decide +kernel
theorem dX2_findJoined_139 : decode cX2_findJoined 139 = .ok (.invokevirtual 81, 3) := by decide +kernel
theorem dX2_findJoined_142 : decode cX2_findJoined 142 = .ok (.ifCond .eq 24, 3) := by decide +kernel
theorem dX2_findJoined_145 : decode cX2_findJoined 145 = .ok (.aload_n 0, 1) := by decide +kernel
theorem dX2_findJoined_146 : decode cX2_findJoined 146 = .ok (.iload_n 3, 1) := by decide +kernel
theorem dX2_findJoined_147 : decode cX2_findJoined 147 = .ok (.aload_n 0, 1) := by decide +kernel
theorem dX2_findJoined_148 : decode cX2_findJoined 148 = .ok (.getfield 22, 3) := by decide +kernel
theorem dX2_findJoined_151 : decode cX2_findJoined 151 = .ok (.iload 6, 2) := by decide +kernel
theorem dX2_findJoined_153 : decode cX2_findJoined 153 = .ok (.iaload, 1) := by decide +kernel
theorem dX2_findJoined_154 : decode cX2_findJoined 154 = .ok (.aload_n 0, 1) := by decide +kernel
theorem dX2_findJoined_155 : decode cX2_findJoined 155 = .ok (.getfield 22, 3) := by decide +kernel
theorem dX2_findJoined_158 : decode cX2_findJoined 158 = .ok (.iload 8, 2) := by decide +kernel
theorem dX2_findJoined_160 : decode cX2_findJoined 160 = .ok (.iaload, 1) := by decide +kernel
theorem dX2_findJoined_161 : decode cX2_findJoined 161 = .ok (.iload 9, 2) := by decide +kernel
theorem dX2_findJoined_163 : decode cX2_findJoined 163 = .ok (.invokevirtual 85, 3) := by decide +kernel
theorem dX2_findJoined_166 : decode cX2_findJoined 166 = .ok (.iinc 8 1, 3) := by decide +kernel
theorem dX2_findJoined_169 : decode cX2_findJoined 169 = .ok (.goto (-91), 3) := by decide +kernel
theorem dX2_findJoined_172 : decode cX2_findJoined 172 = .ok (.iinc 6 1, 3) := by decide +kernel
theorem dX2_findJoined_175 : decode cX2_findJoined 175 = .ok (.goto (-143), 3) := by decide +kernel
theorem dX2_findJoined_178 : decode cX2_findJoined 178 = .ok (.return_, 1) := by decide +kernel
noncomputable def F_X2_findJoined_78 (k172 : Nat → Nat → Int32 → Int32 → Int32 → Int32 → m_M → Option (Unit × m_M)) : Nat → Nat → Nat → Int32 → Int32 → Int32 → Int32 → Int32 → Int32 → m_M → Option (Unit × m_M)
  | 0, _, _, _, _, _, _, _, _, _ => none
  | n + 1, v1, v2, v3, v4, v5, v6, v7, v8, M =>
    if v5 ≤ v8 then (
      k172 v1 v2 v3 v4 v5 v6 M
    ) else
    x_gI 2 M v1 0 fun v9 =>
    if v9 ≤ (v7 + (2 : Int32)) then (
      k172 v1 v2 v3 v4 v5 v6 M
    ) else
    m_let (fun (v10 : Nat) (v11 : Nat) (v12 : Int32) (v13 : Int32) (v14 : Int32) (v15 : Int32) (v16 : Int32) (v17 : Int32) (M1 : m_M) =>
      m_let (v17 + (1 : Int32)) fun v18 =>
      F_X2_findJoined_78 k172 n v10 v11 v12 v13 v14 v15 v16 v18 M1
    ) fun (k166 : Nat → Nat → Int32 → Int32 → Int32 → Int32 → Int32 → Int32 → m_M → Option (Unit × m_M)) =>
    x_gN 2 M v1 8 fun v19 =>
    x_aI 12 M v19 v8 fun v20 =>
    x_bd (F_X2_wordsOf v20 M) fun v21 M2 =>
    m_let (v7 + v21) fun v22 =>
    x_gI 2 M2 v1 0 fun v23 =>
    if v23 ≤ v22 then (
      k166 v1 v2 v3 v4 v5 v6 v7 v8 M2
    ) else
    x_gN 2 M2 v1 11 fun v24 =>
    x_gN 2 M2 v1 6 fun v25 =>
    x_gN 2 M2 v1 8 fun v26 =>
    x_aI 12 M2 v26 v8 fun v27 =>
    x_cV 2 M2 v1 (F_X2_isApart v1 v24 v25 (v27 ^^^ v4) M2) fun v28 M3 =>
    if v28 = 0 then (
      k166 v1 v2 v3 v4 v5 v6 v7 v8 M3
    ) else
    x_gN 2 M3 v1 8 fun v29 =>
    x_aI 12 M3 v29 v6 fun v30 =>
    x_gN 2 M3 v1 8 fun v31 =>
    x_aI 12 M3 v31 v8 fun v32 =>
    x_cV 2 M3 v1 (F_X2_keepBest v1 v3 v30 v32 v22 M3) fun _ M4 =>
    k166 v1 v2 v3 v4 v5 v6 v7 v8 M4
noncomputable def F_X2_findJoined_32 : Nat → Nat → Nat → Int32 → Int32 → Int32 → Int32 → m_M → Option (Unit × m_M)
  | 0, _, _, _, _, _, _, _ => none
  | n + 1, v1, v2, v3, v4, v5, v6, M =>
    if v5 ≤ v6 then (
      some ((), M)
    ) else
    x_gN 2 M v1 8 fun v7 =>
    x_aI 12 M v7 v6 fun v8 =>
    x_bd (F_X2_wordsOf v8 M) fun v9 M1 =>
    m_let (v9 + (1 : Int32)) fun v10 =>
    x_gN 2 M1 v1 6 fun v11 =>
    x_gN 2 M1 v1 8 fun v12 =>
    x_aI 12 M1 v12 v6 fun v13 =>
    x_cV 2 M1 v1 (F_X2_findRest v1 v2 v11 (v13 ^^^ v4) M1) fun _ M2 =>
    m_let (v6 + (1 : Int32)) fun v14 =>
    m_let (fun (v15 : Nat) (v16 : Nat) (v17 : Int32) (v18 : Int32) (v19 : Int32) (v20 : Int32) (M3 : m_M) =>
      m_let (v20 + (1 : Int32)) fun v21 =>
      F_X2_findJoined_32 n v15 v16 v17 v18 v19 v21 M3
    ) fun (k172 : Nat → Nat → Int32 → Int32 → Int32 → Int32 → m_M → Option (Unit × m_M)) =>
    F_X2_findJoined_78 k172 m_FU v1 v2 v3 v4 v5 v6 v10 v14 M2
noncomputable def F_X2_findJoined (a0 : Nat) (a1 : Nat) (a2 : Nat) (a3 : Int32) (M : m_M) : Option (Unit × m_M) :=
  m_let (fun (v1 : Nat) (v2 : Nat) (v3 : Nat) (v4 : Int32) (v5 : Int32) (M1 : m_M) =>
    x_gN 2 M1 v1 6 fun v6 =>
    x_gN 2 M1 v1 8 fun v7 =>
    x_cV 2 M1 v1 (F_X2_listAbove v1 v2 v6 v5 v7 M1) fun v8 M2 =>
    F_X2_findJoined_32 m_FU v1 v3 v4 v5 v8 (0 : Int32) M2
  ) fun (k10 : Nat → Nat → Nat → Int32 → Int32 → m_M → Option (Unit × m_M)) =>
  if a3 = (2 : Int32) then (
    k10 a0 a1 a2 a3 (1 : Int32) M
  ) else
  k10 a0 a1 a2 a3 (0 : Int32) M
set_option maxHeartbeats 4000000 in
theorem L_X2_findJoined_78 {X : j_X} {Φ : Option Value → m_M → Prop} (C : j_C X yX2_findJoined cX2_findJoined 10 none 6 0 0 Φ) {k172 : Nat → Nat → Int32 → Int32 → Int32 → Int32 → m_M → Option (Unit × m_M)} (hk172 : ∀ (p0 : Nat) (p1 : Nat) (p2 : Int32) (p3 : Int32) (p4 : Int32) (p5 : Int32) (M : m_M), m_ok e_V Φ (k172 p0 p1 p2 p3 p4 p5 M) → j_J X 10 172 [some (.ref p0), none, some (.ref p1), some (.int p2), some (.int p3), some (.int p4), some (.int p5), none, none, none] [] (0, 0) M) : ∀ (n : Nat) (v1 : Nat) (v2 : Nat) (v3 : Int32) (v4 : Int32) (v5 : Int32) (v6 : Int32) (v7 : Int32) (v8 : Int32) (M : m_M), m_ok e_V Φ (F_X2_findJoined_78 k172 n v1 v2 v3 v4 v5 v6 v7 v8 M) → j_J X 10 78 [some (.ref v1), none, some (.ref v2), some (.int v3), some (.int v4), some (.int v5), some (.int v6), some (.int v7), some (.int v8), none] [] (0, 0) M := by
  have C0 := C.1
  intro n
  induction n with
  | zero => intro v1 v2 v3 v4 v5 v6 v7 v8 M h; exact False.elim h
  | succ n ih =>
    intro v1 v2 v3 v4 v5 v6 v7 v8 M h
    rw [F_X2_findJoined_78] at h
    refine j_iload C0 (pc := 78) dX2_findJoined_78 rfl ?_
    refine j_iload C0 (pc := 80) dX2_findJoined_80 rfl ?_
    refine j_icmp_ge C0 (pc := 82) (tgt := 172) dX2_findJoined_82 (by decide) (fun hc => ?_) (fun hc => ?_)
    · replace h := (X_if h).1 hc
      exact j_J.wq (hk172 v1 v2 v3 v4 v5 v6 M h) (And.intro rfl (And.intro rfl (And.intro rfl (And.intro rfl (And.intro rfl (And.intro rfl (trivial)))))))
    · replace h := (X_if h).2 hc
      refine j_iload C0 (pc := 85) dX2_findJoined_85 rfl ?_
      refine j_iconst C0 (pc := 87) dX2_findJoined_87 (v := (2 : Int32)) (by decide) ?_
      refine j_iadd C0 (pc := 88) dX2_findJoined_88 ?_
      refine j_aload_n C0 (pc := 89) dX2_findJoined_89 rfl ?_
      refine X_gI C0 (pc := 90) f_Finder_42_2 rfl dX2_findJoined_90 h (fun v9 h => ?_)
      refine j_icmp_ge C0 (pc := 93) (tgt := 172) dX2_findJoined_93 (by decide) (fun hc => ?_) (fun hc => ?_)
      · replace h := (X_if h).1 hc
        exact j_J.wq (hk172 v1 v2 v3 v4 v5 v6 M h) (And.intro rfl (And.intro rfl (And.intro rfl (And.intro rfl (And.intro rfl (And.intro rfl (trivial)))))))
      · replace h := (X_if h).2 hc
        refine X_join (fun (kj : Nat → Nat → Int32 → Int32 → Int32 → Int32 → Int32 → Int32 → m_M → Option (Unit × m_M)) => ∀ (p0 : Nat) (p1 : Nat) (p2 : Int32) (p3 : Int32) (p4 : Int32) (p5 : Int32) (p6 : Int32) (p7 : Int32) (M : m_M), m_ok e_V Φ (kj p0 p1 p2 p3 p4 p5 p6 p7 M) → j_J X 10 166 [some (.ref p0), none, some (.ref p1), some (.int p2), some (.int p3), some (.int p4), some (.int p5), some (.int p6), some (.int p7), none] [] (0, 0) M) h (fun v10 v11 v12 v13 v14 v15 v16 v17 M1 h => ?_) (fun k166 hk166 h => ?_)
        · refine j_iinc C0 (pc := 166) dX2_findJoined_166 (v := v17 + (1 : Int32)) rfl (Nat.le_of_ble_eq_true rfl) (by rfl) ?_
          refine X_let (G := fun w => j_J X 10 169 [some (.ref v10), none, some (.ref v11), some (.int v12), some (.int v13), some (.int v14), some (.int v15), some (.int v16), some (.int w), none] [] (0, 0) M1) h (fun v18 h => ?_)
          refine j_goto C0 (pc := 169) (tgt := 78) dX2_findJoined_169 (by decide) ?_
          exact j_J.wq (ih v10 v11 v12 v13 v14 v15 v16 v18 M1 h) (And.intro rfl (And.intro rfl (And.intro rfl (And.intro rfl (And.intro rfl (And.intro rfl (And.intro rfl (And.intro rfl (trivial)))))))))
        · refine j_iload C0 (pc := 96) dX2_findJoined_96 rfl ?_
          refine j_aload_n C0 (pc := 98) dX2_findJoined_98 rfl ?_
          refine X_gN C0 (pc := 99) f_Finder_22_2 rfl dX2_findJoined_99 h (fun v19 h => ?_)
          refine j_iload C0 (pc := 102) dX2_findJoined_102 rfl ?_
          refine X_iald C0 (pc := 104) dX2_findJoined_104 h (fun v20 h => ?_)
          refine X_cS C0 (pc := 105) (e' := e_I) (as := [.int v20]) (rest := [.int v7]) (s' := fun w => .int w :: [.int v7]) (g' := (0, 0)) s_Finder_77 (fun Ψ hΨ => K_X2_wordsOf v20 M Ψ hΨ) rfl rfl (fun _ => rfl) (by decide) (by decide) rfl (Nat.le_of_ble_eq_true rfl) dX2_findJoined_105 h (fun v21 M2 h => ?_)
          refine j_iadd C0 (pc := 108) dX2_findJoined_108 ?_
          refine X_let (G := fun w => j_J X 10 109 [some (.ref v1), none, some (.ref v2), some (.int v3), some (.int v4), some (.int v5), some (.int v6), some (.int v7), some (.int v8), none] (.int w :: []) (0, 0) M2) h (fun v22 h => ?_)
          refine j_istore C0 (pc := 109) dX2_findJoined_109 (Nat.le_of_ble_eq_true rfl) ?_
          show j_J X 10 111 [some (.ref v1), none, some (.ref v2), some (.int v3), some (.int v4), some (.int v5), some (.int v6), some (.int v7), some (.int v8), some (.int v22)] [] (0, 0) M2
          refine j_iload C0 (pc := 111) dX2_findJoined_111 rfl ?_
          refine j_aload_n C0 (pc := 113) dX2_findJoined_113 rfl ?_
          refine X_gI C0 (pc := 114) f_Finder_42_2 rfl dX2_findJoined_114 h (fun v23 h => ?_)
          refine j_icmp_ge C0 (pc := 117) (tgt := 166) dX2_findJoined_117 (by decide) (fun hc => ?_) (fun hc => ?_)
          · replace h := (X_if h).1 hc
            exact j_J.wq (hk166 v1 v2 v3 v4 v5 v6 v7 v8 M2 h) (And.intro rfl (And.intro rfl (And.intro rfl (And.intro rfl (And.intro rfl (And.intro rfl (And.intro rfl (And.intro rfl (trivial)))))))))
          · replace h := (X_if h).2 hc
            refine j_aload_n C0 (pc := 120) dX2_findJoined_120 rfl ?_
            refine j_aload_n C0 (pc := 121) dX2_findJoined_121 rfl ?_
            refine X_gN C0 (pc := 122) f_Finder_35_2 rfl dX2_findJoined_122 h (fun v24 h => ?_)
            refine j_aload_n C0 (pc := 125) dX2_findJoined_125 rfl ?_
            refine X_gN C0 (pc := 126) f_Finder_15_2 rfl dX2_findJoined_126 h (fun v25 h => ?_)
            refine j_aload_n C0 (pc := 129) dX2_findJoined_129 rfl ?_
            refine X_gN C0 (pc := 130) f_Finder_22_2 rfl dX2_findJoined_130 h (fun v26 h => ?_)
            refine j_iload C0 (pc := 133) dX2_findJoined_133 rfl ?_
            refine X_iald C0 (pc := 135) dX2_findJoined_135 h (fun v27 h => ?_)
            refine j_iload C0 (pc := 136) dX2_findJoined_136 rfl ?_
            refine j_ixor C0 (pc := 138) dX2_findJoined_138 ?_
            refine X_cV C0 (pc := 139) (e' := e_I) (as := [.ref v24, .ref v25, .int (v27 ^^^ v4)]) (rest := []) (s' := fun w => .int w :: []) (g' := (0, 0)) v_Finder_81_2 (fun Ψ hΨ => K_X2_isApart v1 v24 v25 (v27 ^^^ v4) M2 Ψ hΨ) rfl rfl (fun _ => rfl) (by decide) (by decide) rfl (Nat.le_of_ble_eq_true rfl) dX2_findJoined_139 h (fun v28 M3 h => ?_)
            refine j_if_eq C0 (pc := 142) (tgt := 166) dX2_findJoined_142 (by decide) (fun hc => ?_) (fun hc => ?_)
            · replace h := (X_if h).1 hc
              exact j_J.wq (hk166 v1 v2 v3 v4 v5 v6 v7 v8 M3 h) (And.intro rfl (And.intro rfl (And.intro rfl (And.intro rfl (And.intro rfl (And.intro rfl (And.intro rfl (And.intro rfl (trivial)))))))))
            · replace h := (X_if h).2 hc
              refine j_aload_n C0 (pc := 145) dX2_findJoined_145 rfl ?_
              refine j_iload_n C0 (pc := 146) dX2_findJoined_146 rfl ?_
              refine j_aload_n C0 (pc := 147) dX2_findJoined_147 rfl ?_
              refine X_gN C0 (pc := 148) f_Finder_22_2 rfl dX2_findJoined_148 h (fun v29 h => ?_)
              refine j_iload C0 (pc := 151) dX2_findJoined_151 rfl ?_
              refine X_iald C0 (pc := 153) dX2_findJoined_153 h (fun v30 h => ?_)
              refine j_aload_n C0 (pc := 154) dX2_findJoined_154 rfl ?_
              refine X_gN C0 (pc := 155) f_Finder_22_2 rfl dX2_findJoined_155 h (fun v31 h => ?_)
              refine j_iload C0 (pc := 158) dX2_findJoined_158 rfl ?_
              refine X_iald C0 (pc := 160) dX2_findJoined_160 h (fun v32 h => ?_)
              refine j_iload C0 (pc := 161) dX2_findJoined_161 rfl ?_
              refine X_cV C0 (pc := 163) (e' := e_V) (as := [.int v3, .int v30, .int v32, .int v22]) (rest := []) (s' := fun _ => []) (g' := (0, 0)) v_Finder_85_2 (fun Ψ hΨ => K_X2_keepBest v1 v3 v30 v32 v22 M3 Ψ hΨ) rfl rfl (fun _ => rfl) (by decide) (by decide) rfl (Nat.le_of_ble_eq_true rfl) dX2_findJoined_163 h (fun _ M4 h => ?_)
              exact j_J.wq (hk166 v1 v2 v3 v4 v5 v6 v7 v8 M4 h) (And.intro rfl (And.intro rfl (And.intro rfl (And.intro rfl (And.intro rfl (And.intro rfl (And.intro rfl (And.intro rfl (trivial)))))))))
set_option maxHeartbeats 4000000 in
theorem L_X2_findJoined_32 {X : j_X} {Φ : Option Value → m_M → Prop} (C : j_C X yX2_findJoined cX2_findJoined 10 none 6 0 0 Φ) : ∀ (n : Nat) (v1 : Nat) (v2 : Nat) (v3 : Int32) (v4 : Int32) (v5 : Int32) (v6 : Int32) (M : m_M), m_ok e_V Φ (F_X2_findJoined_32 n v1 v2 v3 v4 v5 v6 M) → j_J X 10 32 [some (.ref v1), none, some (.ref v2), some (.int v3), some (.int v4), some (.int v5), some (.int v6), none, none, none] [] (0, 0) M := by
  have C0 := C.1
  intro n
  induction n with
  | zero => intro v1 v2 v3 v4 v5 v6 M h; exact False.elim h
  | succ n ih =>
    intro v1 v2 v3 v4 v5 v6 M h
    rw [F_X2_findJoined_32] at h
    refine j_iload C0 (pc := 32) dX2_findJoined_32 rfl ?_
    refine j_iload C0 (pc := 34) dX2_findJoined_34 rfl ?_
    refine j_icmp_ge C0 (pc := 36) (tgt := 178) dX2_findJoined_36 (by decide) (fun hc => ?_) (fun hc => ?_)
    · replace h := (X_if h).1 hc
      exact j_vret C rfl h dX2_findJoined_178 (by decide)
    · replace h := (X_if h).2 hc
      refine j_aload_n C0 (pc := 39) dX2_findJoined_39 rfl ?_
      refine X_gN C0 (pc := 40) f_Finder_22_2 rfl dX2_findJoined_40 h (fun v7 h => ?_)
      refine j_iload C0 (pc := 43) dX2_findJoined_43 rfl ?_
      refine X_iald C0 (pc := 45) dX2_findJoined_45 h (fun v8 h => ?_)
      refine X_cS C0 (pc := 46) (e' := e_I) (as := [.int v8]) (rest := []) (s' := fun w => .int w :: []) (g' := (0, 0)) s_Finder_77 (fun Ψ hΨ => K_X2_wordsOf v8 M Ψ hΨ) rfl rfl (fun _ => rfl) (by decide) (by decide) rfl (Nat.le_of_ble_eq_true rfl) dX2_findJoined_46 h (fun v9 M1 h => ?_)
      refine j_iconst C0 (pc := 49) dX2_findJoined_49 (v := (1 : Int32)) (by decide) ?_
      refine j_iadd C0 (pc := 50) dX2_findJoined_50 ?_
      refine X_let (G := fun w => j_J X 10 51 [some (.ref v1), none, some (.ref v2), some (.int v3), some (.int v4), some (.int v5), some (.int v6), none, none, none] (.int w :: []) (0, 0) M1) h (fun v10 h => ?_)
      refine j_istore C0 (pc := 51) dX2_findJoined_51 (Nat.le_of_ble_eq_true rfl) ?_
      show j_J X 10 53 [some (.ref v1), none, some (.ref v2), some (.int v3), some (.int v4), some (.int v5), some (.int v6), some (.int v10), none, none] [] (0, 0) M1
      refine j_aload_n C0 (pc := 53) dX2_findJoined_53 rfl ?_
      refine j_aload_n C0 (pc := 54) dX2_findJoined_54 rfl ?_
      refine j_aload_n C0 (pc := 55) dX2_findJoined_55 rfl ?_
      refine X_gN C0 (pc := 56) f_Finder_15_2 rfl dX2_findJoined_56 h (fun v11 h => ?_)
      refine j_aload_n C0 (pc := 59) dX2_findJoined_59 rfl ?_
      refine X_gN C0 (pc := 60) f_Finder_22_2 rfl dX2_findJoined_60 h (fun v12 h => ?_)
      refine j_iload C0 (pc := 63) dX2_findJoined_63 rfl ?_
      refine X_iald C0 (pc := 65) dX2_findJoined_65 h (fun v13 h => ?_)
      refine j_iload C0 (pc := 66) dX2_findJoined_66 rfl ?_
      refine j_ixor C0 (pc := 68) dX2_findJoined_68 ?_
      refine X_cV C0 (pc := 69) (e' := e_V) (as := [.ref v2, .ref v11, .int (v13 ^^^ v4)]) (rest := []) (s' := fun _ => []) (g' := (0, 0)) v_Finder_93_2 (fun Ψ hΨ => K_X2_findRest v1 v2 v11 (v13 ^^^ v4) M1 Ψ hΨ) rfl rfl (fun _ => rfl) (by decide) (by decide) rfl (Nat.le_of_ble_eq_true rfl) dX2_findJoined_69 h (fun _ M2 h => ?_)
      refine j_iload C0 (pc := 72) dX2_findJoined_72 rfl ?_
      refine j_iconst C0 (pc := 74) dX2_findJoined_74 (v := (1 : Int32)) (by decide) ?_
      refine j_iadd C0 (pc := 75) dX2_findJoined_75 ?_
      refine X_let (G := fun w => j_J X 10 76 [some (.ref v1), none, some (.ref v2), some (.int v3), some (.int v4), some (.int v5), some (.int v6), some (.int v10), none, none] (.int w :: []) (0, 0) M2) h (fun v14 h => ?_)
      refine j_istore C0 (pc := 76) dX2_findJoined_76 (Nat.le_of_ble_eq_true rfl) ?_
      show j_J X 10 78 [some (.ref v1), none, some (.ref v2), some (.int v3), some (.int v4), some (.int v5), some (.int v6), some (.int v10), some (.int v14), none] [] (0, 0) M2
      refine X_join (fun (kj : Nat → Nat → Int32 → Int32 → Int32 → Int32 → m_M → Option (Unit × m_M)) => ∀ (p0 : Nat) (p1 : Nat) (p2 : Int32) (p3 : Int32) (p4 : Int32) (p5 : Int32) (M : m_M), m_ok e_V Φ (kj p0 p1 p2 p3 p4 p5 M) → j_J X 10 172 [some (.ref p0), none, some (.ref p1), some (.int p2), some (.int p3), some (.int p4), some (.int p5), none, none, none] [] (0, 0) M) h (fun v15 v16 v17 v18 v19 v20 M3 h => ?_) (fun k172 hk172 h => ?_)
      · refine j_iinc C0 (pc := 172) dX2_findJoined_172 (v := v20 + (1 : Int32)) rfl (Nat.le_of_ble_eq_true rfl) (by rfl) ?_
        refine X_let (G := fun w => j_J X 10 175 [some (.ref v15), none, some (.ref v16), some (.int v17), some (.int v18), some (.int v19), some (.int w), none, none, none] [] (0, 0) M3) h (fun v21 h => ?_)
        refine j_goto C0 (pc := 175) (tgt := 32) dX2_findJoined_175 (by decide) ?_
        exact j_J.wq (ih v15 v16 v17 v18 v19 v21 M3 h) (And.intro rfl (And.intro rfl (And.intro rfl (And.intro rfl (And.intro rfl (And.intro rfl (trivial)))))))
      · exact j_J.wq (L_X2_findJoined_78 C hk172 m_FU v1 v2 v3 v4 v5 v6 v10 v14 M2 h) (And.intro rfl (And.intro rfl (And.intro rfl (And.intro rfl (And.intro rfl (And.intro rfl (And.intro rfl (And.intro rfl (trivial)))))))))
set_option maxHeartbeats 4000000 in
theorem K_X2_findJoined (a0 : Nat) (a1 : Nat) (a2 : Nat) (a3 : Int32) (M : m_M) (Φ : Option Value → m_M → Prop) (h : m_ok e_V Φ (F_X2_findJoined a0 a1 a2 a3 M)) : j_Ct yX2_findJoined cX2_findJoined 10 none 6 0 0 [.ref a0, .ref a1, .ref a2, .int a3] M Φ := by
  refine j_Ct.of (by decide +kernel) (Nat.le_of_ble_eq_true rfl) fun X C => ?_
  have C0 := C.1
  show j_J X 10 0 [some (.ref a0), some (.ref a1), some (.ref a2), some (.int a3), none, none, none, none, none, none] [] (0, 0) M
  unfold F_X2_findJoined at h
  refine X_join (fun (kj : Nat → Nat → Nat → Int32 → Int32 → m_M → Option (Unit × m_M)) => ∀ (p0 : Nat) (p1 : Nat) (p2 : Nat) (p3 : Int32) (p4 : Int32) (M : m_M), m_ok e_V Φ (kj p0 p1 p2 p3 p4 M) → j_J X 10 10 [some (.ref p0), some (.ref p1), some (.ref p2), some (.int p3), none, none, none, none, none, none] [.int p4] (0, 0) M) h (fun v1 v2 v3 v4 v5 M1 h => ?_) (fun k10 hk10 h => ?_)
  · refine j_istore C0 (pc := 10) dX2_findJoined_10 (Nat.le_of_ble_eq_true rfl) ?_
    show j_J X 10 12 [some (.ref v1), some (.ref v2), some (.ref v3), some (.int v4), some (.int v5), none, none, none, none, none] [] (0, 0) M1
    refine j_aload_n C0 (pc := 12) dX2_findJoined_12 rfl ?_
    refine j_aload_n C0 (pc := 13) dX2_findJoined_13 rfl ?_
    refine j_aload_n C0 (pc := 14) dX2_findJoined_14 rfl ?_
    refine X_gN C0 (pc := 15) f_Finder_15_2 rfl dX2_findJoined_15 h (fun v6 h => ?_)
    refine j_iload C0 (pc := 18) dX2_findJoined_18 rfl ?_
    refine j_aload_n C0 (pc := 20) dX2_findJoined_20 rfl ?_
    refine X_gN C0 (pc := 21) f_Finder_22_2 rfl dX2_findJoined_21 h (fun v7 h => ?_)
    refine X_cV C0 (pc := 24) (e' := e_I) (as := [.ref v2, .ref v6, .int v5, .ref v7]) (rest := []) (s' := fun w => .int w :: []) (g' := (0, 0)) v_Finder_89_2 (fun Ψ hΨ => K_X2_listAbove v1 v2 v6 v5 v7 M1 Ψ hΨ) rfl rfl (fun _ => rfl) (by decide) (by decide) rfl (Nat.le_of_ble_eq_true rfl) dX2_findJoined_24 h (fun v8 M2 h => ?_)
    refine j_istore C0 (pc := 27) dX2_findJoined_27 (Nat.le_of_ble_eq_true rfl) ?_
    show j_J X 10 29 [some (.ref v1), some (.ref v2), some (.ref v3), some (.int v4), some (.int v5), some (.int v8), none, none, none, none] [] (0, 0) M2
    refine j_iconst C0 (pc := 29) dX2_findJoined_29 (v := (0 : Int32)) (by decide) ?_
    refine j_istore C0 (pc := 30) dX2_findJoined_30 (Nat.le_of_ble_eq_true rfl) ?_
    show j_J X 10 32 [some (.ref v1), some (.ref v2), some (.ref v3), some (.int v4), some (.int v5), some (.int v8), some (.int (0 : Int32)), none, none, none] [] (0, 0) M2
    exact j_J.wq (L_X2_findJoined_32 C m_FU v1 v3 v4 v5 v8 (0 : Int32) M2 h) (And.intro rfl (And.intro rfl (And.intro rfl (And.intro rfl (And.intro rfl (And.intro rfl (trivial)))))))
  · refine j_iload_n C0 (pc := 0) dX2_findJoined_0 rfl ?_
    refine j_iconst C0 (pc := 1) dX2_findJoined_1 (v := (2 : Int32)) (by decide) ?_
    refine j_icmp_ne C0 (pc := 2) (tgt := 9) dX2_findJoined_2 (by decide) (fun hc => ?_) (fun hc => ?_)
    · replace h := (X_if h).2 hc
      refine j_iconst C0 (pc := 9) dX2_findJoined_9 (v := (0 : Int32)) (by decide) ?_
      exact j_J.wq (hk10 a0 a1 a2 a3 (0 : Int32) M h) (And.intro rfl (And.intro rfl (And.intro rfl (And.intro rfl (trivial)))))
    · replace h := (X_if h).1 hc
      refine j_iconst C0 (pc := 5) dX2_findJoined_5 (v := (1 : Int32)) (by decide) ?_
      refine j_goto C0 (pc := 6) (tgt := 10) dX2_findJoined_6 (by decide) ?_
      exact j_J.wq (hk10 a0 a1 a2 a3 (1 : Int32) M h) (And.intro rfl (And.intro rfl (And.intro rfl (And.intro rfl (trivial)))))
theorem dX2_findShortest_0 : decode cX2_findShortest 0 = .ok (.aload_n 0, 1) := by decide +kernel
theorem dX2_findShortest_1 : decode cX2_findShortest 1 = .ok (.bipush 99, 2) := by decide +kernel
theorem dX2_findShortest_3 : decode cX2_findShortest 3 = .ok (.putfield 42, 3) := by decide +kernel
theorem dX2_findShortest_6 : decode cX2_findShortest 6 = .ok (.aload_n 0, 1) := by decide +kernel
theorem dX2_findShortest_7 : decode cX2_findShortest 7 = .ok (.iload_n 2, 1) := by decide +kernel
theorem dX2_findShortest_8 : decode cX2_findShortest 8 = .ok (.aload_n 0, 1) := by decide +kernel
theorem dX2_findShortest_9 : decode cX2_findShortest 9 = .ok (.getfield 15, 3) := by decide +kernel
theorem dX2_findShortest_12 : decode cX2_findShortest 12 = .ok (.invokevirtual 46, 3) := by decide +kernel
theorem dX2_findShortest_15 : decode cX2_findShortest 15 = .ok (.aload_n 0, 1) := by decide +kernel
theorem dX2_findShortest_16 : decode cX2_findShortest 16 = .ok (.aload_n 1, 1) := by decide +kernel
theorem dX2_findShortest_17 : decode cX2_findShortest 17 = .ok (.invokevirtual 50, 3) := by decide +kernel
theorem dX2_findShortest_20 : decode cX2_findShortest 20 = .ok (.aload_n 0, 1) := by decide +kernel
theorem dX2_findShortest_21 : decode cX2_findShortest 21 = .ok (.aload_n 1, 1) := by decide +kernel
theorem dX2_findShortest_22 : decode cX2_findShortest 22 = .ok (.invokevirtual 54, 3) := by decide +kernel
theorem dX2_findShortest_25 : decode cX2_findShortest 25 = .ok (.aload_n 0, 1) := by decide +kernel
theorem dX2_findShortest_26 : decode cX2_findShortest 26 = .ok (.getfield 42, 3) := by decide +kernel
theorem dX2_findShortest_29 : decode cX2_findShortest 29 = .ok (.bipush 99, 2) := by decide +kernel
theorem dX2_findShortest_31 : decode cX2_findShortest 31 = .ok (.if_icmp .ne 23, 3) := by decide +kernel
theorem dX2_findShortest_34 : decode cX2_findShortest 34 = .ok (.aload_n 0, 1) := by decide +kernel
theorem dX2_findShortest_35 : decode cX2_findShortest 35 = .ok (.aload_n 1, 1) := by decide +kernel
theorem dX2_findShortest_36 : decode cX2_findShortest 36 = .ok (.aload_n 0, 1) := by decide +kernel
theorem dX2_findShortest_37 : decode cX2_findShortest 37 = .ok (.getfield 31, 3) := by decide +kernel
theorem dX2_findShortest_40 : decode cX2_findShortest 40 = .ok (.iconst 1, 1) := by decide +kernel
theorem dX2_findShortest_41 : decode cX2_findShortest 41 = .ok (.invokevirtual 57, 3) := by decide +kernel
theorem dX2_findShortest_44 : decode cX2_findShortest 44 = .ok (.aload_n 0, 1) := by decide +kernel
theorem dX2_findShortest_45 : decode cX2_findShortest 45 = .ok (.aload_n 0, 1) := by decide +kernel
theorem dX2_findShortest_46 : decode cX2_findShortest 46 = .ok (.getfield 31, 3) := by decide +kernel
theorem dX2_findShortest_49 : decode cX2_findShortest 49 = .ok (.aload_n 1, 1) := by decide +kernel
theorem dX2_findShortest_50 : decode cX2_findShortest 50 = .ok (.iconst 2, 1) := by decide +kernel
theorem dX2_findShortest_51 : decode cX2_findShortest 51 = .ok (.invokevirtual 57, 3) := by decide +kernel
theorem dX2_findShortest_54 : decode cX2_findShortest 54 = .ok (.aload_n 0, 1) := by decide +kernel
theorem dX2_findShortest_55 : decode cX2_findShortest 55 = .ok (.getfield 42, 3) := by decide +kernel
theorem dX2_findShortest_58 : decode cX2_findShortest 58 = .ok (.bipush 99, 2) := by decide +kernel
theorem dX2_findShortest_60 : decode cX2_findShortest 60 = .ok (.if_icmp .eq 7, 3) := by decide +kernel
theorem dX2_findShortest_63 : decode cX2_findShortest 63 = .ok (.iconst 1, 1) := by decide +kernel
theorem dX2_findShortest_64 : decode cX2_findShortest 64 = .ok (.goto 4, 3) := by decide +kernel
theorem dX2_findShortest_67 : decode cX2_findShortest 67 = .ok (.iconst 0, 1) := by decide +kernel
theorem dX2_findShortest_68 : decode cX2_findShortest 68 = .ok (.ireturn, 1) := by decide +kernel
noncomputable def F_X2_findShortest (a0 : Nat) (a1 : Nat) (a2 : Int32) (M : m_M) : Option (Int32 × m_M) :=
  m_let (fun (v1 : Nat) (M1 : m_M) =>
    x_gI 2 M1 v1 0 fun v2 =>
    if v2 = (99 : Int32) then (
      some ((0 : Int32), M1)
    ) else
    some ((1 : Int32), M1)
  ) fun (k54 : Nat → m_M → Option (Int32 × m_M)) =>
  x_pI 2 M a0 0 (99 : Int32) fun M2 =>
  x_gN 2 M2 a0 6 fun v3 =>
  x_cV 2 M2 a0 (F_X2_spreadAll a0 a2 v3 M2) fun _ M3 =>
  x_cV 2 M3 a0 (F_X2_findOutside a0 a1 M3) fun _ M4 =>
  x_cV 2 M4 a0 (F_X2_findAlone a0 a1 M4) fun _ M5 =>
  x_gI 2 M5 a0 0 fun v4 =>
  if v4 = (99 : Int32) then (
    x_gN 2 M5 a0 10 fun v5 =>
    x_cV 2 M5 a0 (F_X2_findJoined a0 a1 v5 (1 : Int32) M5) fun _ M6 =>
    x_gN 2 M6 a0 10 fun v6 =>
    x_cV 2 M6 a0 (F_X2_findJoined a0 v6 a1 (2 : Int32) M6) fun _ M7 =>
    k54 a0 M7
  ) else
  k54 a0 M5
set_option maxHeartbeats 4000000 in
theorem K_X2_findShortest (a0 : Nat) (a1 : Nat) (a2 : Int32) (M : m_M) (Φ : Option Value → m_M → Prop) (h : m_ok e_I Φ (F_X2_findShortest a0 a1 a2 M)) : j_Ct yX2_findShortest cX2_findShortest 3 (some .boolean) 7 0 0 [.ref a0, .ref a1, .int a2] M Φ := by
  refine j_Ct.of (by decide +kernel) (Nat.le_of_ble_eq_true rfl) fun X C => ?_
  have C0 := C.1
  show j_J X 3 0 [some (.ref a0), some (.ref a1), some (.int a2)] [] (0, 0) M
  unfold F_X2_findShortest at h
  refine X_join (fun (kj : Nat → m_M → Option (Int32 × m_M)) => ∀ (p0 : Nat) (M : m_M), m_ok e_I Φ (kj p0 M) → j_J X 3 54 [some (.ref p0), none, none] [] (0, 0) M) h (fun v1 M1 h => ?_) (fun k54 hk54 h => ?_)
  · refine j_aload_n C0 (pc := 54) dX2_findShortest_54 rfl ?_
    refine X_gI C0 (pc := 55) f_Finder_42_2 rfl dX2_findShortest_55 h (fun v2 h => ?_)
    refine j_bipush C0 (pc := 58) dX2_findShortest_58 (v := (99 : Int32)) (by decide) ?_
    refine j_icmp_eq C0 (pc := 60) (tgt := 67) dX2_findShortest_60 (by decide) (fun hc => ?_) (fun hc => ?_)
    · replace h := (X_if h).1 hc
      refine j_iconst C0 (pc := 67) dX2_findShortest_67 (v := (0 : Int32)) (by decide) ?_
      exact j_zret C rfl (by decide) h dX2_findShortest_68 (by decide)
    · replace h := (X_if h).2 hc
      refine j_iconst C0 (pc := 63) dX2_findShortest_63 (v := (1 : Int32)) (by decide) ?_
      refine j_goto C0 (pc := 64) (tgt := 68) dX2_findShortest_64 (by decide) ?_
      exact j_zret C rfl (by decide) h dX2_findShortest_68 (by decide)
  · refine j_aload_n C0 (pc := 0) dX2_findShortest_0 rfl ?_
    refine j_bipush C0 (pc := 1) dX2_findShortest_1 (v := (99 : Int32)) (by decide) ?_
    refine X_pI C0 (pc := 3) f_Finder_42_2 rfl rfl dX2_findShortest_3 h (fun M2 h => ?_)
    refine j_aload_n C0 (pc := 6) dX2_findShortest_6 rfl ?_
    refine j_iload_n C0 (pc := 7) dX2_findShortest_7 rfl ?_
    refine j_aload_n C0 (pc := 8) dX2_findShortest_8 rfl ?_
    refine X_gN C0 (pc := 9) f_Finder_15_2 rfl dX2_findShortest_9 h (fun v3 h => ?_)
    refine X_cV C0 (pc := 12) (e' := e_V) (as := [.int a2, .ref v3]) (rest := []) (s' := fun _ => []) (g' := (0, 0)) v_Finder_46_2 (fun Ψ hΨ => K_X2_spreadAll a0 a2 v3 M2 Ψ hΨ) rfl rfl (fun _ => rfl) (by decide) (by decide) rfl (Nat.le_of_ble_eq_true rfl) dX2_findShortest_12 h (fun _ M3 h => ?_)
    refine j_aload_n C0 (pc := 15) dX2_findShortest_15 rfl ?_
    refine j_aload_n C0 (pc := 16) dX2_findShortest_16 rfl ?_
    refine X_cV C0 (pc := 17) (e' := e_V) (as := [.ref a1]) (rest := []) (s' := fun _ => []) (g' := (0, 0)) v_Finder_50_2 (fun Ψ hΨ => K_X2_findOutside a0 a1 M3 Ψ hΨ) rfl rfl (fun _ => rfl) (by decide) (by decide) rfl (Nat.le_of_ble_eq_true rfl) dX2_findShortest_17 h (fun _ M4 h => ?_)
    refine j_aload_n C0 (pc := 20) dX2_findShortest_20 rfl ?_
    refine j_aload_n C0 (pc := 21) dX2_findShortest_21 rfl ?_
    refine X_cV C0 (pc := 22) (e' := e_V) (as := [.ref a1]) (rest := []) (s' := fun _ => []) (g' := (0, 0)) v_Finder_54_2 (fun Ψ hΨ => K_X2_findAlone a0 a1 M4 Ψ hΨ) rfl rfl (fun _ => rfl) (by decide) (by decide) rfl (Nat.le_of_ble_eq_true rfl) dX2_findShortest_22 h (fun _ M5 h => ?_)
    refine j_aload_n C0 (pc := 25) dX2_findShortest_25 rfl ?_
    refine X_gI C0 (pc := 26) f_Finder_42_2 rfl dX2_findShortest_26 h (fun v4 h => ?_)
    refine j_bipush C0 (pc := 29) dX2_findShortest_29 (v := (99 : Int32)) (by decide) ?_
    refine j_icmp_ne C0 (pc := 31) (tgt := 54) dX2_findShortest_31 (by decide) (fun hc => ?_) (fun hc => ?_)
    · replace h := (X_if h).2 hc
      exact j_J.wq (hk54 a0 M5 h) (And.intro rfl (trivial))
    · replace h := (X_if h).1 hc
      refine j_aload_n C0 (pc := 34) dX2_findShortest_34 rfl ?_
      refine j_aload_n C0 (pc := 35) dX2_findShortest_35 rfl ?_
      refine j_aload_n C0 (pc := 36) dX2_findShortest_36 rfl ?_
      refine X_gN C0 (pc := 37) f_Finder_31_2 rfl dX2_findShortest_37 h (fun v5 h => ?_)
      refine j_iconst C0 (pc := 40) dX2_findShortest_40 (v := (1 : Int32)) (by decide) ?_
      refine X_cV C0 (pc := 41) (e' := e_V) (as := [.ref a1, .ref v5, .int (1 : Int32)]) (rest := []) (s' := fun _ => []) (g' := (0, 0)) v_Finder_57_2 (fun Ψ hΨ => K_X2_findJoined a0 a1 v5 (1 : Int32) M5 Ψ hΨ) rfl rfl (fun _ => rfl) (by decide) (by decide) rfl (Nat.le_of_ble_eq_true rfl) dX2_findShortest_41 h (fun _ M6 h => ?_)
      refine j_aload_n C0 (pc := 44) dX2_findShortest_44 rfl ?_
      refine j_aload_n C0 (pc := 45) dX2_findShortest_45 rfl ?_
      refine X_gN C0 (pc := 46) f_Finder_31_2 rfl dX2_findShortest_46 h (fun v6 h => ?_)
      refine j_aload_n C0 (pc := 49) dX2_findShortest_49 rfl ?_
      refine j_iconst C0 (pc := 50) dX2_findShortest_50 (v := (2 : Int32)) (by decide) ?_
      refine X_cV C0 (pc := 51) (e' := e_V) (as := [.ref v6, .ref a1, .int (2 : Int32)]) (rest := []) (s' := fun _ => []) (g' := (0, 0)) v_Finder_57_2 (fun Ψ hΨ => K_X2_findJoined a0 v6 a1 (2 : Int32) M6 Ψ hΨ) rfl rfl (fun _ => rfl) (by decide) (by decide) rfl (Nat.le_of_ble_eq_true rfl) dX2_findShortest_51 h (fun _ M7 h => ?_)
      exact j_J.wq (hk54 a0 M7 h) (And.intro rfl (trivial))
theorem dX11_shortest_0 : decode cX11_shortest 0 = .ok (.aload_n 0, 1) := by decide +kernel
theorem dX11_shortest_1 : decode cX11_shortest 1 = .ok (.invokevirtual 113, 3) := by decide +kernel
theorem dX11_shortest_4 : decode cX11_shortest 4 = .ok (.istore_n 3, 1) := by decide +kernel
theorem dX11_shortest_5 : decode cX11_shortest 5 = .ok (.iload_n 1, 1) := by decide +kernel
theorem dX11_shortest_6 : decode cX11_shortest 6 = .ok (.ifCond .lt 27, 3) := by decide +kernel
theorem dX11_shortest_9 : decode cX11_shortest 9 = .ok (.iload_n 2, 1) := by decide +kernel
theorem dX11_shortest_10 : decode cX11_shortest 10 = .ok (.ifCond .lt 23, 3) := by decide +kernel
theorem dX11_shortest_13 : decode cX11_shortest 13 = .ok (.iload_n 2, 1) := by decide +kernel
theorem dX11_shortest_14 : decode cX11_shortest 14 = .ok (.iconst 3, 1) := by decide +kernel
theorem dX11_shortest_15 : decode cX11_shortest 15 = .ok (.if_icmp .gt 18, 3) := by decide +kernel
theorem dX11_shortest_18 : decode cX11_shortest 18 = .ok (.aload_n 0, 1) := by decide +kernel
theorem dX11_shortest_19 : decode cX11_shortest 19 = .ok (.getfield 65, 3) := by decide +kernel
theorem dX11_shortest_22 : decode cX11_shortest 22 = .ok (.invokevirtual 205, 3) := by decide +kernel
theorem dX11_shortest_25 : decode cX11_shortest 25 = .ok (.ifCond .eq 8, 3) := by decide +kernel
theorem dX11_shortest_28 : decode cX11_shortest 28 = .ok (.iload_n 3, 1) := by decide +kernel
theorem dX11_shortest_29 : decode cX11_shortest 29 = .ok (.iconst (-1), 1) := by decide +kernel
theorem dX11_shortest_30 : decode cX11_shortest 30 = .ok (.if_icmp .ne 5, 3) := by decide +kernel
theorem dX11_shortest_33 : decode cX11_shortest 33 = .ok (.iconst (-1), 1) := by decide +kernel
theorem dX11_shortest_34 : decode cX11_shortest 34 = .ok (.ireturn, 1) := by decide +kernel
theorem dX11_shortest_35 : decode cX11_shortest 35 = .ok (.aload_n 0, 1) := by decide +kernel
theorem dX11_shortest_36 : decode cX11_shortest 36 = .ok (.getfield 44, 3) := by decide +kernel
theorem dX11_shortest_39 : decode cX11_shortest 39 = .ok (.aload_n 0, 1) := by decide +kernel
theorem dX11_shortest_40 : decode cX11_shortest 40 = .ok (.getfield 65, 3) := by decide +kernel
theorem dX11_shortest_43 : decode cX11_shortest 43 = .ok (.getfield 140, 3) := by decide +kernel
theorem dX11_shortest_46 : decode cX11_shortest 46 = .ok (.aload_n 0, 1) := by decide +kernel
theorem dX11_shortest_47 : decode cX11_shortest 47 = .ok (.getfield 16, 3) := by decide +kernel
theorem dX11_shortest_50 : decode cX11_shortest 50 = .ok (.iload_n 1, 1) := by decide +kernel
theorem dX11_shortest_51 : decode cX11_shortest 51 = .ok (.invokevirtual 162, 3) := by decide +kernel
theorem dX11_shortest_54 : decode cX11_shortest 54 = .ok (.aload_n 0, 1) := by decide +kernel
theorem dX11_shortest_55 : decode cX11_shortest 55 = .ok (.getfield 84, 3) := by decide +kernel
theorem dX11_shortest_58 : decode cX11_shortest 58 = .ok (.invokevirtual 208, 3) := by decide +kernel
theorem dX11_shortest_61 : decode cX11_shortest 61 = .ok (.aload_n 0, 1) := by decide +kernel
theorem dX11_shortest_62 : decode cX11_shortest 62 = .ok (.getfield 51, 3) := by decide +kernel
theorem dX11_shortest_65 : decode cX11_shortest 65 = .ok (.aload_n 0, 1) := by decide +kernel
theorem dX11_shortest_66 : decode cX11_shortest 66 = .ok (.getfield 84, 3) := by decide +kernel
theorem dX11_shortest_69 : decode cX11_shortest 69 = .ok (.iload_n 3, 1) := by decide +kernel
theorem dX11_shortest_70 : decode cX11_shortest 70 = .ok (.invokevirtual 242, 3) := by decide +kernel
theorem dX11_shortest_73 : decode cX11_shortest 73 = .ok (.ifCond .ne 5, 3) := by decide +kernel
theorem dX11_shortest_76 : decode cX11_shortest 76 = .ok (.iconst (-1), 1) := by decide +kernel
theorem dX11_shortest_77 : decode cX11_shortest 77 = .ok (.ireturn, 1) := by decide +kernel
theorem dX11_shortest_78 : decode cX11_shortest 78 = .ok (.iload_n 2, 1) := by decide +kernel
theorem dX11_shortest_79 : decode cX11_shortest 79 = .ok (.tableswitch 49 0 2 #[25, 33, 41], 25) := by decide +kernel
theorem dX11_shortest_104 : decode cX11_shortest 104 = .ok (.aload_n 0, 1) := by decide +kernel
theorem dX11_shortest_105 : decode cX11_shortest 105 = .ok (.getfield 51, 3) := by decide +kernel
theorem dX11_shortest_108 : decode cX11_shortest 108 = .ok (.getfield 245, 3) := by decide +kernel
theorem dX11_shortest_111 : decode cX11_shortest 111 = .ok (.ireturn, 1) := by decide +kernel
theorem dX11_shortest_112 : decode cX11_shortest 112 = .ok (.aload_n 0, 1) := by decide +kernel
theorem dX11_shortest_113 : decode cX11_shortest 113 = .ok (.getfield 51, 3) := by decide +kernel
theorem dX11_shortest_116 : decode cX11_shortest 116 = .ok (.getfield 248, 3) := by decide +kernel
theorem dX11_shortest_119 : decode cX11_shortest 119 = .ok (.ireturn, 1) := by decide +kernel
theorem dX11_shortest_120 : decode cX11_shortest 120 = .ok (.aload_n 0, 1) := by decide +kernel
theorem dX11_shortest_121 : decode cX11_shortest 121 = .ok (.getfield 51, 3) := by decide +kernel
theorem dX11_shortest_124 : decode cX11_shortest 124 = .ok (.getfield 251, 3) := by decide +kernel
theorem dX11_shortest_127 : decode cX11_shortest 127 = .ok (.ireturn, 1) := by decide +kernel
theorem dX11_shortest_128 : decode cX11_shortest 128 = .ok (.aload_n 0, 1) := by decide +kernel
theorem dX11_shortest_129 : decode cX11_shortest 129 = .ok (.getfield 51, 3) := by decide +kernel
theorem dX11_shortest_132 : decode cX11_shortest 132 = .ok (.getfield 254, 3) := by decide +kernel
theorem dX11_shortest_135 : decode cX11_shortest 135 = .ok (.ireturn, 1) := by decide +kernel
noncomputable def F_X11_shortest (a0 : Nat) (a1 : Int32) (a2 : Int32) (M : m_M) : Option (Int32 × m_M) :=
  x_cV 9 M a0 (F_X11_verbToday a0 M) fun v1 M1 =>
  if a1 < 0 then (
    some ((-1 : Int32), M1)
  ) else
  if a2 < 0 then (
    some ((-1 : Int32), M1)
  ) else
  if (3 : Int32) < a2 then (
    some ((-1 : Int32), M1)
  ) else
  x_gN 9 M1 a0 9 fun v2 =>
  x_cV 1 M1 v2 (F_X1_hasAsked v2 M1) fun v3 M2 =>
  if v3 = 0 then (
    some ((-1 : Int32), M2)
  ) else
  if v1 = (-1 : Int32) then (
    some ((-1 : Int32), M2)
  ) else
  x_gN 9 M2 a0 6 fun v4 =>
  x_gN 9 M2 a0 9 fun v5 =>
  x_gN 1 M2 v5 5 fun v6 =>
  x_gN 9 M2 a0 2 fun v7 =>
  x_cV 3 M2 v7 (F_X3_verbOf v7 a1 M2) fun v8 M3 =>
  x_gN 9 M3 a0 13 fun v9 =>
  x_cV 5 M3 v4 (F_X5_find v4 v6 v8 v9 M3) fun _ M4 =>
  x_gN 9 M4 a0 7 fun v10 =>
  x_gN 9 M4 a0 13 fun v11 =>
  x_cV 2 M4 v10 (F_X2_findShortest v10 v11 v1 M4) fun v12 M5 =>
  if v12 = 0 then (
    some ((-1 : Int32), M5)
  ) else
  if a2 = (0 : Int32) then (
    x_gN 9 M5 a0 7 fun v13 =>
    x_gI 2 M5 v13 0 fun v14 =>
    some (v14, M5)
  ) else
  if a2 = (1 : Int32) then (
    x_gN 9 M5 a0 7 fun v15 =>
    x_gI 2 M5 v15 1 fun v16 =>
    some (v16, M5)
  ) else
  if a2 = (2 : Int32) then (
    x_gN 9 M5 a0 7 fun v17 =>
    x_gI 2 M5 v17 2 fun v18 =>
    some (v18, M5)
  ) else
  x_gN 9 M5 a0 7 fun v19 =>
  x_gI 2 M5 v19 3 fun v20 =>
  some (v20, M5)
set_option maxHeartbeats 4000000 in
theorem K_X11_shortest (a0 : Nat) (a1 : Int32) (a2 : Int32) (M : m_M) (Φ : Option Value → m_M → Prop) (h : m_ok e_I Φ (F_X11_shortest a0 a1 a2 M)) : j_Ct yX11_shortest cX11_shortest 4 (some .int) 8 0 0 [.ref a0, .int a1, .int a2] M Φ := by
  refine j_Ct.of (by decide +kernel) (Nat.le_of_ble_eq_true rfl) fun X C => ?_
  have C0 := C.1
  show j_J X 4 0 [some (.ref a0), some (.int a1), some (.int a2), none] [] (0, 0) M
  unfold F_X11_shortest at h
  refine j_aload_n C0 (pc := 0) dX11_shortest_0 rfl ?_
  refine X_cV C0 (pc := 1) (e' := e_I) (as := []) (rest := []) (s' := fun w => .int w :: []) (g' := (0, 0)) v_OV_113_9 (fun Ψ hΨ => K_X11_verbToday a0 M Ψ hΨ) rfl rfl (fun _ => rfl) (by decide) (by decide) rfl (Nat.le_of_ble_eq_true rfl) dX11_shortest_1 h (fun v1 M1 h => ?_)
  refine j_istore_n C0 (pc := 4) dX11_shortest_4 (Nat.le_of_ble_eq_true rfl) ?_
  show j_J X 4 5 [some (.ref a0), some (.int a1), some (.int a2), some (.int v1)] [] (0, 0) M1
  refine j_iload_n C0 (pc := 5) dX11_shortest_5 rfl ?_
  refine j_if_lt C0 (pc := 6) (tgt := 33) dX11_shortest_6 (by decide) (fun hc => ?_) (fun hc => ?_)
  · replace h := (X_if h).1 hc
    refine j_iconst C0 (pc := 33) dX11_shortest_33 (v := (-1 : Int32)) (by decide) ?_
    exact j_iret C rfl h dX11_shortest_34 (by decide)
  · replace h := (X_if h).2 hc
    refine j_iload_n C0 (pc := 9) dX11_shortest_9 rfl ?_
    refine j_if_lt C0 (pc := 10) (tgt := 33) dX11_shortest_10 (by decide) (fun hc => ?_) (fun hc => ?_)
    · replace h := (X_if h).1 hc
      refine j_iconst C0 (pc := 33) dX11_shortest_33 (v := (-1 : Int32)) (by decide) ?_
      exact j_iret C rfl h dX11_shortest_34 (by decide)
    · replace h := (X_if h).2 hc
      refine j_iload_n C0 (pc := 13) dX11_shortest_13 rfl ?_
      refine j_iconst C0 (pc := 14) dX11_shortest_14 (v := (3 : Int32)) (by decide) ?_
      refine j_icmp_gt C0 (pc := 15) (tgt := 33) dX11_shortest_15 (by decide) (fun hc => ?_) (fun hc => ?_)
      · replace h := (X_if h).1 hc
        refine j_iconst C0 (pc := 33) dX11_shortest_33 (v := (-1 : Int32)) (by decide) ?_
        exact j_iret C rfl h dX11_shortest_34 (by decide)
      · replace h := (X_if h).2 hc
        refine j_aload_n C0 (pc := 18) dX11_shortest_18 rfl ?_
        refine X_gN C0 (pc := 19) f_OV_65_9 rfl dX11_shortest_19 h (fun v2 h => ?_)
        refine X_cV C0 (pc := 22) (e' := e_I) (as := []) (rest := []) (s' := fun w => .int w :: []) (g' := (0, 0)) v_OV_205_1 (fun Ψ hΨ => K_X1_hasAsked v2 M1 Ψ hΨ) rfl rfl (fun _ => rfl) (by decide) (by decide) rfl (Nat.le_of_ble_eq_true rfl) dX11_shortest_22 h (fun v3 M2 h => ?_)
        refine j_if_eq C0 (pc := 25) (tgt := 33) dX11_shortest_25 (by decide) (fun hc => ?_) (fun hc => ?_)
        · replace h := (X_if h).1 hc
          refine j_iconst C0 (pc := 33) dX11_shortest_33 (v := (-1 : Int32)) (by decide) ?_
          exact j_iret C rfl h dX11_shortest_34 (by decide)
        · replace h := (X_if h).2 hc
          refine j_iload_n C0 (pc := 28) dX11_shortest_28 rfl ?_
          refine j_iconst C0 (pc := 29) dX11_shortest_29 (v := (-1 : Int32)) (by decide) ?_
          refine j_icmp_ne C0 (pc := 30) (tgt := 35) dX11_shortest_30 (by decide) (fun hc => ?_) (fun hc => ?_)
          · replace h := (X_if h).2 hc
            refine j_aload_n C0 (pc := 35) dX11_shortest_35 rfl ?_
            refine X_gN C0 (pc := 36) f_OV_44_9 rfl dX11_shortest_36 h (fun v4 h => ?_)
            refine j_aload_n C0 (pc := 39) dX11_shortest_39 rfl ?_
            refine X_gN C0 (pc := 40) f_OV_65_9 rfl dX11_shortest_40 h (fun v5 h => ?_)
            refine X_gN C0 (pc := 43) f_OV_140_1 rfl dX11_shortest_43 h (fun v6 h => ?_)
            refine j_aload_n C0 (pc := 46) dX11_shortest_46 rfl ?_
            refine X_gN C0 (pc := 47) f_OV_16_9 rfl dX11_shortest_47 h (fun v7 h => ?_)
            refine j_iload_n C0 (pc := 50) dX11_shortest_50 rfl ?_
            refine X_cV C0 (pc := 51) (e' := e_I) (as := [.int a1]) (rest := [.ref v6, .ref v4]) (s' := fun w => .int w :: [.ref v6, .ref v4]) (g' := (0, 0)) v_OV_162_3 (fun Ψ hΨ => K_X3_verbOf v7 a1 M2 Ψ hΨ) rfl rfl (fun _ => rfl) (by decide) (by decide) rfl (Nat.le_of_ble_eq_true rfl) dX11_shortest_51 h (fun v8 M3 h => ?_)
            refine j_aload_n C0 (pc := 54) dX11_shortest_54 rfl ?_
            refine X_gN C0 (pc := 55) f_OV_84_9 rfl dX11_shortest_55 h (fun v9 h => ?_)
            refine X_cV C0 (pc := 58) (e' := e_V) (as := [.ref v6, .int v8, .ref v9]) (rest := []) (s' := fun _ => []) (g' := (0, 0)) v_OV_208_5 (fun Ψ hΨ => K_X5_find v4 v6 v8 v9 M3 Ψ hΨ) rfl rfl (fun _ => rfl) (by decide) (by decide) rfl (Nat.le_of_ble_eq_true rfl) dX11_shortest_58 h (fun _ M4 h => ?_)
            refine j_aload_n C0 (pc := 61) dX11_shortest_61 rfl ?_
            refine X_gN C0 (pc := 62) f_OV_51_9 rfl dX11_shortest_62 h (fun v10 h => ?_)
            refine j_aload_n C0 (pc := 65) dX11_shortest_65 rfl ?_
            refine X_gN C0 (pc := 66) f_OV_84_9 rfl dX11_shortest_66 h (fun v11 h => ?_)
            refine j_iload_n C0 (pc := 69) dX11_shortest_69 rfl ?_
            refine X_cV C0 (pc := 70) (e' := e_I) (as := [.ref v11, .int v1]) (rest := []) (s' := fun w => .int w :: []) (g' := (0, 0)) v_OV_242_2 (fun Ψ hΨ => K_X2_findShortest v10 v11 v1 M4 Ψ hΨ) rfl rfl (fun _ => rfl) (by decide) (by decide) rfl (Nat.le_of_ble_eq_true rfl) dX11_shortest_70 h (fun v12 M5 h => ?_)
            refine j_if_ne C0 (pc := 73) (tgt := 78) dX11_shortest_73 (by decide) (fun hc => ?_) (fun hc => ?_)
            · replace h := (X_if h).2 hc
              refine j_iload_n C0 (pc := 78) dX11_shortest_78 rfl ?_
              by_cases hc : a2 = (0 : Int32)
              · replace h := (X_if h).1 hc
                refine j_tableIn C0 (pc := 79) (off := 25) (tgt := 104) dX11_shortest_79 (by rw [hc]; decide) (by rw [hc]; decide) (by rw [hc]; decide) (by decide) ?_
                refine j_aload_n C0 (pc := 104) dX11_shortest_104 rfl ?_
                refine X_gN C0 (pc := 105) f_OV_51_9 rfl dX11_shortest_105 h (fun v13 h => ?_)
                refine X_gI C0 (pc := 108) f_OV_245_2 rfl dX11_shortest_108 h (fun v14 h => ?_)
                exact j_iret C rfl h dX11_shortest_111 (by decide)
              · replace h := (X_if h).2 hc
                have hn0 : ¬ a2 = Int32.ofInt (0) := hc
                by_cases hc : a2 = (1 : Int32)
                · replace h := (X_if h).1 hc
                  refine j_tableIn C0 (pc := 79) (off := 33) (tgt := 112) dX11_shortest_79 (by rw [hc]; decide) (by rw [hc]; decide) (by rw [hc]; decide) (by decide) ?_
                  refine j_aload_n C0 (pc := 112) dX11_shortest_112 rfl ?_
                  refine X_gN C0 (pc := 113) f_OV_51_9 rfl dX11_shortest_113 h (fun v15 h => ?_)
                  refine X_gI C0 (pc := 116) f_OV_248_2 rfl dX11_shortest_116 h (fun v16 h => ?_)
                  exact j_iret C rfl h dX11_shortest_119 (by decide)
                · replace h := (X_if h).2 hc
                  have hn1 : ¬ a2 = Int32.ofInt (1) := hc
                  by_cases hc : a2 = (2 : Int32)
                  · replace h := (X_if h).1 hc
                    refine j_tableIn C0 (pc := 79) (off := 41) (tgt := 120) dX11_shortest_79 (by rw [hc]; decide) (by rw [hc]; decide) (by rw [hc]; decide) (by decide) ?_
                    refine j_aload_n C0 (pc := 120) dX11_shortest_120 rfl ?_
                    refine X_gN C0 (pc := 121) f_OV_51_9 rfl dX11_shortest_121 h (fun v17 h => ?_)
                    refine X_gI C0 (pc := 124) f_OV_251_2 rfl dX11_shortest_124 h (fun v18 h => ?_)
                    exact j_iret C rfl h dX11_shortest_127 (by decide)
                  · replace h := (X_if h).2 hc
                    have hn2 : ¬ a2 = Int32.ofInt (2) := hc
                    have q0 := m_sw (k := 0) hn0
                    have q1 := m_sw (k := 1) hn1
                    have q2 := m_sw (k := 2) hn2
                    refine j_tableOut C0 (pc := 79) (tgt := 128) dX11_shortest_79 (by omega) (by decide) ?_
                    refine j_aload_n C0 (pc := 128) dX11_shortest_128 rfl ?_
                    refine X_gN C0 (pc := 129) f_OV_51_9 rfl dX11_shortest_129 h (fun v19 h => ?_)
                    refine X_gI C0 (pc := 132) f_OV_254_2 rfl dX11_shortest_132 h (fun v20 h => ?_)
                    exact j_iret C rfl h dX11_shortest_135 (by decide)
            · replace h := (X_if h).1 hc
              refine j_iconst C0 (pc := 76) dX11_shortest_76 (v := (-1 : Int32)) (by decide) ?_
              exact j_iret C rfl h dX11_shortest_77 (by decide)
          · replace h := (X_if h).1 hc
            refine j_iconst C0 (pc := 33) dX11_shortest_33 (v := (-1 : Int32)) (by decide) ?_
            exact j_iret C rfl h dX11_shortest_34 (by decide)
