theorem dX12_knowsNow_0 : decode cX12_knowsNow 0 = .ok (.iconst 0, 1) := by decide +kernel
theorem dX12_knowsNow_1 : decode cX12_knowsNow 1 = .ok (.istore_n 1, 1) := by decide +kernel
theorem dX12_knowsNow_2 : decode cX12_knowsNow 2 = .ok (.iconst 0, 1) := by decide +kernel
theorem dX12_knowsNow_3 : decode cX12_knowsNow 3 = .ok (.istore_n 2, 1) := by decide +kernel
theorem dX12_knowsNow_4 : decode cX12_knowsNow 4 = .ok (.iload_n 2, 1) := by decide +kernel
theorem dX12_knowsNow_5 : decode cX12_knowsNow 5 = .ok (.aload_n 0, 1) := by decide +kernel
theorem dX12_knowsNow_6 : decode cX12_knowsNow 6 = .ok (.getfield 13, 3) := by decide +kernel
theorem dX12_knowsNow_9 : decode cX12_knowsNow 9 = .ok (.iconst 3, 1) := by decide +kernel
theorem dX12_knowsNow_10 : decode cX12_knowsNow 10 = .ok (.iaload, 1) := by decide +kernel
theorem dX12_knowsNow_11 : decode cX12_knowsNow 11 = .ok (.if_icmp .ge 88, 3) := by decide +kernel
theorem dX12_knowsNow_14 : decode cX12_knowsNow 14 = .ok (.iconst 1, 1) := by decide +kernel
theorem dX12_knowsNow_15 : decode cX12_knowsNow 15 = .ok (.istore_n 3, 1) := by decide +kernel
theorem dX12_knowsNow_16 : decode cX12_knowsNow 16 = .ok (.iconst 0, 1) := by decide +kernel
theorem dX12_knowsNow_17 : decode cX12_knowsNow 17 = .ok (.istore 4, 2) := by decide +kernel
theorem dX12_knowsNow_19 : decode cX12_knowsNow 19 = .ok (.iload 4, 2) := by decide +kernel
theorem dX12_knowsNow_21 : decode cX12_knowsNow 21 = .ok (.aload_n 0, 1) := by decide +kernel
theorem dX12_knowsNow_22 : decode cX12_knowsNow 22 = .ok (.getfield 126, 3) := by decide +kernel
theorem dX12_knowsNow_25 : decode cX12_knowsNow 25 = .ok (.iconst 0, 1) := by decide +kernel
theorem dX12_knowsNow_26 : decode cX12_knowsNow 26 = .ok (.iaload, 1) := by decide +kernel
theorem dX12_knowsNow_27 : decode cX12_knowsNow 27 = .ok (.if_icmp .ge 52, 3) := by decide +kernel
theorem dX12_knowsNow_30 : decode cX12_knowsNow 30 = .ok (.aload_n 0, 1) := by decide +kernel
theorem dX12_knowsNow_31 : decode cX12_knowsNow 31 = .ok (.aload_n 0, 1) := by decide +kernel
theorem dX12_knowsNow_32 : decode cX12_knowsNow 32 = .ok (.getfield 120, 3) := by decide +kernel
theorem dX12_knowsNow_35 : decode cX12_knowsNow 35 = .ok (.iload 4, 2) := by decide +kernel
theorem dX12_knowsNow_37 : decode cX12_knowsNow 37 = .ok (.iaload, 1) := by decide +kernel
theorem dX12_knowsNow_38 : decode cX12_knowsNow 38 = .ok (.invokevirtual 402, 3) := by decide +kernel
theorem dX12_knowsNow_41 : decode cX12_knowsNow 41 = .ok (.iload_n 3, 1) := by decide +kernel
theorem dX12_knowsNow_42 : decode cX12_knowsNow 42 = .ok (.ifCond .eq 29, 3) := by decide +kernel
theorem dX12_knowsNow_45 : decode cX12_knowsNow 45 = .ok (.aload_n 0, 1) := by decide +kernel
theorem dX12_knowsNow_46 : decode cX12_knowsNow 46 = .ok (.aload_n 0, 1) := by decide +kernel
theorem dX12_knowsNow_47 : decode cX12_knowsNow 47 = .ok (.getfield 117, 3) := by decide +kernel
theorem dX12_knowsNow_50 : decode cX12_knowsNow 50 = .ok (.iload 4, 2) := by decide +kernel
theorem dX12_knowsNow_52 : decode cX12_knowsNow 52 = .ok (.iaload, 1) := by decide +kernel
theorem dX12_knowsNow_53 : decode cX12_knowsNow 53 = .ok (.iload_n 2, 1) := by decide +kernel
theorem dX12_knowsNow_54 : decode cX12_knowsNow 54 = .ok (.invokevirtual 478, 3) := by decide +kernel
theorem dX12_knowsNow_57 : decode cX12_knowsNow 57 = .ok (.aload_n 0, 1) := by decide +kernel
theorem dX12_knowsNow_58 : decode cX12_knowsNow 58 = .ok (.getfield 123, 3) := by decide +kernel
theorem dX12_knowsNow_61 : decode cX12_knowsNow 61 = .ok (.iload 4, 2) := by decide +kernel
theorem dX12_knowsNow_63 : decode cX12_knowsNow 63 = .ok (.baload, 1) := by decide +kernel
theorem dX12_knowsNow_64 : decode cX12_knowsNow 64 = .ok (.if_icmp .ne 7, 3) := by decide +kernel
theorem dX12_knowsNow_67 : decode cX12_knowsNow 67 = .ok (.iconst 1, 1) := by decide +kernel
theorem dX12_knowsNow_68 : decode cX12_knowsNow 68 = .ok (.goto 4, 3) := by decide +kernel
theorem dX12_knowsNow_71 : decode cX12_knowsNow 71 = .ok (.iconst 0, 1) := by decide +kernel
theorem dX12_knowsNow_72 : decode cX12_knowsNow 72 = .ok (.istore_n 3, 1) := by decide +kernel
theorem dX12_knowsNow_73 : decode cX12_knowsNow 73 = .ok (.iinc 4 1, 3) := by decide +kernel
theorem dX12_knowsNow_76 : decode cX12_knowsNow 76 = .ok (.goto (-57), 3) := by decide +kernel
theorem dX12_knowsNow_79 : decode cX12_knowsNow 79 = .ok (.iload_n 1, 1) := by decide +kernel
theorem dX12_knowsNow_80 : decode cX12_knowsNow 80 = .ok (.iload_n 3, 1) := by decide +kernel
theorem dX12_knowsNow_81 : decode cX12_knowsNow 81 = .ok (.ifCond .eq 9, 3) := by decide +kernel
theorem dX12_knowsNow_84 : decode cX12_knowsNow 84 = .ok (.iconst 1, 1) := by decide +kernel
theorem dX12_knowsNow_85 : decode cX12_knowsNow 85 = .ok (.iload_n 2, 1) := by decide +kernel
theorem dX12_knowsNow_86 : decode cX12_knowsNow 86 = .ok (.ishl, 1) := by decide +kernel
theorem dX12_knowsNow_87 : decode cX12_knowsNow 87 = .ok (.goto 4, 3) := by decide +kernel
theorem dX12_knowsNow_90 : decode cX12_knowsNow 90 = .ok (.iconst 0, 1) := by decide +kernel
theorem dX12_knowsNow_91 : decode cX12_knowsNow 91 = .ok (.ior, 1) := by decide +kernel
theorem dX12_knowsNow_92 : decode cX12_knowsNow 92 = .ok (.istore_n 1, 1) := by decide +kernel
theorem dX12_knowsNow_93 : decode cX12_knowsNow 93 = .ok (.iinc 2 1, 3) := by decide +kernel
theorem dX12_knowsNow_96 : decode cX12_knowsNow 96 = .ok (.goto (-92), 3) := by decide +kernel
theorem dX12_knowsNow_99 : decode cX12_knowsNow 99 = .ok (.iload_n 1, 1) := by decide +kernel
theorem dX12_knowsNow_100 : decode cX12_knowsNow 100 = .ok (.ireturn, 1) := by decide +kernel
noncomputable def F_X12_knowsNow_19 (k79 : Nat → Int32 → Int32 → Int32 → m_M → Option (Int32 × m_M)) : Nat → Nat → Int32 → Int32 → Int32 → Int32 → m_M → Option (Int32 × m_M)
  | 0, _, _, _, _, _, _ => none
  | n + 1, v1, v2, v3, v4, v5, M =>
    x_gN 10 M v1 59 fun v6 =>
    x_aI 12 M v6 (0 : Int32) fun v7 =>
    if v7 ≤ v5 then (
      k79 v1 v2 v3 v4 M
    ) else
    m_let (fun (v8 : Nat) (v9 : Int32) (v10 : Int32) (v11 : Int32) (v12 : Int32) (M1 : m_M) =>
      m_let (v11 + (1 : Int32)) fun v13 =>
      F_X12_knowsNow_19 k79 n v8 v9 v10 v12 v13 M1
    ) fun (k72 : Nat → Int32 → Int32 → Int32 → Int32 → m_M → Option (Int32 × m_M)) =>
    m_let (fun (v14 : Nat) (v15 : Int32) (v16 : Int32) (v17 : Int32) (M2 : m_M) =>
      k72 v14 v15 v16 v17 (0 : Int32) M2
    ) fun (k71 : Nat → Int32 → Int32 → Int32 → m_M → Option (Int32 × m_M)) =>
    x_gN 10 M v1 57 fun v18 =>
    x_aI 12 M v18 v5 fun v19 =>
    x_cV 10 M v1 (F_X12_shows v1 v19 M) fun _ M3 =>
    if v4 = 0 then (
      k71 v1 v2 v3 v5 M3
    ) else
    x_gN 10 M3 v1 56 fun v20 =>
    x_aI 12 M3 v20 v5 fun v21 =>
    x_cV 10 M3 v1 (F_X12_clauseHolds v1 v21 v3 M3) fun v22 M4 =>
    x_gN 10 M4 v1 58 fun v23 =>
    x_aI 14 M4 v23 v5 fun v24 =>
    if v22 = v24 then (
      k72 v1 v2 v3 v5 (1 : Int32) M4
    ) else
    k71 v1 v2 v3 v5 M4
noncomputable def F_X12_knowsNow_4 : Nat → Nat → Int32 → Int32 → m_M → Option (Int32 × m_M)
  | 0, _, _, _, _ => none
  | n + 1, v1, v2, v3, M =>
    x_gN 10 M v1 10 fun v4 =>
    x_aI 12 M v4 (3 : Int32) fun v5 =>
    if v5 ≤ v3 then (
      some (v2, M)
    ) else
    m_let (fun (v6 : Nat) (v7 : Int32) (v8 : Int32) (v9 : Int32) (M1 : m_M) =>
      m_let (fun (v10 : Nat) (v11 : Int32) (v12 : Int32) (v13 : Int32) (M2 : m_M) =>
        m_let (v12 ||| v13) fun v14 =>
        m_let (v11 + (1 : Int32)) fun v15 =>
        F_X12_knowsNow_4 n v10 v14 v15 M2
      ) fun (k91 : Nat → Int32 → Int32 → Int32 → m_M → Option (Int32 × m_M)) =>
      if v9 = 0 then (
        k91 v6 v8 v7 (0 : Int32) M1
      ) else
      k91 v6 v8 v7 ((1 : Int32) <<< (v8 &&& 31)) M1
    ) fun (k79 : Nat → Int32 → Int32 → Int32 → m_M → Option (Int32 × m_M)) =>
    F_X12_knowsNow_19 k79 m_FU v1 v2 v3 (1 : Int32) (0 : Int32) M
noncomputable def F_X12_knowsNow (a0 : Nat) (M : m_M) : Option (Int32 × m_M) :=
  F_X12_knowsNow_4 m_FU a0 (0 : Int32) (0 : Int32) M
set_option maxHeartbeats 4000000 in
theorem L_X12_knowsNow_19 {X : j_X} {Φ : Option Value → m_M → Prop} (C : j_C X yX12_knowsNow cX12_knowsNow 5 (some .int) 8 0 0 Φ) {k79 : Nat → Int32 → Int32 → Int32 → m_M → Option (Int32 × m_M)} (hk79 : ∀ (p0 : Nat) (p1 : Int32) (p2 : Int32) (p3 : Int32) (M : m_M), m_ok e_I Φ (k79 p0 p1 p2 p3 M) → j_J X 5 79 [some (.ref p0), some (.int p1), some (.int p2), some (.int p3), none] [] (0, 0) M) : ∀ (n : Nat) (v1 : Nat) (v2 : Int32) (v3 : Int32) (v4 : Int32) (v5 : Int32) (M : m_M), m_ok e_I Φ (F_X12_knowsNow_19 k79 n v1 v2 v3 v4 v5 M) → j_J X 5 19 [some (.ref v1), some (.int v2), some (.int v3), some (.int v4), some (.int v5)] [] (0, 0) M := by
  have C0 := C.1
  intro n
  induction n with
  | zero => intro v1 v2 v3 v4 v5 M h; exact False.elim h
  | succ n ih =>
    intro v1 v2 v3 v4 v5 M h
    rw [F_X12_knowsNow_19] at h
    refine j_iload C0 (pc := 19) dX12_knowsNow_19 rfl ?_
    refine j_aload_n C0 (pc := 21) dX12_knowsNow_21 rfl ?_
    refine X_gN C0 (pc := 22) f_OM_126_10 rfl dX12_knowsNow_22 h (fun v6 h => ?_)
    refine j_iconst C0 (pc := 25) dX12_knowsNow_25 (v := (0 : Int32)) (by decide) ?_
    refine X_iald C0 (pc := 26) dX12_knowsNow_26 h (fun v7 h => ?_)
    refine j_icmp_ge C0 (pc := 27) (tgt := 79) dX12_knowsNow_27 (by decide) (fun hc => ?_) (fun hc => ?_)
    · replace h := (X_if h).1 hc
      exact j_J.wq (hk79 v1 v2 v3 v4 M h) (And.intro rfl (And.intro rfl (And.intro rfl (And.intro rfl (trivial)))))
    · replace h := (X_if h).2 hc
      refine X_join (fun (kj : Nat → Int32 → Int32 → Int32 → Int32 → m_M → Option (Int32 × m_M)) => ∀ (p0 : Nat) (p1 : Int32) (p2 : Int32) (p3 : Int32) (p4 : Int32) (M : m_M), m_ok e_I Φ (kj p0 p1 p2 p3 p4 M) → j_J X 5 72 [some (.ref p0), some (.int p1), some (.int p2), none, some (.int p3)] [.int p4] (0, 0) M) h (fun v8 v9 v10 v11 v12 M1 h => ?_) (fun k72 hk72 h => ?_)
      · refine j_istore_n C0 (pc := 72) dX12_knowsNow_72 (Nat.le_of_ble_eq_true rfl) ?_
        show j_J X 5 73 [some (.ref v8), some (.int v9), some (.int v10), some (.int v12), some (.int v11)] [] (0, 0) M1
        refine j_iinc C0 (pc := 73) dX12_knowsNow_73 (v := v11 + (1 : Int32)) rfl (Nat.le_of_ble_eq_true rfl) (by rfl) ?_
        refine X_let (G := fun w => j_J X 5 76 [some (.ref v8), some (.int v9), some (.int v10), some (.int v12), some (.int w)] [] (0, 0) M1) h (fun v13 h => ?_)
        refine j_goto C0 (pc := 76) (tgt := 19) dX12_knowsNow_76 (by decide) ?_
        exact j_J.wq (ih v8 v9 v10 v12 v13 M1 h) (And.intro rfl (And.intro rfl (And.intro rfl (And.intro rfl (And.intro rfl (trivial))))))
      · refine X_join (fun (kj : Nat → Int32 → Int32 → Int32 → m_M → Option (Int32 × m_M)) => ∀ (p0 : Nat) (p1 : Int32) (p2 : Int32) (p3 : Int32) (M : m_M), m_ok e_I Φ (kj p0 p1 p2 p3 M) → j_J X 5 71 [some (.ref p0), some (.int p1), some (.int p2), none, some (.int p3)] [] (0, 0) M) h (fun v14 v15 v16 v17 M2 h => ?_) (fun k71 hk71 h => ?_)
        · refine j_iconst C0 (pc := 71) dX12_knowsNow_71 (v := (0 : Int32)) (by decide) ?_
          exact j_J.wq (hk72 v14 v15 v16 v17 (0 : Int32) M2 h) (And.intro rfl (And.intro rfl (And.intro rfl (And.intro rfl (trivial)))))
        · refine j_aload_n C0 (pc := 30) dX12_knowsNow_30 rfl ?_
          refine j_aload_n C0 (pc := 31) dX12_knowsNow_31 rfl ?_
          refine X_gN C0 (pc := 32) f_OM_120_10 rfl dX12_knowsNow_32 h (fun v18 h => ?_)
          refine j_iload C0 (pc := 35) dX12_knowsNow_35 rfl ?_
          refine X_iald C0 (pc := 37) dX12_knowsNow_37 h (fun v19 h => ?_)
          refine X_cV C0 (pc := 38) (e' := e_V) (as := [.int v19]) (rest := []) (s' := fun _ => []) (g' := (0, 0)) v_OM_402_10 (fun Ψ hΨ => K_X12_shows v1 v19 M Ψ hΨ) rfl rfl (fun _ => rfl) (by decide) (by decide) rfl (Nat.le_of_ble_eq_true rfl) dX12_knowsNow_38 h (fun _ M3 h => ?_)
          refine j_iload_n C0 (pc := 41) dX12_knowsNow_41 rfl ?_
          refine j_if_eq C0 (pc := 42) (tgt := 71) dX12_knowsNow_42 (by decide) (fun hc => ?_) (fun hc => ?_)
          · replace h := (X_if h).1 hc
            exact j_J.wq (hk71 v1 v2 v3 v5 M3 h) (And.intro rfl (And.intro rfl (And.intro rfl (And.intro rfl (trivial)))))
          · replace h := (X_if h).2 hc
            refine j_aload_n C0 (pc := 45) dX12_knowsNow_45 rfl ?_
            refine j_aload_n C0 (pc := 46) dX12_knowsNow_46 rfl ?_
            refine X_gN C0 (pc := 47) f_OM_117_10 rfl dX12_knowsNow_47 h (fun v20 h => ?_)
            refine j_iload C0 (pc := 50) dX12_knowsNow_50 rfl ?_
            refine X_iald C0 (pc := 52) dX12_knowsNow_52 h (fun v21 h => ?_)
            refine j_iload_n C0 (pc := 53) dX12_knowsNow_53 rfl ?_
            refine X_cV C0 (pc := 54) (e' := e_I) (as := [.int v21, .int v3]) (rest := []) (s' := fun w => .int w :: []) (g' := (0, 0)) v_OM_478_10 (fun Ψ hΨ => K_X12_clauseHolds v1 v21 v3 M3 Ψ hΨ) rfl rfl (fun _ => rfl) (by decide) (by decide) rfl (Nat.le_of_ble_eq_true rfl) dX12_knowsNow_54 h (fun v22 M4 h => ?_)
            refine j_aload_n C0 (pc := 57) dX12_knowsNow_57 rfl ?_
            refine X_gN C0 (pc := 58) f_OM_123_10 rfl dX12_knowsNow_58 h (fun v23 h => ?_)
            refine j_iload C0 (pc := 61) dX12_knowsNow_61 rfl ?_
            refine X_zald C0 (pc := 63) dX12_knowsNow_63 h (fun v24 h => ?_)
            refine j_icmp_ne C0 (pc := 64) (tgt := 71) dX12_knowsNow_64 (by decide) (fun hc => ?_) (fun hc => ?_)
            · replace h := (X_if h).2 hc
              exact j_J.wq (hk71 v1 v2 v3 v5 M4 h) (And.intro rfl (And.intro rfl (And.intro rfl (And.intro rfl (trivial)))))
            · replace h := (X_if h).1 hc
              refine j_iconst C0 (pc := 67) dX12_knowsNow_67 (v := (1 : Int32)) (by decide) ?_
              refine j_goto C0 (pc := 68) (tgt := 72) dX12_knowsNow_68 (by decide) ?_
              exact j_J.wq (hk72 v1 v2 v3 v5 (1 : Int32) M4 h) (And.intro rfl (And.intro rfl (And.intro rfl (And.intro rfl (trivial)))))
set_option maxHeartbeats 4000000 in
theorem L_X12_knowsNow_4 {X : j_X} {Φ : Option Value → m_M → Prop} (C : j_C X yX12_knowsNow cX12_knowsNow 5 (some .int) 8 0 0 Φ) : ∀ (n : Nat) (v1 : Nat) (v2 : Int32) (v3 : Int32) (M : m_M), m_ok e_I Φ (F_X12_knowsNow_4 n v1 v2 v3 M) → j_J X 5 4 [some (.ref v1), some (.int v2), some (.int v3), none, none] [] (0, 0) M := by
  have C0 := C.1
  intro n
  induction n with
  | zero => intro v1 v2 v3 M h; exact False.elim h
  | succ n ih =>
    intro v1 v2 v3 M h
    rw [F_X12_knowsNow_4] at h
    refine j_iload_n C0 (pc := 4) dX12_knowsNow_4 rfl ?_
    refine j_aload_n C0 (pc := 5) dX12_knowsNow_5 rfl ?_
    refine X_gN C0 (pc := 6) f_OM_13_10 rfl dX12_knowsNow_6 h (fun v4 h => ?_)
    refine j_iconst C0 (pc := 9) dX12_knowsNow_9 (v := (3 : Int32)) (by decide) ?_
    refine X_iald C0 (pc := 10) dX12_knowsNow_10 h (fun v5 h => ?_)
    refine j_icmp_ge C0 (pc := 11) (tgt := 99) dX12_knowsNow_11 (by decide) (fun hc => ?_) (fun hc => ?_)
    · replace h := (X_if h).1 hc
      refine j_iload_n C0 (pc := 99) dX12_knowsNow_99 rfl ?_
      exact j_iret C rfl h dX12_knowsNow_100 (by decide)
    · replace h := (X_if h).2 hc
      refine j_iconst C0 (pc := 14) dX12_knowsNow_14 (v := (1 : Int32)) (by decide) ?_
      refine j_istore_n C0 (pc := 15) dX12_knowsNow_15 (Nat.le_of_ble_eq_true rfl) ?_
      show j_J X 5 16 [some (.ref v1), some (.int v2), some (.int v3), some (.int (1 : Int32)), none] [] (0, 0) M
      refine j_iconst C0 (pc := 16) dX12_knowsNow_16 (v := (0 : Int32)) (by decide) ?_
      refine j_istore C0 (pc := 17) dX12_knowsNow_17 (Nat.le_of_ble_eq_true rfl) ?_
      show j_J X 5 19 [some (.ref v1), some (.int v2), some (.int v3), some (.int (1 : Int32)), some (.int (0 : Int32))] [] (0, 0) M
      refine X_join (fun (kj : Nat → Int32 → Int32 → Int32 → m_M → Option (Int32 × m_M)) => ∀ (p0 : Nat) (p1 : Int32) (p2 : Int32) (p3 : Int32) (M : m_M), m_ok e_I Φ (kj p0 p1 p2 p3 M) → j_J X 5 79 [some (.ref p0), some (.int p1), some (.int p2), some (.int p3), none] [] (0, 0) M) h (fun v6 v7 v8 v9 M1 h => ?_) (fun k79 hk79 h => ?_)
      · refine X_join (fun (kj : Nat → Int32 → Int32 → Int32 → m_M → Option (Int32 × m_M)) => ∀ (p0 : Nat) (p1 : Int32) (p2 : Int32) (p3 : Int32) (M : m_M), m_ok e_I Φ (kj p0 p1 p2 p3 M) → j_J X 5 91 [some (.ref p0), none, some (.int p1), none, none] [.int p3, .int p2] (0, 0) M) h (fun v10 v11 v12 v13 M2 h => ?_) (fun k91 hk91 h => ?_)
        · refine j_ior C0 (pc := 91) dX12_knowsNow_91 ?_
          refine X_let (G := fun w => j_J X 5 92 [some (.ref v10), none, some (.int v11), none, none] (.int w :: []) (0, 0) M2) h (fun v14 h => ?_)
          refine j_istore_n C0 (pc := 92) dX12_knowsNow_92 (Nat.le_of_ble_eq_true rfl) ?_
          show j_J X 5 93 [some (.ref v10), some (.int v14), some (.int v11), none, none] [] (0, 0) M2
          refine j_iinc C0 (pc := 93) dX12_knowsNow_93 (v := v11 + (1 : Int32)) rfl (Nat.le_of_ble_eq_true rfl) (by rfl) ?_
          refine X_let (G := fun w => j_J X 5 96 [some (.ref v10), some (.int v14), some (.int w), none, none] [] (0, 0) M2) h (fun v15 h => ?_)
          refine j_goto C0 (pc := 96) (tgt := 4) dX12_knowsNow_96 (by decide) ?_
          exact j_J.wq (ih v10 v14 v15 M2 h) (And.intro rfl (And.intro rfl (And.intro rfl (trivial))))
        · refine j_iload_n C0 (pc := 79) dX12_knowsNow_79 rfl ?_
          refine j_iload_n C0 (pc := 80) dX12_knowsNow_80 rfl ?_
          refine j_if_eq C0 (pc := 81) (tgt := 90) dX12_knowsNow_81 (by decide) (fun hc => ?_) (fun hc => ?_)
          · replace h := (X_if h).1 hc
            refine j_iconst C0 (pc := 90) dX12_knowsNow_90 (v := (0 : Int32)) (by decide) ?_
            exact j_J.wq (hk91 v6 v8 v7 (0 : Int32) M1 h) (And.intro rfl (And.intro rfl (trivial)))
          · replace h := (X_if h).2 hc
            refine j_iconst C0 (pc := 84) dX12_knowsNow_84 (v := (1 : Int32)) (by decide) ?_
            refine j_iload_n C0 (pc := 85) dX12_knowsNow_85 rfl ?_
            refine j_ishl C0 (pc := 86) dX12_knowsNow_86 ?_
            refine j_goto C0 (pc := 87) (tgt := 91) dX12_knowsNow_87 (by decide) ?_
            exact j_J.wq (hk91 v6 v8 v7 ((1 : Int32) <<< (v8 &&& 31)) M1 h) (And.intro rfl (And.intro rfl (trivial)))
      · exact j_J.wq (L_X12_knowsNow_19 C hk79 m_FU v1 v2 v3 (1 : Int32) (0 : Int32) M h) (And.intro rfl (And.intro rfl (And.intro rfl (And.intro rfl (And.intro rfl (trivial))))))
set_option maxHeartbeats 4000000 in
theorem K_X12_knowsNow (a0 : Nat) (M : m_M) (Φ : Option Value → m_M → Prop) (h : m_ok e_I Φ (F_X12_knowsNow a0 M)) : j_Ct yX12_knowsNow cX12_knowsNow 5 (some .int) 8 0 0 [.ref a0] M Φ := by
  refine j_Ct.of (by decide +kernel) (Nat.le_of_ble_eq_true rfl) fun X C => ?_
  have C0 := C.1
  show j_J X 5 0 [some (.ref a0), none, none, none, none] [] (0, 0) M
  unfold F_X12_knowsNow at h
  refine j_iconst C0 (pc := 0) dX12_knowsNow_0 (v := (0 : Int32)) (by decide) ?_
  refine j_istore_n C0 (pc := 1) dX12_knowsNow_1 (Nat.le_of_ble_eq_true rfl) ?_
  show j_J X 5 2 [some (.ref a0), some (.int (0 : Int32)), none, none, none] [] (0, 0) M
  refine j_iconst C0 (pc := 2) dX12_knowsNow_2 (v := (0 : Int32)) (by decide) ?_
  refine j_istore_n C0 (pc := 3) dX12_knowsNow_3 (Nat.le_of_ble_eq_true rfl) ?_
  show j_J X 5 4 [some (.ref a0), some (.int (0 : Int32)), some (.int (0 : Int32)), none, none] [] (0, 0) M
  exact j_J.wq (L_X12_knowsNow_4 C m_FU a0 (0 : Int32) (0 : Int32) M h) (And.intro rfl (And.intro rfl (And.intro rfl (trivial))))
theorem dX12_knows_0 : decode cX12_knows 0 = .ok (.aload_n 0, 1) := by decide +kernel
theorem dX12_knows_1 : decode cX12_knows 1 = .ok (.iconst 0, 1) := by decide +kernel
theorem dX12_knows_2 : decode cX12_knows 2 = .ok (.putfield 163, 3) := by decide +kernel
theorem dX12_knows_5 : decode cX12_knows 5 = .ok (.aload_n 0, 1) := by decide +kernel
theorem dX12_knows_6 : decode cX12_knows 6 = .ok (.invokevirtual 561, 3) := by decide +kernel
theorem dX12_knows_9 : decode cX12_knows 9 = .ok (.ireturn, 1) := by decide +kernel
noncomputable def F_X12_knows (a0 : Nat) (M : m_M) : Option (Int32 × m_M) :=
  x_pI 10 M a0 0 (0 : Int32) fun M1 =>
  x_cV 10 M1 a0 (F_X12_knowsNow a0 M1) fun v1 M2 =>
  some (v1, M2)
set_option maxHeartbeats 4000000 in
theorem K_X12_knows (a0 : Nat) (M : m_M) (Φ : Option Value → m_M → Prop) (h : m_ok e_I Φ (F_X12_knows a0 M)) : j_Ct yX12_knows cX12_knows 1 (some .int) 9 0 0 [.ref a0] M Φ := by
  refine j_Ct.of (by decide +kernel) (Nat.le_of_ble_eq_true rfl) fun X C => ?_
  have C0 := C.1
  show j_J X 1 0 [some (.ref a0)] [] (0, 0) M
  unfold F_X12_knows at h
  refine j_aload_n C0 (pc := 0) dX12_knows_0 rfl ?_
  refine j_iconst C0 (pc := 1) dX12_knows_1 (v := (0 : Int32)) (by decide) ?_
  refine X_pI C0 (pc := 2) f_OM_163_10 rfl rfl dX12_knows_2 h (fun M1 h => ?_)
  refine j_aload_n C0 (pc := 5) dX12_knows_5 rfl ?_
  refine X_cV C0 (pc := 6) (e' := e_I) (as := []) (rest := []) (s' := fun w => .int w :: []) (g' := (0, 0)) v_OM_561_10 (fun Ψ hΨ => K_X12_knowsNow a0 M1 Ψ hΨ) rfl rfl (fun _ => rfl) (by decide) (by decide) rfl (Nat.le_of_ble_eq_true rfl) dX12_knows_6 h (fun v1 M2 h => ?_)
  exact j_iret C rfl h dX12_knows_9 (by decide)
theorem dX12_needsWord_0 : decode cX12_needsWord 0 = .ok (.aload_n 0, 1) := by decide +kernel
theorem dX12_needsWord_1 : decode cX12_needsWord 1 = .ok (.lload_n 1, 1) := by decide +kernel
theorem dX12_needsWord_2 : decode cX12_needsWord 2 = .ok (.invokevirtual 229, 3) := by decide +kernel
theorem dX12_needsWord_5 : decode cX12_needsWord 5 = .ok (.ifCond .ne 9, 3) := by decide +kernel
theorem dX12_needsWord_8 : decode cX12_needsWord 8 = .ok (.aload_n 0, 1) := by decide +kernel
theorem dX12_needsWord_9 : decode cX12_needsWord 9 = .ok (.iconst 1, 1) := by decide +kernel
theorem dX12_needsWord_10 : decode cX12_needsWord 10 = .ok (.invokevirtual 237, 3) := by decide +kernel
theorem dX12_needsWord_13 : decode cX12_needsWord 13 = .ok (.ireturn, 1) := by decide +kernel
theorem dX12_needsWord_14 : decode cX12_needsWord 14 = .ok (.aload_n 0, 1) := by decide +kernel
theorem dX12_needsWord_15 : decode cX12_needsWord 15 = .ok (.invokevirtual 243, 3) := by decide +kernel
theorem dX12_needsWord_18 : decode cX12_needsWord 18 = .ok (.iconst 1, 1) := by decide +kernel
theorem dX12_needsWord_19 : decode cX12_needsWord 19 = .ok (.ireturn, 1) := by decide +kernel
noncomputable def F_X12_needsWord (a0 : Nat) (a1 : Int64) (M : m_M) : Option (Int32 × m_M) :=
  x_cV 10 M a0 (F_X12_isWord a0 a1 M) fun v1 M1 =>
  if v1 = 0 then (
    x_cV 10 M1 a0 (F_X12_fails a0 (1 : Int32) M1) fun v2 M3 =>
    x_b v2 <| some (v2, M3)
  ) else
  x_cV 10 M1 a0 (F_X12_nextToken a0 M1) fun _ M2 =>
  some ((1 : Int32), M2)
set_option maxHeartbeats 4000000 in
theorem K_X12_needsWord (a0 : Nat) (a1 : Int64) (M : m_M) (Φ : Option Value → m_M → Prop) (h : m_ok e_I Φ (F_X12_needsWord a0 a1 M)) : j_Ct yX12_needsWord cX12_needsWord 3 (some .boolean) 3 0 0 [.ref a0, .long a1] M Φ := by
  refine j_Ct.of (by decide +kernel) (Nat.le_of_ble_eq_true rfl) fun X C => ?_
  have C0 := C.1
  show j_J X 3 0 [some (.ref a0), some (.long a1), none] [] (0, 0) M
  unfold F_X12_needsWord at h
  refine j_aload_n C0 (pc := 0) dX12_needsWord_0 rfl ?_
  refine j_lload_n C0 (pc := 1) dX12_needsWord_1 rfl ?_
  refine X_cV C0 (pc := 2) (e' := e_I) (as := [.long a1]) (rest := []) (s' := fun w => .int w :: []) (g' := (0, 0)) v_OM_229_10 (fun Ψ hΨ => K_X12_isWord a0 a1 M Ψ hΨ) rfl rfl (fun _ => rfl) (by decide) (by decide) rfl (Nat.le_of_ble_eq_true rfl) dX12_needsWord_2 h (fun v1 M1 h => ?_)
  refine j_if_ne C0 (pc := 5) (tgt := 14) dX12_needsWord_5 (by decide) (fun hc => ?_) (fun hc => ?_)
  · replace h := (X_if h).2 hc
    refine j_aload_n C0 (pc := 14) dX12_needsWord_14 rfl ?_
    refine X_cV C0 (pc := 15) (e' := e_V) (as := []) (rest := []) (s' := fun _ => []) (g' := (0, 0)) v_OM_243_10 (fun Ψ hΨ => K_X12_nextToken a0 M1 Ψ hΨ) rfl rfl (fun _ => rfl) (by decide) (by decide) rfl (Nat.le_of_ble_eq_true rfl) dX12_needsWord_15 h (fun _ M2 h => ?_)
    refine j_iconst C0 (pc := 18) dX12_needsWord_18 (v := (1 : Int32)) (by decide) ?_
    exact j_zret C rfl (by decide) h dX12_needsWord_19 (by decide)
  · replace h := (X_if h).1 hc
    refine j_aload_n C0 (pc := 8) dX12_needsWord_8 rfl ?_
    refine j_iconst C0 (pc := 9) dX12_needsWord_9 (v := (1 : Int32)) (by decide) ?_
    refine X_cV C0 (pc := 10) (e' := e_I) (as := [.int (1 : Int32)]) (rest := []) (s' := fun w => .int w :: []) (g' := (0, 0)) v_OM_237_10 (fun Ψ hΨ => K_X12_fails a0 (1 : Int32) M1 Ψ hΨ) rfl rfl (fun _ => rfl) (by decide) (by decide) rfl (Nat.le_of_ble_eq_true rfl) dX12_needsWord_10 h (fun v2 M3 h => ?_)
    exact j_zret C rfl (by rcases (X_gd h).1 with q | q <;> (rw [q]; rfl)) (X_gd h).2 dX12_needsWord_13 (by decide)
theorem dX12_needsNumber_0 : decode cX12_needsNumber 0 = .ok (.aload_n 0, 1) := by decide +kernel
theorem dX12_needsNumber_1 : decode cX12_needsNumber 1 = .ok (.getfield 188, 3) := by decide +kernel
theorem dX12_needsNumber_4 : decode cX12_needsNumber 4 = .ok (.iconst 2, 1) := by decide +kernel
theorem dX12_needsNumber_5 : decode cX12_needsNumber 5 = .ok (.if_icmp .eq 9, 3) := by decide +kernel
theorem dX12_needsNumber_8 : decode cX12_needsNumber 8 = .ok (.aload_n 0, 1) := by decide +kernel
theorem dX12_needsNumber_9 : decode cX12_needsNumber 9 = .ok (.iconst 1, 1) := by decide +kernel
theorem dX12_needsNumber_10 : decode cX12_needsNumber 10 = .ok (.invokevirtual 237, 3) := by decide +kernel
theorem dX12_needsNumber_13 : decode cX12_needsNumber 13 = .ok (.ireturn, 1) := by decide +kernel
theorem dX12_needsNumber_14 : decode cX12_needsNumber 14 = .ok (.aload_n 0, 1) := by decide +kernel
theorem dX12_needsNumber_15 : decode cX12_needsNumber 15 = .ok (.getfield 185, 3) := by decide +kernel
theorem dX12_needsNumber_18 : decode cX12_needsNumber 18 = .ok (.iload_n 1, 1) := by decide +kernel
theorem dX12_needsNumber_19 : decode cX12_needsNumber 19 = .ok (.iload_n 2, 1) := by decide +kernel
theorem dX12_needsNumber_20 : decode cX12_needsNumber 20 = .ok (.invokestatic 279, 3) := by decide +kernel
theorem dX12_needsNumber_23 : decode cX12_needsNumber 23 = .ok (.ifCond .ne 9, 3) := by decide +kernel
theorem dX12_needsNumber_26 : decode cX12_needsNumber 26 = .ok (.aload_n 0, 1) := by decide +kernel
theorem dX12_needsNumber_27 : decode cX12_needsNumber 27 = .ok (.iconst 4, 1) := by decide +kernel
theorem dX12_needsNumber_28 : decode cX12_needsNumber 28 = .ok (.invokevirtual 237, 3) := by decide +kernel
theorem dX12_needsNumber_31 : decode cX12_needsNumber 31 = .ok (.ireturn, 1) := by decide +kernel
theorem dX12_needsNumber_32 : decode cX12_needsNumber 32 = .ok (.aload_n 0, 1) := by decide +kernel
theorem dX12_needsNumber_33 : decode cX12_needsNumber 33 = .ok (.aload_n 0, 1) := by decide +kernel
theorem dX12_needsNumber_34 : decode cX12_needsNumber 34 = .ok (.getfield 185, 3) := by decide +kernel
theorem dX12_needsNumber_37 : decode cX12_needsNumber 37 = .ok (.putfield 283, 3) := by decide +kernel
theorem dX12_needsNumber_40 : decode cX12_needsNumber 40 = .ok (.aload_n 0, 1) := by decide +kernel
theorem dX12_needsNumber_41 : decode cX12_needsNumber 41 = .ok (.invokevirtual 243, 3) := by decide +kernel
theorem dX12_needsNumber_44 : decode cX12_needsNumber 44 = .ok (.iconst 1, 1) := by decide +kernel
theorem dX12_needsNumber_45 : decode cX12_needsNumber 45 = .ok (.ireturn, 1) := by decide +kernel
noncomputable def F_X12_needsNumber (a0 : Nat) (a1 : Int32) (a2 : Int32) (M : m_M) : Option (Int32 × m_M) :=
  x_gI 10 M a0 6 fun v1 =>
  if v1 = (2 : Int32) then (
    x_gI 10 M a0 8 fun v2 =>
    x_bd (F_X12_within v2 a1 a2 M) fun v3 M1 =>
    if v3 = 0 then (
      x_cV 10 M1 a0 (F_X12_fails a0 (4 : Int32) M1) fun v5 M4 =>
      x_b v5 <| some (v5, M4)
    ) else
    x_gI 10 M1 a0 8 fun v4 =>
    x_pI 10 M1 a0 37 v4 fun M2 =>
    x_cV 10 M2 a0 (F_X12_nextToken a0 M2) fun _ M3 =>
    some ((1 : Int32), M3)
  ) else
  x_cV 10 M a0 (F_X12_fails a0 (1 : Int32) M) fun v6 M5 =>
  x_b v6 <| some (v6, M5)
set_option maxHeartbeats 4000000 in
theorem K_X12_needsNumber (a0 : Nat) (a1 : Int32) (a2 : Int32) (M : m_M) (Φ : Option Value → m_M → Prop) (h : m_ok e_I Φ (F_X12_needsNumber a0 a1 a2 M)) : j_Ct yX12_needsNumber cX12_needsNumber 3 (some .boolean) 3 0 0 [.ref a0, .int a1, .int a2] M Φ := by
  refine j_Ct.of (by decide +kernel) (Nat.le_of_ble_eq_true rfl) fun X C => ?_
  have C0 := C.1
  show j_J X 3 0 [some (.ref a0), some (.int a1), some (.int a2)] [] (0, 0) M
  unfold F_X12_needsNumber at h
  refine j_aload_n C0 (pc := 0) dX12_needsNumber_0 rfl ?_
  refine X_gI C0 (pc := 1) f_OM_188_10 rfl dX12_needsNumber_1 h (fun v1 h => ?_)
  refine j_iconst C0 (pc := 4) dX12_needsNumber_4 (v := (2 : Int32)) (by decide) ?_
  refine j_icmp_eq C0 (pc := 5) (tgt := 14) dX12_needsNumber_5 (by decide) (fun hc => ?_) (fun hc => ?_)
  · replace h := (X_if h).1 hc
    refine j_aload_n C0 (pc := 14) dX12_needsNumber_14 rfl ?_
    refine X_gI C0 (pc := 15) f_OM_185_10 rfl dX12_needsNumber_15 h (fun v2 h => ?_)
    refine j_iload_n C0 (pc := 18) dX12_needsNumber_18 rfl ?_
    refine j_iload_n C0 (pc := 19) dX12_needsNumber_19 rfl ?_
    refine X_cS C0 (pc := 20) (e' := e_I) (as := [.int v2, .int a1, .int a2]) (rest := []) (s' := fun w => .int w :: []) (g' := (0, 0)) s_OM_279 (fun Ψ hΨ => K_X12_within v2 a1 a2 M Ψ hΨ) rfl rfl (fun _ => rfl) (by decide) (by decide) rfl (Nat.le_of_ble_eq_true rfl) dX12_needsNumber_20 h (fun v3 M1 h => ?_)
    refine j_if_ne C0 (pc := 23) (tgt := 32) dX12_needsNumber_23 (by decide) (fun hc => ?_) (fun hc => ?_)
    · replace h := (X_if h).2 hc
      refine j_aload_n C0 (pc := 32) dX12_needsNumber_32 rfl ?_
      refine j_aload_n C0 (pc := 33) dX12_needsNumber_33 rfl ?_
      refine X_gI C0 (pc := 34) f_OM_185_10 rfl dX12_needsNumber_34 h (fun v4 h => ?_)
      refine X_pI C0 (pc := 37) f_OM_283_10 rfl rfl dX12_needsNumber_37 h (fun M2 h => ?_)
      refine j_aload_n C0 (pc := 40) dX12_needsNumber_40 rfl ?_
      refine X_cV C0 (pc := 41) (e' := e_V) (as := []) (rest := []) (s' := fun _ => []) (g' := (0, 0)) v_OM_243_10 (fun Ψ hΨ => K_X12_nextToken a0 M2 Ψ hΨ) rfl rfl (fun _ => rfl) (by decide) (by decide) rfl (Nat.le_of_ble_eq_true rfl) dX12_needsNumber_41 h (fun _ M3 h => ?_)
      refine j_iconst C0 (pc := 44) dX12_needsNumber_44 (v := (1 : Int32)) (by decide) ?_
      exact j_zret C rfl (by decide) h dX12_needsNumber_45 (by decide)
    · replace h := (X_if h).1 hc
      refine j_aload_n C0 (pc := 26) dX12_needsNumber_26 rfl ?_
      refine j_iconst C0 (pc := 27) dX12_needsNumber_27 (v := (4 : Int32)) (by decide) ?_
      refine X_cV C0 (pc := 28) (e' := e_I) (as := [.int (4 : Int32)]) (rest := []) (s' := fun w => .int w :: []) (g' := (0, 0)) v_OM_237_10 (fun Ψ hΨ => K_X12_fails a0 (4 : Int32) M1 Ψ hΨ) rfl rfl (fun _ => rfl) (by decide) (by decide) rfl (Nat.le_of_ble_eq_true rfl) dX12_needsNumber_28 h (fun v5 M4 h => ?_)
      exact j_zret C rfl (by rcases (X_gd h).1 with q | q <;> (rw [q]; rfl)) (X_gd h).2 dX12_needsNumber_31 (by decide)
  · replace h := (X_if h).2 hc
    refine j_aload_n C0 (pc := 8) dX12_needsNumber_8 rfl ?_
    refine j_iconst C0 (pc := 9) dX12_needsNumber_9 (v := (1 : Int32)) (by decide) ?_
    refine X_cV C0 (pc := 10) (e' := e_I) (as := [.int (1 : Int32)]) (rest := []) (s' := fun w => .int w :: []) (g' := (0, 0)) v_OM_237_10 (fun Ψ hΨ => K_X12_fails a0 (1 : Int32) M Ψ hΨ) rfl rfl (fun _ => rfl) (by decide) (by decide) rfl (Nat.le_of_ble_eq_true rfl) dX12_needsNumber_10 h (fun v6 M5 h => ?_)
    exact j_zret C rfl (by rcases (X_gd h).1 with q | q <;> (rw [q]; rfl)) (X_gd h).2 dX12_needsNumber_13 (by decide)
theorem dX12_readsThing_0 : decode cX12_readsThing 0 = .ok (.aload_n 0, 1) := by decide +kernel
theorem dX12_readsThing_1 : decode cX12_readsThing 1 = .ok (.getfield 13, 3) := by decide +kernel
theorem dX12_readsThing_4 : decode cX12_readsThing 4 = .ok (.bipush 9, 2) := by decide +kernel
theorem dX12_readsThing_6 : decode cX12_readsThing 6 = .ok (.iaload, 1) := by decide +kernel
theorem dX12_readsThing_7 : decode cX12_readsThing 7 = .ok (.istore_n 1, 1) := by decide +kernel
theorem dX12_readsThing_8 : decode cX12_readsThing 8 = .ok (.iload_n 1, 1) := by decide +kernel
theorem dX12_readsThing_9 : decode cX12_readsThing 9 = .ok (.iconst 5, 1) := by decide +kernel
theorem dX12_readsThing_10 : decode cX12_readsThing 10 = .ok (.if_icmp .ne 9, 3) := by decide +kernel
theorem dX12_readsThing_13 : decode cX12_readsThing 13 = .ok (.aload_n 0, 1) := by decide +kernel
theorem dX12_readsThing_14 : decode cX12_readsThing 14 = .ok (.iconst 5, 1) := by decide +kernel
theorem dX12_readsThing_15 : decode cX12_readsThing 15 = .ok (.invokevirtual 237, 3) := by decide +kernel
theorem dX12_readsThing_18 : decode cX12_readsThing 18 = .ok (.ireturn, 1) := by decide +kernel
theorem dX12_readsThing_19 : decode cX12_readsThing 19 = .ok (.aload_n 0, 1) := by decide +kernel
theorem dX12_readsThing_20 : decode cX12_readsThing 20 = .ok (.invokevirtual 243, 3) := by decide +kernel
theorem dX12_readsThing_23 : decode cX12_readsThing 23 = .ok (.aload_n 0, 1) := by decide +kernel
theorem dX12_readsThing_24 : decode cX12_readsThing 24 = .ok (.invokevirtual 299, 3) := by decide +kernel
theorem dX12_readsThing_27 : decode cX12_readsThing 27 = .ok (.ifCond .ne 5, 3) := by decide +kernel
theorem dX12_readsThing_30 : decode cX12_readsThing 30 = .ok (.iconst 0, 1) := by decide +kernel
theorem dX12_readsThing_31 : decode cX12_readsThing 31 = .ok (.ireturn, 1) := by decide +kernel
theorem dX12_readsThing_32 : decode cX12_readsThing 32 = .ok (.aload_n 0, 1) := by decide +kernel
theorem dX12_readsThing_33 : decode cX12_readsThing 33 = .ok (.getfield 16, 3) := by decide +kernel
theorem dX12_readsThing_36 : decode cX12_readsThing 36 = .ok (.iconst 5, 1) := by decide +kernel
theorem dX12_readsThing_37 : decode cX12_readsThing 37 = .ok (.iload_n 1, 1) := by decide +kernel
theorem dX12_readsThing_38 : decode cX12_readsThing 38 = .ok (.iadd, 1) := by decide +kernel
theorem dX12_readsThing_39 : decode cX12_readsThing 39 = .ok (.aload_n 0, 1) := by decide +kernel
theorem dX12_readsThing_40 : decode cX12_readsThing 40 = .ok (.getfield 181, 3) := by decide +kernel
theorem dX12_readsThing_43 : decode cX12_readsThing 43 = .ok (.lastore, 1) := by decide +kernel
theorem dX12_readsThing_44 : decode cX12_readsThing 44 = .ok (.aload_n 0, 1) := by decide +kernel
theorem dX12_readsThing_45 : decode cX12_readsThing 45 = .ok (.invokevirtual 243, 3) := by decide +kernel
theorem dX12_readsThing_48 : decode cX12_readsThing 48 = .ok (.aload_n 0, 1) := by decide +kernel
theorem dX12_readsThing_49 : decode cX12_readsThing 49 = .ok (.ldc2_w 263, 3) := by decide +kernel
theorem dX12_readsThing_52 : decode cX12_readsThing 52 = .ok (.invokevirtual 302, 3) := by decide +kernel
theorem dX12_readsThing_55 : decode cX12_readsThing 55 = .ok (.ifCond .eq 13, 3) := by decide +kernel
theorem dX12_readsThing_58 : decode cX12_readsThing 58 = .ok (.aload_n 0, 1) := by decide +kernel
theorem dX12_readsThing_59 : decode cX12_readsThing 59 = .ok (.iconst 0, 1) := by decide +kernel
theorem dX12_readsThing_60 : decode cX12_readsThing 60 = .ok (.bipush 99, 2) := by decide +kernel
theorem dX12_readsThing_62 : decode cX12_readsThing 62 = .ok (.invokevirtual 305, 3) := by decide +kernel
theorem dX12_readsThing_65 : decode cX12_readsThing 65 = .ok (.ifCond .ne 5, 3) := by decide +kernel
theorem dX12_readsThing_68 : decode cX12_readsThing 68 = .ok (.iconst 0, 1) := by decide +kernel
theorem dX12_readsThing_69 : decode cX12_readsThing 69 = .ok (.ireturn, 1) := by decide +kernel
theorem dX12_readsThing_70 : decode cX12_readsThing 70 = .ok (.aload_n 0, 1) := by decide +kernel
theorem dX12_readsThing_71 : decode cX12_readsThing 71 = .ok (.getfield 29, 3) := by decide +kernel
theorem dX12_readsThing_74 : decode cX12_readsThing 74 = .ok (.iconst 5, 1) := by decide +kernel
theorem dX12_readsThing_75 : decode cX12_readsThing 75 = .ok (.iload_n 1, 1) := by decide +kernel
theorem dX12_readsThing_76 : decode cX12_readsThing 76 = .ok (.iadd, 1) := by decide +kernel
theorem dX12_readsThing_77 : decode cX12_readsThing 77 = .ok (.aload_n 0, 1) := by decide +kernel
theorem dX12_readsThing_78 : decode cX12_readsThing 78 = .ok (.getfield 283, 3) := by decide +kernel
theorem dX12_readsThing_81 : decode cX12_readsThing 81 = .ok (.iastore, 1) := by decide +kernel
theorem dX12_readsThing_82 : decode cX12_readsThing 82 = .ok (.aload_n 0, 1) := by decide +kernel
theorem dX12_readsThing_83 : decode cX12_readsThing 83 = .ok (.getfield 13, 3) := by decide +kernel
theorem dX12_readsThing_86 : decode cX12_readsThing 86 = .ok (.bipush 9, 2) := by decide +kernel
theorem dX12_readsThing_88 : decode cX12_readsThing 88 = .ok (.dup2, 1) := by decide +kernel
theorem dX12_readsThing_89 : decode cX12_readsThing 89 = .ok (.iaload, 1) := by decide +kernel
theorem dX12_readsThing_90 : decode cX12_readsThing 90 = .ok (.iconst 1, 1) := by decide +kernel
theorem dX12_readsThing_91 : decode cX12_readsThing 91 = .ok (.iadd, 1) := by decide +kernel
theorem dX12_readsThing_92 : decode cX12_readsThing 92 = .ok (.iastore, 1) := by decide +kernel
theorem dX12_readsThing_93 : decode cX12_readsThing 93 = .ok (.aload_n 0, 1) := by decide +kernel
theorem dX12_readsThing_94 : decode cX12_readsThing 94 = .ok (.invokevirtual 309, 3) := by decide +kernel
theorem dX12_readsThing_97 : decode cX12_readsThing 97 = .ok (.ireturn, 1) := by decide +kernel
noncomputable def F_X12_readsThing (a0 : Nat) (M : m_M) : Option (Int32 × m_M) :=
  x_gN 10 M a0 10 fun v1 =>
  x_aI 12 M v1 (9 : Int32) fun v2 =>
  if v2 = (5 : Int32) then (
    x_cV 10 M a0 (F_X12_fails a0 (5 : Int32) M) fun v13 M10 =>
    x_b v13 <| some (v13, M10)
  ) else
  x_cV 10 M a0 (F_X12_nextToken a0 M) fun _ M1 =>
  x_cV 10 M1 a0 (F_X12_isNew a0 M1) fun v3 M2 =>
  if v3 = 0 then (
    some ((0 : Int32), M2)
  ) else
  x_gN 10 M2 a0 11 fun v4 =>
  x_gL 10 M2 a0 7 fun v5 =>
  x_sL M2 v4 ((5 : Int32) + v2) v5 fun M3 =>
  x_cV 10 M3 a0 (F_X12_nextToken a0 M3) fun _ M4 =>
  x_cV 10 M4 a0 (F_X12_needsWord a0 (12328316 : Int64) M4) fun v6 M5 =>
  if v6 = 0 then (
    some ((0 : Int32), M5)
  ) else
  x_cV 10 M5 a0 (F_X12_needsNumber a0 (0 : Int32) (99 : Int32) M5) fun v7 M6 =>
  if v7 = 0 then (
    some ((0 : Int32), M6)
  ) else
  x_gN 10 M6 a0 15 fun v8 =>
  x_gI 10 M6 a0 37 fun v9 =>
  x_sI 12 M6 v8 ((5 : Int32) + v2) v9 fun M7 =>
  x_gN 10 M7 a0 10 fun v10 =>
  x_aI 12 M7 v10 (9 : Int32) fun v11 =>
  x_sI 12 M7 v10 (9 : Int32) (v11 + (1 : Int32)) fun M8 =>
  x_cV 10 M8 a0 (F_X12_closes a0 M8) fun v12 M9 =>
  x_b v12 <| some (v12, M9)
set_option maxHeartbeats 4000000 in
theorem K_X12_readsThing (a0 : Nat) (M : m_M) (Φ : Option Value → m_M → Prop) (h : m_ok e_I Φ (F_X12_readsThing a0 M)) : j_Ct yX12_readsThing cX12_readsThing 2 (some .boolean) 4 0 0 [.ref a0] M Φ := by
  refine j_Ct.of (by decide +kernel) (Nat.le_of_ble_eq_true rfl) fun X C => ?_
  have C0 := C.1
  show j_J X 2 0 [some (.ref a0), none] [] (0, 0) M
  unfold F_X12_readsThing at h
  refine j_aload_n C0 (pc := 0) dX12_readsThing_0 rfl ?_
  refine X_gN C0 (pc := 1) f_OM_13_10 rfl dX12_readsThing_1 h (fun v1 h => ?_)
  refine j_bipush C0 (pc := 4) dX12_readsThing_4 (v := (9 : Int32)) (by decide) ?_
  refine X_iald C0 (pc := 6) dX12_readsThing_6 h (fun v2 h => ?_)
  refine j_istore_n C0 (pc := 7) dX12_readsThing_7 (Nat.le_of_ble_eq_true rfl) ?_
  show j_J X 2 8 [some (.ref a0), some (.int v2)] [] (0, 0) M
  refine j_iload_n C0 (pc := 8) dX12_readsThing_8 rfl ?_
  refine j_iconst C0 (pc := 9) dX12_readsThing_9 (v := (5 : Int32)) (by decide) ?_
  refine j_icmp_ne C0 (pc := 10) (tgt := 19) dX12_readsThing_10 (by decide) (fun hc => ?_) (fun hc => ?_)
  · replace h := (X_if h).2 hc
    refine j_aload_n C0 (pc := 19) dX12_readsThing_19 rfl ?_
    refine X_cV C0 (pc := 20) (e' := e_V) (as := []) (rest := []) (s' := fun _ => []) (g' := (0, 0)) v_OM_243_10 (fun Ψ hΨ => K_X12_nextToken a0 M Ψ hΨ) rfl rfl (fun _ => rfl) (by decide) (by decide) rfl (Nat.le_of_ble_eq_true rfl) dX12_readsThing_20 h (fun _ M1 h => ?_)
    refine j_aload_n C0 (pc := 23) dX12_readsThing_23 rfl ?_
    refine X_cV C0 (pc := 24) (e' := e_I) (as := []) (rest := []) (s' := fun w => .int w :: []) (g' := (0, 0)) v_OM_299_10 (fun Ψ hΨ => K_X12_isNew a0 M1 Ψ hΨ) rfl rfl (fun _ => rfl) (by decide) (by decide) rfl (Nat.le_of_ble_eq_true rfl) dX12_readsThing_24 h (fun v3 M2 h => ?_)
    refine j_if_ne C0 (pc := 27) (tgt := 32) dX12_readsThing_27 (by decide) (fun hc => ?_) (fun hc => ?_)
    · replace h := (X_if h).2 hc
      refine j_aload_n C0 (pc := 32) dX12_readsThing_32 rfl ?_
      refine X_gN C0 (pc := 33) f_OM_16_10 rfl dX12_readsThing_33 h (fun v4 h => ?_)
      refine j_iconst C0 (pc := 36) dX12_readsThing_36 (v := (5 : Int32)) (by decide) ?_
      refine j_iload_n C0 (pc := 37) dX12_readsThing_37 rfl ?_
      refine j_iadd C0 (pc := 38) dX12_readsThing_38 ?_
      refine j_aload_n C0 (pc := 39) dX12_readsThing_39 rfl ?_
      refine X_gL C0 (pc := 40) f_OM_181_10 rfl dX12_readsThing_40 h (fun v5 h => ?_)
      refine X_last C0 (pc := 43) dX12_readsThing_43 h (fun M3 h => ?_)
      refine j_aload_n C0 (pc := 44) dX12_readsThing_44 rfl ?_
      refine X_cV C0 (pc := 45) (e' := e_V) (as := []) (rest := []) (s' := fun _ => []) (g' := (0, 0)) v_OM_243_10 (fun Ψ hΨ => K_X12_nextToken a0 M3 Ψ hΨ) rfl rfl (fun _ => rfl) (by decide) (by decide) rfl (Nat.le_of_ble_eq_true rfl) dX12_readsThing_45 h (fun _ M4 h => ?_)
      refine j_aload_n C0 (pc := 48) dX12_readsThing_48 rfl ?_
      refine j_ldc2 C0 (pc := 49) (v := (12328316 : Int64)) (j_c8 140 (by decide +kernel)) dX12_readsThing_49 ?_
      refine X_cV C0 (pc := 52) (e' := e_I) (as := [.long (12328316 : Int64)]) (rest := []) (s' := fun w => .int w :: []) (g' := (0, 0)) v_OM_302_10 (fun Ψ hΨ => K_X12_needsWord a0 (12328316 : Int64) M4 Ψ hΨ) rfl rfl (fun _ => rfl) (by decide) (by decide) rfl (Nat.le_of_ble_eq_true rfl) dX12_readsThing_52 h (fun v6 M5 h => ?_)
      refine j_if_eq C0 (pc := 55) (tgt := 68) dX12_readsThing_55 (by decide) (fun hc => ?_) (fun hc => ?_)
      · replace h := (X_if h).1 hc
        refine j_iconst C0 (pc := 68) dX12_readsThing_68 (v := (0 : Int32)) (by decide) ?_
        exact j_zret C rfl (by decide) h dX12_readsThing_69 (by decide)
      · replace h := (X_if h).2 hc
        refine j_aload_n C0 (pc := 58) dX12_readsThing_58 rfl ?_
        refine j_iconst C0 (pc := 59) dX12_readsThing_59 (v := (0 : Int32)) (by decide) ?_
        refine j_bipush C0 (pc := 60) dX12_readsThing_60 (v := (99 : Int32)) (by decide) ?_
        refine X_cV C0 (pc := 62) (e' := e_I) (as := [.int (0 : Int32), .int (99 : Int32)]) (rest := []) (s' := fun w => .int w :: []) (g' := (0, 0)) v_OM_305_10 (fun Ψ hΨ => K_X12_needsNumber a0 (0 : Int32) (99 : Int32) M5 Ψ hΨ) rfl rfl (fun _ => rfl) (by decide) (by decide) rfl (Nat.le_of_ble_eq_true rfl) dX12_readsThing_62 h (fun v7 M6 h => ?_)
        refine j_if_ne C0 (pc := 65) (tgt := 70) dX12_readsThing_65 (by decide) (fun hc => ?_) (fun hc => ?_)
        · replace h := (X_if h).2 hc
          refine j_aload_n C0 (pc := 70) dX12_readsThing_70 rfl ?_
          refine X_gN C0 (pc := 71) f_OM_29_10 rfl dX12_readsThing_71 h (fun v8 h => ?_)
          refine j_iconst C0 (pc := 74) dX12_readsThing_74 (v := (5 : Int32)) (by decide) ?_
          refine j_iload_n C0 (pc := 75) dX12_readsThing_75 rfl ?_
          refine j_iadd C0 (pc := 76) dX12_readsThing_76 ?_
          refine j_aload_n C0 (pc := 77) dX12_readsThing_77 rfl ?_
          refine X_gI C0 (pc := 78) f_OM_283_10 rfl dX12_readsThing_78 h (fun v9 h => ?_)
          refine X_iast C0 (pc := 81) dX12_readsThing_81 h (fun M7 h => ?_)
          refine j_aload_n C0 (pc := 82) dX12_readsThing_82 rfl ?_
          refine X_gN C0 (pc := 83) f_OM_13_10 rfl dX12_readsThing_83 h (fun v10 h => ?_)
          refine j_bipush C0 (pc := 86) dX12_readsThing_86 (v := (9 : Int32)) (by decide) ?_
          refine j_dup2 C0 (pc := 88) dX12_readsThing_88 rfl rfl ?_
          refine X_iald C0 (pc := 89) dX12_readsThing_89 h (fun v11 h => ?_)
          refine j_iconst C0 (pc := 90) dX12_readsThing_90 (v := (1 : Int32)) (by decide) ?_
          refine j_iadd C0 (pc := 91) dX12_readsThing_91 ?_
          refine X_iast C0 (pc := 92) dX12_readsThing_92 h (fun M8 h => ?_)
          refine j_aload_n C0 (pc := 93) dX12_readsThing_93 rfl ?_
          refine X_cV C0 (pc := 94) (e' := e_I) (as := []) (rest := []) (s' := fun w => .int w :: []) (g' := (0, 0)) v_OM_309_10 (fun Ψ hΨ => K_X12_closes a0 M8 Ψ hΨ) rfl rfl (fun _ => rfl) (by decide) (by decide) rfl (Nat.le_of_ble_eq_true rfl) dX12_readsThing_94 h (fun v12 M9 h => ?_)
          exact j_zret C rfl (by rcases (X_gd h).1 with q | q <;> (rw [q]; rfl)) (X_gd h).2 dX12_readsThing_97 (by decide)
        · replace h := (X_if h).1 hc
          refine j_iconst C0 (pc := 68) dX12_readsThing_68 (v := (0 : Int32)) (by decide) ?_
          exact j_zret C rfl (by decide) h dX12_readsThing_69 (by decide)
    · replace h := (X_if h).1 hc
      refine j_iconst C0 (pc := 30) dX12_readsThing_30 (v := (0 : Int32)) (by decide) ?_
      exact j_zret C rfl (by decide) h dX12_readsThing_31 (by decide)
  · replace h := (X_if h).1 hc
    refine j_aload_n C0 (pc := 13) dX12_readsThing_13 rfl ?_
    refine j_iconst C0 (pc := 14) dX12_readsThing_14 (v := (5 : Int32)) (by decide) ?_
    refine X_cV C0 (pc := 15) (e' := e_I) (as := [.int (5 : Int32)]) (rest := []) (s' := fun w => .int w :: []) (g' := (0, 0)) v_OM_237_10 (fun Ψ hΨ => K_X12_fails a0 (5 : Int32) M Ψ hΨ) rfl rfl (fun _ => rfl) (by decide) (by decide) rfl (Nat.le_of_ble_eq_true rfl) dX12_readsThing_15 h (fun v13 M10 h => ?_)
    exact j_zret C rfl (by rcases (X_gd h).1 with q | q <;> (rw [q]; rfl)) (X_gd h).2 dX12_readsThing_18 (by decide)
theorem dX12_puts_0 : decode cX12_puts 0 = .ok (.aload_n 0, 1) := by decide +kernel
theorem dX12_puts_1 : decode cX12_puts 1 = .ok (.getfield 44, 3) := by decide +kernel
theorem dX12_puts_4 : decode cX12_puts 4 = .ok (.aload_n 0, 1) := by decide +kernel
theorem dX12_puts_5 : decode cX12_puts 5 = .ok (.getfield 202, 3) := by decide +kernel
theorem dX12_puts_8 : decode cX12_puts 8 = .ok (.iload_n 1, 1) := by decide +kernel
theorem dX12_puts_9 : decode cX12_puts 9 = .ok (.iastore, 1) := by decide +kernel
theorem dX12_puts_10 : decode cX12_puts 10 = .ok (.aload_n 0, 1) := by decide +kernel
theorem dX12_puts_11 : decode cX12_puts 11 = .ok (.dup, 1) := by decide +kernel
theorem dX12_puts_12 : decode cX12_puts 12 = .ok (.getfield 202, 3) := by decide +kernel
theorem dX12_puts_15 : decode cX12_puts 15 = .ok (.iconst 1, 1) := by decide +kernel
theorem dX12_puts_16 : decode cX12_puts 16 = .ok (.iadd, 1) := by decide +kernel
theorem dX12_puts_17 : decode cX12_puts 17 = .ok (.putfield 202, 3) := by decide +kernel
theorem dX12_puts_20 : decode cX12_puts 20 = .ok (.return_, 1) := by decide +kernel
noncomputable def F_X12_puts (a0 : Nat) (a1 : Int32) (M : m_M) : Option (Unit × m_M) :=
  x_gN 10 M a0 20 fun v1 =>
  x_gI 10 M a0 21 fun v2 =>
  x_sI 12 M v1 v2 a1 fun M1 =>
  x_gI 10 M1 a0 21 fun v3 =>
  x_pI 10 M1 a0 21 (v3 + (1 : Int32)) fun M2 =>
  some ((), M2)
set_option maxHeartbeats 4000000 in
theorem K_X12_puts (a0 : Nat) (a1 : Int32) (M : m_M) (Φ : Option Value → m_M → Prop) (h : m_ok e_V Φ (F_X12_puts a0 a1 M)) : j_Ct yX12_puts cX12_puts 2 none 1 0 0 [.ref a0, .int a1] M Φ := by
  refine j_Ct.of (by decide +kernel) (Nat.le_of_ble_eq_true rfl) fun X C => ?_
  have C0 := C.1
  show j_J X 2 0 [some (.ref a0), some (.int a1)] [] (0, 0) M
  unfold F_X12_puts at h
  refine j_aload_n C0 (pc := 0) dX12_puts_0 rfl ?_
  refine X_gN C0 (pc := 1) f_OM_44_10 rfl dX12_puts_1 h (fun v1 h => ?_)
  refine j_aload_n C0 (pc := 4) dX12_puts_4 rfl ?_
  refine X_gI C0 (pc := 5) f_OM_202_10 rfl dX12_puts_5 h (fun v2 h => ?_)
  refine j_iload_n C0 (pc := 8) dX12_puts_8 rfl ?_
  refine X_iast C0 (pc := 9) dX12_puts_9 h (fun M1 h => ?_)
  refine j_aload_n C0 (pc := 10) dX12_puts_10 rfl ?_
  refine j_dup C0 (pc := 11) dX12_puts_11 rfl ?_
  refine X_gI C0 (pc := 12) f_OM_202_10 rfl dX12_puts_12 h (fun v3 h => ?_)
  refine j_iconst C0 (pc := 15) dX12_puts_15 (v := (1 : Int32)) (by decide) ?_
  refine j_iadd C0 (pc := 16) dX12_puts_16 ?_
  refine X_pI C0 (pc := 17) f_OM_202_10 rfl rfl dX12_puts_17 h (fun M2 h => ?_)
  exact j_vret C rfl h dX12_puts_20 (by decide)
theorem dX12_reads_0 : decode cX12_reads 0 = .ok (.iconst 0, 1) := by decide +kernel
theorem dX12_reads_1 : decode cX12_reads 1 = .ok (.istore_n 1, 1) := by decide +kernel
theorem dX12_reads_2 : decode cX12_reads 2 = .ok (.iconst 1, 1) := by decide +kernel
theorem dX12_reads_3 : decode cX12_reads 3 = .ok (.istore_n 2, 1) := by decide +kernel
theorem dX12_reads_4 : decode cX12_reads 4 = .ok (.aload_n 0, 1) := by decide +kernel
theorem dX12_reads_5 : decode cX12_reads 5 = .ok (.getfield 50, 3) := by decide +kernel
theorem dX12_reads_8 : decode cX12_reads 8 = .ok (.iconst 0, 1) := by decide +kernel
theorem dX12_reads_9 : decode cX12_reads 9 = .ok (.iconst 0, 1) := by decide +kernel
theorem dX12_reads_10 : decode cX12_reads 10 = .ok (.bastore, 1) := by decide +kernel
theorem dX12_reads_11 : decode cX12_reads 11 = .ok (.iload_n 2, 1) := by decide +kernel
theorem dX12_reads_12 : decode cX12_reads 12 = .ok (.ifCond .eq 167, 3) := by decide +kernel
theorem dX12_reads_15 : decode cX12_reads 15 = .ok (.aload_n 0, 1) := by decide +kernel
theorem dX12_reads_16 : decode cX12_reads 16 = .ok (.invokevirtual 223, 3) := by decide +kernel
theorem dX12_reads_19 : decode cX12_reads 19 = .ok (.istore_n 3, 1) := by decide +kernel
theorem dX12_reads_20 : decode cX12_reads 20 = .ok (.aload_n 0, 1) := by decide +kernel
theorem dX12_reads_21 : decode cX12_reads 21 = .ok (.ldc2_w 227, 3) := by decide +kernel
theorem dX12_reads_24 : decode cX12_reads 24 = .ok (.invokevirtual 229, 3) := by decide +kernel
theorem dX12_reads_27 : decode cX12_reads 27 = .ok (.istore 4, 2) := by decide +kernel
theorem dX12_reads_29 : decode cX12_reads 29 = .ok (.aload_n 0, 1) := by decide +kernel
theorem dX12_reads_30 : decode cX12_reads 30 = .ok (.bipush 40, 2) := by decide +kernel
theorem dX12_reads_32 : decode cX12_reads 32 = .ok (.invokevirtual 233, 3) := by decide +kernel
theorem dX12_reads_35 : decode cX12_reads 35 = .ok (.istore 5, 2) := by decide +kernel
theorem dX12_reads_37 : decode cX12_reads 37 = .ok (.iload_n 3, 1) := by decide +kernel
theorem dX12_reads_38 : decode cX12_reads 38 = .ok (.ifCond .ne 27, 3) := by decide +kernel
theorem dX12_reads_41 : decode cX12_reads 41 = .ok (.iload 4, 2) := by decide +kernel
theorem dX12_reads_43 : decode cX12_reads 43 = .ok (.ifCond .ne 22, 3) := by decide +kernel
theorem dX12_reads_46 : decode cX12_reads 46 = .ok (.iload 5, 2) := by decide +kernel
theorem dX12_reads_48 : decode cX12_reads 48 = .ok (.ifCond .ne 17, 3) := by decide +kernel
theorem dX12_reads_51 : decode cX12_reads 51 = .ok (.aload_n 0, 1) := by decide +kernel
theorem dX12_reads_52 : decode cX12_reads 52 = .ok (.getfield 188, 3) := by decide +kernel
theorem dX12_reads_55 : decode cX12_reads 55 = .ok (.iconst 2, 1) := by decide +kernel
theorem dX12_reads_56 : decode cX12_reads 56 = .ok (.if_icmp .eq 9, 3) := by decide +kernel
theorem dX12_reads_59 : decode cX12_reads 59 = .ok (.aload_n 0, 1) := by decide +kernel
theorem dX12_reads_60 : decode cX12_reads 60 = .ok (.iconst 1, 1) := by decide +kernel
theorem dX12_reads_61 : decode cX12_reads 61 = .ok (.invokevirtual 237, 3) := by decide +kernel
theorem dX12_reads_64 : decode cX12_reads 64 = .ok (.ireturn, 1) := by decide +kernel
theorem dX12_reads_65 : decode cX12_reads 65 = .ok (.iload_n 1, 1) := by decide +kernel
theorem dX12_reads_66 : decode cX12_reads 66 = .ok (.iconst 5, 1) := by decide +kernel
theorem dX12_reads_67 : decode cX12_reads 67 = .ok (.if_icmp .ne 9, 3) := by decide +kernel
theorem dX12_reads_70 : decode cX12_reads 70 = .ok (.aload_n 0, 1) := by decide +kernel
theorem dX12_reads_71 : decode cX12_reads 71 = .ok (.iconst 5, 1) := by decide +kernel
theorem dX12_reads_72 : decode cX12_reads 72 = .ok (.invokevirtual 237, 3) := by decide +kernel
theorem dX12_reads_75 : decode cX12_reads 75 = .ok (.ireturn, 1) := by decide +kernel
theorem dX12_reads_76 : decode cX12_reads 76 = .ok (.iload 4, 2) := by decide +kernel
theorem dX12_reads_78 : decode cX12_reads 78 = .ok (.ifCond .ne 8, 3) := by decide +kernel
theorem dX12_reads_81 : decode cX12_reads 81 = .ok (.iload 5, 2) := by decide +kernel
theorem dX12_reads_83 : decode cX12_reads 83 = .ok (.ifCond .eq 48, 3) := by decide +kernel
theorem dX12_reads_86 : decode cX12_reads 86 = .ok (.aload_n 0, 1) := by decide +kernel
theorem dX12_reads_87 : decode cX12_reads 87 = .ok (.iload 4, 2) := by decide +kernel
theorem dX12_reads_89 : decode cX12_reads 89 = .ok (.ifCond .eq 8, 3) := by decide +kernel
theorem dX12_reads_92 : decode cX12_reads 92 = .ok (.bipush 30, 2) := by decide +kernel
theorem dX12_reads_94 : decode cX12_reads 94 = .ok (.goto 5, 3) := by decide +kernel
theorem dX12_reads_97 : decode cX12_reads 97 = .ok (.bipush 28, 2) := by decide +kernel
theorem dX12_reads_99 : decode cX12_reads 99 = .ok (.invokevirtual 240, 3) := by decide +kernel
theorem dX12_reads_102 : decode cX12_reads 102 = .ok (.iinc 1 1, 3) := by decide +kernel
theorem dX12_reads_105 : decode cX12_reads 105 = .ok (.aload_n 0, 1) := by decide +kernel
theorem dX12_reads_106 : decode cX12_reads 106 = .ok (.getfield 47, 3) := by decide +kernel
theorem dX12_reads_109 : decode cX12_reads 109 = .ok (.iload_n 1, 1) := by decide +kernel
theorem dX12_reads_110 : decode cX12_reads 110 = .ok (.iload 4, 2) := by decide +kernel
theorem dX12_reads_112 : decode cX12_reads 112 = .ok (.ifCond .eq 7, 3) := by decide +kernel
theorem dX12_reads_115 : decode cX12_reads 115 = .ok (.iconst 1, 1) := by decide +kernel
theorem dX12_reads_116 : decode cX12_reads 116 = .ok (.goto 4, 3) := by decide +kernel
theorem dX12_reads_119 : decode cX12_reads 119 = .ok (.iconst 2, 1) := by decide +kernel
theorem dX12_reads_120 : decode cX12_reads 120 = .ok (.iastore, 1) := by decide +kernel
theorem dX12_reads_121 : decode cX12_reads 121 = .ok (.aload_n 0, 1) := by decide +kernel
theorem dX12_reads_122 : decode cX12_reads 122 = .ok (.getfield 50, 3) := by decide +kernel
theorem dX12_reads_125 : decode cX12_reads 125 = .ok (.iload_n 1, 1) := by decide +kernel
theorem dX12_reads_126 : decode cX12_reads 126 = .ok (.iconst 0, 1) := by decide +kernel
theorem dX12_reads_127 : decode cX12_reads 127 = .ok (.bastore, 1) := by decide +kernel
theorem dX12_reads_128 : decode cX12_reads 128 = .ok (.goto 44, 3) := by decide +kernel
theorem dX12_reads_131 : decode cX12_reads 131 = .ok (.aload_n 0, 1) := by decide +kernel
theorem dX12_reads_132 : decode cX12_reads 132 = .ok (.iload_n 3, 1) := by decide +kernel
theorem dX12_reads_133 : decode cX12_reads 133 = .ok (.ifCond .le 7, 3) := by decide +kernel
theorem dX12_reads_136 : decode cX12_reads 136 = .ok (.iload_n 3, 1) := by decide +kernel
theorem dX12_reads_137 : decode cX12_reads 137 = .ok (.goto 10, 3) := by decide +kernel
theorem dX12_reads_140 : decode cX12_reads 140 = .ok (.bipush 100, 2) := by decide +kernel
theorem dX12_reads_142 : decode cX12_reads 142 = .ok (.aload_n 0, 1) := by decide +kernel
theorem dX12_reads_143 : decode cX12_reads 143 = .ok (.getfield 185, 3) := by decide +kernel
theorem dX12_reads_146 : decode cX12_reads 146 = .ok (.iadd, 1) := by decide +kernel
theorem dX12_reads_147 : decode cX12_reads 147 = .ok (.invokevirtual 240, 3) := by decide +kernel
theorem dX12_reads_150 : decode cX12_reads 150 = .ok (.iconst 0, 1) := by decide +kernel
theorem dX12_reads_151 : decode cX12_reads 151 = .ok (.istore_n 2, 1) := by decide +kernel
theorem dX12_reads_152 : decode cX12_reads 152 = .ok (.iload_n 1, 1) := by decide +kernel
theorem dX12_reads_153 : decode cX12_reads 153 = .ok (.ifCond .le 19, 3) := by decide +kernel
theorem dX12_reads_156 : decode cX12_reads 156 = .ok (.aload_n 0, 1) := by decide +kernel
theorem dX12_reads_157 : decode cX12_reads 157 = .ok (.getfield 47, 3) := by decide +kernel
theorem dX12_reads_160 : decode cX12_reads 160 = .ok (.iload_n 1, 1) := by decide +kernel
theorem dX12_reads_161 : decode cX12_reads 161 = .ok (.iaload, 1) := by decide +kernel
theorem dX12_reads_162 : decode cX12_reads 162 = .ok (.iconst 1, 1) := by decide +kernel
theorem dX12_reads_163 : decode cX12_reads 163 = .ok (.if_icmp .ne 9, 3) := by decide +kernel
theorem dX12_reads_166 : decode cX12_reads 166 = .ok (.iinc 1 (-1), 3) := by decide +kernel
theorem dX12_reads_169 : decode cX12_reads 169 = .ok (.goto (-17), 3) := by decide +kernel
theorem dX12_reads_172 : decode cX12_reads 172 = .ok (.aload_n 0, 1) := by decide +kernel
theorem dX12_reads_173 : decode cX12_reads 173 = .ok (.invokevirtual 243, 3) := by decide +kernel
theorem dX12_reads_176 : decode cX12_reads 176 = .ok (.goto (-165), 3) := by decide +kernel
theorem dX12_reads_179 : decode cX12_reads 179 = .ok (.aload_n 0, 1) := by decide +kernel
theorem dX12_reads_180 : decode cX12_reads 180 = .ok (.bipush 43, 2) := by decide +kernel
theorem dX12_reads_182 : decode cX12_reads 182 = .ok (.invokevirtual 233, 3) := by decide +kernel
theorem dX12_reads_185 : decode cX12_reads 185 = .ok (.ifCond .ne 21, 3) := by decide +kernel
theorem dX12_reads_188 : decode cX12_reads 188 = .ok (.aload_n 0, 1) := by decide +kernel
theorem dX12_reads_189 : decode cX12_reads 189 = .ok (.bipush 45, 2) := by decide +kernel
theorem dX12_reads_191 : decode cX12_reads 191 = .ok (.invokevirtual 233, 3) := by decide +kernel
theorem dX12_reads_194 : decode cX12_reads 194 = .ok (.ifCond .ne 12, 3) := by decide +kernel
theorem dX12_reads_197 : decode cX12_reads 197 = .ok (.aload_n 0, 1) := by decide +kernel
theorem dX12_reads_198 : decode cX12_reads 198 = .ok (.bipush 42, 2) := by decide +kernel
theorem dX12_reads_200 : decode cX12_reads 200 = .ok (.invokevirtual 233, 3) := by decide +kernel
theorem dX12_reads_203 : decode cX12_reads 203 = .ok (.ifCond .eq 42, 3) := by decide +kernel
theorem dX12_reads_206 : decode cX12_reads 206 = .ok (.aload_n 0, 1) := by decide +kernel
theorem dX12_reads_207 : decode cX12_reads 207 = .ok (.aload_n 0, 1) := by decide +kernel
theorem dX12_reads_208 : decode cX12_reads 208 = .ok (.bipush 43, 2) := by decide +kernel
theorem dX12_reads_210 : decode cX12_reads 210 = .ok (.invokevirtual 233, 3) := by decide +kernel
theorem dX12_reads_213 : decode cX12_reads 213 = .ok (.ifCond .eq 8, 3) := by decide +kernel
theorem dX12_reads_216 : decode cX12_reads 216 = .ok (.bipush 20, 2) := by decide +kernel
theorem dX12_reads_218 : decode cX12_reads 218 = .ok (.goto 19, 3) := by decide +kernel
theorem dX12_reads_221 : decode cX12_reads 221 = .ok (.aload_n 0, 1) := by decide +kernel
theorem dX12_reads_222 : decode cX12_reads 222 = .ok (.bipush 45, 2) := by decide +kernel
theorem dX12_reads_224 : decode cX12_reads 224 = .ok (.invokevirtual 233, 3) := by decide +kernel
theorem dX12_reads_227 : decode cX12_reads 227 = .ok (.ifCond .eq 8, 3) := by decide +kernel
theorem dX12_reads_230 : decode cX12_reads 230 = .ok (.bipush 21, 2) := by decide +kernel
theorem dX12_reads_232 : decode cX12_reads 232 = .ok (.goto 5, 3) := by decide +kernel
theorem dX12_reads_235 : decode cX12_reads 235 = .ok (.bipush 22, 2) := by decide +kernel
theorem dX12_reads_237 : decode cX12_reads 237 = .ok (.invokevirtual 240, 3) := by decide +kernel
theorem dX12_reads_240 : decode cX12_reads 240 = .ok (.iconst 1, 1) := by decide +kernel
theorem dX12_reads_241 : decode cX12_reads 241 = .ok (.istore_n 2, 1) := by decide +kernel
theorem dX12_reads_242 : decode cX12_reads 242 = .ok (.goto 182, 3) := by decide +kernel
theorem dX12_reads_245 : decode cX12_reads 245 = .ok (.aload_n 0, 1) := by decide +kernel
theorem dX12_reads_246 : decode cX12_reads 246 = .ok (.bipush 60, 2) := by decide +kernel
theorem dX12_reads_248 : decode cX12_reads 248 = .ok (.invokevirtual 233, 3) := by decide +kernel
theorem dX12_reads_251 : decode cX12_reads 251 = .ok (.ifCond .ne 12, 3) := by decide +kernel
theorem dX12_reads_254 : decode cX12_reads 254 = .ok (.aload_n 0, 1) := by decide +kernel
theorem dX12_reads_255 : decode cX12_reads 255 = .ok (.bipush 61, 2) := by decide +kernel
theorem dX12_reads_257 : decode cX12_reads 257 = .ok (.invokevirtual 233, 3) := by decide +kernel
theorem dX12_reads_260 : decode cX12_reads 260 = .ok (.ifCond .eq 44, 3) := by decide +kernel
theorem dX12_reads_263 : decode cX12_reads 263 = .ok (.aload_n 0, 1) := by decide +kernel
theorem dX12_reads_264 : decode cX12_reads 264 = .ok (.getfield 50, 3) := by decide +kernel
theorem dX12_reads_267 : decode cX12_reads 267 = .ok (.iload_n 1, 1) := by decide +kernel
theorem dX12_reads_268 : decode cX12_reads 268 = .ok (.baload, 1) := by decide +kernel
theorem dX12_reads_269 : decode cX12_reads 269 = .ok (.ifCond .ne 35, 3) := by decide +kernel
theorem dX12_reads_272 : decode cX12_reads 272 = .ok (.aload_n 0, 1) := by decide +kernel
theorem dX12_reads_273 : decode cX12_reads 273 = .ok (.aload_n 0, 1) := by decide +kernel
theorem dX12_reads_274 : decode cX12_reads 274 = .ok (.bipush 60, 2) := by decide +kernel
theorem dX12_reads_276 : decode cX12_reads 276 = .ok (.invokevirtual 233, 3) := by decide +kernel
theorem dX12_reads_279 : decode cX12_reads 279 = .ok (.ifCond .eq 8, 3) := by decide +kernel
theorem dX12_reads_282 : decode cX12_reads 282 = .ok (.bipush 24, 2) := by decide +kernel
theorem dX12_reads_284 : decode cX12_reads 284 = .ok (.goto 5, 3) := by decide +kernel
theorem dX12_reads_287 : decode cX12_reads 287 = .ok (.bipush 25, 2) := by decide +kernel
theorem dX12_reads_289 : decode cX12_reads 289 = .ok (.invokevirtual 240, 3) := by decide +kernel
theorem dX12_reads_292 : decode cX12_reads 292 = .ok (.aload_n 0, 1) := by decide +kernel
theorem dX12_reads_293 : decode cX12_reads 293 = .ok (.getfield 50, 3) := by decide +kernel
theorem dX12_reads_296 : decode cX12_reads 296 = .ok (.iload_n 1, 1) := by decide +kernel
theorem dX12_reads_297 : decode cX12_reads 297 = .ok (.iconst 1, 1) := by decide +kernel
theorem dX12_reads_298 : decode cX12_reads 298 = .ok (.bastore, 1) := by decide +kernel
theorem dX12_reads_299 : decode cX12_reads 299 = .ok (.iconst 1, 1) := by decide +kernel
theorem dX12_reads_300 : decode cX12_reads 300 = .ok (.istore_n 2, 1) := by decide +kernel
theorem dX12_reads_301 : decode cX12_reads 301 = .ok (.goto 123, 3) := by decide +kernel
theorem dX12_reads_304 : decode cX12_reads 304 = .ok (.aload_n 0, 1) := by decide +kernel
theorem dX12_reads_305 : decode cX12_reads 305 = .ok (.ldc2_w 246, 3) := by decide +kernel
theorem dX12_reads_308 : decode cX12_reads 308 = .ok (.invokevirtual 229, 3) := by decide +kernel
theorem dX12_reads_311 : decode cX12_reads 311 = .ok (.ifCond .ne 13, 3) := by decide +kernel
theorem dX12_reads_314 : decode cX12_reads 314 = .ok (.aload_n 0, 1) := by decide +kernel
theorem dX12_reads_315 : decode cX12_reads 315 = .ok (.ldc2_w 248, 3) := by decide +kernel
theorem dX12_reads_318 : decode cX12_reads 318 = .ok (.invokevirtual 229, 3) := by decide +kernel
theorem dX12_reads_321 : decode cX12_reads 321 = .ok (.ifCond .eq 36, 3) := by decide +kernel
theorem dX12_reads_324 : decode cX12_reads 324 = .ok (.aload_n 0, 1) := by decide +kernel
theorem dX12_reads_325 : decode cX12_reads 325 = .ok (.aload_n 0, 1) := by decide +kernel
theorem dX12_reads_326 : decode cX12_reads 326 = .ok (.ldc2_w 246, 3) := by decide +kernel
theorem dX12_reads_329 : decode cX12_reads 329 = .ok (.invokevirtual 229, 3) := by decide +kernel
theorem dX12_reads_332 : decode cX12_reads 332 = .ok (.ifCond .eq 8, 3) := by decide +kernel
theorem dX12_reads_335 : decode cX12_reads 335 = .ok (.bipush 26, 2) := by decide +kernel
theorem dX12_reads_337 : decode cX12_reads 337 = .ok (.goto 5, 3) := by decide +kernel
theorem dX12_reads_340 : decode cX12_reads 340 = .ok (.bipush 27, 2) := by decide +kernel
theorem dX12_reads_342 : decode cX12_reads 342 = .ok (.invokevirtual 240, 3) := by decide +kernel
theorem dX12_reads_345 : decode cX12_reads 345 = .ok (.aload_n 0, 1) := by decide +kernel
theorem dX12_reads_346 : decode cX12_reads 346 = .ok (.getfield 50, 3) := by decide +kernel
theorem dX12_reads_349 : decode cX12_reads 349 = .ok (.iload_n 1, 1) := by decide +kernel
theorem dX12_reads_350 : decode cX12_reads 350 = .ok (.iconst 0, 1) := by decide +kernel
theorem dX12_reads_351 : decode cX12_reads 351 = .ok (.bastore, 1) := by decide +kernel
theorem dX12_reads_352 : decode cX12_reads 352 = .ok (.iconst 1, 1) := by decide +kernel
theorem dX12_reads_353 : decode cX12_reads 353 = .ok (.istore_n 2, 1) := by decide +kernel
theorem dX12_reads_354 : decode cX12_reads 354 = .ok (.goto 70, 3) := by decide +kernel
theorem dX12_reads_357 : decode cX12_reads 357 = .ok (.aload_n 0, 1) := by decide +kernel
theorem dX12_reads_358 : decode cX12_reads 358 = .ok (.bipush 41, 2) := by decide +kernel
theorem dX12_reads_360 : decode cX12_reads 360 = .ok (.invokevirtual 233, 3) := by decide +kernel
theorem dX12_reads_363 : decode cX12_reads 363 = .ok (.ifCond .eq 36, 3) := by decide +kernel
theorem dX12_reads_366 : decode cX12_reads 366 = .ok (.iload_n 1, 1) := by decide +kernel
theorem dX12_reads_367 : decode cX12_reads 367 = .ok (.ifCond .le 32, 3) := by decide +kernel
theorem dX12_reads_370 : decode cX12_reads 370 = .ok (.aload_n 0, 1) := by decide +kernel
theorem dX12_reads_371 : decode cX12_reads 371 = .ok (.bipush 29, 2) := by decide +kernel
theorem dX12_reads_373 : decode cX12_reads 373 = .ok (.invokevirtual 240, 3) := by decide +kernel
theorem dX12_reads_376 : decode cX12_reads 376 = .ok (.iinc 1 (-1), 3) := by decide +kernel
theorem dX12_reads_379 : decode cX12_reads 379 = .ok (.iload_n 1, 1) := by decide +kernel
theorem dX12_reads_380 : decode cX12_reads 380 = .ok (.ifCond .le 44, 3) := by decide +kernel
theorem dX12_reads_383 : decode cX12_reads 383 = .ok (.aload_n 0, 1) := by decide +kernel
theorem dX12_reads_384 : decode cX12_reads 384 = .ok (.getfield 47, 3) := by decide +kernel
theorem dX12_reads_387 : decode cX12_reads 387 = .ok (.iload_n 1, 1) := by decide +kernel
theorem dX12_reads_388 : decode cX12_reads 388 = .ok (.iaload, 1) := by decide +kernel
theorem dX12_reads_389 : decode cX12_reads 389 = .ok (.iconst 1, 1) := by decide +kernel
theorem dX12_reads_390 : decode cX12_reads 390 = .ok (.if_icmp .ne 34, 3) := by decide +kernel
theorem dX12_reads_393 : decode cX12_reads 393 = .ok (.iinc 1 (-1), 3) := by decide +kernel
theorem dX12_reads_396 : decode cX12_reads 396 = .ok (.goto (-17), 3) := by decide +kernel
theorem dX12_reads_399 : decode cX12_reads 399 = .ok (.iload_n 1, 1) := by decide +kernel
theorem dX12_reads_400 : decode cX12_reads 400 = .ok (.ifCond .ne 18, 3) := by decide +kernel
theorem dX12_reads_403 : decode cX12_reads 403 = .ok (.aload_n 0, 1) := by decide +kernel
theorem dX12_reads_404 : decode cX12_reads 404 = .ok (.bipush 59, 2) := by decide +kernel
theorem dX12_reads_406 : decode cX12_reads 406 = .ok (.invokevirtual 233, 3) := by decide +kernel
theorem dX12_reads_409 : decode cX12_reads 409 = .ok (.ifCond .eq 9, 3) := by decide +kernel
theorem dX12_reads_412 : decode cX12_reads 412 = .ok (.aload_n 0, 1) := by decide +kernel
theorem dX12_reads_413 : decode cX12_reads 413 = .ok (.invokevirtual 243, 3) := by decide +kernel
theorem dX12_reads_416 : decode cX12_reads 416 = .ok (.iconst 1, 1) := by decide +kernel
theorem dX12_reads_417 : decode cX12_reads 417 = .ok (.ireturn, 1) := by decide +kernel
theorem dX12_reads_418 : decode cX12_reads 418 = .ok (.aload_n 0, 1) := by decide +kernel
theorem dX12_reads_419 : decode cX12_reads 419 = .ok (.iconst 1, 1) := by decide +kernel
theorem dX12_reads_420 : decode cX12_reads 420 = .ok (.invokevirtual 237, 3) := by decide +kernel
theorem dX12_reads_423 : decode cX12_reads 423 = .ok (.ireturn, 1) := by decide +kernel
theorem dX12_reads_424 : decode cX12_reads 424 = .ok (.aload_n 0, 1) := by decide +kernel
theorem dX12_reads_425 : decode cX12_reads 425 = .ok (.invokevirtual 243, 3) := by decide +kernel
theorem dX12_reads_428 : decode cX12_reads 428 = .ok (.goto (-417), 3) := by decide +kernel
noncomputable def F_X12_reads_379 (k424 : Nat → Int32 → Int32 → m_M → Option (Int32 × m_M)) : Nat → Nat → Int32 → Int32 → m_M → Option (Int32 × m_M)
  | 0, _, _, _, _ => none
  | n + 1, v1, v2, v3, M =>
    if v2 ≤ 0 then (
      k424 v1 v2 v3 M
    ) else
    x_gN 10 M v1 25 fun v4 =>
    x_aI 12 M v4 v2 fun v5 =>
    if v5 = (1 : Int32) then (
      m_let (v2 - (1 : Int32)) fun v6 =>
      F_X12_reads_379 k424 n v1 v6 v3 M
    ) else
    k424 v1 v2 v3 M
noncomputable def F_X12_reads_152 (k172 : Nat → Int32 → Int32 → m_M → Option (Int32 × m_M)) : Nat → Nat → Int32 → Int32 → m_M → Option (Int32 × m_M)
  | 0, _, _, _, _ => none
  | n + 1, v1, v2, v3, M =>
    if v2 ≤ 0 then (
      k172 v1 v2 v3 M
    ) else
    x_gN 10 M v1 25 fun v4 =>
    x_aI 12 M v4 v2 fun v5 =>
    if v5 = (1 : Int32) then (
      m_let (v2 - (1 : Int32)) fun v6 =>
      F_X12_reads_152 k172 n v1 v6 v3 M
    ) else
    k172 v1 v2 v3 M
noncomputable def F_X12_reads_11 (k59 : Nat → m_M → Option (Int32 × m_M)) (k70 : Nat → m_M → Option (Int32 × m_M)) (k399 : Nat → Int32 → m_M → Option (Int32 × m_M)) : Nat → Nat → Int32 → Int32 → m_M → Option (Int32 × m_M)
  | 0, _, _, _, _ => none
  | n + 1, v1, v2, v3, M =>
    if v3 = 0 then (
      m_let (fun (v4 : Nat) (v5 : Int32) (v6 : Int32) (M1 : m_M) =>
        x_cV 10 M1 v4 (F_X12_nextToken v4 M1) fun _ M2 =>
        F_X12_reads_11 k59 k70 k399 n v4 v5 v6 M2
      ) fun (k424 : Nat → Int32 → Int32 → m_M → Option (Int32 × m_M)) =>
      m_let (fun (v7 : Nat) (v8 : Int32) (M3 : m_M) =>
        m_let (fun (v9 : Nat) (v10 : Int32) (v11 : Nat) (v12 : Int32) (M4 : m_M) =>
          x_cV 10 M4 v11 (F_X12_puts v11 v12 M4) fun _ M5 =>
          k424 v9 v10 (1 : Int32) M5
        ) fun (k237 : Nat → Int32 → Nat → Int32 → m_M → Option (Int32 × m_M)) =>
        x_cV 10 M3 v7 (F_X12_isSign v7 (43 : Int32) M3) fun v13 M6 =>
        if v13 = 0 then (
          x_cV 10 M6 v7 (F_X12_isSign v7 (45 : Int32) M6) fun v14 M7 =>
          if v14 = 0 then (
            k237 v7 v8 v7 (22 : Int32) M7
          ) else
          k237 v7 v8 v7 (21 : Int32) M7
        ) else
        k237 v7 v8 v7 (20 : Int32) M6
      ) fun (k206 : Nat → Int32 → m_M → Option (Int32 × m_M)) =>
      x_cV 10 M v1 (F_X12_isSign v1 (43 : Int32) M) fun v15 M8 =>
      if v15 = 0 then (
        x_cV 10 M8 v1 (F_X12_isSign v1 (45 : Int32) M8) fun v16 M9 =>
        if v16 = 0 then (
          x_cV 10 M9 v1 (F_X12_isSign v1 (42 : Int32) M9) fun v17 M10 =>
          if v17 = 0 then (
            m_let (fun (v18 : Nat) (v19 : Int32) (v20 : Int32) (M11 : m_M) =>
              m_let (fun (v21 : Nat) (v22 : Int32) (M12 : m_M) =>
                m_let (fun (v23 : Nat) (v24 : Int32) (v25 : Nat) (v26 : Int32) (M13 : m_M) =>
                  x_cV 10 M13 v25 (F_X12_puts v25 v26 M13) fun _ M14 =>
                  x_gN 10 M14 v23 26 fun v27 =>
                  x_sI 14 M14 v27 v24 (vp_nar .boolean (0 : Int32)) fun M15 =>
                  k424 v23 v24 (1 : Int32) M15
                ) fun (k342 : Nat → Int32 → Nat → Int32 → m_M → Option (Int32 × m_M)) =>
                x_cV 10 M12 v21 (F_X12_isWord v21 (1111 : Int64) M12) fun v28 M16 =>
                if v28 = 0 then (
                  k342 v21 v22 v21 (27 : Int32) M16
                ) else
                k342 v21 v22 v21 (26 : Int32) M16
              ) fun (k324 : Nat → Int32 → m_M → Option (Int32 × m_M)) =>
              x_cV 10 M11 v18 (F_X12_isWord v18 (1111 : Int64) M11) fun v29 M17 =>
              if v29 = 0 then (
                x_cV 10 M17 v18 (F_X12_isWord v18 (423 : Int64) M17) fun v30 M18 =>
                if v30 = 0 then (
                  x_cV 10 M18 v18 (F_X12_isSign v18 (41 : Int32) M18) fun v31 M19 =>
                  if v31 = 0 then (
                    k399 v18 v19 M19
                  ) else
                  if v19 ≤ 0 then (
                    k399 v18 v19 M19
                  ) else
                  x_cV 10 M19 v18 (F_X12_puts v18 (29 : Int32) M19) fun _ M20 =>
                  m_let (v19 - (1 : Int32)) fun v32 =>
                  F_X12_reads_379 k424 m_FU v18 v32 v20 M20
                ) else
                k324 v18 v19 M18
              ) else
              k324 v18 v19 M17
            ) fun (k304 : Nat → Int32 → Int32 → m_M → Option (Int32 × m_M)) =>
            m_let (fun (v33 : Nat) (v34 : Int32) (v35 : Int32) (M21 : m_M) =>
              x_gN 10 M21 v33 26 fun v36 =>
              x_aI 14 M21 v36 v34 fun v37 =>
              if v37 = 0 then (
                m_let (fun (v38 : Nat) (v39 : Int32) (v40 : Nat) (v41 : Int32) (M22 : m_M) =>
                  x_cV 10 M22 v40 (F_X12_puts v40 v41 M22) fun _ M23 =>
                  x_gN 10 M23 v38 26 fun v42 =>
                  x_sI 14 M23 v42 v39 (vp_nar .boolean (1 : Int32)) fun M24 =>
                  k424 v38 v39 (1 : Int32) M24
                ) fun (k289 : Nat → Int32 → Nat → Int32 → m_M → Option (Int32 × m_M)) =>
                x_cV 10 M21 v33 (F_X12_isSign v33 (60 : Int32) M21) fun v43 M25 =>
                if v43 = 0 then (
                  k289 v33 v34 v33 (25 : Int32) M25
                ) else
                k289 v33 v34 v33 (24 : Int32) M25
              ) else
              k304 v33 v34 v35 M21
            ) fun (k263 : Nat → Int32 → Int32 → m_M → Option (Int32 × m_M)) =>
            x_cV 10 M10 v1 (F_X12_isSign v1 (60 : Int32) M10) fun v44 M26 =>
            if v44 = 0 then (
              x_cV 10 M26 v1 (F_X12_isSign v1 (61 : Int32) M26) fun v45 M27 =>
              if v45 = 0 then (
                k304 v1 v2 v3 M27
              ) else
              k263 v1 v2 v3 M27
            ) else
            k263 v1 v2 v3 M26
          ) else
          k206 v1 v2 M10
        ) else
        k206 v1 v2 M9
      ) else
      k206 v1 v2 M8
    ) else
    m_let (fun (v46 : Nat) (v47 : Int32) (v48 : Int32) (v49 : Int32) (v50 : Int32) (v51 : Int32) (M28 : m_M) =>
      if v47 = (5 : Int32) then (
        k70 v46 M28
      ) else
      m_let (fun (v52 : Nat) (v53 : Int32) (v54 : Int32) (M29 : m_M) =>
        x_cV 10 M29 v52 (F_X12_nextToken v52 M29) fun _ M30 =>
        F_X12_reads_11 k59 k70 k399 n v52 v53 v54 M30
      ) fun (k172 : Nat → Int32 → Int32 → m_M → Option (Int32 × m_M)) =>
      m_let (fun (v55 : Nat) (v56 : Int32) (v57 : Int32) (v58 : Int32) (M31 : m_M) =>
        m_let (fun (v59 : Nat) (v60 : Int32) (v61 : Int32) (v62 : Int32) (v63 : Nat) (v64 : Int32) (M32 : m_M) =>
          m_let (fun (v65 : Nat) (v66 : Int32) (v67 : Int32) (v68 : Nat) (v69 : Int32) (v70 : Int32) (M33 : m_M) =>
            x_sI 12 M33 v68 v69 v70 fun M34 =>
            x_gN 10 M34 v65 26 fun v71 =>
            x_sI 14 M34 v71 v66 (vp_nar .boolean (0 : Int32)) fun M35 =>
            k172 v65 v66 v67 M35
          ) fun (k120 : Nat → Int32 → Int32 → Nat → Int32 → Int32 → m_M → Option (Int32 × m_M)) =>
          x_cV 10 M32 v63 (F_X12_puts v63 v64 M32) fun _ M36 =>
          m_let (v60 + (1 : Int32)) fun v72 =>
          x_gN 10 M36 v59 25 fun v73 =>
          if v62 = 0 then (
            k120 v59 v72 v61 v73 v72 (2 : Int32) M36
          ) else
          k120 v59 v72 v61 v73 v72 (1 : Int32) M36
        ) fun (k99 : Nat → Int32 → Int32 → Int32 → Nat → Int32 → m_M → Option (Int32 × m_M)) =>
        if v58 = 0 then (
          k99 v55 v56 v57 v58 v55 (28 : Int32) M31
        ) else
        k99 v55 v56 v57 v58 v55 (30 : Int32) M31
      ) fun (k86 : Nat → Int32 → Int32 → Int32 → m_M → Option (Int32 × m_M)) =>
      if v50 = 0 then (
        if v51 = 0 then (
          m_let (fun (v74 : Nat) (v75 : Int32) (v76 : Nat) (v77 : Int32) (M37 : m_M) =>
            x_cV 10 M37 v76 (F_X12_puts v76 v77 M37) fun _ M38 =>
            F_X12_reads_152 k172 m_FU v74 v75 (0 : Int32) M38
          ) fun (k147 : Nat → Int32 → Nat → Int32 → m_M → Option (Int32 × m_M)) =>
          if v49 ≤ 0 then (
            x_gI 10 M28 v46 8 fun v78 =>
            k147 v46 v47 v46 ((100 : Int32) + v78) M28
          ) else
          k147 v46 v47 v46 v49 M28
        ) else
        k86 v46 v47 v48 v50 M28
      ) else
      k86 v46 v47 v48 v50 M28
    ) fun (k65 : Nat → Int32 → Int32 → Int32 → Int32 → Int32 → m_M → Option (Int32 × m_M)) =>
    x_cV 10 M v1 (F_X12_fact v1 M) fun v79 M39 =>
    x_cV 10 M39 v1 (F_X12_isWord v1 (10631 : Int64) M39) fun v80 M40 =>
    x_cV 10 M40 v1 (F_X12_isSign v1 (40 : Int32) M40) fun v81 M41 =>
    if v79 = 0 then (
      if v80 = 0 then (
        if v81 = 0 then (
          x_gI 10 M41 v1 6 fun v82 =>
          if v82 = (2 : Int32) then (
            k65 v1 v2 v3 v79 v80 v81 M41
          ) else
          k59 v1 M41
        ) else
        k65 v1 v2 v3 v79 v80 v81 M41
      ) else
      k65 v1 v2 v3 v79 v80 v81 M41
    ) else
    k65 v1 v2 v3 v79 v80 v81 M41
noncomputable def F_X12_reads (a0 : Nat) (M : m_M) : Option (Int32 × m_M) :=
  x_gN 10 M a0 26 fun v1 =>
  x_sI 14 M v1 (0 : Int32) (vp_nar .boolean (0 : Int32)) fun M1 =>
  m_let (fun (v2 : Nat) (M2 : m_M) =>
    x_cV 10 M2 v2 (F_X12_fails v2 (1 : Int32) M2) fun v3 M3 =>
    x_b v3 <| some (v3, M3)
  ) fun (k59 : Nat → m_M → Option (Int32 × m_M)) =>
  m_let (fun (v4 : Nat) (M4 : m_M) =>
    x_cV 10 M4 v4 (F_X12_fails v4 (5 : Int32) M4) fun v5 M5 =>
    x_b v5 <| some (v5, M5)
  ) fun (k70 : Nat → m_M → Option (Int32 × m_M)) =>
  m_let (fun (v6 : Nat) (v7 : Int32) (M6 : m_M) =>
    m_let (fun (v8 : Nat) (M7 : m_M) =>
      x_cV 10 M7 v8 (F_X12_fails v8 (1 : Int32) M7) fun v9 M8 =>
      x_b v9 <| some (v9, M8)
    ) fun (k418 : Nat → m_M → Option (Int32 × m_M)) =>
    if v7 = 0 then (
      x_cV 10 M6 v6 (F_X12_isSign v6 (59 : Int32) M6) fun v10 M9 =>
      if v10 = 0 then (
        k418 v6 M9
      ) else
      x_cV 10 M9 v6 (F_X12_nextToken v6 M9) fun _ M10 =>
      some ((1 : Int32), M10)
    ) else
    k418 v6 M6
  ) fun (k399 : Nat → Int32 → m_M → Option (Int32 × m_M)) =>
  F_X12_reads_11 k59 k70 k399 m_FU a0 (0 : Int32) (1 : Int32) M1
set_option maxHeartbeats 4000000 in
theorem L_X12_reads_379 {X : j_X} {Φ : Option Value → m_M → Prop} (C : j_C X yX12_reads cX12_reads 6 (some .boolean) 3 0 0 Φ) {k424 : Nat → Int32 → Int32 → m_M → Option (Int32 × m_M)} (hk424 : ∀ (p0 : Nat) (p1 : Int32) (p2 : Int32) (M : m_M), m_ok e_I Φ (k424 p0 p1 p2 M) → j_J X 6 424 [some (.ref p0), some (.int p1), some (.int p2), none, none, none] [] (0, 0) M) : ∀ (n : Nat) (v1 : Nat) (v2 : Int32) (v3 : Int32) (M : m_M), m_ok e_I Φ (F_X12_reads_379 k424 n v1 v2 v3 M) → j_J X 6 379 [some (.ref v1), some (.int v2), some (.int v3), none, none, none] [] (0, 0) M := by
  have C0 := C.1
  intro n
  induction n with
  | zero => intro v1 v2 v3 M h; exact False.elim h
  | succ n ih =>
    intro v1 v2 v3 M h
    rw [F_X12_reads_379] at h
    refine j_iload_n C0 (pc := 379) dX12_reads_379 rfl ?_
    refine j_if_le C0 (pc := 380) (tgt := 424) dX12_reads_380 (by decide) (fun hc => ?_) (fun hc => ?_)
    · replace h := (X_if h).1 hc
      exact j_J.wq (hk424 v1 v2 v3 M h) (And.intro rfl (And.intro rfl (And.intro rfl (trivial))))
    · replace h := (X_if h).2 hc
      refine j_aload_n C0 (pc := 383) dX12_reads_383 rfl ?_
      refine X_gN C0 (pc := 384) f_OM_47_10 rfl dX12_reads_384 h (fun v4 h => ?_)
      refine j_iload_n C0 (pc := 387) dX12_reads_387 rfl ?_
      refine X_iald C0 (pc := 388) dX12_reads_388 h (fun v5 h => ?_)
      refine j_iconst C0 (pc := 389) dX12_reads_389 (v := (1 : Int32)) (by decide) ?_
      refine j_icmp_ne C0 (pc := 390) (tgt := 424) dX12_reads_390 (by decide) (fun hc => ?_) (fun hc => ?_)
      · replace h := (X_if h).2 hc
        exact j_J.wq (hk424 v1 v2 v3 M h) (And.intro rfl (And.intro rfl (And.intro rfl (trivial))))
      · replace h := (X_if h).1 hc
        refine j_iinc C0 (pc := 393) dX12_reads_393 (v := v2 - (1 : Int32)) rfl (Nat.le_of_ble_eq_true rfl) (by rw [Int32.sub_eq_add_neg]; rfl) ?_
        refine X_let (G := fun w => j_J X 6 396 [some (.ref v1), some (.int w), some (.int v3), none, none, none] [] (0, 0) M) h (fun v6 h => ?_)
        refine j_goto C0 (pc := 396) (tgt := 379) dX12_reads_396 (by decide) ?_
        exact j_J.wq (ih v1 v6 v3 M h) (And.intro rfl (And.intro rfl (And.intro rfl (trivial))))
set_option maxHeartbeats 4000000 in
theorem L_X12_reads_152 {X : j_X} {Φ : Option Value → m_M → Prop} (C : j_C X yX12_reads cX12_reads 6 (some .boolean) 3 0 0 Φ) {k172 : Nat → Int32 → Int32 → m_M → Option (Int32 × m_M)} (hk172 : ∀ (p0 : Nat) (p1 : Int32) (p2 : Int32) (M : m_M), m_ok e_I Φ (k172 p0 p1 p2 M) → j_J X 6 172 [some (.ref p0), some (.int p1), some (.int p2), none, none, none] [] (0, 0) M) : ∀ (n : Nat) (v1 : Nat) (v2 : Int32) (v3 : Int32) (M : m_M), m_ok e_I Φ (F_X12_reads_152 k172 n v1 v2 v3 M) → j_J X 6 152 [some (.ref v1), some (.int v2), some (.int v3), none, none, none] [] (0, 0) M := by
  have C0 := C.1
  intro n
  induction n with
  | zero => intro v1 v2 v3 M h; exact False.elim h
  | succ n ih =>
    intro v1 v2 v3 M h
    rw [F_X12_reads_152] at h
    refine j_iload_n C0 (pc := 152) dX12_reads_152 rfl ?_
    refine j_if_le C0 (pc := 153) (tgt := 172) dX12_reads_153 (by decide) (fun hc => ?_) (fun hc => ?_)
    · replace h := (X_if h).1 hc
      exact j_J.wq (hk172 v1 v2 v3 M h) (And.intro rfl (And.intro rfl (And.intro rfl (trivial))))
    · replace h := (X_if h).2 hc
      refine j_aload_n C0 (pc := 156) dX12_reads_156 rfl ?_
      refine X_gN C0 (pc := 157) f_OM_47_10 rfl dX12_reads_157 h (fun v4 h => ?_)
      refine j_iload_n C0 (pc := 160) dX12_reads_160 rfl ?_
      refine X_iald C0 (pc := 161) dX12_reads_161 h (fun v5 h => ?_)
      refine j_iconst C0 (pc := 162) dX12_reads_162 (v := (1 : Int32)) (by decide) ?_
      refine j_icmp_ne C0 (pc := 163) (tgt := 172) dX12_reads_163 (by decide) (fun hc => ?_) (fun hc => ?_)
      · replace h := (X_if h).2 hc
        exact j_J.wq (hk172 v1 v2 v3 M h) (And.intro rfl (And.intro rfl (And.intro rfl (trivial))))
      · replace h := (X_if h).1 hc
        refine j_iinc C0 (pc := 166) dX12_reads_166 (v := v2 - (1 : Int32)) rfl (Nat.le_of_ble_eq_true rfl) (by rw [Int32.sub_eq_add_neg]; rfl) ?_
        refine X_let (G := fun w => j_J X 6 169 [some (.ref v1), some (.int w), some (.int v3), none, none, none] [] (0, 0) M) h (fun v6 h => ?_)
        refine j_goto C0 (pc := 169) (tgt := 152) dX12_reads_169 (by decide) ?_
        exact j_J.wq (ih v1 v6 v3 M h) (And.intro rfl (And.intro rfl (And.intro rfl (trivial))))
set_option maxHeartbeats 4000000 in
theorem L_X12_reads_11 {X : j_X} {Φ : Option Value → m_M → Prop} (C : j_C X yX12_reads cX12_reads 6 (some .boolean) 3 0 0 Φ) {k59 : Nat → m_M → Option (Int32 × m_M)} {k70 : Nat → m_M → Option (Int32 × m_M)} {k399 : Nat → Int32 → m_M → Option (Int32 × m_M)} (hk59 : ∀ (p0 : Nat) (M : m_M), m_ok e_I Φ (k59 p0 M) → j_J X 6 59 [some (.ref p0), none, none, none, none, none] [] (0, 0) M) (hk70 : ∀ (p0 : Nat) (M : m_M), m_ok e_I Φ (k70 p0 M) → j_J X 6 70 [some (.ref p0), none, none, none, none, none] [] (0, 0) M) (hk399 : ∀ (p0 : Nat) (p1 : Int32) (M : m_M), m_ok e_I Φ (k399 p0 p1 M) → j_J X 6 399 [some (.ref p0), some (.int p1), none, none, none, none] [] (0, 0) M) : ∀ (n : Nat) (v1 : Nat) (v2 : Int32) (v3 : Int32) (M : m_M), m_ok e_I Φ (F_X12_reads_11 k59 k70 k399 n v1 v2 v3 M) → j_J X 6 11 [some (.ref v1), some (.int v2), some (.int v3), none, none, none] [] (0, 0) M := by
  have C0 := C.1
  intro n
  induction n with
  | zero => intro v1 v2 v3 M h; exact False.elim h
  | succ n ih =>
    intro v1 v2 v3 M h
    rw [F_X12_reads_11] at h
    refine j_iload_n C0 (pc := 11) dX12_reads_11 rfl ?_
    refine j_if_eq C0 (pc := 12) (tgt := 179) dX12_reads_12 (by decide) (fun hc => ?_) (fun hc => ?_)
    · replace h := (X_if h).1 hc
      refine X_join (fun (kj : Nat → Int32 → Int32 → m_M → Option (Int32 × m_M)) => ∀ (p0 : Nat) (p1 : Int32) (p2 : Int32) (M : m_M), m_ok e_I Φ (kj p0 p1 p2 M) → j_J X 6 424 [some (.ref p0), some (.int p1), some (.int p2), none, none, none] [] (0, 0) M) h (fun v4 v5 v6 M1 h => ?_) (fun k424 hk424 h => ?_)
      · refine j_aload_n C0 (pc := 424) dX12_reads_424 rfl ?_
        refine X_cV C0 (pc := 425) (e' := e_V) (as := []) (rest := []) (s' := fun _ => []) (g' := (0, 0)) v_OM_243_10 (fun Ψ hΨ => K_X12_nextToken v4 M1 Ψ hΨ) rfl rfl (fun _ => rfl) (by decide) (by decide) rfl (Nat.le_of_ble_eq_true rfl) dX12_reads_425 h (fun _ M2 h => ?_)
        refine j_goto C0 (pc := 428) (tgt := 11) dX12_reads_428 (by decide) ?_
        exact j_J.wq (ih v4 v5 v6 M2 h) (And.intro rfl (And.intro rfl (And.intro rfl (trivial))))
      · refine X_join (fun (kj : Nat → Int32 → m_M → Option (Int32 × m_M)) => ∀ (p0 : Nat) (p1 : Int32) (M : m_M), m_ok e_I Φ (kj p0 p1 M) → j_J X 6 206 [some (.ref p0), some (.int p1), none, none, none, none] [] (0, 0) M) h (fun v7 v8 M3 h => ?_) (fun k206 hk206 h => ?_)
        · refine X_join (fun (kj : Nat → Int32 → Nat → Int32 → m_M → Option (Int32 × m_M)) => ∀ (p0 : Nat) (p1 : Int32) (p2 : Nat) (p3 : Int32) (M : m_M), m_ok e_I Φ (kj p0 p1 p2 p3 M) → j_J X 6 237 [some (.ref p0), some (.int p1), none, none, none, none] [.int p3, .ref p2] (0, 0) M) h (fun v9 v10 v11 v12 M4 h => ?_) (fun k237 hk237 h => ?_)
          · refine X_cV C0 (pc := 237) (e' := e_V) (as := [.int v12]) (rest := []) (s' := fun _ => []) (g' := (0, 0)) v_OM_240_10 (fun Ψ hΨ => K_X12_puts v11 v12 M4 Ψ hΨ) rfl rfl (fun _ => rfl) (by decide) (by decide) rfl (Nat.le_of_ble_eq_true rfl) dX12_reads_237 h (fun _ M5 h => ?_)
            refine j_iconst C0 (pc := 240) dX12_reads_240 (v := (1 : Int32)) (by decide) ?_
            refine j_istore_n C0 (pc := 241) dX12_reads_241 (Nat.le_of_ble_eq_true rfl) ?_
            show j_J X 6 242 [some (.ref v9), some (.int v10), some (.int (1 : Int32)), none, none, none] [] (0, 0) M5
            refine j_goto C0 (pc := 242) (tgt := 424) dX12_reads_242 (by decide) ?_
            exact j_J.wq (hk424 v9 v10 (1 : Int32) M5 h) (And.intro rfl (And.intro rfl (And.intro rfl (trivial))))
          · refine j_aload_n C0 (pc := 206) dX12_reads_206 rfl ?_
            refine j_aload_n C0 (pc := 207) dX12_reads_207 rfl ?_
            refine j_bipush C0 (pc := 208) dX12_reads_208 (v := (43 : Int32)) (by decide) ?_
            refine X_cV C0 (pc := 210) (e' := e_I) (as := [.int (43 : Int32)]) (rest := [.ref v7]) (s' := fun w => .int w :: [.ref v7]) (g' := (0, 0)) v_OM_233_10 (fun Ψ hΨ => K_X12_isSign v7 (43 : Int32) M3 Ψ hΨ) rfl rfl (fun _ => rfl) (by decide) (by decide) rfl (Nat.le_of_ble_eq_true rfl) dX12_reads_210 h (fun v13 M6 h => ?_)
            refine j_if_eq C0 (pc := 213) (tgt := 221) dX12_reads_213 (by decide) (fun hc => ?_) (fun hc => ?_)
            · replace h := (X_if h).1 hc
              refine j_aload_n C0 (pc := 221) dX12_reads_221 rfl ?_
              refine j_bipush C0 (pc := 222) dX12_reads_222 (v := (45 : Int32)) (by decide) ?_
              refine X_cV C0 (pc := 224) (e' := e_I) (as := [.int (45 : Int32)]) (rest := [.ref v7]) (s' := fun w => .int w :: [.ref v7]) (g' := (0, 0)) v_OM_233_10 (fun Ψ hΨ => K_X12_isSign v7 (45 : Int32) M6 Ψ hΨ) rfl rfl (fun _ => rfl) (by decide) (by decide) rfl (Nat.le_of_ble_eq_true rfl) dX12_reads_224 h (fun v14 M7 h => ?_)
              refine j_if_eq C0 (pc := 227) (tgt := 235) dX12_reads_227 (by decide) (fun hc => ?_) (fun hc => ?_)
              · replace h := (X_if h).1 hc
                refine j_bipush C0 (pc := 235) dX12_reads_235 (v := (22 : Int32)) (by decide) ?_
                exact j_J.wq (hk237 v7 v8 v7 (22 : Int32) M7 h) (And.intro rfl (And.intro rfl (trivial)))
              · replace h := (X_if h).2 hc
                refine j_bipush C0 (pc := 230) dX12_reads_230 (v := (21 : Int32)) (by decide) ?_
                refine j_goto C0 (pc := 232) (tgt := 237) dX12_reads_232 (by decide) ?_
                exact j_J.wq (hk237 v7 v8 v7 (21 : Int32) M7 h) (And.intro rfl (And.intro rfl (trivial)))
            · replace h := (X_if h).2 hc
              refine j_bipush C0 (pc := 216) dX12_reads_216 (v := (20 : Int32)) (by decide) ?_
              refine j_goto C0 (pc := 218) (tgt := 237) dX12_reads_218 (by decide) ?_
              exact j_J.wq (hk237 v7 v8 v7 (20 : Int32) M6 h) (And.intro rfl (And.intro rfl (trivial)))
        · refine j_aload_n C0 (pc := 179) dX12_reads_179 rfl ?_
          refine j_bipush C0 (pc := 180) dX12_reads_180 (v := (43 : Int32)) (by decide) ?_
          refine X_cV C0 (pc := 182) (e' := e_I) (as := [.int (43 : Int32)]) (rest := []) (s' := fun w => .int w :: []) (g' := (0, 0)) v_OM_233_10 (fun Ψ hΨ => K_X12_isSign v1 (43 : Int32) M Ψ hΨ) rfl rfl (fun _ => rfl) (by decide) (by decide) rfl (Nat.le_of_ble_eq_true rfl) dX12_reads_182 h (fun v15 M8 h => ?_)
          refine j_if_ne C0 (pc := 185) (tgt := 206) dX12_reads_185 (by decide) (fun hc => ?_) (fun hc => ?_)
          · replace h := (X_if h).2 hc
            exact j_J.wq (hk206 v1 v2 M8 h) (And.intro rfl (And.intro rfl (trivial)))
          · replace h := (X_if h).1 hc
            refine j_aload_n C0 (pc := 188) dX12_reads_188 rfl ?_
            refine j_bipush C0 (pc := 189) dX12_reads_189 (v := (45 : Int32)) (by decide) ?_
            refine X_cV C0 (pc := 191) (e' := e_I) (as := [.int (45 : Int32)]) (rest := []) (s' := fun w => .int w :: []) (g' := (0, 0)) v_OM_233_10 (fun Ψ hΨ => K_X12_isSign v1 (45 : Int32) M8 Ψ hΨ) rfl rfl (fun _ => rfl) (by decide) (by decide) rfl (Nat.le_of_ble_eq_true rfl) dX12_reads_191 h (fun v16 M9 h => ?_)
            refine j_if_ne C0 (pc := 194) (tgt := 206) dX12_reads_194 (by decide) (fun hc => ?_) (fun hc => ?_)
            · replace h := (X_if h).2 hc
              exact j_J.wq (hk206 v1 v2 M9 h) (And.intro rfl (And.intro rfl (trivial)))
            · replace h := (X_if h).1 hc
              refine j_aload_n C0 (pc := 197) dX12_reads_197 rfl ?_
              refine j_bipush C0 (pc := 198) dX12_reads_198 (v := (42 : Int32)) (by decide) ?_
              refine X_cV C0 (pc := 200) (e' := e_I) (as := [.int (42 : Int32)]) (rest := []) (s' := fun w => .int w :: []) (g' := (0, 0)) v_OM_233_10 (fun Ψ hΨ => K_X12_isSign v1 (42 : Int32) M9 Ψ hΨ) rfl rfl (fun _ => rfl) (by decide) (by decide) rfl (Nat.le_of_ble_eq_true rfl) dX12_reads_200 h (fun v17 M10 h => ?_)
              refine j_if_eq C0 (pc := 203) (tgt := 245) dX12_reads_203 (by decide) (fun hc => ?_) (fun hc => ?_)
              · replace h := (X_if h).1 hc
                refine X_join (fun (kj : Nat → Int32 → Int32 → m_M → Option (Int32 × m_M)) => ∀ (p0 : Nat) (p1 : Int32) (p2 : Int32) (M : m_M), m_ok e_I Φ (kj p0 p1 p2 M) → j_J X 6 304 [some (.ref p0), some (.int p1), some (.int p2), none, none, none] [] (0, 0) M) h (fun v18 v19 v20 M11 h => ?_) (fun k304 hk304 h => ?_)
                · refine X_join (fun (kj : Nat → Int32 → m_M → Option (Int32 × m_M)) => ∀ (p0 : Nat) (p1 : Int32) (M : m_M), m_ok e_I Φ (kj p0 p1 M) → j_J X 6 324 [some (.ref p0), some (.int p1), none, none, none, none] [] (0, 0) M) h (fun v21 v22 M12 h => ?_) (fun k324 hk324 h => ?_)
                  · refine X_join (fun (kj : Nat → Int32 → Nat → Int32 → m_M → Option (Int32 × m_M)) => ∀ (p0 : Nat) (p1 : Int32) (p2 : Nat) (p3 : Int32) (M : m_M), m_ok e_I Φ (kj p0 p1 p2 p3 M) → j_J X 6 342 [some (.ref p0), some (.int p1), none, none, none, none] [.int p3, .ref p2] (0, 0) M) h (fun v23 v24 v25 v26 M13 h => ?_) (fun k342 hk342 h => ?_)
                    · refine X_cV C0 (pc := 342) (e' := e_V) (as := [.int v26]) (rest := []) (s' := fun _ => []) (g' := (0, 0)) v_OM_240_10 (fun Ψ hΨ => K_X12_puts v25 v26 M13 Ψ hΨ) rfl rfl (fun _ => rfl) (by decide) (by decide) rfl (Nat.le_of_ble_eq_true rfl) dX12_reads_342 h (fun _ M14 h => ?_)
                      refine j_aload_n C0 (pc := 345) dX12_reads_345 rfl ?_
                      refine X_gN C0 (pc := 346) f_OM_50_10 rfl dX12_reads_346 h (fun v27 h => ?_)
                      refine j_iload_n C0 (pc := 349) dX12_reads_349 rfl ?_
                      refine j_iconst C0 (pc := 350) dX12_reads_350 (v := (0 : Int32)) (by decide) ?_
                      refine X_zast C0 (pc := 351) dX12_reads_351 h (fun M15 h => ?_)
                      refine j_iconst C0 (pc := 352) dX12_reads_352 (v := (1 : Int32)) (by decide) ?_
                      refine j_istore_n C0 (pc := 353) dX12_reads_353 (Nat.le_of_ble_eq_true rfl) ?_
                      show j_J X 6 354 [some (.ref v23), some (.int v24), some (.int (1 : Int32)), none, none, none] [] (0, 0) M15
                      refine j_goto C0 (pc := 354) (tgt := 424) dX12_reads_354 (by decide) ?_
                      exact j_J.wq (hk424 v23 v24 (1 : Int32) M15 h) (And.intro rfl (And.intro rfl (And.intro rfl (trivial))))
                    · refine j_aload_n C0 (pc := 324) dX12_reads_324 rfl ?_
                      refine j_aload_n C0 (pc := 325) dX12_reads_325 rfl ?_
                      refine j_ldc2 C0 (pc := 326) (v := (1111 : Int64)) (j_c8 149 (by decide +kernel)) dX12_reads_326 ?_
                      refine X_cV C0 (pc := 329) (e' := e_I) (as := [.long (1111 : Int64)]) (rest := [.ref v21]) (s' := fun w => .int w :: [.ref v21]) (g' := (0, 0)) v_OM_229_10 (fun Ψ hΨ => K_X12_isWord v21 (1111 : Int64) M12 Ψ hΨ) rfl rfl (fun _ => rfl) (by decide) (by decide) rfl (Nat.le_of_ble_eq_true rfl) dX12_reads_329 h (fun v28 M16 h => ?_)
                      refine j_if_eq C0 (pc := 332) (tgt := 340) dX12_reads_332 (by decide) (fun hc => ?_) (fun hc => ?_)
                      · replace h := (X_if h).1 hc
                        refine j_bipush C0 (pc := 340) dX12_reads_340 (v := (27 : Int32)) (by decide) ?_
                        exact j_J.wq (hk342 v21 v22 v21 (27 : Int32) M16 h) (And.intro rfl (And.intro rfl (trivial)))
                      · replace h := (X_if h).2 hc
                        refine j_bipush C0 (pc := 335) dX12_reads_335 (v := (26 : Int32)) (by decide) ?_
                        refine j_goto C0 (pc := 337) (tgt := 342) dX12_reads_337 (by decide) ?_
                        exact j_J.wq (hk342 v21 v22 v21 (26 : Int32) M16 h) (And.intro rfl (And.intro rfl (trivial)))
                  · refine j_aload_n C0 (pc := 304) dX12_reads_304 rfl ?_
                    refine j_ldc2 C0 (pc := 305) (v := (1111 : Int64)) (j_c8 149 (by decide +kernel)) dX12_reads_305 ?_
                    refine X_cV C0 (pc := 308) (e' := e_I) (as := [.long (1111 : Int64)]) (rest := []) (s' := fun w => .int w :: []) (g' := (0, 0)) v_OM_229_10 (fun Ψ hΨ => K_X12_isWord v18 (1111 : Int64) M11 Ψ hΨ) rfl rfl (fun _ => rfl) (by decide) (by decide) rfl (Nat.le_of_ble_eq_true rfl) dX12_reads_308 h (fun v29 M17 h => ?_)
                    refine j_if_ne C0 (pc := 311) (tgt := 324) dX12_reads_311 (by decide) (fun hc => ?_) (fun hc => ?_)
                    · replace h := (X_if h).2 hc
                      exact j_J.wq (hk324 v18 v19 M17 h) (And.intro rfl (And.intro rfl (trivial)))
                    · replace h := (X_if h).1 hc
                      refine j_aload_n C0 (pc := 314) dX12_reads_314 rfl ?_
                      refine j_ldc2 C0 (pc := 315) (v := (423 : Int64)) (j_c8 150 (by decide +kernel)) dX12_reads_315 ?_
                      refine X_cV C0 (pc := 318) (e' := e_I) (as := [.long (423 : Int64)]) (rest := []) (s' := fun w => .int w :: []) (g' := (0, 0)) v_OM_229_10 (fun Ψ hΨ => K_X12_isWord v18 (423 : Int64) M17 Ψ hΨ) rfl rfl (fun _ => rfl) (by decide) (by decide) rfl (Nat.le_of_ble_eq_true rfl) dX12_reads_318 h (fun v30 M18 h => ?_)
                      refine j_if_eq C0 (pc := 321) (tgt := 357) dX12_reads_321 (by decide) (fun hc => ?_) (fun hc => ?_)
                      · replace h := (X_if h).1 hc
                        refine j_aload_n C0 (pc := 357) dX12_reads_357 rfl ?_
                        refine j_bipush C0 (pc := 358) dX12_reads_358 (v := (41 : Int32)) (by decide) ?_
                        refine X_cV C0 (pc := 360) (e' := e_I) (as := [.int (41 : Int32)]) (rest := []) (s' := fun w => .int w :: []) (g' := (0, 0)) v_OM_233_10 (fun Ψ hΨ => K_X12_isSign v18 (41 : Int32) M18 Ψ hΨ) rfl rfl (fun _ => rfl) (by decide) (by decide) rfl (Nat.le_of_ble_eq_true rfl) dX12_reads_360 h (fun v31 M19 h => ?_)
                        refine j_if_eq C0 (pc := 363) (tgt := 399) dX12_reads_363 (by decide) (fun hc => ?_) (fun hc => ?_)
                        · replace h := (X_if h).1 hc
                          exact j_J.wq (hk399 v18 v19 M19 h) (And.intro rfl (And.intro rfl (trivial)))
                        · replace h := (X_if h).2 hc
                          refine j_iload_n C0 (pc := 366) dX12_reads_366 rfl ?_
                          refine j_if_le C0 (pc := 367) (tgt := 399) dX12_reads_367 (by decide) (fun hc => ?_) (fun hc => ?_)
                          · replace h := (X_if h).1 hc
                            exact j_J.wq (hk399 v18 v19 M19 h) (And.intro rfl (And.intro rfl (trivial)))
                          · replace h := (X_if h).2 hc
                            refine j_aload_n C0 (pc := 370) dX12_reads_370 rfl ?_
                            refine j_bipush C0 (pc := 371) dX12_reads_371 (v := (29 : Int32)) (by decide) ?_
                            refine X_cV C0 (pc := 373) (e' := e_V) (as := [.int (29 : Int32)]) (rest := []) (s' := fun _ => []) (g' := (0, 0)) v_OM_240_10 (fun Ψ hΨ => K_X12_puts v18 (29 : Int32) M19 Ψ hΨ) rfl rfl (fun _ => rfl) (by decide) (by decide) rfl (Nat.le_of_ble_eq_true rfl) dX12_reads_373 h (fun _ M20 h => ?_)
                            refine j_iinc C0 (pc := 376) dX12_reads_376 (v := v19 - (1 : Int32)) rfl (Nat.le_of_ble_eq_true rfl) (by rw [Int32.sub_eq_add_neg]; rfl) ?_
                            refine X_let (G := fun w => j_J X 6 379 [some (.ref v18), some (.int w), some (.int v20), none, none, none] [] (0, 0) M20) h (fun v32 h => ?_)
                            exact j_J.wq (L_X12_reads_379 C hk424 m_FU v18 v32 v20 M20 h) (And.intro rfl (And.intro rfl (And.intro rfl (trivial))))
                      · replace h := (X_if h).2 hc
                        exact j_J.wq (hk324 v18 v19 M18 h) (And.intro rfl (And.intro rfl (trivial)))
                · refine X_join (fun (kj : Nat → Int32 → Int32 → m_M → Option (Int32 × m_M)) => ∀ (p0 : Nat) (p1 : Int32) (p2 : Int32) (M : m_M), m_ok e_I Φ (kj p0 p1 p2 M) → j_J X 6 263 [some (.ref p0), some (.int p1), some (.int p2), none, none, none] [] (0, 0) M) h (fun v33 v34 v35 M21 h => ?_) (fun k263 hk263 h => ?_)
                  · refine j_aload_n C0 (pc := 263) dX12_reads_263 rfl ?_
                    refine X_gN C0 (pc := 264) f_OM_50_10 rfl dX12_reads_264 h (fun v36 h => ?_)
                    refine j_iload_n C0 (pc := 267) dX12_reads_267 rfl ?_
                    refine X_zald C0 (pc := 268) dX12_reads_268 h (fun v37 h => ?_)
                    refine j_if_ne C0 (pc := 269) (tgt := 304) dX12_reads_269 (by decide) (fun hc => ?_) (fun hc => ?_)
                    · replace h := (X_if h).2 hc
                      exact j_J.wq (hk304 v33 v34 v35 M21 h) (And.intro rfl (And.intro rfl (And.intro rfl (trivial))))
                    · replace h := (X_if h).1 hc
                      refine X_join (fun (kj : Nat → Int32 → Nat → Int32 → m_M → Option (Int32 × m_M)) => ∀ (p0 : Nat) (p1 : Int32) (p2 : Nat) (p3 : Int32) (M : m_M), m_ok e_I Φ (kj p0 p1 p2 p3 M) → j_J X 6 289 [some (.ref p0), some (.int p1), none, none, none, none] [.int p3, .ref p2] (0, 0) M) h (fun v38 v39 v40 v41 M22 h => ?_) (fun k289 hk289 h => ?_)
                      · refine X_cV C0 (pc := 289) (e' := e_V) (as := [.int v41]) (rest := []) (s' := fun _ => []) (g' := (0, 0)) v_OM_240_10 (fun Ψ hΨ => K_X12_puts v40 v41 M22 Ψ hΨ) rfl rfl (fun _ => rfl) (by decide) (by decide) rfl (Nat.le_of_ble_eq_true rfl) dX12_reads_289 h (fun _ M23 h => ?_)
                        refine j_aload_n C0 (pc := 292) dX12_reads_292 rfl ?_
                        refine X_gN C0 (pc := 293) f_OM_50_10 rfl dX12_reads_293 h (fun v42 h => ?_)
                        refine j_iload_n C0 (pc := 296) dX12_reads_296 rfl ?_
                        refine j_iconst C0 (pc := 297) dX12_reads_297 (v := (1 : Int32)) (by decide) ?_
                        refine X_zast C0 (pc := 298) dX12_reads_298 h (fun M24 h => ?_)
                        refine j_iconst C0 (pc := 299) dX12_reads_299 (v := (1 : Int32)) (by decide) ?_
                        refine j_istore_n C0 (pc := 300) dX12_reads_300 (Nat.le_of_ble_eq_true rfl) ?_
                        show j_J X 6 301 [some (.ref v38), some (.int v39), some (.int (1 : Int32)), none, none, none] [] (0, 0) M24
                        refine j_goto C0 (pc := 301) (tgt := 424) dX12_reads_301 (by decide) ?_
                        exact j_J.wq (hk424 v38 v39 (1 : Int32) M24 h) (And.intro rfl (And.intro rfl (And.intro rfl (trivial))))
                      · refine j_aload_n C0 (pc := 272) dX12_reads_272 rfl ?_
                        refine j_aload_n C0 (pc := 273) dX12_reads_273 rfl ?_
                        refine j_bipush C0 (pc := 274) dX12_reads_274 (v := (60 : Int32)) (by decide) ?_
                        refine X_cV C0 (pc := 276) (e' := e_I) (as := [.int (60 : Int32)]) (rest := [.ref v33]) (s' := fun w => .int w :: [.ref v33]) (g' := (0, 0)) v_OM_233_10 (fun Ψ hΨ => K_X12_isSign v33 (60 : Int32) M21 Ψ hΨ) rfl rfl (fun _ => rfl) (by decide) (by decide) rfl (Nat.le_of_ble_eq_true rfl) dX12_reads_276 h (fun v43 M25 h => ?_)
                        refine j_if_eq C0 (pc := 279) (tgt := 287) dX12_reads_279 (by decide) (fun hc => ?_) (fun hc => ?_)
                        · replace h := (X_if h).1 hc
                          refine j_bipush C0 (pc := 287) dX12_reads_287 (v := (25 : Int32)) (by decide) ?_
                          exact j_J.wq (hk289 v33 v34 v33 (25 : Int32) M25 h) (And.intro rfl (And.intro rfl (trivial)))
                        · replace h := (X_if h).2 hc
                          refine j_bipush C0 (pc := 282) dX12_reads_282 (v := (24 : Int32)) (by decide) ?_
                          refine j_goto C0 (pc := 284) (tgt := 289) dX12_reads_284 (by decide) ?_
                          exact j_J.wq (hk289 v33 v34 v33 (24 : Int32) M25 h) (And.intro rfl (And.intro rfl (trivial)))
                  · refine j_aload_n C0 (pc := 245) dX12_reads_245 rfl ?_
                    refine j_bipush C0 (pc := 246) dX12_reads_246 (v := (60 : Int32)) (by decide) ?_
                    refine X_cV C0 (pc := 248) (e' := e_I) (as := [.int (60 : Int32)]) (rest := []) (s' := fun w => .int w :: []) (g' := (0, 0)) v_OM_233_10 (fun Ψ hΨ => K_X12_isSign v1 (60 : Int32) M10 Ψ hΨ) rfl rfl (fun _ => rfl) (by decide) (by decide) rfl (Nat.le_of_ble_eq_true rfl) dX12_reads_248 h (fun v44 M26 h => ?_)
                    refine j_if_ne C0 (pc := 251) (tgt := 263) dX12_reads_251 (by decide) (fun hc => ?_) (fun hc => ?_)
                    · replace h := (X_if h).2 hc
                      exact j_J.wq (hk263 v1 v2 v3 M26 h) (And.intro rfl (And.intro rfl (And.intro rfl (trivial))))
                    · replace h := (X_if h).1 hc
                      refine j_aload_n C0 (pc := 254) dX12_reads_254 rfl ?_
                      refine j_bipush C0 (pc := 255) dX12_reads_255 (v := (61 : Int32)) (by decide) ?_
                      refine X_cV C0 (pc := 257) (e' := e_I) (as := [.int (61 : Int32)]) (rest := []) (s' := fun w => .int w :: []) (g' := (0, 0)) v_OM_233_10 (fun Ψ hΨ => K_X12_isSign v1 (61 : Int32) M26 Ψ hΨ) rfl rfl (fun _ => rfl) (by decide) (by decide) rfl (Nat.le_of_ble_eq_true rfl) dX12_reads_257 h (fun v45 M27 h => ?_)
                      refine j_if_eq C0 (pc := 260) (tgt := 304) dX12_reads_260 (by decide) (fun hc => ?_) (fun hc => ?_)
                      · replace h := (X_if h).1 hc
                        exact j_J.wq (hk304 v1 v2 v3 M27 h) (And.intro rfl (And.intro rfl (And.intro rfl (trivial))))
                      · replace h := (X_if h).2 hc
                        exact j_J.wq (hk263 v1 v2 v3 M27 h) (And.intro rfl (And.intro rfl (And.intro rfl (trivial))))
              · replace h := (X_if h).2 hc
                exact j_J.wq (hk206 v1 v2 M10 h) (And.intro rfl (And.intro rfl (trivial)))
    · replace h := (X_if h).2 hc
      refine X_join (fun (kj : Nat → Int32 → Int32 → Int32 → Int32 → Int32 → m_M → Option (Int32 × m_M)) => ∀ (p0 : Nat) (p1 : Int32) (p2 : Int32) (p3 : Int32) (p4 : Int32) (p5 : Int32) (M : m_M), m_ok e_I Φ (kj p0 p1 p2 p3 p4 p5 M) → j_J X 6 65 [some (.ref p0), some (.int p1), some (.int p2), some (.int p3), some (.int p4), some (.int p5)] [] (0, 0) M) h (fun v46 v47 v48 v49 v50 v51 M28 h => ?_) (fun k65 hk65 h => ?_)
      · refine j_iload_n C0 (pc := 65) dX12_reads_65 rfl ?_
        refine j_iconst C0 (pc := 66) dX12_reads_66 (v := (5 : Int32)) (by decide) ?_
        refine j_icmp_ne C0 (pc := 67) (tgt := 76) dX12_reads_67 (by decide) (fun hc => ?_) (fun hc => ?_)
        · replace h := (X_if h).2 hc
          refine X_join (fun (kj : Nat → Int32 → Int32 → m_M → Option (Int32 × m_M)) => ∀ (p0 : Nat) (p1 : Int32) (p2 : Int32) (M : m_M), m_ok e_I Φ (kj p0 p1 p2 M) → j_J X 6 172 [some (.ref p0), some (.int p1), some (.int p2), none, none, none] [] (0, 0) M) h (fun v52 v53 v54 M29 h => ?_) (fun k172 hk172 h => ?_)
          · refine j_aload_n C0 (pc := 172) dX12_reads_172 rfl ?_
            refine X_cV C0 (pc := 173) (e' := e_V) (as := []) (rest := []) (s' := fun _ => []) (g' := (0, 0)) v_OM_243_10 (fun Ψ hΨ => K_X12_nextToken v52 M29 Ψ hΨ) rfl rfl (fun _ => rfl) (by decide) (by decide) rfl (Nat.le_of_ble_eq_true rfl) dX12_reads_173 h (fun _ M30 h => ?_)
            refine j_goto C0 (pc := 176) (tgt := 11) dX12_reads_176 (by decide) ?_
            exact j_J.wq (ih v52 v53 v54 M30 h) (And.intro rfl (And.intro rfl (And.intro rfl (trivial))))
          · refine X_join (fun (kj : Nat → Int32 → Int32 → Int32 → m_M → Option (Int32 × m_M)) => ∀ (p0 : Nat) (p1 : Int32) (p2 : Int32) (p3 : Int32) (M : m_M), m_ok e_I Φ (kj p0 p1 p2 p3 M) → j_J X 6 86 [some (.ref p0), some (.int p1), some (.int p2), none, some (.int p3), none] [] (0, 0) M) h (fun v55 v56 v57 v58 M31 h => ?_) (fun k86 hk86 h => ?_)
            · refine X_join (fun (kj : Nat → Int32 → Int32 → Int32 → Nat → Int32 → m_M → Option (Int32 × m_M)) => ∀ (p0 : Nat) (p1 : Int32) (p2 : Int32) (p3 : Int32) (p4 : Nat) (p5 : Int32) (M : m_M), m_ok e_I Φ (kj p0 p1 p2 p3 p4 p5 M) → j_J X 6 99 [some (.ref p0), some (.int p1), some (.int p2), none, some (.int p3), none] [.int p5, .ref p4] (0, 0) M) h (fun v59 v60 v61 v62 v63 v64 M32 h => ?_) (fun k99 hk99 h => ?_)
              · refine X_join (fun (kj : Nat → Int32 → Int32 → Nat → Int32 → Int32 → m_M → Option (Int32 × m_M)) => ∀ (p0 : Nat) (p1 : Int32) (p2 : Int32) (p3 : Nat) (p4 : Int32) (p5 : Int32) (M : m_M), m_ok e_I Φ (kj p0 p1 p2 p3 p4 p5 M) → j_J X 6 120 [some (.ref p0), some (.int p1), some (.int p2), none, none, none] [.int p5, .int p4, .ref p3] (0, 0) M) h (fun v65 v66 v67 v68 v69 v70 M33 h => ?_) (fun k120 hk120 h => ?_)
                · refine X_iast C0 (pc := 120) dX12_reads_120 h (fun M34 h => ?_)
                  refine j_aload_n C0 (pc := 121) dX12_reads_121 rfl ?_
                  refine X_gN C0 (pc := 122) f_OM_50_10 rfl dX12_reads_122 h (fun v71 h => ?_)
                  refine j_iload_n C0 (pc := 125) dX12_reads_125 rfl ?_
                  refine j_iconst C0 (pc := 126) dX12_reads_126 (v := (0 : Int32)) (by decide) ?_
                  refine X_zast C0 (pc := 127) dX12_reads_127 h (fun M35 h => ?_)
                  refine j_goto C0 (pc := 128) (tgt := 172) dX12_reads_128 (by decide) ?_
                  exact j_J.wq (hk172 v65 v66 v67 M35 h) (And.intro rfl (And.intro rfl (And.intro rfl (trivial))))
                · refine X_cV C0 (pc := 99) (e' := e_V) (as := [.int v64]) (rest := []) (s' := fun _ => []) (g' := (0, 0)) v_OM_240_10 (fun Ψ hΨ => K_X12_puts v63 v64 M32 Ψ hΨ) rfl rfl (fun _ => rfl) (by decide) (by decide) rfl (Nat.le_of_ble_eq_true rfl) dX12_reads_99 h (fun _ M36 h => ?_)
                  refine j_iinc C0 (pc := 102) dX12_reads_102 (v := v60 + (1 : Int32)) rfl (Nat.le_of_ble_eq_true rfl) (by rfl) ?_
                  refine X_let (G := fun w => j_J X 6 105 [some (.ref v59), some (.int w), some (.int v61), none, some (.int v62), none] [] (0, 0) M36) h (fun v72 h => ?_)
                  refine j_aload_n C0 (pc := 105) dX12_reads_105 rfl ?_
                  refine X_gN C0 (pc := 106) f_OM_47_10 rfl dX12_reads_106 h (fun v73 h => ?_)
                  refine j_iload_n C0 (pc := 109) dX12_reads_109 rfl ?_
                  refine j_iload C0 (pc := 110) dX12_reads_110 rfl ?_
                  refine j_if_eq C0 (pc := 112) (tgt := 119) dX12_reads_112 (by decide) (fun hc => ?_) (fun hc => ?_)
                  · replace h := (X_if h).1 hc
                    refine j_iconst C0 (pc := 119) dX12_reads_119 (v := (2 : Int32)) (by decide) ?_
                    exact j_J.wq (hk120 v59 v72 v61 v73 v72 (2 : Int32) M36 h) (And.intro rfl (And.intro rfl (And.intro rfl (trivial))))
                  · replace h := (X_if h).2 hc
                    refine j_iconst C0 (pc := 115) dX12_reads_115 (v := (1 : Int32)) (by decide) ?_
                    refine j_goto C0 (pc := 116) (tgt := 120) dX12_reads_116 (by decide) ?_
                    exact j_J.wq (hk120 v59 v72 v61 v73 v72 (1 : Int32) M36 h) (And.intro rfl (And.intro rfl (And.intro rfl (trivial))))
              · refine j_aload_n C0 (pc := 86) dX12_reads_86 rfl ?_
                refine j_iload C0 (pc := 87) dX12_reads_87 rfl ?_
                refine j_if_eq C0 (pc := 89) (tgt := 97) dX12_reads_89 (by decide) (fun hc => ?_) (fun hc => ?_)
                · replace h := (X_if h).1 hc
                  refine j_bipush C0 (pc := 97) dX12_reads_97 (v := (28 : Int32)) (by decide) ?_
                  exact j_J.wq (hk99 v55 v56 v57 v58 v55 (28 : Int32) M31 h) (And.intro rfl (And.intro rfl (And.intro rfl (And.intro rfl (trivial)))))
                · replace h := (X_if h).2 hc
                  refine j_bipush C0 (pc := 92) dX12_reads_92 (v := (30 : Int32)) (by decide) ?_
                  refine j_goto C0 (pc := 94) (tgt := 99) dX12_reads_94 (by decide) ?_
                  exact j_J.wq (hk99 v55 v56 v57 v58 v55 (30 : Int32) M31 h) (And.intro rfl (And.intro rfl (And.intro rfl (And.intro rfl (trivial)))))
            · refine j_iload C0 (pc := 76) dX12_reads_76 rfl ?_
              refine j_if_ne C0 (pc := 78) (tgt := 86) dX12_reads_78 (by decide) (fun hc => ?_) (fun hc => ?_)
              · replace h := (X_if h).2 hc
                exact j_J.wq (hk86 v46 v47 v48 v50 M28 h) (And.intro rfl (And.intro rfl (And.intro rfl (And.intro rfl (trivial)))))
              · replace h := (X_if h).1 hc
                refine j_iload C0 (pc := 81) dX12_reads_81 rfl ?_
                refine j_if_eq C0 (pc := 83) (tgt := 131) dX12_reads_83 (by decide) (fun hc => ?_) (fun hc => ?_)
                · replace h := (X_if h).1 hc
                  refine X_join (fun (kj : Nat → Int32 → Nat → Int32 → m_M → Option (Int32 × m_M)) => ∀ (p0 : Nat) (p1 : Int32) (p2 : Nat) (p3 : Int32) (M : m_M), m_ok e_I Φ (kj p0 p1 p2 p3 M) → j_J X 6 147 [some (.ref p0), some (.int p1), none, none, none, none] [.int p3, .ref p2] (0, 0) M) h (fun v74 v75 v76 v77 M37 h => ?_) (fun k147 hk147 h => ?_)
                  · refine X_cV C0 (pc := 147) (e' := e_V) (as := [.int v77]) (rest := []) (s' := fun _ => []) (g' := (0, 0)) v_OM_240_10 (fun Ψ hΨ => K_X12_puts v76 v77 M37 Ψ hΨ) rfl rfl (fun _ => rfl) (by decide) (by decide) rfl (Nat.le_of_ble_eq_true rfl) dX12_reads_147 h (fun _ M38 h => ?_)
                    refine j_iconst C0 (pc := 150) dX12_reads_150 (v := (0 : Int32)) (by decide) ?_
                    refine j_istore_n C0 (pc := 151) dX12_reads_151 (Nat.le_of_ble_eq_true rfl) ?_
                    show j_J X 6 152 [some (.ref v74), some (.int v75), some (.int (0 : Int32)), none, none, none] [] (0, 0) M38
                    exact j_J.wq (L_X12_reads_152 C hk172 m_FU v74 v75 (0 : Int32) M38 h) (And.intro rfl (And.intro rfl (And.intro rfl (trivial))))
                  · refine j_aload_n C0 (pc := 131) dX12_reads_131 rfl ?_
                    refine j_iload_n C0 (pc := 132) dX12_reads_132 rfl ?_
                    refine j_if_le C0 (pc := 133) (tgt := 140) dX12_reads_133 (by decide) (fun hc => ?_) (fun hc => ?_)
                    · replace h := (X_if h).1 hc
                      refine j_bipush C0 (pc := 140) dX12_reads_140 (v := (100 : Int32)) (by decide) ?_
                      refine j_aload_n C0 (pc := 142) dX12_reads_142 rfl ?_
                      refine X_gI C0 (pc := 143) f_OM_185_10 rfl dX12_reads_143 h (fun v78 h => ?_)
                      refine j_iadd C0 (pc := 146) dX12_reads_146 ?_
                      exact j_J.wq (hk147 v46 v47 v46 ((100 : Int32) + v78) M28 h) (And.intro rfl (And.intro rfl (trivial)))
                    · replace h := (X_if h).2 hc
                      refine j_iload_n C0 (pc := 136) dX12_reads_136 rfl ?_
                      refine j_goto C0 (pc := 137) (tgt := 147) dX12_reads_137 (by decide) ?_
                      exact j_J.wq (hk147 v46 v47 v46 v49 M28 h) (And.intro rfl (And.intro rfl (trivial)))
                · replace h := (X_if h).2 hc
                  exact j_J.wq (hk86 v46 v47 v48 v50 M28 h) (And.intro rfl (And.intro rfl (And.intro rfl (And.intro rfl (trivial)))))
        · replace h := (X_if h).1 hc
          exact j_J.wq (hk70 v46 M28 h) (And.intro rfl (trivial))
      · refine j_aload_n C0 (pc := 15) dX12_reads_15 rfl ?_
        refine X_cV C0 (pc := 16) (e' := e_I) (as := []) (rest := []) (s' := fun w => .int w :: []) (g' := (0, 0)) v_OM_223_10 (fun Ψ hΨ => K_X12_fact v1 M Ψ hΨ) rfl rfl (fun _ => rfl) (by decide) (by decide) rfl (Nat.le_of_ble_eq_true rfl) dX12_reads_16 h (fun v79 M39 h => ?_)
        refine j_istore_n C0 (pc := 19) dX12_reads_19 (Nat.le_of_ble_eq_true rfl) ?_
        show j_J X 6 20 [some (.ref v1), some (.int v2), some (.int v3), some (.int v79), none, none] [] (0, 0) M39
        refine j_aload_n C0 (pc := 20) dX12_reads_20 rfl ?_
        refine j_ldc2 C0 (pc := 21) (v := (10631 : Int64)) (j_c8 148 (by decide +kernel)) dX12_reads_21 ?_
        refine X_cV C0 (pc := 24) (e' := e_I) (as := [.long (10631 : Int64)]) (rest := []) (s' := fun w => .int w :: []) (g' := (0, 0)) v_OM_229_10 (fun Ψ hΨ => K_X12_isWord v1 (10631 : Int64) M39 Ψ hΨ) rfl rfl (fun _ => rfl) (by decide) (by decide) rfl (Nat.le_of_ble_eq_true rfl) dX12_reads_24 h (fun v80 M40 h => ?_)
        refine j_istore C0 (pc := 27) dX12_reads_27 (Nat.le_of_ble_eq_true rfl) ?_
        show j_J X 6 29 [some (.ref v1), some (.int v2), some (.int v3), some (.int v79), some (.int v80), none] [] (0, 0) M40
        refine j_aload_n C0 (pc := 29) dX12_reads_29 rfl ?_
        refine j_bipush C0 (pc := 30) dX12_reads_30 (v := (40 : Int32)) (by decide) ?_
        refine X_cV C0 (pc := 32) (e' := e_I) (as := [.int (40 : Int32)]) (rest := []) (s' := fun w => .int w :: []) (g' := (0, 0)) v_OM_233_10 (fun Ψ hΨ => K_X12_isSign v1 (40 : Int32) M40 Ψ hΨ) rfl rfl (fun _ => rfl) (by decide) (by decide) rfl (Nat.le_of_ble_eq_true rfl) dX12_reads_32 h (fun v81 M41 h => ?_)
        refine j_istore C0 (pc := 35) dX12_reads_35 (Nat.le_of_ble_eq_true rfl) ?_
        show j_J X 6 37 [some (.ref v1), some (.int v2), some (.int v3), some (.int v79), some (.int v80), some (.int v81)] [] (0, 0) M41
        refine j_iload_n C0 (pc := 37) dX12_reads_37 rfl ?_
        refine j_if_ne C0 (pc := 38) (tgt := 65) dX12_reads_38 (by decide) (fun hc => ?_) (fun hc => ?_)
        · replace h := (X_if h).2 hc
          exact j_J.wq (hk65 v1 v2 v3 v79 v80 v81 M41 h) (And.intro rfl (And.intro rfl (And.intro rfl (And.intro rfl (And.intro rfl (And.intro rfl (trivial)))))))
        · replace h := (X_if h).1 hc
          refine j_iload C0 (pc := 41) dX12_reads_41 rfl ?_
          refine j_if_ne C0 (pc := 43) (tgt := 65) dX12_reads_43 (by decide) (fun hc => ?_) (fun hc => ?_)
          · replace h := (X_if h).2 hc
            exact j_J.wq (hk65 v1 v2 v3 v79 v80 v81 M41 h) (And.intro rfl (And.intro rfl (And.intro rfl (And.intro rfl (And.intro rfl (And.intro rfl (trivial)))))))
          · replace h := (X_if h).1 hc
            refine j_iload C0 (pc := 46) dX12_reads_46 rfl ?_
            refine j_if_ne C0 (pc := 48) (tgt := 65) dX12_reads_48 (by decide) (fun hc => ?_) (fun hc => ?_)
            · replace h := (X_if h).2 hc
              exact j_J.wq (hk65 v1 v2 v3 v79 v80 v81 M41 h) (And.intro rfl (And.intro rfl (And.intro rfl (And.intro rfl (And.intro rfl (And.intro rfl (trivial)))))))
            · replace h := (X_if h).1 hc
              refine j_aload_n C0 (pc := 51) dX12_reads_51 rfl ?_
              refine X_gI C0 (pc := 52) f_OM_188_10 rfl dX12_reads_52 h (fun v82 h => ?_)
              refine j_iconst C0 (pc := 55) dX12_reads_55 (v := (2 : Int32)) (by decide) ?_
              refine j_icmp_eq C0 (pc := 56) (tgt := 65) dX12_reads_56 (by decide) (fun hc => ?_) (fun hc => ?_)
              · replace h := (X_if h).1 hc
                exact j_J.wq (hk65 v1 v2 v3 v79 v80 v81 M41 h) (And.intro rfl (And.intro rfl (And.intro rfl (And.intro rfl (And.intro rfl (And.intro rfl (trivial)))))))
              · replace h := (X_if h).2 hc
                exact j_J.wq (hk59 v1 M41 h) (And.intro rfl (trivial))
set_option maxHeartbeats 4000000 in
theorem K_X12_reads (a0 : Nat) (M : m_M) (Φ : Option Value → m_M → Prop) (h : m_ok e_I Φ (F_X12_reads a0 M)) : j_Ct yX12_reads cX12_reads 6 (some .boolean) 3 0 0 [.ref a0] M Φ := by
  refine j_Ct.of (by decide +kernel) (Nat.le_of_ble_eq_true rfl) fun X C => ?_
  have C0 := C.1
  show j_J X 6 0 [some (.ref a0), none, none, none, none, none] [] (0, 0) M
  unfold F_X12_reads at h
  refine j_iconst C0 (pc := 0) dX12_reads_0 (v := (0 : Int32)) (by decide) ?_
  refine j_istore_n C0 (pc := 1) dX12_reads_1 (Nat.le_of_ble_eq_true rfl) ?_
  show j_J X 6 2 [some (.ref a0), some (.int (0 : Int32)), none, none, none, none] [] (0, 0) M
  refine j_iconst C0 (pc := 2) dX12_reads_2 (v := (1 : Int32)) (by decide) ?_
  refine j_istore_n C0 (pc := 3) dX12_reads_3 (Nat.le_of_ble_eq_true rfl) ?_
  show j_J X 6 4 [some (.ref a0), some (.int (0 : Int32)), some (.int (1 : Int32)), none, none, none] [] (0, 0) M
  refine j_aload_n C0 (pc := 4) dX12_reads_4 rfl ?_
  refine X_gN C0 (pc := 5) f_OM_50_10 rfl dX12_reads_5 h (fun v1 h => ?_)
  refine j_iconst C0 (pc := 8) dX12_reads_8 (v := (0 : Int32)) (by decide) ?_
  refine j_iconst C0 (pc := 9) dX12_reads_9 (v := (0 : Int32)) (by decide) ?_
  refine X_zast C0 (pc := 10) dX12_reads_10 h (fun M1 h => ?_)
  refine X_join (fun (kj : Nat → m_M → Option (Int32 × m_M)) => ∀ (p0 : Nat) (M : m_M), m_ok e_I Φ (kj p0 M) → j_J X 6 59 [some (.ref p0), none, none, none, none, none] [] (0, 0) M) h (fun v2 M2 h => ?_) (fun k59 hk59 h => ?_)
  · refine j_aload_n C0 (pc := 59) dX12_reads_59 rfl ?_
    refine j_iconst C0 (pc := 60) dX12_reads_60 (v := (1 : Int32)) (by decide) ?_
    refine X_cV C0 (pc := 61) (e' := e_I) (as := [.int (1 : Int32)]) (rest := []) (s' := fun w => .int w :: []) (g' := (0, 0)) v_OM_237_10 (fun Ψ hΨ => K_X12_fails v2 (1 : Int32) M2 Ψ hΨ) rfl rfl (fun _ => rfl) (by decide) (by decide) rfl (Nat.le_of_ble_eq_true rfl) dX12_reads_61 h (fun v3 M3 h => ?_)
    exact j_zret C rfl (by rcases (X_gd h).1 with q | q <;> (rw [q]; rfl)) (X_gd h).2 dX12_reads_64 (by decide)
  · refine X_join (fun (kj : Nat → m_M → Option (Int32 × m_M)) => ∀ (p0 : Nat) (M : m_M), m_ok e_I Φ (kj p0 M) → j_J X 6 70 [some (.ref p0), none, none, none, none, none] [] (0, 0) M) h (fun v4 M4 h => ?_) (fun k70 hk70 h => ?_)
    · refine j_aload_n C0 (pc := 70) dX12_reads_70 rfl ?_
      refine j_iconst C0 (pc := 71) dX12_reads_71 (v := (5 : Int32)) (by decide) ?_
      refine X_cV C0 (pc := 72) (e' := e_I) (as := [.int (5 : Int32)]) (rest := []) (s' := fun w => .int w :: []) (g' := (0, 0)) v_OM_237_10 (fun Ψ hΨ => K_X12_fails v4 (5 : Int32) M4 Ψ hΨ) rfl rfl (fun _ => rfl) (by decide) (by decide) rfl (Nat.le_of_ble_eq_true rfl) dX12_reads_72 h (fun v5 M5 h => ?_)
      exact j_zret C rfl (by rcases (X_gd h).1 with q | q <;> (rw [q]; rfl)) (X_gd h).2 dX12_reads_75 (by decide)
    · refine X_join (fun (kj : Nat → Int32 → m_M → Option (Int32 × m_M)) => ∀ (p0 : Nat) (p1 : Int32) (M : m_M), m_ok e_I Φ (kj p0 p1 M) → j_J X 6 399 [some (.ref p0), some (.int p1), none, none, none, none] [] (0, 0) M) h (fun v6 v7 M6 h => ?_) (fun k399 hk399 h => ?_)
      · refine X_join (fun (kj : Nat → m_M → Option (Int32 × m_M)) => ∀ (p0 : Nat) (M : m_M), m_ok e_I Φ (kj p0 M) → j_J X 6 418 [some (.ref p0), none, none, none, none, none] [] (0, 0) M) h (fun v8 M7 h => ?_) (fun k418 hk418 h => ?_)
        · refine j_aload_n C0 (pc := 418) dX12_reads_418 rfl ?_
          refine j_iconst C0 (pc := 419) dX12_reads_419 (v := (1 : Int32)) (by decide) ?_
          refine X_cV C0 (pc := 420) (e' := e_I) (as := [.int (1 : Int32)]) (rest := []) (s' := fun w => .int w :: []) (g' := (0, 0)) v_OM_237_10 (fun Ψ hΨ => K_X12_fails v8 (1 : Int32) M7 Ψ hΨ) rfl rfl (fun _ => rfl) (by decide) (by decide) rfl (Nat.le_of_ble_eq_true rfl) dX12_reads_420 h (fun v9 M8 h => ?_)
          exact j_zret C rfl (by rcases (X_gd h).1 with q | q <;> (rw [q]; rfl)) (X_gd h).2 dX12_reads_423 (by decide)
        · refine j_iload_n C0 (pc := 399) dX12_reads_399 rfl ?_
          refine j_if_ne C0 (pc := 400) (tgt := 418) dX12_reads_400 (by decide) (fun hc => ?_) (fun hc => ?_)
          · replace h := (X_if h).2 hc
            exact j_J.wq (hk418 v6 M6 h) (And.intro rfl (trivial))
          · replace h := (X_if h).1 hc
            refine j_aload_n C0 (pc := 403) dX12_reads_403 rfl ?_
            refine j_bipush C0 (pc := 404) dX12_reads_404 (v := (59 : Int32)) (by decide) ?_
            refine X_cV C0 (pc := 406) (e' := e_I) (as := [.int (59 : Int32)]) (rest := []) (s' := fun w => .int w :: []) (g' := (0, 0)) v_OM_233_10 (fun Ψ hΨ => K_X12_isSign v6 (59 : Int32) M6 Ψ hΨ) rfl rfl (fun _ => rfl) (by decide) (by decide) rfl (Nat.le_of_ble_eq_true rfl) dX12_reads_406 h (fun v10 M9 h => ?_)
            refine j_if_eq C0 (pc := 409) (tgt := 418) dX12_reads_409 (by decide) (fun hc => ?_) (fun hc => ?_)
            · replace h := (X_if h).1 hc
              exact j_J.wq (hk418 v6 M9 h) (And.intro rfl (trivial))
            · replace h := (X_if h).2 hc
              refine j_aload_n C0 (pc := 412) dX12_reads_412 rfl ?_
              refine X_cV C0 (pc := 413) (e' := e_V) (as := []) (rest := []) (s' := fun _ => []) (g' := (0, 0)) v_OM_243_10 (fun Ψ hΨ => K_X12_nextToken v6 M9 Ψ hΨ) rfl rfl (fun _ => rfl) (by decide) (by decide) rfl (Nat.le_of_ble_eq_true rfl) dX12_reads_413 h (fun _ M10 h => ?_)
              refine j_iconst C0 (pc := 416) dX12_reads_416 (v := (1 : Int32)) (by decide) ?_
              exact j_zret C rfl (by decide) h dX12_reads_417 (by decide)
      · exact j_J.wq (L_X12_reads_11 C hk59 hk70 hk399 m_FU a0 (0 : Int32) (1 : Int32) M1 h) (And.intro rfl (And.intro rfl (And.intro rfl (trivial))))
theorem dX12_readsLine_0 : decode cX12_readsLine 0 = .ok (.aload_n 0, 1) := by decide +kernel
theorem dX12_readsLine_1 : decode cX12_readsLine 1 = .ok (.getfield 38, 3) := by decide +kernel
theorem dX12_readsLine_4 : decode cX12_readsLine 4 = .ok (.bipush 9, 2) := by decide +kernel
theorem dX12_readsLine_6 : decode cX12_readsLine 6 = .ok (.iload_n 1, 1) := by decide +kernel
theorem dX12_readsLine_7 : decode cX12_readsLine 7 = .ok (.iadd, 1) := by decide +kernel
theorem dX12_readsLine_8 : decode cX12_readsLine 8 = .ok (.aload_n 0, 1) := by decide +kernel
theorem dX12_readsLine_9 : decode cX12_readsLine 9 = .ok (.getfield 202, 3) := by decide +kernel
theorem dX12_readsLine_12 : decode cX12_readsLine 12 = .ok (.iastore, 1) := by decide +kernel
theorem dX12_readsLine_13 : decode cX12_readsLine 13 = .ok (.aload_n 0, 1) := by decide +kernel
theorem dX12_readsLine_14 : decode cX12_readsLine 14 = .ok (.invokevirtual 312, 3) := by decide +kernel
theorem dX12_readsLine_17 : decode cX12_readsLine 17 = .ok (.ifCond .ne 5, 3) := by decide +kernel
theorem dX12_readsLine_20 : decode cX12_readsLine 20 = .ok (.iconst 0, 1) := by decide +kernel
theorem dX12_readsLine_21 : decode cX12_readsLine 21 = .ok (.ireturn, 1) := by decide +kernel
theorem dX12_readsLine_22 : decode cX12_readsLine 22 = .ok (.aload_n 0, 1) := by decide +kernel
theorem dX12_readsLine_23 : decode cX12_readsLine 23 = .ok (.getfield 41, 3) := by decide +kernel
theorem dX12_readsLine_26 : decode cX12_readsLine 26 = .ok (.bipush 9, 2) := by decide +kernel
theorem dX12_readsLine_28 : decode cX12_readsLine 28 = .ok (.iload_n 1, 1) := by decide +kernel
theorem dX12_readsLine_29 : decode cX12_readsLine 29 = .ok (.iadd, 1) := by decide +kernel
theorem dX12_readsLine_30 : decode cX12_readsLine 30 = .ok (.aload_n 0, 1) := by decide +kernel
theorem dX12_readsLine_31 : decode cX12_readsLine 31 = .ok (.getfield 202, 3) := by decide +kernel
theorem dX12_readsLine_34 : decode cX12_readsLine 34 = .ok (.iastore, 1) := by decide +kernel
theorem dX12_readsLine_35 : decode cX12_readsLine 35 = .ok (.iconst 1, 1) := by decide +kernel
theorem dX12_readsLine_36 : decode cX12_readsLine 36 = .ok (.ireturn, 1) := by decide +kernel
noncomputable def F_X12_readsLine (a0 : Nat) (a1 : Int32) (M : m_M) : Option (Int32 × m_M) :=
  x_gN 10 M a0 18 fun v1 =>
  x_gI 10 M a0 21 fun v2 =>
  x_sI 12 M v1 ((9 : Int32) + a1) v2 fun M1 =>
  x_cV 10 M1 a0 (F_X12_reads a0 M1) fun v3 M2 =>
  if v3 = 0 then (
    some ((0 : Int32), M2)
  ) else
  x_gN 10 M2 a0 19 fun v4 =>
  x_gI 10 M2 a0 21 fun v5 =>
  x_sI 12 M2 v4 ((9 : Int32) + a1) v5 fun M3 =>
  some ((1 : Int32), M3)
set_option maxHeartbeats 4000000 in
theorem K_X12_readsLine (a0 : Nat) (a1 : Int32) (M : m_M) (Φ : Option Value → m_M → Prop) (h : m_ok e_I Φ (F_X12_readsLine a0 a1 M)) : j_Ct yX12_readsLine cX12_readsLine 2 (some .boolean) 4 0 0 [.ref a0, .int a1] M Φ := by
  refine j_Ct.of (by decide +kernel) (Nat.le_of_ble_eq_true rfl) fun X C => ?_
  have C0 := C.1
  show j_J X 2 0 [some (.ref a0), some (.int a1)] [] (0, 0) M
  unfold F_X12_readsLine at h
  refine j_aload_n C0 (pc := 0) dX12_readsLine_0 rfl ?_
  refine X_gN C0 (pc := 1) f_OM_38_10 rfl dX12_readsLine_1 h (fun v1 h => ?_)
  refine j_bipush C0 (pc := 4) dX12_readsLine_4 (v := (9 : Int32)) (by decide) ?_
  refine j_iload_n C0 (pc := 6) dX12_readsLine_6 rfl ?_
  refine j_iadd C0 (pc := 7) dX12_readsLine_7 ?_
  refine j_aload_n C0 (pc := 8) dX12_readsLine_8 rfl ?_
  refine X_gI C0 (pc := 9) f_OM_202_10 rfl dX12_readsLine_9 h (fun v2 h => ?_)
  refine X_iast C0 (pc := 12) dX12_readsLine_12 h (fun M1 h => ?_)
  refine j_aload_n C0 (pc := 13) dX12_readsLine_13 rfl ?_
  refine X_cV C0 (pc := 14) (e' := e_I) (as := []) (rest := []) (s' := fun w => .int w :: []) (g' := (0, 0)) v_OM_312_10 (fun Ψ hΨ => K_X12_reads a0 M1 Ψ hΨ) rfl rfl (fun _ => rfl) (by decide) (by decide) rfl (Nat.le_of_ble_eq_true rfl) dX12_readsLine_14 h (fun v3 M2 h => ?_)
  refine j_if_ne C0 (pc := 17) (tgt := 22) dX12_readsLine_17 (by decide) (fun hc => ?_) (fun hc => ?_)
  · replace h := (X_if h).2 hc
    refine j_aload_n C0 (pc := 22) dX12_readsLine_22 rfl ?_
    refine X_gN C0 (pc := 23) f_OM_41_10 rfl dX12_readsLine_23 h (fun v4 h => ?_)
    refine j_bipush C0 (pc := 26) dX12_readsLine_26 (v := (9 : Int32)) (by decide) ?_
    refine j_iload_n C0 (pc := 28) dX12_readsLine_28 rfl ?_
    refine j_iadd C0 (pc := 29) dX12_readsLine_29 ?_
    refine j_aload_n C0 (pc := 30) dX12_readsLine_30 rfl ?_
    refine X_gI C0 (pc := 31) f_OM_202_10 rfl dX12_readsLine_31 h (fun v5 h => ?_)
    refine X_iast C0 (pc := 34) dX12_readsLine_34 h (fun M3 h => ?_)
    refine j_iconst C0 (pc := 35) dX12_readsLine_35 (v := (1 : Int32)) (by decide) ?_
    exact j_zret C rfl (by decide) h dX12_readsLine_36 (by decide)
  · replace h := (X_if h).1 hc
    refine j_iconst C0 (pc := 20) dX12_readsLine_20 (v := (0 : Int32)) (by decide) ?_
    exact j_zret C rfl (by decide) h dX12_readsLine_21 (by decide)
theorem dX12_readsBend_0 : decode cX12_readsBend 0 = .ok (.aload_n 0, 1) := by decide +kernel
theorem dX12_readsBend_1 : decode cX12_readsBend 1 = .ok (.getfield 13, 3) := by decide +kernel
theorem dX12_readsBend_4 : decode cX12_readsBend 4 = .ok (.bipush 10, 2) := by decide +kernel
theorem dX12_readsBend_6 : decode cX12_readsBend 6 = .ok (.iaload, 1) := by decide +kernel
theorem dX12_readsBend_7 : decode cX12_readsBend 7 = .ok (.istore_n 1, 1) := by decide +kernel
theorem dX12_readsBend_8 : decode cX12_readsBend 8 = .ok (.iload_n 1, 1) := by decide +kernel
theorem dX12_readsBend_9 : decode cX12_readsBend 9 = .ok (.iconst 3, 1) := by decide +kernel
theorem dX12_readsBend_10 : decode cX12_readsBend 10 = .ok (.if_icmp .ne 9, 3) := by decide +kernel
theorem dX12_readsBend_13 : decode cX12_readsBend 13 = .ok (.aload_n 0, 1) := by decide +kernel
theorem dX12_readsBend_14 : decode cX12_readsBend 14 = .ok (.iconst 5, 1) := by decide +kernel
theorem dX12_readsBend_15 : decode cX12_readsBend 15 = .ok (.invokevirtual 237, 3) := by decide +kernel
theorem dX12_readsBend_18 : decode cX12_readsBend 18 = .ok (.ireturn, 1) := by decide +kernel
theorem dX12_readsBend_19 : decode cX12_readsBend 19 = .ok (.aload_n 0, 1) := by decide +kernel
theorem dX12_readsBend_20 : decode cX12_readsBend 20 = .ok (.invokevirtual 243, 3) := by decide +kernel
theorem dX12_readsBend_23 : decode cX12_readsBend 23 = .ok (.aload_n 0, 1) := by decide +kernel
theorem dX12_readsBend_24 : decode cX12_readsBend 24 = .ok (.invokevirtual 299, 3) := by decide +kernel
theorem dX12_readsBend_27 : decode cX12_readsBend 27 = .ok (.ifCond .ne 5, 3) := by decide +kernel
theorem dX12_readsBend_30 : decode cX12_readsBend 30 = .ok (.iconst 0, 1) := by decide +kernel
theorem dX12_readsBend_31 : decode cX12_readsBend 31 = .ok (.ireturn, 1) := by decide +kernel
theorem dX12_readsBend_32 : decode cX12_readsBend 32 = .ok (.aload_n 0, 1) := by decide +kernel
theorem dX12_readsBend_33 : decode cX12_readsBend 33 = .ok (.getfield 20, 3) := by decide +kernel
theorem dX12_readsBend_36 : decode cX12_readsBend 36 = .ok (.iconst 3, 1) := by decide +kernel
theorem dX12_readsBend_37 : decode cX12_readsBend 37 = .ok (.iload_n 1, 1) := by decide +kernel
theorem dX12_readsBend_38 : decode cX12_readsBend 38 = .ok (.iadd, 1) := by decide +kernel
theorem dX12_readsBend_39 : decode cX12_readsBend 39 = .ok (.aload_n 0, 1) := by decide +kernel
theorem dX12_readsBend_40 : decode cX12_readsBend 40 = .ok (.getfield 181, 3) := by decide +kernel
theorem dX12_readsBend_43 : decode cX12_readsBend 43 = .ok (.lastore, 1) := by decide +kernel
theorem dX12_readsBend_44 : decode cX12_readsBend 44 = .ok (.aload_n 0, 1) := by decide +kernel
theorem dX12_readsBend_45 : decode cX12_readsBend 45 = .ok (.iconst 1, 1) := by decide +kernel
theorem dX12_readsBend_46 : decode cX12_readsBend 46 = .ok (.putfield 205, 3) := by decide +kernel
theorem dX12_readsBend_49 : decode cX12_readsBend 49 = .ok (.aload_n 0, 1) := by decide +kernel
theorem dX12_readsBend_50 : decode cX12_readsBend 50 = .ok (.invokevirtual 243, 3) := by decide +kernel
theorem dX12_readsBend_53 : decode cX12_readsBend 53 = .ok (.aload_n 0, 1) := by decide +kernel
theorem dX12_readsBend_54 : decode cX12_readsBend 54 = .ok (.iload_n 1, 1) := by decide +kernel
theorem dX12_readsBend_55 : decode cX12_readsBend 55 = .ok (.invokevirtual 315, 3) := by decide +kernel
theorem dX12_readsBend_58 : decode cX12_readsBend 58 = .ok (.ifCond .ne 5, 3) := by decide +kernel
theorem dX12_readsBend_61 : decode cX12_readsBend 61 = .ok (.iconst 0, 1) := by decide +kernel
theorem dX12_readsBend_62 : decode cX12_readsBend 62 = .ok (.ireturn, 1) := by decide +kernel
theorem dX12_readsBend_63 : decode cX12_readsBend 63 = .ok (.aload_n 0, 1) := by decide +kernel
theorem dX12_readsBend_64 : decode cX12_readsBend 64 = .ok (.getfield 13, 3) := by decide +kernel
theorem dX12_readsBend_67 : decode cX12_readsBend 67 = .ok (.bipush 10, 2) := by decide +kernel
theorem dX12_readsBend_69 : decode cX12_readsBend 69 = .ok (.dup2, 1) := by decide +kernel
theorem dX12_readsBend_70 : decode cX12_readsBend 70 = .ok (.iaload, 1) := by decide +kernel
theorem dX12_readsBend_71 : decode cX12_readsBend 71 = .ok (.iconst 1, 1) := by decide +kernel
theorem dX12_readsBend_72 : decode cX12_readsBend 72 = .ok (.iadd, 1) := by decide +kernel
theorem dX12_readsBend_73 : decode cX12_readsBend 73 = .ok (.iastore, 1) := by decide +kernel
theorem dX12_readsBend_74 : decode cX12_readsBend 74 = .ok (.iconst 1, 1) := by decide +kernel
theorem dX12_readsBend_75 : decode cX12_readsBend 75 = .ok (.ireturn, 1) := by decide +kernel
noncomputable def F_X12_readsBend (a0 : Nat) (M : m_M) : Option (Int32 × m_M) :=
  x_gN 10 M a0 10 fun v1 =>
  x_aI 12 M v1 (10 : Int32) fun v2 =>
  if v2 = (3 : Int32) then (
    x_cV 10 M a0 (F_X12_fails a0 (5 : Int32) M) fun v9 M8 =>
    x_b v9 <| some (v9, M8)
  ) else
  x_cV 10 M a0 (F_X12_nextToken a0 M) fun _ M1 =>
  x_cV 10 M1 a0 (F_X12_isNew a0 M1) fun v3 M2 =>
  if v3 = 0 then (
    some ((0 : Int32), M2)
  ) else
  x_gN 10 M2 a0 12 fun v4 =>
  x_gL 10 M2 a0 7 fun v5 =>
  x_sL M2 v4 ((3 : Int32) + v2) v5 fun M3 =>
  x_pI 10 M3 a0 22 (1 : Int32) fun M4 =>
  x_cV 10 M4 a0 (F_X12_nextToken a0 M4) fun _ M5 =>
  x_cV 10 M5 a0 (F_X12_readsLine a0 v2 M5) fun v6 M6 =>
  if v6 = 0 then (
    some ((0 : Int32), M6)
  ) else
  x_gN 10 M6 a0 10 fun v7 =>
  x_aI 12 M6 v7 (10 : Int32) fun v8 =>
  x_sI 12 M6 v7 (10 : Int32) (v8 + (1 : Int32)) fun M7 =>
  some ((1 : Int32), M7)
set_option maxHeartbeats 4000000 in
theorem K_X12_readsBend (a0 : Nat) (M : m_M) (Φ : Option Value → m_M → Prop) (h : m_ok e_I Φ (F_X12_readsBend a0 M)) : j_Ct yX12_readsBend cX12_readsBend 2 (some .boolean) 5 0 0 [.ref a0] M Φ := by
  refine j_Ct.of (by decide +kernel) (Nat.le_of_ble_eq_true rfl) fun X C => ?_
  have C0 := C.1
  show j_J X 2 0 [some (.ref a0), none] [] (0, 0) M
  unfold F_X12_readsBend at h
  refine j_aload_n C0 (pc := 0) dX12_readsBend_0 rfl ?_
  refine X_gN C0 (pc := 1) f_OM_13_10 rfl dX12_readsBend_1 h (fun v1 h => ?_)
  refine j_bipush C0 (pc := 4) dX12_readsBend_4 (v := (10 : Int32)) (by decide) ?_
  refine X_iald C0 (pc := 6) dX12_readsBend_6 h (fun v2 h => ?_)
  refine j_istore_n C0 (pc := 7) dX12_readsBend_7 (Nat.le_of_ble_eq_true rfl) ?_
  show j_J X 2 8 [some (.ref a0), some (.int v2)] [] (0, 0) M
  refine j_iload_n C0 (pc := 8) dX12_readsBend_8 rfl ?_
  refine j_iconst C0 (pc := 9) dX12_readsBend_9 (v := (3 : Int32)) (by decide) ?_
  refine j_icmp_ne C0 (pc := 10) (tgt := 19) dX12_readsBend_10 (by decide) (fun hc => ?_) (fun hc => ?_)
  · replace h := (X_if h).2 hc
    refine j_aload_n C0 (pc := 19) dX12_readsBend_19 rfl ?_
    refine X_cV C0 (pc := 20) (e' := e_V) (as := []) (rest := []) (s' := fun _ => []) (g' := (0, 0)) v_OM_243_10 (fun Ψ hΨ => K_X12_nextToken a0 M Ψ hΨ) rfl rfl (fun _ => rfl) (by decide) (by decide) rfl (Nat.le_of_ble_eq_true rfl) dX12_readsBend_20 h (fun _ M1 h => ?_)
    refine j_aload_n C0 (pc := 23) dX12_readsBend_23 rfl ?_
    refine X_cV C0 (pc := 24) (e' := e_I) (as := []) (rest := []) (s' := fun w => .int w :: []) (g' := (0, 0)) v_OM_299_10 (fun Ψ hΨ => K_X12_isNew a0 M1 Ψ hΨ) rfl rfl (fun _ => rfl) (by decide) (by decide) rfl (Nat.le_of_ble_eq_true rfl) dX12_readsBend_24 h (fun v3 M2 h => ?_)
    refine j_if_ne C0 (pc := 27) (tgt := 32) dX12_readsBend_27 (by decide) (fun hc => ?_) (fun hc => ?_)
    · replace h := (X_if h).2 hc
      refine j_aload_n C0 (pc := 32) dX12_readsBend_32 rfl ?_
      refine X_gN C0 (pc := 33) f_OM_20_10 rfl dX12_readsBend_33 h (fun v4 h => ?_)
      refine j_iconst C0 (pc := 36) dX12_readsBend_36 (v := (3 : Int32)) (by decide) ?_
      refine j_iload_n C0 (pc := 37) dX12_readsBend_37 rfl ?_
      refine j_iadd C0 (pc := 38) dX12_readsBend_38 ?_
      refine j_aload_n C0 (pc := 39) dX12_readsBend_39 rfl ?_
      refine X_gL C0 (pc := 40) f_OM_181_10 rfl dX12_readsBend_40 h (fun v5 h => ?_)
      refine X_last C0 (pc := 43) dX12_readsBend_43 h (fun M3 h => ?_)
      refine j_aload_n C0 (pc := 44) dX12_readsBend_44 rfl ?_
      refine j_iconst C0 (pc := 45) dX12_readsBend_45 (v := (1 : Int32)) (by decide) ?_
      refine X_pC C0 (pc := 46) f_OM_205_10 (by decide) (by decide) rfl dX12_readsBend_46 h (fun M4 h => ?_)
      refine j_aload_n C0 (pc := 49) dX12_readsBend_49 rfl ?_
      refine X_cV C0 (pc := 50) (e' := e_V) (as := []) (rest := []) (s' := fun _ => []) (g' := (0, 0)) v_OM_243_10 (fun Ψ hΨ => K_X12_nextToken a0 M4 Ψ hΨ) rfl rfl (fun _ => rfl) (by decide) (by decide) rfl (Nat.le_of_ble_eq_true rfl) dX12_readsBend_50 h (fun _ M5 h => ?_)
      refine j_aload_n C0 (pc := 53) dX12_readsBend_53 rfl ?_
      refine j_iload_n C0 (pc := 54) dX12_readsBend_54 rfl ?_
      refine X_cV C0 (pc := 55) (e' := e_I) (as := [.int v2]) (rest := []) (s' := fun w => .int w :: []) (g' := (0, 0)) v_OM_315_10 (fun Ψ hΨ => K_X12_readsLine a0 v2 M5 Ψ hΨ) rfl rfl (fun _ => rfl) (by decide) (by decide) rfl (Nat.le_of_ble_eq_true rfl) dX12_readsBend_55 h (fun v6 M6 h => ?_)
      refine j_if_ne C0 (pc := 58) (tgt := 63) dX12_readsBend_58 (by decide) (fun hc => ?_) (fun hc => ?_)
      · replace h := (X_if h).2 hc
        refine j_aload_n C0 (pc := 63) dX12_readsBend_63 rfl ?_
        refine X_gN C0 (pc := 64) f_OM_13_10 rfl dX12_readsBend_64 h (fun v7 h => ?_)
        refine j_bipush C0 (pc := 67) dX12_readsBend_67 (v := (10 : Int32)) (by decide) ?_
        refine j_dup2 C0 (pc := 69) dX12_readsBend_69 rfl rfl ?_
        refine X_iald C0 (pc := 70) dX12_readsBend_70 h (fun v8 h => ?_)
        refine j_iconst C0 (pc := 71) dX12_readsBend_71 (v := (1 : Int32)) (by decide) ?_
        refine j_iadd C0 (pc := 72) dX12_readsBend_72 ?_
        refine X_iast C0 (pc := 73) dX12_readsBend_73 h (fun M7 h => ?_)
        refine j_iconst C0 (pc := 74) dX12_readsBend_74 (v := (1 : Int32)) (by decide) ?_
        exact j_zret C rfl (by decide) h dX12_readsBend_75 (by decide)
      · replace h := (X_if h).1 hc
        refine j_iconst C0 (pc := 61) dX12_readsBend_61 (v := (0 : Int32)) (by decide) ?_
        exact j_zret C rfl (by decide) h dX12_readsBend_62 (by decide)
    · replace h := (X_if h).1 hc
      refine j_iconst C0 (pc := 30) dX12_readsBend_30 (v := (0 : Int32)) (by decide) ?_
      exact j_zret C rfl (by decide) h dX12_readsBend_31 (by decide)
  · replace h := (X_if h).1 hc
    refine j_aload_n C0 (pc := 13) dX12_readsBend_13 rfl ?_
    refine j_iconst C0 (pc := 14) dX12_readsBend_14 (v := (5 : Int32)) (by decide) ?_
    refine X_cV C0 (pc := 15) (e' := e_I) (as := [.int (5 : Int32)]) (rest := []) (s' := fun w => .int w :: []) (g' := (0, 0)) v_OM_237_10 (fun Ψ hΨ => K_X12_fails a0 (5 : Int32) M Ψ hΨ) rfl rfl (fun _ => rfl) (by decide) (by decide) rfl (Nat.le_of_ble_eq_true rfl) dX12_readsBend_15 h (fun v9 M8 h => ?_)
    exact j_zret C rfl (by rcases (X_gd h).1 with q | q <;> (rw [q]; rfl)) (X_gd h).2 dX12_readsBend_18 (by decide)
theorem dX12_readsVerb_0 : decode cX12_readsVerb 0 = .ok (.aload_n 0, 1) := by decide +kernel
theorem dX12_readsVerb_1 : decode cX12_readsVerb 1 = .ok (.getfield 13, 3) := by decide +kernel
theorem dX12_readsVerb_4 : decode cX12_readsVerb 4 = .ok (.bipush 11, 2) := by decide +kernel
theorem dX12_readsVerb_6 : decode cX12_readsVerb 6 = .ok (.iaload, 1) := by decide +kernel
theorem dX12_readsVerb_7 : decode cX12_readsVerb 7 = .ok (.istore_n 1, 1) := by decide +kernel
theorem dX12_readsVerb_8 : decode cX12_readsVerb 8 = .ok (.iload_n 1, 1) := by decide +kernel
theorem dX12_readsVerb_9 : decode cX12_readsVerb 9 = .ok (.bipush 6, 2) := by decide +kernel
theorem dX12_readsVerb_11 : decode cX12_readsVerb 11 = .ok (.if_icmp .ne 9, 3) := by decide +kernel
theorem dX12_readsVerb_14 : decode cX12_readsVerb 14 = .ok (.aload_n 0, 1) := by decide +kernel
theorem dX12_readsVerb_15 : decode cX12_readsVerb 15 = .ok (.iconst 5, 1) := by decide +kernel
theorem dX12_readsVerb_16 : decode cX12_readsVerb 16 = .ok (.invokevirtual 237, 3) := by decide +kernel
theorem dX12_readsVerb_19 : decode cX12_readsVerb 19 = .ok (.ireturn, 1) := by decide +kernel
theorem dX12_readsVerb_20 : decode cX12_readsVerb 20 = .ok (.aload_n 0, 1) := by decide +kernel
theorem dX12_readsVerb_21 : decode cX12_readsVerb 21 = .ok (.invokevirtual 243, 3) := by decide +kernel
theorem dX12_readsVerb_24 : decode cX12_readsVerb 24 = .ok (.aload_n 0, 1) := by decide +kernel
theorem dX12_readsVerb_25 : decode cX12_readsVerb 25 = .ok (.invokevirtual 299, 3) := by decide +kernel
theorem dX12_readsVerb_28 : decode cX12_readsVerb 28 = .ok (.ifCond .ne 5, 3) := by decide +kernel
theorem dX12_readsVerb_31 : decode cX12_readsVerb 31 = .ok (.iconst 0, 1) := by decide +kernel
theorem dX12_readsVerb_32 : decode cX12_readsVerb 32 = .ok (.ireturn, 1) := by decide +kernel
theorem dX12_readsVerb_33 : decode cX12_readsVerb 33 = .ok (.aload_n 0, 1) := by decide +kernel
theorem dX12_readsVerb_34 : decode cX12_readsVerb 34 = .ok (.getfield 23, 3) := by decide +kernel
theorem dX12_readsVerb_37 : decode cX12_readsVerb 37 = .ok (.bipush 6, 2) := by decide +kernel
theorem dX12_readsVerb_39 : decode cX12_readsVerb 39 = .ok (.iload_n 1, 1) := by decide +kernel
theorem dX12_readsVerb_40 : decode cX12_readsVerb 40 = .ok (.iadd, 1) := by decide +kernel
theorem dX12_readsVerb_41 : decode cX12_readsVerb 41 = .ok (.aload_n 0, 1) := by decide +kernel
theorem dX12_readsVerb_42 : decode cX12_readsVerb 42 = .ok (.getfield 181, 3) := by decide +kernel
theorem dX12_readsVerb_45 : decode cX12_readsVerb 45 = .ok (.lastore, 1) := by decide +kernel
theorem dX12_readsVerb_46 : decode cX12_readsVerb 46 = .ok (.aload_n 0, 1) := by decide +kernel
theorem dX12_readsVerb_47 : decode cX12_readsVerb 47 = .ok (.iconst 0, 1) := by decide +kernel
theorem dX12_readsVerb_48 : decode cX12_readsVerb 48 = .ok (.putfield 205, 3) := by decide +kernel
theorem dX12_readsVerb_51 : decode cX12_readsVerb 51 = .ok (.aload_n 0, 1) := by decide +kernel
theorem dX12_readsVerb_52 : decode cX12_readsVerb 52 = .ok (.invokevirtual 243, 3) := by decide +kernel
theorem dX12_readsVerb_55 : decode cX12_readsVerb 55 = .ok (.aload_n 0, 1) := by decide +kernel
theorem dX12_readsVerb_56 : decode cX12_readsVerb 56 = .ok (.iconst 3, 1) := by decide +kernel
theorem dX12_readsVerb_57 : decode cX12_readsVerb 57 = .ok (.iload_n 1, 1) := by decide +kernel
theorem dX12_readsVerb_58 : decode cX12_readsVerb 58 = .ok (.iadd, 1) := by decide +kernel
theorem dX12_readsVerb_59 : decode cX12_readsVerb 59 = .ok (.invokevirtual 315, 3) := by decide +kernel
theorem dX12_readsVerb_62 : decode cX12_readsVerb 62 = .ok (.ifCond .ne 5, 3) := by decide +kernel
theorem dX12_readsVerb_65 : decode cX12_readsVerb 65 = .ok (.iconst 0, 1) := by decide +kernel
theorem dX12_readsVerb_66 : decode cX12_readsVerb 66 = .ok (.ireturn, 1) := by decide +kernel
theorem dX12_readsVerb_67 : decode cX12_readsVerb 67 = .ok (.aload_n 0, 1) := by decide +kernel
theorem dX12_readsVerb_68 : decode cX12_readsVerb 68 = .ok (.getfield 13, 3) := by decide +kernel
theorem dX12_readsVerb_71 : decode cX12_readsVerb 71 = .ok (.bipush 11, 2) := by decide +kernel
theorem dX12_readsVerb_73 : decode cX12_readsVerb 73 = .ok (.dup2, 1) := by decide +kernel
theorem dX12_readsVerb_74 : decode cX12_readsVerb 74 = .ok (.iaload, 1) := by decide +kernel
theorem dX12_readsVerb_75 : decode cX12_readsVerb 75 = .ok (.iconst 1, 1) := by decide +kernel
theorem dX12_readsVerb_76 : decode cX12_readsVerb 76 = .ok (.iadd, 1) := by decide +kernel
theorem dX12_readsVerb_77 : decode cX12_readsVerb 77 = .ok (.iastore, 1) := by decide +kernel
theorem dX12_readsVerb_78 : decode cX12_readsVerb 78 = .ok (.iconst 1, 1) := by decide +kernel
theorem dX12_readsVerb_79 : decode cX12_readsVerb 79 = .ok (.ireturn, 1) := by decide +kernel
noncomputable def F_X12_readsVerb (a0 : Nat) (M : m_M) : Option (Int32 × m_M) :=
  x_gN 10 M a0 10 fun v1 =>
  x_aI 12 M v1 (11 : Int32) fun v2 =>
  if v2 = (6 : Int32) then (
    x_cV 10 M a0 (F_X12_fails a0 (5 : Int32) M) fun v9 M8 =>
    x_b v9 <| some (v9, M8)
  ) else
  x_cV 10 M a0 (F_X12_nextToken a0 M) fun _ M1 =>
  x_cV 10 M1 a0 (F_X12_isNew a0 M1) fun v3 M2 =>
  if v3 = 0 then (
    some ((0 : Int32), M2)
  ) else
  x_gN 10 M2 a0 13 fun v4 =>
  x_gL 10 M2 a0 7 fun v5 =>
  x_sL M2 v4 ((6 : Int32) + v2) v5 fun M3 =>
  x_pI 10 M3 a0 22 (0 : Int32) fun M4 =>
  x_cV 10 M4 a0 (F_X12_nextToken a0 M4) fun _ M5 =>
  x_cV 10 M5 a0 (F_X12_readsLine a0 ((3 : Int32) + v2) M5) fun v6 M6 =>
  if v6 = 0 then (
    some ((0 : Int32), M6)
  ) else
  x_gN 10 M6 a0 10 fun v7 =>
  x_aI 12 M6 v7 (11 : Int32) fun v8 =>
  x_sI 12 M6 v7 (11 : Int32) (v8 + (1 : Int32)) fun M7 =>
  some ((1 : Int32), M7)
set_option maxHeartbeats 4000000 in
theorem K_X12_readsVerb (a0 : Nat) (M : m_M) (Φ : Option Value → m_M → Prop) (h : m_ok e_I Φ (F_X12_readsVerb a0 M)) : j_Ct yX12_readsVerb cX12_readsVerb 2 (some .boolean) 5 0 0 [.ref a0] M Φ := by
  refine j_Ct.of (by decide +kernel) (Nat.le_of_ble_eq_true rfl) fun X C => ?_
  have C0 := C.1
  show j_J X 2 0 [some (.ref a0), none] [] (0, 0) M
  unfold F_X12_readsVerb at h
  refine j_aload_n C0 (pc := 0) dX12_readsVerb_0 rfl ?_
  refine X_gN C0 (pc := 1) f_OM_13_10 rfl dX12_readsVerb_1 h (fun v1 h => ?_)
  refine j_bipush C0 (pc := 4) dX12_readsVerb_4 (v := (11 : Int32)) (by decide) ?_
  refine X_iald C0 (pc := 6) dX12_readsVerb_6 h (fun v2 h => ?_)
  refine j_istore_n C0 (pc := 7) dX12_readsVerb_7 (Nat.le_of_ble_eq_true rfl) ?_
  show j_J X 2 8 [some (.ref a0), some (.int v2)] [] (0, 0) M
  refine j_iload_n C0 (pc := 8) dX12_readsVerb_8 rfl ?_
  refine j_bipush C0 (pc := 9) dX12_readsVerb_9 (v := (6 : Int32)) (by decide) ?_
  refine j_icmp_ne C0 (pc := 11) (tgt := 20) dX12_readsVerb_11 (by decide) (fun hc => ?_) (fun hc => ?_)
  · replace h := (X_if h).2 hc
    refine j_aload_n C0 (pc := 20) dX12_readsVerb_20 rfl ?_
    refine X_cV C0 (pc := 21) (e' := e_V) (as := []) (rest := []) (s' := fun _ => []) (g' := (0, 0)) v_OM_243_10 (fun Ψ hΨ => K_X12_nextToken a0 M Ψ hΨ) rfl rfl (fun _ => rfl) (by decide) (by decide) rfl (Nat.le_of_ble_eq_true rfl) dX12_readsVerb_21 h (fun _ M1 h => ?_)
    refine j_aload_n C0 (pc := 24) dX12_readsVerb_24 rfl ?_
    refine X_cV C0 (pc := 25) (e' := e_I) (as := []) (rest := []) (s' := fun w => .int w :: []) (g' := (0, 0)) v_OM_299_10 (fun Ψ hΨ => K_X12_isNew a0 M1 Ψ hΨ) rfl rfl (fun _ => rfl) (by decide) (by decide) rfl (Nat.le_of_ble_eq_true rfl) dX12_readsVerb_25 h (fun v3 M2 h => ?_)
    refine j_if_ne C0 (pc := 28) (tgt := 33) dX12_readsVerb_28 (by decide) (fun hc => ?_) (fun hc => ?_)
    · replace h := (X_if h).2 hc
      refine j_aload_n C0 (pc := 33) dX12_readsVerb_33 rfl ?_
      refine X_gN C0 (pc := 34) f_OM_23_10 rfl dX12_readsVerb_34 h (fun v4 h => ?_)
      refine j_bipush C0 (pc := 37) dX12_readsVerb_37 (v := (6 : Int32)) (by decide) ?_
      refine j_iload_n C0 (pc := 39) dX12_readsVerb_39 rfl ?_
      refine j_iadd C0 (pc := 40) dX12_readsVerb_40 ?_
      refine j_aload_n C0 (pc := 41) dX12_readsVerb_41 rfl ?_
      refine X_gL C0 (pc := 42) f_OM_181_10 rfl dX12_readsVerb_42 h (fun v5 h => ?_)
      refine X_last C0 (pc := 45) dX12_readsVerb_45 h (fun M3 h => ?_)
      refine j_aload_n C0 (pc := 46) dX12_readsVerb_46 rfl ?_
      refine j_iconst C0 (pc := 47) dX12_readsVerb_47 (v := (0 : Int32)) (by decide) ?_
      refine X_pC C0 (pc := 48) f_OM_205_10 (by decide) (by decide) rfl dX12_readsVerb_48 h (fun M4 h => ?_)
      refine j_aload_n C0 (pc := 51) dX12_readsVerb_51 rfl ?_
      refine X_cV C0 (pc := 52) (e' := e_V) (as := []) (rest := []) (s' := fun _ => []) (g' := (0, 0)) v_OM_243_10 (fun Ψ hΨ => K_X12_nextToken a0 M4 Ψ hΨ) rfl rfl (fun _ => rfl) (by decide) (by decide) rfl (Nat.le_of_ble_eq_true rfl) dX12_readsVerb_52 h (fun _ M5 h => ?_)
      refine j_aload_n C0 (pc := 55) dX12_readsVerb_55 rfl ?_
      refine j_iconst C0 (pc := 56) dX12_readsVerb_56 (v := (3 : Int32)) (by decide) ?_
      refine j_iload_n C0 (pc := 57) dX12_readsVerb_57 rfl ?_
      refine j_iadd C0 (pc := 58) dX12_readsVerb_58 ?_
      refine X_cV C0 (pc := 59) (e' := e_I) (as := [.int ((3 : Int32) + v2)]) (rest := []) (s' := fun w => .int w :: []) (g' := (0, 0)) v_OM_315_10 (fun Ψ hΨ => K_X12_readsLine a0 ((3 : Int32) + v2) M5 Ψ hΨ) rfl rfl (fun _ => rfl) (by decide) (by decide) rfl (Nat.le_of_ble_eq_true rfl) dX12_readsVerb_59 h (fun v6 M6 h => ?_)
      refine j_if_ne C0 (pc := 62) (tgt := 67) dX12_readsVerb_62 (by decide) (fun hc => ?_) (fun hc => ?_)
      · replace h := (X_if h).2 hc
        refine j_aload_n C0 (pc := 67) dX12_readsVerb_67 rfl ?_
        refine X_gN C0 (pc := 68) f_OM_13_10 rfl dX12_readsVerb_68 h (fun v7 h => ?_)
        refine j_bipush C0 (pc := 71) dX12_readsVerb_71 (v := (11 : Int32)) (by decide) ?_
        refine j_dup2 C0 (pc := 73) dX12_readsVerb_73 rfl rfl ?_
        refine X_iald C0 (pc := 74) dX12_readsVerb_74 h (fun v8 h => ?_)
        refine j_iconst C0 (pc := 75) dX12_readsVerb_75 (v := (1 : Int32)) (by decide) ?_
        refine j_iadd C0 (pc := 76) dX12_readsVerb_76 ?_
        refine X_iast C0 (pc := 77) dX12_readsVerb_77 h (fun M7 h => ?_)
        refine j_iconst C0 (pc := 78) dX12_readsVerb_78 (v := (1 : Int32)) (by decide) ?_
        exact j_zret C rfl (by decide) h dX12_readsVerb_79 (by decide)
      · replace h := (X_if h).1 hc
        refine j_iconst C0 (pc := 65) dX12_readsVerb_65 (v := (0 : Int32)) (by decide) ?_
        exact j_zret C rfl (by decide) h dX12_readsVerb_66 (by decide)
    · replace h := (X_if h).1 hc
      refine j_iconst C0 (pc := 31) dX12_readsVerb_31 (v := (0 : Int32)) (by decide) ?_
      exact j_zret C rfl (by decide) h dX12_readsVerb_32 (by decide)
  · replace h := (X_if h).1 hc
    refine j_aload_n C0 (pc := 14) dX12_readsVerb_14 rfl ?_
    refine j_iconst C0 (pc := 15) dX12_readsVerb_15 (v := (5 : Int32)) (by decide) ?_
    refine X_cV C0 (pc := 16) (e' := e_I) (as := [.int (5 : Int32)]) (rest := []) (s' := fun w => .int w :: []) (g' := (0, 0)) v_OM_237_10 (fun Ψ hΨ => K_X12_fails a0 (5 : Int32) M Ψ hΨ) rfl rfl (fun _ => rfl) (by decide) (by decide) rfl (Nat.le_of_ble_eq_true rfl) dX12_readsVerb_16 h (fun v9 M8 h => ?_)
    exact j_zret C rfl (by rcases (X_gd h).1 with q | q <;> (rw [q]; rfl)) (X_gd h).2 dX12_readsVerb_19 (by decide)
theorem dX12_needsVerb_0 : decode cX12_needsVerb 0 = .ok (.aload_n 0, 1) := by decide +kernel
theorem dX12_needsVerb_1 : decode cX12_needsVerb 1 = .ok (.invokevirtual 286, 3) := by decide +kernel
theorem dX12_needsVerb_4 : decode cX12_needsVerb 4 = .ok (.ifCond .eq 9, 3) := by decide +kernel
theorem dX12_needsVerb_7 : decode cX12_needsVerb 7 = .ok (.aload_n 0, 1) := by decide +kernel
theorem dX12_needsVerb_8 : decode cX12_needsVerb 8 = .ok (.iconst 1, 1) := by decide +kernel
theorem dX12_needsVerb_9 : decode cX12_needsVerb 9 = .ok (.invokevirtual 237, 3) := by decide +kernel
theorem dX12_needsVerb_12 : decode cX12_needsVerb 12 = .ok (.ireturn, 1) := by decide +kernel
theorem dX12_needsVerb_13 : decode cX12_needsVerb 13 = .ok (.aload_n 0, 1) := by decide +kernel
theorem dX12_needsVerb_14 : decode cX12_needsVerb 14 = .ok (.aload_n 0, 1) := by decide +kernel
theorem dX12_needsVerb_15 : decode cX12_needsVerb 15 = .ok (.iconst 1, 1) := by decide +kernel
theorem dX12_needsVerb_16 : decode cX12_needsVerb 16 = .ok (.invokevirtual 296, 3) := by decide +kernel
theorem dX12_needsVerb_19 : decode cX12_needsVerb 19 = .ok (.putfield 283, 3) := by decide +kernel
theorem dX12_needsVerb_22 : decode cX12_needsVerb 22 = .ok (.aload_n 0, 1) := by decide +kernel
theorem dX12_needsVerb_23 : decode cX12_needsVerb 23 = .ok (.getfield 283, 3) := by decide +kernel
theorem dX12_needsVerb_26 : decode cX12_needsVerb 26 = .ok (.ifCond .ge 9, 3) := by decide +kernel
theorem dX12_needsVerb_29 : decode cX12_needsVerb 29 = .ok (.aload_n 0, 1) := by decide +kernel
theorem dX12_needsVerb_30 : decode cX12_needsVerb 30 = .ok (.iconst 2, 1) := by decide +kernel
theorem dX12_needsVerb_31 : decode cX12_needsVerb 31 = .ok (.invokevirtual 237, 3) := by decide +kernel
theorem dX12_needsVerb_34 : decode cX12_needsVerb 34 = .ok (.ireturn, 1) := by decide +kernel
theorem dX12_needsVerb_35 : decode cX12_needsVerb 35 = .ok (.iconst 1, 1) := by decide +kernel
theorem dX12_needsVerb_36 : decode cX12_needsVerb 36 = .ok (.ireturn, 1) := by decide +kernel
noncomputable def F_X12_needsVerb (a0 : Nat) (M : m_M) : Option (Int32 × m_M) :=
  x_cV 10 M a0 (F_X12_isKept a0 M) fun v1 M1 =>
  if v1 = 0 then (
    x_cV 10 M1 a0 (F_X12_verbNamed a0 (1 : Int32) M1) fun v2 M2 =>
    x_pI 10 M2 a0 37 v2 fun M3 =>
    x_gI 10 M3 a0 37 fun v3 =>
    if 0 ≤ v3 then (
      some ((1 : Int32), M3)
    ) else
    x_cV 10 M3 a0 (F_X12_fails a0 (2 : Int32) M3) fun v4 M4 =>
    x_b v4 <| some (v4, M4)
  ) else
  x_cV 10 M1 a0 (F_X12_fails a0 (1 : Int32) M1) fun v5 M5 =>
  x_b v5 <| some (v5, M5)
set_option maxHeartbeats 4000000 in
theorem K_X12_needsVerb (a0 : Nat) (M : m_M) (Φ : Option Value → m_M → Prop) (h : m_ok e_I Φ (F_X12_needsVerb a0 M)) : j_Ct yX12_needsVerb cX12_needsVerb 1 (some .boolean) 2 0 0 [.ref a0] M Φ := by
  refine j_Ct.of (by decide +kernel) (Nat.le_of_ble_eq_true rfl) fun X C => ?_
  have C0 := C.1
  show j_J X 1 0 [some (.ref a0)] [] (0, 0) M
  unfold F_X12_needsVerb at h
  refine j_aload_n C0 (pc := 0) dX12_needsVerb_0 rfl ?_
  refine X_cV C0 (pc := 1) (e' := e_I) (as := []) (rest := []) (s' := fun w => .int w :: []) (g' := (0, 0)) v_OM_286_10 (fun Ψ hΨ => K_X12_isKept a0 M Ψ hΨ) rfl rfl (fun _ => rfl) (by decide) (by decide) rfl (Nat.le_of_ble_eq_true rfl) dX12_needsVerb_1 h (fun v1 M1 h => ?_)
  refine j_if_eq C0 (pc := 4) (tgt := 13) dX12_needsVerb_4 (by decide) (fun hc => ?_) (fun hc => ?_)
  · replace h := (X_if h).1 hc
    refine j_aload_n C0 (pc := 13) dX12_needsVerb_13 rfl ?_
    refine j_aload_n C0 (pc := 14) dX12_needsVerb_14 rfl ?_
    refine j_iconst C0 (pc := 15) dX12_needsVerb_15 (v := (1 : Int32)) (by decide) ?_
    refine X_cV C0 (pc := 16) (e' := e_I) (as := [.int (1 : Int32)]) (rest := [.ref a0]) (s' := fun w => .int w :: [.ref a0]) (g' := (0, 0)) v_OM_296_10 (fun Ψ hΨ => K_X12_verbNamed a0 (1 : Int32) M1 Ψ hΨ) rfl rfl (fun _ => rfl) (by decide) (by decide) rfl (Nat.le_of_ble_eq_true rfl) dX12_needsVerb_16 h (fun v2 M2 h => ?_)
    refine X_pI C0 (pc := 19) f_OM_283_10 rfl rfl dX12_needsVerb_19 h (fun M3 h => ?_)
    refine j_aload_n C0 (pc := 22) dX12_needsVerb_22 rfl ?_
    refine X_gI C0 (pc := 23) f_OM_283_10 rfl dX12_needsVerb_23 h (fun v3 h => ?_)
    refine j_if_ge C0 (pc := 26) (tgt := 35) dX12_needsVerb_26 (by decide) (fun hc => ?_) (fun hc => ?_)
    · replace h := (X_if h).1 hc
      refine j_iconst C0 (pc := 35) dX12_needsVerb_35 (v := (1 : Int32)) (by decide) ?_
      exact j_zret C rfl (by decide) h dX12_needsVerb_36 (by decide)
    · replace h := (X_if h).2 hc
      refine j_aload_n C0 (pc := 29) dX12_needsVerb_29 rfl ?_
      refine j_iconst C0 (pc := 30) dX12_needsVerb_30 (v := (2 : Int32)) (by decide) ?_
      refine X_cV C0 (pc := 31) (e' := e_I) (as := [.int (2 : Int32)]) (rest := []) (s' := fun w => .int w :: []) (g' := (0, 0)) v_OM_237_10 (fun Ψ hΨ => K_X12_fails a0 (2 : Int32) M3 Ψ hΨ) rfl rfl (fun _ => rfl) (by decide) (by decide) rfl (Nat.le_of_ble_eq_true rfl) dX12_needsVerb_31 h (fun v4 M4 h => ?_)
      exact j_zret C rfl (by rcases (X_gd h).1 with q | q <;> (rw [q]; rfl)) (X_gd h).2 dX12_needsVerb_34 (by decide)
  · replace h := (X_if h).2 hc
    refine j_aload_n C0 (pc := 7) dX12_needsVerb_7 rfl ?_
    refine j_iconst C0 (pc := 8) dX12_needsVerb_8 (v := (1 : Int32)) (by decide) ?_
    refine X_cV C0 (pc := 9) (e' := e_I) (as := [.int (1 : Int32)]) (rest := []) (s' := fun w => .int w :: []) (g' := (0, 0)) v_OM_237_10 (fun Ψ hΨ => K_X12_fails a0 (1 : Int32) M1 Ψ hΨ) rfl rfl (fun _ => rfl) (by decide) (by decide) rfl (Nat.le_of_ble_eq_true rfl) dX12_needsVerb_9 h (fun v5 M5 h => ?_)
    exact j_zret C rfl (by rcases (X_gd h).1 with q | q <;> (rw [q]; rfl)) (X_gd h).2 dX12_needsVerb_12 (by decide)
theorem dX12_readsWeek_0 : decode cX12_readsWeek 0 = .ok (.aload_n 0, 1) := by decide +kernel
theorem dX12_readsWeek_1 : decode cX12_readsWeek 1 = .ok (.getfield 318, 3) := by decide +kernel
theorem dX12_readsWeek_4 : decode cX12_readsWeek 4 = .ok (.ifCond .eq 9, 3) := by decide +kernel
theorem dX12_readsWeek_7 : decode cX12_readsWeek 7 = .ok (.aload_n 0, 1) := by decide +kernel
theorem dX12_readsWeek_8 : decode cX12_readsWeek 8 = .ok (.iconst 3, 1) := by decide +kernel
theorem dX12_readsWeek_9 : decode cX12_readsWeek 9 = .ok (.invokevirtual 237, 3) := by decide +kernel
theorem dX12_readsWeek_12 : decode cX12_readsWeek 12 = .ok (.ireturn, 1) := by decide +kernel
theorem dX12_readsWeek_13 : decode cX12_readsWeek 13 = .ok (.aload_n 0, 1) := by decide +kernel
theorem dX12_readsWeek_14 : decode cX12_readsWeek 14 = .ok (.iconst 1, 1) := by decide +kernel
theorem dX12_readsWeek_15 : decode cX12_readsWeek 15 = .ok (.putfield 318, 3) := by decide +kernel
theorem dX12_readsWeek_18 : decode cX12_readsWeek 18 = .ok (.aload_n 0, 1) := by decide +kernel
theorem dX12_readsWeek_19 : decode cX12_readsWeek 19 = .ok (.invokevirtual 243, 3) := by decide +kernel
theorem dX12_readsWeek_22 : decode cX12_readsWeek 22 = .ok (.iconst 0, 1) := by decide +kernel
theorem dX12_readsWeek_23 : decode cX12_readsWeek 23 = .ok (.istore_n 1, 1) := by decide +kernel
theorem dX12_readsWeek_24 : decode cX12_readsWeek 24 = .ok (.iload_n 1, 1) := by decide +kernel
theorem dX12_readsWeek_25 : decode cX12_readsWeek 25 = .ok (.ifCond .eq 12, 3) := by decide +kernel
theorem dX12_readsWeek_28 : decode cX12_readsWeek 28 = .ok (.aload_n 0, 1) := by decide +kernel
theorem dX12_readsWeek_29 : decode cX12_readsWeek 29 = .ok (.bipush 59, 2) := by decide +kernel
theorem dX12_readsWeek_31 : decode cX12_readsWeek 31 = .ok (.invokevirtual 233, 3) := by decide +kernel
theorem dX12_readsWeek_34 : decode cX12_readsWeek 34 = .ok (.ifCond .ne 67, 3) := by decide +kernel
theorem dX12_readsWeek_37 : decode cX12_readsWeek 37 = .ok (.aload_n 0, 1) := by decide +kernel
theorem dX12_readsWeek_38 : decode cX12_readsWeek 38 = .ok (.ldc2_w 271, 3) := by decide +kernel
theorem dX12_readsWeek_41 : decode cX12_readsWeek 41 = .ok (.invokevirtual 229, 3) := by decide +kernel
theorem dX12_readsWeek_44 : decode cX12_readsWeek 44 = .ok (.istore_n 2, 1) := by decide +kernel
theorem dX12_readsWeek_45 : decode cX12_readsWeek 45 = .ok (.iload_n 2, 1) := by decide +kernel
theorem dX12_readsWeek_46 : decode cX12_readsWeek 46 = .ok (.ifCond .ne 12, 3) := by decide +kernel
theorem dX12_readsWeek_49 : decode cX12_readsWeek 49 = .ok (.aload_n 0, 1) := by decide +kernel
theorem dX12_readsWeek_50 : decode cX12_readsWeek 50 = .ok (.invokevirtual 321, 3) := by decide +kernel
theorem dX12_readsWeek_53 : decode cX12_readsWeek 53 = .ok (.ifCond .ne 5, 3) := by decide +kernel
theorem dX12_readsWeek_56 : decode cX12_readsWeek 56 = .ok (.iconst 0, 1) := by decide +kernel
theorem dX12_readsWeek_57 : decode cX12_readsWeek 57 = .ok (.ireturn, 1) := by decide +kernel
theorem dX12_readsWeek_58 : decode cX12_readsWeek 58 = .ok (.iload_n 1, 1) := by decide +kernel
theorem dX12_readsWeek_59 : decode cX12_readsWeek 59 = .ok (.bipush 7, 2) := by decide +kernel
theorem dX12_readsWeek_61 : decode cX12_readsWeek 61 = .ok (.if_icmp .ne 9, 3) := by decide +kernel
theorem dX12_readsWeek_64 : decode cX12_readsWeek 64 = .ok (.aload_n 0, 1) := by decide +kernel
theorem dX12_readsWeek_65 : decode cX12_readsWeek 65 = .ok (.iconst 5, 1) := by decide +kernel
theorem dX12_readsWeek_66 : decode cX12_readsWeek 66 = .ok (.invokevirtual 237, 3) := by decide +kernel
theorem dX12_readsWeek_69 : decode cX12_readsWeek 69 = .ok (.ireturn, 1) := by decide +kernel
theorem dX12_readsWeek_70 : decode cX12_readsWeek 70 = .ok (.aload_n 0, 1) := by decide +kernel
theorem dX12_readsWeek_71 : decode cX12_readsWeek 71 = .ok (.getfield 32, 3) := by decide +kernel
theorem dX12_readsWeek_74 : decode cX12_readsWeek 74 = .ok (.bipush 7, 2) := by decide +kernel
theorem dX12_readsWeek_76 : decode cX12_readsWeek 76 = .ok (.iload_n 1, 1) := by decide +kernel
theorem dX12_readsWeek_77 : decode cX12_readsWeek 77 = .ok (.iadd, 1) := by decide +kernel
theorem dX12_readsWeek_78 : decode cX12_readsWeek 78 = .ok (.iload_n 2, 1) := by decide +kernel
theorem dX12_readsWeek_79 : decode cX12_readsWeek 79 = .ok (.ifCond .eq 7, 3) := by decide +kernel
theorem dX12_readsWeek_82 : decode cX12_readsWeek 82 = .ok (.iconst (-1), 1) := by decide +kernel
theorem dX12_readsWeek_83 : decode cX12_readsWeek 83 = .ok (.goto 7, 3) := by decide +kernel
theorem dX12_readsWeek_86 : decode cX12_readsWeek 86 = .ok (.aload_n 0, 1) := by decide +kernel
theorem dX12_readsWeek_87 : decode cX12_readsWeek 87 = .ok (.getfield 283, 3) := by decide +kernel
theorem dX12_readsWeek_90 : decode cX12_readsWeek 90 = .ok (.iastore, 1) := by decide +kernel
theorem dX12_readsWeek_91 : decode cX12_readsWeek 91 = .ok (.iinc 1 1, 3) := by decide +kernel
theorem dX12_readsWeek_94 : decode cX12_readsWeek 94 = .ok (.aload_n 0, 1) := by decide +kernel
theorem dX12_readsWeek_95 : decode cX12_readsWeek 95 = .ok (.invokevirtual 243, 3) := by decide +kernel
theorem dX12_readsWeek_98 : decode cX12_readsWeek 98 = .ok (.goto (-74), 3) := by decide +kernel
theorem dX12_readsWeek_101 : decode cX12_readsWeek 101 = .ok (.aload_n 0, 1) := by decide +kernel
theorem dX12_readsWeek_102 : decode cX12_readsWeek 102 = .ok (.getfield 13, 3) := by decide +kernel
theorem dX12_readsWeek_105 : decode cX12_readsWeek 105 = .ok (.bipush 13, 2) := by decide +kernel
theorem dX12_readsWeek_107 : decode cX12_readsWeek 107 = .ok (.iload_n 1, 1) := by decide +kernel
theorem dX12_readsWeek_108 : decode cX12_readsWeek 108 = .ok (.iastore, 1) := by decide +kernel
theorem dX12_readsWeek_109 : decode cX12_readsWeek 109 = .ok (.aload_n 0, 1) := by decide +kernel
theorem dX12_readsWeek_110 : decode cX12_readsWeek 110 = .ok (.invokevirtual 309, 3) := by decide +kernel
theorem dX12_readsWeek_113 : decode cX12_readsWeek 113 = .ok (.ireturn, 1) := by decide +kernel
noncomputable def F_X12_readsWeek_24 (k64 : Nat → m_M → Option (Int32 × m_M)) (k101 : Nat → Int32 → m_M → Option (Int32 × m_M)) : Nat → Nat → Int32 → m_M → Option (Int32 × m_M)
  | 0, _, _, _ => none
  | n + 1, v1, v2, M =>
    m_let (fun (v3 : Nat) (v4 : Int32) (M1 : m_M) =>
      m_let (fun (v5 : Nat) (v6 : Int32) (v7 : Int32) (M2 : m_M) =>
        if v6 = (7 : Int32) then (
          k64 v5 M2
        ) else
        m_let (fun (v8 : Nat) (v9 : Int32) (v10 : Nat) (v11 : Int32) (v12 : Int32) (M3 : m_M) =>
          x_sI 12 M3 v10 v11 v12 fun M4 =>
          m_let (v9 + (1 : Int32)) fun v13 =>
          x_cV 10 M4 v8 (F_X12_nextToken v8 M4) fun _ M5 =>
          F_X12_readsWeek_24 k64 k101 n v8 v13 M5
        ) fun (k90 : Nat → Int32 → Nat → Int32 → Int32 → m_M → Option (Int32 × m_M)) =>
        x_gN 10 M2 v5 16 fun v14 =>
        if v7 = 0 then (
          x_gI 10 M2 v5 37 fun v15 =>
          k90 v5 v6 v14 ((7 : Int32) + v6) v15 M2
        ) else
        k90 v5 v6 v14 ((7 : Int32) + v6) (-1 : Int32) M2
      ) fun (k58 : Nat → Int32 → Int32 → m_M → Option (Int32 × m_M)) =>
      x_cV 10 M1 v3 (F_X12_isWord v3 (277652441 : Int64) M1) fun v16 M6 =>
      if v16 = 0 then (
        x_cV 10 M6 v3 (F_X12_needsVerb v3 M6) fun v17 M7 =>
        if v17 = 0 then (
          some ((0 : Int32), M7)
        ) else
        k58 v3 v4 v16 M7
      ) else
      k58 v3 v4 v16 M6
    ) fun (k37 : Nat → Int32 → m_M → Option (Int32 × m_M)) =>
    if v2 = 0 then (
      k37 v1 v2 M
    ) else
    x_cV 10 M v1 (F_X12_isSign v1 (59 : Int32) M) fun v18 M8 =>
    if v18 = 0 then (
      k37 v1 v2 M8
    ) else
    k101 v1 v2 M8
noncomputable def F_X12_readsWeek (a0 : Nat) (M : m_M) : Option (Int32 × m_M) :=
  x_gI 10 M a0 23 fun v1 =>
  if v1 = 0 then (
    x_pI 10 M a0 23 (1 : Int32) fun M1 =>
    x_cV 10 M1 a0 (F_X12_nextToken a0 M1) fun _ M2 =>
    m_let (fun (v2 : Nat) (M3 : m_M) =>
      x_cV 10 M3 v2 (F_X12_fails v2 (5 : Int32) M3) fun v3 M4 =>
      x_b v3 <| some (v3, M4)
    ) fun (k64 : Nat → m_M → Option (Int32 × m_M)) =>
    m_let (fun (v4 : Nat) (v5 : Int32) (M5 : m_M) =>
      x_gN 10 M5 v4 10 fun v6 =>
      x_sI 12 M5 v6 (13 : Int32) v5 fun M6 =>
      x_cV 10 M6 v4 (F_X12_closes v4 M6) fun v7 M7 =>
      x_b v7 <| some (v7, M7)
    ) fun (k101 : Nat → Int32 → m_M → Option (Int32 × m_M)) =>
    F_X12_readsWeek_24 k64 k101 m_FU a0 (0 : Int32) M2
  ) else
  x_cV 10 M a0 (F_X12_fails a0 (3 : Int32) M) fun v8 M8 =>
  x_b v8 <| some (v8, M8)
set_option maxHeartbeats 4000000 in
theorem L_X12_readsWeek_24 {X : j_X} {Φ : Option Value → m_M → Prop} (C : j_C X yX12_readsWeek cX12_readsWeek 3 (some .boolean) 4 0 0 Φ) {k64 : Nat → m_M → Option (Int32 × m_M)} {k101 : Nat → Int32 → m_M → Option (Int32 × m_M)} (hk64 : ∀ (p0 : Nat) (M : m_M), m_ok e_I Φ (k64 p0 M) → j_J X 3 64 [some (.ref p0), none, none] [] (0, 0) M) (hk101 : ∀ (p0 : Nat) (p1 : Int32) (M : m_M), m_ok e_I Φ (k101 p0 p1 M) → j_J X 3 101 [some (.ref p0), some (.int p1), none] [] (0, 0) M) : ∀ (n : Nat) (v1 : Nat) (v2 : Int32) (M : m_M), m_ok e_I Φ (F_X12_readsWeek_24 k64 k101 n v1 v2 M) → j_J X 3 24 [some (.ref v1), some (.int v2), none] [] (0, 0) M := by
  have C0 := C.1
  intro n
  induction n with
  | zero => intro v1 v2 M h; exact False.elim h
  | succ n ih =>
    intro v1 v2 M h
    rw [F_X12_readsWeek_24] at h
    refine X_join (fun (kj : Nat → Int32 → m_M → Option (Int32 × m_M)) => ∀ (p0 : Nat) (p1 : Int32) (M : m_M), m_ok e_I Φ (kj p0 p1 M) → j_J X 3 37 [some (.ref p0), some (.int p1), none] [] (0, 0) M) h (fun v3 v4 M1 h => ?_) (fun k37 hk37 h => ?_)
    · refine X_join (fun (kj : Nat → Int32 → Int32 → m_M → Option (Int32 × m_M)) => ∀ (p0 : Nat) (p1 : Int32) (p2 : Int32) (M : m_M), m_ok e_I Φ (kj p0 p1 p2 M) → j_J X 3 58 [some (.ref p0), some (.int p1), some (.int p2)] [] (0, 0) M) h (fun v5 v6 v7 M2 h => ?_) (fun k58 hk58 h => ?_)
      · refine j_iload_n C0 (pc := 58) dX12_readsWeek_58 rfl ?_
        refine j_bipush C0 (pc := 59) dX12_readsWeek_59 (v := (7 : Int32)) (by decide) ?_
        refine j_icmp_ne C0 (pc := 61) (tgt := 70) dX12_readsWeek_61 (by decide) (fun hc => ?_) (fun hc => ?_)
        · replace h := (X_if h).2 hc
          refine X_join (fun (kj : Nat → Int32 → Nat → Int32 → Int32 → m_M → Option (Int32 × m_M)) => ∀ (p0 : Nat) (p1 : Int32) (p2 : Nat) (p3 : Int32) (p4 : Int32) (M : m_M), m_ok e_I Φ (kj p0 p1 p2 p3 p4 M) → j_J X 3 90 [some (.ref p0), some (.int p1), none] [.int p4, .int p3, .ref p2] (0, 0) M) h (fun v8 v9 v10 v11 v12 M3 h => ?_) (fun k90 hk90 h => ?_)
          · refine X_iast C0 (pc := 90) dX12_readsWeek_90 h (fun M4 h => ?_)
            refine j_iinc C0 (pc := 91) dX12_readsWeek_91 (v := v9 + (1 : Int32)) rfl (Nat.le_of_ble_eq_true rfl) (by rfl) ?_
            refine X_let (G := fun w => j_J X 3 94 [some (.ref v8), some (.int w), none] [] (0, 0) M4) h (fun v13 h => ?_)
            refine j_aload_n C0 (pc := 94) dX12_readsWeek_94 rfl ?_
            refine X_cV C0 (pc := 95) (e' := e_V) (as := []) (rest := []) (s' := fun _ => []) (g' := (0, 0)) v_OM_243_10 (fun Ψ hΨ => K_X12_nextToken v8 M4 Ψ hΨ) rfl rfl (fun _ => rfl) (by decide) (by decide) rfl (Nat.le_of_ble_eq_true rfl) dX12_readsWeek_95 h (fun _ M5 h => ?_)
            refine j_goto C0 (pc := 98) (tgt := 24) dX12_readsWeek_98 (by decide) ?_
            exact j_J.wq (ih v8 v13 M5 h) (And.intro rfl (And.intro rfl (trivial)))
          · refine j_aload_n C0 (pc := 70) dX12_readsWeek_70 rfl ?_
            refine X_gN C0 (pc := 71) f_OM_32_10 rfl dX12_readsWeek_71 h (fun v14 h => ?_)
            refine j_bipush C0 (pc := 74) dX12_readsWeek_74 (v := (7 : Int32)) (by decide) ?_
            refine j_iload_n C0 (pc := 76) dX12_readsWeek_76 rfl ?_
            refine j_iadd C0 (pc := 77) dX12_readsWeek_77 ?_
            refine j_iload_n C0 (pc := 78) dX12_readsWeek_78 rfl ?_
            refine j_if_eq C0 (pc := 79) (tgt := 86) dX12_readsWeek_79 (by decide) (fun hc => ?_) (fun hc => ?_)
            · replace h := (X_if h).1 hc
              refine j_aload_n C0 (pc := 86) dX12_readsWeek_86 rfl ?_
              refine X_gI C0 (pc := 87) f_OM_283_10 rfl dX12_readsWeek_87 h (fun v15 h => ?_)
              exact j_J.wq (hk90 v5 v6 v14 ((7 : Int32) + v6) v15 M2 h) (And.intro rfl (And.intro rfl (trivial)))
            · replace h := (X_if h).2 hc
              refine j_iconst C0 (pc := 82) dX12_readsWeek_82 (v := (-1 : Int32)) (by decide) ?_
              refine j_goto C0 (pc := 83) (tgt := 90) dX12_readsWeek_83 (by decide) ?_
              exact j_J.wq (hk90 v5 v6 v14 ((7 : Int32) + v6) (-1 : Int32) M2 h) (And.intro rfl (And.intro rfl (trivial)))
        · replace h := (X_if h).1 hc
          exact j_J.wq (hk64 v5 M2 h) (And.intro rfl (trivial))
      · refine j_aload_n C0 (pc := 37) dX12_readsWeek_37 rfl ?_
        refine j_ldc2 C0 (pc := 38) (v := (277652441 : Int64)) (j_c8 144 (by decide +kernel)) dX12_readsWeek_38 ?_
        refine X_cV C0 (pc := 41) (e' := e_I) (as := [.long (277652441 : Int64)]) (rest := []) (s' := fun w => .int w :: []) (g' := (0, 0)) v_OM_229_10 (fun Ψ hΨ => K_X12_isWord v3 (277652441 : Int64) M1 Ψ hΨ) rfl rfl (fun _ => rfl) (by decide) (by decide) rfl (Nat.le_of_ble_eq_true rfl) dX12_readsWeek_41 h (fun v16 M6 h => ?_)
        refine j_istore_n C0 (pc := 44) dX12_readsWeek_44 (Nat.le_of_ble_eq_true rfl) ?_
        show j_J X 3 45 [some (.ref v3), some (.int v4), some (.int v16)] [] (0, 0) M6
        refine j_iload_n C0 (pc := 45) dX12_readsWeek_45 rfl ?_
        refine j_if_ne C0 (pc := 46) (tgt := 58) dX12_readsWeek_46 (by decide) (fun hc => ?_) (fun hc => ?_)
        · replace h := (X_if h).2 hc
          exact j_J.wq (hk58 v3 v4 v16 M6 h) (And.intro rfl (And.intro rfl (And.intro rfl (trivial))))
        · replace h := (X_if h).1 hc
          refine j_aload_n C0 (pc := 49) dX12_readsWeek_49 rfl ?_
          refine X_cV C0 (pc := 50) (e' := e_I) (as := []) (rest := []) (s' := fun w => .int w :: []) (g' := (0, 0)) v_OM_321_10 (fun Ψ hΨ => K_X12_needsVerb v3 M6 Ψ hΨ) rfl rfl (fun _ => rfl) (by decide) (by decide) rfl (Nat.le_of_ble_eq_true rfl) dX12_readsWeek_50 h (fun v17 M7 h => ?_)
          refine j_if_ne C0 (pc := 53) (tgt := 58) dX12_readsWeek_53 (by decide) (fun hc => ?_) (fun hc => ?_)
          · replace h := (X_if h).2 hc
            exact j_J.wq (hk58 v3 v4 v16 M7 h) (And.intro rfl (And.intro rfl (And.intro rfl (trivial))))
          · replace h := (X_if h).1 hc
            refine j_iconst C0 (pc := 56) dX12_readsWeek_56 (v := (0 : Int32)) (by decide) ?_
            exact j_zret C rfl (by decide) h dX12_readsWeek_57 (by decide)
    · refine j_iload_n C0 (pc := 24) dX12_readsWeek_24 rfl ?_
      refine j_if_eq C0 (pc := 25) (tgt := 37) dX12_readsWeek_25 (by decide) (fun hc => ?_) (fun hc => ?_)
      · replace h := (X_if h).1 hc
        exact j_J.wq (hk37 v1 v2 M h) (And.intro rfl (And.intro rfl (trivial)))
      · replace h := (X_if h).2 hc
        refine j_aload_n C0 (pc := 28) dX12_readsWeek_28 rfl ?_
        refine j_bipush C0 (pc := 29) dX12_readsWeek_29 (v := (59 : Int32)) (by decide) ?_
        refine X_cV C0 (pc := 31) (e' := e_I) (as := [.int (59 : Int32)]) (rest := []) (s' := fun w => .int w :: []) (g' := (0, 0)) v_OM_233_10 (fun Ψ hΨ => K_X12_isSign v1 (59 : Int32) M Ψ hΨ) rfl rfl (fun _ => rfl) (by decide) (by decide) rfl (Nat.le_of_ble_eq_true rfl) dX12_readsWeek_31 h (fun v18 M8 h => ?_)
        refine j_if_ne C0 (pc := 34) (tgt := 101) dX12_readsWeek_34 (by decide) (fun hc => ?_) (fun hc => ?_)
        · replace h := (X_if h).2 hc
          exact j_J.wq (hk101 v1 v2 M8 h) (And.intro rfl (And.intro rfl (trivial)))
        · replace h := (X_if h).1 hc
          exact j_J.wq (hk37 v1 v2 M8 h) (And.intro rfl (And.intro rfl (trivial)))
set_option maxHeartbeats 4000000 in
theorem K_X12_readsWeek (a0 : Nat) (M : m_M) (Φ : Option Value → m_M → Prop) (h : m_ok e_I Φ (F_X12_readsWeek a0 M)) : j_Ct yX12_readsWeek cX12_readsWeek 3 (some .boolean) 4 0 0 [.ref a0] M Φ := by
  refine j_Ct.of (by decide +kernel) (Nat.le_of_ble_eq_true rfl) fun X C => ?_
  have C0 := C.1
  show j_J X 3 0 [some (.ref a0), none, none] [] (0, 0) M
  unfold F_X12_readsWeek at h
  refine j_aload_n C0 (pc := 0) dX12_readsWeek_0 rfl ?_
  refine X_gI C0 (pc := 1) f_OM_318_10 rfl dX12_readsWeek_1 h (fun v1 h => ?_)
  refine j_if_eq C0 (pc := 4) (tgt := 13) dX12_readsWeek_4 (by decide) (fun hc => ?_) (fun hc => ?_)
  · replace h := (X_if h).1 hc
    refine j_aload_n C0 (pc := 13) dX12_readsWeek_13 rfl ?_
    refine j_iconst C0 (pc := 14) dX12_readsWeek_14 (v := (1 : Int32)) (by decide) ?_
    refine X_pC C0 (pc := 15) f_OM_318_10 (by decide) (by decide) rfl dX12_readsWeek_15 h (fun M1 h => ?_)
    refine j_aload_n C0 (pc := 18) dX12_readsWeek_18 rfl ?_
    refine X_cV C0 (pc := 19) (e' := e_V) (as := []) (rest := []) (s' := fun _ => []) (g' := (0, 0)) v_OM_243_10 (fun Ψ hΨ => K_X12_nextToken a0 M1 Ψ hΨ) rfl rfl (fun _ => rfl) (by decide) (by decide) rfl (Nat.le_of_ble_eq_true rfl) dX12_readsWeek_19 h (fun _ M2 h => ?_)
    refine j_iconst C0 (pc := 22) dX12_readsWeek_22 (v := (0 : Int32)) (by decide) ?_
    refine j_istore_n C0 (pc := 23) dX12_readsWeek_23 (Nat.le_of_ble_eq_true rfl) ?_
    show j_J X 3 24 [some (.ref a0), some (.int (0 : Int32)), none] [] (0, 0) M2
    refine X_join (fun (kj : Nat → m_M → Option (Int32 × m_M)) => ∀ (p0 : Nat) (M : m_M), m_ok e_I Φ (kj p0 M) → j_J X 3 64 [some (.ref p0), none, none] [] (0, 0) M) h (fun v2 M3 h => ?_) (fun k64 hk64 h => ?_)
    · refine j_aload_n C0 (pc := 64) dX12_readsWeek_64 rfl ?_
      refine j_iconst C0 (pc := 65) dX12_readsWeek_65 (v := (5 : Int32)) (by decide) ?_
      refine X_cV C0 (pc := 66) (e' := e_I) (as := [.int (5 : Int32)]) (rest := []) (s' := fun w => .int w :: []) (g' := (0, 0)) v_OM_237_10 (fun Ψ hΨ => K_X12_fails v2 (5 : Int32) M3 Ψ hΨ) rfl rfl (fun _ => rfl) (by decide) (by decide) rfl (Nat.le_of_ble_eq_true rfl) dX12_readsWeek_66 h (fun v3 M4 h => ?_)
      exact j_zret C rfl (by rcases (X_gd h).1 with q | q <;> (rw [q]; rfl)) (X_gd h).2 dX12_readsWeek_69 (by decide)
    · refine X_join (fun (kj : Nat → Int32 → m_M → Option (Int32 × m_M)) => ∀ (p0 : Nat) (p1 : Int32) (M : m_M), m_ok e_I Φ (kj p0 p1 M) → j_J X 3 101 [some (.ref p0), some (.int p1), none] [] (0, 0) M) h (fun v4 v5 M5 h => ?_) (fun k101 hk101 h => ?_)
      · refine j_aload_n C0 (pc := 101) dX12_readsWeek_101 rfl ?_
        refine X_gN C0 (pc := 102) f_OM_13_10 rfl dX12_readsWeek_102 h (fun v6 h => ?_)
        refine j_bipush C0 (pc := 105) dX12_readsWeek_105 (v := (13 : Int32)) (by decide) ?_
        refine j_iload_n C0 (pc := 107) dX12_readsWeek_107 rfl ?_
        refine X_iast C0 (pc := 108) dX12_readsWeek_108 h (fun M6 h => ?_)
        refine j_aload_n C0 (pc := 109) dX12_readsWeek_109 rfl ?_
        refine X_cV C0 (pc := 110) (e' := e_I) (as := []) (rest := []) (s' := fun w => .int w :: []) (g' := (0, 0)) v_OM_309_10 (fun Ψ hΨ => K_X12_closes v4 M6 Ψ hΨ) rfl rfl (fun _ => rfl) (by decide) (by decide) rfl (Nat.le_of_ble_eq_true rfl) dX12_readsWeek_110 h (fun v7 M7 h => ?_)
        exact j_zret C rfl (by rcases (X_gd h).1 with q | q <;> (rw [q]; rfl)) (X_gd h).2 dX12_readsWeek_113 (by decide)
      · exact j_J.wq (L_X12_readsWeek_24 C hk64 hk101 m_FU a0 (0 : Int32) M2 h) (And.intro rfl (And.intro rfl (trivial)))
  · replace h := (X_if h).2 hc
    refine j_aload_n C0 (pc := 7) dX12_readsWeek_7 rfl ?_
    refine j_iconst C0 (pc := 8) dX12_readsWeek_8 (v := (3 : Int32)) (by decide) ?_
    refine X_cV C0 (pc := 9) (e' := e_I) (as := [.int (3 : Int32)]) (rest := []) (s' := fun w => .int w :: []) (g' := (0, 0)) v_OM_237_10 (fun Ψ hΨ => K_X12_fails a0 (3 : Int32) M Ψ hΨ) rfl rfl (fun _ => rfl) (by decide) (by decide) rfl (Nat.le_of_ble_eq_true rfl) dX12_readsWeek_9 h (fun v8 M8 h => ?_)
    exact j_zret C rfl (by rcases (X_gd h).1 with q | q <;> (rw [q]; rfl)) (X_gd h).2 dX12_readsWeek_12 (by decide)
theorem dX12_readsSpeaker_0 : decode cX12_readsSpeaker 0 = .ok (.aload_n 0, 1) := by decide +kernel
theorem dX12_readsSpeaker_1 : decode cX12_readsSpeaker 1 = .ok (.getfield 13, 3) := by decide +kernel
theorem dX12_readsSpeaker_4 : decode cX12_readsSpeaker 4 = .ok (.bipush 12, 2) := by decide +kernel
theorem dX12_readsSpeaker_6 : decode cX12_readsSpeaker 6 = .ok (.iaload, 1) := by decide +kernel
theorem dX12_readsSpeaker_7 : decode cX12_readsSpeaker 7 = .ok (.istore_n 1, 1) := by decide +kernel
theorem dX12_readsSpeaker_8 : decode cX12_readsSpeaker 8 = .ok (.iload_n 1, 1) := by decide +kernel
theorem dX12_readsSpeaker_9 : decode cX12_readsSpeaker 9 = .ok (.iconst 3, 1) := by decide +kernel
theorem dX12_readsSpeaker_10 : decode cX12_readsSpeaker 10 = .ok (.if_icmp .ne 9, 3) := by decide +kernel
theorem dX12_readsSpeaker_13 : decode cX12_readsSpeaker 13 = .ok (.aload_n 0, 1) := by decide +kernel
theorem dX12_readsSpeaker_14 : decode cX12_readsSpeaker 14 = .ok (.iconst 5, 1) := by decide +kernel
theorem dX12_readsSpeaker_15 : decode cX12_readsSpeaker 15 = .ok (.invokevirtual 237, 3) := by decide +kernel
theorem dX12_readsSpeaker_18 : decode cX12_readsSpeaker 18 = .ok (.ireturn, 1) := by decide +kernel
theorem dX12_readsSpeaker_19 : decode cX12_readsSpeaker 19 = .ok (.aload_n 0, 1) := by decide +kernel
theorem dX12_readsSpeaker_20 : decode cX12_readsSpeaker 20 = .ok (.invokevirtual 243, 3) := by decide +kernel
theorem dX12_readsSpeaker_23 : decode cX12_readsSpeaker 23 = .ok (.aload_n 0, 1) := by decide +kernel
theorem dX12_readsSpeaker_24 : decode cX12_readsSpeaker 24 = .ok (.invokevirtual 299, 3) := by decide +kernel
theorem dX12_readsSpeaker_27 : decode cX12_readsSpeaker 27 = .ok (.ifCond .ne 5, 3) := by decide +kernel
theorem dX12_readsSpeaker_30 : decode cX12_readsSpeaker 30 = .ok (.iconst 0, 1) := by decide +kernel
theorem dX12_readsSpeaker_31 : decode cX12_readsSpeaker 31 = .ok (.ireturn, 1) := by decide +kernel
theorem dX12_readsSpeaker_32 : decode cX12_readsSpeaker 32 = .ok (.aload_n 0, 1) := by decide +kernel
theorem dX12_readsSpeaker_33 : decode cX12_readsSpeaker 33 = .ok (.getfield 181, 3) := by decide +kernel
theorem dX12_readsSpeaker_36 : decode cX12_readsSpeaker 36 = .ok (.lstore_n 2, 1) := by decide +kernel
theorem dX12_readsSpeaker_37 : decode cX12_readsSpeaker 37 = .ok (.aload_n 0, 1) := by decide +kernel
theorem dX12_readsSpeaker_38 : decode cX12_readsSpeaker 38 = .ok (.invokevirtual 243, 3) := by decide +kernel
theorem dX12_readsSpeaker_41 : decode cX12_readsSpeaker 41 = .ok (.aload_n 0, 1) := by decide +kernel
theorem dX12_readsSpeaker_42 : decode cX12_readsSpeaker 42 = .ok (.ldc2_w 275, 3) := by decide +kernel
theorem dX12_readsSpeaker_45 : decode cX12_readsSpeaker 45 = .ok (.invokevirtual 302, 3) := by decide +kernel
theorem dX12_readsSpeaker_48 : decode cX12_readsSpeaker 48 = .ok (.ifCond .ne 5, 3) := by decide +kernel
theorem dX12_readsSpeaker_51 : decode cX12_readsSpeaker 51 = .ok (.iconst 0, 1) := by decide +kernel
theorem dX12_readsSpeaker_52 : decode cX12_readsSpeaker 52 = .ok (.ireturn, 1) := by decide +kernel
theorem dX12_readsSpeaker_53 : decode cX12_readsSpeaker 53 = .ok (.iconst 0, 1) := by decide +kernel
theorem dX12_readsSpeaker_54 : decode cX12_readsSpeaker 54 = .ok (.istore 4, 2) := by decide +kernel
theorem dX12_readsSpeaker_56 : decode cX12_readsSpeaker 56 = .ok (.iload 4, 2) := by decide +kernel
theorem dX12_readsSpeaker_58 : decode cX12_readsSpeaker 58 = .ok (.bipush 6, 2) := by decide +kernel
theorem dX12_readsSpeaker_60 : decode cX12_readsSpeaker 60 = .ok (.if_icmp .ge 25, 3) := by decide +kernel
theorem dX12_readsSpeaker_63 : decode cX12_readsSpeaker 63 = .ok (.aload_n 0, 1) := by decide +kernel
theorem dX12_readsSpeaker_64 : decode cX12_readsSpeaker 64 = .ok (.getfield 35, 3) := by decide +kernel
theorem dX12_readsSpeaker_67 : decode cX12_readsSpeaker 67 = .ok (.bipush 18, 2) := by decide +kernel
theorem dX12_readsSpeaker_69 : decode cX12_readsSpeaker 69 = .ok (.bipush 6, 2) := by decide +kernel
theorem dX12_readsSpeaker_71 : decode cX12_readsSpeaker 71 = .ok (.iload_n 1, 1) := by decide +kernel
theorem dX12_readsSpeaker_72 : decode cX12_readsSpeaker 72 = .ok (.imul, 1) := by decide +kernel
theorem dX12_readsSpeaker_73 : decode cX12_readsSpeaker 73 = .ok (.iadd, 1) := by decide +kernel
theorem dX12_readsSpeaker_74 : decode cX12_readsSpeaker 74 = .ok (.iload 4, 2) := by decide +kernel
theorem dX12_readsSpeaker_76 : decode cX12_readsSpeaker 76 = .ok (.iadd, 1) := by decide +kernel
theorem dX12_readsSpeaker_77 : decode cX12_readsSpeaker 77 = .ok (.iconst (-1), 1) := by decide +kernel
theorem dX12_readsSpeaker_78 : decode cX12_readsSpeaker 78 = .ok (.iastore, 1) := by decide +kernel
theorem dX12_readsSpeaker_79 : decode cX12_readsSpeaker 79 = .ok (.iinc 4 1, 3) := by decide +kernel
theorem dX12_readsSpeaker_82 : decode cX12_readsSpeaker 82 = .ok (.goto (-26), 3) := by decide +kernel
theorem dX12_readsSpeaker_85 : decode cX12_readsSpeaker 85 = .ok (.iconst 0, 1) := by decide +kernel
theorem dX12_readsSpeaker_86 : decode cX12_readsSpeaker 86 = .ok (.istore 4, 2) := by decide +kernel
theorem dX12_readsSpeaker_88 : decode cX12_readsSpeaker 88 = .ok (.iload 4, 2) := by decide +kernel
theorem dX12_readsSpeaker_90 : decode cX12_readsSpeaker 90 = .ok (.ifCond .eq 12, 3) := by decide +kernel
theorem dX12_readsSpeaker_93 : decode cX12_readsSpeaker 93 = .ok (.aload_n 0, 1) := by decide +kernel
theorem dX12_readsSpeaker_94 : decode cX12_readsSpeaker 94 = .ok (.bipush 59, 2) := by decide +kernel
theorem dX12_readsSpeaker_96 : decode cX12_readsSpeaker 96 = .ok (.invokevirtual 233, 3) := by decide +kernel
theorem dX12_readsSpeaker_99 : decode cX12_readsSpeaker 99 = .ok (.ifCond .ne 83, 3) := by decide +kernel
theorem dX12_readsSpeaker_102 : decode cX12_readsSpeaker 102 = .ok (.aload_n 0, 1) := by decide +kernel
theorem dX12_readsSpeaker_103 : decode cX12_readsSpeaker 103 = .ok (.invokevirtual 321, 3) := by decide +kernel
theorem dX12_readsSpeaker_106 : decode cX12_readsSpeaker 106 = .ok (.ifCond .ne 5, 3) := by decide +kernel
theorem dX12_readsSpeaker_109 : decode cX12_readsSpeaker 109 = .ok (.iconst 0, 1) := by decide +kernel
theorem dX12_readsSpeaker_110 : decode cX12_readsSpeaker 110 = .ok (.ireturn, 1) := by decide +kernel
theorem dX12_readsSpeaker_111 : decode cX12_readsSpeaker 111 = .ok (.aload_n 0, 1) := by decide +kernel
theorem dX12_readsSpeaker_112 : decode cX12_readsSpeaker 112 = .ok (.getfield 283, 3) := by decide +kernel
theorem dX12_readsSpeaker_115 : decode cX12_readsSpeaker 115 = .ok (.istore 5, 2) := by decide +kernel
theorem dX12_readsSpeaker_117 : decode cX12_readsSpeaker 117 = .ok (.aload_n 0, 1) := by decide +kernel
theorem dX12_readsSpeaker_118 : decode cX12_readsSpeaker 118 = .ok (.getfield 35, 3) := by decide +kernel
theorem dX12_readsSpeaker_121 : decode cX12_readsSpeaker 121 = .ok (.bipush 18, 2) := by decide +kernel
theorem dX12_readsSpeaker_123 : decode cX12_readsSpeaker 123 = .ok (.bipush 6, 2) := by decide +kernel
theorem dX12_readsSpeaker_125 : decode cX12_readsSpeaker 125 = .ok (.iload_n 1, 1) := by decide +kernel
theorem dX12_readsSpeaker_126 : decode cX12_readsSpeaker 126 = .ok (.imul, 1) := by decide +kernel
theorem dX12_readsSpeaker_127 : decode cX12_readsSpeaker 127 = .ok (.iadd, 1) := by decide +kernel
theorem dX12_readsSpeaker_128 : decode cX12_readsSpeaker 128 = .ok (.iload 5, 2) := by decide +kernel
theorem dX12_readsSpeaker_130 : decode cX12_readsSpeaker 130 = .ok (.iadd, 1) := by decide +kernel
theorem dX12_readsSpeaker_131 : decode cX12_readsSpeaker 131 = .ok (.iaload, 1) := by decide +kernel
theorem dX12_readsSpeaker_132 : decode cX12_readsSpeaker 132 = .ok (.ifCond .lt 9, 3) := by decide +kernel
theorem dX12_readsSpeaker_135 : decode cX12_readsSpeaker 135 = .ok (.aload_n 0, 1) := by decide +kernel
theorem dX12_readsSpeaker_136 : decode cX12_readsSpeaker 136 = .ok (.iconst 3, 1) := by decide +kernel
theorem dX12_readsSpeaker_137 : decode cX12_readsSpeaker 137 = .ok (.invokevirtual 237, 3) := by decide +kernel
theorem dX12_readsSpeaker_140 : decode cX12_readsSpeaker 140 = .ok (.ireturn, 1) := by decide +kernel
theorem dX12_readsSpeaker_141 : decode cX12_readsSpeaker 141 = .ok (.aload_n 0, 1) := by decide +kernel
theorem dX12_readsSpeaker_142 : decode cX12_readsSpeaker 142 = .ok (.invokevirtual 243, 3) := by decide +kernel
theorem dX12_readsSpeaker_145 : decode cX12_readsSpeaker 145 = .ok (.aload_n 0, 1) := by decide +kernel
theorem dX12_readsSpeaker_146 : decode cX12_readsSpeaker 146 = .ok (.iconst 0, 1) := by decide +kernel
theorem dX12_readsSpeaker_147 : decode cX12_readsSpeaker 147 = .ok (.bipush 99, 2) := by decide +kernel
theorem dX12_readsSpeaker_149 : decode cX12_readsSpeaker 149 = .ok (.invokevirtual 305, 3) := by decide +kernel
theorem dX12_readsSpeaker_152 : decode cX12_readsSpeaker 152 = .ok (.ifCond .ne 5, 3) := by decide +kernel
theorem dX12_readsSpeaker_155 : decode cX12_readsSpeaker 155 = .ok (.iconst 0, 1) := by decide +kernel
theorem dX12_readsSpeaker_156 : decode cX12_readsSpeaker 156 = .ok (.ireturn, 1) := by decide +kernel
theorem dX12_readsSpeaker_157 : decode cX12_readsSpeaker 157 = .ok (.aload_n 0, 1) := by decide +kernel
theorem dX12_readsSpeaker_158 : decode cX12_readsSpeaker 158 = .ok (.getfield 35, 3) := by decide +kernel
theorem dX12_readsSpeaker_161 : decode cX12_readsSpeaker 161 = .ok (.bipush 18, 2) := by decide +kernel
theorem dX12_readsSpeaker_163 : decode cX12_readsSpeaker 163 = .ok (.bipush 6, 2) := by decide +kernel
theorem dX12_readsSpeaker_165 : decode cX12_readsSpeaker 165 = .ok (.iload_n 1, 1) := by decide +kernel
theorem dX12_readsSpeaker_166 : decode cX12_readsSpeaker 166 = .ok (.imul, 1) := by decide +kernel
theorem dX12_readsSpeaker_167 : decode cX12_readsSpeaker 167 = .ok (.iadd, 1) := by decide +kernel
theorem dX12_readsSpeaker_168 : decode cX12_readsSpeaker 168 = .ok (.iload 5, 2) := by decide +kernel
theorem dX12_readsSpeaker_170 : decode cX12_readsSpeaker 170 = .ok (.iadd, 1) := by decide +kernel
theorem dX12_readsSpeaker_171 : decode cX12_readsSpeaker 171 = .ok (.aload_n 0, 1) := by decide +kernel
theorem dX12_readsSpeaker_172 : decode cX12_readsSpeaker 172 = .ok (.getfield 283, 3) := by decide +kernel
theorem dX12_readsSpeaker_175 : decode cX12_readsSpeaker 175 = .ok (.iastore, 1) := by decide +kernel
theorem dX12_readsSpeaker_176 : decode cX12_readsSpeaker 176 = .ok (.iinc 4 1, 3) := by decide +kernel
theorem dX12_readsSpeaker_179 : decode cX12_readsSpeaker 179 = .ok (.goto (-91), 3) := by decide +kernel
theorem dX12_readsSpeaker_182 : decode cX12_readsSpeaker 182 = .ok (.aload_n 0, 1) := by decide +kernel
theorem dX12_readsSpeaker_183 : decode cX12_readsSpeaker 183 = .ok (.getfield 26, 3) := by decide +kernel
theorem dX12_readsSpeaker_186 : decode cX12_readsSpeaker 186 = .ok (.iload_n 1, 1) := by decide +kernel
theorem dX12_readsSpeaker_187 : decode cX12_readsSpeaker 187 = .ok (.lload_n 2, 1) := by decide +kernel
theorem dX12_readsSpeaker_188 : decode cX12_readsSpeaker 188 = .ok (.lastore, 1) := by decide +kernel
theorem dX12_readsSpeaker_189 : decode cX12_readsSpeaker 189 = .ok (.aload_n 0, 1) := by decide +kernel
theorem dX12_readsSpeaker_190 : decode cX12_readsSpeaker 190 = .ok (.getfield 13, 3) := by decide +kernel
theorem dX12_readsSpeaker_193 : decode cX12_readsSpeaker 193 = .ok (.bipush 12, 2) := by decide +kernel
theorem dX12_readsSpeaker_195 : decode cX12_readsSpeaker 195 = .ok (.dup2, 1) := by decide +kernel
theorem dX12_readsSpeaker_196 : decode cX12_readsSpeaker 196 = .ok (.iaload, 1) := by decide +kernel
theorem dX12_readsSpeaker_197 : decode cX12_readsSpeaker 197 = .ok (.iconst 1, 1) := by decide +kernel
theorem dX12_readsSpeaker_198 : decode cX12_readsSpeaker 198 = .ok (.iadd, 1) := by decide +kernel
theorem dX12_readsSpeaker_199 : decode cX12_readsSpeaker 199 = .ok (.iastore, 1) := by decide +kernel
theorem dX12_readsSpeaker_200 : decode cX12_readsSpeaker 200 = .ok (.aload_n 0, 1) := by decide +kernel
theorem dX12_readsSpeaker_201 : decode cX12_readsSpeaker 201 = .ok (.invokevirtual 309, 3) := by decide +kernel
theorem dX12_readsSpeaker_204 : decode cX12_readsSpeaker 204 = .ok (.ireturn, 1) := by decide +kernel
noncomputable def F_X12_readsSpeaker_88 (k135 : Nat → m_M → Option (Int32 × m_M)) (k182 : Nat → Int32 → Int64 → m_M → Option (Int32 × m_M)) : Nat → Nat → Int32 → Int64 → Int32 → m_M → Option (Int32 × m_M)
  | 0, _, _, _, _, _ => none
  | n + 1, v1, v2, v3, v4, M =>
    m_let (fun (v5 : Nat) (v6 : Int32) (v7 : Int64) (v8 : Int32) (M1 : m_M) =>
      x_cV 10 M1 v5 (F_X12_needsVerb v5 M1) fun v9 M2 =>
      if v9 = 0 then (
        some ((0 : Int32), M2)
      ) else
      x_gI 10 M2 v5 37 fun v10 =>
      x_gN 10 M2 v5 17 fun v11 =>
      x_aI 12 M2 v11 (((18 : Int32) + ((6 : Int32) * v6)) + v10) fun v12 =>
      if v12 < 0 then (
        x_cV 10 M2 v5 (F_X12_nextToken v5 M2) fun _ M3 =>
        x_cV 10 M3 v5 (F_X12_needsNumber v5 (0 : Int32) (99 : Int32) M3) fun v13 M4 =>
        if v13 = 0 then (
          some ((0 : Int32), M4)
        ) else
        x_gN 10 M4 v5 17 fun v14 =>
        x_gI 10 M4 v5 37 fun v15 =>
        x_sI 12 M4 v14 (((18 : Int32) + ((6 : Int32) * v6)) + v10) v15 fun M5 =>
        m_let (v8 + (1 : Int32)) fun v16 =>
        F_X12_readsSpeaker_88 k135 k182 n v5 v6 v7 v16 M5
      ) else
      k135 v5 M2
    ) fun (k102 : Nat → Int32 → Int64 → Int32 → m_M → Option (Int32 × m_M)) =>
    if v4 = 0 then (
      k102 v1 v2 v3 v4 M
    ) else
    x_cV 10 M v1 (F_X12_isSign v1 (59 : Int32) M) fun v17 M6 =>
    if v17 = 0 then (
      k102 v1 v2 v3 v4 M6
    ) else
    k182 v1 v2 v3 M6
noncomputable def F_X12_readsSpeaker_56 (k85 : Nat → Int32 → Int64 → m_M → Option (Int32 × m_M)) : Nat → Nat → Int32 → Int64 → Int32 → m_M → Option (Int32 × m_M)
  | 0, _, _, _, _, _ => none
  | n + 1, v1, v2, v3, v4, M =>
    if (6 : Int32) ≤ v4 then (
      k85 v1 v2 v3 M
    ) else
    x_gN 10 M v1 17 fun v5 =>
    x_sI 12 M v5 (((18 : Int32) + ((6 : Int32) * v2)) + v4) (-1 : Int32) fun M1 =>
    m_let (v4 + (1 : Int32)) fun v6 =>
    F_X12_readsSpeaker_56 k85 n v1 v2 v3 v6 M1
noncomputable def F_X12_readsSpeaker (a0 : Nat) (M : m_M) : Option (Int32 × m_M) :=
  x_gN 10 M a0 10 fun v1 =>
  x_aI 12 M v1 (12 : Int32) fun v2 =>
  if v2 = (3 : Int32) then (
    x_cV 10 M a0 (F_X12_fails a0 (5 : Int32) M) fun v18 M12 =>
    x_b v18 <| some (v18, M12)
  ) else
  x_cV 10 M a0 (F_X12_nextToken a0 M) fun _ M1 =>
  x_cV 10 M1 a0 (F_X12_isNew a0 M1) fun v3 M2 =>
  if v3 = 0 then (
    some ((0 : Int32), M2)
  ) else
  x_gL 10 M2 a0 7 fun v4 =>
  x_cV 10 M2 a0 (F_X12_nextToken a0 M2) fun _ M3 =>
  x_cV 10 M3 a0 (F_X12_needsWord a0 (12253591 : Int64) M3) fun v5 M4 =>
  if v5 = 0 then (
    some ((0 : Int32), M4)
  ) else
  m_let (fun (v6 : Nat) (v7 : Int32) (v8 : Int64) (M5 : m_M) =>
    m_let (fun (v9 : Nat) (M6 : m_M) =>
      x_cV 10 M6 v9 (F_X12_fails v9 (3 : Int32) M6) fun v10 M7 =>
      x_b v10 <| some (v10, M7)
    ) fun (k135 : Nat → m_M → Option (Int32 × m_M)) =>
    m_let (fun (v11 : Nat) (v12 : Int32) (v13 : Int64) (M8 : m_M) =>
      x_gN 10 M8 v11 14 fun v14 =>
      x_sL M8 v14 v12 v13 fun M9 =>
      x_gN 10 M9 v11 10 fun v15 =>
      x_aI 12 M9 v15 (12 : Int32) fun v16 =>
      x_sI 12 M9 v15 (12 : Int32) (v16 + (1 : Int32)) fun M10 =>
      x_cV 10 M10 v11 (F_X12_closes v11 M10) fun v17 M11 =>
      x_b v17 <| some (v17, M11)
    ) fun (k182 : Nat → Int32 → Int64 → m_M → Option (Int32 × m_M)) =>
    F_X12_readsSpeaker_88 k135 k182 m_FU v6 v7 v8 (0 : Int32) M5
  ) fun (k85 : Nat → Int32 → Int64 → m_M → Option (Int32 × m_M)) =>
  F_X12_readsSpeaker_56 k85 m_FU a0 v2 v4 (0 : Int32) M4
set_option maxHeartbeats 4000000 in
theorem L_X12_readsSpeaker_88 {X : j_X} {Φ : Option Value → m_M → Prop} (C : j_C X yX12_readsSpeaker cX12_readsSpeaker 6 (some .boolean) 4 0 0 Φ) {k135 : Nat → m_M → Option (Int32 × m_M)} {k182 : Nat → Int32 → Int64 → m_M → Option (Int32 × m_M)} (hk135 : ∀ (p0 : Nat) (M : m_M), m_ok e_I Φ (k135 p0 M) → j_J X 6 135 [some (.ref p0), none, none, none, none, none] [] (0, 0) M) (hk182 : ∀ (p0 : Nat) (p1 : Int32) (p2 : Int64) (M : m_M), m_ok e_I Φ (k182 p0 p1 p2 M) → j_J X 6 182 [some (.ref p0), some (.int p1), some (.long p2), none, none, none] [] (0, 0) M) : ∀ (n : Nat) (v1 : Nat) (v2 : Int32) (v3 : Int64) (v4 : Int32) (M : m_M), m_ok e_I Φ (F_X12_readsSpeaker_88 k135 k182 n v1 v2 v3 v4 M) → j_J X 6 88 [some (.ref v1), some (.int v2), some (.long v3), none, some (.int v4), none] [] (0, 0) M := by
  have C0 := C.1
  intro n
  induction n with
  | zero => intro v1 v2 v3 v4 M h; exact False.elim h
  | succ n ih =>
    intro v1 v2 v3 v4 M h
    rw [F_X12_readsSpeaker_88] at h
    refine X_join (fun (kj : Nat → Int32 → Int64 → Int32 → m_M → Option (Int32 × m_M)) => ∀ (p0 : Nat) (p1 : Int32) (p2 : Int64) (p3 : Int32) (M : m_M), m_ok e_I Φ (kj p0 p1 p2 p3 M) → j_J X 6 102 [some (.ref p0), some (.int p1), some (.long p2), none, some (.int p3), none] [] (0, 0) M) h (fun v5 v6 v7 v8 M1 h => ?_) (fun k102 hk102 h => ?_)
    · refine j_aload_n C0 (pc := 102) dX12_readsSpeaker_102 rfl ?_
      refine X_cV C0 (pc := 103) (e' := e_I) (as := []) (rest := []) (s' := fun w => .int w :: []) (g' := (0, 0)) v_OM_321_10 (fun Ψ hΨ => K_X12_needsVerb v5 M1 Ψ hΨ) rfl rfl (fun _ => rfl) (by decide) (by decide) rfl (Nat.le_of_ble_eq_true rfl) dX12_readsSpeaker_103 h (fun v9 M2 h => ?_)
      refine j_if_ne C0 (pc := 106) (tgt := 111) dX12_readsSpeaker_106 (by decide) (fun hc => ?_) (fun hc => ?_)
      · replace h := (X_if h).2 hc
        refine j_aload_n C0 (pc := 111) dX12_readsSpeaker_111 rfl ?_
        refine X_gI C0 (pc := 112) f_OM_283_10 rfl dX12_readsSpeaker_112 h (fun v10 h => ?_)
        refine j_istore C0 (pc := 115) dX12_readsSpeaker_115 (Nat.le_of_ble_eq_true rfl) ?_
        show j_J X 6 117 [some (.ref v5), some (.int v6), some (.long v7), none, some (.int v8), some (.int v10)] [] (0, 0) M2
        refine j_aload_n C0 (pc := 117) dX12_readsSpeaker_117 rfl ?_
        refine X_gN C0 (pc := 118) f_OM_35_10 rfl dX12_readsSpeaker_118 h (fun v11 h => ?_)
        refine j_bipush C0 (pc := 121) dX12_readsSpeaker_121 (v := (18 : Int32)) (by decide) ?_
        refine j_bipush C0 (pc := 123) dX12_readsSpeaker_123 (v := (6 : Int32)) (by decide) ?_
        refine j_iload_n C0 (pc := 125) dX12_readsSpeaker_125 rfl ?_
        refine j_imul C0 (pc := 126) dX12_readsSpeaker_126 ?_
        refine j_iadd C0 (pc := 127) dX12_readsSpeaker_127 ?_
        refine j_iload C0 (pc := 128) dX12_readsSpeaker_128 rfl ?_
        refine j_iadd C0 (pc := 130) dX12_readsSpeaker_130 ?_
        refine X_iald C0 (pc := 131) dX12_readsSpeaker_131 h (fun v12 h => ?_)
        refine j_if_lt C0 (pc := 132) (tgt := 141) dX12_readsSpeaker_132 (by decide) (fun hc => ?_) (fun hc => ?_)
        · replace h := (X_if h).1 hc
          refine j_aload_n C0 (pc := 141) dX12_readsSpeaker_141 rfl ?_
          refine X_cV C0 (pc := 142) (e' := e_V) (as := []) (rest := []) (s' := fun _ => []) (g' := (0, 0)) v_OM_243_10 (fun Ψ hΨ => K_X12_nextToken v5 M2 Ψ hΨ) rfl rfl (fun _ => rfl) (by decide) (by decide) rfl (Nat.le_of_ble_eq_true rfl) dX12_readsSpeaker_142 h (fun _ M3 h => ?_)
          refine j_aload_n C0 (pc := 145) dX12_readsSpeaker_145 rfl ?_
          refine j_iconst C0 (pc := 146) dX12_readsSpeaker_146 (v := (0 : Int32)) (by decide) ?_
          refine j_bipush C0 (pc := 147) dX12_readsSpeaker_147 (v := (99 : Int32)) (by decide) ?_
          refine X_cV C0 (pc := 149) (e' := e_I) (as := [.int (0 : Int32), .int (99 : Int32)]) (rest := []) (s' := fun w => .int w :: []) (g' := (0, 0)) v_OM_305_10 (fun Ψ hΨ => K_X12_needsNumber v5 (0 : Int32) (99 : Int32) M3 Ψ hΨ) rfl rfl (fun _ => rfl) (by decide) (by decide) rfl (Nat.le_of_ble_eq_true rfl) dX12_readsSpeaker_149 h (fun v13 M4 h => ?_)
          refine j_if_ne C0 (pc := 152) (tgt := 157) dX12_readsSpeaker_152 (by decide) (fun hc => ?_) (fun hc => ?_)
          · replace h := (X_if h).2 hc
            refine j_aload_n C0 (pc := 157) dX12_readsSpeaker_157 rfl ?_
            refine X_gN C0 (pc := 158) f_OM_35_10 rfl dX12_readsSpeaker_158 h (fun v14 h => ?_)
            refine j_bipush C0 (pc := 161) dX12_readsSpeaker_161 (v := (18 : Int32)) (by decide) ?_
            refine j_bipush C0 (pc := 163) dX12_readsSpeaker_163 (v := (6 : Int32)) (by decide) ?_
            refine j_iload_n C0 (pc := 165) dX12_readsSpeaker_165 rfl ?_
            refine j_imul C0 (pc := 166) dX12_readsSpeaker_166 ?_
            refine j_iadd C0 (pc := 167) dX12_readsSpeaker_167 ?_
            refine j_iload C0 (pc := 168) dX12_readsSpeaker_168 rfl ?_
            refine j_iadd C0 (pc := 170) dX12_readsSpeaker_170 ?_
            refine j_aload_n C0 (pc := 171) dX12_readsSpeaker_171 rfl ?_
            refine X_gI C0 (pc := 172) f_OM_283_10 rfl dX12_readsSpeaker_172 h (fun v15 h => ?_)
            refine X_iast C0 (pc := 175) dX12_readsSpeaker_175 h (fun M5 h => ?_)
            refine j_iinc C0 (pc := 176) dX12_readsSpeaker_176 (v := v8 + (1 : Int32)) rfl (Nat.le_of_ble_eq_true rfl) (by rfl) ?_
            refine X_let (G := fun w => j_J X 6 179 [some (.ref v5), some (.int v6), some (.long v7), none, some (.int w), some (.int v10)] [] (0, 0) M5) h (fun v16 h => ?_)
            refine j_goto C0 (pc := 179) (tgt := 88) dX12_readsSpeaker_179 (by decide) ?_
            exact j_J.wq (ih v5 v6 v7 v16 M5 h) (And.intro rfl (And.intro rfl (And.intro rfl (And.intro rfl (trivial)))))
          · replace h := (X_if h).1 hc
            refine j_iconst C0 (pc := 155) dX12_readsSpeaker_155 (v := (0 : Int32)) (by decide) ?_
            exact j_zret C rfl (by decide) h dX12_readsSpeaker_156 (by decide)
        · replace h := (X_if h).2 hc
          exact j_J.wq (hk135 v5 M2 h) (And.intro rfl (trivial))
      · replace h := (X_if h).1 hc
        refine j_iconst C0 (pc := 109) dX12_readsSpeaker_109 (v := (0 : Int32)) (by decide) ?_
        exact j_zret C rfl (by decide) h dX12_readsSpeaker_110 (by decide)
    · refine j_iload C0 (pc := 88) dX12_readsSpeaker_88 rfl ?_
      refine j_if_eq C0 (pc := 90) (tgt := 102) dX12_readsSpeaker_90 (by decide) (fun hc => ?_) (fun hc => ?_)
      · replace h := (X_if h).1 hc
        exact j_J.wq (hk102 v1 v2 v3 v4 M h) (And.intro rfl (And.intro rfl (And.intro rfl (And.intro rfl (trivial)))))
      · replace h := (X_if h).2 hc
        refine j_aload_n C0 (pc := 93) dX12_readsSpeaker_93 rfl ?_
        refine j_bipush C0 (pc := 94) dX12_readsSpeaker_94 (v := (59 : Int32)) (by decide) ?_
        refine X_cV C0 (pc := 96) (e' := e_I) (as := [.int (59 : Int32)]) (rest := []) (s' := fun w => .int w :: []) (g' := (0, 0)) v_OM_233_10 (fun Ψ hΨ => K_X12_isSign v1 (59 : Int32) M Ψ hΨ) rfl rfl (fun _ => rfl) (by decide) (by decide) rfl (Nat.le_of_ble_eq_true rfl) dX12_readsSpeaker_96 h (fun v17 M6 h => ?_)
        refine j_if_ne C0 (pc := 99) (tgt := 182) dX12_readsSpeaker_99 (by decide) (fun hc => ?_) (fun hc => ?_)
        · replace h := (X_if h).2 hc
          exact j_J.wq (hk182 v1 v2 v3 M6 h) (And.intro rfl (And.intro rfl (And.intro rfl (trivial))))
        · replace h := (X_if h).1 hc
          exact j_J.wq (hk102 v1 v2 v3 v4 M6 h) (And.intro rfl (And.intro rfl (And.intro rfl (And.intro rfl (trivial)))))
set_option maxHeartbeats 4000000 in
theorem L_X12_readsSpeaker_56 {X : j_X} {Φ : Option Value → m_M → Prop} (C : j_C X yX12_readsSpeaker cX12_readsSpeaker 6 (some .boolean) 4 0 0 Φ) {k85 : Nat → Int32 → Int64 → m_M → Option (Int32 × m_M)} (hk85 : ∀ (p0 : Nat) (p1 : Int32) (p2 : Int64) (M : m_M), m_ok e_I Φ (k85 p0 p1 p2 M) → j_J X 6 85 [some (.ref p0), some (.int p1), some (.long p2), none, none, none] [] (0, 0) M) : ∀ (n : Nat) (v1 : Nat) (v2 : Int32) (v3 : Int64) (v4 : Int32) (M : m_M), m_ok e_I Φ (F_X12_readsSpeaker_56 k85 n v1 v2 v3 v4 M) → j_J X 6 56 [some (.ref v1), some (.int v2), some (.long v3), none, some (.int v4), none] [] (0, 0) M := by
  have C0 := C.1
  intro n
  induction n with
  | zero => intro v1 v2 v3 v4 M h; exact False.elim h
  | succ n ih =>
    intro v1 v2 v3 v4 M h
    rw [F_X12_readsSpeaker_56] at h
    refine j_iload C0 (pc := 56) dX12_readsSpeaker_56 rfl ?_
    refine j_bipush C0 (pc := 58) dX12_readsSpeaker_58 (v := (6 : Int32)) (by decide) ?_
    refine j_icmp_ge C0 (pc := 60) (tgt := 85) dX12_readsSpeaker_60 (by decide) (fun hc => ?_) (fun hc => ?_)
    · replace h := (X_if h).1 hc
      exact j_J.wq (hk85 v1 v2 v3 M h) (And.intro rfl (And.intro rfl (And.intro rfl (trivial))))
    · replace h := (X_if h).2 hc
      refine j_aload_n C0 (pc := 63) dX12_readsSpeaker_63 rfl ?_
      refine X_gN C0 (pc := 64) f_OM_35_10 rfl dX12_readsSpeaker_64 h (fun v5 h => ?_)
      refine j_bipush C0 (pc := 67) dX12_readsSpeaker_67 (v := (18 : Int32)) (by decide) ?_
      refine j_bipush C0 (pc := 69) dX12_readsSpeaker_69 (v := (6 : Int32)) (by decide) ?_
      refine j_iload_n C0 (pc := 71) dX12_readsSpeaker_71 rfl ?_
      refine j_imul C0 (pc := 72) dX12_readsSpeaker_72 ?_
      refine j_iadd C0 (pc := 73) dX12_readsSpeaker_73 ?_
      refine j_iload C0 (pc := 74) dX12_readsSpeaker_74 rfl ?_
      refine j_iadd C0 (pc := 76) dX12_readsSpeaker_76 ?_
      refine j_iconst C0 (pc := 77) dX12_readsSpeaker_77 (v := (-1 : Int32)) (by decide) ?_
      refine X_iast C0 (pc := 78) dX12_readsSpeaker_78 h (fun M1 h => ?_)
      refine j_iinc C0 (pc := 79) dX12_readsSpeaker_79 (v := v4 + (1 : Int32)) rfl (Nat.le_of_ble_eq_true rfl) (by rfl) ?_
      refine X_let (G := fun w => j_J X 6 82 [some (.ref v1), some (.int v2), some (.long v3), none, some (.int w), none] [] (0, 0) M1) h (fun v6 h => ?_)
      refine j_goto C0 (pc := 82) (tgt := 56) dX12_readsSpeaker_82 (by decide) ?_
      exact j_J.wq (ih v1 v2 v3 v6 M1 h) (And.intro rfl (And.intro rfl (And.intro rfl (And.intro rfl (trivial)))))
set_option maxHeartbeats 4000000 in
theorem K_X12_readsSpeaker (a0 : Nat) (M : m_M) (Φ : Option Value → m_M → Prop) (h : m_ok e_I Φ (F_X12_readsSpeaker a0 M)) : j_Ct yX12_readsSpeaker cX12_readsSpeaker 6 (some .boolean) 4 0 0 [.ref a0] M Φ := by
  refine j_Ct.of (by decide +kernel) (Nat.le_of_ble_eq_true rfl) fun X C => ?_
  have C0 := C.1
  show j_J X 6 0 [some (.ref a0), none, none, none, none, none] [] (0, 0) M
  unfold F_X12_readsSpeaker at h
  refine j_aload_n C0 (pc := 0) dX12_readsSpeaker_0 rfl ?_
  refine X_gN C0 (pc := 1) f_OM_13_10 rfl dX12_readsSpeaker_1 h (fun v1 h => ?_)
  refine j_bipush C0 (pc := 4) dX12_readsSpeaker_4 (v := (12 : Int32)) (by decide) ?_
  refine X_iald C0 (pc := 6) dX12_readsSpeaker_6 h (fun v2 h => ?_)
  refine j_istore_n C0 (pc := 7) dX12_readsSpeaker_7 (Nat.le_of_ble_eq_true rfl) ?_
  show j_J X 6 8 [some (.ref a0), some (.int v2), none, none, none, none] [] (0, 0) M
  refine j_iload_n C0 (pc := 8) dX12_readsSpeaker_8 rfl ?_
  refine j_iconst C0 (pc := 9) dX12_readsSpeaker_9 (v := (3 : Int32)) (by decide) ?_
  refine j_icmp_ne C0 (pc := 10) (tgt := 19) dX12_readsSpeaker_10 (by decide) (fun hc => ?_) (fun hc => ?_)
  · replace h := (X_if h).2 hc
    refine j_aload_n C0 (pc := 19) dX12_readsSpeaker_19 rfl ?_
    refine X_cV C0 (pc := 20) (e' := e_V) (as := []) (rest := []) (s' := fun _ => []) (g' := (0, 0)) v_OM_243_10 (fun Ψ hΨ => K_X12_nextToken a0 M Ψ hΨ) rfl rfl (fun _ => rfl) (by decide) (by decide) rfl (Nat.le_of_ble_eq_true rfl) dX12_readsSpeaker_20 h (fun _ M1 h => ?_)
    refine j_aload_n C0 (pc := 23) dX12_readsSpeaker_23 rfl ?_
    refine X_cV C0 (pc := 24) (e' := e_I) (as := []) (rest := []) (s' := fun w => .int w :: []) (g' := (0, 0)) v_OM_299_10 (fun Ψ hΨ => K_X12_isNew a0 M1 Ψ hΨ) rfl rfl (fun _ => rfl) (by decide) (by decide) rfl (Nat.le_of_ble_eq_true rfl) dX12_readsSpeaker_24 h (fun v3 M2 h => ?_)
    refine j_if_ne C0 (pc := 27) (tgt := 32) dX12_readsSpeaker_27 (by decide) (fun hc => ?_) (fun hc => ?_)
    · replace h := (X_if h).2 hc
      refine j_aload_n C0 (pc := 32) dX12_readsSpeaker_32 rfl ?_
      refine X_gL C0 (pc := 33) f_OM_181_10 rfl dX12_readsSpeaker_33 h (fun v4 h => ?_)
      refine j_lstore_n C0 (pc := 36) dX12_readsSpeaker_36 (Nat.le_of_ble_eq_true rfl) ?_
      show j_J X 6 37 [some (.ref a0), some (.int v2), some (.long v4), none, none, none] [] (0, 0) M2
      refine j_aload_n C0 (pc := 37) dX12_readsSpeaker_37 rfl ?_
      refine X_cV C0 (pc := 38) (e' := e_V) (as := []) (rest := []) (s' := fun _ => []) (g' := (0, 0)) v_OM_243_10 (fun Ψ hΨ => K_X12_nextToken a0 M2 Ψ hΨ) rfl rfl (fun _ => rfl) (by decide) (by decide) rfl (Nat.le_of_ble_eq_true rfl) dX12_readsSpeaker_38 h (fun _ M3 h => ?_)
      refine j_aload_n C0 (pc := 41) dX12_readsSpeaker_41 rfl ?_
      refine j_ldc2 C0 (pc := 42) (v := (12253591 : Int64)) (j_c8 146 (by decide +kernel)) dX12_readsSpeaker_42 ?_
      refine X_cV C0 (pc := 45) (e' := e_I) (as := [.long (12253591 : Int64)]) (rest := []) (s' := fun w => .int w :: []) (g' := (0, 0)) v_OM_302_10 (fun Ψ hΨ => K_X12_needsWord a0 (12253591 : Int64) M3 Ψ hΨ) rfl rfl (fun _ => rfl) (by decide) (by decide) rfl (Nat.le_of_ble_eq_true rfl) dX12_readsSpeaker_45 h (fun v5 M4 h => ?_)
      refine j_if_ne C0 (pc := 48) (tgt := 53) dX12_readsSpeaker_48 (by decide) (fun hc => ?_) (fun hc => ?_)
      · replace h := (X_if h).2 hc
        refine j_iconst C0 (pc := 53) dX12_readsSpeaker_53 (v := (0 : Int32)) (by decide) ?_
        refine j_istore C0 (pc := 54) dX12_readsSpeaker_54 (Nat.le_of_ble_eq_true rfl) ?_
        show j_J X 6 56 [some (.ref a0), some (.int v2), some (.long v4), none, some (.int (0 : Int32)), none] [] (0, 0) M4
        refine X_join (fun (kj : Nat → Int32 → Int64 → m_M → Option (Int32 × m_M)) => ∀ (p0 : Nat) (p1 : Int32) (p2 : Int64) (M : m_M), m_ok e_I Φ (kj p0 p1 p2 M) → j_J X 6 85 [some (.ref p0), some (.int p1), some (.long p2), none, none, none] [] (0, 0) M) h (fun v6 v7 v8 M5 h => ?_) (fun k85 hk85 h => ?_)
        · refine j_iconst C0 (pc := 85) dX12_readsSpeaker_85 (v := (0 : Int32)) (by decide) ?_
          refine j_istore C0 (pc := 86) dX12_readsSpeaker_86 (Nat.le_of_ble_eq_true rfl) ?_
          show j_J X 6 88 [some (.ref v6), some (.int v7), some (.long v8), none, some (.int (0 : Int32)), none] [] (0, 0) M5
          refine X_join (fun (kj : Nat → m_M → Option (Int32 × m_M)) => ∀ (p0 : Nat) (M : m_M), m_ok e_I Φ (kj p0 M) → j_J X 6 135 [some (.ref p0), none, none, none, none, none] [] (0, 0) M) h (fun v9 M6 h => ?_) (fun k135 hk135 h => ?_)
          · refine j_aload_n C0 (pc := 135) dX12_readsSpeaker_135 rfl ?_
            refine j_iconst C0 (pc := 136) dX12_readsSpeaker_136 (v := (3 : Int32)) (by decide) ?_
            refine X_cV C0 (pc := 137) (e' := e_I) (as := [.int (3 : Int32)]) (rest := []) (s' := fun w => .int w :: []) (g' := (0, 0)) v_OM_237_10 (fun Ψ hΨ => K_X12_fails v9 (3 : Int32) M6 Ψ hΨ) rfl rfl (fun _ => rfl) (by decide) (by decide) rfl (Nat.le_of_ble_eq_true rfl) dX12_readsSpeaker_137 h (fun v10 M7 h => ?_)
            exact j_zret C rfl (by rcases (X_gd h).1 with q | q <;> (rw [q]; rfl)) (X_gd h).2 dX12_readsSpeaker_140 (by decide)
          · refine X_join (fun (kj : Nat → Int32 → Int64 → m_M → Option (Int32 × m_M)) => ∀ (p0 : Nat) (p1 : Int32) (p2 : Int64) (M : m_M), m_ok e_I Φ (kj p0 p1 p2 M) → j_J X 6 182 [some (.ref p0), some (.int p1), some (.long p2), none, none, none] [] (0, 0) M) h (fun v11 v12 v13 M8 h => ?_) (fun k182 hk182 h => ?_)
            · refine j_aload_n C0 (pc := 182) dX12_readsSpeaker_182 rfl ?_
              refine X_gN C0 (pc := 183) f_OM_26_10 rfl dX12_readsSpeaker_183 h (fun v14 h => ?_)
              refine j_iload_n C0 (pc := 186) dX12_readsSpeaker_186 rfl ?_
              refine j_lload_n C0 (pc := 187) dX12_readsSpeaker_187 rfl ?_
              refine X_last C0 (pc := 188) dX12_readsSpeaker_188 h (fun M9 h => ?_)
              refine j_aload_n C0 (pc := 189) dX12_readsSpeaker_189 rfl ?_
              refine X_gN C0 (pc := 190) f_OM_13_10 rfl dX12_readsSpeaker_190 h (fun v15 h => ?_)
              refine j_bipush C0 (pc := 193) dX12_readsSpeaker_193 (v := (12 : Int32)) (by decide) ?_
              refine j_dup2 C0 (pc := 195) dX12_readsSpeaker_195 rfl rfl ?_
              refine X_iald C0 (pc := 196) dX12_readsSpeaker_196 h (fun v16 h => ?_)
              refine j_iconst C0 (pc := 197) dX12_readsSpeaker_197 (v := (1 : Int32)) (by decide) ?_
              refine j_iadd C0 (pc := 198) dX12_readsSpeaker_198 ?_
              refine X_iast C0 (pc := 199) dX12_readsSpeaker_199 h (fun M10 h => ?_)
              refine j_aload_n C0 (pc := 200) dX12_readsSpeaker_200 rfl ?_
              refine X_cV C0 (pc := 201) (e' := e_I) (as := []) (rest := []) (s' := fun w => .int w :: []) (g' := (0, 0)) v_OM_309_10 (fun Ψ hΨ => K_X12_closes v11 M10 Ψ hΨ) rfl rfl (fun _ => rfl) (by decide) (by decide) rfl (Nat.le_of_ble_eq_true rfl) dX12_readsSpeaker_201 h (fun v17 M11 h => ?_)
              exact j_zret C rfl (by rcases (X_gd h).1 with q | q <;> (rw [q]; rfl)) (X_gd h).2 dX12_readsSpeaker_204 (by decide)
            · exact j_J.wq (L_X12_readsSpeaker_88 C hk135 hk182 m_FU v6 v7 v8 (0 : Int32) M5 h) (And.intro rfl (And.intro rfl (And.intro rfl (And.intro rfl (trivial)))))
        · exact j_J.wq (L_X12_readsSpeaker_56 C hk85 m_FU a0 v2 v4 (0 : Int32) M4 h) (And.intro rfl (And.intro rfl (And.intro rfl (And.intro rfl (trivial)))))
      · replace h := (X_if h).1 hc
        refine j_iconst C0 (pc := 51) dX12_readsSpeaker_51 (v := (0 : Int32)) (by decide) ?_
        exact j_zret C rfl (by decide) h dX12_readsSpeaker_52 (by decide)
    · replace h := (X_if h).1 hc
      refine j_iconst C0 (pc := 30) dX12_readsSpeaker_30 (v := (0 : Int32)) (by decide) ?_
      exact j_zret C rfl (by decide) h dX12_readsSpeaker_31 (by decide)
  · replace h := (X_if h).1 hc
    refine j_aload_n C0 (pc := 13) dX12_readsSpeaker_13 rfl ?_
    refine j_iconst C0 (pc := 14) dX12_readsSpeaker_14 (v := (5 : Int32)) (by decide) ?_
    refine X_cV C0 (pc := 15) (e' := e_I) (as := [.int (5 : Int32)]) (rest := []) (s' := fun w => .int w :: []) (g' := (0, 0)) v_OM_237_10 (fun Ψ hΨ => K_X12_fails a0 (5 : Int32) M Ψ hΨ) rfl rfl (fun _ => rfl) (by decide) (by decide) rfl (Nat.le_of_ble_eq_true rfl) dX12_readsSpeaker_15 h (fun v18 M12 h => ?_)
    exact j_zret C rfl (by rcases (X_gd h).1 with q | q <;> (rw [q]; rfl)) (X_gd h).2 dX12_readsSpeaker_18 (by decide)
theorem dX12_readsBribe_0 : decode cX12_readsBribe 0 = .ok (.aload_n 0, 1) := by decide +kernel
theorem dX12_readsBribe_1 : decode cX12_readsBribe 1 = .ok (.getfield 324, 3) := by decide +kernel
theorem dX12_readsBribe_4 : decode cX12_readsBribe 4 = .ok (.ifCond .eq 9, 3) := by decide +kernel
theorem dX12_readsBribe_7 : decode cX12_readsBribe 7 = .ok (.aload_n 0, 1) := by decide +kernel
theorem dX12_readsBribe_8 : decode cX12_readsBribe 8 = .ok (.iconst 3, 1) := by decide +kernel
theorem dX12_readsBribe_9 : decode cX12_readsBribe 9 = .ok (.invokevirtual 237, 3) := by decide +kernel
theorem dX12_readsBribe_12 : decode cX12_readsBribe 12 = .ok (.ireturn, 1) := by decide +kernel
theorem dX12_readsBribe_13 : decode cX12_readsBribe 13 = .ok (.aload_n 0, 1) := by decide +kernel
theorem dX12_readsBribe_14 : decode cX12_readsBribe 14 = .ok (.iconst 1, 1) := by decide +kernel
theorem dX12_readsBribe_15 : decode cX12_readsBribe 15 = .ok (.putfield 324, 3) := by decide +kernel
theorem dX12_readsBribe_18 : decode cX12_readsBribe 18 = .ok (.aload_n 0, 1) := by decide +kernel
theorem dX12_readsBribe_19 : decode cX12_readsBribe 19 = .ok (.invokevirtual 243, 3) := by decide +kernel
theorem dX12_readsBribe_22 : decode cX12_readsBribe 22 = .ok (.aload_n 0, 1) := by decide +kernel
theorem dX12_readsBribe_23 : decode cX12_readsBribe 23 = .ok (.iconst 0, 1) := by decide +kernel
theorem dX12_readsBribe_24 : decode cX12_readsBribe 24 = .ok (.bipush 99, 2) := by decide +kernel
theorem dX12_readsBribe_26 : decode cX12_readsBribe 26 = .ok (.invokevirtual 305, 3) := by decide +kernel
theorem dX12_readsBribe_29 : decode cX12_readsBribe 29 = .ok (.ifCond .ne 5, 3) := by decide +kernel
theorem dX12_readsBribe_32 : decode cX12_readsBribe 32 = .ok (.iconst 0, 1) := by decide +kernel
theorem dX12_readsBribe_33 : decode cX12_readsBribe 33 = .ok (.ireturn, 1) := by decide +kernel
theorem dX12_readsBribe_34 : decode cX12_readsBribe 34 = .ok (.aload_n 0, 1) := by decide +kernel
theorem dX12_readsBribe_35 : decode cX12_readsBribe 35 = .ok (.getfield 13, 3) := by decide +kernel
theorem dX12_readsBribe_38 : decode cX12_readsBribe 38 = .ok (.bipush 14, 2) := by decide +kernel
theorem dX12_readsBribe_40 : decode cX12_readsBribe 40 = .ok (.aload_n 0, 1) := by decide +kernel
theorem dX12_readsBribe_41 : decode cX12_readsBribe 41 = .ok (.getfield 283, 3) := by decide +kernel
theorem dX12_readsBribe_44 : decode cX12_readsBribe 44 = .ok (.iastore, 1) := by decide +kernel
theorem dX12_readsBribe_45 : decode cX12_readsBribe 45 = .ok (.aload_n 0, 1) := by decide +kernel
theorem dX12_readsBribe_46 : decode cX12_readsBribe 46 = .ok (.invokevirtual 309, 3) := by decide +kernel
theorem dX12_readsBribe_49 : decode cX12_readsBribe 49 = .ok (.ireturn, 1) := by decide +kernel
noncomputable def F_X12_readsBribe (a0 : Nat) (M : m_M) : Option (Int32 × m_M) :=
  x_gI 10 M a0 24 fun v1 =>
  if v1 = 0 then (
    x_pI 10 M a0 24 (1 : Int32) fun M1 =>
    x_cV 10 M1 a0 (F_X12_nextToken a0 M1) fun _ M2 =>
    x_cV 10 M2 a0 (F_X12_needsNumber a0 (0 : Int32) (99 : Int32) M2) fun v2 M3 =>
    if v2 = 0 then (
      some ((0 : Int32), M3)
    ) else
    x_gN 10 M3 a0 10 fun v3 =>
    x_gI 10 M3 a0 37 fun v4 =>
    x_sI 12 M3 v3 (14 : Int32) v4 fun M4 =>
    x_cV 10 M4 a0 (F_X12_closes a0 M4) fun v5 M5 =>
    x_b v5 <| some (v5, M5)
  ) else
  x_cV 10 M a0 (F_X12_fails a0 (3 : Int32) M) fun v6 M6 =>
  x_b v6 <| some (v6, M6)
set_option maxHeartbeats 4000000 in
theorem K_X12_readsBribe (a0 : Nat) (M : m_M) (Φ : Option Value → m_M → Prop) (h : m_ok e_I Φ (F_X12_readsBribe a0 M)) : j_Ct yX12_readsBribe cX12_readsBribe 1 (some .boolean) 4 0 0 [.ref a0] M Φ := by
  refine j_Ct.of (by decide +kernel) (Nat.le_of_ble_eq_true rfl) fun X C => ?_
  have C0 := C.1
  show j_J X 1 0 [some (.ref a0)] [] (0, 0) M
  unfold F_X12_readsBribe at h
  refine j_aload_n C0 (pc := 0) dX12_readsBribe_0 rfl ?_
  refine X_gI C0 (pc := 1) f_OM_324_10 rfl dX12_readsBribe_1 h (fun v1 h => ?_)
  refine j_if_eq C0 (pc := 4) (tgt := 13) dX12_readsBribe_4 (by decide) (fun hc => ?_) (fun hc => ?_)
  · replace h := (X_if h).1 hc
    refine j_aload_n C0 (pc := 13) dX12_readsBribe_13 rfl ?_
    refine j_iconst C0 (pc := 14) dX12_readsBribe_14 (v := (1 : Int32)) (by decide) ?_
    refine X_pC C0 (pc := 15) f_OM_324_10 (by decide) (by decide) rfl dX12_readsBribe_15 h (fun M1 h => ?_)
    refine j_aload_n C0 (pc := 18) dX12_readsBribe_18 rfl ?_
    refine X_cV C0 (pc := 19) (e' := e_V) (as := []) (rest := []) (s' := fun _ => []) (g' := (0, 0)) v_OM_243_10 (fun Ψ hΨ => K_X12_nextToken a0 M1 Ψ hΨ) rfl rfl (fun _ => rfl) (by decide) (by decide) rfl (Nat.le_of_ble_eq_true rfl) dX12_readsBribe_19 h (fun _ M2 h => ?_)
    refine j_aload_n C0 (pc := 22) dX12_readsBribe_22 rfl ?_
    refine j_iconst C0 (pc := 23) dX12_readsBribe_23 (v := (0 : Int32)) (by decide) ?_
    refine j_bipush C0 (pc := 24) dX12_readsBribe_24 (v := (99 : Int32)) (by decide) ?_
    refine X_cV C0 (pc := 26) (e' := e_I) (as := [.int (0 : Int32), .int (99 : Int32)]) (rest := []) (s' := fun w => .int w :: []) (g' := (0, 0)) v_OM_305_10 (fun Ψ hΨ => K_X12_needsNumber a0 (0 : Int32) (99 : Int32) M2 Ψ hΨ) rfl rfl (fun _ => rfl) (by decide) (by decide) rfl (Nat.le_of_ble_eq_true rfl) dX12_readsBribe_26 h (fun v2 M3 h => ?_)
    refine j_if_ne C0 (pc := 29) (tgt := 34) dX12_readsBribe_29 (by decide) (fun hc => ?_) (fun hc => ?_)
    · replace h := (X_if h).2 hc
      refine j_aload_n C0 (pc := 34) dX12_readsBribe_34 rfl ?_
      refine X_gN C0 (pc := 35) f_OM_13_10 rfl dX12_readsBribe_35 h (fun v3 h => ?_)
      refine j_bipush C0 (pc := 38) dX12_readsBribe_38 (v := (14 : Int32)) (by decide) ?_
      refine j_aload_n C0 (pc := 40) dX12_readsBribe_40 rfl ?_
      refine X_gI C0 (pc := 41) f_OM_283_10 rfl dX12_readsBribe_41 h (fun v4 h => ?_)
      refine X_iast C0 (pc := 44) dX12_readsBribe_44 h (fun M4 h => ?_)
      refine j_aload_n C0 (pc := 45) dX12_readsBribe_45 rfl ?_
      refine X_cV C0 (pc := 46) (e' := e_I) (as := []) (rest := []) (s' := fun w => .int w :: []) (g' := (0, 0)) v_OM_309_10 (fun Ψ hΨ => K_X12_closes a0 M4 Ψ hΨ) rfl rfl (fun _ => rfl) (by decide) (by decide) rfl (Nat.le_of_ble_eq_true rfl) dX12_readsBribe_46 h (fun v5 M5 h => ?_)
      exact j_zret C rfl (by rcases (X_gd h).1 with q | q <;> (rw [q]; rfl)) (X_gd h).2 dX12_readsBribe_49 (by decide)
    · replace h := (X_if h).1 hc
      refine j_iconst C0 (pc := 32) dX12_readsBribe_32 (v := (0 : Int32)) (by decide) ?_
      exact j_zret C rfl (by decide) h dX12_readsBribe_33 (by decide)
  · replace h := (X_if h).2 hc
    refine j_aload_n C0 (pc := 7) dX12_readsBribe_7 rfl ?_
    refine j_iconst C0 (pc := 8) dX12_readsBribe_8 (v := (3 : Int32)) (by decide) ?_
    refine X_cV C0 (pc := 9) (e' := e_I) (as := [.int (3 : Int32)]) (rest := []) (s' := fun w => .int w :: []) (g' := (0, 0)) v_OM_237_10 (fun Ψ hΨ => K_X12_fails a0 (3 : Int32) M Ψ hΨ) rfl rfl (fun _ => rfl) (by decide) (by decide) rfl (Nat.le_of_ble_eq_true rfl) dX12_readsBribe_9 h (fun v6 M6 h => ?_)
    exact j_zret C rfl (by rcases (X_gd h).1 with q | q <;> (rw [q]; rfl)) (X_gd h).2 dX12_readsBribe_12 (by decide)
theorem dX12_readsAll_0 : decode cX12_readsAll 0 = .ok (.aload_n 0, 1) := by decide +kernel
theorem dX12_readsAll_1 : decode cX12_readsAll 1 = .ok (.iconst 1, 1) := by decide +kernel
theorem dX12_readsAll_2 : decode cX12_readsAll 2 = .ok (.invokevirtual 156, 3) := by decide +kernel
theorem dX12_readsAll_5 : decode cX12_readsAll 5 = .ok (.aload_n 0, 1) := by decide +kernel
theorem dX12_readsAll_6 : decode cX12_readsAll 6 = .ok (.iconst 0, 1) := by decide +kernel
theorem dX12_readsAll_7 : decode cX12_readsAll 7 = .ok (.putfield 318, 3) := by decide +kernel
theorem dX12_readsAll_10 : decode cX12_readsAll 10 = .ok (.aload_n 0, 1) := by decide +kernel
theorem dX12_readsAll_11 : decode cX12_readsAll 11 = .ok (.iconst 0, 1) := by decide +kernel
theorem dX12_readsAll_12 : decode cX12_readsAll 12 = .ok (.putfield 324, 3) := by decide +kernel
theorem dX12_readsAll_15 : decode cX12_readsAll 15 = .ok (.aload_n 0, 1) := by decide +kernel
theorem dX12_readsAll_16 : decode cX12_readsAll 16 = .ok (.sipush 1000, 3) := by decide +kernel
theorem dX12_readsAll_19 : decode cX12_readsAll 19 = .ok (.putfield 202, 3) := by decide +kernel
theorem dX12_readsAll_22 : decode cX12_readsAll 22 = .ok (.aload_n 0, 1) := by decide +kernel
theorem dX12_readsAll_23 : decode cX12_readsAll 23 = .ok (.invokevirtual 327, 3) := by decide +kernel
theorem dX12_readsAll_26 : decode cX12_readsAll 26 = .ok (.aload_n 0, 1) := by decide +kernel
theorem dX12_readsAll_27 : decode cX12_readsAll 27 = .ok (.ldc2_w 259, 3) := by decide +kernel
theorem dX12_readsAll_30 : decode cX12_readsAll 30 = .ok (.invokevirtual 302, 3) := by decide +kernel
theorem dX12_readsAll_33 : decode cX12_readsAll 33 = .ok (.ifCond .eq 12, 3) := by decide +kernel
theorem dX12_readsAll_36 : decode cX12_readsAll 36 = .ok (.aload_n 0, 1) := by decide +kernel
theorem dX12_readsAll_37 : decode cX12_readsAll 37 = .ok (.iconst 2, 1) := by decide +kernel
theorem dX12_readsAll_38 : decode cX12_readsAll 38 = .ok (.iconst 4, 1) := by decide +kernel
theorem dX12_readsAll_39 : decode cX12_readsAll 39 = .ok (.invokevirtual 305, 3) := by decide +kernel
theorem dX12_readsAll_42 : decode cX12_readsAll 42 = .ok (.ifCond .ne 5, 3) := by decide +kernel
theorem dX12_readsAll_45 : decode cX12_readsAll 45 = .ok (.iconst 0, 1) := by decide +kernel
theorem dX12_readsAll_46 : decode cX12_readsAll 46 = .ok (.ireturn, 1) := by decide +kernel
theorem dX12_readsAll_47 : decode cX12_readsAll 47 = .ok (.aload_n 0, 1) := by decide +kernel
theorem dX12_readsAll_48 : decode cX12_readsAll 48 = .ok (.getfield 13, 3) := by decide +kernel
theorem dX12_readsAll_51 : decode cX12_readsAll 51 = .ok (.bipush 8, 2) := by decide +kernel
theorem dX12_readsAll_53 : decode cX12_readsAll 53 = .ok (.aload_n 0, 1) := by decide +kernel
theorem dX12_readsAll_54 : decode cX12_readsAll 54 = .ok (.getfield 283, 3) := by decide +kernel
theorem dX12_readsAll_57 : decode cX12_readsAll 57 = .ok (.iastore, 1) := by decide +kernel
theorem dX12_readsAll_58 : decode cX12_readsAll 58 = .ok (.aload_n 0, 1) := by decide +kernel
theorem dX12_readsAll_59 : decode cX12_readsAll 59 = .ok (.invokevirtual 309, 3) := by decide +kernel
theorem dX12_readsAll_62 : decode cX12_readsAll 62 = .ok (.ifCond .ne 5, 3) := by decide +kernel
theorem dX12_readsAll_65 : decode cX12_readsAll 65 = .ok (.iconst 0, 1) := by decide +kernel
theorem dX12_readsAll_66 : decode cX12_readsAll 66 = .ok (.ireturn, 1) := by decide +kernel
theorem dX12_readsAll_67 : decode cX12_readsAll 67 = .ok (.aload_n 0, 1) := by decide +kernel
theorem dX12_readsAll_68 : decode cX12_readsAll 68 = .ok (.getfield 188, 3) := by decide +kernel
theorem dX12_readsAll_71 : decode cX12_readsAll 71 = .ok (.ifCond .eq 120, 3) := by decide +kernel
theorem dX12_readsAll_74 : decode cX12_readsAll 74 = .ok (.aload_n 0, 1) := by decide +kernel
theorem dX12_readsAll_75 : decode cX12_readsAll 75 = .ok (.ldc2_w 261, 3) := by decide +kernel
theorem dX12_readsAll_78 : decode cX12_readsAll 78 = .ok (.invokevirtual 229, 3) := by decide +kernel
theorem dX12_readsAll_81 : decode cX12_readsAll 81 = .ok (.ifCond .eq 10, 3) := by decide +kernel
theorem dX12_readsAll_84 : decode cX12_readsAll 84 = .ok (.aload_n 0, 1) := by decide +kernel
theorem dX12_readsAll_85 : decode cX12_readsAll 85 = .ok (.invokevirtual 330, 3) := by decide +kernel
theorem dX12_readsAll_88 : decode cX12_readsAll 88 = .ok (.goto 93, 3) := by decide +kernel
theorem dX12_readsAll_91 : decode cX12_readsAll 91 = .ok (.aload_n 0, 1) := by decide +kernel
theorem dX12_readsAll_92 : decode cX12_readsAll 92 = .ok (.ldc2_w 265, 3) := by decide +kernel
theorem dX12_readsAll_95 : decode cX12_readsAll 95 = .ok (.invokevirtual 229, 3) := by decide +kernel
theorem dX12_readsAll_98 : decode cX12_readsAll 98 = .ok (.ifCond .eq 10, 3) := by decide +kernel
theorem dX12_readsAll_101 : decode cX12_readsAll 101 = .ok (.aload_n 0, 1) := by decide +kernel
theorem dX12_readsAll_102 : decode cX12_readsAll 102 = .ok (.invokevirtual 333, 3) := by decide +kernel
theorem dX12_readsAll_105 : decode cX12_readsAll 105 = .ok (.goto 76, 3) := by decide +kernel
theorem dX12_readsAll_108 : decode cX12_readsAll 108 = .ok (.aload_n 0, 1) := by decide +kernel
theorem dX12_readsAll_109 : decode cX12_readsAll 109 = .ok (.ldc2_w 267, 3) := by decide +kernel
theorem dX12_readsAll_112 : decode cX12_readsAll 112 = .ok (.invokevirtual 229, 3) := by decide +kernel
theorem dX12_readsAll_115 : decode cX12_readsAll 115 = .ok (.ifCond .eq 10, 3) := by decide +kernel
theorem dX12_readsAll_118 : decode cX12_readsAll 118 = .ok (.aload_n 0, 1) := by decide +kernel
theorem dX12_readsAll_119 : decode cX12_readsAll 119 = .ok (.invokevirtual 336, 3) := by decide +kernel
theorem dX12_readsAll_122 : decode cX12_readsAll 122 = .ok (.goto 59, 3) := by decide +kernel
theorem dX12_readsAll_125 : decode cX12_readsAll 125 = .ok (.aload_n 0, 1) := by decide +kernel
theorem dX12_readsAll_126 : decode cX12_readsAll 126 = .ok (.ldc2_w 269, 3) := by decide +kernel
theorem dX12_readsAll_129 : decode cX12_readsAll 129 = .ok (.invokevirtual 229, 3) := by decide +kernel
theorem dX12_readsAll_132 : decode cX12_readsAll 132 = .ok (.ifCond .eq 10, 3) := by decide +kernel
theorem dX12_readsAll_135 : decode cX12_readsAll 135 = .ok (.aload_n 0, 1) := by decide +kernel
theorem dX12_readsAll_136 : decode cX12_readsAll 136 = .ok (.invokevirtual 339, 3) := by decide +kernel
theorem dX12_readsAll_139 : decode cX12_readsAll 139 = .ok (.goto 42, 3) := by decide +kernel
theorem dX12_readsAll_142 : decode cX12_readsAll 142 = .ok (.aload_n 0, 1) := by decide +kernel
theorem dX12_readsAll_143 : decode cX12_readsAll 143 = .ok (.ldc2_w 273, 3) := by decide +kernel
theorem dX12_readsAll_146 : decode cX12_readsAll 146 = .ok (.invokevirtual 229, 3) := by decide +kernel
theorem dX12_readsAll_149 : decode cX12_readsAll 149 = .ok (.ifCond .eq 10, 3) := by decide +kernel
theorem dX12_readsAll_152 : decode cX12_readsAll 152 = .ok (.aload_n 0, 1) := by decide +kernel
theorem dX12_readsAll_153 : decode cX12_readsAll 153 = .ok (.invokevirtual 342, 3) := by decide +kernel
theorem dX12_readsAll_156 : decode cX12_readsAll 156 = .ok (.goto 25, 3) := by decide +kernel
theorem dX12_readsAll_159 : decode cX12_readsAll 159 = .ok (.aload_n 0, 1) := by decide +kernel
theorem dX12_readsAll_160 : decode cX12_readsAll 160 = .ok (.ldc2_w 277, 3) := by decide +kernel
theorem dX12_readsAll_163 : decode cX12_readsAll 163 = .ok (.invokevirtual 229, 3) := by decide +kernel
theorem dX12_readsAll_166 : decode cX12_readsAll 166 = .ok (.ifCond .eq 10, 3) := by decide +kernel
theorem dX12_readsAll_169 : decode cX12_readsAll 169 = .ok (.aload_n 0, 1) := by decide +kernel
theorem dX12_readsAll_170 : decode cX12_readsAll 170 = .ok (.invokevirtual 345, 3) := by decide +kernel
theorem dX12_readsAll_173 : decode cX12_readsAll 173 = .ok (.goto 8, 3) := by decide +kernel
theorem dX12_readsAll_176 : decode cX12_readsAll 176 = .ok (.aload_n 0, 1) := by decide +kernel
theorem dX12_readsAll_177 : decode cX12_readsAll 177 = .ok (.iconst 1, 1) := by decide +kernel
theorem dX12_readsAll_178 : decode cX12_readsAll 178 = .ok (.invokevirtual 237, 3) := by decide +kernel
theorem dX12_readsAll_181 : decode cX12_readsAll 181 = .ok (.istore_n 1, 1) := by decide +kernel
theorem dX12_readsAll_182 : decode cX12_readsAll 182 = .ok (.iload_n 1, 1) := by decide +kernel
theorem dX12_readsAll_183 : decode cX12_readsAll 183 = .ok (.ifCond .ne 5, 3) := by decide +kernel
theorem dX12_readsAll_186 : decode cX12_readsAll 186 = .ok (.iconst 0, 1) := by decide +kernel
theorem dX12_readsAll_187 : decode cX12_readsAll 187 = .ok (.ireturn, 1) := by decide +kernel
theorem dX12_readsAll_188 : decode cX12_readsAll 188 = .ok (.goto (-121), 3) := by decide +kernel
theorem dX12_readsAll_191 : decode cX12_readsAll 191 = .ok (.iconst 1, 1) := by decide +kernel
theorem dX12_readsAll_192 : decode cX12_readsAll 192 = .ok (.ireturn, 1) := by decide +kernel
noncomputable def F_X12_readsAll_67 : Nat → Nat → m_M → Option (Int32 × m_M)
  | 0, _, _ => none
  | n + 1, v1, M =>
    x_gI 10 M v1 6 fun v2 =>
    if v2 = 0 then (
      some ((1 : Int32), M)
    ) else
    m_let (fun (v3 : Nat) (v4 : Int32) (M1 : m_M) =>
      if v4 = 0 then (
        some ((0 : Int32), M1)
      ) else
      F_X12_readsAll_67 n v3 M1
    ) fun (k181 : Nat → Int32 → m_M → Option (Int32 × m_M)) =>
    x_cV 10 M v1 (F_X12_isWord v1 (10793230 : Int64) M) fun v5 M2 =>
    if v5 = 0 then (
      x_cV 10 M2 v1 (F_X12_isWord v1 (43393 : Int64) M2) fun v6 M3 =>
      if v6 = 0 then (
        x_cV 10 M3 v1 (F_X12_isWord v1 (437159 : Int64) M3) fun v7 M4 =>
        if v7 = 0 then (
          x_cV 10 M4 v1 (F_X12_isWord v1 (456500 : Int64) M4) fun v8 M5 =>
          if v8 = 0 then (
            x_cV 10 M5 v1 (F_X12_isWord v1 (7593256863 : Int64) M5) fun v9 M6 =>
            if v9 = 0 then (
              x_cV 10 M6 v1 (F_X12_isWord v1 (1423796 : Int64) M6) fun v10 M7 =>
              if v10 = 0 then (
                x_cV 10 M7 v1 (F_X12_fails v1 (1 : Int32) M7) fun v11 M8 =>
                k181 v1 v11 M8
              ) else
              x_cV 10 M7 v1 (F_X12_readsBribe v1 M7) fun v12 M9 =>
              k181 v1 v12 M9
            ) else
            x_cV 10 M6 v1 (F_X12_readsSpeaker v1 M6) fun v13 M10 =>
            k181 v1 v13 M10
          ) else
          x_cV 10 M5 v1 (F_X12_readsWeek v1 M5) fun v14 M11 =>
          k181 v1 v14 M11
        ) else
        x_cV 10 M4 v1 (F_X12_readsVerb v1 M4) fun v15 M12 =>
        k181 v1 v15 M12
      ) else
      x_cV 10 M3 v1 (F_X12_readsBend v1 M3) fun v16 M13 =>
      k181 v1 v16 M13
    ) else
    x_cV 10 M2 v1 (F_X12_readsThing v1 M2) fun v17 M14 =>
    k181 v1 v17 M14
noncomputable def F_X12_readsAll (a0 : Nat) (M : m_M) : Option (Int32 × m_M) :=
  x_cV 10 M a0 (F_X12_plain a0 (1 : Int32) M) fun _ M1 =>
  x_pI 10 M1 a0 23 (0 : Int32) fun M2 =>
  x_pI 10 M2 a0 24 (0 : Int32) fun M3 =>
  x_pI 10 M3 a0 21 (1000 : Int32) fun M4 =>
  x_cV 10 M4 a0 (F_X12_starts a0 M4) fun _ M5 =>
  x_cV 10 M5 a0 (F_X12_needsWord a0 (235981828 : Int64) M5) fun v1 M6 =>
  if v1 = 0 then (
    some ((0 : Int32), M6)
  ) else
  x_cV 10 M6 a0 (F_X12_needsNumber a0 (2 : Int32) (4 : Int32) M6) fun v2 M7 =>
  if v2 = 0 then (
    some ((0 : Int32), M7)
  ) else
  x_gN 10 M7 a0 10 fun v3 =>
  x_gI 10 M7 a0 37 fun v4 =>
  x_sI 12 M7 v3 (8 : Int32) v4 fun M8 =>
  x_cV 10 M8 a0 (F_X12_closes a0 M8) fun v5 M9 =>
  if v5 = 0 then (
    some ((0 : Int32), M9)
  ) else
  F_X12_readsAll_67 m_FU a0 M9
set_option maxHeartbeats 4000000 in
theorem L_X12_readsAll_67 {X : j_X} {Φ : Option Value → m_M → Prop} (C : j_C X yX12_readsAll cX12_readsAll 2 (some .boolean) 6 0 0 Φ) : ∀ (n : Nat) (v1 : Nat) (M : m_M), m_ok e_I Φ (F_X12_readsAll_67 n v1 M) → j_J X 2 67 [some (.ref v1), none] [] (0, 0) M := by
  have C0 := C.1
  intro n
  induction n with
  | zero => intro v1 M h; exact False.elim h
  | succ n ih =>
    intro v1 M h
    rw [F_X12_readsAll_67] at h
    refine j_aload_n C0 (pc := 67) dX12_readsAll_67 rfl ?_
    refine X_gI C0 (pc := 68) f_OM_188_10 rfl dX12_readsAll_68 h (fun v2 h => ?_)
    refine j_if_eq C0 (pc := 71) (tgt := 191) dX12_readsAll_71 (by decide) (fun hc => ?_) (fun hc => ?_)
    · replace h := (X_if h).1 hc
      refine j_iconst C0 (pc := 191) dX12_readsAll_191 (v := (1 : Int32)) (by decide) ?_
      exact j_zret C rfl (by decide) h dX12_readsAll_192 (by decide)
    · replace h := (X_if h).2 hc
      refine X_join (fun (kj : Nat → Int32 → m_M → Option (Int32 × m_M)) => ∀ (p0 : Nat) (p1 : Int32) (M : m_M), m_ok e_I Φ (kj p0 p1 M) → j_J X 2 181 [some (.ref p0), none] [.int p1] (0, 0) M) h (fun v3 v4 M1 h => ?_) (fun k181 hk181 h => ?_)
      · refine j_istore_n C0 (pc := 181) dX12_readsAll_181 (Nat.le_of_ble_eq_true rfl) ?_
        show j_J X 2 182 [some (.ref v3), some (.int v4)] [] (0, 0) M1
        refine j_iload_n C0 (pc := 182) dX12_readsAll_182 rfl ?_
        refine j_if_ne C0 (pc := 183) (tgt := 188) dX12_readsAll_183 (by decide) (fun hc => ?_) (fun hc => ?_)
        · replace h := (X_if h).2 hc
          refine j_goto C0 (pc := 188) (tgt := 67) dX12_readsAll_188 (by decide) ?_
          exact j_J.wq (ih v3 M1 h) (And.intro rfl (trivial))
        · replace h := (X_if h).1 hc
          refine j_iconst C0 (pc := 186) dX12_readsAll_186 (v := (0 : Int32)) (by decide) ?_
          exact j_zret C rfl (by decide) h dX12_readsAll_187 (by decide)
      · refine j_aload_n C0 (pc := 74) dX12_readsAll_74 rfl ?_
        refine j_ldc2 C0 (pc := 75) (v := (10793230 : Int64)) (j_c8 127 (by decide +kernel)) dX12_readsAll_75 ?_
        refine X_cV C0 (pc := 78) (e' := e_I) (as := [.long (10793230 : Int64)]) (rest := []) (s' := fun w => .int w :: []) (g' := (0, 0)) v_OM_229_10 (fun Ψ hΨ => K_X12_isWord v1 (10793230 : Int64) M Ψ hΨ) rfl rfl (fun _ => rfl) (by decide) (by decide) rfl (Nat.le_of_ble_eq_true rfl) dX12_readsAll_78 h (fun v5 M2 h => ?_)
        refine j_if_eq C0 (pc := 81) (tgt := 91) dX12_readsAll_81 (by decide) (fun hc => ?_) (fun hc => ?_)
        · replace h := (X_if h).1 hc
          refine j_aload_n C0 (pc := 91) dX12_readsAll_91 rfl ?_
          refine j_ldc2 C0 (pc := 92) (v := (43393 : Int64)) (j_c8 141 (by decide +kernel)) dX12_readsAll_92 ?_
          refine X_cV C0 (pc := 95) (e' := e_I) (as := [.long (43393 : Int64)]) (rest := []) (s' := fun w => .int w :: []) (g' := (0, 0)) v_OM_229_10 (fun Ψ hΨ => K_X12_isWord v1 (43393 : Int64) M2 Ψ hΨ) rfl rfl (fun _ => rfl) (by decide) (by decide) rfl (Nat.le_of_ble_eq_true rfl) dX12_readsAll_95 h (fun v6 M3 h => ?_)
          refine j_if_eq C0 (pc := 98) (tgt := 108) dX12_readsAll_98 (by decide) (fun hc => ?_) (fun hc => ?_)
          · replace h := (X_if h).1 hc
            refine j_aload_n C0 (pc := 108) dX12_readsAll_108 rfl ?_
            refine j_ldc2 C0 (pc := 109) (v := (437159 : Int64)) (j_c8 142 (by decide +kernel)) dX12_readsAll_109 ?_
            refine X_cV C0 (pc := 112) (e' := e_I) (as := [.long (437159 : Int64)]) (rest := []) (s' := fun w => .int w :: []) (g' := (0, 0)) v_OM_229_10 (fun Ψ hΨ => K_X12_isWord v1 (437159 : Int64) M3 Ψ hΨ) rfl rfl (fun _ => rfl) (by decide) (by decide) rfl (Nat.le_of_ble_eq_true rfl) dX12_readsAll_112 h (fun v7 M4 h => ?_)
            refine j_if_eq C0 (pc := 115) (tgt := 125) dX12_readsAll_115 (by decide) (fun hc => ?_) (fun hc => ?_)
            · replace h := (X_if h).1 hc
              refine j_aload_n C0 (pc := 125) dX12_readsAll_125 rfl ?_
              refine j_ldc2 C0 (pc := 126) (v := (456500 : Int64)) (j_c8 143 (by decide +kernel)) dX12_readsAll_126 ?_
              refine X_cV C0 (pc := 129) (e' := e_I) (as := [.long (456500 : Int64)]) (rest := []) (s' := fun w => .int w :: []) (g' := (0, 0)) v_OM_229_10 (fun Ψ hΨ => K_X12_isWord v1 (456500 : Int64) M4 Ψ hΨ) rfl rfl (fun _ => rfl) (by decide) (by decide) rfl (Nat.le_of_ble_eq_true rfl) dX12_readsAll_129 h (fun v8 M5 h => ?_)
              refine j_if_eq C0 (pc := 132) (tgt := 142) dX12_readsAll_132 (by decide) (fun hc => ?_) (fun hc => ?_)
              · replace h := (X_if h).1 hc
                refine j_aload_n C0 (pc := 142) dX12_readsAll_142 rfl ?_
                refine j_ldc2 C0 (pc := 143) (v := (7593256863 : Int64)) (j_c8 145 (by decide +kernel)) dX12_readsAll_143 ?_
                refine X_cV C0 (pc := 146) (e' := e_I) (as := [.long (7593256863 : Int64)]) (rest := []) (s' := fun w => .int w :: []) (g' := (0, 0)) v_OM_229_10 (fun Ψ hΨ => K_X12_isWord v1 (7593256863 : Int64) M5 Ψ hΨ) rfl rfl (fun _ => rfl) (by decide) (by decide) rfl (Nat.le_of_ble_eq_true rfl) dX12_readsAll_146 h (fun v9 M6 h => ?_)
                refine j_if_eq C0 (pc := 149) (tgt := 159) dX12_readsAll_149 (by decide) (fun hc => ?_) (fun hc => ?_)
                · replace h := (X_if h).1 hc
                  refine j_aload_n C0 (pc := 159) dX12_readsAll_159 rfl ?_
                  refine j_ldc2 C0 (pc := 160) (v := (1423796 : Int64)) (j_c8 147 (by decide +kernel)) dX12_readsAll_160 ?_
                  refine X_cV C0 (pc := 163) (e' := e_I) (as := [.long (1423796 : Int64)]) (rest := []) (s' := fun w => .int w :: []) (g' := (0, 0)) v_OM_229_10 (fun Ψ hΨ => K_X12_isWord v1 (1423796 : Int64) M6 Ψ hΨ) rfl rfl (fun _ => rfl) (by decide) (by decide) rfl (Nat.le_of_ble_eq_true rfl) dX12_readsAll_163 h (fun v10 M7 h => ?_)
                  refine j_if_eq C0 (pc := 166) (tgt := 176) dX12_readsAll_166 (by decide) (fun hc => ?_) (fun hc => ?_)
                  · replace h := (X_if h).1 hc
                    refine j_aload_n C0 (pc := 176) dX12_readsAll_176 rfl ?_
                    refine j_iconst C0 (pc := 177) dX12_readsAll_177 (v := (1 : Int32)) (by decide) ?_
                    refine X_cV C0 (pc := 178) (e' := e_I) (as := [.int (1 : Int32)]) (rest := []) (s' := fun w => .int w :: []) (g' := (0, 0)) v_OM_237_10 (fun Ψ hΨ => K_X12_fails v1 (1 : Int32) M7 Ψ hΨ) rfl rfl (fun _ => rfl) (by decide) (by decide) rfl (Nat.le_of_ble_eq_true rfl) dX12_readsAll_178 h (fun v11 M8 h => ?_)
                    exact j_J.wq (hk181 v1 v11 M8 h) (And.intro rfl (trivial))
                  · replace h := (X_if h).2 hc
                    refine j_aload_n C0 (pc := 169) dX12_readsAll_169 rfl ?_
                    refine X_cV C0 (pc := 170) (e' := e_I) (as := []) (rest := []) (s' := fun w => .int w :: []) (g' := (0, 0)) v_OM_345_10 (fun Ψ hΨ => K_X12_readsBribe v1 M7 Ψ hΨ) rfl rfl (fun _ => rfl) (by decide) (by decide) rfl (Nat.le_of_ble_eq_true rfl) dX12_readsAll_170 h (fun v12 M9 h => ?_)
                    refine j_goto C0 (pc := 173) (tgt := 181) dX12_readsAll_173 (by decide) ?_
                    exact j_J.wq (hk181 v1 v12 M9 h) (And.intro rfl (trivial))
                · replace h := (X_if h).2 hc
                  refine j_aload_n C0 (pc := 152) dX12_readsAll_152 rfl ?_
                  refine X_cV C0 (pc := 153) (e' := e_I) (as := []) (rest := []) (s' := fun w => .int w :: []) (g' := (0, 0)) v_OM_342_10 (fun Ψ hΨ => K_X12_readsSpeaker v1 M6 Ψ hΨ) rfl rfl (fun _ => rfl) (by decide) (by decide) rfl (Nat.le_of_ble_eq_true rfl) dX12_readsAll_153 h (fun v13 M10 h => ?_)
                  refine j_goto C0 (pc := 156) (tgt := 181) dX12_readsAll_156 (by decide) ?_
                  exact j_J.wq (hk181 v1 v13 M10 h) (And.intro rfl (trivial))
              · replace h := (X_if h).2 hc
                refine j_aload_n C0 (pc := 135) dX12_readsAll_135 rfl ?_
                refine X_cV C0 (pc := 136) (e' := e_I) (as := []) (rest := []) (s' := fun w => .int w :: []) (g' := (0, 0)) v_OM_339_10 (fun Ψ hΨ => K_X12_readsWeek v1 M5 Ψ hΨ) rfl rfl (fun _ => rfl) (by decide) (by decide) rfl (Nat.le_of_ble_eq_true rfl) dX12_readsAll_136 h (fun v14 M11 h => ?_)
                refine j_goto C0 (pc := 139) (tgt := 181) dX12_readsAll_139 (by decide) ?_
                exact j_J.wq (hk181 v1 v14 M11 h) (And.intro rfl (trivial))
            · replace h := (X_if h).2 hc
              refine j_aload_n C0 (pc := 118) dX12_readsAll_118 rfl ?_
              refine X_cV C0 (pc := 119) (e' := e_I) (as := []) (rest := []) (s' := fun w => .int w :: []) (g' := (0, 0)) v_OM_336_10 (fun Ψ hΨ => K_X12_readsVerb v1 M4 Ψ hΨ) rfl rfl (fun _ => rfl) (by decide) (by decide) rfl (Nat.le_of_ble_eq_true rfl) dX12_readsAll_119 h (fun v15 M12 h => ?_)
              refine j_goto C0 (pc := 122) (tgt := 181) dX12_readsAll_122 (by decide) ?_
              exact j_J.wq (hk181 v1 v15 M12 h) (And.intro rfl (trivial))
          · replace h := (X_if h).2 hc
            refine j_aload_n C0 (pc := 101) dX12_readsAll_101 rfl ?_
            refine X_cV C0 (pc := 102) (e' := e_I) (as := []) (rest := []) (s' := fun w => .int w :: []) (g' := (0, 0)) v_OM_333_10 (fun Ψ hΨ => K_X12_readsBend v1 M3 Ψ hΨ) rfl rfl (fun _ => rfl) (by decide) (by decide) rfl (Nat.le_of_ble_eq_true rfl) dX12_readsAll_102 h (fun v16 M13 h => ?_)
            refine j_goto C0 (pc := 105) (tgt := 181) dX12_readsAll_105 (by decide) ?_
            exact j_J.wq (hk181 v1 v16 M13 h) (And.intro rfl (trivial))
        · replace h := (X_if h).2 hc
          refine j_aload_n C0 (pc := 84) dX12_readsAll_84 rfl ?_
          refine X_cV C0 (pc := 85) (e' := e_I) (as := []) (rest := []) (s' := fun w => .int w :: []) (g' := (0, 0)) v_OM_330_10 (fun Ψ hΨ => K_X12_readsThing v1 M2 Ψ hΨ) rfl rfl (fun _ => rfl) (by decide) (by decide) rfl (Nat.le_of_ble_eq_true rfl) dX12_readsAll_85 h (fun v17 M14 h => ?_)
          refine j_goto C0 (pc := 88) (tgt := 181) dX12_readsAll_88 (by decide) ?_
          exact j_J.wq (hk181 v1 v17 M14 h) (And.intro rfl (trivial))
set_option maxHeartbeats 4000000 in
theorem K_X12_readsAll (a0 : Nat) (M : m_M) (Φ : Option Value → m_M → Prop) (h : m_ok e_I Φ (F_X12_readsAll a0 M)) : j_Ct yX12_readsAll cX12_readsAll 2 (some .boolean) 6 0 0 [.ref a0] M Φ := by
  refine j_Ct.of (by decide +kernel) (Nat.le_of_ble_eq_true rfl) fun X C => ?_
  have C0 := C.1
  show j_J X 2 0 [some (.ref a0), none] [] (0, 0) M
  unfold F_X12_readsAll at h
  refine j_aload_n C0 (pc := 0) dX12_readsAll_0 rfl ?_
  refine j_iconst C0 (pc := 1) dX12_readsAll_1 (v := (1 : Int32)) (by decide) ?_
  refine X_cV C0 (pc := 2) (e' := e_V) (as := [.int (1 : Int32)]) (rest := []) (s' := fun _ => []) (g' := (0, 0)) v_OM_156_10 (fun Ψ hΨ => K_X12_plain a0 (1 : Int32) M Ψ hΨ) rfl rfl (fun _ => rfl) (by decide) (by decide) rfl (Nat.le_of_ble_eq_true rfl) dX12_readsAll_2 h (fun _ M1 h => ?_)
  refine j_aload_n C0 (pc := 5) dX12_readsAll_5 rfl ?_
  refine j_iconst C0 (pc := 6) dX12_readsAll_6 (v := (0 : Int32)) (by decide) ?_
  refine X_pC C0 (pc := 7) f_OM_318_10 (by decide) (by decide) rfl dX12_readsAll_7 h (fun M2 h => ?_)
  refine j_aload_n C0 (pc := 10) dX12_readsAll_10 rfl ?_
  refine j_iconst C0 (pc := 11) dX12_readsAll_11 (v := (0 : Int32)) (by decide) ?_
  refine X_pC C0 (pc := 12) f_OM_324_10 (by decide) (by decide) rfl dX12_readsAll_12 h (fun M3 h => ?_)
  refine j_aload_n C0 (pc := 15) dX12_readsAll_15 rfl ?_
  refine j_sipush C0 (pc := 16) dX12_readsAll_16 (v := (1000 : Int32)) (by decide) ?_
  refine X_pI C0 (pc := 19) f_OM_202_10 rfl rfl dX12_readsAll_19 h (fun M4 h => ?_)
  refine j_aload_n C0 (pc := 22) dX12_readsAll_22 rfl ?_
  refine X_cV C0 (pc := 23) (e' := e_V) (as := []) (rest := []) (s' := fun _ => []) (g' := (0, 0)) v_OM_327_10 (fun Ψ hΨ => K_X12_starts a0 M4 Ψ hΨ) rfl rfl (fun _ => rfl) (by decide) (by decide) rfl (Nat.le_of_ble_eq_true rfl) dX12_readsAll_23 h (fun _ M5 h => ?_)
  refine j_aload_n C0 (pc := 26) dX12_readsAll_26 rfl ?_
  refine j_ldc2 C0 (pc := 27) (v := (235981828 : Int64)) (j_c8 99 (by decide +kernel)) dX12_readsAll_27 ?_
  refine X_cV C0 (pc := 30) (e' := e_I) (as := [.long (235981828 : Int64)]) (rest := []) (s' := fun w => .int w :: []) (g' := (0, 0)) v_OM_302_10 (fun Ψ hΨ => K_X12_needsWord a0 (235981828 : Int64) M5 Ψ hΨ) rfl rfl (fun _ => rfl) (by decide) (by decide) rfl (Nat.le_of_ble_eq_true rfl) dX12_readsAll_30 h (fun v1 M6 h => ?_)
  refine j_if_eq C0 (pc := 33) (tgt := 45) dX12_readsAll_33 (by decide) (fun hc => ?_) (fun hc => ?_)
  · replace h := (X_if h).1 hc
    refine j_iconst C0 (pc := 45) dX12_readsAll_45 (v := (0 : Int32)) (by decide) ?_
    exact j_zret C rfl (by decide) h dX12_readsAll_46 (by decide)
  · replace h := (X_if h).2 hc
    refine j_aload_n C0 (pc := 36) dX12_readsAll_36 rfl ?_
    refine j_iconst C0 (pc := 37) dX12_readsAll_37 (v := (2 : Int32)) (by decide) ?_
    refine j_iconst C0 (pc := 38) dX12_readsAll_38 (v := (4 : Int32)) (by decide) ?_
    refine X_cV C0 (pc := 39) (e' := e_I) (as := [.int (2 : Int32), .int (4 : Int32)]) (rest := []) (s' := fun w => .int w :: []) (g' := (0, 0)) v_OM_305_10 (fun Ψ hΨ => K_X12_needsNumber a0 (2 : Int32) (4 : Int32) M6 Ψ hΨ) rfl rfl (fun _ => rfl) (by decide) (by decide) rfl (Nat.le_of_ble_eq_true rfl) dX12_readsAll_39 h (fun v2 M7 h => ?_)
    refine j_if_ne C0 (pc := 42) (tgt := 47) dX12_readsAll_42 (by decide) (fun hc => ?_) (fun hc => ?_)
    · replace h := (X_if h).2 hc
      refine j_aload_n C0 (pc := 47) dX12_readsAll_47 rfl ?_
      refine X_gN C0 (pc := 48) f_OM_13_10 rfl dX12_readsAll_48 h (fun v3 h => ?_)
      refine j_bipush C0 (pc := 51) dX12_readsAll_51 (v := (8 : Int32)) (by decide) ?_
      refine j_aload_n C0 (pc := 53) dX12_readsAll_53 rfl ?_
      refine X_gI C0 (pc := 54) f_OM_283_10 rfl dX12_readsAll_54 h (fun v4 h => ?_)
      refine X_iast C0 (pc := 57) dX12_readsAll_57 h (fun M8 h => ?_)
      refine j_aload_n C0 (pc := 58) dX12_readsAll_58 rfl ?_
      refine X_cV C0 (pc := 59) (e' := e_I) (as := []) (rest := []) (s' := fun w => .int w :: []) (g' := (0, 0)) v_OM_309_10 (fun Ψ hΨ => K_X12_closes a0 M8 Ψ hΨ) rfl rfl (fun _ => rfl) (by decide) (by decide) rfl (Nat.le_of_ble_eq_true rfl) dX12_readsAll_59 h (fun v5 M9 h => ?_)
      refine j_if_ne C0 (pc := 62) (tgt := 67) dX12_readsAll_62 (by decide) (fun hc => ?_) (fun hc => ?_)
      · replace h := (X_if h).2 hc
        exact j_J.wq (L_X12_readsAll_67 C m_FU a0 M9 h) (And.intro rfl (trivial))
      · replace h := (X_if h).1 hc
        refine j_iconst C0 (pc := 65) dX12_readsAll_65 (v := (0 : Int32)) (by decide) ?_
        exact j_zret C rfl (by decide) h dX12_readsAll_66 (by decide)
    · replace h := (X_if h).1 hc
      refine j_iconst C0 (pc := 45) dX12_readsAll_45 (v := (0 : Int32)) (by decide) ?_
      exact j_zret C rfl (by decide) h dX12_readsAll_46 (by decide)
theorem dX12_moves_0 : decode cX12_moves 0 = .ok (.iconst 0, 1) := by decide +kernel
theorem dX12_moves_1 : decode cX12_moves 1 = .ok (.istore_n 2, 1) := by decide +kernel
theorem dX12_moves_2 : decode cX12_moves 2 = .ok (.iload_n 2, 1) := by decide +kernel
theorem dX12_moves_3 : decode cX12_moves 3 = .ok (.iload_n 1, 1) := by decide +kernel
theorem dX12_moves_4 : decode cX12_moves 4 = .ok (.if_icmp .ge 17, 3) := by decide +kernel
theorem dX12_moves_7 : decode cX12_moves 7 = .ok (.aload_n 0, 1) := by decide +kernel
theorem dX12_moves_8 : decode cX12_moves 8 = .ok (.iload_n 2, 1) := by decide +kernel
theorem dX12_moves_9 : decode cX12_moves 9 = .ok (.aload_n 0, 1) := by decide +kernel
theorem dX12_moves_10 : decode cX12_moves 10 = .ok (.iload_n 1, 1) := by decide +kernel
theorem dX12_moves_11 : decode cX12_moves 11 = .ok (.iload_n 2, 1) := by decide +kernel
theorem dX12_moves_12 : decode cX12_moves 12 = .ok (.iadd, 1) := by decide +kernel
theorem dX12_moves_13 : decode cX12_moves 13 = .ok (.iaload, 1) := by decide +kernel
theorem dX12_moves_14 : decode cX12_moves 14 = .ok (.iastore, 1) := by decide +kernel
theorem dX12_moves_15 : decode cX12_moves 15 = .ok (.iinc 2 1, 3) := by decide +kernel
theorem dX12_moves_18 : decode cX12_moves 18 = .ok (.goto (-16), 3) := by decide +kernel
theorem dX12_moves_21 : decode cX12_moves 21 = .ok (.return_, 1) := by decide +kernel
noncomputable def F_X12_moves_2 : Nat → Nat → Int32 → Int32 → m_M → Option (Unit × m_M)
  | 0, _, _, _, _ => none
  | n + 1, v1, v2, v3, M =>
    if v2 ≤ v3 then (
      some ((), M)
    ) else
    x_aI 12 M v1 (v2 + v3) fun v4 =>
    x_sI 12 M v1 v3 v4 fun M1 =>
    m_let (v3 + (1 : Int32)) fun v5 =>
    F_X12_moves_2 n v1 v2 v5 M1
noncomputable def F_X12_moves (a1 : Nat) (a2 : Int32) (M : m_M) : Option (Unit × m_M) :=
  F_X12_moves_2 m_FU a1 a2 (0 : Int32) M
set_option maxHeartbeats 4000000 in
theorem L_X12_moves_2 {X : j_X} {Φ : Option Value → m_M → Prop} (C : j_C X yX12_moves cX12_moves 3 none 1 0 0 Φ) : ∀ (n : Nat) (v1 : Nat) (v2 : Int32) (v3 : Int32) (M : m_M), m_ok e_V Φ (F_X12_moves_2 n v1 v2 v3 M) → j_J X 3 2 [some (.ref v1), some (.int v2), some (.int v3)] [] (0, 0) M := by
  have C0 := C.1
  intro n
  induction n with
  | zero => intro v1 v2 v3 M h; exact False.elim h
  | succ n ih =>
    intro v1 v2 v3 M h
    rw [F_X12_moves_2] at h
    refine j_iload_n C0 (pc := 2) dX12_moves_2 rfl ?_
    refine j_iload_n C0 (pc := 3) dX12_moves_3 rfl ?_
    refine j_icmp_ge C0 (pc := 4) (tgt := 21) dX12_moves_4 (by decide) (fun hc => ?_) (fun hc => ?_)
    · replace h := (X_if h).1 hc
      exact j_vret C rfl h dX12_moves_21 (by decide)
    · replace h := (X_if h).2 hc
      refine j_aload_n C0 (pc := 7) dX12_moves_7 rfl ?_
      refine j_iload_n C0 (pc := 8) dX12_moves_8 rfl ?_
      refine j_aload_n C0 (pc := 9) dX12_moves_9 rfl ?_
      refine j_iload_n C0 (pc := 10) dX12_moves_10 rfl ?_
      refine j_iload_n C0 (pc := 11) dX12_moves_11 rfl ?_
      refine j_iadd C0 (pc := 12) dX12_moves_12 ?_
      refine X_iald C0 (pc := 13) dX12_moves_13 h (fun v4 h => ?_)
      refine X_iast C0 (pc := 14) dX12_moves_14 h (fun M1 h => ?_)
      refine j_iinc C0 (pc := 15) dX12_moves_15 (v := v3 + (1 : Int32)) rfl (Nat.le_of_ble_eq_true rfl) (by rfl) ?_
      refine X_let (G := fun w => j_J X 3 18 [some (.ref v1), some (.int v2), some (.int w)] [] (0, 0) M1) h (fun v5 h => ?_)
      refine j_goto C0 (pc := 18) (tgt := 2) dX12_moves_18 (by decide) ?_
      exact j_J.wq (ih v1 v2 v5 M1 h) (And.intro rfl (And.intro rfl (And.intro rfl (trivial))))
set_option maxHeartbeats 4000000 in
theorem K_X12_moves (a1 : Nat) (a2 : Int32) (M : m_M) (Φ : Option Value → m_M → Prop) (h : m_ok e_V Φ (F_X12_moves a1 a2 M)) : j_Ct yX12_moves cX12_moves 3 none 1 0 0 [.ref a1, .int a2] M Φ := by
  refine j_Ct.of (by decide +kernel) (Nat.le_of_ble_eq_true rfl) fun X C => ?_
  have C0 := C.1
  show j_J X 3 0 [some (.ref a1), some (.int a2), none] [] (0, 0) M
  unfold F_X12_moves at h
  refine j_iconst C0 (pc := 0) dX12_moves_0 (v := (0 : Int32)) (by decide) ?_
  refine j_istore_n C0 (pc := 1) dX12_moves_1 (Nat.le_of_ble_eq_true rfl) ?_
  show j_J X 3 2 [some (.ref a1), some (.int a2), some (.int (0 : Int32))] [] (0, 0) M
  exact j_J.wq (L_X12_moves_2 C m_FU a1 a2 (0 : Int32) M h) (And.intro rfl (And.intro rfl (And.intro rfl (trivial))))
theorem dX12_movesNames_0 : decode cX12_movesNames 0 = .ok (.iconst 0, 1) := by decide +kernel
theorem dX12_movesNames_1 : decode cX12_movesNames 1 = .ok (.istore_n 2, 1) := by decide +kernel
theorem dX12_movesNames_2 : decode cX12_movesNames 2 = .ok (.iload_n 2, 1) := by decide +kernel
theorem dX12_movesNames_3 : decode cX12_movesNames 3 = .ok (.iload_n 1, 1) := by decide +kernel
theorem dX12_movesNames_4 : decode cX12_movesNames 4 = .ok (.if_icmp .ge 17, 3) := by decide +kernel
theorem dX12_movesNames_7 : decode cX12_movesNames 7 = .ok (.aload_n 0, 1) := by decide +kernel
theorem dX12_movesNames_8 : decode cX12_movesNames 8 = .ok (.iload_n 2, 1) := by decide +kernel
theorem dX12_movesNames_9 : decode cX12_movesNames 9 = .ok (.aload_n 0, 1) := by decide +kernel
theorem dX12_movesNames_10 : decode cX12_movesNames 10 = .ok (.iload_n 1, 1) := by decide +kernel
theorem dX12_movesNames_11 : decode cX12_movesNames 11 = .ok (.iload_n 2, 1) := by decide +kernel
theorem dX12_movesNames_12 : decode cX12_movesNames 12 = .ok (.iadd, 1) := by decide +kernel
theorem dX12_movesNames_13 : decode cX12_movesNames 13 = .ok (.laload, 1) := by decide +kernel
theorem dX12_movesNames_14 : decode cX12_movesNames 14 = .ok (.lastore, 1) := by decide +kernel
theorem dX12_movesNames_15 : decode cX12_movesNames 15 = .ok (.iinc 2 1, 3) := by decide +kernel
theorem dX12_movesNames_18 : decode cX12_movesNames 18 = .ok (.goto (-16), 3) := by decide +kernel
theorem dX12_movesNames_21 : decode cX12_movesNames 21 = .ok (.return_, 1) := by decide +kernel
noncomputable def F_X12_movesNames_2 : Nat → Nat → Int32 → Int32 → m_M → Option (Unit × m_M)
  | 0, _, _, _, _ => none
  | n + 1, v1, v2, v3, M =>
    if v2 ≤ v3 then (
      some ((), M)
    ) else
    x_aL M v1 (v2 + v3) fun v4 =>
    x_sL M v1 v3 v4 fun M1 =>
    m_let (v3 + (1 : Int32)) fun v5 =>
    F_X12_movesNames_2 n v1 v2 v5 M1
noncomputable def F_X12_movesNames (a1 : Nat) (a2 : Int32) (M : m_M) : Option (Unit × m_M) :=
  F_X12_movesNames_2 m_FU a1 a2 (0 : Int32) M
set_option maxHeartbeats 4000000 in
theorem L_X12_movesNames_2 {X : j_X} {Φ : Option Value → m_M → Prop} (C : j_C X yX12_movesNames cX12_movesNames 3 none 1 0 0 Φ) : ∀ (n : Nat) (v1 : Nat) (v2 : Int32) (v3 : Int32) (M : m_M), m_ok e_V Φ (F_X12_movesNames_2 n v1 v2 v3 M) → j_J X 3 2 [some (.ref v1), some (.int v2), some (.int v3)] [] (0, 0) M := by
  have C0 := C.1
  intro n
  induction n with
  | zero => intro v1 v2 v3 M h; exact False.elim h
  | succ n ih =>
    intro v1 v2 v3 M h
    rw [F_X12_movesNames_2] at h
    refine j_iload_n C0 (pc := 2) dX12_movesNames_2 rfl ?_
    refine j_iload_n C0 (pc := 3) dX12_movesNames_3 rfl ?_
    refine j_icmp_ge C0 (pc := 4) (tgt := 21) dX12_movesNames_4 (by decide) (fun hc => ?_) (fun hc => ?_)
    · replace h := (X_if h).1 hc
      exact j_vret C rfl h dX12_movesNames_21 (by decide)
    · replace h := (X_if h).2 hc
      refine j_aload_n C0 (pc := 7) dX12_movesNames_7 rfl ?_
      refine j_iload_n C0 (pc := 8) dX12_movesNames_8 rfl ?_
      refine j_aload_n C0 (pc := 9) dX12_movesNames_9 rfl ?_
      refine j_iload_n C0 (pc := 10) dX12_movesNames_10 rfl ?_
      refine j_iload_n C0 (pc := 11) dX12_movesNames_11 rfl ?_
      refine j_iadd C0 (pc := 12) dX12_movesNames_12 ?_
      refine X_lald C0 (pc := 13) dX12_movesNames_13 h (fun v4 h => ?_)
      refine X_last C0 (pc := 14) dX12_movesNames_14 h (fun M1 h => ?_)
      refine j_iinc C0 (pc := 15) dX12_movesNames_15 (v := v3 + (1 : Int32)) rfl (Nat.le_of_ble_eq_true rfl) (by rfl) ?_
      refine X_let (G := fun w => j_J X 3 18 [some (.ref v1), some (.int v2), some (.int w)] [] (0, 0) M1) h (fun v5 h => ?_)
      refine j_goto C0 (pc := 18) (tgt := 2) dX12_movesNames_18 (by decide) ?_
      exact j_J.wq (ih v1 v2 v5 M1 h) (And.intro rfl (And.intro rfl (And.intro rfl (trivial))))
set_option maxHeartbeats 4000000 in
theorem K_X12_movesNames (a1 : Nat) (a2 : Int32) (M : m_M) (Φ : Option Value → m_M → Prop) (h : m_ok e_V Φ (F_X12_movesNames a1 a2 M)) : j_Ct yX12_movesNames cX12_movesNames 3 none 1 0 0 [.ref a1, .int a2] M Φ := by
  refine j_Ct.of (by decide +kernel) (Nat.le_of_ble_eq_true rfl) fun X C => ?_
  have C0 := C.1
  show j_J X 3 0 [some (.ref a1), some (.int a2), none] [] (0, 0) M
  unfold F_X12_movesNames at h
  refine j_iconst C0 (pc := 0) dX12_movesNames_0 (v := (0 : Int32)) (by decide) ?_
  refine j_istore_n C0 (pc := 1) dX12_movesNames_1 (Nat.le_of_ble_eq_true rfl) ?_
  show j_J X 3 2 [some (.ref a1), some (.int a2), some (.int (0 : Int32))] [] (0, 0) M
  exact j_J.wq (L_X12_movesNames_2 C m_FU a1 a2 (0 : Int32) M h) (And.intro rfl (And.intro rfl (And.intro rfl (trivial))))
theorem dX12_lays_0 : decode cX12_lays 0 = .ok (.aload_n 0, 1) := by decide +kernel
theorem dX12_lays_1 : decode cX12_lays 1 = .ok (.getfield 13, 3) := by decide +kernel
theorem dX12_lays_4 : decode cX12_lays 4 = .ok (.bipush 8, 2) := by decide +kernel
theorem dX12_lays_6 : decode cX12_lays 6 = .ok (.invokestatic 348, 3) := by decide +kernel
theorem dX12_lays_9 : decode cX12_lays 9 = .ok (.aload_n 0, 1) := by decide +kernel
theorem dX12_lays_10 : decode cX12_lays 10 = .ok (.getfield 16, 3) := by decide +kernel
theorem dX12_lays_13 : decode cX12_lays 13 = .ok (.iconst 5, 1) := by decide +kernel
theorem dX12_lays_14 : decode cX12_lays 14 = .ok (.invokestatic 352, 3) := by decide +kernel
theorem dX12_lays_17 : decode cX12_lays 17 = .ok (.aload_n 0, 1) := by decide +kernel
theorem dX12_lays_18 : decode cX12_lays 18 = .ok (.getfield 20, 3) := by decide +kernel
theorem dX12_lays_21 : decode cX12_lays 21 = .ok (.iconst 3, 1) := by decide +kernel
theorem dX12_lays_22 : decode cX12_lays 22 = .ok (.invokestatic 352, 3) := by decide +kernel
theorem dX12_lays_25 : decode cX12_lays 25 = .ok (.aload_n 0, 1) := by decide +kernel
theorem dX12_lays_26 : decode cX12_lays 26 = .ok (.getfield 23, 3) := by decide +kernel
theorem dX12_lays_29 : decode cX12_lays 29 = .ok (.bipush 6, 2) := by decide +kernel
theorem dX12_lays_31 : decode cX12_lays 31 = .ok (.invokestatic 352, 3) := by decide +kernel
theorem dX12_lays_34 : decode cX12_lays 34 = .ok (.aload_n 0, 1) := by decide +kernel
theorem dX12_lays_35 : decode cX12_lays 35 = .ok (.getfield 29, 3) := by decide +kernel
theorem dX12_lays_38 : decode cX12_lays 38 = .ok (.iconst 5, 1) := by decide +kernel
theorem dX12_lays_39 : decode cX12_lays 39 = .ok (.invokestatic 348, 3) := by decide +kernel
theorem dX12_lays_42 : decode cX12_lays 42 = .ok (.aload_n 0, 1) := by decide +kernel
theorem dX12_lays_43 : decode cX12_lays 43 = .ok (.getfield 32, 3) := by decide +kernel
theorem dX12_lays_46 : decode cX12_lays 46 = .ok (.bipush 7, 2) := by decide +kernel
theorem dX12_lays_48 : decode cX12_lays 48 = .ok (.invokestatic 348, 3) := by decide +kernel
theorem dX12_lays_51 : decode cX12_lays 51 = .ok (.aload_n 0, 1) := by decide +kernel
theorem dX12_lays_52 : decode cX12_lays 52 = .ok (.getfield 35, 3) := by decide +kernel
theorem dX12_lays_55 : decode cX12_lays 55 = .ok (.bipush 18, 2) := by decide +kernel
theorem dX12_lays_57 : decode cX12_lays 57 = .ok (.invokestatic 348, 3) := by decide +kernel
theorem dX12_lays_60 : decode cX12_lays 60 = .ok (.aload_n 0, 1) := by decide +kernel
theorem dX12_lays_61 : decode cX12_lays 61 = .ok (.getfield 44, 3) := by decide +kernel
theorem dX12_lays_64 : decode cX12_lays 64 = .ok (.sipush 1000, 3) := by decide +kernel
theorem dX12_lays_67 : decode cX12_lays 67 = .ok (.invokestatic 348, 3) := by decide +kernel
theorem dX12_lays_70 : decode cX12_lays 70 = .ok (.iconst 0, 1) := by decide +kernel
theorem dX12_lays_71 : decode cX12_lays 71 = .ok (.istore_n 1, 1) := by decide +kernel
theorem dX12_lays_72 : decode cX12_lays 72 = .ok (.iload_n 1, 1) := by decide +kernel
theorem dX12_lays_73 : decode cX12_lays 73 = .ok (.bipush 9, 2) := by decide +kernel
theorem dX12_lays_75 : decode cX12_lays 75 = .ok (.if_icmp .ge 47, 3) := by decide +kernel
theorem dX12_lays_78 : decode cX12_lays 78 = .ok (.aload_n 0, 1) := by decide +kernel
theorem dX12_lays_79 : decode cX12_lays 79 = .ok (.getfield 38, 3) := by decide +kernel
theorem dX12_lays_82 : decode cX12_lays 82 = .ok (.iload_n 1, 1) := by decide +kernel
theorem dX12_lays_83 : decode cX12_lays 83 = .ok (.aload_n 0, 1) := by decide +kernel
theorem dX12_lays_84 : decode cX12_lays 84 = .ok (.getfield 38, 3) := by decide +kernel
theorem dX12_lays_87 : decode cX12_lays 87 = .ok (.bipush 9, 2) := by decide +kernel
theorem dX12_lays_89 : decode cX12_lays 89 = .ok (.iload_n 1, 1) := by decide +kernel
theorem dX12_lays_90 : decode cX12_lays 90 = .ok (.iadd, 1) := by decide +kernel
theorem dX12_lays_91 : decode cX12_lays 91 = .ok (.iaload, 1) := by decide +kernel
theorem dX12_lays_92 : decode cX12_lays 92 = .ok (.sipush 1000, 3) := by decide +kernel
theorem dX12_lays_95 : decode cX12_lays 95 = .ok (.isub, 1) := by decide +kernel
theorem dX12_lays_96 : decode cX12_lays 96 = .ok (.iastore, 1) := by decide +kernel
theorem dX12_lays_97 : decode cX12_lays 97 = .ok (.aload_n 0, 1) := by decide +kernel
theorem dX12_lays_98 : decode cX12_lays 98 = .ok (.getfield 41, 3) := by decide +kernel
theorem dX12_lays_101 : decode cX12_lays 101 = .ok (.iload_n 1, 1) := by decide +kernel
theorem dX12_lays_102 : decode cX12_lays 102 = .ok (.aload_n 0, 1) := by decide +kernel
theorem dX12_lays_103 : decode cX12_lays 103 = .ok (.getfield 41, 3) := by decide +kernel
theorem dX12_lays_106 : decode cX12_lays 106 = .ok (.bipush 9, 2) := by decide +kernel
theorem dX12_lays_108 : decode cX12_lays 108 = .ok (.iload_n 1, 1) := by decide +kernel
theorem dX12_lays_109 : decode cX12_lays 109 = .ok (.iadd, 1) := by decide +kernel
theorem dX12_lays_110 : decode cX12_lays 110 = .ok (.iaload, 1) := by decide +kernel
theorem dX12_lays_111 : decode cX12_lays 111 = .ok (.sipush 1000, 3) := by decide +kernel
theorem dX12_lays_114 : decode cX12_lays 114 = .ok (.isub, 1) := by decide +kernel
theorem dX12_lays_115 : decode cX12_lays 115 = .ok (.iastore, 1) := by decide +kernel
theorem dX12_lays_116 : decode cX12_lays 116 = .ok (.iinc 1 1, 3) := by decide +kernel
theorem dX12_lays_119 : decode cX12_lays 119 = .ok (.goto (-47), 3) := by decide +kernel
theorem dX12_lays_122 : decode cX12_lays 122 = .ok (.return_, 1) := by decide +kernel
noncomputable def F_X12_lays_72 : Nat → Nat → Int32 → m_M → Option (Unit × m_M)
  | 0, _, _, _ => none
  | n + 1, v1, v2, M =>
    if (9 : Int32) ≤ v2 then (
      some ((), M)
    ) else
    x_gN 10 M v1 18 fun v3 =>
    x_gN 10 M v1 18 fun v4 =>
    x_aI 12 M v4 ((9 : Int32) + v2) fun v5 =>
    x_sI 12 M v3 v2 (v5 - (1000 : Int32)) fun M1 =>
    x_gN 10 M1 v1 19 fun v6 =>
    x_gN 10 M1 v1 19 fun v7 =>
    x_aI 12 M1 v7 ((9 : Int32) + v2) fun v8 =>
    x_sI 12 M1 v6 v2 (v8 - (1000 : Int32)) fun M2 =>
    m_let (v2 + (1 : Int32)) fun v9 =>
    F_X12_lays_72 n v1 v9 M2
noncomputable def F_X12_lays (a0 : Nat) (M : m_M) : Option (Unit × m_M) :=
  x_gN 10 M a0 10 fun v1 =>
  x_bd (F_X12_moves v1 (8 : Int32) M) fun _ M1 =>
  x_gN 10 M1 a0 11 fun v2 =>
  x_bd (F_X12_movesNames v2 (5 : Int32) M1) fun _ M2 =>
  x_gN 10 M2 a0 12 fun v3 =>
  x_bd (F_X12_movesNames v3 (3 : Int32) M2) fun _ M3 =>
  x_gN 10 M3 a0 13 fun v4 =>
  x_bd (F_X12_movesNames v4 (6 : Int32) M3) fun _ M4 =>
  x_gN 10 M4 a0 15 fun v5 =>
  x_bd (F_X12_moves v5 (5 : Int32) M4) fun _ M5 =>
  x_gN 10 M5 a0 16 fun v6 =>
  x_bd (F_X12_moves v6 (7 : Int32) M5) fun _ M6 =>
  x_gN 10 M6 a0 17 fun v7 =>
  x_bd (F_X12_moves v7 (18 : Int32) M6) fun _ M7 =>
  x_gN 10 M7 a0 20 fun v8 =>
  x_bd (F_X12_moves v8 (1000 : Int32) M7) fun _ M8 =>
  F_X12_lays_72 m_FU a0 (0 : Int32) M8
set_option maxHeartbeats 4000000 in
theorem L_X12_lays_72 {X : j_X} {Φ : Option Value → m_M → Prop} (C : j_C X yX12_lays cX12_lays 2 none 2 0 0 Φ) : ∀ (n : Nat) (v1 : Nat) (v2 : Int32) (M : m_M), m_ok e_V Φ (F_X12_lays_72 n v1 v2 M) → j_J X 2 72 [some (.ref v1), some (.int v2)] [] (0, 0) M := by
  have C0 := C.1
  intro n
  induction n with
  | zero => intro v1 v2 M h; exact False.elim h
  | succ n ih =>
    intro v1 v2 M h
    rw [F_X12_lays_72] at h
    refine j_iload_n C0 (pc := 72) dX12_lays_72 rfl ?_
    refine j_bipush C0 (pc := 73) dX12_lays_73 (v := (9 : Int32)) (by decide) ?_
    refine j_icmp_ge C0 (pc := 75) (tgt := 122) dX12_lays_75 (by decide) (fun hc => ?_) (fun hc => ?_)
    · replace h := (X_if h).1 hc
      exact j_vret C rfl h dX12_lays_122 (by decide)
    · replace h := (X_if h).2 hc
      refine j_aload_n C0 (pc := 78) dX12_lays_78 rfl ?_
      refine X_gN C0 (pc := 79) f_OM_38_10 rfl dX12_lays_79 h (fun v3 h => ?_)
      refine j_iload_n C0 (pc := 82) dX12_lays_82 rfl ?_
      refine j_aload_n C0 (pc := 83) dX12_lays_83 rfl ?_
      refine X_gN C0 (pc := 84) f_OM_38_10 rfl dX12_lays_84 h (fun v4 h => ?_)
      refine j_bipush C0 (pc := 87) dX12_lays_87 (v := (9 : Int32)) (by decide) ?_
      refine j_iload_n C0 (pc := 89) dX12_lays_89 rfl ?_
      refine j_iadd C0 (pc := 90) dX12_lays_90 ?_
      refine X_iald C0 (pc := 91) dX12_lays_91 h (fun v5 h => ?_)
      refine j_sipush C0 (pc := 92) dX12_lays_92 (v := (1000 : Int32)) (by decide) ?_
      refine j_isub C0 (pc := 95) dX12_lays_95 ?_
      refine X_iast C0 (pc := 96) dX12_lays_96 h (fun M1 h => ?_)
      refine j_aload_n C0 (pc := 97) dX12_lays_97 rfl ?_
      refine X_gN C0 (pc := 98) f_OM_41_10 rfl dX12_lays_98 h (fun v6 h => ?_)
      refine j_iload_n C0 (pc := 101) dX12_lays_101 rfl ?_
      refine j_aload_n C0 (pc := 102) dX12_lays_102 rfl ?_
      refine X_gN C0 (pc := 103) f_OM_41_10 rfl dX12_lays_103 h (fun v7 h => ?_)
      refine j_bipush C0 (pc := 106) dX12_lays_106 (v := (9 : Int32)) (by decide) ?_
      refine j_iload_n C0 (pc := 108) dX12_lays_108 rfl ?_
      refine j_iadd C0 (pc := 109) dX12_lays_109 ?_
      refine X_iald C0 (pc := 110) dX12_lays_110 h (fun v8 h => ?_)
      refine j_sipush C0 (pc := 111) dX12_lays_111 (v := (1000 : Int32)) (by decide) ?_
      refine j_isub C0 (pc := 114) dX12_lays_114 ?_
      refine X_iast C0 (pc := 115) dX12_lays_115 h (fun M2 h => ?_)
      refine j_iinc C0 (pc := 116) dX12_lays_116 (v := v2 + (1 : Int32)) rfl (Nat.le_of_ble_eq_true rfl) (by rfl) ?_
      refine X_let (G := fun w => j_J X 2 119 [some (.ref v1), some (.int w)] [] (0, 0) M2) h (fun v9 h => ?_)
      refine j_goto C0 (pc := 119) (tgt := 72) dX12_lays_119 (by decide) ?_
      exact j_J.wq (ih v1 v9 M2 h) (And.intro rfl (And.intro rfl (trivial)))
set_option maxHeartbeats 4000000 in
theorem K_X12_lays (a0 : Nat) (M : m_M) (Φ : Option Value → m_M → Prop) (h : m_ok e_V Φ (F_X12_lays a0 M)) : j_Ct yX12_lays cX12_lays 2 none 2 0 0 [.ref a0] M Φ := by
  refine j_Ct.of (by decide +kernel) (Nat.le_of_ble_eq_true rfl) fun X C => ?_
  have C0 := C.1
  show j_J X 2 0 [some (.ref a0), none] [] (0, 0) M
  unfold F_X12_lays at h
  refine j_aload_n C0 (pc := 0) dX12_lays_0 rfl ?_
  refine X_gN C0 (pc := 1) f_OM_13_10 rfl dX12_lays_1 h (fun v1 h => ?_)
  refine j_bipush C0 (pc := 4) dX12_lays_4 (v := (8 : Int32)) (by decide) ?_
  refine X_cS C0 (pc := 6) (e' := e_V) (as := [.ref v1, .int (8 : Int32)]) (rest := []) (s' := fun _ => []) (g' := (0, 0)) s_OM_348 (fun Ψ hΨ => K_X12_moves v1 (8 : Int32) M Ψ hΨ) rfl rfl (fun _ => rfl) (by decide) (by decide) rfl (Nat.le_of_ble_eq_true rfl) dX12_lays_6 h (fun _ M1 h => ?_)
  refine j_aload_n C0 (pc := 9) dX12_lays_9 rfl ?_
  refine X_gN C0 (pc := 10) f_OM_16_10 rfl dX12_lays_10 h (fun v2 h => ?_)
  refine j_iconst C0 (pc := 13) dX12_lays_13 (v := (5 : Int32)) (by decide) ?_
  refine X_cS C0 (pc := 14) (e' := e_V) (as := [.ref v2, .int (5 : Int32)]) (rest := []) (s' := fun _ => []) (g' := (0, 0)) s_OM_352 (fun Ψ hΨ => K_X12_movesNames v2 (5 : Int32) M1 Ψ hΨ) rfl rfl (fun _ => rfl) (by decide) (by decide) rfl (Nat.le_of_ble_eq_true rfl) dX12_lays_14 h (fun _ M2 h => ?_)
  refine j_aload_n C0 (pc := 17) dX12_lays_17 rfl ?_
  refine X_gN C0 (pc := 18) f_OM_20_10 rfl dX12_lays_18 h (fun v3 h => ?_)
  refine j_iconst C0 (pc := 21) dX12_lays_21 (v := (3 : Int32)) (by decide) ?_
  refine X_cS C0 (pc := 22) (e' := e_V) (as := [.ref v3, .int (3 : Int32)]) (rest := []) (s' := fun _ => []) (g' := (0, 0)) s_OM_352 (fun Ψ hΨ => K_X12_movesNames v3 (3 : Int32) M2 Ψ hΨ) rfl rfl (fun _ => rfl) (by decide) (by decide) rfl (Nat.le_of_ble_eq_true rfl) dX12_lays_22 h (fun _ M3 h => ?_)
  refine j_aload_n C0 (pc := 25) dX12_lays_25 rfl ?_
  refine X_gN C0 (pc := 26) f_OM_23_10 rfl dX12_lays_26 h (fun v4 h => ?_)
  refine j_bipush C0 (pc := 29) dX12_lays_29 (v := (6 : Int32)) (by decide) ?_
  refine X_cS C0 (pc := 31) (e' := e_V) (as := [.ref v4, .int (6 : Int32)]) (rest := []) (s' := fun _ => []) (g' := (0, 0)) s_OM_352 (fun Ψ hΨ => K_X12_movesNames v4 (6 : Int32) M3 Ψ hΨ) rfl rfl (fun _ => rfl) (by decide) (by decide) rfl (Nat.le_of_ble_eq_true rfl) dX12_lays_31 h (fun _ M4 h => ?_)
  refine j_aload_n C0 (pc := 34) dX12_lays_34 rfl ?_
  refine X_gN C0 (pc := 35) f_OM_29_10 rfl dX12_lays_35 h (fun v5 h => ?_)
  refine j_iconst C0 (pc := 38) dX12_lays_38 (v := (5 : Int32)) (by decide) ?_
  refine X_cS C0 (pc := 39) (e' := e_V) (as := [.ref v5, .int (5 : Int32)]) (rest := []) (s' := fun _ => []) (g' := (0, 0)) s_OM_348 (fun Ψ hΨ => K_X12_moves v5 (5 : Int32) M4 Ψ hΨ) rfl rfl (fun _ => rfl) (by decide) (by decide) rfl (Nat.le_of_ble_eq_true rfl) dX12_lays_39 h (fun _ M5 h => ?_)
  refine j_aload_n C0 (pc := 42) dX12_lays_42 rfl ?_
  refine X_gN C0 (pc := 43) f_OM_32_10 rfl dX12_lays_43 h (fun v6 h => ?_)
  refine j_bipush C0 (pc := 46) dX12_lays_46 (v := (7 : Int32)) (by decide) ?_
  refine X_cS C0 (pc := 48) (e' := e_V) (as := [.ref v6, .int (7 : Int32)]) (rest := []) (s' := fun _ => []) (g' := (0, 0)) s_OM_348 (fun Ψ hΨ => K_X12_moves v6 (7 : Int32) M5 Ψ hΨ) rfl rfl (fun _ => rfl) (by decide) (by decide) rfl (Nat.le_of_ble_eq_true rfl) dX12_lays_48 h (fun _ M6 h => ?_)
  refine j_aload_n C0 (pc := 51) dX12_lays_51 rfl ?_
  refine X_gN C0 (pc := 52) f_OM_35_10 rfl dX12_lays_52 h (fun v7 h => ?_)
  refine j_bipush C0 (pc := 55) dX12_lays_55 (v := (18 : Int32)) (by decide) ?_
  refine X_cS C0 (pc := 57) (e' := e_V) (as := [.ref v7, .int (18 : Int32)]) (rest := []) (s' := fun _ => []) (g' := (0, 0)) s_OM_348 (fun Ψ hΨ => K_X12_moves v7 (18 : Int32) M6 Ψ hΨ) rfl rfl (fun _ => rfl) (by decide) (by decide) rfl (Nat.le_of_ble_eq_true rfl) dX12_lays_57 h (fun _ M7 h => ?_)
  refine j_aload_n C0 (pc := 60) dX12_lays_60 rfl ?_
  refine X_gN C0 (pc := 61) f_OM_44_10 rfl dX12_lays_61 h (fun v8 h => ?_)
  refine j_sipush C0 (pc := 64) dX12_lays_64 (v := (1000 : Int32)) (by decide) ?_
  refine X_cS C0 (pc := 67) (e' := e_V) (as := [.ref v8, .int (1000 : Int32)]) (rest := []) (s' := fun _ => []) (g' := (0, 0)) s_OM_348 (fun Ψ hΨ => K_X12_moves v8 (1000 : Int32) M7 Ψ hΨ) rfl rfl (fun _ => rfl) (by decide) (by decide) rfl (Nat.le_of_ble_eq_true rfl) dX12_lays_67 h (fun _ M8 h => ?_)
  refine j_iconst C0 (pc := 70) dX12_lays_70 (v := (0 : Int32)) (by decide) ?_
  refine j_istore_n C0 (pc := 71) dX12_lays_71 (Nat.le_of_ble_eq_true rfl) ?_
  show j_J X 2 72 [some (.ref a0), some (.int (0 : Int32))] [] (0, 0) M8
  exact j_J.wq (L_X12_lays_72 C m_FU a0 (0 : Int32) M8 h) (And.intro rfl (And.intro rfl (trivial)))
theorem dX12_land_0 : decode cX12_land 0 = .ok (.aload_n 0, 1) := by decide +kernel
theorem dX12_land_1 : decode cX12_land 1 = .ok (.iconst 0, 1) := by decide +kernel
theorem dX12_land_2 : decode cX12_land 2 = .ok (.putfield 163, 3) := by decide +kernel
theorem dX12_land_5 : decode cX12_land 5 = .ok (.aload_n 0, 1) := by decide +kernel
theorem dX12_land_6 : decode cX12_land 6 = .ok (.invokevirtual 427, 3) := by decide +kernel
theorem dX12_land_9 : decode cX12_land 9 = .ok (.ifCond .ne 8, 3) := by decide +kernel
theorem dX12_land_12 : decode cX12_land 12 = .ok (.aload_n 0, 1) := by decide +kernel
theorem dX12_land_13 : decode cX12_land 13 = .ok (.getfield 199, 3) := by decide +kernel
theorem dX12_land_16 : decode cX12_land 16 = .ok (.ireturn, 1) := by decide +kernel
theorem dX12_land_17 : decode cX12_land 17 = .ok (.aload_n 0, 1) := by decide +kernel
theorem dX12_land_18 : decode cX12_land 18 = .ok (.invokevirtual 430, 3) := by decide +kernel
theorem dX12_land_21 : decode cX12_land 21 = .ok (.aload_n 0, 1) := by decide +kernel
theorem dX12_land_22 : decode cX12_land 22 = .ok (.invokevirtual 160, 3) := by decide +kernel
theorem dX12_land_25 : decode cX12_land 25 = .ok (.aload_n 0, 1) := by decide +kernel
theorem dX12_land_26 : decode cX12_land 26 = .ok (.getfield 108, 3) := by decide +kernel
theorem dX12_land_29 : decode cX12_land 29 = .ok (.iconst 0, 1) := by decide +kernel
theorem dX12_land_30 : decode cX12_land 30 = .ok (.iconst 0, 1) := by decide +kernel
theorem dX12_land_31 : decode cX12_land 31 = .ok (.iastore, 1) := by decide +kernel
theorem dX12_land_32 : decode cX12_land 32 = .ok (.aload_n 0, 1) := by decide +kernel
theorem dX12_land_33 : decode cX12_land 33 = .ok (.getfield 108, 3) := by decide +kernel
theorem dX12_land_36 : decode cX12_land 36 = .ok (.iconst 1, 1) := by decide +kernel
theorem dX12_land_37 : decode cX12_land 37 = .ok (.iconst 0, 1) := by decide +kernel
theorem dX12_land_38 : decode cX12_land 38 = .ok (.iastore, 1) := by decide +kernel
theorem dX12_land_39 : decode cX12_land 39 = .ok (.aload_n 0, 1) := by decide +kernel
theorem dX12_land_40 : decode cX12_land 40 = .ok (.iconst 0, 1) := by decide +kernel
theorem dX12_land_41 : decode cX12_land 41 = .ok (.putfield 420, 3) := by decide +kernel
theorem dX12_land_44 : decode cX12_land 44 = .ok (.aload_n 0, 1) := by decide +kernel
theorem dX12_land_45 : decode cX12_land 45 = .ok (.iconst 0, 1) := by decide +kernel
theorem dX12_land_46 : decode cX12_land 46 = .ok (.putfield 433, 3) := by decide +kernel
theorem dX12_land_49 : decode cX12_land 49 = .ok (.aload_n 0, 1) := by decide +kernel
theorem dX12_land_50 : decode cX12_land 50 = .ok (.getfield 114, 3) := by decide +kernel
theorem dX12_land_53 : decode cX12_land 53 = .ok (.iconst 0, 1) := by decide +kernel
theorem dX12_land_54 : decode cX12_land 54 = .ok (.iconst 0, 1) := by decide +kernel
theorem dX12_land_55 : decode cX12_land 55 = .ok (.bastore, 1) := by decide +kernel
theorem dX12_land_56 : decode cX12_land 56 = .ok (.aload_n 0, 1) := by decide +kernel
theorem dX12_land_57 : decode cX12_land 57 = .ok (.getfield 126, 3) := by decide +kernel
theorem dX12_land_60 : decode cX12_land 60 = .ok (.iconst 0, 1) := by decide +kernel
theorem dX12_land_61 : decode cX12_land 61 = .ok (.iconst 0, 1) := by decide +kernel
theorem dX12_land_62 : decode cX12_land 62 = .ok (.iastore, 1) := by decide +kernel
theorem dX12_land_63 : decode cX12_land 63 = .ok (.iconst 0, 1) := by decide +kernel
theorem dX12_land_64 : decode cX12_land 64 = .ok (.istore_n 1, 1) := by decide +kernel
theorem dX12_land_65 : decode cX12_land 65 = .ok (.iload_n 1, 1) := by decide +kernel
theorem dX12_land_66 : decode cX12_land 66 = .ok (.iconst 4, 1) := by decide +kernel
theorem dX12_land_67 : decode cX12_land 67 = .ok (.if_icmp .ge 16, 3) := by decide +kernel
theorem dX12_land_70 : decode cX12_land 70 = .ok (.aload_n 0, 1) := by decide +kernel
theorem dX12_land_71 : decode cX12_land 71 = .ok (.getfield 132, 3) := by decide +kernel
theorem dX12_land_74 : decode cX12_land 74 = .ok (.iload_n 1, 1) := by decide +kernel
theorem dX12_land_75 : decode cX12_land 75 = .ok (.iconst 0, 1) := by decide +kernel
theorem dX12_land_76 : decode cX12_land 76 = .ok (.bastore, 1) := by decide +kernel
theorem dX12_land_77 : decode cX12_land 77 = .ok (.iinc 1 1, 3) := by decide +kernel
theorem dX12_land_80 : decode cX12_land 80 = .ok (.goto (-15), 3) := by decide +kernel
theorem dX12_land_83 : decode cX12_land 83 = .ok (.iconst 0, 1) := by decide +kernel
theorem dX12_land_84 : decode cX12_land 84 = .ok (.ireturn, 1) := by decide +kernel
noncomputable def F_X12_land_65 : Nat → Nat → Int32 → m_M → Option (Int32 × m_M)
  | 0, _, _, _ => none
  | n + 1, v1, v2, M =>
    if (4 : Int32) ≤ v2 then (
      some ((0 : Int32), M)
    ) else
    x_gN 10 M v1 61 fun v3 =>
    x_sI 14 M v3 v2 (vp_nar .boolean (0 : Int32)) fun M1 =>
    m_let (v2 + (1 : Int32)) fun v4 =>
    F_X12_land_65 n v1 v4 M1
noncomputable def F_X12_land (a0 : Nat) (M : m_M) : Option (Int32 × m_M) :=
  x_pI 10 M a0 0 (0 : Int32) fun M1 =>
  x_cV 10 M1 a0 (F_X12_readsAll a0 M1) fun v1 M2 =>
  if v1 = 0 then (
    x_gI 10 M2 a0 9 fun v6 =>
    some (v6, M2)
  ) else
  x_cV 10 M2 a0 (F_X12_lays a0 M2) fun _ M3 =>
  x_cV 10 M3 a0 (F_X12_measures a0 M3) fun _ M4 =>
  x_gN 10 M4 a0 51 fun v2 =>
  x_sI 12 M4 v2 (0 : Int32) (0 : Int32) fun M5 =>
  x_gN 10 M5 a0 51 fun v3 =>
  x_sI 12 M5 v3 (1 : Int32) (0 : Int32) fun M6 =>
  x_pI 10 M6 a0 52 (0 : Int32) fun M7 =>
  x_pI 10 M7 a0 53 (0 : Int32) fun M8 =>
  x_gN 10 M8 a0 55 fun v4 =>
  x_sI 14 M8 v4 (0 : Int32) (vp_nar .boolean (0 : Int32)) fun M9 =>
  x_gN 10 M9 a0 59 fun v5 =>
  x_sI 12 M9 v5 (0 : Int32) (0 : Int32) fun M10 =>
  F_X12_land_65 m_FU a0 (0 : Int32) M10
set_option maxHeartbeats 4000000 in
theorem L_X12_land_65 {X : j_X} {Φ : Option Value → m_M → Prop} (C : j_C X yX12_land cX12_land 2 (some .int) 7 0 0 Φ) : ∀ (n : Nat) (v1 : Nat) (v2 : Int32) (M : m_M), m_ok e_I Φ (F_X12_land_65 n v1 v2 M) → j_J X 2 65 [some (.ref v1), some (.int v2)] [] (0, 0) M := by
  have C0 := C.1
  intro n
  induction n with
  | zero => intro v1 v2 M h; exact False.elim h
  | succ n ih =>
    intro v1 v2 M h
    rw [F_X12_land_65] at h
    refine j_iload_n C0 (pc := 65) dX12_land_65 rfl ?_
    refine j_iconst C0 (pc := 66) dX12_land_66 (v := (4 : Int32)) (by decide) ?_
    refine j_icmp_ge C0 (pc := 67) (tgt := 83) dX12_land_67 (by decide) (fun hc => ?_) (fun hc => ?_)
    · replace h := (X_if h).1 hc
      refine j_iconst C0 (pc := 83) dX12_land_83 (v := (0 : Int32)) (by decide) ?_
      exact j_iret C rfl h dX12_land_84 (by decide)
    · replace h := (X_if h).2 hc
      refine j_aload_n C0 (pc := 70) dX12_land_70 rfl ?_
      refine X_gN C0 (pc := 71) f_OM_132_10 rfl dX12_land_71 h (fun v3 h => ?_)
      refine j_iload_n C0 (pc := 74) dX12_land_74 rfl ?_
      refine j_iconst C0 (pc := 75) dX12_land_75 (v := (0 : Int32)) (by decide) ?_
      refine X_zast C0 (pc := 76) dX12_land_76 h (fun M1 h => ?_)
      refine j_iinc C0 (pc := 77) dX12_land_77 (v := v2 + (1 : Int32)) rfl (Nat.le_of_ble_eq_true rfl) (by rfl) ?_
      refine X_let (G := fun w => j_J X 2 80 [some (.ref v1), some (.int w)] [] (0, 0) M1) h (fun v4 h => ?_)
      refine j_goto C0 (pc := 80) (tgt := 65) dX12_land_80 (by decide) ?_
      exact j_J.wq (ih v1 v4 M1 h) (And.intro rfl (And.intro rfl (trivial)))
set_option maxHeartbeats 4000000 in
theorem K_X12_land (a0 : Nat) (M : m_M) (Φ : Option Value → m_M → Prop) (h : m_ok e_I Φ (F_X12_land a0 M)) : j_Ct yX12_land cX12_land 2 (some .int) 7 0 0 [.ref a0] M Φ := by
  refine j_Ct.of (by decide +kernel) (Nat.le_of_ble_eq_true rfl) fun X C => ?_
  have C0 := C.1
  show j_J X 2 0 [some (.ref a0), none] [] (0, 0) M
  unfold F_X12_land at h
  refine j_aload_n C0 (pc := 0) dX12_land_0 rfl ?_
  refine j_iconst C0 (pc := 1) dX12_land_1 (v := (0 : Int32)) (by decide) ?_
  refine X_pI C0 (pc := 2) f_OM_163_10 rfl rfl dX12_land_2 h (fun M1 h => ?_)
  refine j_aload_n C0 (pc := 5) dX12_land_5 rfl ?_
  refine X_cV C0 (pc := 6) (e' := e_I) (as := []) (rest := []) (s' := fun w => .int w :: []) (g' := (0, 0)) v_OM_427_10 (fun Ψ hΨ => K_X12_readsAll a0 M1 Ψ hΨ) rfl rfl (fun _ => rfl) (by decide) (by decide) rfl (Nat.le_of_ble_eq_true rfl) dX12_land_6 h (fun v1 M2 h => ?_)
  refine j_if_ne C0 (pc := 9) (tgt := 17) dX12_land_9 (by decide) (fun hc => ?_) (fun hc => ?_)
  · replace h := (X_if h).2 hc
    refine j_aload_n C0 (pc := 17) dX12_land_17 rfl ?_
    refine X_cV C0 (pc := 18) (e' := e_V) (as := []) (rest := []) (s' := fun _ => []) (g' := (0, 0)) v_OM_430_10 (fun Ψ hΨ => K_X12_lays a0 M2 Ψ hΨ) rfl rfl (fun _ => rfl) (by decide) (by decide) rfl (Nat.le_of_ble_eq_true rfl) dX12_land_18 h (fun _ M3 h => ?_)
    refine j_aload_n C0 (pc := 21) dX12_land_21 rfl ?_
    refine X_cV C0 (pc := 22) (e' := e_V) (as := []) (rest := []) (s' := fun _ => []) (g' := (0, 0)) v_OM_160_10 (fun Ψ hΨ => K_X12_measures a0 M3 Ψ hΨ) rfl rfl (fun _ => rfl) (by decide) (by decide) rfl (Nat.le_of_ble_eq_true rfl) dX12_land_22 h (fun _ M4 h => ?_)
    refine j_aload_n C0 (pc := 25) dX12_land_25 rfl ?_
    refine X_gN C0 (pc := 26) f_OM_108_10 rfl dX12_land_26 h (fun v2 h => ?_)
    refine j_iconst C0 (pc := 29) dX12_land_29 (v := (0 : Int32)) (by decide) ?_
    refine j_iconst C0 (pc := 30) dX12_land_30 (v := (0 : Int32)) (by decide) ?_
    refine X_iast C0 (pc := 31) dX12_land_31 h (fun M5 h => ?_)
    refine j_aload_n C0 (pc := 32) dX12_land_32 rfl ?_
    refine X_gN C0 (pc := 33) f_OM_108_10 rfl dX12_land_33 h (fun v3 h => ?_)
    refine j_iconst C0 (pc := 36) dX12_land_36 (v := (1 : Int32)) (by decide) ?_
    refine j_iconst C0 (pc := 37) dX12_land_37 (v := (0 : Int32)) (by decide) ?_
    refine X_iast C0 (pc := 38) dX12_land_38 h (fun M6 h => ?_)
    refine j_aload_n C0 (pc := 39) dX12_land_39 rfl ?_
    refine j_iconst C0 (pc := 40) dX12_land_40 (v := (0 : Int32)) (by decide) ?_
    refine X_pI C0 (pc := 41) f_OM_420_10 rfl rfl dX12_land_41 h (fun M7 h => ?_)
    refine j_aload_n C0 (pc := 44) dX12_land_44 rfl ?_
    refine j_iconst C0 (pc := 45) dX12_land_45 (v := (0 : Int32)) (by decide) ?_
    refine X_pI C0 (pc := 46) f_OM_433_10 rfl rfl dX12_land_46 h (fun M8 h => ?_)
    refine j_aload_n C0 (pc := 49) dX12_land_49 rfl ?_
    refine X_gN C0 (pc := 50) f_OM_114_10 rfl dX12_land_50 h (fun v4 h => ?_)
    refine j_iconst C0 (pc := 53) dX12_land_53 (v := (0 : Int32)) (by decide) ?_
    refine j_iconst C0 (pc := 54) dX12_land_54 (v := (0 : Int32)) (by decide) ?_
    refine X_zast C0 (pc := 55) dX12_land_55 h (fun M9 h => ?_)
    refine j_aload_n C0 (pc := 56) dX12_land_56 rfl ?_
    refine X_gN C0 (pc := 57) f_OM_126_10 rfl dX12_land_57 h (fun v5 h => ?_)
    refine j_iconst C0 (pc := 60) dX12_land_60 (v := (0 : Int32)) (by decide) ?_
    refine j_iconst C0 (pc := 61) dX12_land_61 (v := (0 : Int32)) (by decide) ?_
    refine X_iast C0 (pc := 62) dX12_land_62 h (fun M10 h => ?_)
    refine j_iconst C0 (pc := 63) dX12_land_63 (v := (0 : Int32)) (by decide) ?_
    refine j_istore_n C0 (pc := 64) dX12_land_64 (Nat.le_of_ble_eq_true rfl) ?_
    show j_J X 2 65 [some (.ref a0), some (.int (0 : Int32))] [] (0, 0) M10
    exact j_J.wq (L_X12_land_65 C m_FU a0 (0 : Int32) M10 h) (And.intro rfl (And.intro rfl (trivial)))
  · replace h := (X_if h).1 hc
    refine j_aload_n C0 (pc := 12) dX12_land_12 rfl ?_
    refine X_gI C0 (pc := 13) f_OM_199_10 rfl dX12_land_13 h (fun v6 h => ?_)
    exact j_iret C rfl h dX12_land_16 (by decide)
theorem dX12_laysRest_0 : decode cX12_laysRest 0 = .ok (.aload_n 0, 1) := by decide +kernel
theorem dX12_laysRest_1 : decode cX12_laysRest 1 = .ok (.getfield 111, 3) := by decide +kernel
theorem dX12_laysRest_4 : decode cX12_laysRest 4 = .ok (.bipush 112, 2) := by decide +kernel
theorem dX12_laysRest_6 : decode cX12_laysRest 6 = .ok (.iload_n 1, 1) := by decide +kernel
theorem dX12_laysRest_7 : decode cX12_laysRest 7 = .ok (.iload_n 2, 1) := by decide +kernel
theorem dX12_laysRest_8 : decode cX12_laysRest 8 = .ok (.invokestatic 412, 3) := by decide +kernel
theorem dX12_laysRest_11 : decode cX12_laysRest 11 = .ok (.aload_n 0, 1) := by decide +kernel
theorem dX12_laysRest_12 : decode cX12_laysRest 12 = .ok (.getfield 114, 3) := by decide +kernel
theorem dX12_laysRest_15 : decode cX12_laysRest 15 = .ok (.iload_n 2, 1) := by decide +kernel
theorem dX12_laysRest_16 : decode cX12_laysRest 16 = .ok (.aload_n 0, 1) := by decide +kernel
theorem dX12_laysRest_17 : decode cX12_laysRest 17 = .ok (.getfield 114, 3) := by decide +kernel
theorem dX12_laysRest_20 : decode cX12_laysRest 20 = .ok (.iload_n 1, 1) := by decide +kernel
theorem dX12_laysRest_21 : decode cX12_laysRest 21 = .ok (.baload, 1) := by decide +kernel
theorem dX12_laysRest_22 : decode cX12_laysRest 22 = .ok (.bastore, 1) := by decide +kernel
theorem dX12_laysRest_23 : decode cX12_laysRest 23 = .ok (.aload_n 0, 1) := by decide +kernel
theorem dX12_laysRest_24 : decode cX12_laysRest 24 = .ok (.getfield 117, 3) := by decide +kernel
theorem dX12_laysRest_27 : decode cX12_laysRest 27 = .ok (.bipush 20, 2) := by decide +kernel
theorem dX12_laysRest_29 : decode cX12_laysRest 29 = .ok (.iload_n 1, 1) := by decide +kernel
theorem dX12_laysRest_30 : decode cX12_laysRest 30 = .ok (.iload_n 2, 1) := by decide +kernel
theorem dX12_laysRest_31 : decode cX12_laysRest 31 = .ok (.invokestatic 416, 3) := by decide +kernel
theorem dX12_laysRest_34 : decode cX12_laysRest 34 = .ok (.aload_n 0, 1) := by decide +kernel
theorem dX12_laysRest_35 : decode cX12_laysRest 35 = .ok (.getfield 120, 3) := by decide +kernel
theorem dX12_laysRest_38 : decode cX12_laysRest 38 = .ok (.bipush 20, 2) := by decide +kernel
theorem dX12_laysRest_40 : decode cX12_laysRest 40 = .ok (.iload_n 1, 1) := by decide +kernel
theorem dX12_laysRest_41 : decode cX12_laysRest 41 = .ok (.iload_n 2, 1) := by decide +kernel
theorem dX12_laysRest_42 : decode cX12_laysRest 42 = .ok (.invokestatic 416, 3) := by decide +kernel
theorem dX12_laysRest_45 : decode cX12_laysRest 45 = .ok (.iconst 0, 1) := by decide +kernel
theorem dX12_laysRest_46 : decode cX12_laysRest 46 = .ok (.istore_n 3, 1) := by decide +kernel
theorem dX12_laysRest_47 : decode cX12_laysRest 47 = .ok (.iload_n 3, 1) := by decide +kernel
theorem dX12_laysRest_48 : decode cX12_laysRest 48 = .ok (.bipush 20, 2) := by decide +kernel
theorem dX12_laysRest_50 : decode cX12_laysRest 50 = .ok (.if_icmp .ge 31, 3) := by decide +kernel
theorem dX12_laysRest_53 : decode cX12_laysRest 53 = .ok (.aload_n 0, 1) := by decide +kernel
theorem dX12_laysRest_54 : decode cX12_laysRest 54 = .ok (.getfield 123, 3) := by decide +kernel
theorem dX12_laysRest_57 : decode cX12_laysRest 57 = .ok (.bipush 20, 2) := by decide +kernel
theorem dX12_laysRest_59 : decode cX12_laysRest 59 = .ok (.iload_n 2, 1) := by decide +kernel
theorem dX12_laysRest_60 : decode cX12_laysRest 60 = .ok (.imul, 1) := by decide +kernel
theorem dX12_laysRest_61 : decode cX12_laysRest 61 = .ok (.iload_n 3, 1) := by decide +kernel
theorem dX12_laysRest_62 : decode cX12_laysRest 62 = .ok (.iadd, 1) := by decide +kernel
theorem dX12_laysRest_63 : decode cX12_laysRest 63 = .ok (.aload_n 0, 1) := by decide +kernel
theorem dX12_laysRest_64 : decode cX12_laysRest 64 = .ok (.getfield 123, 3) := by decide +kernel
theorem dX12_laysRest_67 : decode cX12_laysRest 67 = .ok (.bipush 20, 2) := by decide +kernel
theorem dX12_laysRest_69 : decode cX12_laysRest 69 = .ok (.iload_n 1, 1) := by decide +kernel
theorem dX12_laysRest_70 : decode cX12_laysRest 70 = .ok (.imul, 1) := by decide +kernel
theorem dX12_laysRest_71 : decode cX12_laysRest 71 = .ok (.iload_n 3, 1) := by decide +kernel
theorem dX12_laysRest_72 : decode cX12_laysRest 72 = .ok (.iadd, 1) := by decide +kernel
theorem dX12_laysRest_73 : decode cX12_laysRest 73 = .ok (.baload, 1) := by decide +kernel
theorem dX12_laysRest_74 : decode cX12_laysRest 74 = .ok (.bastore, 1) := by decide +kernel
theorem dX12_laysRest_75 : decode cX12_laysRest 75 = .ok (.iinc 3 1, 3) := by decide +kernel
theorem dX12_laysRest_78 : decode cX12_laysRest 78 = .ok (.goto (-31), 3) := by decide +kernel
theorem dX12_laysRest_81 : decode cX12_laysRest 81 = .ok (.aload_n 0, 1) := by decide +kernel
theorem dX12_laysRest_82 : decode cX12_laysRest 82 = .ok (.getfield 126, 3) := by decide +kernel
theorem dX12_laysRest_85 : decode cX12_laysRest 85 = .ok (.iload_n 2, 1) := by decide +kernel
theorem dX12_laysRest_86 : decode cX12_laysRest 86 = .ok (.aload_n 0, 1) := by decide +kernel
theorem dX12_laysRest_87 : decode cX12_laysRest 87 = .ok (.getfield 126, 3) := by decide +kernel
theorem dX12_laysRest_90 : decode cX12_laysRest 90 = .ok (.iload_n 1, 1) := by decide +kernel
theorem dX12_laysRest_91 : decode cX12_laysRest 91 = .ok (.iaload, 1) := by decide +kernel
theorem dX12_laysRest_92 : decode cX12_laysRest 92 = .ok (.iastore, 1) := by decide +kernel
theorem dX12_laysRest_93 : decode cX12_laysRest 93 = .ok (.return_, 1) := by decide +kernel
noncomputable def F_X12_laysRest_47 (k81 : Nat → Int32 → Int32 → m_M → Option (Unit × m_M)) : Nat → Nat → Int32 → Int32 → Int32 → m_M → Option (Unit × m_M)
  | 0, _, _, _, _, _ => none
  | n + 1, v1, v2, v3, v4, M =>
    if (20 : Int32) ≤ v4 then (
      k81 v1 v2 v3 M
    ) else
    x_gN 10 M v1 58 fun v5 =>
    x_gN 10 M v1 58 fun v6 =>
    x_aI 14 M v6 (((20 : Int32) * v2) + v4) fun v7 =>
    x_sI 14 M v5 (((20 : Int32) * v3) + v4) (vp_nar .boolean v7) fun M1 =>
    m_let (v4 + (1 : Int32)) fun v8 =>
    F_X12_laysRest_47 k81 n v1 v2 v3 v8 M1
noncomputable def F_X12_laysRest (a0 : Nat) (a1 : Int32) (a2 : Int32) (M : m_M) : Option (Unit × m_M) :=
  x_gN 10 M a0 54 fun v1 =>
  x_bd (F_X12_movesRow v1 (112 : Int32) a1 a2 M) fun _ M1 =>
  x_gN 10 M1 a0 55 fun v2 =>
  x_gN 10 M1 a0 55 fun v3 =>
  x_aI 14 M1 v3 a1 fun v4 =>
  x_sI 14 M1 v2 a2 (vp_nar .boolean v4) fun M2 =>
  x_gN 10 M2 a0 56 fun v5 =>
  x_bd (F_X12_movesInts v5 (20 : Int32) a1 a2 M2) fun _ M3 =>
  x_gN 10 M3 a0 57 fun v6 =>
  x_bd (F_X12_movesInts v6 (20 : Int32) a1 a2 M3) fun _ M4 =>
  m_let (fun (v7 : Nat) (v8 : Int32) (v9 : Int32) (M5 : m_M) =>
    x_gN 10 M5 v7 59 fun v10 =>
    x_gN 10 M5 v7 59 fun v11 =>
    x_aI 12 M5 v11 v8 fun v12 =>
    x_sI 12 M5 v10 v9 v12 fun M6 =>
    some ((), M6)
  ) fun (k81 : Nat → Int32 → Int32 → m_M → Option (Unit × m_M)) =>
  F_X12_laysRest_47 k81 m_FU a0 a1 a2 (0 : Int32) M4
set_option maxHeartbeats 4000000 in
theorem L_X12_laysRest_47 {X : j_X} {Φ : Option Value → m_M → Prop} (C : j_C X yX12_laysRest cX12_laysRest 4 none 2 0 0 Φ) {k81 : Nat → Int32 → Int32 → m_M → Option (Unit × m_M)} (hk81 : ∀ (p0 : Nat) (p1 : Int32) (p2 : Int32) (M : m_M), m_ok e_V Φ (k81 p0 p1 p2 M) → j_J X 4 81 [some (.ref p0), some (.int p1), some (.int p2), none] [] (0, 0) M) : ∀ (n : Nat) (v1 : Nat) (v2 : Int32) (v3 : Int32) (v4 : Int32) (M : m_M), m_ok e_V Φ (F_X12_laysRest_47 k81 n v1 v2 v3 v4 M) → j_J X 4 47 [some (.ref v1), some (.int v2), some (.int v3), some (.int v4)] [] (0, 0) M := by
  have C0 := C.1
  intro n
  induction n with
  | zero => intro v1 v2 v3 v4 M h; exact False.elim h
  | succ n ih =>
    intro v1 v2 v3 v4 M h
    rw [F_X12_laysRest_47] at h
    refine j_iload_n C0 (pc := 47) dX12_laysRest_47 rfl ?_
    refine j_bipush C0 (pc := 48) dX12_laysRest_48 (v := (20 : Int32)) (by decide) ?_
    refine j_icmp_ge C0 (pc := 50) (tgt := 81) dX12_laysRest_50 (by decide) (fun hc => ?_) (fun hc => ?_)
    · replace h := (X_if h).1 hc
      exact j_J.wq (hk81 v1 v2 v3 M h) (And.intro rfl (And.intro rfl (And.intro rfl (trivial))))
    · replace h := (X_if h).2 hc
      refine j_aload_n C0 (pc := 53) dX12_laysRest_53 rfl ?_
      refine X_gN C0 (pc := 54) f_OM_123_10 rfl dX12_laysRest_54 h (fun v5 h => ?_)
      refine j_bipush C0 (pc := 57) dX12_laysRest_57 (v := (20 : Int32)) (by decide) ?_
      refine j_iload_n C0 (pc := 59) dX12_laysRest_59 rfl ?_
      refine j_imul C0 (pc := 60) dX12_laysRest_60 ?_
      refine j_iload_n C0 (pc := 61) dX12_laysRest_61 rfl ?_
      refine j_iadd C0 (pc := 62) dX12_laysRest_62 ?_
      refine j_aload_n C0 (pc := 63) dX12_laysRest_63 rfl ?_
      refine X_gN C0 (pc := 64) f_OM_123_10 rfl dX12_laysRest_64 h (fun v6 h => ?_)
      refine j_bipush C0 (pc := 67) dX12_laysRest_67 (v := (20 : Int32)) (by decide) ?_
      refine j_iload_n C0 (pc := 69) dX12_laysRest_69 rfl ?_
      refine j_imul C0 (pc := 70) dX12_laysRest_70 ?_
      refine j_iload_n C0 (pc := 71) dX12_laysRest_71 rfl ?_
      refine j_iadd C0 (pc := 72) dX12_laysRest_72 ?_
      refine X_zald C0 (pc := 73) dX12_laysRest_73 h (fun v7 h => ?_)
      refine X_zast C0 (pc := 74) dX12_laysRest_74 h (fun M1 h => ?_)
      refine j_iinc C0 (pc := 75) dX12_laysRest_75 (v := v4 + (1 : Int32)) rfl (Nat.le_of_ble_eq_true rfl) (by rfl) ?_
      refine X_let (G := fun w => j_J X 4 78 [some (.ref v1), some (.int v2), some (.int v3), some (.int w)] [] (0, 0) M1) h (fun v8 h => ?_)
      refine j_goto C0 (pc := 78) (tgt := 47) dX12_laysRest_78 (by decide) ?_
      exact j_J.wq (ih v1 v2 v3 v8 M1 h) (And.intro rfl (And.intro rfl (And.intro rfl (And.intro rfl (trivial)))))
set_option maxHeartbeats 4000000 in
theorem K_X12_laysRest (a0 : Nat) (a1 : Int32) (a2 : Int32) (M : m_M) (Φ : Option Value → m_M → Prop) (h : m_ok e_V Φ (F_X12_laysRest a0 a1 a2 M)) : j_Ct yX12_laysRest cX12_laysRest 4 none 2 0 0 [.ref a0, .int a1, .int a2] M Φ := by
  refine j_Ct.of (by decide +kernel) (Nat.le_of_ble_eq_true rfl) fun X C => ?_
  have C0 := C.1
  show j_J X 4 0 [some (.ref a0), some (.int a1), some (.int a2), none] [] (0, 0) M
  unfold F_X12_laysRest at h
  refine j_aload_n C0 (pc := 0) dX12_laysRest_0 rfl ?_
  refine X_gN C0 (pc := 1) f_OM_111_10 rfl dX12_laysRest_1 h (fun v1 h => ?_)
  refine j_bipush C0 (pc := 4) dX12_laysRest_4 (v := (112 : Int32)) (by decide) ?_
  refine j_iload_n C0 (pc := 6) dX12_laysRest_6 rfl ?_
  refine j_iload_n C0 (pc := 7) dX12_laysRest_7 rfl ?_
  refine X_cS C0 (pc := 8) (e' := e_V) (as := [.ref v1, .int (112 : Int32), .int a1, .int a2]) (rest := []) (s' := fun _ => []) (g' := (0, 0)) s_OM_412 (fun Ψ hΨ => K_X12_movesRow v1 (112 : Int32) a1 a2 M Ψ hΨ) rfl rfl (fun _ => rfl) (by decide) (by decide) rfl (Nat.le_of_ble_eq_true rfl) dX12_laysRest_8 h (fun _ M1 h => ?_)
  refine j_aload_n C0 (pc := 11) dX12_laysRest_11 rfl ?_
  refine X_gN C0 (pc := 12) f_OM_114_10 rfl dX12_laysRest_12 h (fun v2 h => ?_)
  refine j_iload_n C0 (pc := 15) dX12_laysRest_15 rfl ?_
  refine j_aload_n C0 (pc := 16) dX12_laysRest_16 rfl ?_
  refine X_gN C0 (pc := 17) f_OM_114_10 rfl dX12_laysRest_17 h (fun v3 h => ?_)
  refine j_iload_n C0 (pc := 20) dX12_laysRest_20 rfl ?_
  refine X_zald C0 (pc := 21) dX12_laysRest_21 h (fun v4 h => ?_)
  refine X_zast C0 (pc := 22) dX12_laysRest_22 h (fun M2 h => ?_)
  refine j_aload_n C0 (pc := 23) dX12_laysRest_23 rfl ?_
  refine X_gN C0 (pc := 24) f_OM_117_10 rfl dX12_laysRest_24 h (fun v5 h => ?_)
  refine j_bipush C0 (pc := 27) dX12_laysRest_27 (v := (20 : Int32)) (by decide) ?_
  refine j_iload_n C0 (pc := 29) dX12_laysRest_29 rfl ?_
  refine j_iload_n C0 (pc := 30) dX12_laysRest_30 rfl ?_
  refine X_cS C0 (pc := 31) (e' := e_V) (as := [.ref v5, .int (20 : Int32), .int a1, .int a2]) (rest := []) (s' := fun _ => []) (g' := (0, 0)) s_OM_416 (fun Ψ hΨ => K_X12_movesInts v5 (20 : Int32) a1 a2 M2 Ψ hΨ) rfl rfl (fun _ => rfl) (by decide) (by decide) rfl (Nat.le_of_ble_eq_true rfl) dX12_laysRest_31 h (fun _ M3 h => ?_)
  refine j_aload_n C0 (pc := 34) dX12_laysRest_34 rfl ?_
  refine X_gN C0 (pc := 35) f_OM_120_10 rfl dX12_laysRest_35 h (fun v6 h => ?_)
  refine j_bipush C0 (pc := 38) dX12_laysRest_38 (v := (20 : Int32)) (by decide) ?_
  refine j_iload_n C0 (pc := 40) dX12_laysRest_40 rfl ?_
  refine j_iload_n C0 (pc := 41) dX12_laysRest_41 rfl ?_
  refine X_cS C0 (pc := 42) (e' := e_V) (as := [.ref v6, .int (20 : Int32), .int a1, .int a2]) (rest := []) (s' := fun _ => []) (g' := (0, 0)) s_OM_416 (fun Ψ hΨ => K_X12_movesInts v6 (20 : Int32) a1 a2 M3 Ψ hΨ) rfl rfl (fun _ => rfl) (by decide) (by decide) rfl (Nat.le_of_ble_eq_true rfl) dX12_laysRest_42 h (fun _ M4 h => ?_)
  refine j_iconst C0 (pc := 45) dX12_laysRest_45 (v := (0 : Int32)) (by decide) ?_
  refine j_istore_n C0 (pc := 46) dX12_laysRest_46 (Nat.le_of_ble_eq_true rfl) ?_
  show j_J X 4 47 [some (.ref a0), some (.int a1), some (.int a2), some (.int (0 : Int32))] [] (0, 0) M4
  refine X_join (fun (kj : Nat → Int32 → Int32 → m_M → Option (Unit × m_M)) => ∀ (p0 : Nat) (p1 : Int32) (p2 : Int32) (M : m_M), m_ok e_V Φ (kj p0 p1 p2 M) → j_J X 4 81 [some (.ref p0), some (.int p1), some (.int p2), none] [] (0, 0) M) h (fun v7 v8 v9 M5 h => ?_) (fun k81 hk81 h => ?_)
  · refine j_aload_n C0 (pc := 81) dX12_laysRest_81 rfl ?_
    refine X_gN C0 (pc := 82) f_OM_126_10 rfl dX12_laysRest_82 h (fun v10 h => ?_)
    refine j_iload_n C0 (pc := 85) dX12_laysRest_85 rfl ?_
    refine j_aload_n C0 (pc := 86) dX12_laysRest_86 rfl ?_
    refine X_gN C0 (pc := 87) f_OM_126_10 rfl dX12_laysRest_87 h (fun v11 h => ?_)
    refine j_iload_n C0 (pc := 90) dX12_laysRest_90 rfl ?_
    refine X_iald C0 (pc := 91) dX12_laysRest_91 h (fun v12 h => ?_)
    refine X_iast C0 (pc := 92) dX12_laysRest_92 h (fun M6 h => ?_)
    exact j_vret C rfl h dX12_laysRest_93 (by decide)
  · exact j_J.wq (L_X12_laysRest_47 C hk81 m_FU a0 a1 a2 (0 : Int32) M4 h) (And.intro rfl (And.intro rfl (And.intro rfl (And.intro rfl (trivial)))))
theorem dX12_left_0 : decode cX12_left 0 = .ok (.aload_n 0, 1) := by decide +kernel
theorem dX12_left_1 : decode cX12_left 1 = .ok (.iconst 0, 1) := by decide +kernel
theorem dX12_left_2 : decode cX12_left 2 = .ok (.putfield 163, 3) := by decide +kernel
theorem dX12_left_5 : decode cX12_left 5 = .ok (.aload_n 0, 1) := by decide +kernel
theorem dX12_left_6 : decode cX12_left 6 = .ok (.iload_n 1, 1) := by decide +kernel
theorem dX12_left_7 : decode cX12_left 7 = .ok (.invokevirtual 466, 3) := by decide +kernel
theorem dX12_left_10 : decode cX12_left 10 = .ok (.ifCond .ne 5, 3) := by decide +kernel
theorem dX12_left_13 : decode cX12_left 13 = .ok (.iconst (-1), 1) := by decide +kernel
theorem dX12_left_14 : decode cX12_left 14 = .ok (.ireturn, 1) := by decide +kernel
theorem dX12_left_15 : decode cX12_left 15 = .ok (.aload_n 0, 1) := by decide +kernel
theorem dX12_left_16 : decode cX12_left 16 = .ok (.invokevirtual 463, 3) := by decide +kernel
theorem dX12_left_19 : decode cX12_left 19 = .ok (.aload_n 0, 1) := by decide +kernel
theorem dX12_left_20 : decode cX12_left 20 = .ok (.getfield 135, 3) := by decide +kernel
theorem dX12_left_23 : decode cX12_left 23 = .ok (.iload_n 1, 1) := by decide +kernel
theorem dX12_left_24 : decode cX12_left 24 = .ok (.bipush 64, 2) := by decide +kernel
theorem dX12_left_26 : decode cX12_left 26 = .ok (.idiv, 1) := by decide +kernel
theorem dX12_left_27 : decode cX12_left 27 = .ok (.laload, 1) := by decide +kernel
theorem dX12_left_28 : decode cX12_left 28 = .ok (.iload_n 1, 1) := by decide +kernel
theorem dX12_left_29 : decode cX12_left 29 = .ok (.bipush 64, 2) := by decide +kernel
theorem dX12_left_31 : decode cX12_left 31 = .ok (.irem, 1) := by decide +kernel
theorem dX12_left_32 : decode cX12_left 32 = .ok (.lshr, 1) := by decide +kernel
theorem dX12_left_33 : decode cX12_left 33 = .ok (.lconst 1, 1) := by decide +kernel
theorem dX12_left_34 : decode cX12_left 34 = .ok (.land, 1) := by decide +kernel
theorem dX12_left_35 : decode cX12_left 35 = .ok (.l2i, 1) := by decide +kernel
theorem dX12_left_36 : decode cX12_left 36 = .ok (.ireturn, 1) := by decide +kernel
noncomputable def F_X12_left (a0 : Nat) (a1 : Int32) (M : m_M) : Option (Int32 × m_M) :=
  x_pI 10 M a0 0 (0 : Int32) fun M1 =>
  x_cV 10 M1 a0 (F_X12_isWorld a0 a1 M1) fun v1 M2 =>
  if v1 = 0 then (
    some ((-1 : Int32), M2)
  ) else
  x_cV 10 M2 a0 (F_X12_leaves a0 M2) fun _ M3 =>
  x_gN 10 M3 a0 62 fun v2 =>
  x_nz (64 : Int32) <|
  x_aL M3 v2 (a1 / (64 : Int32)) fun v3 =>
  x_nz (64 : Int32) <|
  some (((v3 >>> ((a1 - a1 / (64 : Int32) * (64 : Int32)).toInt64 &&& 63)) &&& (1 : Int64)).toInt32, M3)
set_option maxHeartbeats 4000000 in
theorem K_X12_left (a0 : Nat) (a1 : Int32) (M : m_M) (Φ : Option Value → m_M → Prop) (h : m_ok e_I Φ (F_X12_left a0 a1 M)) : j_Ct yX12_left cX12_left 2 (some .int) 4 0 0 [.ref a0, .int a1] M Φ := by
  refine j_Ct.of (by decide +kernel) (Nat.le_of_ble_eq_true rfl) fun X C => ?_
  have C0 := C.1
  show j_J X 2 0 [some (.ref a0), some (.int a1)] [] (0, 0) M
  unfold F_X12_left at h
  refine j_aload_n C0 (pc := 0) dX12_left_0 rfl ?_
  refine j_iconst C0 (pc := 1) dX12_left_1 (v := (0 : Int32)) (by decide) ?_
  refine X_pI C0 (pc := 2) f_OM_163_10 rfl rfl dX12_left_2 h (fun M1 h => ?_)
  refine j_aload_n C0 (pc := 5) dX12_left_5 rfl ?_
  refine j_iload_n C0 (pc := 6) dX12_left_6 rfl ?_
  refine X_cV C0 (pc := 7) (e' := e_I) (as := [.int a1]) (rest := []) (s' := fun w => .int w :: []) (g' := (0, 0)) v_OM_466_10 (fun Ψ hΨ => K_X12_isWorld a0 a1 M1 Ψ hΨ) rfl rfl (fun _ => rfl) (by decide) (by decide) rfl (Nat.le_of_ble_eq_true rfl) dX12_left_7 h (fun v1 M2 h => ?_)
  refine j_if_ne C0 (pc := 10) (tgt := 15) dX12_left_10 (by decide) (fun hc => ?_) (fun hc => ?_)
  · replace h := (X_if h).2 hc
    refine j_aload_n C0 (pc := 15) dX12_left_15 rfl ?_
    refine X_cV C0 (pc := 16) (e' := e_V) (as := []) (rest := []) (s' := fun _ => []) (g' := (0, 0)) v_OM_463_10 (fun Ψ hΨ => K_X12_leaves a0 M2 Ψ hΨ) rfl rfl (fun _ => rfl) (by decide) (by decide) rfl (Nat.le_of_ble_eq_true rfl) dX12_left_16 h (fun _ M3 h => ?_)
    refine j_aload_n C0 (pc := 19) dX12_left_19 rfl ?_
    refine X_gN C0 (pc := 20) f_OM_135_10 rfl dX12_left_20 h (fun v2 h => ?_)
    refine j_iload_n C0 (pc := 23) dX12_left_23 rfl ?_
    refine j_bipush C0 (pc := 24) dX12_left_24 (v := (64 : Int32)) (by decide) ?_
    refine X_idiv C0 (pc := 26) dX12_left_26 h (fun h => ?_)
    refine X_lald C0 (pc := 27) dX12_left_27 h (fun v3 h => ?_)
    refine j_iload_n C0 (pc := 28) dX12_left_28 rfl ?_
    refine j_bipush C0 (pc := 29) dX12_left_29 (v := (64 : Int32)) (by decide) ?_
    refine X_irem C0 (pc := 31) dX12_left_31 h (fun h => ?_)
    refine j_lshr C0 (pc := 32) dX12_left_32 (v := v3 >>> ((a1 - a1 / (64 : Int32) * (64 : Int32)).toInt64 &&& 63)) rfl ?_
    refine j_lconst C0 (pc := 33) dX12_left_33 (v := (1 : Int64)) (by decide) ?_
    refine j_land C0 (pc := 34) dX12_left_34 ?_
    refine j_l2i C0 (pc := 35) dX12_left_35 (v := ((v3 >>> ((a1 - a1 / (64 : Int32) * (64 : Int32)).toInt64 &&& 63)) &&& (1 : Int64)).toInt32) rfl ?_
    exact j_iret C rfl h dX12_left_36 (by decide)
  · replace h := (X_if h).1 hc
    refine j_iconst C0 (pc := 13) dX12_left_13 (v := (-1 : Int32)) (by decide) ?_
    exact j_iret C rfl h dX12_left_14 (by decide)
theorem dX12_mark_0 : decode cX12_mark 0 = .ok (.aload_n 0, 1) := by decide +kernel
theorem dX12_mark_1 : decode cX12_mark 1 = .ok (.iconst 0, 1) := by decide +kernel
theorem dX12_mark_2 : decode cX12_mark 2 = .ok (.putfield 163, 3) := by decide +kernel
theorem dX12_mark_5 : decode cX12_mark 5 = .ok (.iload_n 1, 1) := by decide +kernel
theorem dX12_mark_6 : decode cX12_mark 6 = .ok (.iconst 0, 1) := by decide +kernel
theorem dX12_mark_7 : decode cX12_mark 7 = .ok (.iconst 3, 1) := by decide +kernel
theorem dX12_mark_8 : decode cX12_mark 8 = .ok (.invokestatic 279, 3) := by decide +kernel
theorem dX12_mark_11 : decode cX12_mark 11 = .ok (.ifCond .eq 16, 3) := by decide +kernel
theorem dX12_mark_14 : decode cX12_mark 14 = .ok (.iload_n 2, 1) := by decide +kernel
theorem dX12_mark_15 : decode cX12_mark 15 = .ok (.ifCond .eq 14, 3) := by decide +kernel
theorem dX12_mark_18 : decode cX12_mark 18 = .ok (.aload_n 0, 1) := by decide +kernel
theorem dX12_mark_19 : decode cX12_mark 19 = .ok (.getfield 132, 3) := by decide +kernel
theorem dX12_mark_22 : decode cX12_mark 22 = .ok (.iload_n 1, 1) := by decide +kernel
theorem dX12_mark_23 : decode cX12_mark 23 = .ok (.baload, 1) := by decide +kernel
theorem dX12_mark_24 : decode cX12_mark 24 = .ok (.ifCond .ne 5, 3) := by decide +kernel
theorem dX12_mark_27 : decode cX12_mark 27 = .ok (.iconst 0, 1) := by decide +kernel
theorem dX12_mark_28 : decode cX12_mark 28 = .ok (.ireturn, 1) := by decide +kernel
theorem dX12_mark_29 : decode cX12_mark 29 = .ok (.aload_n 0, 1) := by decide +kernel
theorem dX12_mark_30 : decode cX12_mark 30 = .ok (.getfield 132, 3) := by decide +kernel
theorem dX12_mark_33 : decode cX12_mark 33 = .ok (.iload_n 1, 1) := by decide +kernel
theorem dX12_mark_34 : decode cX12_mark 34 = .ok (.iconst 1, 1) := by decide +kernel
theorem dX12_mark_35 : decode cX12_mark 35 = .ok (.bastore, 1) := by decide +kernel
theorem dX12_mark_36 : decode cX12_mark 36 = .ok (.iload_n 2, 1) := by decide +kernel
theorem dX12_mark_37 : decode cX12_mark 37 = .ok (.ifCond .eq 9, 3) := by decide +kernel
theorem dX12_mark_40 : decode cX12_mark 40 = .ok (.iconst 1, 1) := by decide +kernel
theorem dX12_mark_41 : decode cX12_mark 41 = .ok (.iload_n 1, 1) := by decide +kernel
theorem dX12_mark_42 : decode cX12_mark 42 = .ok (.iadd, 1) := by decide +kernel
theorem dX12_mark_43 : decode cX12_mark 43 = .ok (.goto 4, 3) := by decide +kernel
theorem dX12_mark_46 : decode cX12_mark 46 = .ok (.iconst 0, 1) := by decide +kernel
theorem dX12_mark_47 : decode cX12_mark 47 = .ok (.istore_n 3, 1) := by decide +kernel
theorem dX12_mark_48 : decode cX12_mark 48 = .ok (.iload_n 2, 1) := by decide +kernel
theorem dX12_mark_49 : decode cX12_mark 49 = .ok (.ifCond .eq 7, 3) := by decide +kernel
theorem dX12_mark_52 : decode cX12_mark 52 = .ok (.iconst 0, 1) := by decide +kernel
theorem dX12_mark_53 : decode cX12_mark 53 = .ok (.goto 6, 3) := by decide +kernel
theorem dX12_mark_56 : decode cX12_mark 56 = .ok (.iconst 1, 1) := by decide +kernel
theorem dX12_mark_57 : decode cX12_mark 57 = .ok (.iload_n 1, 1) := by decide +kernel
theorem dX12_mark_58 : decode cX12_mark 58 = .ok (.iadd, 1) := by decide +kernel
theorem dX12_mark_59 : decode cX12_mark 59 = .ok (.istore 4, 2) := by decide +kernel
theorem dX12_mark_61 : decode cX12_mark 61 = .ok (.aload_n 0, 1) := by decide +kernel
theorem dX12_mark_62 : decode cX12_mark 62 = .ok (.iload_n 3, 1) := by decide +kernel
theorem dX12_mark_63 : decode cX12_mark 63 = .ok (.iload 4, 2) := by decide +kernel
theorem dX12_mark_65 : decode cX12_mark 65 = .ok (.invokevirtual 423, 3) := by decide +kernel
theorem dX12_mark_68 : decode cX12_mark 68 = .ok (.aload_n 0, 1) := by decide +kernel
theorem dX12_mark_69 : decode cX12_mark 69 = .ok (.iload_n 3, 1) := by decide +kernel
theorem dX12_mark_70 : decode cX12_mark 70 = .ok (.iload 4, 2) := by decide +kernel
theorem dX12_mark_72 : decode cX12_mark 72 = .ok (.invokevirtual 584, 3) := by decide +kernel
theorem dX12_mark_75 : decode cX12_mark 75 = .ok (.iload_n 2, 1) := by decide +kernel
theorem dX12_mark_76 : decode cX12_mark 76 = .ok (.ifCond .eq 23, 3) := by decide +kernel
theorem dX12_mark_79 : decode cX12_mark 79 = .ok (.aload_n 0, 1) := by decide +kernel
theorem dX12_mark_80 : decode cX12_mark 80 = .ok (.aload_n 0, 1) := by decide +kernel
theorem dX12_mark_81 : decode cX12_mark 81 = .ok (.getfield 129, 3) := by decide +kernel
theorem dX12_mark_84 : decode cX12_mark 84 = .ok (.iconst 1, 1) := by decide +kernel
theorem dX12_mark_85 : decode cX12_mark 85 = .ok (.iload_n 1, 1) := by decide +kernel
theorem dX12_mark_86 : decode cX12_mark 86 = .ok (.iadd, 1) := by decide +kernel
theorem dX12_mark_87 : decode cX12_mark 87 = .ok (.iaload, 1) := by decide +kernel
theorem dX12_mark_88 : decode cX12_mark 88 = .ok (.putfield 433, 3) := by decide +kernel
theorem dX12_mark_91 : decode cX12_mark 91 = .ok (.aload_n 0, 1) := by decide +kernel
theorem dX12_mark_92 : decode cX12_mark 92 = .ok (.iconst 0, 1) := by decide +kernel
theorem dX12_mark_93 : decode cX12_mark 93 = .ok (.putfield 420, 3) := by decide +kernel
theorem dX12_mark_96 : decode cX12_mark 96 = .ok (.goto 15, 3) := by decide +kernel
theorem dX12_mark_99 : decode cX12_mark 99 = .ok (.aload_n 0, 1) := by decide +kernel
theorem dX12_mark_100 : decode cX12_mark 100 = .ok (.getfield 129, 3) := by decide +kernel
theorem dX12_mark_103 : decode cX12_mark 103 = .ok (.iconst 1, 1) := by decide +kernel
theorem dX12_mark_104 : decode cX12_mark 104 = .ok (.iload_n 1, 1) := by decide +kernel
theorem dX12_mark_105 : decode cX12_mark 105 = .ok (.iadd, 1) := by decide +kernel
theorem dX12_mark_106 : decode cX12_mark 106 = .ok (.aload_n 0, 1) := by decide +kernel
theorem dX12_mark_107 : decode cX12_mark 107 = .ok (.getfield 433, 3) := by decide +kernel
theorem dX12_mark_110 : decode cX12_mark 110 = .ok (.iastore, 1) := by decide +kernel
theorem dX12_mark_111 : decode cX12_mark 111 = .ok (.iconst 1, 1) := by decide +kernel
theorem dX12_mark_112 : decode cX12_mark 112 = .ok (.ireturn, 1) := by decide +kernel
noncomputable def F_X12_mark (a0 : Nat) (a1 : Int32) (a2 : Int32) (M : m_M) : Option (Int32 × m_M) :=
  x_pI 10 M a0 0 (0 : Int32) fun M1 =>
  x_bd (F_X12_within a1 (0 : Int32) (3 : Int32) M1) fun v1 M2 =>
  if v1 = 0 then (
    some ((0 : Int32), M2)
  ) else
  m_let (fun (v2 : Nat) (v3 : Int32) (v4 : Int32) (M3 : m_M) =>
    m_let (fun (v5 : Nat) (v6 : Int32) (v7 : Int32) (v8 : Int32) (M4 : m_M) =>
      m_let (fun (v9 : Nat) (v10 : Int32) (v11 : Int32) (v12 : Int32) (v13 : Int32) (M5 : m_M) =>
        x_cV 10 M5 v9 (F_X12_laysTold v9 v12 v13 M5) fun _ M6 =>
        x_cV 10 M6 v9 (F_X12_laysRest v9 v12 v13 M6) fun _ M7 =>
        if v11 = 0 then (
          x_gN 10 M7 v9 60 fun v14 =>
          x_gI 10 M7 v9 53 fun v15 =>
          x_sI 12 M7 v14 ((1 : Int32) + v10) v15 fun M8 =>
          some ((1 : Int32), M8)
        ) else
        x_gN 10 M7 v9 60 fun v16 =>
        x_aI 12 M7 v16 ((1 : Int32) + v10) fun v17 =>
        x_pI 10 M7 v9 53 v17 fun M9 =>
        x_pI 10 M9 v9 52 (0 : Int32) fun M10 =>
        some ((1 : Int32), M10)
      ) fun (k59 : Nat → Int32 → Int32 → Int32 → Int32 → m_M → Option (Int32 × m_M)) =>
      if v7 = 0 then (
        k59 v5 v6 v7 v8 ((1 : Int32) + v6) M4
      ) else
      k59 v5 v6 v7 v8 (0 : Int32) M4
    ) fun (k47 : Nat → Int32 → Int32 → Int32 → m_M → Option (Int32 × m_M)) =>
    x_gN 10 M3 v2 61 fun v18 =>
    x_sI 14 M3 v18 v3 (vp_nar .boolean (1 : Int32)) fun M11 =>
    if v4 = 0 then (
      k47 v2 v3 v4 (0 : Int32) M11
    ) else
    k47 v2 v3 v4 ((1 : Int32) + v3) M11
  ) fun (k29 : Nat → Int32 → Int32 → m_M → Option (Int32 × m_M)) =>
  if a2 = 0 then (
    k29 a0 a1 a2 M2
  ) else
  x_gN 10 M2 a0 61 fun v19 =>
  x_aI 14 M2 v19 a1 fun v20 =>
  if v20 = 0 then (
    some ((0 : Int32), M2)
  ) else
  k29 a0 a1 a2 M2
set_option maxHeartbeats 4000000 in
theorem K_X12_mark (a0 : Nat) (a1 : Int32) (a2 : Int32) (M : m_M) (Φ : Option Value → m_M → Prop) (h : m_ok e_I Φ (F_X12_mark a0 a1 a2 M)) : j_Ct yX12_mark cX12_mark 5 (some .boolean) 3 0 0 [.ref a0, .int a1, .int a2] M Φ := by
  refine j_Ct.of (by decide +kernel) (Nat.le_of_ble_eq_true rfl) fun X C => ?_
  have C0 := C.1
  show j_J X 5 0 [some (.ref a0), some (.int a1), some (.int a2), none, none] [] (0, 0) M
  unfold F_X12_mark at h
  refine j_aload_n C0 (pc := 0) dX12_mark_0 rfl ?_
  refine j_iconst C0 (pc := 1) dX12_mark_1 (v := (0 : Int32)) (by decide) ?_
  refine X_pI C0 (pc := 2) f_OM_163_10 rfl rfl dX12_mark_2 h (fun M1 h => ?_)
  refine j_iload_n C0 (pc := 5) dX12_mark_5 rfl ?_
  refine j_iconst C0 (pc := 6) dX12_mark_6 (v := (0 : Int32)) (by decide) ?_
  refine j_iconst C0 (pc := 7) dX12_mark_7 (v := (3 : Int32)) (by decide) ?_
  refine X_cS C0 (pc := 8) (e' := e_I) (as := [.int a1, .int (0 : Int32), .int (3 : Int32)]) (rest := []) (s' := fun w => .int w :: []) (g' := (0, 0)) s_OM_279 (fun Ψ hΨ => K_X12_within a1 (0 : Int32) (3 : Int32) M1 Ψ hΨ) rfl rfl (fun _ => rfl) (by decide) (by decide) rfl (Nat.le_of_ble_eq_true rfl) dX12_mark_8 h (fun v1 M2 h => ?_)
  refine j_if_eq C0 (pc := 11) (tgt := 27) dX12_mark_11 (by decide) (fun hc => ?_) (fun hc => ?_)
  · replace h := (X_if h).1 hc
    refine j_iconst C0 (pc := 27) dX12_mark_27 (v := (0 : Int32)) (by decide) ?_
    exact j_zret C rfl (by decide) h dX12_mark_28 (by decide)
  · replace h := (X_if h).2 hc
    refine X_join (fun (kj : Nat → Int32 → Int32 → m_M → Option (Int32 × m_M)) => ∀ (p0 : Nat) (p1 : Int32) (p2 : Int32) (M : m_M), m_ok e_I Φ (kj p0 p1 p2 M) → j_J X 5 29 [some (.ref p0), some (.int p1), some (.int p2), none, none] [] (0, 0) M) h (fun v2 v3 v4 M3 h => ?_) (fun k29 hk29 h => ?_)
    · refine X_join (fun (kj : Nat → Int32 → Int32 → Int32 → m_M → Option (Int32 × m_M)) => ∀ (p0 : Nat) (p1 : Int32) (p2 : Int32) (p3 : Int32) (M : m_M), m_ok e_I Φ (kj p0 p1 p2 p3 M) → j_J X 5 47 [some (.ref p0), some (.int p1), some (.int p2), none, none] [.int p3] (0, 0) M) h (fun v5 v6 v7 v8 M4 h => ?_) (fun k47 hk47 h => ?_)
      · refine X_join (fun (kj : Nat → Int32 → Int32 → Int32 → Int32 → m_M → Option (Int32 × m_M)) => ∀ (p0 : Nat) (p1 : Int32) (p2 : Int32) (p3 : Int32) (p4 : Int32) (M : m_M), m_ok e_I Φ (kj p0 p1 p2 p3 p4 M) → j_J X 5 59 [some (.ref p0), some (.int p1), some (.int p2), some (.int p3), none] [.int p4] (0, 0) M) h (fun v9 v10 v11 v12 v13 M5 h => ?_) (fun k59 hk59 h => ?_)
        · refine j_istore C0 (pc := 59) dX12_mark_59 (Nat.le_of_ble_eq_true rfl) ?_
          show j_J X 5 61 [some (.ref v9), some (.int v10), some (.int v11), some (.int v12), some (.int v13)] [] (0, 0) M5
          refine j_aload_n C0 (pc := 61) dX12_mark_61 rfl ?_
          refine j_iload_n C0 (pc := 62) dX12_mark_62 rfl ?_
          refine j_iload C0 (pc := 63) dX12_mark_63 rfl ?_
          refine X_cV C0 (pc := 65) (e' := e_V) (as := [.int v12, .int v13]) (rest := []) (s' := fun _ => []) (g' := (0, 0)) v_OM_423_10 (fun Ψ hΨ => K_X12_laysTold v9 v12 v13 M5 Ψ hΨ) rfl rfl (fun _ => rfl) (by decide) (by decide) rfl (Nat.le_of_ble_eq_true rfl) dX12_mark_65 h (fun _ M6 h => ?_)
          refine j_aload_n C0 (pc := 68) dX12_mark_68 rfl ?_
          refine j_iload_n C0 (pc := 69) dX12_mark_69 rfl ?_
          refine j_iload C0 (pc := 70) dX12_mark_70 rfl ?_
          refine X_cV C0 (pc := 72) (e' := e_V) (as := [.int v12, .int v13]) (rest := []) (s' := fun _ => []) (g' := (0, 0)) v_OM_584_10 (fun Ψ hΨ => K_X12_laysRest v9 v12 v13 M6 Ψ hΨ) rfl rfl (fun _ => rfl) (by decide) (by decide) rfl (Nat.le_of_ble_eq_true rfl) dX12_mark_72 h (fun _ M7 h => ?_)
          refine j_iload_n C0 (pc := 75) dX12_mark_75 rfl ?_
          refine j_if_eq C0 (pc := 76) (tgt := 99) dX12_mark_76 (by decide) (fun hc => ?_) (fun hc => ?_)
          · replace h := (X_if h).1 hc
            refine j_aload_n C0 (pc := 99) dX12_mark_99 rfl ?_
            refine X_gN C0 (pc := 100) f_OM_129_10 rfl dX12_mark_100 h (fun v14 h => ?_)
            refine j_iconst C0 (pc := 103) dX12_mark_103 (v := (1 : Int32)) (by decide) ?_
            refine j_iload_n C0 (pc := 104) dX12_mark_104 rfl ?_
            refine j_iadd C0 (pc := 105) dX12_mark_105 ?_
            refine j_aload_n C0 (pc := 106) dX12_mark_106 rfl ?_
            refine X_gI C0 (pc := 107) f_OM_433_10 rfl dX12_mark_107 h (fun v15 h => ?_)
            refine X_iast C0 (pc := 110) dX12_mark_110 h (fun M8 h => ?_)
            refine j_iconst C0 (pc := 111) dX12_mark_111 (v := (1 : Int32)) (by decide) ?_
            exact j_zret C rfl (by decide) h dX12_mark_112 (by decide)
          · replace h := (X_if h).2 hc
            refine j_aload_n C0 (pc := 79) dX12_mark_79 rfl ?_
            refine j_aload_n C0 (pc := 80) dX12_mark_80 rfl ?_
            refine X_gN C0 (pc := 81) f_OM_129_10 rfl dX12_mark_81 h (fun v16 h => ?_)
            refine j_iconst C0 (pc := 84) dX12_mark_84 (v := (1 : Int32)) (by decide) ?_
            refine j_iload_n C0 (pc := 85) dX12_mark_85 rfl ?_
            refine j_iadd C0 (pc := 86) dX12_mark_86 ?_
            refine X_iald C0 (pc := 87) dX12_mark_87 h (fun v17 h => ?_)
            refine X_pI C0 (pc := 88) f_OM_433_10 rfl rfl dX12_mark_88 h (fun M9 h => ?_)
            refine j_aload_n C0 (pc := 91) dX12_mark_91 rfl ?_
            refine j_iconst C0 (pc := 92) dX12_mark_92 (v := (0 : Int32)) (by decide) ?_
            refine X_pI C0 (pc := 93) f_OM_420_10 rfl rfl dX12_mark_93 h (fun M10 h => ?_)
            refine j_goto C0 (pc := 96) (tgt := 111) dX12_mark_96 (by decide) ?_
            refine j_iconst C0 (pc := 111) dX12_mark_111 (v := (1 : Int32)) (by decide) ?_
            exact j_zret C rfl (by decide) h dX12_mark_112 (by decide)
        · refine j_istore_n C0 (pc := 47) dX12_mark_47 (Nat.le_of_ble_eq_true rfl) ?_
          show j_J X 5 48 [some (.ref v5), some (.int v6), some (.int v7), some (.int v8), none] [] (0, 0) M4
          refine j_iload_n C0 (pc := 48) dX12_mark_48 rfl ?_
          refine j_if_eq C0 (pc := 49) (tgt := 56) dX12_mark_49 (by decide) (fun hc => ?_) (fun hc => ?_)
          · replace h := (X_if h).1 hc
            refine j_iconst C0 (pc := 56) dX12_mark_56 (v := (1 : Int32)) (by decide) ?_
            refine j_iload_n C0 (pc := 57) dX12_mark_57 rfl ?_
            refine j_iadd C0 (pc := 58) dX12_mark_58 ?_
            exact j_J.wq (hk59 v5 v6 v7 v8 ((1 : Int32) + v6) M4 h) (And.intro rfl (And.intro rfl (And.intro rfl (And.intro rfl (trivial)))))
          · replace h := (X_if h).2 hc
            refine j_iconst C0 (pc := 52) dX12_mark_52 (v := (0 : Int32)) (by decide) ?_
            refine j_goto C0 (pc := 53) (tgt := 59) dX12_mark_53 (by decide) ?_
            exact j_J.wq (hk59 v5 v6 v7 v8 (0 : Int32) M4 h) (And.intro rfl (And.intro rfl (And.intro rfl (And.intro rfl (trivial)))))
      · refine j_aload_n C0 (pc := 29) dX12_mark_29 rfl ?_
        refine X_gN C0 (pc := 30) f_OM_132_10 rfl dX12_mark_30 h (fun v18 h => ?_)
        refine j_iload_n C0 (pc := 33) dX12_mark_33 rfl ?_
        refine j_iconst C0 (pc := 34) dX12_mark_34 (v := (1 : Int32)) (by decide) ?_
        refine X_zast C0 (pc := 35) dX12_mark_35 h (fun M11 h => ?_)
        refine j_iload_n C0 (pc := 36) dX12_mark_36 rfl ?_
        refine j_if_eq C0 (pc := 37) (tgt := 46) dX12_mark_37 (by decide) (fun hc => ?_) (fun hc => ?_)
        · replace h := (X_if h).1 hc
          refine j_iconst C0 (pc := 46) dX12_mark_46 (v := (0 : Int32)) (by decide) ?_
          exact j_J.wq (hk47 v2 v3 v4 (0 : Int32) M11 h) (And.intro rfl (And.intro rfl (And.intro rfl (trivial))))
        · replace h := (X_if h).2 hc
          refine j_iconst C0 (pc := 40) dX12_mark_40 (v := (1 : Int32)) (by decide) ?_
          refine j_iload_n C0 (pc := 41) dX12_mark_41 rfl ?_
          refine j_iadd C0 (pc := 42) dX12_mark_42 ?_
          refine j_goto C0 (pc := 43) (tgt := 47) dX12_mark_43 (by decide) ?_
          exact j_J.wq (hk47 v2 v3 v4 ((1 : Int32) + v3) M11 h) (And.intro rfl (And.intro rfl (And.intro rfl (trivial))))
    · refine j_iload_n C0 (pc := 14) dX12_mark_14 rfl ?_
      refine j_if_eq C0 (pc := 15) (tgt := 29) dX12_mark_15 (by decide) (fun hc => ?_) (fun hc => ?_)
      · replace h := (X_if h).1 hc
        exact j_J.wq (hk29 a0 a1 a2 M2 h) (And.intro rfl (And.intro rfl (And.intro rfl (trivial))))
      · replace h := (X_if h).2 hc
        refine j_aload_n C0 (pc := 18) dX12_mark_18 rfl ?_
        refine X_gN C0 (pc := 19) f_OM_132_10 rfl dX12_mark_19 h (fun v19 h => ?_)
        refine j_iload_n C0 (pc := 22) dX12_mark_22 rfl ?_
        refine X_zald C0 (pc := 23) dX12_mark_23 h (fun v20 h => ?_)
        refine j_if_ne C0 (pc := 24) (tgt := 29) dX12_mark_24 (by decide) (fun hc => ?_) (fun hc => ?_)
        · replace h := (X_if h).2 hc
          exact j_J.wq (hk29 a0 a1 a2 M2 h) (And.intro rfl (And.intro rfl (And.intro rfl (trivial))))
        · replace h := (X_if h).1 hc
          refine j_iconst C0 (pc := 27) dX12_mark_27 (v := (0 : Int32)) (by decide) ?_
          exact j_zret C rfl (by decide) h dX12_mark_28 (by decide)
theorem dX12_meant_0 : decode cX12_meant 0 = .ok (.aload_n 0, 1) := by decide +kernel
theorem dX12_meant_1 : decode cX12_meant 1 = .ok (.iconst 0, 1) := by decide +kernel
theorem dX12_meant_2 : decode cX12_meant 2 = .ok (.putfield 163, 3) := by decide +kernel
theorem dX12_meant_5 : decode cX12_meant 5 = .ok (.aload_n 0, 1) := by decide +kernel
theorem dX12_meant_6 : decode cX12_meant 6 = .ok (.getfield 114, 3) := by decide +kernel
theorem dX12_meant_9 : decode cX12_meant 9 = .ok (.iconst 0, 1) := by decide +kernel
theorem dX12_meant_10 : decode cX12_meant 10 = .ok (.baload, 1) := by decide +kernel
theorem dX12_meant_11 : decode cX12_meant 11 = .ok (.ifCond .eq 26, 3) := by decide +kernel
theorem dX12_meant_14 : decode cX12_meant 14 = .ok (.iload_n 1, 1) := by decide +kernel
theorem dX12_meant_15 : decode cX12_meant 15 = .ok (.ifCond .lt 22, 3) := by decide +kernel
theorem dX12_meant_18 : decode cX12_meant 18 = .ok (.aload_n 0, 1) := by decide +kernel
theorem dX12_meant_19 : decode cX12_meant 19 = .ok (.aload_n 0, 1) := by decide +kernel
theorem dX12_meant_20 : decode cX12_meant 20 = .ok (.getfield 111, 3) := by decide +kernel
theorem dX12_meant_23 : decode cX12_meant 23 = .ok (.aload_n 0, 1) := by decide +kernel
theorem dX12_meant_24 : decode cX12_meant 24 = .ok (.iload_n 1, 1) := by decide +kernel
theorem dX12_meant_25 : decode cX12_meant 25 = .ok (.invokevirtual 436, 3) := by decide +kernel
theorem dX12_meant_28 : decode cX12_meant 28 = .ok (.invokestatic 481, 3) := by decide +kernel
theorem dX12_meant_31 : decode cX12_meant 31 = .ok (.invokevirtual 455, 3) := by decide +kernel
theorem dX12_meant_34 : decode cX12_meant 34 = .ok (.goto 4, 3) := by decide +kernel
theorem dX12_meant_37 : decode cX12_meant 37 = .ok (.iconst (-1), 1) := by decide +kernel
theorem dX12_meant_38 : decode cX12_meant 38 = .ok (.ireturn, 1) := by decide +kernel
noncomputable def F_X12_meant (a0 : Nat) (a1 : Int32) (M : m_M) : Option (Int32 × m_M) :=
  m_let (fun  (M1 : m_M) =>
    some ((-1 : Int32), M1)
  ) fun (k37 : m_M → Option (Int32 × m_M)) =>
  x_pI 10 M a0 0 (0 : Int32) fun M2 =>
  x_gN 10 M2 a0 55 fun v1 =>
  x_aI 14 M2 v1 (0 : Int32) fun v2 =>
  if v2 = 0 then (
    k37 M2
  ) else
  if a1 < 0 then (
    k37 M2
  ) else
  x_gN 10 M2 a0 54 fun v3 =>
  x_cV 10 M2 a0 (F_X12_verbOf a0 a1 M2) fun v4 M3 =>
  x_bd (F_X12_askedAt v4 M3) fun v5 M4 =>
  x_cV 10 M4 a0 (F_X12_countOf a0 v3 v5 M4) fun v6 M5 =>
  some (v6, M5)
set_option maxHeartbeats 4000000 in
theorem K_X12_meant (a0 : Nat) (a1 : Int32) (M : m_M) (Φ : Option Value → m_M → Prop) (h : m_ok e_I Φ (F_X12_meant a0 a1 M)) : j_Ct yX12_meant cX12_meant 2 (some .int) 3 0 0 [.ref a0, .int a1] M Φ := by
  refine j_Ct.of (by decide +kernel) (Nat.le_of_ble_eq_true rfl) fun X C => ?_
  have C0 := C.1
  show j_J X 2 0 [some (.ref a0), some (.int a1)] [] (0, 0) M
  unfold F_X12_meant at h
  refine X_join (fun (kj : m_M → Option (Int32 × m_M)) => ∀  (M : m_M), m_ok e_I Φ (kj M) → j_J X 2 37 [none, none] [] (0, 0) M) h (fun M1 h => ?_) (fun k37 hk37 h => ?_)
  · refine j_iconst C0 (pc := 37) dX12_meant_37 (v := (-1 : Int32)) (by decide) ?_
    exact j_iret C rfl h dX12_meant_38 (by decide)
  · refine j_aload_n C0 (pc := 0) dX12_meant_0 rfl ?_
    refine j_iconst C0 (pc := 1) dX12_meant_1 (v := (0 : Int32)) (by decide) ?_
    refine X_pI C0 (pc := 2) f_OM_163_10 rfl rfl dX12_meant_2 h (fun M2 h => ?_)
    refine j_aload_n C0 (pc := 5) dX12_meant_5 rfl ?_
    refine X_gN C0 (pc := 6) f_OM_114_10 rfl dX12_meant_6 h (fun v1 h => ?_)
    refine j_iconst C0 (pc := 9) dX12_meant_9 (v := (0 : Int32)) (by decide) ?_
    refine X_zald C0 (pc := 10) dX12_meant_10 h (fun v2 h => ?_)
    refine j_if_eq C0 (pc := 11) (tgt := 37) dX12_meant_11 (by decide) (fun hc => ?_) (fun hc => ?_)
    · replace h := (X_if h).1 hc
      exact j_J.wq (hk37 M2 h) (trivial)
    · replace h := (X_if h).2 hc
      refine j_iload_n C0 (pc := 14) dX12_meant_14 rfl ?_
      refine j_if_lt C0 (pc := 15) (tgt := 37) dX12_meant_15 (by decide) (fun hc => ?_) (fun hc => ?_)
      · replace h := (X_if h).1 hc
        exact j_J.wq (hk37 M2 h) (trivial)
      · replace h := (X_if h).2 hc
        refine j_aload_n C0 (pc := 18) dX12_meant_18 rfl ?_
        refine j_aload_n C0 (pc := 19) dX12_meant_19 rfl ?_
        refine X_gN C0 (pc := 20) f_OM_111_10 rfl dX12_meant_20 h (fun v3 h => ?_)
        refine j_aload_n C0 (pc := 23) dX12_meant_23 rfl ?_
        refine j_iload_n C0 (pc := 24) dX12_meant_24 rfl ?_
        refine X_cV C0 (pc := 25) (e' := e_I) (as := [.int a1]) (rest := [.ref v3, .ref a0]) (s' := fun w => .int w :: [.ref v3, .ref a0]) (g' := (0, 0)) v_OM_436_10 (fun Ψ hΨ => K_X12_verbOf a0 a1 M2 Ψ hΨ) rfl rfl (fun _ => rfl) (by decide) (by decide) rfl (Nat.le_of_ble_eq_true rfl) dX12_meant_25 h (fun v4 M3 h => ?_)
        refine X_cS C0 (pc := 28) (e' := e_I) (as := [.int v4]) (rest := [.ref v3, .ref a0]) (s' := fun w => .int w :: [.ref v3, .ref a0]) (g' := (0, 0)) s_OM_481 (fun Ψ hΨ => K_X12_askedAt v4 M3 Ψ hΨ) rfl rfl (fun _ => rfl) (by decide) (by decide) rfl (Nat.le_of_ble_eq_true rfl) dX12_meant_28 h (fun v5 M4 h => ?_)
        refine X_cV C0 (pc := 31) (e' := e_I) (as := [.ref v3, .int v5]) (rest := []) (s' := fun w => .int w :: []) (g' := (0, 0)) v_OM_455_10 (fun Ψ hΨ => K_X12_countOf a0 v3 v5 M4 Ψ hΨ) rfl rfl (fun _ => rfl) (by decide) (by decide) rfl (Nat.le_of_ble_eq_true rfl) dX12_meant_31 h (fun v6 M5 h => ?_)
        refine j_goto C0 (pc := 34) (tgt := 38) dX12_meant_34 (by decide) ?_
        exact j_iret C rfl h dX12_meant_38 (by decide)
theorem dX12_meet_0 : decode cX12_meet 0 = .ok (.iconst 0, 1) := by decide +kernel
theorem dX12_meet_1 : decode cX12_meet 1 = .ok (.istore 4, 2) := by decide +kernel
theorem dX12_meet_3 : decode cX12_meet 3 = .ok (.iload 4, 2) := by decide +kernel
theorem dX12_meet_5 : decode cX12_meet 5 = .ok (.aload_n 0, 1) := by decide +kernel
theorem dX12_meet_6 : decode cX12_meet 6 = .ok (.getfield 386, 3) := by decide +kernel
theorem dX12_meet_9 : decode cX12_meet 9 = .ok (.if_icmp .ge 49, 3) := by decide +kernel
theorem dX12_meet_12 : decode cX12_meet 12 = .ok (.aload_n 0, 1) := by decide +kernel
theorem dX12_meet_13 : decode cX12_meet 13 = .ok (.getfield 141, 3) := by decide +kernel
theorem dX12_meet_16 : decode cX12_meet 16 = .ok (.bipush 16, 2) := by decide +kernel
theorem dX12_meet_18 : decode cX12_meet 18 = .ok (.iload_n 1, 1) := by decide +kernel
theorem dX12_meet_19 : decode cX12_meet 19 = .ok (.imul, 1) := by decide +kernel
theorem dX12_meet_20 : decode cX12_meet 20 = .ok (.iload 4, 2) := by decide +kernel
theorem dX12_meet_22 : decode cX12_meet 22 = .ok (.iadd, 1) := by decide +kernel
theorem dX12_meet_23 : decode cX12_meet 23 = .ok (.laload, 1) := by decide +kernel
theorem dX12_meet_24 : decode cX12_meet 24 = .ok (.aload_n 0, 1) := by decide +kernel
theorem dX12_meet_25 : decode cX12_meet 25 = .ok (.getfield 144, 3) := by decide +kernel
theorem dX12_meet_28 : decode cX12_meet 28 = .ok (.bipush 16, 2) := by decide +kernel
theorem dX12_meet_30 : decode cX12_meet 30 = .ok (.iload_n 2, 1) := by decide +kernel
theorem dX12_meet_31 : decode cX12_meet 31 = .ok (.imul, 1) := by decide +kernel
theorem dX12_meet_32 : decode cX12_meet 32 = .ok (.iload 4, 2) := by decide +kernel
theorem dX12_meet_34 : decode cX12_meet 34 = .ok (.iadd, 1) := by decide +kernel
theorem dX12_meet_35 : decode cX12_meet 35 = .ok (.laload, 1) := by decide +kernel
theorem dX12_meet_36 : decode cX12_meet 36 = .ok (.land, 1) := by decide +kernel
theorem dX12_meet_37 : decode cX12_meet 37 = .ok (.aload_n 0, 1) := by decide +kernel
theorem dX12_meet_38 : decode cX12_meet 38 = .ok (.getfield 111, 3) := by decide +kernel
theorem dX12_meet_41 : decode cX12_meet 41 = .ok (.iload_n 3, 1) := by decide +kernel
theorem dX12_meet_42 : decode cX12_meet 42 = .ok (.iload 4, 2) := by decide +kernel
theorem dX12_meet_44 : decode cX12_meet 44 = .ok (.iadd, 1) := by decide +kernel
theorem dX12_meet_45 : decode cX12_meet 45 = .ok (.laload, 1) := by decide +kernel
theorem dX12_meet_46 : decode cX12_meet 46 = .ok (.lcmp, 1) := by decide +kernel
theorem dX12_meet_47 : decode cX12_meet 47 = .ok (.ifCond .eq 5, 3) := by decide +kernel
theorem dX12_meet_50 : decode cX12_meet 50 = .ok (.iconst 0, 1) := by decide +kernel
theorem dX12_meet_51 : decode cX12_meet 51 = .ok (.ireturn, 1) := by decide +kernel
theorem dX12_meet_52 : decode cX12_meet 52 = .ok (.iinc 4 1, 3) := by decide +kernel
theorem dX12_meet_55 : decode cX12_meet 55 = .ok (.goto (-52), 3) := by decide +kernel
theorem dX12_meet_58 : decode cX12_meet 58 = .ok (.iconst 1, 1) := by decide +kernel
theorem dX12_meet_59 : decode cX12_meet 59 = .ok (.ireturn, 1) := by decide +kernel
noncomputable def F_X12_meet_3 : Nat → Nat → Int32 → Int32 → Int32 → Int32 → m_M → Option (Int32 × m_M)
  | 0, _, _, _, _, _, _ => none
  | n + 1, v1, v2, v3, v4, v5, M =>
    x_gI 10 M v1 43 fun v6 =>
    if v6 ≤ v5 then (
      some ((1 : Int32), M)
    ) else
    x_gN 10 M v1 64 fun v7 =>
    x_aL M v7 (((16 : Int32) * v2) + v5) fun v8 =>
    x_gN 10 M v1 65 fun v9 =>
    x_aL M v9 (((16 : Int32) * v3) + v5) fun v10 =>
    x_gN 10 M v1 54 fun v11 =>
    x_aL M v11 (v4 + v5) fun v12 =>
    if (lg_cmp (v8 &&& v10) v12) = 0 then (
      m_let (v5 + (1 : Int32)) fun v13 =>
      F_X12_meet_3 n v1 v2 v3 v4 v13 M
    ) else
    some ((0 : Int32), M)
noncomputable def F_X12_meet (a0 : Nat) (a1 : Int32) (a2 : Int32) (a3 : Int32) (M : m_M) : Option (Int32 × m_M) :=
  F_X12_meet_3 m_FU a0 a1 a2 a3 (0 : Int32) M
set_option maxHeartbeats 4000000 in
theorem L_X12_meet_3 {X : j_X} {Φ : Option Value → m_M → Prop} (C : j_C X yX12_meet cX12_meet 5 (some .boolean) 1 0 0 Φ) : ∀ (n : Nat) (v1 : Nat) (v2 : Int32) (v3 : Int32) (v4 : Int32) (v5 : Int32) (M : m_M), m_ok e_I Φ (F_X12_meet_3 n v1 v2 v3 v4 v5 M) → j_J X 5 3 [some (.ref v1), some (.int v2), some (.int v3), some (.int v4), some (.int v5)] [] (0, 0) M := by
  have C0 := C.1
  intro n
  induction n with
  | zero => intro v1 v2 v3 v4 v5 M h; exact False.elim h
  | succ n ih =>
    intro v1 v2 v3 v4 v5 M h
    rw [F_X12_meet_3] at h
    refine j_iload C0 (pc := 3) dX12_meet_3 rfl ?_
    refine j_aload_n C0 (pc := 5) dX12_meet_5 rfl ?_
    refine X_gI C0 (pc := 6) f_OM_386_10 rfl dX12_meet_6 h (fun v6 h => ?_)
    refine j_icmp_ge C0 (pc := 9) (tgt := 58) dX12_meet_9 (by decide) (fun hc => ?_) (fun hc => ?_)
    · replace h := (X_if h).1 hc
      refine j_iconst C0 (pc := 58) dX12_meet_58 (v := (1 : Int32)) (by decide) ?_
      exact j_zret C rfl (by decide) h dX12_meet_59 (by decide)
    · replace h := (X_if h).2 hc
      refine j_aload_n C0 (pc := 12) dX12_meet_12 rfl ?_
      refine X_gN C0 (pc := 13) f_OM_141_10 rfl dX12_meet_13 h (fun v7 h => ?_)
      refine j_bipush C0 (pc := 16) dX12_meet_16 (v := (16 : Int32)) (by decide) ?_
      refine j_iload_n C0 (pc := 18) dX12_meet_18 rfl ?_
      refine j_imul C0 (pc := 19) dX12_meet_19 ?_
      refine j_iload C0 (pc := 20) dX12_meet_20 rfl ?_
      refine j_iadd C0 (pc := 22) dX12_meet_22 ?_
      refine X_lald C0 (pc := 23) dX12_meet_23 h (fun v8 h => ?_)
      refine j_aload_n C0 (pc := 24) dX12_meet_24 rfl ?_
      refine X_gN C0 (pc := 25) f_OM_144_10 rfl dX12_meet_25 h (fun v9 h => ?_)
      refine j_bipush C0 (pc := 28) dX12_meet_28 (v := (16 : Int32)) (by decide) ?_
      refine j_iload_n C0 (pc := 30) dX12_meet_30 rfl ?_
      refine j_imul C0 (pc := 31) dX12_meet_31 ?_
      refine j_iload C0 (pc := 32) dX12_meet_32 rfl ?_
      refine j_iadd C0 (pc := 34) dX12_meet_34 ?_
      refine X_lald C0 (pc := 35) dX12_meet_35 h (fun v10 h => ?_)
      refine j_land C0 (pc := 36) dX12_meet_36 ?_
      refine j_aload_n C0 (pc := 37) dX12_meet_37 rfl ?_
      refine X_gN C0 (pc := 38) f_OM_111_10 rfl dX12_meet_38 h (fun v11 h => ?_)
      refine j_iload_n C0 (pc := 41) dX12_meet_41 rfl ?_
      refine j_iload C0 (pc := 42) dX12_meet_42 rfl ?_
      refine j_iadd C0 (pc := 44) dX12_meet_44 ?_
      refine X_lald C0 (pc := 45) dX12_meet_45 h (fun v12 h => ?_)
      refine j_lcmp C0 (pc := 46) dX12_meet_46 ?_
      refine j_if_eq C0 (pc := 47) (tgt := 52) dX12_meet_47 (by decide) (fun hc => ?_) (fun hc => ?_)
      · replace h := (X_if h).1 hc
        refine j_iinc C0 (pc := 52) dX12_meet_52 (v := v5 + (1 : Int32)) rfl (Nat.le_of_ble_eq_true rfl) (by rfl) ?_
        refine X_let (G := fun w => j_J X 5 55 [some (.ref v1), some (.int v2), some (.int v3), some (.int v4), some (.int w)] [] (0, 0) M) h (fun v13 h => ?_)
        refine j_goto C0 (pc := 55) (tgt := 3) dX12_meet_55 (by decide) ?_
        exact j_J.wq (ih v1 v2 v3 v4 v13 M h) (And.intro rfl (And.intro rfl (And.intro rfl (And.intro rfl (And.intro rfl (trivial))))))
      · replace h := (X_if h).2 hc
        refine j_iconst C0 (pc := 50) dX12_meet_50 (v := (0 : Int32)) (by decide) ?_
        exact j_zret C rfl (by decide) h dX12_meet_51 (by decide)
set_option maxHeartbeats 4000000 in
theorem K_X12_meet (a0 : Nat) (a1 : Int32) (a2 : Int32) (a3 : Int32) (M : m_M) (Φ : Option Value → m_M → Prop) (h : m_ok e_I Φ (F_X12_meet a0 a1 a2 a3 M)) : j_Ct yX12_meet cX12_meet 5 (some .boolean) 1 0 0 [.ref a0, .int a1, .int a2, .int a3] M Φ := by
  refine j_Ct.of (by decide +kernel) (Nat.le_of_ble_eq_true rfl) fun X C => ?_
  have C0 := C.1
  show j_J X 5 0 [some (.ref a0), some (.int a1), some (.int a2), some (.int a3), none] [] (0, 0) M
  unfold F_X12_meet at h
  refine j_iconst C0 (pc := 0) dX12_meet_0 (v := (0 : Int32)) (by decide) ?_
  refine j_istore C0 (pc := 1) dX12_meet_1 (Nat.le_of_ble_eq_true rfl) ?_
  show j_J X 5 3 [some (.ref a0), some (.int a1), some (.int a2), some (.int a3), some (.int (0 : Int32))] [] (0, 0) M
  exact j_J.wq (L_X12_meet_3 C m_FU a0 a1 a2 a3 (0 : Int32) M h) (And.intro rfl (And.intro rfl (And.intro rfl (And.intro rfl (And.intro rfl (trivial))))))
theorem dX12_offers_0 : decode cX12_offers 0 = .ok (.aload_n 0, 1) := by decide +kernel
theorem dX12_offers_1 : decode cX12_offers 1 = .ok (.getfield 498, 3) := by decide +kernel
theorem dX12_offers_4 : decode cX12_offers 4 = .ok (.ifCond .lt 12, 3) := by decide +kernel
theorem dX12_offers_7 : decode cX12_offers 7 = .ok (.iload_n 1, 1) := by decide +kernel
theorem dX12_offers_8 : decode cX12_offers 8 = .ok (.aload_n 0, 1) := by decide +kernel
theorem dX12_offers_9 : decode cX12_offers 9 = .ok (.getfield 498, 3) := by decide +kernel
theorem dX12_offers_12 : decode cX12_offers 12 = .ok (.if_icmp .le 4, 3) := by decide +kernel
theorem dX12_offers_15 : decode cX12_offers 15 = .ok (.return_, 1) := by decide +kernel
theorem dX12_offers_16 : decode cX12_offers 16 = .ok (.aload_n 0, 1) := by decide +kernel
theorem dX12_offers_17 : decode cX12_offers 17 = .ok (.getfield 498, 3) := by decide +kernel
theorem dX12_offers_20 : decode cX12_offers 20 = .ok (.ifCond .lt 20, 3) := by decide +kernel
theorem dX12_offers_23 : decode cX12_offers 23 = .ok (.iload_n 1, 1) := by decide +kernel
theorem dX12_offers_24 : decode cX12_offers 24 = .ok (.aload_n 0, 1) := by decide +kernel
theorem dX12_offers_25 : decode cX12_offers 25 = .ok (.getfield 498, 3) := by decide +kernel
theorem dX12_offers_28 : decode cX12_offers 28 = .ok (.if_icmp .ne 12, 3) := by decide +kernel
theorem dX12_offers_31 : decode cX12_offers 31 = .ok (.iload_n 2, 1) := by decide +kernel
theorem dX12_offers_32 : decode cX12_offers 32 = .ok (.aload_n 0, 1) := by decide +kernel
theorem dX12_offers_33 : decode cX12_offers 33 = .ok (.getfield 501, 3) := by decide +kernel
theorem dX12_offers_36 : decode cX12_offers 36 = .ok (.if_icmp .lt 4, 3) := by decide +kernel
theorem dX12_offers_39 : decode cX12_offers 39 = .ok (.return_, 1) := by decide +kernel
theorem dX12_offers_40 : decode cX12_offers 40 = .ok (.aload_n 0, 1) := by decide +kernel
theorem dX12_offers_41 : decode cX12_offers 41 = .ok (.iload_n 1, 1) := by decide +kernel
theorem dX12_offers_42 : decode cX12_offers 42 = .ok (.putfield 498, 3) := by decide +kernel
theorem dX12_offers_45 : decode cX12_offers 45 = .ok (.aload_n 0, 1) := by decide +kernel
theorem dX12_offers_46 : decode cX12_offers 46 = .ok (.iload_n 2, 1) := by decide +kernel
theorem dX12_offers_47 : decode cX12_offers 47 = .ok (.putfield 501, 3) := by decide +kernel
theorem dX12_offers_50 : decode cX12_offers 50 = .ok (.aload_n 0, 1) := by decide +kernel
theorem dX12_offers_51 : decode cX12_offers 51 = .ok (.iload_n 3, 1) := by decide +kernel
theorem dX12_offers_52 : decode cX12_offers 52 = .ok (.putfield 504, 3) := by decide +kernel
theorem dX12_offers_55 : decode cX12_offers 55 = .ok (.aload_n 0, 1) := by decide +kernel
theorem dX12_offers_56 : decode cX12_offers 56 = .ok (.iload 4, 2) := by decide +kernel
theorem dX12_offers_58 : decode cX12_offers 58 = .ok (.putfield 507, 3) := by decide +kernel
theorem dX12_offers_61 : decode cX12_offers 61 = .ok (.return_, 1) := by decide +kernel
noncomputable def F_X12_offers (a0 : Nat) (a1 : Int32) (a2 : Int32) (a3 : Int32) (a4 : Int32) (M : m_M) : Option (Unit × m_M) :=
  m_let (fun (v1 : Nat) (v2 : Int32) (v3 : Int32) (v4 : Int32) (v5 : Int32) (M1 : m_M) =>
    m_let (fun (v6 : Nat) (v7 : Int32) (v8 : Int32) (v9 : Int32) (v10 : Int32) (M2 : m_M) =>
      x_pI 10 M2 v6 66 v7 fun M3 =>
      x_pI 10 M3 v6 67 v8 fun M4 =>
      x_pI 10 M4 v6 68 v9 fun M5 =>
      x_pI 10 M5 v6 69 v10 fun M6 =>
      some ((), M6)
    ) fun (k40 : Nat → Int32 → Int32 → Int32 → Int32 → m_M → Option (Unit × m_M)) =>
    x_gI 10 M1 v1 66 fun v11 =>
    if v11 < 0 then (
      k40 v1 v2 v3 v4 v5 M1
    ) else
    x_gI 10 M1 v1 66 fun v12 =>
    if v2 = v12 then (
      x_gI 10 M1 v1 67 fun v13 =>
      if v3 < v13 then (
        k40 v1 v2 v3 v4 v5 M1
      ) else
      some ((), M1)
    ) else
    k40 v1 v2 v3 v4 v5 M1
  ) fun (k16 : Nat → Int32 → Int32 → Int32 → Int32 → m_M → Option (Unit × m_M)) =>
  x_gI 10 M a0 66 fun v14 =>
  if v14 < 0 then (
    k16 a0 a1 a2 a3 a4 M
  ) else
  x_gI 10 M a0 66 fun v15 =>
  if a1 ≤ v15 then (
    k16 a0 a1 a2 a3 a4 M
  ) else
  some ((), M)
set_option maxHeartbeats 4000000 in
theorem K_X12_offers (a0 : Nat) (a1 : Int32) (a2 : Int32) (a3 : Int32) (a4 : Int32) (M : m_M) (Φ : Option Value → m_M → Prop) (h : m_ok e_V Φ (F_X12_offers a0 a1 a2 a3 a4 M)) : j_Ct yX12_offers cX12_offers 5 none 1 0 0 [.ref a0, .int a1, .int a2, .int a3, .int a4] M Φ := by
  refine j_Ct.of (by decide +kernel) (Nat.le_of_ble_eq_true rfl) fun X C => ?_
  have C0 := C.1
  show j_J X 5 0 [some (.ref a0), some (.int a1), some (.int a2), some (.int a3), some (.int a4)] [] (0, 0) M
  unfold F_X12_offers at h
  refine X_join (fun (kj : Nat → Int32 → Int32 → Int32 → Int32 → m_M → Option (Unit × m_M)) => ∀ (p0 : Nat) (p1 : Int32) (p2 : Int32) (p3 : Int32) (p4 : Int32) (M : m_M), m_ok e_V Φ (kj p0 p1 p2 p3 p4 M) → j_J X 5 16 [some (.ref p0), some (.int p1), some (.int p2), some (.int p3), some (.int p4)] [] (0, 0) M) h (fun v1 v2 v3 v4 v5 M1 h => ?_) (fun k16 hk16 h => ?_)
  · refine X_join (fun (kj : Nat → Int32 → Int32 → Int32 → Int32 → m_M → Option (Unit × m_M)) => ∀ (p0 : Nat) (p1 : Int32) (p2 : Int32) (p3 : Int32) (p4 : Int32) (M : m_M), m_ok e_V Φ (kj p0 p1 p2 p3 p4 M) → j_J X 5 40 [some (.ref p0), some (.int p1), some (.int p2), some (.int p3), some (.int p4)] [] (0, 0) M) h (fun v6 v7 v8 v9 v10 M2 h => ?_) (fun k40 hk40 h => ?_)
    · refine j_aload_n C0 (pc := 40) dX12_offers_40 rfl ?_
      refine j_iload_n C0 (pc := 41) dX12_offers_41 rfl ?_
      refine X_pI C0 (pc := 42) f_OM_498_10 rfl rfl dX12_offers_42 h (fun M3 h => ?_)
      refine j_aload_n C0 (pc := 45) dX12_offers_45 rfl ?_
      refine j_iload_n C0 (pc := 46) dX12_offers_46 rfl ?_
      refine X_pI C0 (pc := 47) f_OM_501_10 rfl rfl dX12_offers_47 h (fun M4 h => ?_)
      refine j_aload_n C0 (pc := 50) dX12_offers_50 rfl ?_
      refine j_iload_n C0 (pc := 51) dX12_offers_51 rfl ?_
      refine X_pI C0 (pc := 52) f_OM_504_10 rfl rfl dX12_offers_52 h (fun M5 h => ?_)
      refine j_aload_n C0 (pc := 55) dX12_offers_55 rfl ?_
      refine j_iload C0 (pc := 56) dX12_offers_56 rfl ?_
      refine X_pI C0 (pc := 58) f_OM_507_10 rfl rfl dX12_offers_58 h (fun M6 h => ?_)
      exact j_vret C rfl h dX12_offers_61 (by decide)
    · refine j_aload_n C0 (pc := 16) dX12_offers_16 rfl ?_
      refine X_gI C0 (pc := 17) f_OM_498_10 rfl dX12_offers_17 h (fun v11 h => ?_)
      refine j_if_lt C0 (pc := 20) (tgt := 40) dX12_offers_20 (by decide) (fun hc => ?_) (fun hc => ?_)
      · replace h := (X_if h).1 hc
        exact j_J.wq (hk40 v1 v2 v3 v4 v5 M1 h) (And.intro rfl (And.intro rfl (And.intro rfl (And.intro rfl (And.intro rfl (trivial))))))
      · replace h := (X_if h).2 hc
        refine j_iload_n C0 (pc := 23) dX12_offers_23 rfl ?_
        refine j_aload_n C0 (pc := 24) dX12_offers_24 rfl ?_
        refine X_gI C0 (pc := 25) f_OM_498_10 rfl dX12_offers_25 h (fun v12 h => ?_)
        refine j_icmp_ne C0 (pc := 28) (tgt := 40) dX12_offers_28 (by decide) (fun hc => ?_) (fun hc => ?_)
        · replace h := (X_if h).2 hc
          exact j_J.wq (hk40 v1 v2 v3 v4 v5 M1 h) (And.intro rfl (And.intro rfl (And.intro rfl (And.intro rfl (And.intro rfl (trivial))))))
        · replace h := (X_if h).1 hc
          refine j_iload_n C0 (pc := 31) dX12_offers_31 rfl ?_
          refine j_aload_n C0 (pc := 32) dX12_offers_32 rfl ?_
          refine X_gI C0 (pc := 33) f_OM_501_10 rfl dX12_offers_33 h (fun v13 h => ?_)
          refine j_icmp_lt C0 (pc := 36) (tgt := 40) dX12_offers_36 (by decide) (fun hc => ?_) (fun hc => ?_)
          · replace h := (X_if h).1 hc
            exact j_J.wq (hk40 v1 v2 v3 v4 v5 M1 h) (And.intro rfl (And.intro rfl (And.intro rfl (And.intro rfl (And.intro rfl (trivial))))))
          · replace h := (X_if h).2 hc
            exact j_vret C rfl h dX12_offers_39 (by decide)
  · refine j_aload_n C0 (pc := 0) dX12_offers_0 rfl ?_
    refine X_gI C0 (pc := 1) f_OM_498_10 rfl dX12_offers_1 h (fun v14 h => ?_)
    refine j_if_lt C0 (pc := 4) (tgt := 16) dX12_offers_4 (by decide) (fun hc => ?_) (fun hc => ?_)
    · replace h := (X_if h).1 hc
      exact j_J.wq (hk16 a0 a1 a2 a3 a4 M h) (And.intro rfl (And.intro rfl (And.intro rfl (And.intro rfl (And.intro rfl (trivial))))))
    · replace h := (X_if h).2 hc
      refine j_iload_n C0 (pc := 7) dX12_offers_7 rfl ?_
      refine j_aload_n C0 (pc := 8) dX12_offers_8 rfl ?_
      refine X_gI C0 (pc := 9) f_OM_498_10 rfl dX12_offers_9 h (fun v15 h => ?_)
      refine j_icmp_le C0 (pc := 12) (tgt := 16) dX12_offers_12 (by decide) (fun hc => ?_) (fun hc => ?_)
      · replace h := (X_if h).1 hc
        exact j_J.wq (hk16 a0 a1 a2 a3 a4 M h) (And.intro rfl (And.intro rfl (And.intro rfl (And.intro rfl (And.intro rfl (trivial))))))
      · replace h := (X_if h).2 hc
        exact j_vret C rfl h dX12_offers_15 (by decide)
