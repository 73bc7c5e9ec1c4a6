theorem dX4_readPlaces_0 : decode cX4_readPlaces 0 = .ok (.aload_n 0, 1) := by decide +kernel
theorem dX4_readPlaces_1 : decode cX4_readPlaces 1 = .ok (.getstatic 43, 3) := by decide +kernel
theorem dX4_readPlaces_4 : decode cX4_readPlaces 4 = .ok (.invokevirtual 49, 3) := by decide +kernel
theorem dX4_readPlaces_7 : decode cX4_readPlaces 7 = .ok (.ifCond .ne 5, 3) := by decide +kernel
theorem dX4_readPlaces_10 : decode cX4_readPlaces 10 = .ok (.iconst 0, 1) := by decide +kernel
theorem dX4_readPlaces_11 : decode cX4_readPlaces 11 = .ok (.ireturn, 1) := by decide +kernel
theorem dX4_readPlaces_12 : decode cX4_readPlaces 12 = .ok (.aload_n 0, 1) := by decide +kernel
theorem dX4_readPlaces_13 : decode cX4_readPlaces 13 = .ok (.iconst 2, 1) := by decide +kernel
theorem dX4_readPlaces_14 : decode cX4_readPlaces 14 = .ok (.iconst 4, 1) := by decide +kernel
theorem dX4_readPlaces_15 : decode cX4_readPlaces 15 = .ok (.invokevirtual 53, 3) := by decide +kernel
theorem dX4_readPlaces_18 : decode cX4_readPlaces 18 = .ok (.istore_n 1, 1) := by decide +kernel
theorem dX4_readPlaces_19 : decode cX4_readPlaces 19 = .ok (.iload_n 1, 1) := by decide +kernel
theorem dX4_readPlaces_20 : decode cX4_readPlaces 20 = .ok (.iconst (-1), 1) := by decide +kernel
theorem dX4_readPlaces_21 : decode cX4_readPlaces 21 = .ok (.if_icmp .ne 5, 3) := by decide +kernel
theorem dX4_readPlaces_24 : decode cX4_readPlaces 24 = .ok (.iconst 0, 1) := by decide +kernel
theorem dX4_readPlaces_25 : decode cX4_readPlaces 25 = .ok (.ireturn, 1) := by decide +kernel
theorem dX4_readPlaces_26 : decode cX4_readPlaces 26 = .ok (.aload_n 0, 1) := by decide +kernel
theorem dX4_readPlaces_27 : decode cX4_readPlaces 27 = .ok (.getfield 9, 3) := by decide +kernel
theorem dX4_readPlaces_30 : decode cX4_readPlaces 30 = .ok (.iload_n 1, 1) := by decide +kernel
theorem dX4_readPlaces_31 : decode cX4_readPlaces 31 = .ok (.putfield 57, 3) := by decide +kernel
theorem dX4_readPlaces_34 : decode cX4_readPlaces 34 = .ok (.aload_n 0, 1) := by decide +kernel
theorem dX4_readPlaces_35 : decode cX4_readPlaces 35 = .ok (.bipush 59, 2) := by decide +kernel
theorem dX4_readPlaces_37 : decode cX4_readPlaces 37 = .ok (.invokevirtual 60, 3) := by decide +kernel
theorem dX4_readPlaces_40 : decode cX4_readPlaces 40 = .ok (.ireturn, 1) := by decide +kernel
noncomputable def F_X4_readPlaces (a0 : Nat) (M : m_M) : Option (Int32 × m_M) :=
  x_cV 4 M a0 (F_X8_pass 4 a0 (1000000 + 0) M) fun v1 M1 =>
  if v1 = 0 then (
    some ((0 : Int32), M1)
  ) else
  x_cV 4 M1 a0 (F_X8_passNumber 4 a0 (2 : Int32) (4 : Int32) M1) fun v2 M2 =>
  if v2 = (-1 : Int32) then (
    some ((0 : Int32), M2)
  ) else
  x_gN 4 M2 a0 10 fun v3 =>
  x_pI 3 M2 v3 0 v2 fun M3 =>
  x_cV 4 M3 a0 (F_X8_pass_ 4 a0 (59 : Int32) M3) fun v4 M4 =>
  x_b v4 <| some (v4, M4)
set_option maxHeartbeats 4000000 in
theorem K_X4_readPlaces (a0 : Nat) (M : m_M) (Φ : Option Value → m_M → Prop) (h : m_ok e_I Φ (F_X4_readPlaces a0 M)) : j_Ct yX4_readPlaces cX4_readPlaces 2 (some .boolean) 8 0 0 [.ref a0] M Φ := by
  refine j_Ct.of (by decide +kernel) (Nat.le_of_ble_eq_true rfl) fun X C => ?_
  have C0 := C.1
  show j_J X 2 0 [some (.ref a0), none] [] (0, 0) M
  unfold F_X4_readPlaces at h
  refine j_aload_n C0 (pc := 0) dX4_readPlaces_0 rfl ?_
  refine j_kst C0 (pc := 1) (j := 0) (by decide) (j_c3 134 (by decide +kernel)) dX4_readPlaces_1 ?_
  refine X_cU C0 (pc := 4) (e' := e_I) (as := [.ref (1000000 + 0)]) (rest := []) (s' := fun w => .int w :: []) (g' := (0, 0)) u_LR_49_4 (fun Ψ hΨ => K_X8_pass_4 a0 (1000000 + 0) M Ψ hΨ) rfl rfl (fun _ => rfl) (by decide) (by decide) rfl (Nat.le_of_ble_eq_true rfl) dX4_readPlaces_4 h (fun v1 M1 h => ?_)
  refine j_if_ne C0 (pc := 7) (tgt := 12) dX4_readPlaces_7 (by decide) (fun hc => ?_) (fun hc => ?_)
  · replace h := (X_if h).2 hc
    refine j_aload_n C0 (pc := 12) dX4_readPlaces_12 rfl ?_
    refine j_iconst C0 (pc := 13) dX4_readPlaces_13 (v := (2 : Int32)) (by decide) ?_
    refine j_iconst C0 (pc := 14) dX4_readPlaces_14 (v := (4 : Int32)) (by decide) ?_
    refine X_cU C0 (pc := 15) (e' := e_I) (as := [.int (2 : Int32), .int (4 : Int32)]) (rest := []) (s' := fun w => .int w :: []) (g' := (0, 0)) u_LR_53_4 (fun Ψ hΨ => K_X8_passNumber_4 a0 (2 : Int32) (4 : Int32) M1 Ψ hΨ) rfl rfl (fun _ => rfl) (by decide) (by decide) rfl (Nat.le_of_ble_eq_true rfl) dX4_readPlaces_15 h (fun v2 M2 h => ?_)
    refine j_istore_n C0 (pc := 18) dX4_readPlaces_18 (Nat.le_of_ble_eq_true rfl) ?_
    show j_J X 2 19 [some (.ref a0), some (.int v2)] [] (0, 0) M2
    refine j_iload_n C0 (pc := 19) dX4_readPlaces_19 rfl ?_
    refine j_iconst C0 (pc := 20) dX4_readPlaces_20 (v := (-1 : Int32)) (by decide) ?_
    refine j_icmp_ne C0 (pc := 21) (tgt := 26) dX4_readPlaces_21 (by decide) (fun hc => ?_) (fun hc => ?_)
    · replace h := (X_if h).2 hc
      refine j_aload_n C0 (pc := 26) dX4_readPlaces_26 rfl ?_
      refine X_gN C0 (pc := 27) f_LR_9_4 rfl dX4_readPlaces_27 h (fun v3 h => ?_)
      refine j_iload_n C0 (pc := 30) dX4_readPlaces_30 rfl ?_
      refine X_pI C0 (pc := 31) f_LR_57_3 rfl rfl dX4_readPlaces_31 h (fun M3 h => ?_)
      refine j_aload_n C0 (pc := 34) dX4_readPlaces_34 rfl ?_
      refine j_bipush C0 (pc := 35) dX4_readPlaces_35 (v := (59 : Int32)) (by decide) ?_
      refine X_cU C0 (pc := 37) (e' := e_I) (as := [.int (59 : Int32)]) (rest := []) (s' := fun w => .int w :: []) (g' := (0, 0)) u_LR_60_4 (fun Ψ hΨ => K_X8_pass__4 a0 (59 : Int32) M3 Ψ hΨ) rfl rfl (fun _ => rfl) (by decide) (by decide) rfl (Nat.le_of_ble_eq_true rfl) dX4_readPlaces_37 h (fun v4 M4 h => ?_)
      exact j_zret C rfl (by rcases (X_gd h).1 with q | q <;> (rw [q]; rfl)) (X_gd h).2 dX4_readPlaces_40 (by decide)
    · replace h := (X_if h).1 hc
      refine j_iconst C0 (pc := 24) dX4_readPlaces_24 (v := (0 : Int32)) (by decide) ?_
      exact j_zret C rfl (by decide) h dX4_readPlaces_25 (by decide)
  · replace h := (X_if h).1 hc
    refine j_iconst C0 (pc := 10) dX4_readPlaces_10 (v := (0 : Int32)) (by decide) ?_
    exact j_zret C rfl (by decide) h dX4_readPlaces_11 (by decide)
theorem dX3_isTold_0 : decode cX3_isTold 0 = .ok (.iconst 0, 1) := by decide +kernel
theorem dX3_isTold_1 : decode cX3_isTold 1 = .ok (.istore_n 3, 1) := by decide +kernel
theorem dX3_isTold_2 : decode cX3_isTold 2 = .ok (.iload_n 3, 1) := by decide +kernel
theorem dX3_isTold_3 : decode cX3_isTold 3 = .ok (.iconst 4, 1) := by decide +kernel
theorem dX3_isTold_4 : decode cX3_isTold 4 = .ok (.if_icmp .ge 21, 3) := by decide +kernel
theorem dX3_isTold_7 : decode cX3_isTold 7 = .ok (.aload_n 0, 1) := by decide +kernel
theorem dX3_isTold_8 : decode cX3_isTold 8 = .ok (.iload_n 3, 1) := by decide +kernel
theorem dX3_isTold_9 : decode cX3_isTold 9 = .ok (.lload_n 1, 1) := by decide +kernel
theorem dX3_isTold_10 : decode cX3_isTold 10 = .ok (.invokevirtual 83, 3) := by decide +kernel
theorem dX3_isTold_13 : decode cX3_isTold 13 = .ok (.iconst (-1), 1) := by decide +kernel
theorem dX3_isTold_14 : decode cX3_isTold 14 = .ok (.if_icmp .eq 5, 3) := by decide +kernel
theorem dX3_isTold_17 : decode cX3_isTold 17 = .ok (.iconst 1, 1) := by decide +kernel
theorem dX3_isTold_18 : decode cX3_isTold 18 = .ok (.ireturn, 1) := by decide +kernel
theorem dX3_isTold_19 : decode cX3_isTold 19 = .ok (.iinc 3 1, 3) := by decide +kernel
theorem dX3_isTold_22 : decode cX3_isTold 22 = .ok (.goto (-20), 3) := by decide +kernel
theorem dX3_isTold_25 : decode cX3_isTold 25 = .ok (.iconst 0, 1) := by decide +kernel
theorem dX3_isTold_26 : decode cX3_isTold 26 = .ok (.ireturn, 1) := by decide +kernel
noncomputable def F_X3_isTold_2 : Nat → Nat → Int64 → Int32 → m_M → Option (Int32 × m_M)
  | 0, _, _, _, _ => none
  | n + 1, v1, v2, v3, M =>
    if (4 : Int32) ≤ v3 then (
      some ((0 : Int32), M)
    ) else
    x_cV 3 M v1 (F_X3_find v1 v3 v2 M) fun v4 M1 =>
    if v4 = (-1 : Int32) then (
      m_let (v3 + (1 : Int32)) fun v5 =>
      F_X3_isTold_2 n v1 v2 v5 M1
    ) else
    some ((1 : Int32), M1)
noncomputable def F_X3_isTold (a0 : Nat) (a1 : Int64) (M : m_M) : Option (Int32 × m_M) :=
  F_X3_isTold_2 m_FU a0 a1 (0 : Int32) M
set_option maxHeartbeats 4000000 in
theorem L_X3_isTold_2 {X : j_X} {Φ : Option Value → m_M → Prop} (C : j_C X yX3_isTold cX3_isTold 4 (some .boolean) 2 0 0 Φ) : ∀ (n : Nat) (v1 : Nat) (v2 : Int64) (v3 : Int32) (M : m_M), m_ok e_I Φ (F_X3_isTold_2 n v1 v2 v3 M) → j_J X 4 2 [some (.ref v1), some (.long v2), none, some (.int v3)] [] (0, 0) M := by
  have C0 := C.1
  intro n
  induction n with
  | zero => intro v1 v2 v3 M h; exact False.elim h
  | succ n ih =>
    intro v1 v2 v3 M h
    rw [F_X3_isTold_2] at h
    refine j_iload_n C0 (pc := 2) dX3_isTold_2 rfl ?_
    refine j_iconst C0 (pc := 3) dX3_isTold_3 (v := (4 : Int32)) (by decide) ?_
    refine j_icmp_ge C0 (pc := 4) (tgt := 25) dX3_isTold_4 (by decide) (fun hc => ?_) (fun hc => ?_)
    · replace h := (X_if h).1 hc
      refine j_iconst C0 (pc := 25) dX3_isTold_25 (v := (0 : Int32)) (by decide) ?_
      exact j_zret C rfl (by decide) h dX3_isTold_26 (by decide)
    · replace h := (X_if h).2 hc
      refine j_aload_n C0 (pc := 7) dX3_isTold_7 rfl ?_
      refine j_iload_n C0 (pc := 8) dX3_isTold_8 rfl ?_
      refine j_lload_n C0 (pc := 9) dX3_isTold_9 rfl ?_
      refine X_cV C0 (pc := 10) (e' := e_I) (as := [.int v3, .long v2]) (rest := []) (s' := fun w => .int w :: []) (g' := (0, 0)) v_Land_83_3 (fun Ψ hΨ => K_X3_find v1 v3 v2 M Ψ hΨ) rfl rfl (fun _ => rfl) (by decide) (by decide) rfl (Nat.le_of_ble_eq_true rfl) dX3_isTold_10 h (fun v4 M1 h => ?_)
      refine j_iconst C0 (pc := 13) dX3_isTold_13 (v := (-1 : Int32)) (by decide) ?_
      refine j_icmp_eq C0 (pc := 14) (tgt := 19) dX3_isTold_14 (by decide) (fun hc => ?_) (fun hc => ?_)
      · replace h := (X_if h).1 hc
        refine j_iinc C0 (pc := 19) dX3_isTold_19 (v := v3 + (1 : Int32)) rfl (Nat.le_of_ble_eq_true rfl) (by rfl) ?_
        refine X_let (G := fun w => j_J X 4 22 [some (.ref v1), some (.long v2), none, some (.int w)] [] (0, 0) M1) h (fun v5 h => ?_)
        refine j_goto C0 (pc := 22) (tgt := 2) dX3_isTold_22 (by decide) ?_
        exact j_J.wq (ih v1 v2 v5 M1 h) (And.intro rfl (And.intro rfl (And.intro rfl (trivial))))
      · replace h := (X_if h).2 hc
        refine j_iconst C0 (pc := 17) dX3_isTold_17 (v := (1 : Int32)) (by decide) ?_
        exact j_zret C rfl (by decide) h dX3_isTold_18 (by decide)
set_option maxHeartbeats 4000000 in
theorem K_X3_isTold (a0 : Nat) (a1 : Int64) (M : m_M) (Φ : Option Value → m_M → Prop) (h : m_ok e_I Φ (F_X3_isTold a0 a1 M)) : j_Ct yX3_isTold cX3_isTold 4 (some .boolean) 2 0 0 [.ref a0, .long a1] M Φ := by
  refine j_Ct.of (by decide +kernel) (Nat.le_of_ble_eq_true rfl) fun X C => ?_
  have C0 := C.1
  show j_J X 4 0 [some (.ref a0), some (.long a1), none, none] [] (0, 0) M
  unfold F_X3_isTold at h
  refine j_iconst C0 (pc := 0) dX3_isTold_0 (v := (0 : Int32)) (by decide) ?_
  refine j_istore_n C0 (pc := 1) dX3_isTold_1 (Nat.le_of_ble_eq_true rfl) ?_
  show j_J X 4 2 [some (.ref a0), some (.long a1), none, some (.int (0 : Int32))] [] (0, 0) M
  exact j_J.wq (L_X3_isTold_2 C m_FU a0 a1 (0 : Int32) M h) (And.intro rfl (And.intro rfl (And.intro rfl (trivial))))
theorem dX3_addName_0 : decode cX3_addName 0 = .ok (.aload_n 0, 1) := by decide +kernel
theorem dX3_addName_1 : decode cX3_addName 1 = .ok (.getfield 9, 3) := by decide +kernel
theorem dX3_addName_4 : decode cX3_addName 4 = .ok (.iload_n 1, 1) := by decide +kernel
theorem dX3_addName_5 : decode cX3_addName 5 = .ok (.iaload, 1) := by decide +kernel
theorem dX3_addName_6 : decode cX3_addName 6 = .ok (.bipush 8, 2) := by decide +kernel
theorem dX3_addName_8 : decode cX3_addName 8 = .ok (.if_icmp .ge 30, 3) := by decide +kernel
theorem dX3_addName_11 : decode cX3_addName 11 = .ok (.aload_n 0, 1) := by decide +kernel
theorem dX3_addName_12 : decode cX3_addName 12 = .ok (.getfield 24, 3) := by decide +kernel
theorem dX3_addName_15 : decode cX3_addName 15 = .ok (.iload_n 1, 1) := by decide +kernel
theorem dX3_addName_16 : decode cX3_addName 16 = .ok (.bipush 8, 2) := by decide +kernel
theorem dX3_addName_18 : decode cX3_addName 18 = .ok (.imul, 1) := by decide +kernel
theorem dX3_addName_19 : decode cX3_addName 19 = .ok (.aload_n 0, 1) := by decide +kernel
theorem dX3_addName_20 : decode cX3_addName 20 = .ok (.getfield 9, 3) := by decide +kernel
theorem dX3_addName_23 : decode cX3_addName 23 = .ok (.iload_n 1, 1) := by decide +kernel
theorem dX3_addName_24 : decode cX3_addName 24 = .ok (.iaload, 1) := by decide +kernel
theorem dX3_addName_25 : decode cX3_addName 25 = .ok (.iadd, 1) := by decide +kernel
theorem dX3_addName_26 : decode cX3_addName 26 = .ok (.lload_n 2, 1) := by decide +kernel
theorem dX3_addName_27 : decode cX3_addName 27 = .ok (.lastore, 1) := by decide +kernel
theorem dX3_addName_28 : decode cX3_addName 28 = .ok (.aload_n 0, 1) := by decide +kernel
theorem dX3_addName_29 : decode cX3_addName 29 = .ok (.getfield 9, 3) := by decide +kernel
theorem dX3_addName_32 : decode cX3_addName 32 = .ok (.iload_n 1, 1) := by decide +kernel
theorem dX3_addName_33 : decode cX3_addName 33 = .ok (.dup2, 1) := by decide +kernel
theorem dX3_addName_34 : decode cX3_addName 34 = .ok (.iaload, 1) := by decide +kernel
theorem dX3_addName_35 : decode cX3_addName 35 = .ok (.iconst 1, 1) := by decide +kernel
theorem dX3_addName_36 : decode cX3_addName 36 = .ok (.iadd, 1) := by decide +kernel
theorem dX3_addName_37 : decode cX3_addName 37 = .ok (.iastore, 1) := by decide +kernel
theorem dX3_addName_38 : decode cX3_addName 38 = .ok (.return_, 1) := by decide +kernel
noncomputable def F_X3_addName (a0 : Nat) (a1 : Int32) (a2 : Int64) (M : m_M) : Option (Unit × m_M) :=
  x_gN 3 M a0 6 fun v1 =>
  x_aI 12 M v1 a1 fun v2 =>
  if (8 : Int32) ≤ v2 then (
    some ((), M)
  ) else
  x_gN 3 M a0 10 fun v3 =>
  x_gN 3 M a0 6 fun v4 =>
  x_aI 12 M v4 a1 fun v5 =>
  x_sL M v3 ((a1 * (8 : Int32)) + v5) a2 fun M1 =>
  x_gN 3 M1 a0 6 fun v6 =>
  x_aI 12 M1 v6 a1 fun v7 =>
  x_sI 12 M1 v6 a1 (v7 + (1 : Int32)) fun M2 =>
  some ((), M2)
set_option maxHeartbeats 4000000 in
theorem K_X3_addName (a0 : Nat) (a1 : Int32) (a2 : Int64) (M : m_M) (Φ : Option Value → m_M → Prop) (h : m_ok e_V Φ (F_X3_addName a0 a1 a2 M)) : j_Ct yX3_addName cX3_addName 4 none 1 0 0 [.ref a0, .int a1, .long a2] M Φ := by
  refine j_Ct.of (by decide +kernel) (Nat.le_of_ble_eq_true rfl) fun X C => ?_
  have C0 := C.1
  show j_J X 4 0 [some (.ref a0), some (.int a1), some (.long a2), none] [] (0, 0) M
  unfold F_X3_addName at h
  refine j_aload_n C0 (pc := 0) dX3_addName_0 rfl ?_
  refine X_gN C0 (pc := 1) f_Land_9_3 rfl dX3_addName_1 h (fun v1 h => ?_)
  refine j_iload_n C0 (pc := 4) dX3_addName_4 rfl ?_
  refine X_iald C0 (pc := 5) dX3_addName_5 h (fun v2 h => ?_)
  refine j_bipush C0 (pc := 6) dX3_addName_6 (v := (8 : Int32)) (by decide) ?_
  refine j_icmp_ge C0 (pc := 8) (tgt := 38) dX3_addName_8 (by decide) (fun hc => ?_) (fun hc => ?_)
  · replace h := (X_if h).1 hc
    exact j_vret C rfl h dX3_addName_38 (by decide)
  · replace h := (X_if h).2 hc
    refine j_aload_n C0 (pc := 11) dX3_addName_11 rfl ?_
    refine X_gN C0 (pc := 12) f_Land_24_3 rfl dX3_addName_12 h (fun v3 h => ?_)
    refine j_iload_n C0 (pc := 15) dX3_addName_15 rfl ?_
    refine j_bipush C0 (pc := 16) dX3_addName_16 (v := (8 : Int32)) (by decide) ?_
    refine j_imul C0 (pc := 18) dX3_addName_18 ?_
    refine j_aload_n C0 (pc := 19) dX3_addName_19 rfl ?_
    refine X_gN C0 (pc := 20) f_Land_9_3 rfl dX3_addName_20 h (fun v4 h => ?_)
    refine j_iload_n C0 (pc := 23) dX3_addName_23 rfl ?_
    refine X_iald C0 (pc := 24) dX3_addName_24 h (fun v5 h => ?_)
    refine j_iadd C0 (pc := 25) dX3_addName_25 ?_
    refine j_lload_n C0 (pc := 26) dX3_addName_26 rfl ?_
    refine X_last C0 (pc := 27) dX3_addName_27 h (fun M1 h => ?_)
    refine j_aload_n C0 (pc := 28) dX3_addName_28 rfl ?_
    refine X_gN C0 (pc := 29) f_Land_9_3 rfl dX3_addName_29 h (fun v6 h => ?_)
    refine j_iload_n C0 (pc := 32) dX3_addName_32 rfl ?_
    refine j_dup2 C0 (pc := 33) dX3_addName_33 rfl rfl ?_
    refine X_iald C0 (pc := 34) dX3_addName_34 h (fun v7 h => ?_)
    refine j_iconst C0 (pc := 35) dX3_addName_35 (v := (1 : Int32)) (by decide) ?_
    refine j_iadd C0 (pc := 36) dX3_addName_36 ?_
    refine X_iast C0 (pc := 37) dX3_addName_37 h (fun M2 h => ?_)
    exact j_vret C rfl h dX3_addName_38 (by decide)
theorem dX4_readNamed_0 : decode cX4_readNamed 0 = .ok (.aload_n 0, 1) := by decide +kernel
theorem dX4_readNamed_1 : decode cX4_readNamed 1 = .ok (.getfield 9, 3) := by decide +kernel
theorem dX4_readNamed_4 : decode cX4_readNamed 4 = .ok (.getfield 122, 3) := by decide +kernel
theorem dX4_readNamed_7 : decode cX4_readNamed 7 = .ok (.iload_n 1, 1) := by decide +kernel
theorem dX4_readNamed_8 : decode cX4_readNamed 8 = .ok (.iaload, 1) := by decide +kernel
theorem dX4_readNamed_9 : decode cX4_readNamed 9 = .ok (.getstatic 126, 3) := by decide +kernel
theorem dX4_readNamed_12 : decode cX4_readNamed 12 = .ok (.iload_n 1, 1) := by decide +kernel
theorem dX4_readNamed_13 : decode cX4_readNamed 13 = .ok (.iaload, 1) := by decide +kernel
theorem dX4_readNamed_14 : decode cX4_readNamed 14 = .ok (.if_icmp .lt 9, 3) := by decide +kernel
theorem dX4_readNamed_17 : decode cX4_readNamed 17 = .ok (.aload_n 0, 1) := by decide +kernel
theorem dX4_readNamed_18 : decode cX4_readNamed 18 = .ok (.iconst 5, 1) := by decide +kernel
theorem dX4_readNamed_19 : decode cX4_readNamed 19 = .ok (.invokevirtual 100, 3) := by decide +kernel
theorem dX4_readNamed_22 : decode cX4_readNamed 22 = .ok (.ireturn, 1) := by decide +kernel
theorem dX4_readNamed_23 : decode cX4_readNamed 23 = .ok (.aload_n 0, 1) := by decide +kernel
theorem dX4_readNamed_24 : decode cX4_readNamed 24 = .ok (.invokevirtual 129, 3) := by decide +kernel
theorem dX4_readNamed_27 : decode cX4_readNamed 27 = .ok (.aload_n 0, 1) := by decide +kernel
theorem dX4_readNamed_28 : decode cX4_readNamed 28 = .ok (.invokevirtual 132, 3) := by decide +kernel
theorem dX4_readNamed_31 : decode cX4_readNamed 31 = .ok (.ifCond .ne 9, 3) := by decide +kernel
theorem dX4_readNamed_34 : decode cX4_readNamed 34 = .ok (.aload_n 0, 1) := by decide +kernel
theorem dX4_readNamed_35 : decode cX4_readNamed 35 = .ok (.iconst 1, 1) := by decide +kernel
theorem dX4_readNamed_36 : decode cX4_readNamed 36 = .ok (.invokevirtual 100, 3) := by decide +kernel
theorem dX4_readNamed_39 : decode cX4_readNamed 39 = .ok (.ireturn, 1) := by decide +kernel
theorem dX4_readNamed_40 : decode cX4_readNamed 40 = .ok (.aload_n 0, 1) := by decide +kernel
theorem dX4_readNamed_41 : decode cX4_readNamed 41 = .ok (.getfield 9, 3) := by decide +kernel
theorem dX4_readNamed_44 : decode cX4_readNamed 44 = .ok (.aload_n 0, 1) := by decide +kernel
theorem dX4_readNamed_45 : decode cX4_readNamed 45 = .ok (.getfield 135, 3) := by decide +kernel
theorem dX4_readNamed_48 : decode cX4_readNamed 48 = .ok (.invokevirtual 139, 3) := by decide +kernel
theorem dX4_readNamed_51 : decode cX4_readNamed 51 = .ok (.ifCond .eq 9, 3) := by decide +kernel
theorem dX4_readNamed_54 : decode cX4_readNamed 54 = .ok (.aload_n 0, 1) := by decide +kernel
theorem dX4_readNamed_55 : decode cX4_readNamed 55 = .ok (.iconst 3, 1) := by decide +kernel
theorem dX4_readNamed_56 : decode cX4_readNamed 56 = .ok (.invokevirtual 100, 3) := by decide +kernel
theorem dX4_readNamed_59 : decode cX4_readNamed 59 = .ok (.ireturn, 1) := by decide +kernel
theorem dX4_readNamed_60 : decode cX4_readNamed 60 = .ok (.aload_n 0, 1) := by decide +kernel
theorem dX4_readNamed_61 : decode cX4_readNamed 61 = .ok (.getfield 9, 3) := by decide +kernel
theorem dX4_readNamed_64 : decode cX4_readNamed 64 = .ok (.iload_n 1, 1) := by decide +kernel
theorem dX4_readNamed_65 : decode cX4_readNamed 65 = .ok (.aload_n 0, 1) := by decide +kernel
theorem dX4_readNamed_66 : decode cX4_readNamed 66 = .ok (.getfield 135, 3) := by decide +kernel
theorem dX4_readNamed_69 : decode cX4_readNamed 69 = .ok (.invokevirtual 143, 3) := by decide +kernel
theorem dX4_readNamed_72 : decode cX4_readNamed 72 = .ok (.aload_n 0, 1) := by decide +kernel
theorem dX4_readNamed_73 : decode cX4_readNamed 73 = .ok (.invokevirtual 129, 3) := by decide +kernel
theorem dX4_readNamed_76 : decode cX4_readNamed 76 = .ok (.iconst 1, 1) := by decide +kernel
theorem dX4_readNamed_77 : decode cX4_readNamed 77 = .ok (.ireturn, 1) := by decide +kernel
noncomputable def F_X4_readNamed (a0 : Nat) (a1 : Int32) (M : m_M) : Option (Int32 × m_M) :=
  x_gN 4 M a0 10 fun v1 =>
  x_gN 3 M v1 6 fun v2 =>
  x_aI 12 M v2 a1 fun v3 =>
  x_ki 4 a1 fun v4 =>
  if v3 < (k_most.getD v4 0) then (
    x_cV 4 M a0 (F_X8_advance 4 a0 M) fun _ M1 =>
    x_cV 4 M1 a0 (F_X8_isAtName 4 a0 M1) fun v5 M2 =>
    if v5 = 0 then (
      x_cV 4 M2 a0 (F_X8_fail 4 a0 (1 : Int32) M2) fun v12 M7 =>
      x_b v12 <| some (v12, M7)
    ) else
    x_gN 4 M2 a0 10 fun v6 =>
    x_gL 4 M2 a0 7 fun v7 =>
    x_cV 3 M2 v6 (F_X3_isTold v6 v7 M2) fun v8 M3 =>
    if v8 = 0 then (
      x_gN 4 M3 a0 10 fun v9 =>
      x_gL 4 M3 a0 7 fun v10 =>
      x_cV 3 M3 v9 (F_X3_addName v9 a1 v10 M3) fun _ M4 =>
      x_cV 4 M4 a0 (F_X8_advance 4 a0 M4) fun _ M5 =>
      some ((1 : Int32), M5)
    ) else
    x_cV 4 M3 a0 (F_X8_fail 4 a0 (3 : Int32) M3) fun v11 M6 =>
    x_b v11 <| some (v11, M6)
  ) else
  x_cV 4 M a0 (F_X8_fail 4 a0 (5 : Int32) M) fun v13 M8 =>
  x_b v13 <| some (v13, M8)
set_option maxHeartbeats 4000000 in
theorem K_X4_readNamed (a0 : Nat) (a1 : Int32) (M : m_M) (Φ : Option Value → m_M → Prop) (h : m_ok e_I Φ (F_X4_readNamed a0 a1 M)) : j_Ct yX4_readNamed cX4_readNamed 2 (some .boolean) 7 0 0 [.ref a0, .int a1] M Φ := by
  refine j_Ct.of (by decide +kernel) (Nat.le_of_ble_eq_true rfl) fun X C => ?_
  have C0 := C.1
  show j_J X 2 0 [some (.ref a0), some (.int a1)] [] (0, 0) M
  unfold F_X4_readNamed at h
  refine j_aload_n C0 (pc := 0) dX4_readNamed_0 rfl ?_
  refine X_gN C0 (pc := 1) f_LR_9_4 rfl dX4_readNamed_1 h (fun v1 h => ?_)
  refine X_gN C0 (pc := 4) f_LR_122_3 rfl dX4_readNamed_4 h (fun v2 h => ?_)
  refine j_iload_n C0 (pc := 7) dX4_readNamed_7 rfl ?_
  refine X_iald C0 (pc := 8) dX4_readNamed_8 h (fun v3 h => ?_)
  refine j_kmost C0 (pc := 9) (List.mem_of_getElem? (i := 0) (by decide +kernel)) dX4_readNamed_9 ?_
  refine j_iload_n C0 (pc := 12) dX4_readNamed_12 rfl ?_
  refine X_kmi C0 (pc := 13) dX4_readNamed_13 h (fun v4 h => ?_)
  refine j_icmp_lt C0 (pc := 14) (tgt := 23) dX4_readNamed_14 (by decide) (fun hc => ?_) (fun hc => ?_)
  · replace h := (X_if h).1 hc
    refine j_aload_n C0 (pc := 23) dX4_readNamed_23 rfl ?_
    refine X_cU C0 (pc := 24) (e' := e_V) (as := []) (rest := []) (s' := fun _ => []) (g' := (0, 0)) u_LR_129_4 (fun Ψ hΨ => K_X8_advance_4 a0 M Ψ hΨ) rfl rfl (fun _ => rfl) (by decide) (by decide) rfl (Nat.le_of_ble_eq_true rfl) dX4_readNamed_24 h (fun _ M1 h => ?_)
    refine j_aload_n C0 (pc := 27) dX4_readNamed_27 rfl ?_
    refine X_cU C0 (pc := 28) (e' := e_I) (as := []) (rest := []) (s' := fun w => .int w :: []) (g' := (0, 0)) u_LR_132_4 (fun Ψ hΨ => K_X8_isAtName_4 a0 M1 Ψ hΨ) rfl rfl (fun _ => rfl) (by decide) (by decide) rfl (Nat.le_of_ble_eq_true rfl) dX4_readNamed_28 h (fun v5 M2 h => ?_)
    refine j_if_ne C0 (pc := 31) (tgt := 40) dX4_readNamed_31 (by decide) (fun hc => ?_) (fun hc => ?_)
    · replace h := (X_if h).2 hc
      refine j_aload_n C0 (pc := 40) dX4_readNamed_40 rfl ?_
      refine X_gN C0 (pc := 41) f_LR_9_4 rfl dX4_readNamed_41 h (fun v6 h => ?_)
      refine j_aload_n C0 (pc := 44) dX4_readNamed_44 rfl ?_
      refine X_gL C0 (pc := 45) f_LR_135_4 rfl dX4_readNamed_45 h (fun v7 h => ?_)
      refine X_cV C0 (pc := 48) (e' := e_I) (as := [.long v7]) (rest := []) (s' := fun w => .int w :: []) (g' := (0, 0)) v_LR_139_3 (fun Ψ hΨ => K_X3_isTold v6 v7 M2 Ψ hΨ) rfl rfl (fun _ => rfl) (by decide) (by decide) rfl (Nat.le_of_ble_eq_true rfl) dX4_readNamed_48 h (fun v8 M3 h => ?_)
      refine j_if_eq C0 (pc := 51) (tgt := 60) dX4_readNamed_51 (by decide) (fun hc => ?_) (fun hc => ?_)
      · replace h := (X_if h).1 hc
        refine j_aload_n C0 (pc := 60) dX4_readNamed_60 rfl ?_
        refine X_gN C0 (pc := 61) f_LR_9_4 rfl dX4_readNamed_61 h (fun v9 h => ?_)
        refine j_iload_n C0 (pc := 64) dX4_readNamed_64 rfl ?_
        refine j_aload_n C0 (pc := 65) dX4_readNamed_65 rfl ?_
        refine X_gL C0 (pc := 66) f_LR_135_4 rfl dX4_readNamed_66 h (fun v10 h => ?_)
        refine X_cV C0 (pc := 69) (e' := e_V) (as := [.int a1, .long v10]) (rest := []) (s' := fun _ => []) (g' := (0, 0)) v_LR_143_3 (fun Ψ hΨ => K_X3_addName v9 a1 v10 M3 Ψ hΨ) rfl rfl (fun _ => rfl) (by decide) (by decide) rfl (Nat.le_of_ble_eq_true rfl) dX4_readNamed_69 h (fun _ M4 h => ?_)
        refine j_aload_n C0 (pc := 72) dX4_readNamed_72 rfl ?_
        refine X_cU C0 (pc := 73) (e' := e_V) (as := []) (rest := []) (s' := fun _ => []) (g' := (0, 0)) u_LR_129_4 (fun Ψ hΨ => K_X8_advance_4 a0 M4 Ψ hΨ) rfl rfl (fun _ => rfl) (by decide) (by decide) rfl (Nat.le_of_ble_eq_true rfl) dX4_readNamed_73 h (fun _ M5 h => ?_)
        refine j_iconst C0 (pc := 76) dX4_readNamed_76 (v := (1 : Int32)) (by decide) ?_
        exact j_zret C rfl (by decide) h dX4_readNamed_77 (by decide)
      · replace h := (X_if h).2 hc
        refine j_aload_n C0 (pc := 54) dX4_readNamed_54 rfl ?_
        refine j_iconst C0 (pc := 55) dX4_readNamed_55 (v := (3 : Int32)) (by decide) ?_
        refine X_cU C0 (pc := 56) (e' := e_I) (as := [.int (3 : Int32)]) (rest := []) (s' := fun w => .int w :: []) (g' := (0, 0)) u_LR_100_4 (fun Ψ hΨ => K_X8_fail_4 a0 (3 : Int32) M3 Ψ hΨ) rfl rfl (fun _ => rfl) (by decide) (by decide) rfl (Nat.le_of_ble_eq_true rfl) dX4_readNamed_56 h (fun v11 M6 h => ?_)
        exact j_zret C rfl (by rcases (X_gd h).1 with q | q <;> (rw [q]; rfl)) (X_gd h).2 dX4_readNamed_59 (by decide)
    · replace h := (X_if h).1 hc
      refine j_aload_n C0 (pc := 34) dX4_readNamed_34 rfl ?_
      refine j_iconst C0 (pc := 35) dX4_readNamed_35 (v := (1 : Int32)) (by decide) ?_
      refine X_cU C0 (pc := 36) (e' := e_I) (as := [.int (1 : Int32)]) (rest := []) (s' := fun w => .int w :: []) (g' := (0, 0)) u_LR_100_4 (fun Ψ hΨ => K_X8_fail_4 a0 (1 : Int32) M2 Ψ hΨ) rfl rfl (fun _ => rfl) (by decide) (by decide) rfl (Nat.le_of_ble_eq_true rfl) dX4_readNamed_36 h (fun v12 M7 h => ?_)
      exact j_zret C rfl (by rcases (X_gd h).1 with q | q <;> (rw [q]; rfl)) (X_gd h).2 dX4_readNamed_39 (by decide)
  · replace h := (X_if h).2 hc
    refine j_aload_n C0 (pc := 17) dX4_readNamed_17 rfl ?_
    refine j_iconst C0 (pc := 18) dX4_readNamed_18 (v := (5 : Int32)) (by decide) ?_
    refine X_cU C0 (pc := 19) (e' := e_I) (as := [.int (5 : Int32)]) (rest := []) (s' := fun w => .int w :: []) (g' := (0, 0)) u_LR_100_4 (fun Ψ hΨ => K_X8_fail_4 a0 (5 : Int32) M Ψ hΨ) rfl rfl (fun _ => rfl) (by decide) (by decide) rfl (Nat.le_of_ble_eq_true rfl) dX4_readNamed_19 h (fun v13 M8 h => ?_)
    exact j_zret C rfl (by rcases (X_gd h).1 with q | q <;> (rw [q]; rfl)) (X_gd h).2 dX4_readNamed_22 (by decide)
theorem dX3_weighLast_0 : decode cX3_weighLast 0 = .ok (.aload_n 0, 1) := by decide +kernel
theorem dX3_weighLast_1 : decode cX3_weighLast 1 = .ok (.getfield 9, 3) := by decide +kernel
theorem dX3_weighLast_4 : decode cX3_weighLast 4 = .ok (.iconst 0, 1) := by decide +kernel
theorem dX3_weighLast_5 : decode cX3_weighLast 5 = .ok (.iaload, 1) := by decide +kernel
theorem dX3_weighLast_6 : decode cX3_weighLast 6 = .ok (.iconst 1, 1) := by decide +kernel
theorem dX3_weighLast_7 : decode cX3_weighLast 7 = .ok (.isub, 1) := by decide +kernel
theorem dX3_weighLast_8 : decode cX3_weighLast 8 = .ok (.istore_n 2, 1) := by decide +kernel
theorem dX3_weighLast_9 : decode cX3_weighLast 9 = .ok (.iload_n 2, 1) := by decide +kernel
theorem dX3_weighLast_10 : decode cX3_weighLast 10 = .ok (.ifCond .lt 19, 3) := by decide +kernel
theorem dX3_weighLast_13 : decode cX3_weighLast 13 = .ok (.iload_n 2, 1) := by decide +kernel
theorem dX3_weighLast_14 : decode cX3_weighLast 14 = .ok (.aload_n 0, 1) := by decide +kernel
theorem dX3_weighLast_15 : decode cX3_weighLast 15 = .ok (.getfield 15, 3) := by decide +kernel
theorem dX3_weighLast_18 : decode cX3_weighLast 18 = .ok (.arraylength, 1) := by decide +kernel
theorem dX3_weighLast_19 : decode cX3_weighLast 19 = .ok (.if_icmp .ge 10, 3) := by decide +kernel
theorem dX3_weighLast_22 : decode cX3_weighLast 22 = .ok (.aload_n 0, 1) := by decide +kernel
theorem dX3_weighLast_23 : decode cX3_weighLast 23 = .ok (.getfield 15, 3) := by decide +kernel
theorem dX3_weighLast_26 : decode cX3_weighLast 26 = .ok (.iload_n 2, 1) := by decide +kernel
theorem dX3_weighLast_27 : decode cX3_weighLast 27 = .ok (.iload_n 1, 1) := by decide +kernel
theorem dX3_weighLast_28 : decode cX3_weighLast 28 = .ok (.iastore, 1) := by decide +kernel
theorem dX3_weighLast_29 : decode cX3_weighLast 29 = .ok (.return_, 1) := by decide +kernel
noncomputable def F_X3_weighLast (a0 : Nat) (a1 : Int32) (M : m_M) : Option (Unit × m_M) :=
  x_gN 3 M a0 6 fun v1 =>
  x_aI 12 M v1 (0 : Int32) fun v2 =>
  m_let (v2 - (1 : Int32)) fun v3 =>
  if v3 < 0 then (
    some ((), M)
  ) else
  x_gN 3 M a0 7 fun v4 =>
  x_len 12 M v4 fun v5 =>
  if v5 ≤ v3 then (
    some ((), M)
  ) else
  x_gN 3 M a0 7 fun v6 =>
  x_sI 12 M v6 v3 a1 fun M1 =>
  some ((), M1)
set_option maxHeartbeats 4000000 in
theorem K_X3_weighLast (a0 : Nat) (a1 : Int32) (M : m_M) (Φ : Option Value → m_M → Prop) (h : m_ok e_V Φ (F_X3_weighLast a0 a1 M)) : j_Ct yX3_weighLast cX3_weighLast 3 none 1 0 0 [.ref a0, .int a1] M Φ := by
  refine j_Ct.of (by decide +kernel) (Nat.le_of_ble_eq_true rfl) fun X C => ?_
  have C0 := C.1
  show j_J X 3 0 [some (.ref a0), some (.int a1), none] [] (0, 0) M
  unfold F_X3_weighLast at h
  refine j_aload_n C0 (pc := 0) dX3_weighLast_0 rfl ?_
  refine X_gN C0 (pc := 1) f_Land_9_3 rfl dX3_weighLast_1 h (fun v1 h => ?_)
  refine j_iconst C0 (pc := 4) dX3_weighLast_4 (v := (0 : Int32)) (by decide) ?_
  refine X_iald C0 (pc := 5) dX3_weighLast_5 h (fun v2 h => ?_)
  refine j_iconst C0 (pc := 6) dX3_weighLast_6 (v := (1 : Int32)) (by decide) ?_
  refine j_isub C0 (pc := 7) dX3_weighLast_7 ?_
  refine X_let (G := fun w => j_J X 3 8 [some (.ref a0), some (.int a1), none] (.int w :: []) (0, 0) M) h (fun v3 h => ?_)
  refine j_istore_n C0 (pc := 8) dX3_weighLast_8 (Nat.le_of_ble_eq_true rfl) ?_
  show j_J X 3 9 [some (.ref a0), some (.int a1), some (.int v3)] [] (0, 0) M
  refine j_iload_n C0 (pc := 9) dX3_weighLast_9 rfl ?_
  refine j_if_lt C0 (pc := 10) (tgt := 29) dX3_weighLast_10 (by decide) (fun hc => ?_) (fun hc => ?_)
  · replace h := (X_if h).1 hc
    exact j_vret C rfl h dX3_weighLast_29 (by decide)
  · replace h := (X_if h).2 hc
    refine j_iload_n C0 (pc := 13) dX3_weighLast_13 rfl ?_
    refine j_aload_n C0 (pc := 14) dX3_weighLast_14 rfl ?_
    refine X_gN C0 (pc := 15) f_Land_15_3 rfl dX3_weighLast_15 h (fun v4 h => ?_)
    refine X_alen C0 (pc := 18) (by decide) dX3_weighLast_18 h (fun v5 h => ?_)
    refine j_icmp_ge C0 (pc := 19) (tgt := 29) dX3_weighLast_19 (by decide) (fun hc => ?_) (fun hc => ?_)
    · replace h := (X_if h).1 hc
      exact j_vret C rfl h dX3_weighLast_29 (by decide)
    · replace h := (X_if h).2 hc
      refine j_aload_n C0 (pc := 22) dX3_weighLast_22 rfl ?_
      refine X_gN C0 (pc := 23) f_Land_15_3 rfl dX3_weighLast_23 h (fun v6 h => ?_)
      refine j_iload_n C0 (pc := 26) dX3_weighLast_26 rfl ?_
      refine j_iload_n C0 (pc := 27) dX3_weighLast_27 rfl ?_
      refine X_iast C0 (pc := 28) dX3_weighLast_28 h (fun M1 h => ?_)
      exact j_vret C rfl h dX3_weighLast_29 (by decide)
theorem dX4_readThing_0 : decode cX4_readThing 0 = .ok (.aload_n 0, 1) := by decide +kernel
theorem dX4_readThing_1 : decode cX4_readThing 1 = .ok (.iconst 0, 1) := by decide +kernel
theorem dX4_readThing_2 : decode cX4_readThing 2 = .ok (.invokevirtual 103, 3) := by decide +kernel
theorem dX4_readThing_5 : decode cX4_readThing 5 = .ok (.ifCond .eq 13, 3) := by decide +kernel
theorem dX4_readThing_8 : decode cX4_readThing 8 = .ok (.aload_n 0, 1) := by decide +kernel
theorem dX4_readThing_9 : decode cX4_readThing 9 = .ok (.getstatic 106, 3) := by decide +kernel
theorem dX4_readThing_12 : decode cX4_readThing 12 = .ok (.invokevirtual 49, 3) := by decide +kernel
theorem dX4_readThing_15 : decode cX4_readThing 15 = .ok (.ifCond .ne 5, 3) := by decide +kernel
theorem dX4_readThing_18 : decode cX4_readThing 18 = .ok (.iconst 0, 1) := by decide +kernel
theorem dX4_readThing_19 : decode cX4_readThing 19 = .ok (.ireturn, 1) := by decide +kernel
theorem dX4_readThing_20 : decode cX4_readThing 20 = .ok (.aload_n 0, 1) := by decide +kernel
theorem dX4_readThing_21 : decode cX4_readThing 21 = .ok (.iconst 0, 1) := by decide +kernel
theorem dX4_readThing_22 : decode cX4_readThing 22 = .ok (.bipush 99, 2) := by decide +kernel
theorem dX4_readThing_24 : decode cX4_readThing 24 = .ok (.invokevirtual 53, 3) := by decide +kernel
theorem dX4_readThing_27 : decode cX4_readThing 27 = .ok (.istore_n 1, 1) := by decide +kernel
theorem dX4_readThing_28 : decode cX4_readThing 28 = .ok (.iload_n 1, 1) := by decide +kernel
theorem dX4_readThing_29 : decode cX4_readThing 29 = .ok (.iconst (-1), 1) := by decide +kernel
theorem dX4_readThing_30 : decode cX4_readThing 30 = .ok (.if_icmp .ne 5, 3) := by decide +kernel
theorem dX4_readThing_33 : decode cX4_readThing 33 = .ok (.iconst 0, 1) := by decide +kernel
theorem dX4_readThing_34 : decode cX4_readThing 34 = .ok (.ireturn, 1) := by decide +kernel
theorem dX4_readThing_35 : decode cX4_readThing 35 = .ok (.aload_n 0, 1) := by decide +kernel
theorem dX4_readThing_36 : decode cX4_readThing 36 = .ok (.getfield 9, 3) := by decide +kernel
theorem dX4_readThing_39 : decode cX4_readThing 39 = .ok (.iload_n 1, 1) := by decide +kernel
theorem dX4_readThing_40 : decode cX4_readThing 40 = .ok (.invokevirtual 109, 3) := by decide +kernel
theorem dX4_readThing_43 : decode cX4_readThing 43 = .ok (.aload_n 0, 1) := by decide +kernel
theorem dX4_readThing_44 : decode cX4_readThing 44 = .ok (.bipush 59, 2) := by decide +kernel
theorem dX4_readThing_46 : decode cX4_readThing 46 = .ok (.invokevirtual 60, 3) := by decide +kernel
theorem dX4_readThing_49 : decode cX4_readThing 49 = .ok (.ireturn, 1) := by decide +kernel
noncomputable def F_X4_readThing (a0 : Nat) (M : m_M) : Option (Int32 × m_M) :=
  x_cV 4 M a0 (F_X4_readNamed a0 (0 : Int32) M) fun v1 M1 =>
  if v1 = 0 then (
    some ((0 : Int32), M1)
  ) else
  x_cV 4 M1 a0 (F_X8_pass 4 a0 (1000000 + 2) M1) fun v2 M2 =>
  if v2 = 0 then (
    some ((0 : Int32), M2)
  ) else
  x_cV 4 M2 a0 (F_X8_passNumber 4 a0 (0 : Int32) (99 : Int32) M2) fun v3 M3 =>
  if v3 = (-1 : Int32) then (
    some ((0 : Int32), M3)
  ) else
  x_gN 4 M3 a0 10 fun v4 =>
  x_cV 3 M3 v4 (F_X3_weighLast v4 v3 M3) fun _ M4 =>
  x_cV 4 M4 a0 (F_X8_pass_ 4 a0 (59 : Int32) M4) fun v5 M5 =>
  x_b v5 <| some (v5, M5)
set_option maxHeartbeats 4000000 in
theorem K_X4_readThing (a0 : Nat) (M : m_M) (Φ : Option Value → m_M → Prop) (h : m_ok e_I Φ (F_X4_readThing a0 M)) : j_Ct yX4_readThing cX4_readThing 2 (some .boolean) 8 0 0 [.ref a0] M Φ := by
  refine j_Ct.of (by decide +kernel) (Nat.le_of_ble_eq_true rfl) fun X C => ?_
  have C0 := C.1
  show j_J X 2 0 [some (.ref a0), none] [] (0, 0) M
  unfold F_X4_readThing at h
  refine j_aload_n C0 (pc := 0) dX4_readThing_0 rfl ?_
  refine j_iconst C0 (pc := 1) dX4_readThing_1 (v := (0 : Int32)) (by decide) ?_
  refine X_cV C0 (pc := 2) (e' := e_I) (as := [.int (0 : Int32)]) (rest := []) (s' := fun w => .int w :: []) (g' := (0, 0)) v_LR_103_4 (fun Ψ hΨ => K_X4_readNamed a0 (0 : Int32) M Ψ hΨ) rfl rfl (fun _ => rfl) (by decide) (by decide) rfl (Nat.le_of_ble_eq_true rfl) dX4_readThing_2 h (fun v1 M1 h => ?_)
  refine j_if_eq C0 (pc := 5) (tgt := 18) dX4_readThing_5 (by decide) (fun hc => ?_) (fun hc => ?_)
  · replace h := (X_if h).1 hc
    refine j_iconst C0 (pc := 18) dX4_readThing_18 (v := (0 : Int32)) (by decide) ?_
    exact j_zret C rfl (by decide) h dX4_readThing_19 (by decide)
  · replace h := (X_if h).2 hc
    refine j_aload_n C0 (pc := 8) dX4_readThing_8 rfl ?_
    refine j_kst C0 (pc := 9) (j := 2) (by decide) (j_c3 218 (by decide +kernel)) dX4_readThing_9 ?_
    refine X_cU C0 (pc := 12) (e' := e_I) (as := [.ref (1000000 + 2)]) (rest := []) (s' := fun w => .int w :: []) (g' := (0, 0)) u_LR_49_4 (fun Ψ hΨ => K_X8_pass_4 a0 (1000000 + 2) M1 Ψ hΨ) rfl rfl (fun _ => rfl) (by decide) (by decide) rfl (Nat.le_of_ble_eq_true rfl) dX4_readThing_12 h (fun v2 M2 h => ?_)
    refine j_if_ne C0 (pc := 15) (tgt := 20) dX4_readThing_15 (by decide) (fun hc => ?_) (fun hc => ?_)
    · replace h := (X_if h).2 hc
      refine j_aload_n C0 (pc := 20) dX4_readThing_20 rfl ?_
      refine j_iconst C0 (pc := 21) dX4_readThing_21 (v := (0 : Int32)) (by decide) ?_
      refine j_bipush C0 (pc := 22) dX4_readThing_22 (v := (99 : Int32)) (by decide) ?_
      refine X_cU C0 (pc := 24) (e' := e_I) (as := [.int (0 : Int32), .int (99 : Int32)]) (rest := []) (s' := fun w => .int w :: []) (g' := (0, 0)) u_LR_53_4 (fun Ψ hΨ => K_X8_passNumber_4 a0 (0 : Int32) (99 : Int32) M2 Ψ hΨ) rfl rfl (fun _ => rfl) (by decide) (by decide) rfl (Nat.le_of_ble_eq_true rfl) dX4_readThing_24 h (fun v3 M3 h => ?_)
      refine j_istore_n C0 (pc := 27) dX4_readThing_27 (Nat.le_of_ble_eq_true rfl) ?_
      show j_J X 2 28 [some (.ref a0), some (.int v3)] [] (0, 0) M3
      refine j_iload_n C0 (pc := 28) dX4_readThing_28 rfl ?_
      refine j_iconst C0 (pc := 29) dX4_readThing_29 (v := (-1 : Int32)) (by decide) ?_
      refine j_icmp_ne C0 (pc := 30) (tgt := 35) dX4_readThing_30 (by decide) (fun hc => ?_) (fun hc => ?_)
      · replace h := (X_if h).2 hc
        refine j_aload_n C0 (pc := 35) dX4_readThing_35 rfl ?_
        refine X_gN C0 (pc := 36) f_LR_9_4 rfl dX4_readThing_36 h (fun v4 h => ?_)
        refine j_iload_n C0 (pc := 39) dX4_readThing_39 rfl ?_
        refine X_cV C0 (pc := 40) (e' := e_V) (as := [.int v3]) (rest := []) (s' := fun _ => []) (g' := (0, 0)) v_LR_109_3 (fun Ψ hΨ => K_X3_weighLast v4 v3 M3 Ψ hΨ) rfl rfl (fun _ => rfl) (by decide) (by decide) rfl (Nat.le_of_ble_eq_true rfl) dX4_readThing_40 h (fun _ M4 h => ?_)
        refine j_aload_n C0 (pc := 43) dX4_readThing_43 rfl ?_
        refine j_bipush C0 (pc := 44) dX4_readThing_44 (v := (59 : Int32)) (by decide) ?_
        refine X_cU C0 (pc := 46) (e' := e_I) (as := [.int (59 : Int32)]) (rest := []) (s' := fun w => .int w :: []) (g' := (0, 0)) u_LR_60_4 (fun Ψ hΨ => K_X8_pass__4 a0 (59 : Int32) M4 Ψ hΨ) rfl rfl (fun _ => rfl) (by decide) (by decide) rfl (Nat.le_of_ble_eq_true rfl) dX4_readThing_46 h (fun v5 M5 h => ?_)
        exact j_zret C rfl (by rcases (X_gd h).1 with q | q <;> (rw [q]; rfl)) (X_gd h).2 dX4_readThing_49 (by decide)
      · replace h := (X_if h).1 hc
        refine j_iconst C0 (pc := 33) dX4_readThing_33 (v := (0 : Int32)) (by decide) ?_
        exact j_zret C rfl (by decide) h dX4_readThing_34 (by decide)
    · replace h := (X_if h).1 hc
      refine j_iconst C0 (pc := 18) dX4_readThing_18 (v := (0 : Int32)) (by decide) ?_
      exact j_zret C rfl (by decide) h dX4_readThing_19 (by decide)
theorem dX3_openLaw_0 : decode cX3_openLaw 0 = .ok (.aload_n 0, 1) := by decide +kernel
theorem dX3_openLaw_1 : decode cX3_openLaw 1 = .ok (.getfield 9, 3) := by decide +kernel
theorem dX3_openLaw_4 : decode cX3_openLaw 4 = .ok (.iload_n 1, 1) := by decide +kernel
theorem dX3_openLaw_5 : decode cX3_openLaw 5 = .ok (.iaload, 1) := by decide +kernel
theorem dX3_openLaw_6 : decode cX3_openLaw 6 = .ok (.ifCond .le 25, 3) := by decide +kernel
theorem dX3_openLaw_9 : decode cX3_openLaw 9 = .ok (.aload_n 0, 1) := by decide +kernel
theorem dX3_openLaw_10 : decode cX3_openLaw 10 = .ok (.getfield 31, 3) := by decide +kernel
theorem dX3_openLaw_13 : decode cX3_openLaw 13 = .ok (.iload_n 1, 1) := by decide +kernel
theorem dX3_openLaw_14 : decode cX3_openLaw 14 = .ok (.bipush 8, 2) := by decide +kernel
theorem dX3_openLaw_16 : decode cX3_openLaw 16 = .ok (.imul, 1) := by decide +kernel
theorem dX3_openLaw_17 : decode cX3_openLaw 17 = .ok (.aload_n 0, 1) := by decide +kernel
theorem dX3_openLaw_18 : decode cX3_openLaw 18 = .ok (.getfield 9, 3) := by decide +kernel
theorem dX3_openLaw_21 : decode cX3_openLaw 21 = .ok (.iload_n 1, 1) := by decide +kernel
theorem dX3_openLaw_22 : decode cX3_openLaw 22 = .ok (.iaload, 1) := by decide +kernel
theorem dX3_openLaw_23 : decode cX3_openLaw 23 = .ok (.iadd, 1) := by decide +kernel
theorem dX3_openLaw_24 : decode cX3_openLaw 24 = .ok (.iconst 1, 1) := by decide +kernel
theorem dX3_openLaw_25 : decode cX3_openLaw 25 = .ok (.isub, 1) := by decide +kernel
theorem dX3_openLaw_26 : decode cX3_openLaw 26 = .ok (.aload_n 0, 1) := by decide +kernel
theorem dX3_openLaw_27 : decode cX3_openLaw 27 = .ok (.getfield 68, 3) := by decide +kernel
theorem dX3_openLaw_30 : decode cX3_openLaw 30 = .ok (.iastore, 1) := by decide +kernel
theorem dX3_openLaw_31 : decode cX3_openLaw 31 = .ok (.return_, 1) := by decide +kernel
noncomputable def F_X3_openLaw (a0 : Nat) (a1 : Int32) (M : m_M) : Option (Unit × m_M) :=
  x_gN 3 M a0 6 fun v1 =>
  x_aI 12 M v1 a1 fun v2 =>
  if v2 ≤ 0 then (
    some ((), M)
  ) else
  x_gN 3 M a0 12 fun v3 =>
  x_gN 3 M a0 6 fun v4 =>
  x_aI 12 M v4 a1 fun v5 =>
  x_gI 3 M a0 5 fun v6 =>
  x_sI 12 M v3 (((a1 * (8 : Int32)) + v5) - (1 : Int32)) v6 fun M1 =>
  some ((), M1)
set_option maxHeartbeats 4000000 in
theorem K_X3_openLaw (a0 : Nat) (a1 : Int32) (M : m_M) (Φ : Option Value → m_M → Prop) (h : m_ok e_V Φ (F_X3_openLaw a0 a1 M)) : j_Ct yX3_openLaw cX3_openLaw 2 none 1 0 0 [.ref a0, .int a1] M Φ := by
  refine j_Ct.of (by decide +kernel) (Nat.le_of_ble_eq_true rfl) fun X C => ?_
  have C0 := C.1
  show j_J X 2 0 [some (.ref a0), some (.int a1)] [] (0, 0) M
  unfold F_X3_openLaw at h
  refine j_aload_n C0 (pc := 0) dX3_openLaw_0 rfl ?_
  refine X_gN C0 (pc := 1) f_Land_9_3 rfl dX3_openLaw_1 h (fun v1 h => ?_)
  refine j_iload_n C0 (pc := 4) dX3_openLaw_4 rfl ?_
  refine X_iald C0 (pc := 5) dX3_openLaw_5 h (fun v2 h => ?_)
  refine j_if_le C0 (pc := 6) (tgt := 31) dX3_openLaw_6 (by decide) (fun hc => ?_) (fun hc => ?_)
  · replace h := (X_if h).1 hc
    exact j_vret C rfl h dX3_openLaw_31 (by decide)
  · replace h := (X_if h).2 hc
    refine j_aload_n C0 (pc := 9) dX3_openLaw_9 rfl ?_
    refine X_gN C0 (pc := 10) f_Land_31_3 rfl dX3_openLaw_10 h (fun v3 h => ?_)
    refine j_iload_n C0 (pc := 13) dX3_openLaw_13 rfl ?_
    refine j_bipush C0 (pc := 14) dX3_openLaw_14 (v := (8 : Int32)) (by decide) ?_
    refine j_imul C0 (pc := 16) dX3_openLaw_16 ?_
    refine j_aload_n C0 (pc := 17) dX3_openLaw_17 rfl ?_
    refine X_gN C0 (pc := 18) f_Land_9_3 rfl dX3_openLaw_18 h (fun v4 h => ?_)
    refine j_iload_n C0 (pc := 21) dX3_openLaw_21 rfl ?_
    refine X_iald C0 (pc := 22) dX3_openLaw_22 h (fun v5 h => ?_)
    refine j_iadd C0 (pc := 23) dX3_openLaw_23 ?_
    refine j_iconst C0 (pc := 24) dX3_openLaw_24 (v := (1 : Int32)) (by decide) ?_
    refine j_isub C0 (pc := 25) dX3_openLaw_25 ?_
    refine j_aload_n C0 (pc := 26) dX3_openLaw_26 rfl ?_
    refine X_gI C0 (pc := 27) f_Land_68_3 rfl dX3_openLaw_27 h (fun v6 h => ?_)
    refine X_iast C0 (pc := 30) dX3_openLaw_30 h (fun M1 h => ?_)
    exact j_vret C rfl h dX3_openLaw_31 (by decide)
theorem dX4_operatorOf_0 : decode cX4_operatorOf 0 = .ok (.iload_n 1, 1) := by decide +kernel
theorem dX4_operatorOf_1 : decode cX4_operatorOf 1 = .ok (.tableswitch 139 0 3 #[31, 63, 93, 123], 31) := by decide +kernel
theorem dX4_operatorOf_32 : decode cX4_operatorOf 32 = .ok (.aload_n 0, 1) := by decide +kernel
theorem dX4_operatorOf_33 : decode cX4_operatorOf 33 = .ok (.getstatic 190, 3) := by decide +kernel
theorem dX4_operatorOf_36 : decode cX4_operatorOf 36 = .ok (.invokevirtual 66, 3) := by decide +kernel
theorem dX4_operatorOf_39 : decode cX4_operatorOf 39 = .ok (.ifCond .eq 8, 3) := by decide +kernel
theorem dX4_operatorOf_42 : decode cX4_operatorOf 42 = .ok (.bipush (-12), 2) := by decide +kernel
theorem dX4_operatorOf_44 : decode cX4_operatorOf 44 = .ok (.goto 19, 3) := by decide +kernel
theorem dX4_operatorOf_47 : decode cX4_operatorOf 47 = .ok (.aload_n 0, 1) := by decide +kernel
theorem dX4_operatorOf_48 : decode cX4_operatorOf 48 = .ok (.getstatic 193, 3) := by decide +kernel
theorem dX4_operatorOf_51 : decode cX4_operatorOf 51 = .ok (.invokevirtual 66, 3) := by decide +kernel
theorem dX4_operatorOf_54 : decode cX4_operatorOf 54 = .ok (.ifCond .eq 8, 3) := by decide +kernel
theorem dX4_operatorOf_57 : decode cX4_operatorOf 57 = .ok (.bipush (-13), 2) := by decide +kernel
theorem dX4_operatorOf_59 : decode cX4_operatorOf 59 = .ok (.goto 4, 3) := by decide +kernel
theorem dX4_operatorOf_62 : decode cX4_operatorOf 62 = .ok (.iconst 0, 1) := by decide +kernel
theorem dX4_operatorOf_63 : decode cX4_operatorOf 63 = .ok (.ireturn, 1) := by decide +kernel
theorem dX4_operatorOf_64 : decode cX4_operatorOf 64 = .ok (.aload_n 0, 1) := by decide +kernel
theorem dX4_operatorOf_65 : decode cX4_operatorOf 65 = .ok (.bipush 60, 2) := by decide +kernel
theorem dX4_operatorOf_67 : decode cX4_operatorOf 67 = .ok (.invokevirtual 150, 3) := by decide +kernel
theorem dX4_operatorOf_70 : decode cX4_operatorOf 70 = .ok (.ifCond .eq 8, 3) := by decide +kernel
theorem dX4_operatorOf_73 : decode cX4_operatorOf 73 = .ok (.bipush (-14), 2) := by decide +kernel
theorem dX4_operatorOf_75 : decode cX4_operatorOf 75 = .ok (.goto 18, 3) := by decide +kernel
theorem dX4_operatorOf_78 : decode cX4_operatorOf 78 = .ok (.aload_n 0, 1) := by decide +kernel
theorem dX4_operatorOf_79 : decode cX4_operatorOf 79 = .ok (.bipush 61, 2) := by decide +kernel
theorem dX4_operatorOf_81 : decode cX4_operatorOf 81 = .ok (.invokevirtual 150, 3) := by decide +kernel
theorem dX4_operatorOf_84 : decode cX4_operatorOf 84 = .ok (.ifCond .eq 8, 3) := by decide +kernel
theorem dX4_operatorOf_87 : decode cX4_operatorOf 87 = .ok (.bipush (-15), 2) := by decide +kernel
theorem dX4_operatorOf_89 : decode cX4_operatorOf 89 = .ok (.goto 4, 3) := by decide +kernel
theorem dX4_operatorOf_92 : decode cX4_operatorOf 92 = .ok (.iconst 0, 1) := by decide +kernel
theorem dX4_operatorOf_93 : decode cX4_operatorOf 93 = .ok (.ireturn, 1) := by decide +kernel
theorem dX4_operatorOf_94 : decode cX4_operatorOf 94 = .ok (.aload_n 0, 1) := by decide +kernel
theorem dX4_operatorOf_95 : decode cX4_operatorOf 95 = .ok (.bipush 43, 2) := by decide +kernel
theorem dX4_operatorOf_97 : decode cX4_operatorOf 97 = .ok (.invokevirtual 150, 3) := by decide +kernel
theorem dX4_operatorOf_100 : decode cX4_operatorOf 100 = .ok (.ifCond .eq 8, 3) := by decide +kernel
theorem dX4_operatorOf_103 : decode cX4_operatorOf 103 = .ok (.bipush (-16), 2) := by decide +kernel
theorem dX4_operatorOf_105 : decode cX4_operatorOf 105 = .ok (.goto 18, 3) := by decide +kernel
theorem dX4_operatorOf_108 : decode cX4_operatorOf 108 = .ok (.aload_n 0, 1) := by decide +kernel
theorem dX4_operatorOf_109 : decode cX4_operatorOf 109 = .ok (.bipush 45, 2) := by decide +kernel
theorem dX4_operatorOf_111 : decode cX4_operatorOf 111 = .ok (.invokevirtual 150, 3) := by decide +kernel
theorem dX4_operatorOf_114 : decode cX4_operatorOf 114 = .ok (.ifCond .eq 8, 3) := by decide +kernel
theorem dX4_operatorOf_117 : decode cX4_operatorOf 117 = .ok (.bipush (-17), 2) := by decide +kernel
theorem dX4_operatorOf_119 : decode cX4_operatorOf 119 = .ok (.goto 4, 3) := by decide +kernel
theorem dX4_operatorOf_122 : decode cX4_operatorOf 122 = .ok (.iconst 0, 1) := by decide +kernel
theorem dX4_operatorOf_123 : decode cX4_operatorOf 123 = .ok (.ireturn, 1) := by decide +kernel
theorem dX4_operatorOf_124 : decode cX4_operatorOf 124 = .ok (.aload_n 0, 1) := by decide +kernel
theorem dX4_operatorOf_125 : decode cX4_operatorOf 125 = .ok (.bipush 42, 2) := by decide +kernel
theorem dX4_operatorOf_127 : decode cX4_operatorOf 127 = .ok (.invokevirtual 150, 3) := by decide +kernel
theorem dX4_operatorOf_130 : decode cX4_operatorOf 130 = .ok (.ifCond .eq 8, 3) := by decide +kernel
theorem dX4_operatorOf_133 : decode cX4_operatorOf 133 = .ok (.bipush (-18), 2) := by decide +kernel
theorem dX4_operatorOf_135 : decode cX4_operatorOf 135 = .ok (.goto 4, 3) := by decide +kernel
theorem dX4_operatorOf_138 : decode cX4_operatorOf 138 = .ok (.iconst 0, 1) := by decide +kernel
theorem dX4_operatorOf_139 : decode cX4_operatorOf 139 = .ok (.ireturn, 1) := by decide +kernel
theorem dX4_operatorOf_140 : decode cX4_operatorOf 140 = .ok (.iconst 0, 1) := by decide +kernel
theorem dX4_operatorOf_141 : decode cX4_operatorOf 141 = .ok (.ireturn, 1) := by decide +kernel
noncomputable def F_X4_operatorOf (a0 : Nat) (a1 : Int32) (M : m_M) : Option (Int32 × m_M) :=
  if a1 = (0 : Int32) then (
    x_cV 4 M a0 (F_X8_isAt 4 a0 (1000000 + 11) M) fun v1 M1 =>
    if v1 = 0 then (
      x_cV 4 M1 a0 (F_X8_isAt 4 a0 (1000000 + 12) M1) fun v2 M2 =>
      if v2 = 0 then (
        some ((0 : Int32), M2)
      ) else
      some ((-13 : Int32), M2)
    ) else
    some ((-12 : Int32), M1)
  ) else
  if a1 = (1 : Int32) then (
    x_cV 4 M a0 (F_X8_isAt_ 4 a0 (60 : Int32) M) fun v3 M3 =>
    if v3 = 0 then (
      x_cV 4 M3 a0 (F_X8_isAt_ 4 a0 (61 : Int32) M3) fun v4 M4 =>
      if v4 = 0 then (
        some ((0 : Int32), M4)
      ) else
      some ((-15 : Int32), M4)
    ) else
    some ((-14 : Int32), M3)
  ) else
  if a1 = (2 : Int32) then (
    x_cV 4 M a0 (F_X8_isAt_ 4 a0 (43 : Int32) M) fun v5 M5 =>
    if v5 = 0 then (
      x_cV 4 M5 a0 (F_X8_isAt_ 4 a0 (45 : Int32) M5) fun v6 M6 =>
      if v6 = 0 then (
        some ((0 : Int32), M6)
      ) else
      some ((-17 : Int32), M6)
    ) else
    some ((-16 : Int32), M5)
  ) else
  if a1 = (3 : Int32) then (
    x_cV 4 M a0 (F_X8_isAt_ 4 a0 (42 : Int32) M) fun v7 M7 =>
    if v7 = 0 then (
      some ((0 : Int32), M7)
    ) else
    some ((-18 : Int32), M7)
  ) else
  some ((0 : Int32), M)
set_option maxHeartbeats 4000000 in
theorem K_X4_operatorOf (a0 : Nat) (a1 : Int32) (M : m_M) (Φ : Option Value → m_M → Prop) (h : m_ok e_I Φ (F_X4_operatorOf a0 a1 M)) : j_Ct yX4_operatorOf cX4_operatorOf 2 (some .int) 2 0 0 [.ref a0, .int a1] M Φ := by
  refine j_Ct.of (by decide +kernel) (Nat.le_of_ble_eq_true rfl) fun X C => ?_
  have C0 := C.1
  show j_J X 2 0 [some (.ref a0), some (.int a1)] [] (0, 0) M
  unfold F_X4_operatorOf at h
  refine j_iload_n C0 (pc := 0) dX4_operatorOf_0 rfl ?_
  by_cases hc : a1 = (0 : Int32)
  · replace h := (X_if h).1 hc
    refine j_tableIn C0 (pc := 1) (off := 31) (tgt := 32) dX4_operatorOf_1 (by rw [hc]; decide) (by rw [hc]; decide) (by rw [hc]; decide) (by decide) ?_
    refine j_aload_n C0 (pc := 32) dX4_operatorOf_32 rfl ?_
    refine j_kst C0 (pc := 33) (j := 11) (by decide) (j_c4 16 (by decide +kernel)) dX4_operatorOf_33 ?_
    refine X_cU C0 (pc := 36) (e' := e_I) (as := [.ref (1000000 + 11)]) (rest := []) (s' := fun w => .int w :: []) (g' := (0, 0)) u_LR_66_4 (fun Ψ hΨ => K_X8_isAt_4 a0 (1000000 + 11) M Ψ hΨ) rfl rfl (fun _ => rfl) (by decide) (by decide) rfl (Nat.le_of_ble_eq_true rfl) dX4_operatorOf_36 h (fun v1 M1 h => ?_)
    refine j_if_eq C0 (pc := 39) (tgt := 47) dX4_operatorOf_39 (by decide) (fun hc => ?_) (fun hc => ?_)
    · replace h := (X_if h).1 hc
      refine j_aload_n C0 (pc := 47) dX4_operatorOf_47 rfl ?_
      refine j_kst C0 (pc := 48) (j := 12) (by decide) (j_c4 18 (by decide +kernel)) dX4_operatorOf_48 ?_
      refine X_cU C0 (pc := 51) (e' := e_I) (as := [.ref (1000000 + 12)]) (rest := []) (s' := fun w => .int w :: []) (g' := (0, 0)) u_LR_66_4 (fun Ψ hΨ => K_X8_isAt_4 a0 (1000000 + 12) M1 Ψ hΨ) rfl rfl (fun _ => rfl) (by decide) (by decide) rfl (Nat.le_of_ble_eq_true rfl) dX4_operatorOf_51 h (fun v2 M2 h => ?_)
      refine j_if_eq C0 (pc := 54) (tgt := 62) dX4_operatorOf_54 (by decide) (fun hc => ?_) (fun hc => ?_)
      · replace h := (X_if h).1 hc
        refine j_iconst C0 (pc := 62) dX4_operatorOf_62 (v := (0 : Int32)) (by decide) ?_
        exact j_iret C rfl h dX4_operatorOf_63 (by decide)
      · replace h := (X_if h).2 hc
        refine j_bipush C0 (pc := 57) dX4_operatorOf_57 (v := (-13 : Int32)) (by decide) ?_
        refine j_goto C0 (pc := 59) (tgt := 63) dX4_operatorOf_59 (by decide) ?_
        exact j_iret C rfl h dX4_operatorOf_63 (by decide)
    · replace h := (X_if h).2 hc
      refine j_bipush C0 (pc := 42) dX4_operatorOf_42 (v := (-12 : Int32)) (by decide) ?_
      refine j_goto C0 (pc := 44) (tgt := 63) dX4_operatorOf_44 (by decide) ?_
      exact j_iret C rfl h dX4_operatorOf_63 (by decide)
  · replace h := (X_if h).2 hc
    have hn0 : ¬ a1 = Int32.ofInt (0) := hc
    by_cases hc : a1 = (1 : Int32)
    · replace h := (X_if h).1 hc
      refine j_tableIn C0 (pc := 1) (off := 63) (tgt := 64) dX4_operatorOf_1 (by rw [hc]; decide) (by rw [hc]; decide) (by rw [hc]; decide) (by decide) ?_
      refine j_aload_n C0 (pc := 64) dX4_operatorOf_64 rfl ?_
      refine j_bipush C0 (pc := 65) dX4_operatorOf_65 (v := (60 : Int32)) (by decide) ?_
      refine X_cU C0 (pc := 67) (e' := e_I) (as := [.int (60 : Int32)]) (rest := []) (s' := fun w => .int w :: []) (g' := (0, 0)) u_LR_150_4 (fun Ψ hΨ => K_X8_isAt__4 a0 (60 : Int32) M Ψ hΨ) rfl rfl (fun _ => rfl) (by decide) (by decide) rfl (Nat.le_of_ble_eq_true rfl) dX4_operatorOf_67 h (fun v3 M3 h => ?_)
      refine j_if_eq C0 (pc := 70) (tgt := 78) dX4_operatorOf_70 (by decide) (fun hc => ?_) (fun hc => ?_)
      · replace h := (X_if h).1 hc
        refine j_aload_n C0 (pc := 78) dX4_operatorOf_78 rfl ?_
        refine j_bipush C0 (pc := 79) dX4_operatorOf_79 (v := (61 : Int32)) (by decide) ?_
        refine X_cU C0 (pc := 81) (e' := e_I) (as := [.int (61 : Int32)]) (rest := []) (s' := fun w => .int w :: []) (g' := (0, 0)) u_LR_150_4 (fun Ψ hΨ => K_X8_isAt__4 a0 (61 : Int32) M3 Ψ hΨ) rfl rfl (fun _ => rfl) (by decide) (by decide) rfl (Nat.le_of_ble_eq_true rfl) dX4_operatorOf_81 h (fun v4 M4 h => ?_)
        refine j_if_eq C0 (pc := 84) (tgt := 92) dX4_operatorOf_84 (by decide) (fun hc => ?_) (fun hc => ?_)
        · replace h := (X_if h).1 hc
          refine j_iconst C0 (pc := 92) dX4_operatorOf_92 (v := (0 : Int32)) (by decide) ?_
          exact j_iret C rfl h dX4_operatorOf_93 (by decide)
        · replace h := (X_if h).2 hc
          refine j_bipush C0 (pc := 87) dX4_operatorOf_87 (v := (-15 : Int32)) (by decide) ?_
          refine j_goto C0 (pc := 89) (tgt := 93) dX4_operatorOf_89 (by decide) ?_
          exact j_iret C rfl h dX4_operatorOf_93 (by decide)
      · replace h := (X_if h).2 hc
        refine j_bipush C0 (pc := 73) dX4_operatorOf_73 (v := (-14 : Int32)) (by decide) ?_
        refine j_goto C0 (pc := 75) (tgt := 93) dX4_operatorOf_75 (by decide) ?_
        exact j_iret C rfl h dX4_operatorOf_93 (by decide)
    · replace h := (X_if h).2 hc
      have hn1 : ¬ a1 = Int32.ofInt (1) := hc
      by_cases hc : a1 = (2 : Int32)
      · replace h := (X_if h).1 hc
        refine j_tableIn C0 (pc := 1) (off := 93) (tgt := 94) dX4_operatorOf_1 (by rw [hc]; decide) (by rw [hc]; decide) (by rw [hc]; decide) (by decide) ?_
        refine j_aload_n C0 (pc := 94) dX4_operatorOf_94 rfl ?_
        refine j_bipush C0 (pc := 95) dX4_operatorOf_95 (v := (43 : Int32)) (by decide) ?_
        refine X_cU C0 (pc := 97) (e' := e_I) (as := [.int (43 : Int32)]) (rest := []) (s' := fun w => .int w :: []) (g' := (0, 0)) u_LR_150_4 (fun Ψ hΨ => K_X8_isAt__4 a0 (43 : Int32) M Ψ hΨ) rfl rfl (fun _ => rfl) (by decide) (by decide) rfl (Nat.le_of_ble_eq_true rfl) dX4_operatorOf_97 h (fun v5 M5 h => ?_)
        refine j_if_eq C0 (pc := 100) (tgt := 108) dX4_operatorOf_100 (by decide) (fun hc => ?_) (fun hc => ?_)
        · replace h := (X_if h).1 hc
          refine j_aload_n C0 (pc := 108) dX4_operatorOf_108 rfl ?_
          refine j_bipush C0 (pc := 109) dX4_operatorOf_109 (v := (45 : Int32)) (by decide) ?_
          refine X_cU C0 (pc := 111) (e' := e_I) (as := [.int (45 : Int32)]) (rest := []) (s' := fun w => .int w :: []) (g' := (0, 0)) u_LR_150_4 (fun Ψ hΨ => K_X8_isAt__4 a0 (45 : Int32) M5 Ψ hΨ) rfl rfl (fun _ => rfl) (by decide) (by decide) rfl (Nat.le_of_ble_eq_true rfl) dX4_operatorOf_111 h (fun v6 M6 h => ?_)
          refine j_if_eq C0 (pc := 114) (tgt := 122) dX4_operatorOf_114 (by decide) (fun hc => ?_) (fun hc => ?_)
          · replace h := (X_if h).1 hc
            refine j_iconst C0 (pc := 122) dX4_operatorOf_122 (v := (0 : Int32)) (by decide) ?_
            exact j_iret C rfl h dX4_operatorOf_123 (by decide)
          · replace h := (X_if h).2 hc
            refine j_bipush C0 (pc := 117) dX4_operatorOf_117 (v := (-17 : Int32)) (by decide) ?_
            refine j_goto C0 (pc := 119) (tgt := 123) dX4_operatorOf_119 (by decide) ?_
            exact j_iret C rfl h dX4_operatorOf_123 (by decide)
        · replace h := (X_if h).2 hc
          refine j_bipush C0 (pc := 103) dX4_operatorOf_103 (v := (-16 : Int32)) (by decide) ?_
          refine j_goto C0 (pc := 105) (tgt := 123) dX4_operatorOf_105 (by decide) ?_
          exact j_iret C rfl h dX4_operatorOf_123 (by decide)
      · replace h := (X_if h).2 hc
        have hn2 : ¬ a1 = Int32.ofInt (2) := hc
        by_cases hc : a1 = (3 : Int32)
        · replace h := (X_if h).1 hc
          refine j_tableIn C0 (pc := 1) (off := 123) (tgt := 124) dX4_operatorOf_1 (by rw [hc]; decide) (by rw [hc]; decide) (by rw [hc]; decide) (by decide) ?_
          refine j_aload_n C0 (pc := 124) dX4_operatorOf_124 rfl ?_
          refine j_bipush C0 (pc := 125) dX4_operatorOf_125 (v := (42 : Int32)) (by decide) ?_
          refine X_cU C0 (pc := 127) (e' := e_I) (as := [.int (42 : Int32)]) (rest := []) (s' := fun w => .int w :: []) (g' := (0, 0)) u_LR_150_4 (fun Ψ hΨ => K_X8_isAt__4 a0 (42 : Int32) M Ψ hΨ) rfl rfl (fun _ => rfl) (by decide) (by decide) rfl (Nat.le_of_ble_eq_true rfl) dX4_operatorOf_127 h (fun v7 M7 h => ?_)
          refine j_if_eq C0 (pc := 130) (tgt := 138) dX4_operatorOf_130 (by decide) (fun hc => ?_) (fun hc => ?_)
          · replace h := (X_if h).1 hc
            refine j_iconst C0 (pc := 138) dX4_operatorOf_138 (v := (0 : Int32)) (by decide) ?_
            exact j_iret C rfl h dX4_operatorOf_139 (by decide)
          · replace h := (X_if h).2 hc
            refine j_bipush C0 (pc := 133) dX4_operatorOf_133 (v := (-18 : Int32)) (by decide) ?_
            refine j_goto C0 (pc := 135) (tgt := 139) dX4_operatorOf_135 (by decide) ?_
            exact j_iret C rfl h dX4_operatorOf_139 (by decide)
        · replace h := (X_if h).2 hc
          have hn3 : ¬ a1 = Int32.ofInt (3) := hc
          have q0 := m_sw (k := 0) hn0
          have q1 := m_sw (k := 1) hn1
          have q2 := m_sw (k := 2) hn2
          have q3 := m_sw (k := 3) hn3
          refine j_tableOut C0 (pc := 1) (tgt := 140) dX4_operatorOf_1 (by omega) (by decide) ?_
          refine j_iconst C0 (pc := 140) dX4_operatorOf_140 (v := (0 : Int32)) (by decide) ?_
          exact j_iret C rfl h dX4_operatorOf_141 (by decide)
theorem dX3_addCode_0 : decode cX3_addCode 0 = .ok (.aload_n 0, 1) := by decide +kernel
theorem dX3_addCode_1 : decode cX3_addCode 1 = .ok (.getfield 68, 3) := by decide +kernel
theorem dX3_addCode_4 : decode cX3_addCode 4 = .ok (.aload_n 0, 1) := by decide +kernel
theorem dX3_addCode_5 : decode cX3_addCode 5 = .ok (.getfield 28, 3) := by decide +kernel
theorem dX3_addCode_8 : decode cX3_addCode 8 = .ok (.arraylength, 1) := by decide +kernel
theorem dX3_addCode_9 : decode cX3_addCode 9 = .ok (.if_icmp .ge 23, 3) := by decide +kernel
theorem dX3_addCode_12 : decode cX3_addCode 12 = .ok (.aload_n 0, 1) := by decide +kernel
theorem dX3_addCode_13 : decode cX3_addCode 13 = .ok (.getfield 28, 3) := by decide +kernel
theorem dX3_addCode_16 : decode cX3_addCode 16 = .ok (.aload_n 0, 1) := by decide +kernel
theorem dX3_addCode_17 : decode cX3_addCode 17 = .ok (.getfield 68, 3) := by decide +kernel
theorem dX3_addCode_20 : decode cX3_addCode 20 = .ok (.iload_n 1, 1) := by decide +kernel
theorem dX3_addCode_21 : decode cX3_addCode 21 = .ok (.iastore, 1) := by decide +kernel
theorem dX3_addCode_22 : decode cX3_addCode 22 = .ok (.aload_n 0, 1) := by decide +kernel
theorem dX3_addCode_23 : decode cX3_addCode 23 = .ok (.dup, 1) := by decide +kernel
theorem dX3_addCode_24 : decode cX3_addCode 24 = .ok (.getfield 68, 3) := by decide +kernel
theorem dX3_addCode_27 : decode cX3_addCode 27 = .ok (.iconst 1, 1) := by decide +kernel
theorem dX3_addCode_28 : decode cX3_addCode 28 = .ok (.iadd, 1) := by decide +kernel
theorem dX3_addCode_29 : decode cX3_addCode 29 = .ok (.putfield 68, 3) := by decide +kernel
theorem dX3_addCode_32 : decode cX3_addCode 32 = .ok (.return_, 1) := by decide +kernel
noncomputable def F_X3_addCode (a0 : Nat) (a1 : Int32) (M : m_M) : Option (Unit × m_M) :=
  x_gI 3 M a0 5 fun v1 =>
  x_gN 3 M a0 11 fun v2 =>
  x_len 12 M v2 fun v3 =>
  if v3 ≤ v1 then (
    some ((), M)
  ) else
  x_gN 3 M a0 11 fun v4 =>
  x_gI 3 M a0 5 fun v5 =>
  x_sI 12 M v4 v5 a1 fun M1 =>
  x_gI 3 M1 a0 5 fun v6 =>
  x_pI 3 M1 a0 5 (v6 + (1 : Int32)) fun M2 =>
  some ((), M2)
set_option maxHeartbeats 4000000 in
theorem K_X3_addCode (a0 : Nat) (a1 : Int32) (M : m_M) (Φ : Option Value → m_M → Prop) (h : m_ok e_V Φ (F_X3_addCode a0 a1 M)) : j_Ct yX3_addCode cX3_addCode 2 none 1 0 0 [.ref a0, .int a1] M Φ := by
  refine j_Ct.of (by decide +kernel) (Nat.le_of_ble_eq_true rfl) fun X C => ?_
  have C0 := C.1
  show j_J X 2 0 [some (.ref a0), some (.int a1)] [] (0, 0) M
  unfold F_X3_addCode at h
  refine j_aload_n C0 (pc := 0) dX3_addCode_0 rfl ?_
  refine X_gI C0 (pc := 1) f_Land_68_3 rfl dX3_addCode_1 h (fun v1 h => ?_)
  refine j_aload_n C0 (pc := 4) dX3_addCode_4 rfl ?_
  refine X_gN C0 (pc := 5) f_Land_28_3 rfl dX3_addCode_5 h (fun v2 h => ?_)
  refine X_alen C0 (pc := 8) (by decide) dX3_addCode_8 h (fun v3 h => ?_)
  refine j_icmp_ge C0 (pc := 9) (tgt := 32) dX3_addCode_9 (by decide) (fun hc => ?_) (fun hc => ?_)
  · replace h := (X_if h).1 hc
    exact j_vret C rfl h dX3_addCode_32 (by decide)
  · replace h := (X_if h).2 hc
    refine j_aload_n C0 (pc := 12) dX3_addCode_12 rfl ?_
    refine X_gN C0 (pc := 13) f_Land_28_3 rfl dX3_addCode_13 h (fun v4 h => ?_)
    refine j_aload_n C0 (pc := 16) dX3_addCode_16 rfl ?_
    refine X_gI C0 (pc := 17) f_Land_68_3 rfl dX3_addCode_17 h (fun v5 h => ?_)
    refine j_iload_n C0 (pc := 20) dX3_addCode_20 rfl ?_
    refine X_iast C0 (pc := 21) dX3_addCode_21 h (fun M1 h => ?_)
    refine j_aload_n C0 (pc := 22) dX3_addCode_22 rfl ?_
    refine j_dup C0 (pc := 23) dX3_addCode_23 rfl ?_
    refine X_gI C0 (pc := 24) f_Land_68_3 rfl dX3_addCode_24 h (fun v6 h => ?_)
    refine j_iconst C0 (pc := 27) dX3_addCode_27 (v := (1 : Int32)) (by decide) ?_
    refine j_iadd C0 (pc := 28) dX3_addCode_28 ?_
    refine X_pI C0 (pc := 29) f_Land_68_3 rfl rfl dX3_addCode_29 h (fun M2 h => ?_)
    exact j_vret C rfl h dX3_addCode_32 (by decide)
theorem dX4_readLevel_0 : decode cX4_readLevel 0 = .ok (.iload_n 2, 1) := by decide +kernel
theorem dX4_readLevel_1 : decode cX4_readLevel 1 = .ok (.iconst 4, 1) := by decide +kernel
theorem dX4_readLevel_2 : decode cX4_readLevel 2 = .ok (.if_icmp .lt 10, 3) := by decide +kernel
theorem dX4_readLevel_5 : decode cX4_readLevel 5 = .ok (.aload_n 0, 1) := by decide +kernel
theorem dX4_readLevel_6 : decode cX4_readLevel 6 = .ok (.iload_n 1, 1) := by decide +kernel
theorem dX4_readLevel_7 : decode cX4_readLevel 7 = .ok (.iload_n 3, 1) := by decide +kernel
theorem dX4_readLevel_8 : decode cX4_readLevel 8 = .ok (.invokevirtual 179, 3) := by decide +kernel
theorem dX4_readLevel_11 : decode cX4_readLevel 11 = .ok (.ireturn, 1) := by decide +kernel
theorem dX4_readLevel_12 : decode cX4_readLevel 12 = .ok (.aload_n 0, 1) := by decide +kernel
theorem dX4_readLevel_13 : decode cX4_readLevel 13 = .ok (.iload_n 1, 1) := by decide +kernel
theorem dX4_readLevel_14 : decode cX4_readLevel 14 = .ok (.iload_n 2, 1) := by decide +kernel
theorem dX4_readLevel_15 : decode cX4_readLevel 15 = .ok (.iconst 1, 1) := by decide +kernel
theorem dX4_readLevel_16 : decode cX4_readLevel 16 = .ok (.iadd, 1) := by decide +kernel
theorem dX4_readLevel_17 : decode cX4_readLevel 17 = .ok (.iload_n 3, 1) := by decide +kernel
theorem dX4_readLevel_18 : decode cX4_readLevel 18 = .ok (.invokevirtual 115, 3) := by decide +kernel
theorem dX4_readLevel_21 : decode cX4_readLevel 21 = .ok (.ifCond .ne 5, 3) := by decide +kernel
theorem dX4_readLevel_24 : decode cX4_readLevel 24 = .ok (.iconst 0, 1) := by decide +kernel
theorem dX4_readLevel_25 : decode cX4_readLevel 25 = .ok (.ireturn, 1) := by decide +kernel
theorem dX4_readLevel_26 : decode cX4_readLevel 26 = .ok (.iconst 0, 1) := by decide +kernel
theorem dX4_readLevel_27 : decode cX4_readLevel 27 = .ok (.istore 4, 2) := by decide +kernel
theorem dX4_readLevel_29 : decode cX4_readLevel 29 = .ok (.iload 4, 2) := by decide +kernel
theorem dX4_readLevel_31 : decode cX4_readLevel 31 = .ok (.sipush 1000, 3) := by decide +kernel
theorem dX4_readLevel_34 : decode cX4_readLevel 34 = .ok (.if_icmp .ge 60, 3) := by decide +kernel
theorem dX4_readLevel_37 : decode cX4_readLevel 37 = .ok (.aload_n 0, 1) := by decide +kernel
theorem dX4_readLevel_38 : decode cX4_readLevel 38 = .ok (.iload_n 2, 1) := by decide +kernel
theorem dX4_readLevel_39 : decode cX4_readLevel 39 = .ok (.invokevirtual 183, 3) := by decide +kernel
theorem dX4_readLevel_42 : decode cX4_readLevel 42 = .ok (.istore 5, 2) := by decide +kernel
theorem dX4_readLevel_44 : decode cX4_readLevel 44 = .ok (.iload 5, 2) := by decide +kernel
theorem dX4_readLevel_46 : decode cX4_readLevel 46 = .ok (.ifCond .eq 13, 3) := by decide +kernel
theorem dX4_readLevel_49 : decode cX4_readLevel 49 = .ok (.iload_n 2, 1) := by decide +kernel
theorem dX4_readLevel_50 : decode cX4_readLevel 50 = .ok (.iconst 1, 1) := by decide +kernel
theorem dX4_readLevel_51 : decode cX4_readLevel 51 = .ok (.if_icmp .ne 10, 3) := by decide +kernel
theorem dX4_readLevel_54 : decode cX4_readLevel 54 = .ok (.iload 4, 2) := by decide +kernel
theorem dX4_readLevel_56 : decode cX4_readLevel 56 = .ok (.ifCond .le 5, 3) := by decide +kernel
theorem dX4_readLevel_59 : decode cX4_readLevel 59 = .ok (.iconst 1, 1) := by decide +kernel
theorem dX4_readLevel_60 : decode cX4_readLevel 60 = .ok (.ireturn, 1) := by decide +kernel
theorem dX4_readLevel_61 : decode cX4_readLevel 61 = .ok (.aload_n 0, 1) := by decide +kernel
theorem dX4_readLevel_62 : decode cX4_readLevel 62 = .ok (.invokevirtual 129, 3) := by decide +kernel
theorem dX4_readLevel_65 : decode cX4_readLevel 65 = .ok (.aload_n 0, 1) := by decide +kernel
theorem dX4_readLevel_66 : decode cX4_readLevel 66 = .ok (.iload_n 1, 1) := by decide +kernel
theorem dX4_readLevel_67 : decode cX4_readLevel 67 = .ok (.iload_n 2, 1) := by decide +kernel
theorem dX4_readLevel_68 : decode cX4_readLevel 68 = .ok (.iconst 1, 1) := by decide +kernel
theorem dX4_readLevel_69 : decode cX4_readLevel 69 = .ok (.iadd, 1) := by decide +kernel
theorem dX4_readLevel_70 : decode cX4_readLevel 70 = .ok (.iload_n 3, 1) := by decide +kernel
theorem dX4_readLevel_71 : decode cX4_readLevel 71 = .ok (.invokevirtual 115, 3) := by decide +kernel
theorem dX4_readLevel_74 : decode cX4_readLevel 74 = .ok (.ifCond .ne 5, 3) := by decide +kernel
theorem dX4_readLevel_77 : decode cX4_readLevel 77 = .ok (.iconst 0, 1) := by decide +kernel
theorem dX4_readLevel_78 : decode cX4_readLevel 78 = .ok (.ireturn, 1) := by decide +kernel
theorem dX4_readLevel_79 : decode cX4_readLevel 79 = .ok (.aload_n 0, 1) := by decide +kernel
theorem dX4_readLevel_80 : decode cX4_readLevel 80 = .ok (.getfield 9, 3) := by decide +kernel
theorem dX4_readLevel_83 : decode cX4_readLevel 83 = .ok (.iload 5, 2) := by decide +kernel
theorem dX4_readLevel_85 : decode cX4_readLevel 85 = .ok (.invokevirtual 187, 3) := by decide +kernel
theorem dX4_readLevel_88 : decode cX4_readLevel 88 = .ok (.iinc 4 1, 3) := by decide +kernel
theorem dX4_readLevel_91 : decode cX4_readLevel 91 = .ok (.goto (-62), 3) := by decide +kernel
theorem dX4_readLevel_94 : decode cX4_readLevel 94 = .ok (.iconst 1, 1) := by decide +kernel
theorem dX4_readLevel_95 : decode cX4_readLevel 95 = .ok (.ireturn, 1) := by decide +kernel
theorem dX4_readPart_0 : decode cX4_readPart 0 = .ok (.aload_n 0, 1) := by decide +kernel
theorem dX4_readPart_1 : decode cX4_readPart 1 = .ok (.getfield 37, 3) := by decide +kernel
theorem dX4_readPart_4 : decode cX4_readPart 4 = .ok (.iconst 2, 1) := by decide +kernel
theorem dX4_readPart_5 : decode cX4_readPart 5 = .ok (.if_icmp .ne 25, 3) := by decide +kernel
theorem dX4_readPart_8 : decode cX4_readPart 8 = .ok (.aload_n 0, 1) := by decide +kernel
theorem dX4_readPart_9 : decode cX4_readPart 9 = .ok (.getfield 196, 3) := by decide +kernel
theorem dX4_readPart_12 : decode cX4_readPart 12 = .ok (.ifnull 18, 3) := by decide +kernel
theorem dX4_readPart_15 : decode cX4_readPart 15 = .ok (.aload_n 0, 1) := by decide +kernel
theorem dX4_readPart_16 : decode cX4_readPart 16 = .ok (.getfield 196, 3) := by decide +kernel
theorem dX4_readPart_19 : decode cX4_readPart 19 = .ok (.getfield 199, 3) := by decide +kernel
theorem dX4_readPart_22 : decode cX4_readPart 22 = .ok (.iload_n 1, 1) := by decide +kernel
theorem dX4_readPart_23 : decode cX4_readPart 23 = .ok (.if_icmp .ne 7, 3) := by decide +kernel
theorem dX4_readPart_26 : decode cX4_readPart 26 = .ok (.iconst 1, 1) := by decide +kernel
theorem dX4_readPart_27 : decode cX4_readPart 27 = .ok (.goto 4, 3) := by decide +kernel
theorem dX4_readPart_30 : decode cX4_readPart 30 = .ok (.iconst 0, 1) := by decide +kernel
theorem dX4_readPart_31 : decode cX4_readPart 31 = .ok (.istore_n 3, 1) := by decide +kernel
theorem dX4_readPart_32 : decode cX4_readPart 32 = .ok (.aload_n 0, 1) := by decide +kernel
theorem dX4_readPart_33 : decode cX4_readPart 33 = .ok (.getfield 37, 3) := by decide +kernel
theorem dX4_readPart_36 : decode cX4_readPart 36 = .ok (.iconst 3, 1) := by decide +kernel
theorem dX4_readPart_37 : decode cX4_readPart 37 = .ok (.if_icmp .eq 32, 3) := by decide +kernel
theorem dX4_readPart_40 : decode cX4_readPart 40 = .ok (.iload_n 3, 1) := by decide +kernel
theorem dX4_readPart_41 : decode cX4_readPart 41 = .ok (.ifCond .ne 28, 3) := by decide +kernel
theorem dX4_readPart_44 : decode cX4_readPart 44 = .ok (.aload_n 0, 1) := by decide +kernel
theorem dX4_readPart_45 : decode cX4_readPart 45 = .ok (.getstatic 202, 3) := by decide +kernel
theorem dX4_readPart_48 : decode cX4_readPart 48 = .ok (.invokevirtual 66, 3) := by decide +kernel
theorem dX4_readPart_51 : decode cX4_readPart 51 = .ok (.ifCond .ne 18, 3) := by decide +kernel
theorem dX4_readPart_54 : decode cX4_readPart 54 = .ok (.aload_n 0, 1) := by decide +kernel
theorem dX4_readPart_55 : decode cX4_readPart 55 = .ok (.bipush 40, 2) := by decide +kernel
theorem dX4_readPart_57 : decode cX4_readPart 57 = .ok (.invokevirtual 150, 3) := by decide +kernel
theorem dX4_readPart_60 : decode cX4_readPart 60 = .ok (.ifCond .ne 9, 3) := by decide +kernel
theorem dX4_readPart_63 : decode cX4_readPart 63 = .ok (.aload_n 0, 1) := by decide +kernel
theorem dX4_readPart_64 : decode cX4_readPart 64 = .ok (.iconst 1, 1) := by decide +kernel
theorem dX4_readPart_65 : decode cX4_readPart 65 = .ok (.invokevirtual 100, 3) := by decide +kernel
theorem dX4_readPart_68 : decode cX4_readPart 68 = .ok (.ireturn, 1) := by decide +kernel
theorem dX4_readPart_69 : decode cX4_readPart 69 = .ok (.iload_n 2, 1) := by decide +kernel
theorem dX4_readPart_70 : decode cX4_readPart 70 = .ok (.iconst 5, 1) := by decide +kernel
theorem dX4_readPart_71 : decode cX4_readPart 71 = .ok (.if_icmp .lt 9, 3) := by decide +kernel
theorem dX4_readPart_74 : decode cX4_readPart 74 = .ok (.aload_n 0, 1) := by decide +kernel
theorem dX4_readPart_75 : decode cX4_readPart 75 = .ok (.iconst 5, 1) := by decide +kernel
theorem dX4_readPart_76 : decode cX4_readPart 76 = .ok (.invokevirtual 100, 3) := by decide +kernel
theorem dX4_readPart_79 : decode cX4_readPart 79 = .ok (.ireturn, 1) := by decide +kernel
theorem dX4_readPart_80 : decode cX4_readPart 80 = .ok (.aload_n 0, 1) := by decide +kernel
theorem dX4_readPart_81 : decode cX4_readPart 81 = .ok (.getstatic 202, 3) := by decide +kernel
theorem dX4_readPart_84 : decode cX4_readPart 84 = .ok (.invokevirtual 66, 3) := by decide +kernel
theorem dX4_readPart_87 : decode cX4_readPart 87 = .ok (.ifCond .eq 31, 3) := by decide +kernel
theorem dX4_readPart_90 : decode cX4_readPart 90 = .ok (.aload_n 0, 1) := by decide +kernel
theorem dX4_readPart_91 : decode cX4_readPart 91 = .ok (.invokevirtual 129, 3) := by decide +kernel
theorem dX4_readPart_94 : decode cX4_readPart 94 = .ok (.aload_n 0, 1) := by decide +kernel
theorem dX4_readPart_95 : decode cX4_readPart 95 = .ok (.iload_n 1, 1) := by decide +kernel
theorem dX4_readPart_96 : decode cX4_readPart 96 = .ok (.iload_n 2, 1) := by decide +kernel
theorem dX4_readPart_97 : decode cX4_readPart 97 = .ok (.iconst 1, 1) := by decide +kernel
theorem dX4_readPart_98 : decode cX4_readPart 98 = .ok (.iadd, 1) := by decide +kernel
theorem dX4_readPart_99 : decode cX4_readPart 99 = .ok (.invokevirtual 179, 3) := by decide +kernel
theorem dX4_readPart_102 : decode cX4_readPart 102 = .ok (.ifCond .ne 5, 3) := by decide +kernel
theorem dX4_readPart_105 : decode cX4_readPart 105 = .ok (.iconst 0, 1) := by decide +kernel
theorem dX4_readPart_106 : decode cX4_readPart 106 = .ok (.ireturn, 1) := by decide +kernel
theorem dX4_readPart_107 : decode cX4_readPart 107 = .ok (.aload_n 0, 1) := by decide +kernel
theorem dX4_readPart_108 : decode cX4_readPart 108 = .ok (.getfield 9, 3) := by decide +kernel
theorem dX4_readPart_111 : decode cX4_readPart 111 = .ok (.bipush (-11), 2) := by decide +kernel
theorem dX4_readPart_113 : decode cX4_readPart 113 = .ok (.invokevirtual 187, 3) := by decide +kernel
theorem dX4_readPart_116 : decode cX4_readPart 116 = .ok (.iconst 1, 1) := by decide +kernel
theorem dX4_readPart_117 : decode cX4_readPart 117 = .ok (.ireturn, 1) := by decide +kernel
theorem dX4_readPart_118 : decode cX4_readPart 118 = .ok (.aload_n 0, 1) := by decide +kernel
theorem dX4_readPart_119 : decode cX4_readPart 119 = .ok (.bipush 40, 2) := by decide +kernel
theorem dX4_readPart_121 : decode cX4_readPart 121 = .ok (.invokevirtual 150, 3) := by decide +kernel
theorem dX4_readPart_124 : decode cX4_readPart 124 = .ok (.ifCond .eq 34, 3) := by decide +kernel
theorem dX4_readPart_127 : decode cX4_readPart 127 = .ok (.aload_n 0, 1) := by decide +kernel
theorem dX4_readPart_128 : decode cX4_readPart 128 = .ok (.invokevirtual 129, 3) := by decide +kernel
theorem dX4_readPart_131 : decode cX4_readPart 131 = .ok (.aload_n 0, 1) := by decide +kernel
theorem dX4_readPart_132 : decode cX4_readPart 132 = .ok (.iload_n 1, 1) := by decide +kernel
theorem dX4_readPart_133 : decode cX4_readPart 133 = .ok (.iconst 0, 1) := by decide +kernel
theorem dX4_readPart_134 : decode cX4_readPart 134 = .ok (.iload_n 2, 1) := by decide +kernel
theorem dX4_readPart_135 : decode cX4_readPart 135 = .ok (.iconst 1, 1) := by decide +kernel
theorem dX4_readPart_136 : decode cX4_readPart 136 = .ok (.iadd, 1) := by decide +kernel
theorem dX4_readPart_137 : decode cX4_readPart 137 = .ok (.invokevirtual 115, 3) := by decide +kernel
theorem dX4_readPart_140 : decode cX4_readPart 140 = .ok (.ifCond .eq 16, 3) := by decide +kernel
theorem dX4_readPart_143 : decode cX4_readPart 143 = .ok (.aload_n 0, 1) := by decide +kernel
theorem dX4_readPart_144 : decode cX4_readPart 144 = .ok (.bipush 41, 2) := by decide +kernel
theorem dX4_readPart_146 : decode cX4_readPart 146 = .ok (.invokevirtual 60, 3) := by decide +kernel
theorem dX4_readPart_149 : decode cX4_readPart 149 = .ok (.ifCond .eq 7, 3) := by decide +kernel
theorem dX4_readPart_152 : decode cX4_readPart 152 = .ok (.iconst 1, 1) := by decide +kernel
theorem dX4_readPart_153 : decode cX4_readPart 153 = .ok (.goto 4, 3) := by decide +kernel
theorem dX4_readPart_156 : decode cX4_readPart 156 = .ok (.iconst 0, 1) := by decide +kernel
theorem dX4_readPart_157 : decode cX4_readPart 157 = .ok (.ireturn, 1) := by decide +kernel
theorem dX4_readPart_158 : decode cX4_readPart 158 = .ok (.aload_n 0, 1) := by decide +kernel
theorem dX4_readPart_159 : decode cX4_readPart 159 = .ok (.getfield 9, 3) := by decide +kernel
theorem dX4_readPart_162 : decode cX4_readPart 162 = .ok (.iload_n 3, 1) := by decide +kernel
theorem dX4_readPart_163 : decode cX4_readPart 163 = .ok (.ifCond .eq 15, 3) := by decide +kernel
theorem dX4_readPart_166 : decode cX4_readPart 166 = .ok (.iconst (-1), 1) := by decide +kernel
theorem dX4_readPart_167 : decode cX4_readPart 167 = .ok (.aload_n 0, 1) := by decide +kernel
theorem dX4_readPart_168 : decode cX4_readPart 168 = .ok (.getfield 196, 3) := by decide +kernel
theorem dX4_readPart_171 : decode cX4_readPart 171 = .ok (.getfield 205, 3) := by decide +kernel
theorem dX4_readPart_174 : decode cX4_readPart 174 = .ok (.isub, 1) := by decide +kernel
theorem dX4_readPart_175 : decode cX4_readPart 175 = .ok (.goto 7, 3) := by decide +kernel
theorem dX4_readPart_178 : decode cX4_readPart 178 = .ok (.aload_n 0, 1) := by decide +kernel
theorem dX4_readPart_179 : decode cX4_readPart 179 = .ok (.getfield 208, 3) := by decide +kernel
theorem dX4_readPart_182 : decode cX4_readPart 182 = .ok (.invokevirtual 187, 3) := by decide +kernel
theorem dX4_readPart_185 : decode cX4_readPart 185 = .ok (.aload_n 0, 1) := by decide +kernel
theorem dX4_readPart_186 : decode cX4_readPart 186 = .ok (.invokevirtual 129, 3) := by decide +kernel
theorem dX4_readPart_189 : decode cX4_readPart 189 = .ok (.iconst 1, 1) := by decide +kernel
theorem dX4_readPart_190 : decode cX4_readPart 190 = .ok (.ireturn, 1) := by decide +kernel
noncomputable def F_X4_readLevel_29 (r_X4_readLevel : Nat → Int32 → Int32 → Int32 → m_M → Option (Int32 × m_M)) (r_X4_readPart : Nat → Int32 → Int32 → m_M → Option (Int32 × m_M)) : Nat → Nat → Int32 → Int32 → Int32 → Int32 → m_M → Option (Int32 × m_M)
  | 0, _, _, _, _, _, _ => none
  | n + 1, v1, v2, v3, v4, v5, M =>
    if (1000 : Int32) ≤ v5 then (
      some ((1 : Int32), M)
    ) else
    x_cV 4 M v1 (F_X4_operatorOf v1 v3 M) fun v6 M1 =>
    if v6 = 0 then (
      some ((1 : Int32), M1)
    ) else
    m_let (fun (v7 : Nat) (v8 : Int32) (v9 : Int32) (v10 : Int32) (v11 : Int32) (v12 : Int32) (M2 : m_M) =>
      x_cV 4 M2 v7 (F_X8_advance 4 v7 M2) fun _ M3 =>
      x_cV 4 M3 v7 (r_X4_readLevel v7 v8 (v9 + (1 : Int32)) v10 M3) fun v13 M4 =>
      if v13 = 0 then (
        some ((0 : Int32), M4)
      ) else
      x_gN 4 M4 v7 10 fun v14 =>
      x_cV 3 M4 v14 (F_X3_addCode v14 v12 M4) fun _ M5 =>
      m_let (v11 + (1 : Int32)) fun v15 =>
      F_X4_readLevel_29 r_X4_readLevel r_X4_readPart n v7 v8 v9 v10 v15 M5
    ) fun (k61 : Nat → Int32 → Int32 → Int32 → Int32 → Int32 → m_M → Option (Int32 × m_M)) =>
    if v3 = (1 : Int32) then (
      if v5 ≤ 0 then (
        k61 v1 v2 v3 v4 v5 v6 M1
      ) else
      some ((1 : Int32), M1)
    ) else
    k61 v1 v2 v3 v4 v5 v6 M1
noncomputable def F_X4_readLevel (r_X4_readLevel : Nat → Int32 → Int32 → Int32 → m_M → Option (Int32 × m_M)) (r_X4_readPart : Nat → Int32 → Int32 → m_M → Option (Int32 × m_M)) (a0 : Nat) (a1 : Int32) (a2 : Int32) (a3 : Int32) (M : m_M) : Option (Int32 × m_M) :=
  if a2 < (4 : Int32) then (
    x_cV 4 M a0 (r_X4_readLevel a0 a1 (a2 + (1 : Int32)) a3 M) fun v1 M1 =>
    if v1 = 0 then (
      some ((0 : Int32), M1)
    ) else
    F_X4_readLevel_29 r_X4_readLevel r_X4_readPart m_FU a0 a1 a2 a3 (0 : Int32) M1
  ) else
  x_cV 4 M a0 (r_X4_readPart a0 a1 a3 M) fun v2 M2 =>
  x_b v2 <| some (v2, M2)
noncomputable def F_X4_readPart (r_X4_readLevel : Nat → Int32 → Int32 → Int32 → m_M → Option (Int32 × m_M)) (r_X4_readPart : Nat → Int32 → Int32 → m_M → Option (Int32 × m_M)) (a0 : Nat) (a1 : Int32) (a2 : Int32) (M : m_M) : Option (Int32 × m_M) :=
  m_let (fun (v1 : Nat) (v2 : Int32) (v3 : Int32) (v4 : Int32) (M1 : m_M) =>
    m_let (fun (v5 : Nat) (v6 : Int32) (v7 : Int32) (v8 : Int32) (M2 : m_M) =>
      if v7 < (5 : Int32) then (
        x_cV 4 M2 v5 (F_X8_isAt 4 v5 (1000000 + 10) M2) fun v9 M3 =>
        if v9 = 0 then (
          x_cV 4 M3 v5 (F_X8_isAt_ 4 v5 (40 : Int32) M3) fun v10 M4 =>
          if v10 = 0 then (
            m_let (fun (v11 : Nat) (v12 : Nat) (v13 : Int32) (M5 : m_M) =>
              x_cV 3 M5 v12 (F_X3_addCode v12 v13 M5) fun _ M6 =>
              x_cV 4 M6 v11 (F_X8_advance 4 v11 M6) fun _ M7 =>
              some ((1 : Int32), M7)
            ) fun (k182 : Nat → Nat → Int32 → m_M → Option (Int32 × m_M)) =>
            x_gN 4 M4 v5 10 fun v14 =>
            if v8 = 0 then (
              x_gI 4 M4 v5 5 fun v15 =>
              k182 v5 v14 v15 M4
            ) else
            x_gO 4 M4 v5 8 fun v16 =>
            x_nn v16 fun v17 =>
            x_k v17 fun v18 =>
            k182 v5 v14 ((-1 : Int32) - (k_wf.getD v18 0)) M4
          ) else
          m_let (fun  (M8 : m_M) =>
            some ((0 : Int32), M8)
          ) fun (k156 : m_M → Option (Int32 × m_M)) =>
          x_cV 4 M4 v5 (F_X8_advance 4 v5 M4) fun _ M9 =>
          x_cV 4 M9 v5 (r_X4_readLevel v5 v6 (0 : Int32) (v7 + (1 : Int32)) M9) fun v19 M10 =>
          if v19 = 0 then (
            k156 M10
          ) else
          x_cV 4 M10 v5 (F_X8_pass_ 4 v5 (41 : Int32) M10) fun v20 M11 =>
          if v20 = 0 then (
            k156 M11
          ) else
          some ((1 : Int32), M11)
        ) else
        x_cV 4 M3 v5 (F_X8_advance 4 v5 M3) fun _ M12 =>
        x_cV 4 M12 v5 (r_X4_readPart v5 v6 (v7 + (1 : Int32)) M12) fun v21 M13 =>
        if v21 = 0 then (
          some ((0 : Int32), M13)
        ) else
        x_gN 4 M13 v5 10 fun v22 =>
        x_cV 3 M13 v22 (F_X3_addCode v22 (-11 : Int32) M13) fun _ M14 =>
        some ((1 : Int32), M14)
      ) else
      x_cV 4 M2 v5 (F_X8_fail 4 v5 (5 : Int32) M2) fun v23 M15 =>
      x_b v23 <| some (v23, M15)
    ) fun (k69 : Nat → Int32 → Int32 → Int32 → m_M → Option (Int32 × m_M)) =>
    x_gI 4 M1 v1 4 fun v24 =>
    if v24 = (3 : Int32) then (
      k69 v1 v2 v3 v4 M1
    ) else
    if v4 = 0 then (
      x_cV 4 M1 v1 (F_X8_isAt 4 v1 (1000000 + 10) M1) fun v25 M16 =>
      if v25 = 0 then (
        x_cV 4 M16 v1 (F_X8_isAt_ 4 v1 (40 : Int32) M16) fun v26 M17 =>
        if v26 = 0 then (
          x_cV 4 M17 v1 (F_X8_fail 4 v1 (1 : Int32) M17) fun v27 M18 =>
          x_b v27 <| some (v27, M18)
        ) else
        k69 v1 v2 v3 v4 M17
      ) else
      k69 v1 v2 v3 v4 M16
    ) else
    k69 v1 v2 v3 v4 M1
  ) fun (k31 : Nat → Int32 → Int32 → Int32 → m_M → Option (Int32 × m_M)) =>
  m_let (fun (v28 : Nat) (v29 : Int32) (v30 : Int32) (M19 : m_M) =>
    k31 v28 v29 v30 (0 : Int32) M19
  ) fun (k30 : Nat → Int32 → Int32 → m_M → Option (Int32 × m_M)) =>
  x_gI 4 M a0 4 fun v31 =>
  if v31 = (2 : Int32) then (
    x_gO 4 M a0 8 fun v32 =>
    x_nul v32 (
      k30 a0 a1 a2 M
    ) fun v33 =>
    x_gO 4 M a0 8 fun v34 =>
    x_nn v34 fun v35 =>
    x_k v35 fun v36 =>
    if (k_wo.getD v36 0) = a1 then (
      k31 a0 a1 a2 (1 : Int32) M
    ) else
    k30 a0 a1 a2 M
  ) else
  k30 a0 a1 a2 M
noncomputable def G_E : Nat → (Nat → Int32 → Int32 → Int32 → m_M → Option (Int32 × m_M)) × (Nat → Int32 → Int32 → m_M → Option (Int32 × m_M))
  | 0 => (fun _ _ _ _ _ => none, fun _ _ _ _ => none)
  | n + 1 => (F_X4_readLevel ((G_E n).1) ((G_E n).2), F_X4_readPart ((G_E n).1) ((G_E n).2))
noncomputable def FG_X4_readLevel (a0 : Nat) (a1 : Int32) (a2 : Int32) (a3 : Int32) (M : m_M) : Option (Int32 × m_M) := ((G_E 64).1) a0 a1 a2 a3 M
noncomputable def FG_X4_readPart (a0 : Nat) (a1 : Int32) (a2 : Int32) (M : m_M) : Option (Int32 × m_M) := ((G_E 64).2) a0 a1 a2 M
set_option maxHeartbeats 4000000 in
theorem L_X4_readLevel_29 {X : j_X} {Φ : Option Value → m_M → Prop} {gn : Nat} {r_X4_readLevel : Nat → Int32 → Int32 → Int32 → m_M → Option (Int32 × m_M)} {r_X4_readPart : Nat → Int32 → Int32 → m_M → Option (Int32 × m_M)} (C : j_C X yX4_readLevel cX4_readLevel 6 (some .boolean) (7 + (gn + 1)) 0 0 Φ) (hr_X4_readLevel : ∀ (a0 : Nat) (a1 : Int32) (a2 : Int32) (a3 : Int32) (M : m_M) (Φ : Option Value → m_M → Prop), m_ok e_I Φ (r_X4_readLevel a0 a1 a2 a3 M) → j_Ct yX4_readLevel cX4_readLevel 6 (some .boolean) (7 + gn) 0 0 [.ref a0, .int a1, .int a2, .int a3] M Φ) (hr_X4_readPart : ∀ (a0 : Nat) (a1 : Int32) (a2 : Int32) (M : m_M) (Φ : Option Value → m_M → Prop), m_ok e_I Φ (r_X4_readPart a0 a1 a2 M) → j_Ct yX4_readPart cX4_readPart 4 (some .boolean) (7 + gn) 0 0 [.ref a0, .int a1, .int a2] M Φ) : ∀ (n : Nat) (v1 : Nat) (v2 : Int32) (v3 : Int32) (v4 : Int32) (v5 : Int32) (M : m_M), m_ok e_I Φ (F_X4_readLevel_29 r_X4_readLevel r_X4_readPart n v1 v2 v3 v4 v5 M) → j_J X 6 29 [some (.ref v1), some (.int v2), some (.int v3), some (.int v4), some (.int v5), none] [] (0, 0) M := by
  have C0 := C.1
  intro n
  induction n with
  | zero => intro v1 v2 v3 v4 v5 M h; exact False.elim h
  | succ n ih =>
    intro v1 v2 v3 v4 v5 M h
    rw [F_X4_readLevel_29] at h
    refine j_iload C0 (pc := 29) dX4_readLevel_29 rfl ?_
    refine j_sipush C0 (pc := 31) dX4_readLevel_31 (v := (1000 : Int32)) (by decide) ?_
    refine j_icmp_ge C0 (pc := 34) (tgt := 94) dX4_readLevel_34 (by decide) (fun hc => ?_) (fun hc => ?_)
    · replace h := (X_if h).1 hc
      refine j_iconst C0 (pc := 94) dX4_readLevel_94 (v := (1 : Int32)) (by decide) ?_
      exact j_zret C rfl (by decide) h dX4_readLevel_95 (by decide)
    · replace h := (X_if h).2 hc
      refine j_aload_n C0 (pc := 37) dX4_readLevel_37 rfl ?_
      refine j_iload_n C0 (pc := 38) dX4_readLevel_38 rfl ?_
      refine X_cV C0 (pc := 39) (e' := e_I) (as := [.int v3]) (rest := []) (s' := fun w => .int w :: []) (g' := (0, 0)) v_LR_183_4 (fun Ψ hΨ => K_X4_operatorOf v1 v3 M Ψ hΨ) rfl rfl (fun _ => rfl) (by omega) (by decide) rfl (Nat.le_of_ble_eq_true rfl) dX4_readLevel_39 h (fun v6 M1 h => ?_)
      refine j_istore C0 (pc := 42) dX4_readLevel_42 (Nat.le_of_ble_eq_true rfl) ?_
      show j_J X 6 44 [some (.ref v1), some (.int v2), some (.int v3), some (.int v4), some (.int v5), some (.int v6)] [] (0, 0) M1
      refine j_iload C0 (pc := 44) dX4_readLevel_44 rfl ?_
      refine j_if_eq C0 (pc := 46) (tgt := 59) dX4_readLevel_46 (by decide) (fun hc => ?_) (fun hc => ?_)
      · replace h := (X_if h).1 hc
        refine j_iconst C0 (pc := 59) dX4_readLevel_59 (v := (1 : Int32)) (by decide) ?_
        exact j_zret C rfl (by decide) h dX4_readLevel_60 (by decide)
      · replace h := (X_if h).2 hc
        refine X_join (fun (kj : Nat → Int32 → Int32 → Int32 → Int32 → Int32 → m_M → Option (Int32 × m_M)) => ∀ (p0 : Nat) (p1 : Int32) (p2 : Int32) (p3 : Int32) (p4 : Int32) (p5 : Int32) (M : m_M), m_ok e_I Φ (kj p0 p1 p2 p3 p4 p5 M) → j_J X 6 61 [some (.ref p0), some (.int p1), some (.int p2), some (.int p3), some (.int p4), some (.int p5)] [] (0, 0) M) h (fun v7 v8 v9 v10 v11 v12 M2 h => ?_) (fun k61 hk61 h => ?_)
        · refine j_aload_n C0 (pc := 61) dX4_readLevel_61 rfl ?_
          refine X_cU C0 (pc := 62) (e' := e_V) (as := []) (rest := []) (s' := fun _ => []) (g' := (0, 0)) u_LR_129_4 (fun Ψ hΨ => K_X8_advance_4 v7 M2 Ψ hΨ) rfl rfl (fun _ => rfl) (by omega) (by decide) rfl (Nat.le_of_ble_eq_true rfl) dX4_readLevel_62 h (fun _ M3 h => ?_)
          refine j_aload_n C0 (pc := 65) dX4_readLevel_65 rfl ?_
          refine j_iload_n C0 (pc := 66) dX4_readLevel_66 rfl ?_
          refine j_iload_n C0 (pc := 67) dX4_readLevel_67 rfl ?_
          refine j_iconst C0 (pc := 68) dX4_readLevel_68 (v := (1 : Int32)) (by decide) ?_
          refine j_iadd C0 (pc := 69) dX4_readLevel_69 ?_
          refine j_iload_n C0 (pc := 70) dX4_readLevel_70 rfl ?_
          refine X_cV C0 (pc := 71) (e' := e_I) (as := [.int v8, .int (v9 + (1 : Int32)), .int v10]) (rest := []) (s' := fun w => .int w :: []) (g' := (0, 0)) v_LR_115_4 (fun Ψ hΨ => hr_X4_readLevel v7 v8 (v9 + (1 : Int32)) v10 M3 Ψ hΨ) rfl rfl (fun _ => rfl) (by omega) (by decide) rfl (Nat.le_of_ble_eq_true rfl) dX4_readLevel_71 h (fun v13 M4 h => ?_)
          refine j_if_ne C0 (pc := 74) (tgt := 79) dX4_readLevel_74 (by decide) (fun hc => ?_) (fun hc => ?_)
          · replace h := (X_if h).2 hc
            refine j_aload_n C0 (pc := 79) dX4_readLevel_79 rfl ?_
            refine X_gN C0 (pc := 80) f_LR_9_4 rfl dX4_readLevel_80 h (fun v14 h => ?_)
            refine j_iload C0 (pc := 83) dX4_readLevel_83 rfl ?_
            refine X_cV C0 (pc := 85) (e' := e_V) (as := [.int v12]) (rest := []) (s' := fun _ => []) (g' := (0, 0)) v_LR_187_3 (fun Ψ hΨ => K_X3_addCode v14 v12 M4 Ψ hΨ) rfl rfl (fun _ => rfl) (by omega) (by decide) rfl (Nat.le_of_ble_eq_true rfl) dX4_readLevel_85 h (fun _ M5 h => ?_)
            refine j_iinc C0 (pc := 88) dX4_readLevel_88 (v := v11 + (1 : Int32)) rfl (Nat.le_of_ble_eq_true rfl) (by rfl) ?_
            refine X_let (G := fun w => j_J X 6 91 [some (.ref v7), some (.int v8), some (.int v9), some (.int v10), some (.int w), some (.int v12)] [] (0, 0) M5) h (fun v15 h => ?_)
            refine j_goto C0 (pc := 91) (tgt := 29) dX4_readLevel_91 (by decide) ?_
            exact j_J.wq (ih v7 v8 v9 v10 v15 M5 h) (And.intro rfl (And.intro rfl (And.intro rfl (And.intro rfl (And.intro rfl (trivial))))))
          · replace h := (X_if h).1 hc
            refine j_iconst C0 (pc := 77) dX4_readLevel_77 (v := (0 : Int32)) (by decide) ?_
            exact j_zret C rfl (by decide) h dX4_readLevel_78 (by decide)
        · refine j_iload_n C0 (pc := 49) dX4_readLevel_49 rfl ?_
          refine j_iconst C0 (pc := 50) dX4_readLevel_50 (v := (1 : Int32)) (by decide) ?_
          refine j_icmp_ne C0 (pc := 51) (tgt := 61) dX4_readLevel_51 (by decide) (fun hc => ?_) (fun hc => ?_)
          · replace h := (X_if h).2 hc
            exact j_J.wq (hk61 v1 v2 v3 v4 v5 v6 M1 h) (And.intro rfl (And.intro rfl (And.intro rfl (And.intro rfl (And.intro rfl (And.intro rfl (trivial)))))))
          · replace h := (X_if h).1 hc
            refine j_iload C0 (pc := 54) dX4_readLevel_54 rfl ?_
            refine j_if_le C0 (pc := 56) (tgt := 61) dX4_readLevel_56 (by decide) (fun hc => ?_) (fun hc => ?_)
            · replace h := (X_if h).1 hc
              exact j_J.wq (hk61 v1 v2 v3 v4 v5 v6 M1 h) (And.intro rfl (And.intro rfl (And.intro rfl (And.intro rfl (And.intro rfl (And.intro rfl (trivial)))))))
            · replace h := (X_if h).2 hc
              refine j_iconst C0 (pc := 59) dX4_readLevel_59 (v := (1 : Int32)) (by decide) ?_
              exact j_zret C rfl (by decide) h dX4_readLevel_60 (by decide)
set_option maxHeartbeats 4000000 in
theorem K_X4_readLevel {gn : Nat} {r_X4_readLevel : Nat → Int32 → Int32 → Int32 → m_M → Option (Int32 × m_M)} {r_X4_readPart : Nat → Int32 → Int32 → m_M → Option (Int32 × m_M)} (hr_X4_readLevel : ∀ (a0 : Nat) (a1 : Int32) (a2 : Int32) (a3 : Int32) (M : m_M) (Φ : Option Value → m_M → Prop), m_ok e_I Φ (r_X4_readLevel a0 a1 a2 a3 M) → j_Ct yX4_readLevel cX4_readLevel 6 (some .boolean) (7 + gn) 0 0 [.ref a0, .int a1, .int a2, .int a3] M Φ) (hr_X4_readPart : ∀ (a0 : Nat) (a1 : Int32) (a2 : Int32) (M : m_M) (Φ : Option Value → m_M → Prop), m_ok e_I Φ (r_X4_readPart a0 a1 a2 M) → j_Ct yX4_readPart cX4_readPart 4 (some .boolean) (7 + gn) 0 0 [.ref a0, .int a1, .int a2] M Φ) (a0 : Nat) (a1 : Int32) (a2 : Int32) (a3 : Int32) (M : m_M) (Φ : Option Value → m_M → Prop) (h : m_ok e_I Φ (F_X4_readLevel r_X4_readLevel r_X4_readPart a0 a1 a2 a3 M)) : j_Ct yX4_readLevel cX4_readLevel 6 (some .boolean) (7 + (gn + 1)) 0 0 [.ref a0, .int a1, .int a2, .int a3] M Φ := by
  refine j_Ct.of (by decide +kernel) (Nat.le_of_ble_eq_true rfl) fun X C => ?_
  have C0 := C.1
  show j_J X 6 0 [some (.ref a0), some (.int a1), some (.int a2), some (.int a3), none, none] [] (0, 0) M
  unfold F_X4_readLevel at h
  refine j_iload_n C0 (pc := 0) dX4_readLevel_0 rfl ?_
  refine j_iconst C0 (pc := 1) dX4_readLevel_1 (v := (4 : Int32)) (by decide) ?_
  refine j_icmp_lt C0 (pc := 2) (tgt := 12) dX4_readLevel_2 (by decide) (fun hc => ?_) (fun hc => ?_)
  · replace h := (X_if h).1 hc
    refine j_aload_n C0 (pc := 12) dX4_readLevel_12 rfl ?_
    refine j_iload_n C0 (pc := 13) dX4_readLevel_13 rfl ?_
    refine j_iload_n C0 (pc := 14) dX4_readLevel_14 rfl ?_
    refine j_iconst C0 (pc := 15) dX4_readLevel_15 (v := (1 : Int32)) (by decide) ?_
    refine j_iadd C0 (pc := 16) dX4_readLevel_16 ?_
    refine j_iload_n C0 (pc := 17) dX4_readLevel_17 rfl ?_
    refine X_cV C0 (pc := 18) (e' := e_I) (as := [.int a1, .int (a2 + (1 : Int32)), .int a3]) (rest := []) (s' := fun w => .int w :: []) (g' := (0, 0)) v_LR_115_4 (fun Ψ hΨ => hr_X4_readLevel a0 a1 (a2 + (1 : Int32)) a3 M Ψ hΨ) rfl rfl (fun _ => rfl) (by omega) (by decide) rfl (Nat.le_of_ble_eq_true rfl) dX4_readLevel_18 h (fun v1 M1 h => ?_)
    refine j_if_ne C0 (pc := 21) (tgt := 26) dX4_readLevel_21 (by decide) (fun hc => ?_) (fun hc => ?_)
    · replace h := (X_if h).2 hc
      refine j_iconst C0 (pc := 26) dX4_readLevel_26 (v := (0 : Int32)) (by decide) ?_
      refine j_istore C0 (pc := 27) dX4_readLevel_27 (Nat.le_of_ble_eq_true rfl) ?_
      show j_J X 6 29 [some (.ref a0), some (.int a1), some (.int a2), some (.int a3), some (.int (0 : Int32)), none] [] (0, 0) M1
      exact j_J.wq (L_X4_readLevel_29 C hr_X4_readLevel hr_X4_readPart m_FU a0 a1 a2 a3 (0 : Int32) M1 h) (And.intro rfl (And.intro rfl (And.intro rfl (And.intro rfl (And.intro rfl (trivial))))))
    · replace h := (X_if h).1 hc
      refine j_iconst C0 (pc := 24) dX4_readLevel_24 (v := (0 : Int32)) (by decide) ?_
      exact j_zret C rfl (by decide) h dX4_readLevel_25 (by decide)
  · replace h := (X_if h).2 hc
    refine j_aload_n C0 (pc := 5) dX4_readLevel_5 rfl ?_
    refine j_iload_n C0 (pc := 6) dX4_readLevel_6 rfl ?_
    refine j_iload_n C0 (pc := 7) dX4_readLevel_7 rfl ?_
    refine X_cV C0 (pc := 8) (e' := e_I) (as := [.int a1, .int a3]) (rest := []) (s' := fun w => .int w :: []) (g' := (0, 0)) v_LR_179_4 (fun Ψ hΨ => hr_X4_readPart a0 a1 a3 M Ψ hΨ) rfl rfl (fun _ => rfl) (by omega) (by decide) rfl (Nat.le_of_ble_eq_true rfl) dX4_readLevel_8 h (fun v2 M2 h => ?_)
    exact j_zret C rfl (by rcases (X_gd h).1 with q | q <;> (rw [q]; rfl)) (X_gd h).2 dX4_readLevel_11 (by decide)
set_option maxHeartbeats 4000000 in
theorem K_X4_readPart {gn : Nat} {r_X4_readLevel : Nat → Int32 → Int32 → Int32 → m_M → Option (Int32 × m_M)} {r_X4_readPart : Nat → Int32 → Int32 → m_M → Option (Int32 × m_M)} (hr_X4_readLevel : ∀ (a0 : Nat) (a1 : Int32) (a2 : Int32) (a3 : Int32) (M : m_M) (Φ : Option Value → m_M → Prop), m_ok e_I Φ (r_X4_readLevel a0 a1 a2 a3 M) → j_Ct yX4_readLevel cX4_readLevel 6 (some .boolean) (7 + gn) 0 0 [.ref a0, .int a1, .int a2, .int a3] M Φ) (hr_X4_readPart : ∀ (a0 : Nat) (a1 : Int32) (a2 : Int32) (M : m_M) (Φ : Option Value → m_M → Prop), m_ok e_I Φ (r_X4_readPart a0 a1 a2 M) → j_Ct yX4_readPart cX4_readPart 4 (some .boolean) (7 + gn) 0 0 [.ref a0, .int a1, .int a2] M Φ) (a0 : Nat) (a1 : Int32) (a2 : Int32) (M : m_M) (Φ : Option Value → m_M → Prop) (h : m_ok e_I Φ (F_X4_readPart r_X4_readLevel r_X4_readPart a0 a1 a2 M)) : j_Ct yX4_readPart cX4_readPart 4 (some .boolean) (7 + (gn + 1)) 0 0 [.ref a0, .int a1, .int a2] M Φ := by
  refine j_Ct.of (by decide +kernel) (Nat.le_of_ble_eq_true rfl) fun X C => ?_
  have C0 := C.1
  show j_J X 4 0 [some (.ref a0), some (.int a1), some (.int a2), none] [] (0, 0) M
  unfold F_X4_readPart at h
  refine X_join (fun (kj : Nat → Int32 → Int32 → Int32 → m_M → Option (Int32 × m_M)) => ∀ (p0 : Nat) (p1 : Int32) (p2 : Int32) (p3 : Int32) (M : m_M), m_ok e_I Φ (kj p0 p1 p2 p3 M) → j_J X 4 31 [some (.ref p0), some (.int p1), some (.int p2), none] [.int p3] (0, 0) M) h (fun v1 v2 v3 v4 M1 h => ?_) (fun k31 hk31 h => ?_)
  · refine X_join (fun (kj : Nat → Int32 → Int32 → Int32 → m_M → Option (Int32 × m_M)) => ∀ (p0 : Nat) (p1 : Int32) (p2 : Int32) (p3 : Int32) (M : m_M), m_ok e_I Φ (kj p0 p1 p2 p3 M) → j_J X 4 69 [some (.ref p0), some (.int p1), some (.int p2), some (.int p3)] [] (0, 0) M) h (fun v5 v6 v7 v8 M2 h => ?_) (fun k69 hk69 h => ?_)
    · refine j_iload_n C0 (pc := 69) dX4_readPart_69 rfl ?_
      refine j_iconst C0 (pc := 70) dX4_readPart_70 (v := (5 : Int32)) (by decide) ?_
      refine j_icmp_lt C0 (pc := 71) (tgt := 80) dX4_readPart_71 (by decide) (fun hc => ?_) (fun hc => ?_)
      · replace h := (X_if h).1 hc
        refine j_aload_n C0 (pc := 80) dX4_readPart_80 rfl ?_
        refine j_kst C0 (pc := 81) (j := 10) (by decide) (j_c4 2 (by decide +kernel)) dX4_readPart_81 ?_
        refine X_cU C0 (pc := 84) (e' := e_I) (as := [.ref (1000000 + 10)]) (rest := []) (s' := fun w => .int w :: []) (g' := (0, 0)) u_LR_66_4 (fun Ψ hΨ => K_X8_isAt_4 v5 (1000000 + 10) M2 Ψ hΨ) rfl rfl (fun _ => rfl) (by omega) (by decide) rfl (Nat.le_of_ble_eq_true rfl) dX4_readPart_84 h (fun v9 M3 h => ?_)
        refine j_if_eq C0 (pc := 87) (tgt := 118) dX4_readPart_87 (by decide) (fun hc => ?_) (fun hc => ?_)
        · replace h := (X_if h).1 hc
          refine j_aload_n C0 (pc := 118) dX4_readPart_118 rfl ?_
          refine j_bipush C0 (pc := 119) dX4_readPart_119 (v := (40 : Int32)) (by decide) ?_
          refine X_cU C0 (pc := 121) (e' := e_I) (as := [.int (40 : Int32)]) (rest := []) (s' := fun w => .int w :: []) (g' := (0, 0)) u_LR_150_4 (fun Ψ hΨ => K_X8_isAt__4 v5 (40 : Int32) M3 Ψ hΨ) rfl rfl (fun _ => rfl) (by omega) (by decide) rfl (Nat.le_of_ble_eq_true rfl) dX4_readPart_121 h (fun v10 M4 h => ?_)
          refine j_if_eq C0 (pc := 124) (tgt := 158) dX4_readPart_124 (by decide) (fun hc => ?_) (fun hc => ?_)
          · replace h := (X_if h).1 hc
            refine X_join (fun (kj : Nat → Nat → Int32 → m_M → Option (Int32 × m_M)) => ∀ (p0 : Nat) (p1 : Nat) (p2 : Int32) (M : m_M), m_ok e_I Φ (kj p0 p1 p2 M) → j_J X 4 182 [some (.ref p0), none, none, none] [.int p2, .ref p1] (0, 0) M) h (fun v11 v12 v13 M5 h => ?_) (fun k182 hk182 h => ?_)
            · refine X_cV C0 (pc := 182) (e' := e_V) (as := [.int v13]) (rest := []) (s' := fun _ => []) (g' := (0, 0)) v_LR_187_3 (fun Ψ hΨ => K_X3_addCode v12 v13 M5 Ψ hΨ) rfl rfl (fun _ => rfl) (by omega) (by decide) rfl (Nat.le_of_ble_eq_true rfl) dX4_readPart_182 h (fun _ M6 h => ?_)
              refine j_aload_n C0 (pc := 185) dX4_readPart_185 rfl ?_
              refine X_cU C0 (pc := 186) (e' := e_V) (as := []) (rest := []) (s' := fun _ => []) (g' := (0, 0)) u_LR_129_4 (fun Ψ hΨ => K_X8_advance_4 v11 M6 Ψ hΨ) rfl rfl (fun _ => rfl) (by omega) (by decide) rfl (Nat.le_of_ble_eq_true rfl) dX4_readPart_186 h (fun _ M7 h => ?_)
              refine j_iconst C0 (pc := 189) dX4_readPart_189 (v := (1 : Int32)) (by decide) ?_
              exact j_zret C rfl (by decide) h dX4_readPart_190 (by decide)
            · refine j_aload_n C0 (pc := 158) dX4_readPart_158 rfl ?_
              refine X_gN C0 (pc := 159) f_LR_9_4 rfl dX4_readPart_159 h (fun v14 h => ?_)
              refine j_iload_n C0 (pc := 162) dX4_readPart_162 rfl ?_
              refine j_if_eq C0 (pc := 163) (tgt := 178) dX4_readPart_163 (by decide) (fun hc => ?_) (fun hc => ?_)
              · replace h := (X_if h).1 hc
                refine j_aload_n C0 (pc := 178) dX4_readPart_178 rfl ?_
                refine X_gI C0 (pc := 179) f_LR_208_4 rfl dX4_readPart_179 h (fun v15 h => ?_)
                exact j_J.wq (hk182 v5 v14 v15 M4 h) (And.intro rfl (trivial))
              · replace h := (X_if h).2 hc
                refine j_iconst C0 (pc := 166) dX4_readPart_166 (v := (-1 : Int32)) (by decide) ?_
                refine j_aload_n C0 (pc := 167) dX4_readPart_167 rfl ?_
                refine X_gO C0 (pc := 168) f_LR_196_4 rfl dX4_readPart_168 h (fun v16 h => ?_)
                rcases v16 with _ | v17
                · exact False.elim h
                simp only [x_nn] at h
                refine X_kf C0 (pc := 171) (j_c10 109 (by decide +kernel)) dX4_readPart_171 h (fun v18 h => ?_)
                refine j_isub C0 (pc := 174) dX4_readPart_174 ?_
                refine j_goto C0 (pc := 175) (tgt := 182) dX4_readPart_175 (by decide) ?_
                exact j_J.wq (hk182 v5 v14 ((-1 : Int32) - (k_wf.getD v18 0)) M4 h) (And.intro rfl (trivial))
          · replace h := (X_if h).2 hc
            refine X_join (fun (kj : m_M → Option (Int32 × m_M)) => ∀  (M : m_M), m_ok e_I Φ (kj M) → j_J X 4 156 [none, none, none, none] [] (0, 0) M) h (fun M8 h => ?_) (fun k156 hk156 h => ?_)
            · refine j_iconst C0 (pc := 156) dX4_readPart_156 (v := (0 : Int32)) (by decide) ?_
              exact j_zret C rfl (by decide) h dX4_readPart_157 (by decide)
            · refine j_aload_n C0 (pc := 127) dX4_readPart_127 rfl ?_
              refine X_cU C0 (pc := 128) (e' := e_V) (as := []) (rest := []) (s' := fun _ => []) (g' := (0, 0)) u_LR_129_4 (fun Ψ hΨ => K_X8_advance_4 v5 M4 Ψ hΨ) rfl rfl (fun _ => rfl) (by omega) (by decide) rfl (Nat.le_of_ble_eq_true rfl) dX4_readPart_128 h (fun _ M9 h => ?_)
              refine j_aload_n C0 (pc := 131) dX4_readPart_131 rfl ?_
              refine j_iload_n C0 (pc := 132) dX4_readPart_132 rfl ?_
              refine j_iconst C0 (pc := 133) dX4_readPart_133 (v := (0 : Int32)) (by decide) ?_
              refine j_iload_n C0 (pc := 134) dX4_readPart_134 rfl ?_
              refine j_iconst C0 (pc := 135) dX4_readPart_135 (v := (1 : Int32)) (by decide) ?_
              refine j_iadd C0 (pc := 136) dX4_readPart_136 ?_
              refine X_cV C0 (pc := 137) (e' := e_I) (as := [.int v6, .int (0 : Int32), .int (v7 + (1 : Int32))]) (rest := []) (s' := fun w => .int w :: []) (g' := (0, 0)) v_LR_115_4 (fun Ψ hΨ => hr_X4_readLevel v5 v6 (0 : Int32) (v7 + (1 : Int32)) M9 Ψ hΨ) rfl rfl (fun _ => rfl) (by omega) (by decide) rfl (Nat.le_of_ble_eq_true rfl) dX4_readPart_137 h (fun v19 M10 h => ?_)
              refine j_if_eq C0 (pc := 140) (tgt := 156) dX4_readPart_140 (by decide) (fun hc => ?_) (fun hc => ?_)
              · replace h := (X_if h).1 hc
                exact j_J.wq (hk156 M10 h) (trivial)
              · replace h := (X_if h).2 hc
                refine j_aload_n C0 (pc := 143) dX4_readPart_143 rfl ?_
                refine j_bipush C0 (pc := 144) dX4_readPart_144 (v := (41 : Int32)) (by decide) ?_
                refine X_cU C0 (pc := 146) (e' := e_I) (as := [.int (41 : Int32)]) (rest := []) (s' := fun w => .int w :: []) (g' := (0, 0)) u_LR_60_4 (fun Ψ hΨ => K_X8_pass__4 v5 (41 : Int32) M10 Ψ hΨ) rfl rfl (fun _ => rfl) (by omega) (by decide) rfl (Nat.le_of_ble_eq_true rfl) dX4_readPart_146 h (fun v20 M11 h => ?_)
                refine j_if_eq C0 (pc := 149) (tgt := 156) dX4_readPart_149 (by decide) (fun hc => ?_) (fun hc => ?_)
                · replace h := (X_if h).1 hc
                  exact j_J.wq (hk156 M11 h) (trivial)
                · replace h := (X_if h).2 hc
                  refine j_iconst C0 (pc := 152) dX4_readPart_152 (v := (1 : Int32)) (by decide) ?_
                  refine j_goto C0 (pc := 153) (tgt := 157) dX4_readPart_153 (by decide) ?_
                  exact j_zret C rfl (by decide) h dX4_readPart_157 (by decide)
        · replace h := (X_if h).2 hc
          refine j_aload_n C0 (pc := 90) dX4_readPart_90 rfl ?_
          refine X_cU C0 (pc := 91) (e' := e_V) (as := []) (rest := []) (s' := fun _ => []) (g' := (0, 0)) u_LR_129_4 (fun Ψ hΨ => K_X8_advance_4 v5 M3 Ψ hΨ) rfl rfl (fun _ => rfl) (by omega) (by decide) rfl (Nat.le_of_ble_eq_true rfl) dX4_readPart_91 h (fun _ M12 h => ?_)
          refine j_aload_n C0 (pc := 94) dX4_readPart_94 rfl ?_
          refine j_iload_n C0 (pc := 95) dX4_readPart_95 rfl ?_
          refine j_iload_n C0 (pc := 96) dX4_readPart_96 rfl ?_
          refine j_iconst C0 (pc := 97) dX4_readPart_97 (v := (1 : Int32)) (by decide) ?_
          refine j_iadd C0 (pc := 98) dX4_readPart_98 ?_
          refine X_cV C0 (pc := 99) (e' := e_I) (as := [.int v6, .int (v7 + (1 : Int32))]) (rest := []) (s' := fun w => .int w :: []) (g' := (0, 0)) v_LR_179_4 (fun Ψ hΨ => hr_X4_readPart v5 v6 (v7 + (1 : Int32)) M12 Ψ hΨ) rfl rfl (fun _ => rfl) (by omega) (by decide) rfl (Nat.le_of_ble_eq_true rfl) dX4_readPart_99 h (fun v21 M13 h => ?_)
          refine j_if_ne C0 (pc := 102) (tgt := 107) dX4_readPart_102 (by decide) (fun hc => ?_) (fun hc => ?_)
          · replace h := (X_if h).2 hc
            refine j_aload_n C0 (pc := 107) dX4_readPart_107 rfl ?_
            refine X_gN C0 (pc := 108) f_LR_9_4 rfl dX4_readPart_108 h (fun v22 h => ?_)
            refine j_bipush C0 (pc := 111) dX4_readPart_111 (v := (-11 : Int32)) (by decide) ?_
            refine X_cV C0 (pc := 113) (e' := e_V) (as := [.int (-11 : Int32)]) (rest := []) (s' := fun _ => []) (g' := (0, 0)) v_LR_187_3 (fun Ψ hΨ => K_X3_addCode v22 (-11 : Int32) M13 Ψ hΨ) rfl rfl (fun _ => rfl) (by omega) (by decide) rfl (Nat.le_of_ble_eq_true rfl) dX4_readPart_113 h (fun _ M14 h => ?_)
            refine j_iconst C0 (pc := 116) dX4_readPart_116 (v := (1 : Int32)) (by decide) ?_
            exact j_zret C rfl (by decide) h dX4_readPart_117 (by decide)
          · replace h := (X_if h).1 hc
            refine j_iconst C0 (pc := 105) dX4_readPart_105 (v := (0 : Int32)) (by decide) ?_
            exact j_zret C rfl (by decide) h dX4_readPart_106 (by decide)
      · replace h := (X_if h).2 hc
        refine j_aload_n C0 (pc := 74) dX4_readPart_74 rfl ?_
        refine j_iconst C0 (pc := 75) dX4_readPart_75 (v := (5 : Int32)) (by decide) ?_
        refine X_cU C0 (pc := 76) (e' := e_I) (as := [.int (5 : Int32)]) (rest := []) (s' := fun w => .int w :: []) (g' := (0, 0)) u_LR_100_4 (fun Ψ hΨ => K_X8_fail_4 v5 (5 : Int32) M2 Ψ hΨ) rfl rfl (fun _ => rfl) (by omega) (by decide) rfl (Nat.le_of_ble_eq_true rfl) dX4_readPart_76 h (fun v23 M15 h => ?_)
        exact j_zret C rfl (by rcases (X_gd h).1 with q | q <;> (rw [q]; rfl)) (X_gd h).2 dX4_readPart_79 (by decide)
    · refine j_istore_n C0 (pc := 31) dX4_readPart_31 (Nat.le_of_ble_eq_true rfl) ?_
      show j_J X 4 32 [some (.ref v1), some (.int v2), some (.int v3), some (.int v4)] [] (0, 0) M1
      refine j_aload_n C0 (pc := 32) dX4_readPart_32 rfl ?_
      refine X_gI C0 (pc := 33) f_LR_37_4 rfl dX4_readPart_33 h (fun v24 h => ?_)
      refine j_iconst C0 (pc := 36) dX4_readPart_36 (v := (3 : Int32)) (by decide) ?_
      refine j_icmp_eq C0 (pc := 37) (tgt := 69) dX4_readPart_37 (by decide) (fun hc => ?_) (fun hc => ?_)
      · replace h := (X_if h).1 hc
        exact j_J.wq (hk69 v1 v2 v3 v4 M1 h) (And.intro rfl (And.intro rfl (And.intro rfl (And.intro rfl (trivial)))))
      · replace h := (X_if h).2 hc
        refine j_iload_n C0 (pc := 40) dX4_readPart_40 rfl ?_
        refine j_if_ne C0 (pc := 41) (tgt := 69) dX4_readPart_41 (by decide) (fun hc => ?_) (fun hc => ?_)
        · replace h := (X_if h).2 hc
          exact j_J.wq (hk69 v1 v2 v3 v4 M1 h) (And.intro rfl (And.intro rfl (And.intro rfl (And.intro rfl (trivial)))))
        · replace h := (X_if h).1 hc
          refine j_aload_n C0 (pc := 44) dX4_readPart_44 rfl ?_
          refine j_kst C0 (pc := 45) (j := 10) (by decide) (j_c4 2 (by decide +kernel)) dX4_readPart_45 ?_
          refine X_cU C0 (pc := 48) (e' := e_I) (as := [.ref (1000000 + 10)]) (rest := []) (s' := fun w => .int w :: []) (g' := (0, 0)) u_LR_66_4 (fun Ψ hΨ => K_X8_isAt_4 v1 (1000000 + 10) M1 Ψ hΨ) rfl rfl (fun _ => rfl) (by omega) (by decide) rfl (Nat.le_of_ble_eq_true rfl) dX4_readPart_48 h (fun v25 M16 h => ?_)
          refine j_if_ne C0 (pc := 51) (tgt := 69) dX4_readPart_51 (by decide) (fun hc => ?_) (fun hc => ?_)
          · replace h := (X_if h).2 hc
            exact j_J.wq (hk69 v1 v2 v3 v4 M16 h) (And.intro rfl (And.intro rfl (And.intro rfl (And.intro rfl (trivial)))))
          · replace h := (X_if h).1 hc
            refine j_aload_n C0 (pc := 54) dX4_readPart_54 rfl ?_
            refine j_bipush C0 (pc := 55) dX4_readPart_55 (v := (40 : Int32)) (by decide) ?_
            refine X_cU C0 (pc := 57) (e' := e_I) (as := [.int (40 : Int32)]) (rest := []) (s' := fun w => .int w :: []) (g' := (0, 0)) u_LR_150_4 (fun Ψ hΨ => K_X8_isAt__4 v1 (40 : Int32) M16 Ψ hΨ) rfl rfl (fun _ => rfl) (by omega) (by decide) rfl (Nat.le_of_ble_eq_true rfl) dX4_readPart_57 h (fun v26 M17 h => ?_)
            refine j_if_ne C0 (pc := 60) (tgt := 69) dX4_readPart_60 (by decide) (fun hc => ?_) (fun hc => ?_)
            · replace h := (X_if h).2 hc
              exact j_J.wq (hk69 v1 v2 v3 v4 M17 h) (And.intro rfl (And.intro rfl (And.intro rfl (And.intro rfl (trivial)))))
            · replace h := (X_if h).1 hc
              refine j_aload_n C0 (pc := 63) dX4_readPart_63 rfl ?_
              refine j_iconst C0 (pc := 64) dX4_readPart_64 (v := (1 : Int32)) (by decide) ?_
              refine X_cU C0 (pc := 65) (e' := e_I) (as := [.int (1 : Int32)]) (rest := []) (s' := fun w => .int w :: []) (g' := (0, 0)) u_LR_100_4 (fun Ψ hΨ => K_X8_fail_4 v1 (1 : Int32) M17 Ψ hΨ) rfl rfl (fun _ => rfl) (by omega) (by decide) rfl (Nat.le_of_ble_eq_true rfl) dX4_readPart_65 h (fun v27 M18 h => ?_)
              exact j_zret C rfl (by rcases (X_gd h).1 with q | q <;> (rw [q]; rfl)) (X_gd h).2 dX4_readPart_68 (by decide)
  · refine X_join (fun (kj : Nat → Int32 → Int32 → m_M → Option (Int32 × m_M)) => ∀ (p0 : Nat) (p1 : Int32) (p2 : Int32) (M : m_M), m_ok e_I Φ (kj p0 p1 p2 M) → j_J X 4 30 [some (.ref p0), some (.int p1), some (.int p2), none] [] (0, 0) M) h (fun v28 v29 v30 M19 h => ?_) (fun k30 hk30 h => ?_)
    · refine j_iconst C0 (pc := 30) dX4_readPart_30 (v := (0 : Int32)) (by decide) ?_
      exact j_J.wq (hk31 v28 v29 v30 (0 : Int32) M19 h) (And.intro rfl (And.intro rfl (And.intro rfl (trivial))))
    · refine j_aload_n C0 (pc := 0) dX4_readPart_0 rfl ?_
      refine X_gI C0 (pc := 1) f_LR_37_4 rfl dX4_readPart_1 h (fun v31 h => ?_)
      refine j_iconst C0 (pc := 4) dX4_readPart_4 (v := (2 : Int32)) (by decide) ?_
      refine j_icmp_ne C0 (pc := 5) (tgt := 30) dX4_readPart_5 (by decide) (fun hc => ?_) (fun hc => ?_)
      · replace h := (X_if h).2 hc
        exact j_J.wq (hk30 a0 a1 a2 M h) (And.intro rfl (And.intro rfl (And.intro rfl (trivial))))
      · replace h := (X_if h).1 hc
        refine j_aload_n C0 (pc := 8) dX4_readPart_8 rfl ?_
        refine X_gO C0 (pc := 9) f_LR_196_4 rfl dX4_readPart_9 h (fun v32 h => ?_)
        rcases v32 with _ | v33
        · refine j_ifnullN C0 (pc := 12) (tgt := 30) dX4_readPart_12 (by decide) ?_
          simp only [x_nul] at h
          exact j_J.wq (hk30 a0 a1 a2 M h) (And.intro rfl (And.intro rfl (And.intro rfl (trivial))))
        · refine j_ifnull C0 (pc := 12) dX4_readPart_12 ?_
          simp only [x_nul] at h
          refine j_aload_n C0 (pc := 15) dX4_readPart_15 rfl ?_
          refine X_gO C0 (pc := 16) f_LR_196_4 rfl dX4_readPart_16 h (fun v34 h => ?_)
          rcases v34 with _ | v35
          · exact False.elim h
          simp only [x_nn] at h
          refine X_ko C0 (pc := 19) (j_c10 108 (by decide +kernel)) dX4_readPart_19 h (fun v36 h => ?_)
          refine j_iload_n C0 (pc := 22) dX4_readPart_22 rfl ?_
          refine j_icmp_ne C0 (pc := 23) (tgt := 30) dX4_readPart_23 (by decide) (fun hc => ?_) (fun hc => ?_)
          · replace h := (X_if h).2 hc
            exact j_J.wq (hk30 a0 a1 a2 M h) (And.intro rfl (And.intro rfl (And.intro rfl (trivial))))
          · replace h := (X_if h).1 hc
            refine j_iconst C0 (pc := 26) dX4_readPart_26 (v := (1 : Int32)) (by decide) ?_
            refine j_goto C0 (pc := 27) (tgt := 31) dX4_readPart_27 (by decide) ?_
            exact j_J.wq (hk31 a0 a1 a2 (1 : Int32) M h) (And.intro rfl (And.intro rfl (And.intro rfl (trivial))))
set_option maxHeartbeats 4000000 in
theorem KG_E (n : Nat) : (∀ (a0 : Nat) (a1 : Int32) (a2 : Int32) (a3 : Int32) (M : m_M) (Φ : Option Value → m_M → Prop), m_ok e_I Φ (((G_E n).1) a0 a1 a2 a3 M) → j_Ct yX4_readLevel cX4_readLevel 6 (some .boolean) (7 + n) 0 0 [.ref a0, .int a1, .int a2, .int a3] M Φ) ∧ (∀ (a0 : Nat) (a1 : Int32) (a2 : Int32) (M : m_M) (Φ : Option Value → m_M → Prop), m_ok e_I Φ (((G_E n).2) a0 a1 a2 M) → j_Ct yX4_readPart cX4_readPart 4 (some .boolean) (7 + n) 0 0 [.ref a0, .int a1, .int a2] M Φ) := by
  induction n with
  | zero => exact ⟨fun _ _ _ _ _ _ h => False.elim h, fun _ _ _ _ _ h => False.elim h⟩
  | succ n ih =>
    obtain ⟨h0, h1⟩ := ih
    exact ⟨fun a0 a1 a2 a3 M Φ h => K_X4_readLevel h0 h1 a0 a1 a2 a3 M Φ h, fun a0 a1 a2 M Φ h => K_X4_readPart h0 h1 a0 a1 a2 M Φ h⟩
theorem KG_X4_readLevel (a0 : Nat) (a1 : Int32) (a2 : Int32) (a3 : Int32) (M : m_M) (Φ : Option Value → m_M → Prop) (h : m_ok e_I Φ (FG_X4_readLevel a0 a1 a2 a3 M)) : j_Ct yX4_readLevel cX4_readLevel 6 (some .boolean) 71 0 0 [.ref a0, .int a1, .int a2, .int a3] M Φ := ((KG_E 64).1) a0 a1 a2 a3 M Φ h
theorem KG_X4_readPart (a0 : Nat) (a1 : Int32) (a2 : Int32) (M : m_M) (Φ : Option Value → m_M → Prop) (h : m_ok e_I Φ (FG_X4_readPart a0 a1 a2 M)) : j_Ct yX4_readPart cX4_readPart 4 (some .boolean) 71 0 0 [.ref a0, .int a1, .int a2] M Φ := ((KG_E 64).2) a0 a1 a2 M Φ h
theorem dX3_closeLaw_0 : decode cX3_closeLaw 0 = .ok (.aload_n 0, 1) := by decide +kernel
theorem dX3_closeLaw_1 : decode cX3_closeLaw 1 = .ok (.getfield 9, 3) := by decide +kernel
theorem dX3_closeLaw_4 : decode cX3_closeLaw 4 = .ok (.iload_n 1, 1) := by decide +kernel
theorem dX3_closeLaw_5 : decode cX3_closeLaw 5 = .ok (.iaload, 1) := by decide +kernel
theorem dX3_closeLaw_6 : decode cX3_closeLaw 6 = .ok (.ifCond .le 25, 3) := by decide +kernel
theorem dX3_closeLaw_9 : decode cX3_closeLaw 9 = .ok (.aload_n 0, 1) := by decide +kernel
theorem dX3_closeLaw_10 : decode cX3_closeLaw 10 = .ok (.getfield 34, 3) := by decide +kernel
theorem dX3_closeLaw_13 : decode cX3_closeLaw 13 = .ok (.iload_n 1, 1) := by decide +kernel
theorem dX3_closeLaw_14 : decode cX3_closeLaw 14 = .ok (.bipush 8, 2) := by decide +kernel
theorem dX3_closeLaw_16 : decode cX3_closeLaw 16 = .ok (.imul, 1) := by decide +kernel
theorem dX3_closeLaw_17 : decode cX3_closeLaw 17 = .ok (.aload_n 0, 1) := by decide +kernel
theorem dX3_closeLaw_18 : decode cX3_closeLaw 18 = .ok (.getfield 9, 3) := by decide +kernel
theorem dX3_closeLaw_21 : decode cX3_closeLaw 21 = .ok (.iload_n 1, 1) := by decide +kernel
theorem dX3_closeLaw_22 : decode cX3_closeLaw 22 = .ok (.iaload, 1) := by decide +kernel
theorem dX3_closeLaw_23 : decode cX3_closeLaw 23 = .ok (.iadd, 1) := by decide +kernel
theorem dX3_closeLaw_24 : decode cX3_closeLaw 24 = .ok (.iconst 1, 1) := by decide +kernel
theorem dX3_closeLaw_25 : decode cX3_closeLaw 25 = .ok (.isub, 1) := by decide +kernel
theorem dX3_closeLaw_26 : decode cX3_closeLaw 26 = .ok (.aload_n 0, 1) := by decide +kernel
theorem dX3_closeLaw_27 : decode cX3_closeLaw 27 = .ok (.getfield 68, 3) := by decide +kernel
theorem dX3_closeLaw_30 : decode cX3_closeLaw 30 = .ok (.iastore, 1) := by decide +kernel
theorem dX3_closeLaw_31 : decode cX3_closeLaw 31 = .ok (.return_, 1) := by decide +kernel
noncomputable def F_X3_closeLaw (a0 : Nat) (a1 : Int32) (M : m_M) : Option (Unit × m_M) :=
  x_gN 3 M a0 6 fun v1 =>
  x_aI 12 M v1 a1 fun v2 =>
  if v2 ≤ 0 then (
    some ((), M)
  ) else
  x_gN 3 M a0 13 fun v3 =>
  x_gN 3 M a0 6 fun v4 =>
  x_aI 12 M v4 a1 fun v5 =>
  x_gI 3 M a0 5 fun v6 =>
  x_sI 12 M v3 (((a1 * (8 : Int32)) + v5) - (1 : Int32)) v6 fun M1 =>
  some ((), M1)
set_option maxHeartbeats 4000000 in
theorem K_X3_closeLaw (a0 : Nat) (a1 : Int32) (M : m_M) (Φ : Option Value → m_M → Prop) (h : m_ok e_V Φ (F_X3_closeLaw a0 a1 M)) : j_Ct yX3_closeLaw cX3_closeLaw 2 none 1 0 0 [.ref a0, .int a1] M Φ := by
  refine j_Ct.of (by decide +kernel) (Nat.le_of_ble_eq_true rfl) fun X C => ?_
  have C0 := C.1
  show j_J X 2 0 [some (.ref a0), some (.int a1)] [] (0, 0) M
  unfold F_X3_closeLaw at h
  refine j_aload_n C0 (pc := 0) dX3_closeLaw_0 rfl ?_
  refine X_gN C0 (pc := 1) f_Land_9_3 rfl dX3_closeLaw_1 h (fun v1 h => ?_)
  refine j_iload_n C0 (pc := 4) dX3_closeLaw_4 rfl ?_
  refine X_iald C0 (pc := 5) dX3_closeLaw_5 h (fun v2 h => ?_)
  refine j_if_le C0 (pc := 6) (tgt := 31) dX3_closeLaw_6 (by decide) (fun hc => ?_) (fun hc => ?_)
  · replace h := (X_if h).1 hc
    exact j_vret C rfl h dX3_closeLaw_31 (by decide)
  · replace h := (X_if h).2 hc
    refine j_aload_n C0 (pc := 9) dX3_closeLaw_9 rfl ?_
    refine X_gN C0 (pc := 10) f_Land_34_3 rfl dX3_closeLaw_10 h (fun v3 h => ?_)
    refine j_iload_n C0 (pc := 13) dX3_closeLaw_13 rfl ?_
    refine j_bipush C0 (pc := 14) dX3_closeLaw_14 (v := (8 : Int32)) (by decide) ?_
    refine j_imul C0 (pc := 16) dX3_closeLaw_16 ?_
    refine j_aload_n C0 (pc := 17) dX3_closeLaw_17 rfl ?_
    refine X_gN C0 (pc := 18) f_Land_9_3 rfl dX3_closeLaw_18 h (fun v4 h => ?_)
    refine j_iload_n C0 (pc := 21) dX3_closeLaw_21 rfl ?_
    refine X_iald C0 (pc := 22) dX3_closeLaw_22 h (fun v5 h => ?_)
    refine j_iadd C0 (pc := 23) dX3_closeLaw_23 ?_
    refine j_iconst C0 (pc := 24) dX3_closeLaw_24 (v := (1 : Int32)) (by decide) ?_
    refine j_isub C0 (pc := 25) dX3_closeLaw_25 ?_
    refine j_aload_n C0 (pc := 26) dX3_closeLaw_26 rfl ?_
    refine X_gI C0 (pc := 27) f_Land_68_3 rfl dX3_closeLaw_27 h (fun v6 h => ?_)
    refine X_iast C0 (pc := 30) dX3_closeLaw_30 h (fun M1 h => ?_)
    exact j_vret C rfl h dX3_closeLaw_31 (by decide)
theorem dX4_readLaw_0 : decode cX4_readLaw 0 = .ok (.aload_n 0, 1) := by decide +kernel
theorem dX4_readLaw_1 : decode cX4_readLaw 1 = .ok (.iload_n 1, 1) := by decide +kernel
theorem dX4_readLaw_2 : decode cX4_readLaw 2 = .ok (.invokevirtual 103, 3) := by decide +kernel
theorem dX4_readLaw_5 : decode cX4_readLaw 5 = .ok (.ifCond .ne 5, 3) := by decide +kernel
theorem dX4_readLaw_8 : decode cX4_readLaw 8 = .ok (.iconst 0, 1) := by decide +kernel
theorem dX4_readLaw_9 : decode cX4_readLaw 9 = .ok (.ireturn, 1) := by decide +kernel
theorem dX4_readLaw_10 : decode cX4_readLaw 10 = .ok (.aload_n 0, 1) := by decide +kernel
theorem dX4_readLaw_11 : decode cX4_readLaw 11 = .ok (.getfield 9, 3) := by decide +kernel
theorem dX4_readLaw_14 : decode cX4_readLaw 14 = .ok (.iload_n 1, 1) := by decide +kernel
theorem dX4_readLaw_15 : decode cX4_readLaw 15 = .ok (.invokevirtual 112, 3) := by decide +kernel
theorem dX4_readLaw_18 : decode cX4_readLaw 18 = .ok (.aload_n 0, 1) := by decide +kernel
theorem dX4_readLaw_19 : decode cX4_readLaw 19 = .ok (.iload_n 1, 1) := by decide +kernel
theorem dX4_readLaw_20 : decode cX4_readLaw 20 = .ok (.iconst 0, 1) := by decide +kernel
theorem dX4_readLaw_21 : decode cX4_readLaw 21 = .ok (.iconst 0, 1) := by decide +kernel
theorem dX4_readLaw_22 : decode cX4_readLaw 22 = .ok (.invokevirtual 115, 3) := by decide +kernel
theorem dX4_readLaw_25 : decode cX4_readLaw 25 = .ok (.ifCond .ne 5, 3) := by decide +kernel
theorem dX4_readLaw_28 : decode cX4_readLaw 28 = .ok (.iconst 0, 1) := by decide +kernel
theorem dX4_readLaw_29 : decode cX4_readLaw 29 = .ok (.ireturn, 1) := by decide +kernel
theorem dX4_readLaw_30 : decode cX4_readLaw 30 = .ok (.aload_n 0, 1) := by decide +kernel
theorem dX4_readLaw_31 : decode cX4_readLaw 31 = .ok (.getfield 9, 3) := by decide +kernel
theorem dX4_readLaw_34 : decode cX4_readLaw 34 = .ok (.iload_n 1, 1) := by decide +kernel
theorem dX4_readLaw_35 : decode cX4_readLaw 35 = .ok (.invokevirtual 119, 3) := by decide +kernel
theorem dX4_readLaw_38 : decode cX4_readLaw 38 = .ok (.aload_n 0, 1) := by decide +kernel
theorem dX4_readLaw_39 : decode cX4_readLaw 39 = .ok (.bipush 59, 2) := by decide +kernel
theorem dX4_readLaw_41 : decode cX4_readLaw 41 = .ok (.invokevirtual 60, 3) := by decide +kernel
theorem dX4_readLaw_44 : decode cX4_readLaw 44 = .ok (.ireturn, 1) := by decide +kernel
noncomputable def F_X4_readLaw (a0 : Nat) (a1 : Int32) (M : m_M) : Option (Int32 × m_M) :=
  x_cV 4 M a0 (F_X4_readNamed a0 a1 M) fun v1 M1 =>
  if v1 = 0 then (
    some ((0 : Int32), M1)
  ) else
  x_gN 4 M1 a0 10 fun v2 =>
  x_cV 3 M1 v2 (F_X3_openLaw v2 a1 M1) fun _ M2 =>
  x_cV 4 M2 a0 (FG_X4_readLevel a0 a1 (0 : Int32) (0 : Int32) M2) fun v3 M3 =>
  if v3 = 0 then (
    some ((0 : Int32), M3)
  ) else
  x_gN 4 M3 a0 10 fun v4 =>
  x_cV 3 M3 v4 (F_X3_closeLaw v4 a1 M3) fun _ M4 =>
  x_cV 4 M4 a0 (F_X8_pass_ 4 a0 (59 : Int32) M4) fun v5 M5 =>
  x_b v5 <| some (v5, M5)
set_option maxHeartbeats 4000000 in
theorem K_X4_readLaw (a0 : Nat) (a1 : Int32) (M : m_M) (Φ : Option Value → m_M → Prop) (h : m_ok e_I Φ (F_X4_readLaw a0 a1 M)) : j_Ct yX4_readLaw cX4_readLaw 2 (some .boolean) 72 0 0 [.ref a0, .int a1] M Φ := by
  refine j_Ct.of (by decide +kernel) (Nat.le_of_ble_eq_true rfl) fun X C => ?_
  have C0 := C.1
  show j_J X 2 0 [some (.ref a0), some (.int a1)] [] (0, 0) M
  unfold F_X4_readLaw at h
  refine j_aload_n C0 (pc := 0) dX4_readLaw_0 rfl ?_
  refine j_iload_n C0 (pc := 1) dX4_readLaw_1 rfl ?_
  refine X_cV C0 (pc := 2) (e' := e_I) (as := [.int a1]) (rest := []) (s' := fun w => .int w :: []) (g' := (0, 0)) v_LR_103_4 (fun Ψ hΨ => K_X4_readNamed a0 a1 M Ψ hΨ) rfl rfl (fun _ => rfl) (by decide) (by decide) rfl (Nat.le_of_ble_eq_true rfl) dX4_readLaw_2 h (fun v1 M1 h => ?_)
  refine j_if_ne C0 (pc := 5) (tgt := 10) dX4_readLaw_5 (by decide) (fun hc => ?_) (fun hc => ?_)
  · replace h := (X_if h).2 hc
    refine j_aload_n C0 (pc := 10) dX4_readLaw_10 rfl ?_
    refine X_gN C0 (pc := 11) f_LR_9_4 rfl dX4_readLaw_11 h (fun v2 h => ?_)
    refine j_iload_n C0 (pc := 14) dX4_readLaw_14 rfl ?_
    refine X_cV C0 (pc := 15) (e' := e_V) (as := [.int a1]) (rest := []) (s' := fun _ => []) (g' := (0, 0)) v_LR_112_3 (fun Ψ hΨ => K_X3_openLaw v2 a1 M1 Ψ hΨ) rfl rfl (fun _ => rfl) (by decide) (by decide) rfl (Nat.le_of_ble_eq_true rfl) dX4_readLaw_15 h (fun _ M2 h => ?_)
    refine j_aload_n C0 (pc := 18) dX4_readLaw_18 rfl ?_
    refine j_iload_n C0 (pc := 19) dX4_readLaw_19 rfl ?_
    refine j_iconst C0 (pc := 20) dX4_readLaw_20 (v := (0 : Int32)) (by decide) ?_
    refine j_iconst C0 (pc := 21) dX4_readLaw_21 (v := (0 : Int32)) (by decide) ?_
    refine X_cV C0 (pc := 22) (e' := e_I) (as := [.int a1, .int (0 : Int32), .int (0 : Int32)]) (rest := []) (s' := fun w => .int w :: []) (g' := (0, 0)) v_LR_115_4 (fun Ψ hΨ => KG_X4_readLevel a0 a1 (0 : Int32) (0 : Int32) M2 Ψ hΨ) rfl rfl (fun _ => rfl) (by decide) (by decide) rfl (Nat.le_of_ble_eq_true rfl) dX4_readLaw_22 h (fun v3 M3 h => ?_)
    refine j_if_ne C0 (pc := 25) (tgt := 30) dX4_readLaw_25 (by decide) (fun hc => ?_) (fun hc => ?_)
    · replace h := (X_if h).2 hc
      refine j_aload_n C0 (pc := 30) dX4_readLaw_30 rfl ?_
      refine X_gN C0 (pc := 31) f_LR_9_4 rfl dX4_readLaw_31 h (fun v4 h => ?_)
      refine j_iload_n C0 (pc := 34) dX4_readLaw_34 rfl ?_
      refine X_cV C0 (pc := 35) (e' := e_V) (as := [.int a1]) (rest := []) (s' := fun _ => []) (g' := (0, 0)) v_LR_119_3 (fun Ψ hΨ => K_X3_closeLaw v4 a1 M3 Ψ hΨ) rfl rfl (fun _ => rfl) (by decide) (by decide) rfl (Nat.le_of_ble_eq_true rfl) dX4_readLaw_35 h (fun _ M4 h => ?_)
      refine j_aload_n C0 (pc := 38) dX4_readLaw_38 rfl ?_
      refine j_bipush C0 (pc := 39) dX4_readLaw_39 (v := (59 : Int32)) (by decide) ?_
      refine X_cU C0 (pc := 41) (e' := e_I) (as := [.int (59 : Int32)]) (rest := []) (s' := fun w => .int w :: []) (g' := (0, 0)) u_LR_60_4 (fun Ψ hΨ => K_X8_pass__4 a0 (59 : Int32) M4 Ψ hΨ) rfl rfl (fun _ => rfl) (by decide) (by decide) rfl (Nat.le_of_ble_eq_true rfl) dX4_readLaw_41 h (fun v5 M5 h => ?_)
      exact j_zret C rfl (by rcases (X_gd h).1 with q | q <;> (rw [q]; rfl)) (X_gd h).2 dX4_readLaw_44 (by decide)
    · replace h := (X_if h).1 hc
      refine j_iconst C0 (pc := 28) dX4_readLaw_28 (v := (0 : Int32)) (by decide) ?_
      exact j_zret C rfl (by decide) h dX4_readLaw_29 (by decide)
  · replace h := (X_if h).1 hc
    refine j_iconst C0 (pc := 8) dX4_readLaw_8 (v := (0 : Int32)) (by decide) ?_
    exact j_zret C rfl (by decide) h dX4_readLaw_9 (by decide)
theorem dX4_verbHere_0 : decode cX4_verbHere 0 = .ok (.aload_n 0, 1) := by decide +kernel
theorem dX4_verbHere_1 : decode cX4_verbHere 1 = .ok (.invokevirtual 132, 3) := by decide +kernel
theorem dX4_verbHere_4 : decode cX4_verbHere 4 = .ok (.ifCond .ne 11, 3) := by decide +kernel
theorem dX4_verbHere_7 : decode cX4_verbHere 7 = .ok (.aload_n 0, 1) := by decide +kernel
theorem dX4_verbHere_8 : decode cX4_verbHere 8 = .ok (.iconst 1, 1) := by decide +kernel
theorem dX4_verbHere_9 : decode cX4_verbHere 9 = .ok (.invokevirtual 100, 3) := by decide +kernel
theorem dX4_verbHere_12 : decode cX4_verbHere 12 = .ok (.pop, 1) := by decide +kernel
theorem dX4_verbHere_13 : decode cX4_verbHere 13 = .ok (.iconst (-1), 1) := by decide +kernel
theorem dX4_verbHere_14 : decode cX4_verbHere 14 = .ok (.ireturn, 1) := by decide +kernel
theorem dX4_verbHere_15 : decode cX4_verbHere 15 = .ok (.aload_n 0, 1) := by decide +kernel
theorem dX4_verbHere_16 : decode cX4_verbHere 16 = .ok (.getfield 9, 3) := by decide +kernel
theorem dX4_verbHere_19 : decode cX4_verbHere 19 = .ok (.iconst 2, 1) := by decide +kernel
theorem dX4_verbHere_20 : decode cX4_verbHere 20 = .ok (.aload_n 0, 1) := by decide +kernel
theorem dX4_verbHere_21 : decode cX4_verbHere 21 = .ok (.getfield 135, 3) := by decide +kernel
theorem dX4_verbHere_24 : decode cX4_verbHere 24 = .ok (.invokevirtual 165, 3) := by decide +kernel
theorem dX4_verbHere_27 : decode cX4_verbHere 27 = .ok (.istore_n 1, 1) := by decide +kernel
theorem dX4_verbHere_28 : decode cX4_verbHere 28 = .ok (.iload_n 1, 1) := by decide +kernel
theorem dX4_verbHere_29 : decode cX4_verbHere 29 = .ok (.iconst (-1), 1) := by decide +kernel
theorem dX4_verbHere_30 : decode cX4_verbHere 30 = .ok (.if_icmp .ne 9, 3) := by decide +kernel
theorem dX4_verbHere_33 : decode cX4_verbHere 33 = .ok (.aload_n 0, 1) := by decide +kernel
theorem dX4_verbHere_34 : decode cX4_verbHere 34 = .ok (.iconst 2, 1) := by decide +kernel
theorem dX4_verbHere_35 : decode cX4_verbHere 35 = .ok (.invokevirtual 100, 3) := by decide +kernel
theorem dX4_verbHere_38 : decode cX4_verbHere 38 = .ok (.pop, 1) := by decide +kernel
theorem dX4_verbHere_39 : decode cX4_verbHere 39 = .ok (.iload_n 1, 1) := by decide +kernel
theorem dX4_verbHere_40 : decode cX4_verbHere 40 = .ok (.ireturn, 1) := by decide +kernel
noncomputable def F_X4_verbHere (a0 : Nat) (M : m_M) : Option (Int32 × m_M) :=
  x_cV 4 M a0 (F_X8_isAtName 4 a0 M) fun v1 M1 =>
  if v1 = 0 then (
    x_cV 4 M1 a0 (F_X8_fail 4 a0 (1 : Int32) M1) fun v6 M4 =>
    some ((-1 : Int32), M4)
  ) else
  x_gN 4 M1 a0 10 fun v2 =>
  x_gL 4 M1 a0 7 fun v3 =>
  x_cV 3 M1 v2 (F_X3_find v2 (2 : Int32) v3 M1) fun v4 M2 =>
  if v4 = (-1 : Int32) then (
    x_cV 4 M2 a0 (F_X8_fail 4 a0 (2 : Int32) M2) fun v5 M3 =>
    some (v4, M3)
  ) else
  some (v4, M2)
set_option maxHeartbeats 4000000 in
theorem K_X4_verbHere (a0 : Nat) (M : m_M) (Φ : Option Value → m_M → Prop) (h : m_ok e_I Φ (F_X4_verbHere a0 M)) : j_Ct yX4_verbHere cX4_verbHere 2 (some .int) 2 0 0 [.ref a0] M Φ := by
  refine j_Ct.of (by decide +kernel) (Nat.le_of_ble_eq_true rfl) fun X C => ?_
  have C0 := C.1
  show j_J X 2 0 [some (.ref a0), none] [] (0, 0) M
  unfold F_X4_verbHere at h
  refine j_aload_n C0 (pc := 0) dX4_verbHere_0 rfl ?_
  refine X_cU C0 (pc := 1) (e' := e_I) (as := []) (rest := []) (s' := fun w => .int w :: []) (g' := (0, 0)) u_LR_132_4 (fun Ψ hΨ => K_X8_isAtName_4 a0 M Ψ hΨ) rfl rfl (fun _ => rfl) (by decide) (by decide) rfl (Nat.le_of_ble_eq_true rfl) dX4_verbHere_1 h (fun v1 M1 h => ?_)
  refine j_if_ne C0 (pc := 4) (tgt := 15) dX4_verbHere_4 (by decide) (fun hc => ?_) (fun hc => ?_)
  · replace h := (X_if h).2 hc
    refine j_aload_n C0 (pc := 15) dX4_verbHere_15 rfl ?_
    refine X_gN C0 (pc := 16) f_LR_9_4 rfl dX4_verbHere_16 h (fun v2 h => ?_)
    refine j_iconst C0 (pc := 19) dX4_verbHere_19 (v := (2 : Int32)) (by decide) ?_
    refine j_aload_n C0 (pc := 20) dX4_verbHere_20 rfl ?_
    refine X_gL C0 (pc := 21) f_LR_135_4 rfl dX4_verbHere_21 h (fun v3 h => ?_)
    refine X_cV C0 (pc := 24) (e' := e_I) (as := [.int (2 : Int32), .long v3]) (rest := []) (s' := fun w => .int w :: []) (g' := (0, 0)) v_LR_165_3 (fun Ψ hΨ => K_X3_find v2 (2 : Int32) v3 M1 Ψ hΨ) rfl rfl (fun _ => rfl) (by decide) (by decide) rfl (Nat.le_of_ble_eq_true rfl) dX4_verbHere_24 h (fun v4 M2 h => ?_)
    refine j_istore_n C0 (pc := 27) dX4_verbHere_27 (Nat.le_of_ble_eq_true rfl) ?_
    show j_J X 2 28 [some (.ref a0), some (.int v4)] [] (0, 0) M2
    refine j_iload_n C0 (pc := 28) dX4_verbHere_28 rfl ?_
    refine j_iconst C0 (pc := 29) dX4_verbHere_29 (v := (-1 : Int32)) (by decide) ?_
    refine j_icmp_ne C0 (pc := 30) (tgt := 39) dX4_verbHere_30 (by decide) (fun hc => ?_) (fun hc => ?_)
    · replace h := (X_if h).2 hc
      refine j_iload_n C0 (pc := 39) dX4_verbHere_39 rfl ?_
      exact j_iret C rfl h dX4_verbHere_40 (by decide)
    · replace h := (X_if h).1 hc
      refine j_aload_n C0 (pc := 33) dX4_verbHere_33 rfl ?_
      refine j_iconst C0 (pc := 34) dX4_verbHere_34 (v := (2 : Int32)) (by decide) ?_
      refine X_cU C0 (pc := 35) (e' := e_I) (as := [.int (2 : Int32)]) (rest := []) (s' := fun w => .int w :: []) (g' := (0, 0)) u_LR_100_4 (fun Ψ hΨ => K_X8_fail_4 a0 (2 : Int32) M2 Ψ hΨ) rfl rfl (fun _ => rfl) (by decide) (by decide) rfl (Nat.le_of_ble_eq_true rfl) dX4_verbHere_35 h (fun v5 M3 h => ?_)
      refine j_pop C0 (pc := 38) dX4_verbHere_38 rfl ?_
      refine j_iload_n C0 (pc := 39) dX4_verbHere_39 rfl ?_
      exact j_iret C rfl h dX4_verbHere_40 (by decide)
  · replace h := (X_if h).1 hc
    refine j_aload_n C0 (pc := 7) dX4_verbHere_7 rfl ?_
    refine j_iconst C0 (pc := 8) dX4_verbHere_8 (v := (1 : Int32)) (by decide) ?_
    refine X_cU C0 (pc := 9) (e' := e_I) (as := [.int (1 : Int32)]) (rest := []) (s' := fun w => .int w :: []) (g' := (0, 0)) u_LR_100_4 (fun Ψ hΨ => K_X8_fail_4 a0 (1 : Int32) M1 Ψ hΨ) rfl rfl (fun _ => rfl) (by decide) (by decide) rfl (Nat.le_of_ble_eq_true rfl) dX4_verbHere_9 h (fun v6 M4 h => ?_)
    refine j_pop C0 (pc := 12) dX4_verbHere_12 rfl ?_
    refine j_iconst C0 (pc := 13) dX4_verbHere_13 (v := (-1 : Int32)) (by decide) ?_
    exact j_iret C rfl h dX4_verbHere_14 (by decide)
theorem dX4_readDay_0 : decode cX4_readDay 0 = .ok (.iconst (-1), 1) := by decide +kernel
theorem dX4_readDay_1 : decode cX4_readDay 1 = .ok (.istore_n 1, 1) := by decide +kernel
theorem dX4_readDay_2 : decode cX4_readDay 2 = .ok (.aload_n 0, 1) := by decide +kernel
theorem dX4_readDay_3 : decode cX4_readDay 3 = .ok (.getstatic 155, 3) := by decide +kernel
theorem dX4_readDay_6 : decode cX4_readDay 6 = .ok (.invokevirtual 66, 3) := by decide +kernel
theorem dX4_readDay_9 : decode cX4_readDay 9 = .ok (.ifCond .ne 15, 3) := by decide +kernel
theorem dX4_readDay_12 : decode cX4_readDay 12 = .ok (.aload_n 0, 1) := by decide +kernel
theorem dX4_readDay_13 : decode cX4_readDay 13 = .ok (.invokevirtual 158, 3) := by decide +kernel
theorem dX4_readDay_16 : decode cX4_readDay 16 = .ok (.istore_n 1, 1) := by decide +kernel
theorem dX4_readDay_17 : decode cX4_readDay 17 = .ok (.iload_n 1, 1) := by decide +kernel
theorem dX4_readDay_18 : decode cX4_readDay 18 = .ok (.iconst (-1), 1) := by decide +kernel
theorem dX4_readDay_19 : decode cX4_readDay 19 = .ok (.if_icmp .ne 5, 3) := by decide +kernel
theorem dX4_readDay_22 : decode cX4_readDay 22 = .ok (.iconst 0, 1) := by decide +kernel
theorem dX4_readDay_23 : decode cX4_readDay 23 = .ok (.ireturn, 1) := by decide +kernel
theorem dX4_readDay_24 : decode cX4_readDay 24 = .ok (.aload_n 0, 1) := by decide +kernel
theorem dX4_readDay_25 : decode cX4_readDay 25 = .ok (.getfield 9, 3) := by decide +kernel
theorem dX4_readDay_28 : decode cX4_readDay 28 = .ok (.getfield 147, 3) := by decide +kernel
theorem dX4_readDay_31 : decode cX4_readDay 31 = .ok (.bipush 7, 2) := by decide +kernel
theorem dX4_readDay_33 : decode cX4_readDay 33 = .ok (.if_icmp .lt 9, 3) := by decide +kernel
theorem dX4_readDay_36 : decode cX4_readDay 36 = .ok (.aload_n 0, 1) := by decide +kernel
theorem dX4_readDay_37 : decode cX4_readDay 37 = .ok (.iconst 5, 1) := by decide +kernel
theorem dX4_readDay_38 : decode cX4_readDay 38 = .ok (.invokevirtual 100, 3) := by decide +kernel
theorem dX4_readDay_41 : decode cX4_readDay 41 = .ok (.ireturn, 1) := by decide +kernel
theorem dX4_readDay_42 : decode cX4_readDay 42 = .ok (.aload_n 0, 1) := by decide +kernel
theorem dX4_readDay_43 : decode cX4_readDay 43 = .ok (.getfield 9, 3) := by decide +kernel
theorem dX4_readDay_46 : decode cX4_readDay 46 = .ok (.getfield 162, 3) := by decide +kernel
theorem dX4_readDay_49 : decode cX4_readDay 49 = .ok (.aload_n 0, 1) := by decide +kernel
theorem dX4_readDay_50 : decode cX4_readDay 50 = .ok (.getfield 9, 3) := by decide +kernel
theorem dX4_readDay_53 : decode cX4_readDay 53 = .ok (.getfield 147, 3) := by decide +kernel
theorem dX4_readDay_56 : decode cX4_readDay 56 = .ok (.iload_n 1, 1) := by decide +kernel
theorem dX4_readDay_57 : decode cX4_readDay 57 = .ok (.iastore, 1) := by decide +kernel
theorem dX4_readDay_58 : decode cX4_readDay 58 = .ok (.aload_n 0, 1) := by decide +kernel
theorem dX4_readDay_59 : decode cX4_readDay 59 = .ok (.getfield 9, 3) := by decide +kernel
theorem dX4_readDay_62 : decode cX4_readDay 62 = .ok (.dup, 1) := by decide +kernel
theorem dX4_readDay_63 : decode cX4_readDay 63 = .ok (.getfield 147, 3) := by decide +kernel
theorem dX4_readDay_66 : decode cX4_readDay 66 = .ok (.iconst 1, 1) := by decide +kernel
theorem dX4_readDay_67 : decode cX4_readDay 67 = .ok (.iadd, 1) := by decide +kernel
theorem dX4_readDay_68 : decode cX4_readDay 68 = .ok (.putfield 147, 3) := by decide +kernel
theorem dX4_readDay_71 : decode cX4_readDay 71 = .ok (.aload_n 0, 1) := by decide +kernel
theorem dX4_readDay_72 : decode cX4_readDay 72 = .ok (.invokevirtual 129, 3) := by decide +kernel
theorem dX4_readDay_75 : decode cX4_readDay 75 = .ok (.iconst 1, 1) := by decide +kernel
theorem dX4_readDay_76 : decode cX4_readDay 76 = .ok (.ireturn, 1) := by decide +kernel
noncomputable def F_X4_readDay (a0 : Nat) (M : m_M) : Option (Int32 × m_M) :=
  m_let (fun (v1 : Nat) (v2 : Int32) (M1 : m_M) =>
    x_gN 4 M1 v1 10 fun v3 =>
    x_gI 3 M1 v3 2 fun v4 =>
    if v4 < (7 : Int32) then (
      x_gN 4 M1 v1 10 fun v5 =>
      x_gN 3 M1 v5 8 fun v6 =>
      x_gN 4 M1 v1 10 fun v7 =>
      x_gI 3 M1 v7 2 fun v8 =>
      x_sI 12 M1 v6 v8 v2 fun M2 =>
      x_gN 4 M2 v1 10 fun v9 =>
      x_gI 3 M2 v9 2 fun v10 =>
      x_pI 3 M2 v9 2 (v10 + (1 : Int32)) fun M3 =>
      x_cV 4 M3 v1 (F_X8_advance 4 v1 M3) fun _ M4 =>
      some ((1 : Int32), M4)
    ) else
    x_cV 4 M1 v1 (F_X8_fail 4 v1 (5 : Int32) M1) fun v11 M5 =>
    x_b v11 <| some (v11, M5)
  ) fun (k24 : Nat → Int32 → m_M → Option (Int32 × m_M)) =>
  x_cV 4 M a0 (F_X8_isAt 4 a0 (1000000 + 6) M) fun v12 M6 =>
  if v12 = 0 then (
    x_cV 4 M6 a0 (F_X4_verbHere a0 M6) fun v13 M7 =>
    if v13 = (-1 : Int32) then (
      some ((0 : Int32), M7)
    ) else
    k24 a0 v13 M7
  ) else
  k24 a0 (-1 : Int32) M6
set_option maxHeartbeats 4000000 in
theorem K_X4_readDay (a0 : Nat) (M : m_M) (Φ : Option Value → m_M → Prop) (h : m_ok e_I Φ (F_X4_readDay a0 M)) : j_Ct yX4_readDay cX4_readDay 2 (some .boolean) 7 0 0 [.ref a0] M Φ := by
  refine j_Ct.of (by decide +kernel) (Nat.le_of_ble_eq_true rfl) fun X C => ?_
  have C0 := C.1
  show j_J X 2 0 [some (.ref a0), none] [] (0, 0) M
  unfold F_X4_readDay at h
  refine X_join (fun (kj : Nat → Int32 → m_M → Option (Int32 × m_M)) => ∀ (p0 : Nat) (p1 : Int32) (M : m_M), m_ok e_I Φ (kj p0 p1 M) → j_J X 2 24 [some (.ref p0), some (.int p1)] [] (0, 0) M) h (fun v1 v2 M1 h => ?_) (fun k24 hk24 h => ?_)
  · refine j_aload_n C0 (pc := 24) dX4_readDay_24 rfl ?_
    refine X_gN C0 (pc := 25) f_LR_9_4 rfl dX4_readDay_25 h (fun v3 h => ?_)
    refine X_gI C0 (pc := 28) f_LR_147_3 rfl dX4_readDay_28 h (fun v4 h => ?_)
    refine j_bipush C0 (pc := 31) dX4_readDay_31 (v := (7 : Int32)) (by decide) ?_
    refine j_icmp_lt C0 (pc := 33) (tgt := 42) dX4_readDay_33 (by decide) (fun hc => ?_) (fun hc => ?_)
    · replace h := (X_if h).1 hc
      refine j_aload_n C0 (pc := 42) dX4_readDay_42 rfl ?_
      refine X_gN C0 (pc := 43) f_LR_9_4 rfl dX4_readDay_43 h (fun v5 h => ?_)
      refine X_gN C0 (pc := 46) f_LR_162_3 rfl dX4_readDay_46 h (fun v6 h => ?_)
      refine j_aload_n C0 (pc := 49) dX4_readDay_49 rfl ?_
      refine X_gN C0 (pc := 50) f_LR_9_4 rfl dX4_readDay_50 h (fun v7 h => ?_)
      refine X_gI C0 (pc := 53) f_LR_147_3 rfl dX4_readDay_53 h (fun v8 h => ?_)
      refine j_iload_n C0 (pc := 56) dX4_readDay_56 rfl ?_
      refine X_iast C0 (pc := 57) dX4_readDay_57 h (fun M2 h => ?_)
      refine j_aload_n C0 (pc := 58) dX4_readDay_58 rfl ?_
      refine X_gN C0 (pc := 59) f_LR_9_4 rfl dX4_readDay_59 h (fun v9 h => ?_)
      refine j_dup C0 (pc := 62) dX4_readDay_62 rfl ?_
      refine X_gI C0 (pc := 63) f_LR_147_3 rfl dX4_readDay_63 h (fun v10 h => ?_)
      refine j_iconst C0 (pc := 66) dX4_readDay_66 (v := (1 : Int32)) (by decide) ?_
      refine j_iadd C0 (pc := 67) dX4_readDay_67 ?_
      refine X_pI C0 (pc := 68) f_LR_147_3 rfl rfl dX4_readDay_68 h (fun M3 h => ?_)
      refine j_aload_n C0 (pc := 71) dX4_readDay_71 rfl ?_
      refine X_cU C0 (pc := 72) (e' := e_V) (as := []) (rest := []) (s' := fun _ => []) (g' := (0, 0)) u_LR_129_4 (fun Ψ hΨ => K_X8_advance_4 v1 M3 Ψ hΨ) rfl rfl (fun _ => rfl) (by decide) (by decide) rfl (Nat.le_of_ble_eq_true rfl) dX4_readDay_72 h (fun _ M4 h => ?_)
      refine j_iconst C0 (pc := 75) dX4_readDay_75 (v := (1 : Int32)) (by decide) ?_
      exact j_zret C rfl (by decide) h dX4_readDay_76 (by decide)
    · replace h := (X_if h).2 hc
      refine j_aload_n C0 (pc := 36) dX4_readDay_36 rfl ?_
      refine j_iconst C0 (pc := 37) dX4_readDay_37 (v := (5 : Int32)) (by decide) ?_
      refine X_cU C0 (pc := 38) (e' := e_I) (as := [.int (5 : Int32)]) (rest := []) (s' := fun w => .int w :: []) (g' := (0, 0)) u_LR_100_4 (fun Ψ hΨ => K_X8_fail_4 v1 (5 : Int32) M1 Ψ hΨ) rfl rfl (fun _ => rfl) (by decide) (by decide) rfl (Nat.le_of_ble_eq_true rfl) dX4_readDay_38 h (fun v11 M5 h => ?_)
      exact j_zret C rfl (by rcases (X_gd h).1 with q | q <;> (rw [q]; rfl)) (X_gd h).2 dX4_readDay_41 (by decide)
  · refine j_iconst C0 (pc := 0) dX4_readDay_0 (v := (-1 : Int32)) (by decide) ?_
    refine j_istore_n C0 (pc := 1) dX4_readDay_1 (Nat.le_of_ble_eq_true rfl) ?_
    show j_J X 2 2 [some (.ref a0), some (.int (-1 : Int32))] [] (0, 0) M
    refine j_aload_n C0 (pc := 2) dX4_readDay_2 rfl ?_
    refine j_kst C0 (pc := 3) (j := 6) (by decide) (j_c4 36 (by decide +kernel)) dX4_readDay_3 ?_
    refine X_cU C0 (pc := 6) (e' := e_I) (as := [.ref (1000000 + 6)]) (rest := []) (s' := fun w => .int w :: []) (g' := (0, 0)) u_LR_66_4 (fun Ψ hΨ => K_X8_isAt_4 a0 (1000000 + 6) M Ψ hΨ) rfl rfl (fun _ => rfl) (by decide) (by decide) rfl (Nat.le_of_ble_eq_true rfl) dX4_readDay_6 h (fun v12 M6 h => ?_)
    refine j_if_ne C0 (pc := 9) (tgt := 24) dX4_readDay_9 (by decide) (fun hc => ?_) (fun hc => ?_)
    · replace h := (X_if h).2 hc
      exact j_J.wq (hk24 a0 (-1 : Int32) M6 h) (And.intro rfl (And.intro rfl (trivial)))
    · replace h := (X_if h).1 hc
      refine j_aload_n C0 (pc := 12) dX4_readDay_12 rfl ?_
      refine X_cV C0 (pc := 13) (e' := e_I) (as := []) (rest := []) (s' := fun w => .int w :: []) (g' := (0, 0)) v_LR_158_4 (fun Ψ hΨ => K_X4_verbHere a0 M6 Ψ hΨ) rfl rfl (fun _ => rfl) (by decide) (by decide) rfl (Nat.le_of_ble_eq_true rfl) dX4_readDay_13 h (fun v13 M7 h => ?_)
      refine j_istore_n C0 (pc := 16) dX4_readDay_16 (Nat.le_of_ble_eq_true rfl) ?_
      show j_J X 2 17 [some (.ref a0), some (.int v13)] [] (0, 0) M7
      refine j_iload_n C0 (pc := 17) dX4_readDay_17 rfl ?_
      refine j_iconst C0 (pc := 18) dX4_readDay_18 (v := (-1 : Int32)) (by decide) ?_
      refine j_icmp_ne C0 (pc := 19) (tgt := 24) dX4_readDay_19 (by decide) (fun hc => ?_) (fun hc => ?_)
      · replace h := (X_if h).2 hc
        exact j_J.wq (hk24 a0 v13 M7 h) (And.intro rfl (And.intro rfl (trivial)))
      · replace h := (X_if h).1 hc
        refine j_iconst C0 (pc := 22) dX4_readDay_22 (v := (0 : Int32)) (by decide) ?_
        exact j_zret C rfl (by decide) h dX4_readDay_23 (by decide)
theorem dX4_readWeek_0 : decode cX4_readWeek 0 = .ok (.aload_n 0, 1) := by decide +kernel
theorem dX4_readWeek_1 : decode cX4_readWeek 1 = .ok (.getfield 9, 3) := by decide +kernel
theorem dX4_readWeek_4 : decode cX4_readWeek 4 = .ok (.getfield 147, 3) := by decide +kernel
theorem dX4_readWeek_7 : decode cX4_readWeek 7 = .ok (.ifCond .le 9, 3) := by decide +kernel
theorem dX4_readWeek_10 : decode cX4_readWeek 10 = .ok (.aload_n 0, 1) := by decide +kernel
theorem dX4_readWeek_11 : decode cX4_readWeek 11 = .ok (.iconst 3, 1) := by decide +kernel
theorem dX4_readWeek_12 : decode cX4_readWeek 12 = .ok (.invokevirtual 100, 3) := by decide +kernel
theorem dX4_readWeek_15 : decode cX4_readWeek 15 = .ok (.ireturn, 1) := by decide +kernel
theorem dX4_readWeek_16 : decode cX4_readWeek 16 = .ok (.aload_n 0, 1) := by decide +kernel
theorem dX4_readWeek_17 : decode cX4_readWeek 17 = .ok (.invokevirtual 129, 3) := by decide +kernel
theorem dX4_readWeek_20 : decode cX4_readWeek 20 = .ok (.iconst 0, 1) := by decide +kernel
theorem dX4_readWeek_21 : decode cX4_readWeek 21 = .ok (.istore_n 1, 1) := by decide +kernel
theorem dX4_readWeek_22 : decode cX4_readWeek 22 = .ok (.iload_n 1, 1) := by decide +kernel
theorem dX4_readWeek_23 : decode cX4_readWeek 23 = .ok (.bipush 7, 2) := by decide +kernel
theorem dX4_readWeek_25 : decode cX4_readWeek 25 = .ok (.if_icmp .gt 34, 3) := by decide +kernel
theorem dX4_readWeek_28 : decode cX4_readWeek 28 = .ok (.iload_n 1, 1) := by decide +kernel
theorem dX4_readWeek_29 : decode cX4_readWeek 29 = .ok (.ifCond .le 15, 3) := by decide +kernel
theorem dX4_readWeek_32 : decode cX4_readWeek 32 = .ok (.aload_n 0, 1) := by decide +kernel
theorem dX4_readWeek_33 : decode cX4_readWeek 33 = .ok (.bipush 59, 2) := by decide +kernel
theorem dX4_readWeek_35 : decode cX4_readWeek 35 = .ok (.invokevirtual 150, 3) := by decide +kernel
theorem dX4_readWeek_38 : decode cX4_readWeek 38 = .ok (.ifCond .eq 6, 3) := by decide +kernel
theorem dX4_readWeek_41 : decode cX4_readWeek 41 = .ok (.goto 18, 3) := by decide +kernel
theorem dX4_readWeek_44 : decode cX4_readWeek 44 = .ok (.aload_n 0, 1) := by decide +kernel
theorem dX4_readWeek_45 : decode cX4_readWeek 45 = .ok (.invokevirtual 152, 3) := by decide +kernel
theorem dX4_readWeek_48 : decode cX4_readWeek 48 = .ok (.ifCond .ne 5, 3) := by decide +kernel
theorem dX4_readWeek_51 : decode cX4_readWeek 51 = .ok (.iconst 0, 1) := by decide +kernel
theorem dX4_readWeek_52 : decode cX4_readWeek 52 = .ok (.ireturn, 1) := by decide +kernel
theorem dX4_readWeek_53 : decode cX4_readWeek 53 = .ok (.iinc 1 1, 3) := by decide +kernel
theorem dX4_readWeek_56 : decode cX4_readWeek 56 = .ok (.goto (-34), 3) := by decide +kernel
theorem dX4_readWeek_59 : decode cX4_readWeek 59 = .ok (.aload_n 0, 1) := by decide +kernel
theorem dX4_readWeek_60 : decode cX4_readWeek 60 = .ok (.bipush 59, 2) := by decide +kernel
theorem dX4_readWeek_62 : decode cX4_readWeek 62 = .ok (.invokevirtual 60, 3) := by decide +kernel
theorem dX4_readWeek_65 : decode cX4_readWeek 65 = .ok (.ireturn, 1) := by decide +kernel
noncomputable def F_X4_readWeek_22 (k41 : Nat → m_M → Option (Int32 × m_M)) (k59 : Nat → m_M → Option (Int32 × m_M)) : Nat → Nat → Int32 → m_M → Option (Int32 × m_M)
  | 0, _, _, _ => none
  | n + 1, v1, v2, M =>
    if (7 : Int32) < v2 then (
      k59 v1 M
    ) else
    m_let (fun (v3 : Nat) (v4 : Int32) (M1 : m_M) =>
      x_cV 4 M1 v3 (F_X4_readDay v3 M1) fun v5 M2 =>
      if v5 = 0 then (
        some ((0 : Int32), M2)
      ) else
      m_let (v4 + (1 : Int32)) fun v6 =>
      F_X4_readWeek_22 k41 k59 n v3 v6 M2
    ) fun (k44 : Nat → Int32 → m_M → Option (Int32 × m_M)) =>
    if v2 ≤ 0 then (
      k44 v1 v2 M
    ) else
    x_cV 4 M v1 (F_X8_isAt_ 4 v1 (59 : Int32) M) fun v7 M3 =>
    if v7 = 0 then (
      k44 v1 v2 M3
    ) else
    k41 v1 M3
noncomputable def F_X4_readWeek (a0 : Nat) (M : m_M) : Option (Int32 × m_M) :=
  x_gN 4 M a0 10 fun v1 =>
  x_gI 3 M v1 2 fun v2 =>
  if v2 ≤ 0 then (
    x_cV 4 M a0 (F_X8_advance 4 a0 M) fun _ M1 =>
    m_let (fun (v3 : Nat) (M2 : m_M) =>
      x_cV 4 M2 v3 (F_X8_pass_ 4 v3 (59 : Int32) M2) fun v4 M3 =>
      x_b v4 <| some (v4, M3)
    ) fun (k59 : Nat → m_M → Option (Int32 × m_M)) =>
    m_let (fun (v5 : Nat) (M4 : m_M) =>
      k59 v5 M4
    ) fun (k41 : Nat → m_M → Option (Int32 × m_M)) =>
    F_X4_readWeek_22 k41 k59 m_FU a0 (0 : Int32) M1
  ) else
  x_cV 4 M a0 (F_X8_fail 4 a0 (3 : Int32) M) fun v6 M5 =>
  x_b v6 <| some (v6, M5)
set_option maxHeartbeats 4000000 in
theorem L_X4_readWeek_22 {X : j_X} {Φ : Option Value → m_M → Prop} (C : j_C X yX4_readWeek cX4_readWeek 2 (some .boolean) 8 0 0 Φ) {k41 : Nat → m_M → Option (Int32 × m_M)} {k59 : Nat → m_M → Option (Int32 × m_M)} (hk41 : ∀ (p0 : Nat) (M : m_M), m_ok e_I Φ (k41 p0 M) → j_J X 2 41 [some (.ref p0), none] [] (0, 0) M) (hk59 : ∀ (p0 : Nat) (M : m_M), m_ok e_I Φ (k59 p0 M) → j_J X 2 59 [some (.ref p0), none] [] (0, 0) M) : ∀ (n : Nat) (v1 : Nat) (v2 : Int32) (M : m_M), m_ok e_I Φ (F_X4_readWeek_22 k41 k59 n v1 v2 M) → j_J X 2 22 [some (.ref v1), some (.int v2)] [] (0, 0) M := by
  have C0 := C.1
  intro n
  induction n with
  | zero => intro v1 v2 M h; exact False.elim h
  | succ n ih =>
    intro v1 v2 M h
    rw [F_X4_readWeek_22] at h
    refine j_iload_n C0 (pc := 22) dX4_readWeek_22 rfl ?_
    refine j_bipush C0 (pc := 23) dX4_readWeek_23 (v := (7 : Int32)) (by decide) ?_
    refine j_icmp_gt C0 (pc := 25) (tgt := 59) dX4_readWeek_25 (by decide) (fun hc => ?_) (fun hc => ?_)
    · replace h := (X_if h).1 hc
      exact j_J.wq (hk59 v1 M h) (And.intro rfl (trivial))
    · replace h := (X_if h).2 hc
      refine X_join (fun (kj : Nat → Int32 → m_M → Option (Int32 × m_M)) => ∀ (p0 : Nat) (p1 : Int32) (M : m_M), m_ok e_I Φ (kj p0 p1 M) → j_J X 2 44 [some (.ref p0), some (.int p1)] [] (0, 0) M) h (fun v3 v4 M1 h => ?_) (fun k44 hk44 h => ?_)
      · refine j_aload_n C0 (pc := 44) dX4_readWeek_44 rfl ?_
        refine X_cV C0 (pc := 45) (e' := e_I) (as := []) (rest := []) (s' := fun w => .int w :: []) (g' := (0, 0)) v_LR_152_4 (fun Ψ hΨ => K_X4_readDay v3 M1 Ψ hΨ) rfl rfl (fun _ => rfl) (by decide) (by decide) rfl (Nat.le_of_ble_eq_true rfl) dX4_readWeek_45 h (fun v5 M2 h => ?_)
        refine j_if_ne C0 (pc := 48) (tgt := 53) dX4_readWeek_48 (by decide) (fun hc => ?_) (fun hc => ?_)
        · replace h := (X_if h).2 hc
          refine j_iinc C0 (pc := 53) dX4_readWeek_53 (v := v4 + (1 : Int32)) rfl (Nat.le_of_ble_eq_true rfl) (by rfl) ?_
          refine X_let (G := fun w => j_J X 2 56 [some (.ref v3), some (.int w)] [] (0, 0) M2) h (fun v6 h => ?_)
          refine j_goto C0 (pc := 56) (tgt := 22) dX4_readWeek_56 (by decide) ?_
          exact j_J.wq (ih v3 v6 M2 h) (And.intro rfl (And.intro rfl (trivial)))
        · replace h := (X_if h).1 hc
          refine j_iconst C0 (pc := 51) dX4_readWeek_51 (v := (0 : Int32)) (by decide) ?_
          exact j_zret C rfl (by decide) h dX4_readWeek_52 (by decide)
      · refine j_iload_n C0 (pc := 28) dX4_readWeek_28 rfl ?_
        refine j_if_le C0 (pc := 29) (tgt := 44) dX4_readWeek_29 (by decide) (fun hc => ?_) (fun hc => ?_)
        · replace h := (X_if h).1 hc
          exact j_J.wq (hk44 v1 v2 M h) (And.intro rfl (And.intro rfl (trivial)))
        · replace h := (X_if h).2 hc
          refine j_aload_n C0 (pc := 32) dX4_readWeek_32 rfl ?_
          refine j_bipush C0 (pc := 33) dX4_readWeek_33 (v := (59 : Int32)) (by decide) ?_
          refine X_cU C0 (pc := 35) (e' := e_I) (as := [.int (59 : Int32)]) (rest := []) (s' := fun w => .int w :: []) (g' := (0, 0)) u_LR_150_4 (fun Ψ hΨ => K_X8_isAt__4 v1 (59 : Int32) M Ψ hΨ) rfl rfl (fun _ => rfl) (by decide) (by decide) rfl (Nat.le_of_ble_eq_true rfl) dX4_readWeek_35 h (fun v7 M3 h => ?_)
          refine j_if_eq C0 (pc := 38) (tgt := 44) dX4_readWeek_38 (by decide) (fun hc => ?_) (fun hc => ?_)
          · replace h := (X_if h).1 hc
            exact j_J.wq (hk44 v1 v2 M3 h) (And.intro rfl (And.intro rfl (trivial)))
          · replace h := (X_if h).2 hc
            exact j_J.wq (hk41 v1 M3 h) (And.intro rfl (trivial))
set_option maxHeartbeats 4000000 in
theorem K_X4_readWeek (a0 : Nat) (M : m_M) (Φ : Option Value → m_M → Prop) (h : m_ok e_I Φ (F_X4_readWeek a0 M)) : j_Ct yX4_readWeek cX4_readWeek 2 (some .boolean) 8 0 0 [.ref a0] M Φ := by
  refine j_Ct.of (by decide +kernel) (Nat.le_of_ble_eq_true rfl) fun X C => ?_
  have C0 := C.1
  show j_J X 2 0 [some (.ref a0), none] [] (0, 0) M
  unfold F_X4_readWeek at h
  refine j_aload_n C0 (pc := 0) dX4_readWeek_0 rfl ?_
  refine X_gN C0 (pc := 1) f_LR_9_4 rfl dX4_readWeek_1 h (fun v1 h => ?_)
  refine X_gI C0 (pc := 4) f_LR_147_3 rfl dX4_readWeek_4 h (fun v2 h => ?_)
  refine j_if_le C0 (pc := 7) (tgt := 16) dX4_readWeek_7 (by decide) (fun hc => ?_) (fun hc => ?_)
  · replace h := (X_if h).1 hc
    refine j_aload_n C0 (pc := 16) dX4_readWeek_16 rfl ?_
    refine X_cU C0 (pc := 17) (e' := e_V) (as := []) (rest := []) (s' := fun _ => []) (g' := (0, 0)) u_LR_129_4 (fun Ψ hΨ => K_X8_advance_4 a0 M Ψ hΨ) rfl rfl (fun _ => rfl) (by decide) (by decide) rfl (Nat.le_of_ble_eq_true rfl) dX4_readWeek_17 h (fun _ M1 h => ?_)
    refine j_iconst C0 (pc := 20) dX4_readWeek_20 (v := (0 : Int32)) (by decide) ?_
    refine j_istore_n C0 (pc := 21) dX4_readWeek_21 (Nat.le_of_ble_eq_true rfl) ?_
    show j_J X 2 22 [some (.ref a0), some (.int (0 : Int32))] [] (0, 0) M1
    refine X_join (fun (kj : Nat → m_M → Option (Int32 × m_M)) => ∀ (p0 : Nat) (M : m_M), m_ok e_I Φ (kj p0 M) → j_J X 2 59 [some (.ref p0), none] [] (0, 0) M) h (fun v3 M2 h => ?_) (fun k59 hk59 h => ?_)
    · refine j_aload_n C0 (pc := 59) dX4_readWeek_59 rfl ?_
      refine j_bipush C0 (pc := 60) dX4_readWeek_60 (v := (59 : Int32)) (by decide) ?_
      refine X_cU C0 (pc := 62) (e' := e_I) (as := [.int (59 : Int32)]) (rest := []) (s' := fun w => .int w :: []) (g' := (0, 0)) u_LR_60_4 (fun Ψ hΨ => K_X8_pass__4 v3 (59 : Int32) M2 Ψ hΨ) rfl rfl (fun _ => rfl) (by decide) (by decide) rfl (Nat.le_of_ble_eq_true rfl) dX4_readWeek_62 h (fun v4 M3 h => ?_)
      exact j_zret C rfl (by rcases (X_gd h).1 with q | q <;> (rw [q]; rfl)) (X_gd h).2 dX4_readWeek_65 (by decide)
    · refine X_join (fun (kj : Nat → m_M → Option (Int32 × m_M)) => ∀ (p0 : Nat) (M : m_M), m_ok e_I Φ (kj p0 M) → j_J X 2 41 [some (.ref p0), none] [] (0, 0) M) h (fun v5 M4 h => ?_) (fun k41 hk41 h => ?_)
      · refine j_goto C0 (pc := 41) (tgt := 59) dX4_readWeek_41 (by decide) ?_
        exact j_J.wq (hk59 v5 M4 h) (And.intro rfl (trivial))
      · exact j_J.wq (L_X4_readWeek_22 C hk41 hk59 m_FU a0 (0 : Int32) M1 h) (And.intro rfl (And.intro rfl (trivial)))
  · replace h := (X_if h).2 hc
    refine j_aload_n C0 (pc := 10) dX4_readWeek_10 rfl ?_
    refine j_iconst C0 (pc := 11) dX4_readWeek_11 (v := (3 : Int32)) (by decide) ?_
    refine X_cU C0 (pc := 12) (e' := e_I) (as := [.int (3 : Int32)]) (rest := []) (s' := fun w => .int w :: []) (g' := (0, 0)) u_LR_100_4 (fun Ψ hΨ => K_X8_fail_4 a0 (3 : Int32) M Ψ hΨ) rfl rfl (fun _ => rfl) (by decide) (by decide) rfl (Nat.le_of_ble_eq_true rfl) dX4_readWeek_12 h (fun v6 M5 h => ?_)
    exact j_zret C rfl (by rcases (X_gd h).1 with q | q <;> (rw [q]; rfl)) (X_gd h).2 dX4_readWeek_15 (by decide)
theorem dX3_wantLast_0 : decode cX3_wantLast 0 = .ok (.aload_n 0, 1) := by decide +kernel
theorem dX3_wantLast_1 : decode cX3_wantLast 1 = .ok (.getfield 9, 3) := by decide +kernel
theorem dX3_wantLast_4 : decode cX3_wantLast 4 = .ok (.iconst 3, 1) := by decide +kernel
theorem dX3_wantLast_5 : decode cX3_wantLast 5 = .ok (.iaload, 1) := by decide +kernel
theorem dX3_wantLast_6 : decode cX3_wantLast 6 = .ok (.iconst 1, 1) := by decide +kernel
theorem dX3_wantLast_7 : decode cX3_wantLast 7 = .ok (.isub, 1) := by decide +kernel
theorem dX3_wantLast_8 : decode cX3_wantLast 8 = .ok (.istore_n 3, 1) := by decide +kernel
theorem dX3_wantLast_9 : decode cX3_wantLast 9 = .ok (.iload_n 3, 1) := by decide +kernel
theorem dX3_wantLast_10 : decode cX3_wantLast 10 = .ok (.ifCond .lt 30, 3) := by decide +kernel
theorem dX3_wantLast_13 : decode cX3_wantLast 13 = .ok (.iload_n 3, 1) := by decide +kernel
theorem dX3_wantLast_14 : decode cX3_wantLast 14 = .ok (.iconst 3, 1) := by decide +kernel
theorem dX3_wantLast_15 : decode cX3_wantLast 15 = .ok (.if_icmp .ge 25, 3) := by decide +kernel
theorem dX3_wantLast_18 : decode cX3_wantLast 18 = .ok (.iload_n 1, 1) := by decide +kernel
theorem dX3_wantLast_19 : decode cX3_wantLast 19 = .ok (.ifCond .lt 21, 3) := by decide +kernel
theorem dX3_wantLast_22 : decode cX3_wantLast 22 = .ok (.iload_n 1, 1) := by decide +kernel
theorem dX3_wantLast_23 : decode cX3_wantLast 23 = .ok (.bipush 6, 2) := by decide +kernel
theorem dX3_wantLast_25 : decode cX3_wantLast 25 = .ok (.if_icmp .ge 15, 3) := by decide +kernel
theorem dX3_wantLast_28 : decode cX3_wantLast 28 = .ok (.aload_n 0, 1) := by decide +kernel
theorem dX3_wantLast_29 : decode cX3_wantLast 29 = .ok (.getfield 21, 3) := by decide +kernel
theorem dX3_wantLast_32 : decode cX3_wantLast 32 = .ok (.iload_n 3, 1) := by decide +kernel
theorem dX3_wantLast_33 : decode cX3_wantLast 33 = .ok (.bipush 6, 2) := by decide +kernel
theorem dX3_wantLast_35 : decode cX3_wantLast 35 = .ok (.imul, 1) := by decide +kernel
theorem dX3_wantLast_36 : decode cX3_wantLast 36 = .ok (.iload_n 1, 1) := by decide +kernel
theorem dX3_wantLast_37 : decode cX3_wantLast 37 = .ok (.iadd, 1) := by decide +kernel
theorem dX3_wantLast_38 : decode cX3_wantLast 38 = .ok (.iload_n 2, 1) := by decide +kernel
theorem dX3_wantLast_39 : decode cX3_wantLast 39 = .ok (.iastore, 1) := by decide +kernel
theorem dX3_wantLast_40 : decode cX3_wantLast 40 = .ok (.return_, 1) := by decide +kernel
noncomputable def F_X3_wantLast (a0 : Nat) (a1 : Int32) (a2 : Int32) (M : m_M) : Option (Unit × m_M) :=
  x_gN 3 M a0 6 fun v1 =>
  x_aI 12 M v1 (3 : Int32) fun v2 =>
  m_let (v2 - (1 : Int32)) fun v3 =>
  if v3 < 0 then (
    some ((), M)
  ) else
  if (3 : Int32) ≤ v3 then (
    some ((), M)
  ) else
  if a1 < 0 then (
    some ((), M)
  ) else
  if (6 : Int32) ≤ a1 then (
    some ((), M)
  ) else
  x_gN 3 M a0 9 fun v4 =>
  x_sI 12 M v4 ((v3 * (6 : Int32)) + a1) a2 fun M1 =>
  some ((), M1)
set_option maxHeartbeats 4000000 in
theorem K_X3_wantLast (a0 : Nat) (a1 : Int32) (a2 : Int32) (M : m_M) (Φ : Option Value → m_M → Prop) (h : m_ok e_V Φ (F_X3_wantLast a0 a1 a2 M)) : j_Ct yX3_wantLast cX3_wantLast 4 none 1 0 0 [.ref a0, .int a1, .int a2] M Φ := by
  refine j_Ct.of (by decide +kernel) (Nat.le_of_ble_eq_true rfl) fun X C => ?_
  have C0 := C.1
  show j_J X 4 0 [some (.ref a0), some (.int a1), some (.int a2), none] [] (0, 0) M
  unfold F_X3_wantLast at h
  refine j_aload_n C0 (pc := 0) dX3_wantLast_0 rfl ?_
  refine X_gN C0 (pc := 1) f_Land_9_3 rfl dX3_wantLast_1 h (fun v1 h => ?_)
  refine j_iconst C0 (pc := 4) dX3_wantLast_4 (v := (3 : Int32)) (by decide) ?_
  refine X_iald C0 (pc := 5) dX3_wantLast_5 h (fun v2 h => ?_)
  refine j_iconst C0 (pc := 6) dX3_wantLast_6 (v := (1 : Int32)) (by decide) ?_
  refine j_isub C0 (pc := 7) dX3_wantLast_7 ?_
  refine X_let (G := fun w => j_J X 4 8 [some (.ref a0), some (.int a1), some (.int a2), none] (.int w :: []) (0, 0) M) h (fun v3 h => ?_)
  refine j_istore_n C0 (pc := 8) dX3_wantLast_8 (Nat.le_of_ble_eq_true rfl) ?_
  show j_J X 4 9 [some (.ref a0), some (.int a1), some (.int a2), some (.int v3)] [] (0, 0) M
  refine j_iload_n C0 (pc := 9) dX3_wantLast_9 rfl ?_
  refine j_if_lt C0 (pc := 10) (tgt := 40) dX3_wantLast_10 (by decide) (fun hc => ?_) (fun hc => ?_)
  · replace h := (X_if h).1 hc
    exact j_vret C rfl h dX3_wantLast_40 (by decide)
  · replace h := (X_if h).2 hc
    refine j_iload_n C0 (pc := 13) dX3_wantLast_13 rfl ?_
    refine j_iconst C0 (pc := 14) dX3_wantLast_14 (v := (3 : Int32)) (by decide) ?_
    refine j_icmp_ge C0 (pc := 15) (tgt := 40) dX3_wantLast_15 (by decide) (fun hc => ?_) (fun hc => ?_)
    · replace h := (X_if h).1 hc
      exact j_vret C rfl h dX3_wantLast_40 (by decide)
    · replace h := (X_if h).2 hc
      refine j_iload_n C0 (pc := 18) dX3_wantLast_18 rfl ?_
      refine j_if_lt C0 (pc := 19) (tgt := 40) dX3_wantLast_19 (by decide) (fun hc => ?_) (fun hc => ?_)
      · replace h := (X_if h).1 hc
        exact j_vret C rfl h dX3_wantLast_40 (by decide)
      · replace h := (X_if h).2 hc
        refine j_iload_n C0 (pc := 22) dX3_wantLast_22 rfl ?_
        refine j_bipush C0 (pc := 23) dX3_wantLast_23 (v := (6 : Int32)) (by decide) ?_
        refine j_icmp_ge C0 (pc := 25) (tgt := 40) dX3_wantLast_25 (by decide) (fun hc => ?_) (fun hc => ?_)
        · replace h := (X_if h).1 hc
          exact j_vret C rfl h dX3_wantLast_40 (by decide)
        · replace h := (X_if h).2 hc
          refine j_aload_n C0 (pc := 28) dX3_wantLast_28 rfl ?_
          refine X_gN C0 (pc := 29) f_Land_21_3 rfl dX3_wantLast_29 h (fun v4 h => ?_)
          refine j_iload_n C0 (pc := 32) dX3_wantLast_32 rfl ?_
          refine j_bipush C0 (pc := 33) dX3_wantLast_33 (v := (6 : Int32)) (by decide) ?_
          refine j_imul C0 (pc := 35) dX3_wantLast_35 ?_
          refine j_iload_n C0 (pc := 36) dX3_wantLast_36 rfl ?_
          refine j_iadd C0 (pc := 37) dX3_wantLast_37 ?_
          refine j_iload_n C0 (pc := 38) dX3_wantLast_38 rfl ?_
          refine X_iast C0 (pc := 39) dX3_wantLast_39 h (fun M1 h => ?_)
          exact j_vret C rfl h dX3_wantLast_40 (by decide)
theorem dX4_readSpeaker_0 : decode cX4_readSpeaker 0 = .ok (.aload_n 0, 1) := by decide +kernel
theorem dX4_readSpeaker_1 : decode cX4_readSpeaker 1 = .ok (.iconst 3, 1) := by decide +kernel
theorem dX4_readSpeaker_2 : decode cX4_readSpeaker 2 = .ok (.invokevirtual 103, 3) := by decide +kernel
theorem dX4_readSpeaker_5 : decode cX4_readSpeaker 5 = .ok (.ifCond .eq 13, 3) := by decide +kernel
theorem dX4_readSpeaker_8 : decode cX4_readSpeaker 8 = .ok (.aload_n 0, 1) := by decide +kernel
theorem dX4_readSpeaker_9 : decode cX4_readSpeaker 9 = .ok (.getstatic 169, 3) := by decide +kernel
theorem dX4_readSpeaker_12 : decode cX4_readSpeaker 12 = .ok (.invokevirtual 49, 3) := by decide +kernel
theorem dX4_readSpeaker_15 : decode cX4_readSpeaker 15 = .ok (.ifCond .ne 5, 3) := by decide +kernel
theorem dX4_readSpeaker_18 : decode cX4_readSpeaker 18 = .ok (.iconst 0, 1) := by decide +kernel
theorem dX4_readSpeaker_19 : decode cX4_readSpeaker 19 = .ok (.ireturn, 1) := by decide +kernel
theorem dX4_readSpeaker_20 : decode cX4_readSpeaker 20 = .ok (.iconst 0, 1) := by decide +kernel
theorem dX4_readSpeaker_21 : decode cX4_readSpeaker 21 = .ok (.istore_n 1, 1) := by decide +kernel
theorem dX4_readSpeaker_22 : decode cX4_readSpeaker 22 = .ok (.iconst 0, 1) := by decide +kernel
theorem dX4_readSpeaker_23 : decode cX4_readSpeaker 23 = .ok (.istore_n 2, 1) := by decide +kernel
theorem dX4_readSpeaker_24 : decode cX4_readSpeaker 24 = .ok (.iload_n 2, 1) := by decide +kernel
theorem dX4_readSpeaker_25 : decode cX4_readSpeaker 25 = .ok (.bipush 6, 2) := by decide +kernel
theorem dX4_readSpeaker_27 : decode cX4_readSpeaker 27 = .ok (.if_icmp .gt 88, 3) := by decide +kernel
theorem dX4_readSpeaker_30 : decode cX4_readSpeaker 30 = .ok (.iload_n 2, 1) := by decide +kernel
theorem dX4_readSpeaker_31 : decode cX4_readSpeaker 31 = .ok (.ifCond .le 15, 3) := by decide +kernel
theorem dX4_readSpeaker_34 : decode cX4_readSpeaker 34 = .ok (.aload_n 0, 1) := by decide +kernel
theorem dX4_readSpeaker_35 : decode cX4_readSpeaker 35 = .ok (.bipush 59, 2) := by decide +kernel
theorem dX4_readSpeaker_37 : decode cX4_readSpeaker 37 = .ok (.invokevirtual 150, 3) := by decide +kernel
theorem dX4_readSpeaker_40 : decode cX4_readSpeaker 40 = .ok (.ifCond .eq 6, 3) := by decide +kernel
theorem dX4_readSpeaker_43 : decode cX4_readSpeaker 43 = .ok (.goto 72, 3) := by decide +kernel
theorem dX4_readSpeaker_46 : decode cX4_readSpeaker 46 = .ok (.aload_n 0, 1) := by decide +kernel
theorem dX4_readSpeaker_47 : decode cX4_readSpeaker 47 = .ok (.invokevirtual 158, 3) := by decide +kernel
theorem dX4_readSpeaker_50 : decode cX4_readSpeaker 50 = .ok (.istore_n 3, 1) := by decide +kernel
theorem dX4_readSpeaker_51 : decode cX4_readSpeaker 51 = .ok (.iload_n 3, 1) := by decide +kernel
theorem dX4_readSpeaker_52 : decode cX4_readSpeaker 52 = .ok (.iconst (-1), 1) := by decide +kernel
theorem dX4_readSpeaker_53 : decode cX4_readSpeaker 53 = .ok (.if_icmp .ne 5, 3) := by decide +kernel
theorem dX4_readSpeaker_56 : decode cX4_readSpeaker 56 = .ok (.iconst 0, 1) := by decide +kernel
theorem dX4_readSpeaker_57 : decode cX4_readSpeaker 57 = .ok (.ireturn, 1) := by decide +kernel
theorem dX4_readSpeaker_58 : decode cX4_readSpeaker 58 = .ok (.iload_n 1, 1) := by decide +kernel
theorem dX4_readSpeaker_59 : decode cX4_readSpeaker 59 = .ok (.iload_n 3, 1) := by decide +kernel
theorem dX4_readSpeaker_60 : decode cX4_readSpeaker 60 = .ok (.ishr, 1) := by decide +kernel
theorem dX4_readSpeaker_61 : decode cX4_readSpeaker 61 = .ok (.iconst 1, 1) := by decide +kernel
theorem dX4_readSpeaker_62 : decode cX4_readSpeaker 62 = .ok (.iand, 1) := by decide +kernel
theorem dX4_readSpeaker_63 : decode cX4_readSpeaker 63 = .ok (.ifCond .eq 9, 3) := by decide +kernel
theorem dX4_readSpeaker_66 : decode cX4_readSpeaker 66 = .ok (.aload_n 0, 1) := by decide +kernel
theorem dX4_readSpeaker_67 : decode cX4_readSpeaker 67 = .ok (.iconst 3, 1) := by decide +kernel
theorem dX4_readSpeaker_68 : decode cX4_readSpeaker 68 = .ok (.invokevirtual 100, 3) := by decide +kernel
theorem dX4_readSpeaker_71 : decode cX4_readSpeaker 71 = .ok (.ireturn, 1) := by decide +kernel
theorem dX4_readSpeaker_72 : decode cX4_readSpeaker 72 = .ok (.iload_n 1, 1) := by decide +kernel
theorem dX4_readSpeaker_73 : decode cX4_readSpeaker 73 = .ok (.iconst 1, 1) := by decide +kernel
theorem dX4_readSpeaker_74 : decode cX4_readSpeaker 74 = .ok (.iload_n 3, 1) := by decide +kernel
theorem dX4_readSpeaker_75 : decode cX4_readSpeaker 75 = .ok (.ishl, 1) := by decide +kernel
theorem dX4_readSpeaker_76 : decode cX4_readSpeaker 76 = .ok (.ior, 1) := by decide +kernel
theorem dX4_readSpeaker_77 : decode cX4_readSpeaker 77 = .ok (.istore_n 1, 1) := by decide +kernel
theorem dX4_readSpeaker_78 : decode cX4_readSpeaker 78 = .ok (.aload_n 0, 1) := by decide +kernel
theorem dX4_readSpeaker_79 : decode cX4_readSpeaker 79 = .ok (.invokevirtual 129, 3) := by decide +kernel
theorem dX4_readSpeaker_82 : decode cX4_readSpeaker 82 = .ok (.aload_n 0, 1) := by decide +kernel
theorem dX4_readSpeaker_83 : decode cX4_readSpeaker 83 = .ok (.iconst 0, 1) := by decide +kernel
theorem dX4_readSpeaker_84 : decode cX4_readSpeaker 84 = .ok (.bipush 99, 2) := by decide +kernel
theorem dX4_readSpeaker_86 : decode cX4_readSpeaker 86 = .ok (.invokevirtual 53, 3) := by decide +kernel
theorem dX4_readSpeaker_89 : decode cX4_readSpeaker 89 = .ok (.istore 4, 2) := by decide +kernel
theorem dX4_readSpeaker_91 : decode cX4_readSpeaker 91 = .ok (.iload 4, 2) := by decide +kernel
theorem dX4_readSpeaker_93 : decode cX4_readSpeaker 93 = .ok (.iconst (-1), 1) := by decide +kernel
theorem dX4_readSpeaker_94 : decode cX4_readSpeaker 94 = .ok (.if_icmp .ne 5, 3) := by decide +kernel
theorem dX4_readSpeaker_97 : decode cX4_readSpeaker 97 = .ok (.iconst 0, 1) := by decide +kernel
theorem dX4_readSpeaker_98 : decode cX4_readSpeaker 98 = .ok (.ireturn, 1) := by decide +kernel
theorem dX4_readSpeaker_99 : decode cX4_readSpeaker 99 = .ok (.aload_n 0, 1) := by decide +kernel
theorem dX4_readSpeaker_100 : decode cX4_readSpeaker 100 = .ok (.getfield 9, 3) := by decide +kernel
theorem dX4_readSpeaker_103 : decode cX4_readSpeaker 103 = .ok (.iload_n 3, 1) := by decide +kernel
theorem dX4_readSpeaker_104 : decode cX4_readSpeaker 104 = .ok (.iload 4, 2) := by decide +kernel
theorem dX4_readSpeaker_106 : decode cX4_readSpeaker 106 = .ok (.invokevirtual 172, 3) := by decide +kernel
theorem dX4_readSpeaker_109 : decode cX4_readSpeaker 109 = .ok (.iinc 2 1, 3) := by decide +kernel
theorem dX4_readSpeaker_112 : decode cX4_readSpeaker 112 = .ok (.goto (-88), 3) := by decide +kernel
theorem dX4_readSpeaker_115 : decode cX4_readSpeaker 115 = .ok (.aload_n 0, 1) := by decide +kernel
theorem dX4_readSpeaker_116 : decode cX4_readSpeaker 116 = .ok (.bipush 59, 2) := by decide +kernel
theorem dX4_readSpeaker_118 : decode cX4_readSpeaker 118 = .ok (.invokevirtual 60, 3) := by decide +kernel
theorem dX4_readSpeaker_121 : decode cX4_readSpeaker 121 = .ok (.ireturn, 1) := by decide +kernel
noncomputable def F_X4_readSpeaker_24 (k43 : Nat → m_M → Option (Int32 × m_M)) (k66 : Nat → m_M → Option (Int32 × m_M)) (k115 : Nat → m_M → Option (Int32 × m_M)) : Nat → Nat → Int32 → Int32 → m_M → Option (Int32 × m_M)
  | 0, _, _, _, _ => none
  | n + 1, v1, v2, v3, M =>
    if (6 : Int32) < v3 then (
      k115 v1 M
    ) else
    m_let (fun (v4 : Nat) (v5 : Int32) (v6 : Int32) (M1 : m_M) =>
      x_cV 4 M1 v4 (F_X4_verbHere v4 M1) fun v7 M2 =>
      if v7 = (-1 : Int32) then (
        some ((0 : Int32), M2)
      ) else
      if ((v5 >>> (v7 &&& 31)) &&& (1 : Int32)) = 0 then (
        m_let (v5 ||| ((1 : Int32) <<< (v7 &&& 31))) fun v8 =>
        x_cV 4 M2 v4 (F_X8_advance 4 v4 M2) fun _ M3 =>
        x_cV 4 M3 v4 (F_X8_passNumber 4 v4 (0 : Int32) (99 : Int32) M3) fun v9 M4 =>
        if v9 = (-1 : Int32) then (
          some ((0 : Int32), M4)
        ) else
        x_gN 4 M4 v4 10 fun v10 =>
        x_cV 3 M4 v10 (F_X3_wantLast v10 v7 v9 M4) fun _ M5 =>
        m_let (v6 + (1 : Int32)) fun v11 =>
        F_X4_readSpeaker_24 k43 k66 k115 n v4 v8 v11 M5
      ) else
      k66 v4 M2
    ) fun (k46 : Nat → Int32 → Int32 → m_M → Option (Int32 × m_M)) =>
    if v3 ≤ 0 then (
      k46 v1 v2 v3 M
    ) else
    x_cV 4 M v1 (F_X8_isAt_ 4 v1 (59 : Int32) M) fun v12 M6 =>
    if v12 = 0 then (
      k46 v1 v2 v3 M6
    ) else
    k43 v1 M6
noncomputable def F_X4_readSpeaker (a0 : Nat) (M : m_M) : Option (Int32 × m_M) :=
  x_cV 4 M a0 (F_X4_readNamed a0 (3 : Int32) M) fun v1 M1 =>
  if v1 = 0 then (
    some ((0 : Int32), M1)
  ) else
  x_cV 4 M1 a0 (F_X8_pass 4 a0 (1000000 + 8) M1) fun v2 M2 =>
  if v2 = 0 then (
    some ((0 : Int32), M2)
  ) else
  m_let (fun (v3 : Nat) (M3 : m_M) =>
    x_cV 4 M3 v3 (F_X8_pass_ 4 v3 (59 : Int32) M3) fun v4 M4 =>
    x_b v4 <| some (v4, M4)
  ) fun (k115 : Nat → m_M → Option (Int32 × m_M)) =>
  m_let (fun (v5 : Nat) (M5 : m_M) =>
    k115 v5 M5
  ) fun (k43 : Nat → m_M → Option (Int32 × m_M)) =>
  m_let (fun (v6 : Nat) (M6 : m_M) =>
    x_cV 4 M6 v6 (F_X8_fail 4 v6 (3 : Int32) M6) fun v7 M7 =>
    x_b v7 <| some (v7, M7)
  ) fun (k66 : Nat → m_M → Option (Int32 × m_M)) =>
  F_X4_readSpeaker_24 k43 k66 k115 m_FU a0 (0 : Int32) (0 : Int32) M2
set_option maxHeartbeats 4000000 in
theorem L_X4_readSpeaker_24 {X : j_X} {Φ : Option Value → m_M → Prop} (C : j_C X yX4_readSpeaker cX4_readSpeaker 5 (some .boolean) 8 0 0 Φ) {k43 : Nat → m_M → Option (Int32 × m_M)} {k66 : Nat → m_M → Option (Int32 × m_M)} {k115 : Nat → m_M → Option (Int32 × m_M)} (hk43 : ∀ (p0 : Nat) (M : m_M), m_ok e_I Φ (k43 p0 M) → j_J X 5 43 [some (.ref p0), none, none, none, none] [] (0, 0) M) (hk66 : ∀ (p0 : Nat) (M : m_M), m_ok e_I Φ (k66 p0 M) → j_J X 5 66 [some (.ref p0), none, none, none, none] [] (0, 0) M) (hk115 : ∀ (p0 : Nat) (M : m_M), m_ok e_I Φ (k115 p0 M) → j_J X 5 115 [some (.ref p0), none, none, none, none] [] (0, 0) M) : ∀ (n : Nat) (v1 : Nat) (v2 : Int32) (v3 : Int32) (M : m_M), m_ok e_I Φ (F_X4_readSpeaker_24 k43 k66 k115 n v1 v2 v3 M) → j_J X 5 24 [some (.ref v1), some (.int v2), some (.int v3), none, none] [] (0, 0) M := by
  have C0 := C.1
  intro n
  induction n with
  | zero => intro v1 v2 v3 M h; exact False.elim h
  | succ n ih =>
    intro v1 v2 v3 M h
    rw [F_X4_readSpeaker_24] at h
    refine j_iload_n C0 (pc := 24) dX4_readSpeaker_24 rfl ?_
    refine j_bipush C0 (pc := 25) dX4_readSpeaker_25 (v := (6 : Int32)) (by decide) ?_
    refine j_icmp_gt C0 (pc := 27) (tgt := 115) dX4_readSpeaker_27 (by decide) (fun hc => ?_) (fun hc => ?_)
    · replace h := (X_if h).1 hc
      exact j_J.wq (hk115 v1 M h) (And.intro rfl (trivial))
    · replace h := (X_if h).2 hc
      refine X_join (fun (kj : Nat → Int32 → Int32 → m_M → Option (Int32 × m_M)) => ∀ (p0 : Nat) (p1 : Int32) (p2 : Int32) (M : m_M), m_ok e_I Φ (kj p0 p1 p2 M) → j_J X 5 46 [some (.ref p0), some (.int p1), some (.int p2), none, none] [] (0, 0) M) h (fun v4 v5 v6 M1 h => ?_) (fun k46 hk46 h => ?_)
      · refine j_aload_n C0 (pc := 46) dX4_readSpeaker_46 rfl ?_
        refine X_cV C0 (pc := 47) (e' := e_I) (as := []) (rest := []) (s' := fun w => .int w :: []) (g' := (0, 0)) v_LR_158_4 (fun Ψ hΨ => K_X4_verbHere v4 M1 Ψ hΨ) rfl rfl (fun _ => rfl) (by decide) (by decide) rfl (Nat.le_of_ble_eq_true rfl) dX4_readSpeaker_47 h (fun v7 M2 h => ?_)
        refine j_istore_n C0 (pc := 50) dX4_readSpeaker_50 (Nat.le_of_ble_eq_true rfl) ?_
        show j_J X 5 51 [some (.ref v4), some (.int v5), some (.int v6), some (.int v7), none] [] (0, 0) M2
        refine j_iload_n C0 (pc := 51) dX4_readSpeaker_51 rfl ?_
        refine j_iconst C0 (pc := 52) dX4_readSpeaker_52 (v := (-1 : Int32)) (by decide) ?_
        refine j_icmp_ne C0 (pc := 53) (tgt := 58) dX4_readSpeaker_53 (by decide) (fun hc => ?_) (fun hc => ?_)
        · replace h := (X_if h).2 hc
          refine j_iload_n C0 (pc := 58) dX4_readSpeaker_58 rfl ?_
          refine j_iload_n C0 (pc := 59) dX4_readSpeaker_59 rfl ?_
          refine j_ishr C0 (pc := 60) dX4_readSpeaker_60 ?_
          refine j_iconst C0 (pc := 61) dX4_readSpeaker_61 (v := (1 : Int32)) (by decide) ?_
          refine j_iand C0 (pc := 62) dX4_readSpeaker_62 ?_
          refine j_if_eq C0 (pc := 63) (tgt := 72) dX4_readSpeaker_63 (by decide) (fun hc => ?_) (fun hc => ?_)
          · replace h := (X_if h).1 hc
            refine j_iload_n C0 (pc := 72) dX4_readSpeaker_72 rfl ?_
            refine j_iconst C0 (pc := 73) dX4_readSpeaker_73 (v := (1 : Int32)) (by decide) ?_
            refine j_iload_n C0 (pc := 74) dX4_readSpeaker_74 rfl ?_
            refine j_ishl C0 (pc := 75) dX4_readSpeaker_75 ?_
            refine j_ior C0 (pc := 76) dX4_readSpeaker_76 ?_
            refine X_let (G := fun w => j_J X 5 77 [some (.ref v4), some (.int v5), some (.int v6), some (.int v7), none] (.int w :: []) (0, 0) M2) h (fun v8 h => ?_)
            refine j_istore_n C0 (pc := 77) dX4_readSpeaker_77 (Nat.le_of_ble_eq_true rfl) ?_
            show j_J X 5 78 [some (.ref v4), some (.int v8), some (.int v6), some (.int v7), none] [] (0, 0) M2
            refine j_aload_n C0 (pc := 78) dX4_readSpeaker_78 rfl ?_
            refine X_cU C0 (pc := 79) (e' := e_V) (as := []) (rest := []) (s' := fun _ => []) (g' := (0, 0)) u_LR_129_4 (fun Ψ hΨ => K_X8_advance_4 v4 M2 Ψ hΨ) rfl rfl (fun _ => rfl) (by decide) (by decide) rfl (Nat.le_of_ble_eq_true rfl) dX4_readSpeaker_79 h (fun _ M3 h => ?_)
            refine j_aload_n C0 (pc := 82) dX4_readSpeaker_82 rfl ?_
            refine j_iconst C0 (pc := 83) dX4_readSpeaker_83 (v := (0 : Int32)) (by decide) ?_
            refine j_bipush C0 (pc := 84) dX4_readSpeaker_84 (v := (99 : Int32)) (by decide) ?_
            refine X_cU C0 (pc := 86) (e' := e_I) (as := [.int (0 : Int32), .int (99 : Int32)]) (rest := []) (s' := fun w => .int w :: []) (g' := (0, 0)) u_LR_53_4 (fun Ψ hΨ => K_X8_passNumber_4 v4 (0 : Int32) (99 : Int32) M3 Ψ hΨ) rfl rfl (fun _ => rfl) (by decide) (by decide) rfl (Nat.le_of_ble_eq_true rfl) dX4_readSpeaker_86 h (fun v9 M4 h => ?_)
            refine j_istore C0 (pc := 89) dX4_readSpeaker_89 (Nat.le_of_ble_eq_true rfl) ?_
            show j_J X 5 91 [some (.ref v4), some (.int v8), some (.int v6), some (.int v7), some (.int v9)] [] (0, 0) M4
            refine j_iload C0 (pc := 91) dX4_readSpeaker_91 rfl ?_
            refine j_iconst C0 (pc := 93) dX4_readSpeaker_93 (v := (-1 : Int32)) (by decide) ?_
            refine j_icmp_ne C0 (pc := 94) (tgt := 99) dX4_readSpeaker_94 (by decide) (fun hc => ?_) (fun hc => ?_)
            · replace h := (X_if h).2 hc
              refine j_aload_n C0 (pc := 99) dX4_readSpeaker_99 rfl ?_
              refine X_gN C0 (pc := 100) f_LR_9_4 rfl dX4_readSpeaker_100 h (fun v10 h => ?_)
              refine j_iload_n C0 (pc := 103) dX4_readSpeaker_103 rfl ?_
              refine j_iload C0 (pc := 104) dX4_readSpeaker_104 rfl ?_
              refine X_cV C0 (pc := 106) (e' := e_V) (as := [.int v7, .int v9]) (rest := []) (s' := fun _ => []) (g' := (0, 0)) v_LR_172_3 (fun Ψ hΨ => K_X3_wantLast v10 v7 v9 M4 Ψ hΨ) rfl rfl (fun _ => rfl) (by decide) (by decide) rfl (Nat.le_of_ble_eq_true rfl) dX4_readSpeaker_106 h (fun _ M5 h => ?_)
              refine j_iinc C0 (pc := 109) dX4_readSpeaker_109 (v := v6 + (1 : Int32)) rfl (Nat.le_of_ble_eq_true rfl) (by rfl) ?_
              refine X_let (G := fun w => j_J X 5 112 [some (.ref v4), some (.int v8), some (.int w), some (.int v7), some (.int v9)] [] (0, 0) M5) h (fun v11 h => ?_)
              refine j_goto C0 (pc := 112) (tgt := 24) dX4_readSpeaker_112 (by decide) ?_
              exact j_J.wq (ih v4 v8 v11 M5 h) (And.intro rfl (And.intro rfl (And.intro rfl (trivial))))
            · replace h := (X_if h).1 hc
              refine j_iconst C0 (pc := 97) dX4_readSpeaker_97 (v := (0 : Int32)) (by decide) ?_
              exact j_zret C rfl (by decide) h dX4_readSpeaker_98 (by decide)
          · replace h := (X_if h).2 hc
            exact j_J.wq (hk66 v4 M2 h) (And.intro rfl (trivial))
        · replace h := (X_if h).1 hc
          refine j_iconst C0 (pc := 56) dX4_readSpeaker_56 (v := (0 : Int32)) (by decide) ?_
          exact j_zret C rfl (by decide) h dX4_readSpeaker_57 (by decide)
      · refine j_iload_n C0 (pc := 30) dX4_readSpeaker_30 rfl ?_
        refine j_if_le C0 (pc := 31) (tgt := 46) dX4_readSpeaker_31 (by decide) (fun hc => ?_) (fun hc => ?_)
        · replace h := (X_if h).1 hc
          exact j_J.wq (hk46 v1 v2 v3 M h) (And.intro rfl (And.intro rfl (And.intro rfl (trivial))))
        · replace h := (X_if h).2 hc
          refine j_aload_n C0 (pc := 34) dX4_readSpeaker_34 rfl ?_
          refine j_bipush C0 (pc := 35) dX4_readSpeaker_35 (v := (59 : Int32)) (by decide) ?_
          refine X_cU C0 (pc := 37) (e' := e_I) (as := [.int (59 : Int32)]) (rest := []) (s' := fun w => .int w :: []) (g' := (0, 0)) u_LR_150_4 (fun Ψ hΨ => K_X8_isAt__4 v1 (59 : Int32) M Ψ hΨ) rfl rfl (fun _ => rfl) (by decide) (by decide) rfl (Nat.le_of_ble_eq_true rfl) dX4_readSpeaker_37 h (fun v12 M6 h => ?_)
          refine j_if_eq C0 (pc := 40) (tgt := 46) dX4_readSpeaker_40 (by decide) (fun hc => ?_) (fun hc => ?_)
          · replace h := (X_if h).1 hc
            exact j_J.wq (hk46 v1 v2 v3 M6 h) (And.intro rfl (And.intro rfl (And.intro rfl (trivial))))
          · replace h := (X_if h).2 hc
            exact j_J.wq (hk43 v1 M6 h) (And.intro rfl (trivial))
set_option maxHeartbeats 4000000 in
theorem K_X4_readSpeaker (a0 : Nat) (M : m_M) (Φ : Option Value → m_M → Prop) (h : m_ok e_I Φ (F_X4_readSpeaker a0 M)) : j_Ct yX4_readSpeaker cX4_readSpeaker 5 (some .boolean) 8 0 0 [.ref a0] M Φ := by
  refine j_Ct.of (by decide +kernel) (Nat.le_of_ble_eq_true rfl) fun X C => ?_
  have C0 := C.1
  show j_J X 5 0 [some (.ref a0), none, none, none, none] [] (0, 0) M
  unfold F_X4_readSpeaker at h
  refine j_aload_n C0 (pc := 0) dX4_readSpeaker_0 rfl ?_
  refine j_iconst C0 (pc := 1) dX4_readSpeaker_1 (v := (3 : Int32)) (by decide) ?_
  refine X_cV C0 (pc := 2) (e' := e_I) (as := [.int (3 : Int32)]) (rest := []) (s' := fun w => .int w :: []) (g' := (0, 0)) v_LR_103_4 (fun Ψ hΨ => K_X4_readNamed a0 (3 : Int32) M Ψ hΨ) rfl rfl (fun _ => rfl) (by decide) (by decide) rfl (Nat.le_of_ble_eq_true rfl) dX4_readSpeaker_2 h (fun v1 M1 h => ?_)
  refine j_if_eq C0 (pc := 5) (tgt := 18) dX4_readSpeaker_5 (by decide) (fun hc => ?_) (fun hc => ?_)
  · replace h := (X_if h).1 hc
    refine j_iconst C0 (pc := 18) dX4_readSpeaker_18 (v := (0 : Int32)) (by decide) ?_
    exact j_zret C rfl (by decide) h dX4_readSpeaker_19 (by decide)
  · replace h := (X_if h).2 hc
    refine j_aload_n C0 (pc := 8) dX4_readSpeaker_8 rfl ?_
    refine j_kst C0 (pc := 9) (j := 8) (by decide) (j_c4 49 (by decide +kernel)) dX4_readSpeaker_9 ?_
    refine X_cU C0 (pc := 12) (e' := e_I) (as := [.ref (1000000 + 8)]) (rest := []) (s' := fun w => .int w :: []) (g' := (0, 0)) u_LR_49_4 (fun Ψ hΨ => K_X8_pass_4 a0 (1000000 + 8) M1 Ψ hΨ) rfl rfl (fun _ => rfl) (by decide) (by decide) rfl (Nat.le_of_ble_eq_true rfl) dX4_readSpeaker_12 h (fun v2 M2 h => ?_)
    refine j_if_ne C0 (pc := 15) (tgt := 20) dX4_readSpeaker_15 (by decide) (fun hc => ?_) (fun hc => ?_)
    · replace h := (X_if h).2 hc
      refine j_iconst C0 (pc := 20) dX4_readSpeaker_20 (v := (0 : Int32)) (by decide) ?_
      refine j_istore_n C0 (pc := 21) dX4_readSpeaker_21 (Nat.le_of_ble_eq_true rfl) ?_
      show j_J X 5 22 [some (.ref a0), some (.int (0 : Int32)), none, none, none] [] (0, 0) M2
      refine j_iconst C0 (pc := 22) dX4_readSpeaker_22 (v := (0 : Int32)) (by decide) ?_
      refine j_istore_n C0 (pc := 23) dX4_readSpeaker_23 (Nat.le_of_ble_eq_true rfl) ?_
      show j_J X 5 24 [some (.ref a0), some (.int (0 : Int32)), some (.int (0 : Int32)), none, none] [] (0, 0) M2
      refine X_join (fun (kj : Nat → m_M → Option (Int32 × m_M)) => ∀ (p0 : Nat) (M : m_M), m_ok e_I Φ (kj p0 M) → j_J X 5 115 [some (.ref p0), none, none, none, none] [] (0, 0) M) h (fun v3 M3 h => ?_) (fun k115 hk115 h => ?_)
      · refine j_aload_n C0 (pc := 115) dX4_readSpeaker_115 rfl ?_
        refine j_bipush C0 (pc := 116) dX4_readSpeaker_116 (v := (59 : Int32)) (by decide) ?_
        refine X_cU C0 (pc := 118) (e' := e_I) (as := [.int (59 : Int32)]) (rest := []) (s' := fun w => .int w :: []) (g' := (0, 0)) u_LR_60_4 (fun Ψ hΨ => K_X8_pass__4 v3 (59 : Int32) M3 Ψ hΨ) rfl rfl (fun _ => rfl) (by decide) (by decide) rfl (Nat.le_of_ble_eq_true rfl) dX4_readSpeaker_118 h (fun v4 M4 h => ?_)
        exact j_zret C rfl (by rcases (X_gd h).1 with q | q <;> (rw [q]; rfl)) (X_gd h).2 dX4_readSpeaker_121 (by decide)
      · refine X_join (fun (kj : Nat → m_M → Option (Int32 × m_M)) => ∀ (p0 : Nat) (M : m_M), m_ok e_I Φ (kj p0 M) → j_J X 5 43 [some (.ref p0), none, none, none, none] [] (0, 0) M) h (fun v5 M5 h => ?_) (fun k43 hk43 h => ?_)
        · refine j_goto C0 (pc := 43) (tgt := 115) dX4_readSpeaker_43 (by decide) ?_
          exact j_J.wq (hk115 v5 M5 h) (And.intro rfl (trivial))
        · refine X_join (fun (kj : Nat → m_M → Option (Int32 × m_M)) => ∀ (p0 : Nat) (M : m_M), m_ok e_I Φ (kj p0 M) → j_J X 5 66 [some (.ref p0), none, none, none, none] [] (0, 0) M) h (fun v6 M6 h => ?_) (fun k66 hk66 h => ?_)
          · refine j_aload_n C0 (pc := 66) dX4_readSpeaker_66 rfl ?_
            refine j_iconst C0 (pc := 67) dX4_readSpeaker_67 (v := (3 : Int32)) (by decide) ?_
            refine X_cU C0 (pc := 68) (e' := e_I) (as := [.int (3 : Int32)]) (rest := []) (s' := fun w => .int w :: []) (g' := (0, 0)) u_LR_100_4 (fun Ψ hΨ => K_X8_fail_4 v6 (3 : Int32) M6 Ψ hΨ) rfl rfl (fun _ => rfl) (by decide) (by decide) rfl (Nat.le_of_ble_eq_true rfl) dX4_readSpeaker_68 h (fun v7 M7 h => ?_)
            exact j_zret C rfl (by rcases (X_gd h).1 with q | q <;> (rw [q]; rfl)) (X_gd h).2 dX4_readSpeaker_71 (by decide)
          · exact j_J.wq (L_X4_readSpeaker_24 C hk43 hk66 hk115 m_FU a0 (0 : Int32) (0 : Int32) M2 h) (And.intro rfl (And.intro rfl (And.intro rfl (trivial))))
    · replace h := (X_if h).1 hc
      refine j_iconst C0 (pc := 18) dX4_readSpeaker_18 (v := (0 : Int32)) (by decide) ?_
      exact j_zret C rfl (by decide) h dX4_readSpeaker_19 (by decide)
theorem dX4_readBribe_0 : decode cX4_readBribe 0 = .ok (.aload_n 0, 1) := by decide +kernel
theorem dX4_readBribe_1 : decode cX4_readBribe 1 = .ok (.getfield 21, 3) := by decide +kernel
theorem dX4_readBribe_4 : decode cX4_readBribe 4 = .ok (.ifCond .eq 9, 3) := by decide +kernel
theorem dX4_readBribe_7 : decode cX4_readBribe 7 = .ok (.aload_n 0, 1) := by decide +kernel
theorem dX4_readBribe_8 : decode cX4_readBribe 8 = .ok (.iconst 3, 1) := by decide +kernel
theorem dX4_readBribe_9 : decode cX4_readBribe 9 = .ok (.invokevirtual 100, 3) := by decide +kernel
theorem dX4_readBribe_12 : decode cX4_readBribe 12 = .ok (.ireturn, 1) := by decide +kernel
theorem dX4_readBribe_13 : decode cX4_readBribe 13 = .ok (.aload_n 0, 1) := by decide +kernel
theorem dX4_readBribe_14 : decode cX4_readBribe 14 = .ok (.iconst 1, 1) := by decide +kernel
theorem dX4_readBribe_15 : decode cX4_readBribe 15 = .ok (.putfield 21, 3) := by decide +kernel
theorem dX4_readBribe_18 : decode cX4_readBribe 18 = .ok (.aload_n 0, 1) := by decide +kernel
theorem dX4_readBribe_19 : decode cX4_readBribe 19 = .ok (.invokevirtual 129, 3) := by decide +kernel
theorem dX4_readBribe_22 : decode cX4_readBribe 22 = .ok (.aload_n 0, 1) := by decide +kernel
theorem dX4_readBribe_23 : decode cX4_readBribe 23 = .ok (.iconst 0, 1) := by decide +kernel
theorem dX4_readBribe_24 : decode cX4_readBribe 24 = .ok (.bipush 99, 2) := by decide +kernel
theorem dX4_readBribe_26 : decode cX4_readBribe 26 = .ok (.invokevirtual 53, 3) := by decide +kernel
theorem dX4_readBribe_29 : decode cX4_readBribe 29 = .ok (.istore_n 1, 1) := by decide +kernel
theorem dX4_readBribe_30 : decode cX4_readBribe 30 = .ok (.iload_n 1, 1) := by decide +kernel
theorem dX4_readBribe_31 : decode cX4_readBribe 31 = .ok (.iconst (-1), 1) := by decide +kernel
theorem dX4_readBribe_32 : decode cX4_readBribe 32 = .ok (.if_icmp .ne 5, 3) := by decide +kernel
theorem dX4_readBribe_35 : decode cX4_readBribe 35 = .ok (.iconst 0, 1) := by decide +kernel
theorem dX4_readBribe_36 : decode cX4_readBribe 36 = .ok (.ireturn, 1) := by decide +kernel
theorem dX4_readBribe_37 : decode cX4_readBribe 37 = .ok (.aload_n 0, 1) := by decide +kernel
theorem dX4_readBribe_38 : decode cX4_readBribe 38 = .ok (.getfield 9, 3) := by decide +kernel
theorem dX4_readBribe_41 : decode cX4_readBribe 41 = .ok (.iload_n 1, 1) := by decide +kernel
theorem dX4_readBribe_42 : decode cX4_readBribe 42 = .ok (.putfield 176, 3) := by decide +kernel
theorem dX4_readBribe_45 : decode cX4_readBribe 45 = .ok (.aload_n 0, 1) := by decide +kernel
theorem dX4_readBribe_46 : decode cX4_readBribe 46 = .ok (.bipush 59, 2) := by decide +kernel
theorem dX4_readBribe_48 : decode cX4_readBribe 48 = .ok (.invokevirtual 60, 3) := by decide +kernel
theorem dX4_readBribe_51 : decode cX4_readBribe 51 = .ok (.ireturn, 1) := by decide +kernel
noncomputable def F_X4_readBribe (a0 : Nat) (M : m_M) : Option (Int32 × m_M) :=
  x_gI 4 M a0 11 fun v1 =>
  if v1 = 0 then (
    x_pI 4 M a0 11 (1 : Int32) fun M1 =>
    x_cV 4 M1 a0 (F_X8_advance 4 a0 M1) fun _ M2 =>
    x_cV 4 M2 a0 (F_X8_passNumber 4 a0 (0 : Int32) (99 : Int32) M2) fun v2 M3 =>
    if v2 = (-1 : Int32) then (
      some ((0 : Int32), M3)
    ) else
    x_gN 4 M3 a0 10 fun v3 =>
    x_pI 3 M3 v3 1 v2 fun M4 =>
    x_cV 4 M4 a0 (F_X8_pass_ 4 a0 (59 : Int32) M4) fun v4 M5 =>
    x_b v4 <| some (v4, M5)
  ) else
  x_cV 4 M a0 (F_X8_fail 4 a0 (3 : Int32) M) fun v5 M6 =>
  x_b v5 <| some (v5, M6)
set_option maxHeartbeats 4000000 in
theorem K_X4_readBribe (a0 : Nat) (M : m_M) (Φ : Option Value → m_M → Prop) (h : m_ok e_I Φ (F_X4_readBribe a0 M)) : j_Ct yX4_readBribe cX4_readBribe 2 (some .boolean) 8 0 0 [.ref a0] M Φ := by
  refine j_Ct.of (by decide +kernel) (Nat.le_of_ble_eq_true rfl) fun X C => ?_
  have C0 := C.1
  show j_J X 2 0 [some (.ref a0), none] [] (0, 0) M
  unfold F_X4_readBribe at h
  refine j_aload_n C0 (pc := 0) dX4_readBribe_0 rfl ?_
  refine X_gI C0 (pc := 1) f_LR_21_4 rfl dX4_readBribe_1 h (fun v1 h => ?_)
  refine j_if_eq C0 (pc := 4) (tgt := 13) dX4_readBribe_4 (by decide) (fun hc => ?_) (fun hc => ?_)
  · replace h := (X_if h).1 hc
    refine j_aload_n C0 (pc := 13) dX4_readBribe_13 rfl ?_
    refine j_iconst C0 (pc := 14) dX4_readBribe_14 (v := (1 : Int32)) (by decide) ?_
    refine X_pC C0 (pc := 15) f_LR_21_4 (by decide) (by decide) rfl dX4_readBribe_15 h (fun M1 h => ?_)
    refine j_aload_n C0 (pc := 18) dX4_readBribe_18 rfl ?_
    refine X_cU C0 (pc := 19) (e' := e_V) (as := []) (rest := []) (s' := fun _ => []) (g' := (0, 0)) u_LR_129_4 (fun Ψ hΨ => K_X8_advance_4 a0 M1 Ψ hΨ) rfl rfl (fun _ => rfl) (by decide) (by decide) rfl (Nat.le_of_ble_eq_true rfl) dX4_readBribe_19 h (fun _ M2 h => ?_)
    refine j_aload_n C0 (pc := 22) dX4_readBribe_22 rfl ?_
    refine j_iconst C0 (pc := 23) dX4_readBribe_23 (v := (0 : Int32)) (by decide) ?_
    refine j_bipush C0 (pc := 24) dX4_readBribe_24 (v := (99 : Int32)) (by decide) ?_
    refine X_cU C0 (pc := 26) (e' := e_I) (as := [.int (0 : Int32), .int (99 : Int32)]) (rest := []) (s' := fun w => .int w :: []) (g' := (0, 0)) u_LR_53_4 (fun Ψ hΨ => K_X8_passNumber_4 a0 (0 : Int32) (99 : Int32) M2 Ψ hΨ) rfl rfl (fun _ => rfl) (by decide) (by decide) rfl (Nat.le_of_ble_eq_true rfl) dX4_readBribe_26 h (fun v2 M3 h => ?_)
    refine j_istore_n C0 (pc := 29) dX4_readBribe_29 (Nat.le_of_ble_eq_true rfl) ?_
    show j_J X 2 30 [some (.ref a0), some (.int v2)] [] (0, 0) M3
    refine j_iload_n C0 (pc := 30) dX4_readBribe_30 rfl ?_
    refine j_iconst C0 (pc := 31) dX4_readBribe_31 (v := (-1 : Int32)) (by decide) ?_
    refine j_icmp_ne C0 (pc := 32) (tgt := 37) dX4_readBribe_32 (by decide) (fun hc => ?_) (fun hc => ?_)
    · replace h := (X_if h).2 hc
      refine j_aload_n C0 (pc := 37) dX4_readBribe_37 rfl ?_
      refine X_gN C0 (pc := 38) f_LR_9_4 rfl dX4_readBribe_38 h (fun v3 h => ?_)
      refine j_iload_n C0 (pc := 41) dX4_readBribe_41 rfl ?_
      refine X_pI C0 (pc := 42) f_LR_176_3 rfl rfl dX4_readBribe_42 h (fun M4 h => ?_)
      refine j_aload_n C0 (pc := 45) dX4_readBribe_45 rfl ?_
      refine j_bipush C0 (pc := 46) dX4_readBribe_46 (v := (59 : Int32)) (by decide) ?_
      refine X_cU C0 (pc := 48) (e' := e_I) (as := [.int (59 : Int32)]) (rest := []) (s' := fun w => .int w :: []) (g' := (0, 0)) u_LR_60_4 (fun Ψ hΨ => K_X8_pass__4 a0 (59 : Int32) M4 Ψ hΨ) rfl rfl (fun _ => rfl) (by decide) (by decide) rfl (Nat.le_of_ble_eq_true rfl) dX4_readBribe_48 h (fun v4 M5 h => ?_)
      exact j_zret C rfl (by rcases (X_gd h).1 with q | q <;> (rw [q]; rfl)) (X_gd h).2 dX4_readBribe_51 (by decide)
    · replace h := (X_if h).1 hc
      refine j_iconst C0 (pc := 35) dX4_readBribe_35 (v := (0 : Int32)) (by decide) ?_
      exact j_zret C rfl (by decide) h dX4_readBribe_36 (by decide)
  · replace h := (X_if h).2 hc
    refine j_aload_n C0 (pc := 7) dX4_readBribe_7 rfl ?_
    refine j_iconst C0 (pc := 8) dX4_readBribe_8 (v := (3 : Int32)) (by decide) ?_
    refine X_cU C0 (pc := 9) (e' := e_I) (as := [.int (3 : Int32)]) (rest := []) (s' := fun w => .int w :: []) (g' := (0, 0)) u_LR_100_4 (fun Ψ hΨ => K_X8_fail_4 a0 (3 : Int32) M Ψ hΨ) rfl rfl (fun _ => rfl) (by decide) (by decide) rfl (Nat.le_of_ble_eq_true rfl) dX4_readBribe_9 h (fun v5 M6 h => ?_)
    exact j_zret C rfl (by rcases (X_gd h).1 with q | q <;> (rw [q]; rfl)) (X_gd h).2 dX4_readBribe_12 (by decide)
theorem dX4_readLine_0 : decode cX4_readLine 0 = .ok (.aload_n 0, 1) := by decide +kernel
theorem dX4_readLine_1 : decode cX4_readLine 1 = .ok (.getstatic 63, 3) := by decide +kernel
theorem dX4_readLine_4 : decode cX4_readLine 4 = .ok (.invokevirtual 66, 3) := by decide +kernel
theorem dX4_readLine_7 : decode cX4_readLine 7 = .ok (.ifCond .eq 8, 3) := by decide +kernel
theorem dX4_readLine_10 : decode cX4_readLine 10 = .ok (.aload_n 0, 1) := by decide +kernel
theorem dX4_readLine_11 : decode cX4_readLine 11 = .ok (.invokevirtual 69, 3) := by decide +kernel
theorem dX4_readLine_14 : decode cX4_readLine 14 = .ok (.ireturn, 1) := by decide +kernel
theorem dX4_readLine_15 : decode cX4_readLine 15 = .ok (.aload_n 0, 1) := by decide +kernel
theorem dX4_readLine_16 : decode cX4_readLine 16 = .ok (.getstatic 72, 3) := by decide +kernel
theorem dX4_readLine_19 : decode cX4_readLine 19 = .ok (.invokevirtual 66, 3) := by decide +kernel
theorem dX4_readLine_22 : decode cX4_readLine 22 = .ok (.ifCond .eq 9, 3) := by decide +kernel
theorem dX4_readLine_25 : decode cX4_readLine 25 = .ok (.aload_n 0, 1) := by decide +kernel
theorem dX4_readLine_26 : decode cX4_readLine 26 = .ok (.iconst 1, 1) := by decide +kernel
theorem dX4_readLine_27 : decode cX4_readLine 27 = .ok (.invokevirtual 75, 3) := by decide +kernel
theorem dX4_readLine_30 : decode cX4_readLine 30 = .ok (.ireturn, 1) := by decide +kernel
theorem dX4_readLine_31 : decode cX4_readLine 31 = .ok (.aload_n 0, 1) := by decide +kernel
theorem dX4_readLine_32 : decode cX4_readLine 32 = .ok (.getstatic 79, 3) := by decide +kernel
theorem dX4_readLine_35 : decode cX4_readLine 35 = .ok (.invokevirtual 66, 3) := by decide +kernel
theorem dX4_readLine_38 : decode cX4_readLine 38 = .ok (.ifCond .eq 9, 3) := by decide +kernel
theorem dX4_readLine_41 : decode cX4_readLine 41 = .ok (.aload_n 0, 1) := by decide +kernel
theorem dX4_readLine_42 : decode cX4_readLine 42 = .ok (.iconst 2, 1) := by decide +kernel
theorem dX4_readLine_43 : decode cX4_readLine 43 = .ok (.invokevirtual 75, 3) := by decide +kernel
theorem dX4_readLine_46 : decode cX4_readLine 46 = .ok (.ireturn, 1) := by decide +kernel
theorem dX4_readLine_47 : decode cX4_readLine 47 = .ok (.aload_n 0, 1) := by decide +kernel
theorem dX4_readLine_48 : decode cX4_readLine 48 = .ok (.getstatic 82, 3) := by decide +kernel
theorem dX4_readLine_51 : decode cX4_readLine 51 = .ok (.invokevirtual 66, 3) := by decide +kernel
theorem dX4_readLine_54 : decode cX4_readLine 54 = .ok (.ifCond .eq 8, 3) := by decide +kernel
theorem dX4_readLine_57 : decode cX4_readLine 57 = .ok (.aload_n 0, 1) := by decide +kernel
theorem dX4_readLine_58 : decode cX4_readLine 58 = .ok (.invokevirtual 85, 3) := by decide +kernel
theorem dX4_readLine_61 : decode cX4_readLine 61 = .ok (.ireturn, 1) := by decide +kernel
theorem dX4_readLine_62 : decode cX4_readLine 62 = .ok (.aload_n 0, 1) := by decide +kernel
theorem dX4_readLine_63 : decode cX4_readLine 63 = .ok (.getstatic 88, 3) := by decide +kernel
theorem dX4_readLine_66 : decode cX4_readLine 66 = .ok (.invokevirtual 66, 3) := by decide +kernel
theorem dX4_readLine_69 : decode cX4_readLine 69 = .ok (.ifCond .eq 8, 3) := by decide +kernel
theorem dX4_readLine_72 : decode cX4_readLine 72 = .ok (.aload_n 0, 1) := by decide +kernel
theorem dX4_readLine_73 : decode cX4_readLine 73 = .ok (.invokevirtual 91, 3) := by decide +kernel
theorem dX4_readLine_76 : decode cX4_readLine 76 = .ok (.ireturn, 1) := by decide +kernel
theorem dX4_readLine_77 : decode cX4_readLine 77 = .ok (.aload_n 0, 1) := by decide +kernel
theorem dX4_readLine_78 : decode cX4_readLine 78 = .ok (.getstatic 94, 3) := by decide +kernel
theorem dX4_readLine_81 : decode cX4_readLine 81 = .ok (.invokevirtual 66, 3) := by decide +kernel
theorem dX4_readLine_84 : decode cX4_readLine 84 = .ok (.ifCond .eq 10, 3) := by decide +kernel
theorem dX4_readLine_87 : decode cX4_readLine 87 = .ok (.aload_n 0, 1) := by decide +kernel
theorem dX4_readLine_88 : decode cX4_readLine 88 = .ok (.invokevirtual 97, 3) := by decide +kernel
theorem dX4_readLine_91 : decode cX4_readLine 91 = .ok (.goto 8, 3) := by decide +kernel
theorem dX4_readLine_94 : decode cX4_readLine 94 = .ok (.aload_n 0, 1) := by decide +kernel
theorem dX4_readLine_95 : decode cX4_readLine 95 = .ok (.iconst 1, 1) := by decide +kernel
theorem dX4_readLine_96 : decode cX4_readLine 96 = .ok (.invokevirtual 100, 3) := by decide +kernel
theorem dX4_readLine_99 : decode cX4_readLine 99 = .ok (.ireturn, 1) := by decide +kernel
noncomputable def F_X4_readLine (a0 : Nat) (M : m_M) : Option (Int32 × m_M) :=
  x_cV 4 M a0 (F_X8_isAt 4 a0 (1000000 + 1) M) fun v1 M1 =>
  if v1 = 0 then (
    x_cV 4 M1 a0 (F_X8_isAt 4 a0 (1000000 + 3) M1) fun v2 M2 =>
    if v2 = 0 then (
      x_cV 4 M2 a0 (F_X8_isAt 4 a0 (1000000 + 4) M2) fun v3 M3 =>
      if v3 = 0 then (
        x_cV 4 M3 a0 (F_X8_isAt 4 a0 (1000000 + 5) M3) fun v4 M4 =>
        if v4 = 0 then (
          x_cV 4 M4 a0 (F_X8_isAt 4 a0 (1000000 + 7) M4) fun v5 M5 =>
          if v5 = 0 then (
            x_cV 4 M5 a0 (F_X8_isAt 4 a0 (1000000 + 9) M5) fun v6 M6 =>
            if v6 = 0 then (
              x_cV 4 M6 a0 (F_X8_fail 4 a0 (1 : Int32) M6) fun v7 M7 =>
              x_b v7 <| some (v7, M7)
            ) else
            x_cV 4 M6 a0 (F_X4_readBribe a0 M6) fun v8 M8 =>
            x_b v8 <| some (v8, M8)
          ) else
          x_cV 4 M5 a0 (F_X4_readSpeaker a0 M5) fun v9 M9 =>
          x_b v9 <| some (v9, M9)
        ) else
        x_cV 4 M4 a0 (F_X4_readWeek a0 M4) fun v10 M10 =>
        x_b v10 <| some (v10, M10)
      ) else
      x_cV 4 M3 a0 (F_X4_readLaw a0 (2 : Int32) M3) fun v11 M11 =>
      x_b v11 <| some (v11, M11)
    ) else
    x_cV 4 M2 a0 (F_X4_readLaw a0 (1 : Int32) M2) fun v12 M12 =>
    x_b v12 <| some (v12, M12)
  ) else
  x_cV 4 M1 a0 (F_X4_readThing a0 M1) fun v13 M13 =>
  x_b v13 <| some (v13, M13)
set_option maxHeartbeats 4000000 in
theorem K_X4_readLine (a0 : Nat) (M : m_M) (Φ : Option Value → m_M → Prop) (h : m_ok e_I Φ (F_X4_readLine a0 M)) : j_Ct yX4_readLine cX4_readLine 1 (some .boolean) 73 0 0 [.ref a0] M Φ := by
  refine j_Ct.of (by decide +kernel) (Nat.le_of_ble_eq_true rfl) fun X C => ?_
  have C0 := C.1
  show j_J X 1 0 [some (.ref a0)] [] (0, 0) M
  unfold F_X4_readLine at h
  refine j_aload_n C0 (pc := 0) dX4_readLine_0 rfl ?_
  refine j_kst C0 (pc := 1) (j := 1) (by decide) (j_c3 176 (by decide +kernel)) dX4_readLine_1 ?_
  refine X_cU C0 (pc := 4) (e' := e_I) (as := [.ref (1000000 + 1)]) (rest := []) (s' := fun w => .int w :: []) (g' := (0, 0)) u_LR_66_4 (fun Ψ hΨ => K_X8_isAt_4 a0 (1000000 + 1) M Ψ hΨ) rfl rfl (fun _ => rfl) (by decide) (by decide) rfl (Nat.le_of_ble_eq_true rfl) dX4_readLine_4 h (fun v1 M1 h => ?_)
  refine j_if_eq C0 (pc := 7) (tgt := 15) dX4_readLine_7 (by decide) (fun hc => ?_) (fun hc => ?_)
  · replace h := (X_if h).1 hc
    refine j_aload_n C0 (pc := 15) dX4_readLine_15 rfl ?_
    refine j_kst C0 (pc := 16) (j := 3) (by decide) (j_c3 224 (by decide +kernel)) dX4_readLine_16 ?_
    refine X_cU C0 (pc := 19) (e' := e_I) (as := [.ref (1000000 + 3)]) (rest := []) (s' := fun w => .int w :: []) (g' := (0, 0)) u_LR_66_4 (fun Ψ hΨ => K_X8_isAt_4 a0 (1000000 + 3) M1 Ψ hΨ) rfl rfl (fun _ => rfl) (by decide) (by decide) rfl (Nat.le_of_ble_eq_true rfl) dX4_readLine_19 h (fun v2 M2 h => ?_)
    refine j_if_eq C0 (pc := 22) (tgt := 31) dX4_readLine_22 (by decide) (fun hc => ?_) (fun hc => ?_)
    · replace h := (X_if h).1 hc
      refine j_aload_n C0 (pc := 31) dX4_readLine_31 rfl ?_
      refine j_kst C0 (pc := 32) (j := 4) (by decide) (j_c4 24 (by decide +kernel)) dX4_readLine_32 ?_
      refine X_cU C0 (pc := 35) (e' := e_I) (as := [.ref (1000000 + 4)]) (rest := []) (s' := fun w => .int w :: []) (g' := (0, 0)) u_LR_66_4 (fun Ψ hΨ => K_X8_isAt_4 a0 (1000000 + 4) M2 Ψ hΨ) rfl rfl (fun _ => rfl) (by decide) (by decide) rfl (Nat.le_of_ble_eq_true rfl) dX4_readLine_35 h (fun v3 M3 h => ?_)
      refine j_if_eq C0 (pc := 38) (tgt := 47) dX4_readLine_38 (by decide) (fun hc => ?_) (fun hc => ?_)
      · replace h := (X_if h).1 hc
        refine j_aload_n C0 (pc := 47) dX4_readLine_47 rfl ?_
        refine j_kst C0 (pc := 48) (j := 5) (by decide) (j_c4 26 (by decide +kernel)) dX4_readLine_48 ?_
        refine X_cU C0 (pc := 51) (e' := e_I) (as := [.ref (1000000 + 5)]) (rest := []) (s' := fun w => .int w :: []) (g' := (0, 0)) u_LR_66_4 (fun Ψ hΨ => K_X8_isAt_4 a0 (1000000 + 5) M3 Ψ hΨ) rfl rfl (fun _ => rfl) (by decide) (by decide) rfl (Nat.le_of_ble_eq_true rfl) dX4_readLine_51 h (fun v4 M4 h => ?_)
        refine j_if_eq C0 (pc := 54) (tgt := 62) dX4_readLine_54 (by decide) (fun hc => ?_) (fun hc => ?_)
        · replace h := (X_if h).1 hc
          refine j_aload_n C0 (pc := 62) dX4_readLine_62 rfl ?_
          refine j_kst C0 (pc := 63) (j := 7) (by decide) (j_c4 43 (by decide +kernel)) dX4_readLine_63 ?_
          refine X_cU C0 (pc := 66) (e' := e_I) (as := [.ref (1000000 + 7)]) (rest := []) (s' := fun w => .int w :: []) (g' := (0, 0)) u_LR_66_4 (fun Ψ hΨ => K_X8_isAt_4 a0 (1000000 + 7) M4 Ψ hΨ) rfl rfl (fun _ => rfl) (by decide) (by decide) rfl (Nat.le_of_ble_eq_true rfl) dX4_readLine_66 h (fun v5 M5 h => ?_)
          refine j_if_eq C0 (pc := 69) (tgt := 77) dX4_readLine_69 (by decide) (fun hc => ?_) (fun hc => ?_)
          · replace h := (X_if h).1 hc
            refine j_aload_n C0 (pc := 77) dX4_readLine_77 rfl ?_
            refine j_kst C0 (pc := 78) (j := 9) (by decide) (j_c4 55 (by decide +kernel)) dX4_readLine_78 ?_
            refine X_cU C0 (pc := 81) (e' := e_I) (as := [.ref (1000000 + 9)]) (rest := []) (s' := fun w => .int w :: []) (g' := (0, 0)) u_LR_66_4 (fun Ψ hΨ => K_X8_isAt_4 a0 (1000000 + 9) M5 Ψ hΨ) rfl rfl (fun _ => rfl) (by decide) (by decide) rfl (Nat.le_of_ble_eq_true rfl) dX4_readLine_81 h (fun v6 M6 h => ?_)
            refine j_if_eq C0 (pc := 84) (tgt := 94) dX4_readLine_84 (by decide) (fun hc => ?_) (fun hc => ?_)
            · replace h := (X_if h).1 hc
              refine j_aload_n C0 (pc := 94) dX4_readLine_94 rfl ?_
              refine j_iconst C0 (pc := 95) dX4_readLine_95 (v := (1 : Int32)) (by decide) ?_
              refine X_cU C0 (pc := 96) (e' := e_I) (as := [.int (1 : Int32)]) (rest := []) (s' := fun w => .int w :: []) (g' := (0, 0)) u_LR_100_4 (fun Ψ hΨ => K_X8_fail_4 a0 (1 : Int32) M6 Ψ hΨ) rfl rfl (fun _ => rfl) (by decide) (by decide) rfl (Nat.le_of_ble_eq_true rfl) dX4_readLine_96 h (fun v7 M7 h => ?_)
              exact j_zret C rfl (by rcases (X_gd h).1 with q | q <;> (rw [q]; rfl)) (X_gd h).2 dX4_readLine_99 (by decide)
            · replace h := (X_if h).2 hc
              refine j_aload_n C0 (pc := 87) dX4_readLine_87 rfl ?_
              refine X_cV C0 (pc := 88) (e' := e_I) (as := []) (rest := []) (s' := fun w => .int w :: []) (g' := (0, 0)) v_LR_97_4 (fun Ψ hΨ => K_X4_readBribe a0 M6 Ψ hΨ) rfl rfl (fun _ => rfl) (by decide) (by decide) rfl (Nat.le_of_ble_eq_true rfl) dX4_readLine_88 h (fun v8 M8 h => ?_)
              refine j_goto C0 (pc := 91) (tgt := 99) dX4_readLine_91 (by decide) ?_
              exact j_zret C rfl (by rcases (X_gd h).1 with q | q <;> (rw [q]; rfl)) (X_gd h).2 dX4_readLine_99 (by decide)
          · replace h := (X_if h).2 hc
            refine j_aload_n C0 (pc := 72) dX4_readLine_72 rfl ?_
            refine X_cV C0 (pc := 73) (e' := e_I) (as := []) (rest := []) (s' := fun w => .int w :: []) (g' := (0, 0)) v_LR_91_4 (fun Ψ hΨ => K_X4_readSpeaker a0 M5 Ψ hΨ) rfl rfl (fun _ => rfl) (by decide) (by decide) rfl (Nat.le_of_ble_eq_true rfl) dX4_readLine_73 h (fun v9 M9 h => ?_)
            exact j_zret C rfl (by rcases (X_gd h).1 with q | q <;> (rw [q]; rfl)) (X_gd h).2 dX4_readLine_76 (by decide)
        · replace h := (X_if h).2 hc
          refine j_aload_n C0 (pc := 57) dX4_readLine_57 rfl ?_
          refine X_cV C0 (pc := 58) (e' := e_I) (as := []) (rest := []) (s' := fun w => .int w :: []) (g' := (0, 0)) v_LR_85_4 (fun Ψ hΨ => K_X4_readWeek a0 M4 Ψ hΨ) rfl rfl (fun _ => rfl) (by decide) (by decide) rfl (Nat.le_of_ble_eq_true rfl) dX4_readLine_58 h (fun v10 M10 h => ?_)
          exact j_zret C rfl (by rcases (X_gd h).1 with q | q <;> (rw [q]; rfl)) (X_gd h).2 dX4_readLine_61 (by decide)
      · replace h := (X_if h).2 hc
        refine j_aload_n C0 (pc := 41) dX4_readLine_41 rfl ?_
        refine j_iconst C0 (pc := 42) dX4_readLine_42 (v := (2 : Int32)) (by decide) ?_
        refine X_cV C0 (pc := 43) (e' := e_I) (as := [.int (2 : Int32)]) (rest := []) (s' := fun w => .int w :: []) (g' := (0, 0)) v_LR_75_4 (fun Ψ hΨ => K_X4_readLaw a0 (2 : Int32) M3 Ψ hΨ) rfl rfl (fun _ => rfl) (by decide) (by decide) rfl (Nat.le_of_ble_eq_true rfl) dX4_readLine_43 h (fun v11 M11 h => ?_)
        exact j_zret C rfl (by rcases (X_gd h).1 with q | q <;> (rw [q]; rfl)) (X_gd h).2 dX4_readLine_46 (by decide)
    · replace h := (X_if h).2 hc
      refine j_aload_n C0 (pc := 25) dX4_readLine_25 rfl ?_
      refine j_iconst C0 (pc := 26) dX4_readLine_26 (v := (1 : Int32)) (by decide) ?_
      refine X_cV C0 (pc := 27) (e' := e_I) (as := [.int (1 : Int32)]) (rest := []) (s' := fun w => .int w :: []) (g' := (0, 0)) v_LR_75_4 (fun Ψ hΨ => K_X4_readLaw a0 (1 : Int32) M2 Ψ hΨ) rfl rfl (fun _ => rfl) (by decide) (by decide) rfl (Nat.le_of_ble_eq_true rfl) dX4_readLine_27 h (fun v12 M12 h => ?_)
      exact j_zret C rfl (by rcases (X_gd h).1 with q | q <;> (rw [q]; rfl)) (X_gd h).2 dX4_readLine_30 (by decide)
  · replace h := (X_if h).2 hc
    refine j_aload_n C0 (pc := 10) dX4_readLine_10 rfl ?_
    refine X_cV C0 (pc := 11) (e' := e_I) (as := []) (rest := []) (s' := fun w => .int w :: []) (g' := (0, 0)) v_LR_69_4 (fun Ψ hΨ => K_X4_readThing a0 M1 Ψ hΨ) rfl rfl (fun _ => rfl) (by decide) (by decide) rfl (Nat.le_of_ble_eq_true rfl) dX4_readLine_11 h (fun v13 M13 h => ?_)
    exact j_zret C rfl (by rcases (X_gd h).1 with q | q <;> (rw [q]; rfl)) (X_gd h).2 dX4_readLine_14 (by decide)
theorem dX4_read_0 : decode cX4_read 0 = .ok (.aload_n 0, 1) := by decide +kernel
theorem dX4_read_1 : decode cX4_read 1 = .ok (.getfield 9, 3) := by decide +kernel
theorem dX4_read_4 : decode cX4_read 4 = .ok (.invokevirtual 15, 3) := by decide +kernel
theorem dX4_read_7 : decode cX4_read 7 = .ok (.aload_n 0, 1) := by decide +kernel
theorem dX4_read_8 : decode cX4_read 8 = .ok (.iconst 0, 1) := by decide +kernel
theorem dX4_read_9 : decode cX4_read 9 = .ok (.putfield 21, 3) := by decide +kernel
theorem dX4_read_12 : decode cX4_read 12 = .ok (.aload_n 0, 1) := by decide +kernel
theorem dX4_read_13 : decode cX4_read 13 = .ok (.iload_n 1, 1) := by decide +kernel
theorem dX4_read_14 : decode cX4_read 14 = .ok (.invokevirtual 25, 3) := by decide +kernel
theorem dX4_read_17 : decode cX4_read 17 = .ok (.aload_n 0, 1) := by decide +kernel
theorem dX4_read_18 : decode cX4_read 18 = .ok (.invokevirtual 29, 3) := by decide +kernel
theorem dX4_read_21 : decode cX4_read 21 = .ok (.ifCond .ne 8, 3) := by decide +kernel
theorem dX4_read_24 : decode cX4_read 24 = .ok (.aload_n 0, 1) := by decide +kernel
theorem dX4_read_25 : decode cX4_read 25 = .ok (.getfield 33, 3) := by decide +kernel
theorem dX4_read_28 : decode cX4_read 28 = .ok (.ireturn, 1) := by decide +kernel
theorem dX4_read_29 : decode cX4_read 29 = .ok (.iconst 0, 1) := by decide +kernel
theorem dX4_read_30 : decode cX4_read 30 = .ok (.istore_n 2, 1) := by decide +kernel
theorem dX4_read_31 : decode cX4_read 31 = .ok (.iload_n 2, 1) := by decide +kernel
theorem dX4_read_32 : decode cX4_read 32 = .ok (.sipush 1000, 3) := by decide +kernel
theorem dX4_read_35 : decode cX4_read 35 = .ok (.if_icmp .ge 28, 3) := by decide +kernel
theorem dX4_read_38 : decode cX4_read 38 = .ok (.aload_n 0, 1) := by decide +kernel
theorem dX4_read_39 : decode cX4_read 39 = .ok (.getfield 37, 3) := by decide +kernel
theorem dX4_read_42 : decode cX4_read 42 = .ok (.ifCond .eq 21, 3) := by decide +kernel
theorem dX4_read_45 : decode cX4_read 45 = .ok (.aload_n 0, 1) := by decide +kernel
theorem dX4_read_46 : decode cX4_read 46 = .ok (.invokevirtual 40, 3) := by decide +kernel
theorem dX4_read_49 : decode cX4_read 49 = .ok (.ifCond .ne 8, 3) := by decide +kernel
theorem dX4_read_52 : decode cX4_read 52 = .ok (.aload_n 0, 1) := by decide +kernel
theorem dX4_read_53 : decode cX4_read 53 = .ok (.getfield 33, 3) := by decide +kernel
theorem dX4_read_56 : decode cX4_read 56 = .ok (.ireturn, 1) := by decide +kernel
theorem dX4_read_57 : decode cX4_read 57 = .ok (.iinc 2 1, 3) := by decide +kernel
theorem dX4_read_60 : decode cX4_read 60 = .ok (.goto (-29), 3) := by decide +kernel
theorem dX4_read_63 : decode cX4_read 63 = .ok (.iconst 0, 1) := by decide +kernel
theorem dX4_read_64 : decode cX4_read 64 = .ok (.ireturn, 1) := by decide +kernel
noncomputable def F_X4_read_31 : Nat → Nat → Int32 → m_M → Option (Int32 × m_M)
  | 0, _, _, _ => none
  | n + 1, v1, v2, M =>
    if (1000 : Int32) ≤ v2 then (
      some ((0 : Int32), M)
    ) else
    x_gI 4 M v1 4 fun v3 =>
    if v3 = 0 then (
      some ((0 : Int32), M)
    ) else
    x_cV 4 M v1 (F_X4_readLine v1 M) fun v4 M1 =>
    if v4 = 0 then (
      x_gI 4 M1 v1 9 fun v6 =>
      some (v6, M1)
    ) else
    m_let (v2 + (1 : Int32)) fun v5 =>
    F_X4_read_31 n v1 v5 M1
noncomputable def F_X4_read (a0 : Nat) (a1 : Int32) (M : m_M) : Option (Int32 × m_M) :=
  x_gN 4 M a0 10 fun v1 =>
  x_cV 3 M v1 (F_X3_empty v1 M) fun _ M1 =>
  x_pI 4 M1 a0 11 (0 : Int32) fun M2 =>
  x_cV 4 M2 a0 (F_X8_open 4 a0 a1 M2) fun _ M3 =>
  x_cV 4 M3 a0 (F_X4_readPlaces a0 M3) fun v2 M4 =>
  if v2 = 0 then (
    x_gI 4 M4 a0 9 fun v3 =>
    some (v3, M4)
  ) else
  F_X4_read_31 m_FU a0 (0 : Int32) M4
set_option maxHeartbeats 4000000 in
theorem L_X4_read_31 {X : j_X} {Φ : Option Value → m_M → Prop} (C : j_C X yX4_read cX4_read 3 (some .int) 74 0 0 Φ) : ∀ (n : Nat) (v1 : Nat) (v2 : Int32) (M : m_M), m_ok e_I Φ (F_X4_read_31 n v1 v2 M) → j_J X 3 31 [some (.ref v1), none, some (.int v2)] [] (0, 0) M := by
  have C0 := C.1
  intro n
  induction n with
  | zero => intro v1 v2 M h; exact False.elim h
  | succ n ih =>
    intro v1 v2 M h
    rw [F_X4_read_31] at h
    refine j_iload_n C0 (pc := 31) dX4_read_31 rfl ?_
    refine j_sipush C0 (pc := 32) dX4_read_32 (v := (1000 : Int32)) (by decide) ?_
    refine j_icmp_ge C0 (pc := 35) (tgt := 63) dX4_read_35 (by decide) (fun hc => ?_) (fun hc => ?_)
    · replace h := (X_if h).1 hc
      refine j_iconst C0 (pc := 63) dX4_read_63 (v := (0 : Int32)) (by decide) ?_
      exact j_iret C rfl h dX4_read_64 (by decide)
    · replace h := (X_if h).2 hc
      refine j_aload_n C0 (pc := 38) dX4_read_38 rfl ?_
      refine X_gI C0 (pc := 39) f_LR_37_4 rfl dX4_read_39 h (fun v3 h => ?_)
      refine j_if_eq C0 (pc := 42) (tgt := 63) dX4_read_42 (by decide) (fun hc => ?_) (fun hc => ?_)
      · replace h := (X_if h).1 hc
        refine j_iconst C0 (pc := 63) dX4_read_63 (v := (0 : Int32)) (by decide) ?_
        exact j_iret C rfl h dX4_read_64 (by decide)
      · replace h := (X_if h).2 hc
        refine j_aload_n C0 (pc := 45) dX4_read_45 rfl ?_
        refine X_cV C0 (pc := 46) (e' := e_I) (as := []) (rest := []) (s' := fun w => .int w :: []) (g' := (0, 0)) v_LR_40_4 (fun Ψ hΨ => K_X4_readLine v1 M Ψ hΨ) rfl rfl (fun _ => rfl) (by decide) (by decide) rfl (Nat.le_of_ble_eq_true rfl) dX4_read_46 h (fun v4 M1 h => ?_)
        refine j_if_ne C0 (pc := 49) (tgt := 57) dX4_read_49 (by decide) (fun hc => ?_) (fun hc => ?_)
        · replace h := (X_if h).2 hc
          refine j_iinc C0 (pc := 57) dX4_read_57 (v := v2 + (1 : Int32)) rfl (Nat.le_of_ble_eq_true rfl) (by rfl) ?_
          refine X_let (G := fun w => j_J X 3 60 [some (.ref v1), none, some (.int w)] [] (0, 0) M1) h (fun v5 h => ?_)
          refine j_goto C0 (pc := 60) (tgt := 31) dX4_read_60 (by decide) ?_
          exact j_J.wq (ih v1 v5 M1 h) (And.intro rfl (And.intro rfl (trivial)))
        · replace h := (X_if h).1 hc
          refine j_aload_n C0 (pc := 52) dX4_read_52 rfl ?_
          refine X_gI C0 (pc := 53) f_LR_33_4 rfl dX4_read_53 h (fun v6 h => ?_)
          exact j_iret C rfl h dX4_read_56 (by decide)
set_option maxHeartbeats 4000000 in
theorem K_X4_read (a0 : Nat) (a1 : Int32) (M : m_M) (Φ : Option Value → m_M → Prop) (h : m_ok e_I Φ (F_X4_read a0 a1 M)) : j_Ct yX4_read cX4_read 3 (some .int) 74 0 0 [.ref a0, .int a1] M Φ := by
  refine j_Ct.of (by decide +kernel) (Nat.le_of_ble_eq_true rfl) fun X C => ?_
  have C0 := C.1
  show j_J X 3 0 [some (.ref a0), some (.int a1), none] [] (0, 0) M
  unfold F_X4_read at h
  refine j_aload_n C0 (pc := 0) dX4_read_0 rfl ?_
  refine X_gN C0 (pc := 1) f_LR_9_4 rfl dX4_read_1 h (fun v1 h => ?_)
  refine X_cV C0 (pc := 4) (e' := e_V) (as := []) (rest := []) (s' := fun _ => []) (g' := (0, 0)) v_LR_15_3 (fun Ψ hΨ => K_X3_empty v1 M Ψ hΨ) rfl rfl (fun _ => rfl) (by decide) (by decide) rfl (Nat.le_of_ble_eq_true rfl) dX4_read_4 h (fun _ M1 h => ?_)
  refine j_aload_n C0 (pc := 7) dX4_read_7 rfl ?_
  refine j_iconst C0 (pc := 8) dX4_read_8 (v := (0 : Int32)) (by decide) ?_
  refine X_pC C0 (pc := 9) f_LR_21_4 (by decide) (by decide) rfl dX4_read_9 h (fun M2 h => ?_)
  refine j_aload_n C0 (pc := 12) dX4_read_12 rfl ?_
  refine j_iload_n C0 (pc := 13) dX4_read_13 rfl ?_
  refine X_cU C0 (pc := 14) (e' := e_V) (as := [.int a1]) (rest := []) (s' := fun _ => []) (g' := (0, 0)) u_LR_25_4 (fun Ψ hΨ => K_X8_open_4 a0 a1 M2 Ψ hΨ) rfl rfl (fun _ => rfl) (by decide) (by decide) rfl (Nat.le_of_ble_eq_true rfl) dX4_read_14 h (fun _ M3 h => ?_)
  refine j_aload_n C0 (pc := 17) dX4_read_17 rfl ?_
  refine X_cV C0 (pc := 18) (e' := e_I) (as := []) (rest := []) (s' := fun w => .int w :: []) (g' := (0, 0)) v_LR_29_4 (fun Ψ hΨ => K_X4_readPlaces a0 M3 Ψ hΨ) rfl rfl (fun _ => rfl) (by decide) (by decide) rfl (Nat.le_of_ble_eq_true rfl) dX4_read_18 h (fun v2 M4 h => ?_)
  refine j_if_ne C0 (pc := 21) (tgt := 29) dX4_read_21 (by decide) (fun hc => ?_) (fun hc => ?_)
  · replace h := (X_if h).2 hc
    refine j_iconst C0 (pc := 29) dX4_read_29 (v := (0 : Int32)) (by decide) ?_
    refine j_istore_n C0 (pc := 30) dX4_read_30 (Nat.le_of_ble_eq_true rfl) ?_
    show j_J X 3 31 [some (.ref a0), some (.int a1), some (.int (0 : Int32))] [] (0, 0) M4
    exact j_J.wq (L_X4_read_31 C m_FU a0 (0 : Int32) M4 h) (And.intro rfl (And.intro rfl (trivial)))
  · replace h := (X_if h).1 hc
    refine j_aload_n C0 (pc := 24) dX4_read_24 rfl ?_
    refine X_gI C0 (pc := 25) f_LR_33_4 rfl dX4_read_25 h (fun v3 h => ?_)
    exact j_iret C rfl h dX4_read_28 (by decide)
theorem dX3_copyFrom_0 : decode cX3_copyFrom 0 = .ok (.aload_n 0, 1) := by decide +kernel
theorem dX3_copyFrom_1 : decode cX3_copyFrom 1 = .ok (.aload_n 1, 1) := by decide +kernel
theorem dX3_copyFrom_2 : decode cX3_copyFrom 2 = .ok (.getfield 58, 3) := by decide +kernel
theorem dX3_copyFrom_5 : decode cX3_copyFrom 5 = .ok (.putfield 58, 3) := by decide +kernel
theorem dX3_copyFrom_8 : decode cX3_copyFrom 8 = .ok (.aload_n 0, 1) := by decide +kernel
theorem dX3_copyFrom_9 : decode cX3_copyFrom 9 = .ok (.aload_n 1, 1) := by decide +kernel
theorem dX3_copyFrom_10 : decode cX3_copyFrom 10 = .ok (.getfield 62, 3) := by decide +kernel
theorem dX3_copyFrom_13 : decode cX3_copyFrom 13 = .ok (.putfield 62, 3) := by decide +kernel
theorem dX3_copyFrom_16 : decode cX3_copyFrom 16 = .ok (.aload_n 0, 1) := by decide +kernel
theorem dX3_copyFrom_17 : decode cX3_copyFrom 17 = .ok (.aload_n 1, 1) := by decide +kernel
theorem dX3_copyFrom_18 : decode cX3_copyFrom 18 = .ok (.getfield 65, 3) := by decide +kernel
theorem dX3_copyFrom_21 : decode cX3_copyFrom 21 = .ok (.putfield 65, 3) := by decide +kernel
theorem dX3_copyFrom_24 : decode cX3_copyFrom 24 = .ok (.aload_n 0, 1) := by decide +kernel
theorem dX3_copyFrom_25 : decode cX3_copyFrom 25 = .ok (.aload_n 1, 1) := by decide +kernel
theorem dX3_copyFrom_26 : decode cX3_copyFrom 26 = .ok (.getfield 68, 3) := by decide +kernel
theorem dX3_copyFrom_29 : decode cX3_copyFrom 29 = .ok (.putfield 68, 3) := by decide +kernel
theorem dX3_copyFrom_32 : decode cX3_copyFrom 32 = .ok (.aload_n 1, 1) := by decide +kernel
theorem dX3_copyFrom_33 : decode cX3_copyFrom 33 = .ok (.getfield 9, 3) := by decide +kernel
theorem dX3_copyFrom_36 : decode cX3_copyFrom 36 = .ok (.iconst 0, 1) := by decide +kernel
theorem dX3_copyFrom_37 : decode cX3_copyFrom 37 = .ok (.aload_n 0, 1) := by decide +kernel
theorem dX3_copyFrom_38 : decode cX3_copyFrom 38 = .ok (.getfield 9, 3) := by decide +kernel
theorem dX3_copyFrom_41 : decode cX3_copyFrom 41 = .ok (.iconst 0, 1) := by decide +kernel
theorem dX3_copyFrom_42 : decode cX3_copyFrom 42 = .ok (.aload_n 0, 1) := by decide +kernel
theorem dX3_copyFrom_43 : decode cX3_copyFrom 43 = .ok (.getfield 9, 3) := by decide +kernel
theorem dX3_copyFrom_46 : decode cX3_copyFrom 46 = .ok (.arraylength, 1) := by decide +kernel
theorem dX3_copyFrom_47 : decode cX3_copyFrom 47 = .ok (.invokestatic 77, 3) := by decide +kernel
theorem dX3_copyFrom_50 : decode cX3_copyFrom 50 = .ok (.aload_n 1, 1) := by decide +kernel
theorem dX3_copyFrom_51 : decode cX3_copyFrom 51 = .ok (.getfield 15, 3) := by decide +kernel
theorem dX3_copyFrom_54 : decode cX3_copyFrom 54 = .ok (.iconst 0, 1) := by decide +kernel
theorem dX3_copyFrom_55 : decode cX3_copyFrom 55 = .ok (.aload_n 0, 1) := by decide +kernel
theorem dX3_copyFrom_56 : decode cX3_copyFrom 56 = .ok (.getfield 15, 3) := by decide +kernel
theorem dX3_copyFrom_59 : decode cX3_copyFrom 59 = .ok (.iconst 0, 1) := by decide +kernel
theorem dX3_copyFrom_60 : decode cX3_copyFrom 60 = .ok (.aload_n 0, 1) := by decide +kernel
theorem dX3_copyFrom_61 : decode cX3_copyFrom 61 = .ok (.getfield 15, 3) := by decide +kernel
theorem dX3_copyFrom_64 : decode cX3_copyFrom 64 = .ok (.arraylength, 1) := by decide +kernel
theorem dX3_copyFrom_65 : decode cX3_copyFrom 65 = .ok (.invokestatic 77, 3) := by decide +kernel
theorem dX3_copyFrom_68 : decode cX3_copyFrom 68 = .ok (.aload_n 1, 1) := by decide +kernel
theorem dX3_copyFrom_69 : decode cX3_copyFrom 69 = .ok (.getfield 18, 3) := by decide +kernel
theorem dX3_copyFrom_72 : decode cX3_copyFrom 72 = .ok (.iconst 0, 1) := by decide +kernel
theorem dX3_copyFrom_73 : decode cX3_copyFrom 73 = .ok (.aload_n 0, 1) := by decide +kernel
theorem dX3_copyFrom_74 : decode cX3_copyFrom 74 = .ok (.getfield 18, 3) := by decide +kernel
theorem dX3_copyFrom_77 : decode cX3_copyFrom 77 = .ok (.iconst 0, 1) := by decide +kernel
theorem dX3_copyFrom_78 : decode cX3_copyFrom 78 = .ok (.aload_n 0, 1) := by decide +kernel
theorem dX3_copyFrom_79 : decode cX3_copyFrom 79 = .ok (.getfield 18, 3) := by decide +kernel
theorem dX3_copyFrom_82 : decode cX3_copyFrom 82 = .ok (.arraylength, 1) := by decide +kernel
theorem dX3_copyFrom_83 : decode cX3_copyFrom 83 = .ok (.invokestatic 77, 3) := by decide +kernel
theorem dX3_copyFrom_86 : decode cX3_copyFrom 86 = .ok (.aload_n 1, 1) := by decide +kernel
theorem dX3_copyFrom_87 : decode cX3_copyFrom 87 = .ok (.getfield 21, 3) := by decide +kernel
theorem dX3_copyFrom_90 : decode cX3_copyFrom 90 = .ok (.iconst 0, 1) := by decide +kernel
theorem dX3_copyFrom_91 : decode cX3_copyFrom 91 = .ok (.aload_n 0, 1) := by decide +kernel
theorem dX3_copyFrom_92 : decode cX3_copyFrom 92 = .ok (.getfield 21, 3) := by decide +kernel
theorem dX3_copyFrom_95 : decode cX3_copyFrom 95 = .ok (.iconst 0, 1) := by decide +kernel
theorem dX3_copyFrom_96 : decode cX3_copyFrom 96 = .ok (.aload_n 0, 1) := by decide +kernel
theorem dX3_copyFrom_97 : decode cX3_copyFrom 97 = .ok (.getfield 21, 3) := by decide +kernel
theorem dX3_copyFrom_100 : decode cX3_copyFrom 100 = .ok (.arraylength, 1) := by decide +kernel
theorem dX3_copyFrom_101 : decode cX3_copyFrom 101 = .ok (.invokestatic 77, 3) := by decide +kernel
theorem dX3_copyFrom_104 : decode cX3_copyFrom 104 = .ok (.aload_n 1, 1) := by decide +kernel
theorem dX3_copyFrom_105 : decode cX3_copyFrom 105 = .ok (.getfield 24, 3) := by decide +kernel
theorem dX3_copyFrom_108 : decode cX3_copyFrom 108 = .ok (.iconst 0, 1) := by decide +kernel
theorem dX3_copyFrom_109 : decode cX3_copyFrom 109 = .ok (.aload_n 0, 1) := by decide +kernel
theorem dX3_copyFrom_110 : decode cX3_copyFrom 110 = .ok (.getfield 24, 3) := by decide +kernel
theorem dX3_copyFrom_113 : decode cX3_copyFrom 113 = .ok (.iconst 0, 1) := by decide +kernel
theorem dX3_copyFrom_114 : decode cX3_copyFrom 114 = .ok (.aload_n 0, 1) := by decide +kernel
theorem dX3_copyFrom_115 : decode cX3_copyFrom 115 = .ok (.getfield 24, 3) := by decide +kernel
theorem dX3_copyFrom_118 : decode cX3_copyFrom 118 = .ok (.arraylength, 1) := by decide +kernel
theorem dX3_copyFrom_119 : decode cX3_copyFrom 119 = .ok (.invokestatic 77, 3) := by decide +kernel
theorem dX3_copyFrom_122 : decode cX3_copyFrom 122 = .ok (.aload_n 1, 1) := by decide +kernel
theorem dX3_copyFrom_123 : decode cX3_copyFrom 123 = .ok (.getfield 28, 3) := by decide +kernel
theorem dX3_copyFrom_126 : decode cX3_copyFrom 126 = .ok (.iconst 0, 1) := by decide +kernel
theorem dX3_copyFrom_127 : decode cX3_copyFrom 127 = .ok (.aload_n 0, 1) := by decide +kernel
theorem dX3_copyFrom_128 : decode cX3_copyFrom 128 = .ok (.getfield 28, 3) := by decide +kernel
theorem dX3_copyFrom_131 : decode cX3_copyFrom 131 = .ok (.iconst 0, 1) := by decide +kernel
theorem dX3_copyFrom_132 : decode cX3_copyFrom 132 = .ok (.aload_n 0, 1) := by decide +kernel
theorem dX3_copyFrom_133 : decode cX3_copyFrom 133 = .ok (.getfield 28, 3) := by decide +kernel
theorem dX3_copyFrom_136 : decode cX3_copyFrom 136 = .ok (.arraylength, 1) := by decide +kernel
theorem dX3_copyFrom_137 : decode cX3_copyFrom 137 = .ok (.invokestatic 77, 3) := by decide +kernel
theorem dX3_copyFrom_140 : decode cX3_copyFrom 140 = .ok (.aload_n 1, 1) := by decide +kernel
theorem dX3_copyFrom_141 : decode cX3_copyFrom 141 = .ok (.getfield 31, 3) := by decide +kernel
theorem dX3_copyFrom_144 : decode cX3_copyFrom 144 = .ok (.iconst 0, 1) := by decide +kernel
theorem dX3_copyFrom_145 : decode cX3_copyFrom 145 = .ok (.aload_n 0, 1) := by decide +kernel
theorem dX3_copyFrom_146 : decode cX3_copyFrom 146 = .ok (.getfield 31, 3) := by decide +kernel
theorem dX3_copyFrom_149 : decode cX3_copyFrom 149 = .ok (.iconst 0, 1) := by decide +kernel
theorem dX3_copyFrom_150 : decode cX3_copyFrom 150 = .ok (.aload_n 0, 1) := by decide +kernel
theorem dX3_copyFrom_151 : decode cX3_copyFrom 151 = .ok (.getfield 31, 3) := by decide +kernel
theorem dX3_copyFrom_154 : decode cX3_copyFrom 154 = .ok (.arraylength, 1) := by decide +kernel
theorem dX3_copyFrom_155 : decode cX3_copyFrom 155 = .ok (.invokestatic 77, 3) := by decide +kernel
theorem dX3_copyFrom_158 : decode cX3_copyFrom 158 = .ok (.aload_n 1, 1) := by decide +kernel
theorem dX3_copyFrom_159 : decode cX3_copyFrom 159 = .ok (.getfield 34, 3) := by decide +kernel
theorem dX3_copyFrom_162 : decode cX3_copyFrom 162 = .ok (.iconst 0, 1) := by decide +kernel
theorem dX3_copyFrom_163 : decode cX3_copyFrom 163 = .ok (.aload_n 0, 1) := by decide +kernel
theorem dX3_copyFrom_164 : decode cX3_copyFrom 164 = .ok (.getfield 34, 3) := by decide +kernel
theorem dX3_copyFrom_167 : decode cX3_copyFrom 167 = .ok (.iconst 0, 1) := by decide +kernel
theorem dX3_copyFrom_168 : decode cX3_copyFrom 168 = .ok (.aload_n 0, 1) := by decide +kernel
theorem dX3_copyFrom_169 : decode cX3_copyFrom 169 = .ok (.getfield 34, 3) := by decide +kernel
theorem dX3_copyFrom_172 : decode cX3_copyFrom 172 = .ok (.arraylength, 1) := by decide +kernel
theorem dX3_copyFrom_173 : decode cX3_copyFrom 173 = .ok (.invokestatic 77, 3) := by decide +kernel
theorem dX3_copyFrom_176 : decode cX3_copyFrom 176 = .ok (.aload_n 0, 1) := by decide +kernel
theorem dX3_copyFrom_177 : decode cX3_copyFrom 177 = .ok (.invokevirtual 55, 3) := by decide +kernel
theorem dX3_copyFrom_180 : decode cX3_copyFrom 180 = .ok (.return_, 1) := by decide +kernel
noncomputable def F_X3_copyFrom (a0 : Nat) (a1 : Nat) (M : m_M) : Option (Unit × m_M) :=
  x_gI 3 M a1 0 fun v1 =>
  x_pI 3 M a0 0 v1 fun M1 =>
  x_gI 3 M1 a1 1 fun v2 =>
  x_pI 3 M1 a0 1 v2 fun M2 =>
  x_gI 3 M2 a1 2 fun v3 =>
  x_pI 3 M2 a0 2 v3 fun M3 =>
  x_gI 3 M3 a1 5 fun v4 =>
  x_pI 3 M3 a0 5 v4 fun M4 =>
  x_gN 3 M4 a1 6 fun v5 =>
  x_gN 3 M4 a0 6 fun v6 =>
  x_gN 3 M4 a0 6 fun v7 =>
  x_len 12 M4 v7 fun v8 =>
  x_cpI M4 v5 (0 : Int32) v6 (0 : Int32) v8 fun M5 =>
  x_gN 3 M5 a1 7 fun v9 =>
  x_gN 3 M5 a0 7 fun v10 =>
  x_gN 3 M5 a0 7 fun v11 =>
  x_len 12 M5 v11 fun v12 =>
  x_cpI M5 v9 (0 : Int32) v10 (0 : Int32) v12 fun M6 =>
  x_gN 3 M6 a1 8 fun v13 =>
  x_gN 3 M6 a0 8 fun v14 =>
  x_gN 3 M6 a0 8 fun v15 =>
  x_len 12 M6 v15 fun v16 =>
  x_cpI M6 v13 (0 : Int32) v14 (0 : Int32) v16 fun M7 =>
  x_gN 3 M7 a1 9 fun v17 =>
  x_gN 3 M7 a0 9 fun v18 =>
  x_gN 3 M7 a0 9 fun v19 =>
  x_len 12 M7 v19 fun v20 =>
  x_cpI M7 v17 (0 : Int32) v18 (0 : Int32) v20 fun M8 =>
  x_gN 3 M8 a1 10 fun v21 =>
  x_gN 3 M8 a0 10 fun v22 =>
  x_gN 3 M8 a0 10 fun v23 =>
  x_len 13 M8 v23 fun v24 =>
  x_cpL M8 v21 (0 : Int32) v22 (0 : Int32) v24 fun M9 =>
  x_gN 3 M9 a1 11 fun v25 =>
  x_gN 3 M9 a0 11 fun v26 =>
  x_gN 3 M9 a0 11 fun v27 =>
  x_len 12 M9 v27 fun v28 =>
  x_cpI M9 v25 (0 : Int32) v26 (0 : Int32) v28 fun M10 =>
  x_gN 3 M10 a1 12 fun v29 =>
  x_gN 3 M10 a0 12 fun v30 =>
  x_gN 3 M10 a0 12 fun v31 =>
  x_len 12 M10 v31 fun v32 =>
  x_cpI M10 v29 (0 : Int32) v30 (0 : Int32) v32 fun M11 =>
  x_gN 3 M11 a1 13 fun v33 =>
  x_gN 3 M11 a0 13 fun v34 =>
  x_gN 3 M11 a0 13 fun v35 =>
  x_len 12 M11 v35 fun v36 =>
  x_cpI M11 v33 (0 : Int32) v34 (0 : Int32) v36 fun M12 =>
  x_cV 3 M12 a0 (F_X3_settle a0 M12) fun _ M13 =>
  some ((), M13)
set_option maxHeartbeats 4000000 in
theorem K_X3_copyFrom (a0 : Nat) (a1 : Nat) (M : m_M) (Φ : Option Value → m_M → Prop) (h : m_ok e_V Φ (F_X3_copyFrom a0 a1 M)) : j_Ct yX3_copyFrom cX3_copyFrom 2 none 6 0 0 [.ref a0, .ref a1] M Φ := by
  refine j_Ct.of (by decide +kernel) (Nat.le_of_ble_eq_true rfl) fun X C => ?_
  have C0 := C.1
  show j_J X 2 0 [some (.ref a0), some (.ref a1)] [] (0, 0) M
  unfold F_X3_copyFrom at h
  refine j_aload_n C0 (pc := 0) dX3_copyFrom_0 rfl ?_
  refine j_aload_n C0 (pc := 1) dX3_copyFrom_1 rfl ?_
  refine X_gI C0 (pc := 2) f_Land_58_3 rfl dX3_copyFrom_2 h (fun v1 h => ?_)
  refine X_pI C0 (pc := 5) f_Land_58_3 rfl rfl dX3_copyFrom_5 h (fun M1 h => ?_)
  refine j_aload_n C0 (pc := 8) dX3_copyFrom_8 rfl ?_
  refine j_aload_n C0 (pc := 9) dX3_copyFrom_9 rfl ?_
  refine X_gI C0 (pc := 10) f_Land_62_3 rfl dX3_copyFrom_10 h (fun v2 h => ?_)
  refine X_pI C0 (pc := 13) f_Land_62_3 rfl rfl dX3_copyFrom_13 h (fun M2 h => ?_)
  refine j_aload_n C0 (pc := 16) dX3_copyFrom_16 rfl ?_
  refine j_aload_n C0 (pc := 17) dX3_copyFrom_17 rfl ?_
  refine X_gI C0 (pc := 18) f_Land_65_3 rfl dX3_copyFrom_18 h (fun v3 h => ?_)
  refine X_pI C0 (pc := 21) f_Land_65_3 rfl rfl dX3_copyFrom_21 h (fun M3 h => ?_)
  refine j_aload_n C0 (pc := 24) dX3_copyFrom_24 rfl ?_
  refine j_aload_n C0 (pc := 25) dX3_copyFrom_25 rfl ?_
  refine X_gI C0 (pc := 26) f_Land_68_3 rfl dX3_copyFrom_26 h (fun v4 h => ?_)
  refine X_pI C0 (pc := 29) f_Land_68_3 rfl rfl dX3_copyFrom_29 h (fun M4 h => ?_)
  refine j_aload_n C0 (pc := 32) dX3_copyFrom_32 rfl ?_
  refine X_gN C0 (pc := 33) f_Land_9_3 rfl dX3_copyFrom_33 h (fun v5 h => ?_)
  refine j_iconst C0 (pc := 36) dX3_copyFrom_36 (v := (0 : Int32)) (by decide) ?_
  refine j_aload_n C0 (pc := 37) dX3_copyFrom_37 rfl ?_
  refine X_gN C0 (pc := 38) f_Land_9_3 rfl dX3_copyFrom_38 h (fun v6 h => ?_)
  refine j_iconst C0 (pc := 41) dX3_copyFrom_41 (v := (0 : Int32)) (by decide) ?_
  refine j_aload_n C0 (pc := 42) dX3_copyFrom_42 rfl ?_
  refine X_gN C0 (pc := 43) f_Land_9_3 rfl dX3_copyFrom_43 h (fun v7 h => ?_)
  refine X_alen C0 (pc := 46) (by decide) dX3_copyFrom_46 h (fun v8 h => ?_)
  refine X_copyI C0 (pc := 47) ⟨j_c4 65 (by decide +kernel), j_c4 67 (by decide +kernel), j_c4 66 (by decide +kernel), j_c1 21 (by decide +kernel)⟩ (by decide) (Nat.le_of_ble_eq_true rfl) dX3_copyFrom_47 h (fun M5 h => ?_)
  refine j_aload_n C0 (pc := 50) dX3_copyFrom_50 rfl ?_
  refine X_gN C0 (pc := 51) f_Land_15_3 rfl dX3_copyFrom_51 h (fun v9 h => ?_)
  refine j_iconst C0 (pc := 54) dX3_copyFrom_54 (v := (0 : Int32)) (by decide) ?_
  refine j_aload_n C0 (pc := 55) dX3_copyFrom_55 rfl ?_
  refine X_gN C0 (pc := 56) f_Land_15_3 rfl dX3_copyFrom_56 h (fun v10 h => ?_)
  refine j_iconst C0 (pc := 59) dX3_copyFrom_59 (v := (0 : Int32)) (by decide) ?_
  refine j_aload_n C0 (pc := 60) dX3_copyFrom_60 rfl ?_
  refine X_gN C0 (pc := 61) f_Land_15_3 rfl dX3_copyFrom_61 h (fun v11 h => ?_)
  refine X_alen C0 (pc := 64) (by decide) dX3_copyFrom_64 h (fun v12 h => ?_)
  refine X_copyI C0 (pc := 65) ⟨j_c4 65 (by decide +kernel), j_c4 67 (by decide +kernel), j_c4 66 (by decide +kernel), j_c1 21 (by decide +kernel)⟩ (by decide) (Nat.le_of_ble_eq_true rfl) dX3_copyFrom_65 h (fun M6 h => ?_)
  refine j_aload_n C0 (pc := 68) dX3_copyFrom_68 rfl ?_
  refine X_gN C0 (pc := 69) f_Land_18_3 rfl dX3_copyFrom_69 h (fun v13 h => ?_)
  refine j_iconst C0 (pc := 72) dX3_copyFrom_72 (v := (0 : Int32)) (by decide) ?_
  refine j_aload_n C0 (pc := 73) dX3_copyFrom_73 rfl ?_
  refine X_gN C0 (pc := 74) f_Land_18_3 rfl dX3_copyFrom_74 h (fun v14 h => ?_)
  refine j_iconst C0 (pc := 77) dX3_copyFrom_77 (v := (0 : Int32)) (by decide) ?_
  refine j_aload_n C0 (pc := 78) dX3_copyFrom_78 rfl ?_
  refine X_gN C0 (pc := 79) f_Land_18_3 rfl dX3_copyFrom_79 h (fun v15 h => ?_)
  refine X_alen C0 (pc := 82) (by decide) dX3_copyFrom_82 h (fun v16 h => ?_)
  refine X_copyI C0 (pc := 83) ⟨j_c4 65 (by decide +kernel), j_c4 67 (by decide +kernel), j_c4 66 (by decide +kernel), j_c1 21 (by decide +kernel)⟩ (by decide) (Nat.le_of_ble_eq_true rfl) dX3_copyFrom_83 h (fun M7 h => ?_)
  refine j_aload_n C0 (pc := 86) dX3_copyFrom_86 rfl ?_
  refine X_gN C0 (pc := 87) f_Land_21_3 rfl dX3_copyFrom_87 h (fun v17 h => ?_)
  refine j_iconst C0 (pc := 90) dX3_copyFrom_90 (v := (0 : Int32)) (by decide) ?_
  refine j_aload_n C0 (pc := 91) dX3_copyFrom_91 rfl ?_
  refine X_gN C0 (pc := 92) f_Land_21_3 rfl dX3_copyFrom_92 h (fun v18 h => ?_)
  refine j_iconst C0 (pc := 95) dX3_copyFrom_95 (v := (0 : Int32)) (by decide) ?_
  refine j_aload_n C0 (pc := 96) dX3_copyFrom_96 rfl ?_
  refine X_gN C0 (pc := 97) f_Land_21_3 rfl dX3_copyFrom_97 h (fun v19 h => ?_)
  refine X_alen C0 (pc := 100) (by decide) dX3_copyFrom_100 h (fun v20 h => ?_)
  refine X_copyI C0 (pc := 101) ⟨j_c4 65 (by decide +kernel), j_c4 67 (by decide +kernel), j_c4 66 (by decide +kernel), j_c1 21 (by decide +kernel)⟩ (by decide) (Nat.le_of_ble_eq_true rfl) dX3_copyFrom_101 h (fun M8 h => ?_)
  refine j_aload_n C0 (pc := 104) dX3_copyFrom_104 rfl ?_
  refine X_gN C0 (pc := 105) f_Land_24_3 rfl dX3_copyFrom_105 h (fun v21 h => ?_)
  refine j_iconst C0 (pc := 108) dX3_copyFrom_108 (v := (0 : Int32)) (by decide) ?_
  refine j_aload_n C0 (pc := 109) dX3_copyFrom_109 rfl ?_
  refine X_gN C0 (pc := 110) f_Land_24_3 rfl dX3_copyFrom_110 h (fun v22 h => ?_)
  refine j_iconst C0 (pc := 113) dX3_copyFrom_113 (v := (0 : Int32)) (by decide) ?_
  refine j_aload_n C0 (pc := 114) dX3_copyFrom_114 rfl ?_
  refine X_gN C0 (pc := 115) f_Land_24_3 rfl dX3_copyFrom_115 h (fun v23 h => ?_)
  refine X_alen C0 (pc := 118) (by decide) dX3_copyFrom_118 h (fun v24 h => ?_)
  refine X_copyL C0 (pc := 119) ⟨j_c4 65 (by decide +kernel), j_c4 67 (by decide +kernel), j_c4 66 (by decide +kernel), j_c1 21 (by decide +kernel)⟩ (by decide) (Nat.le_of_ble_eq_true rfl) dX3_copyFrom_119 h (fun M9 h => ?_)
  refine j_aload_n C0 (pc := 122) dX3_copyFrom_122 rfl ?_
  refine X_gN C0 (pc := 123) f_Land_28_3 rfl dX3_copyFrom_123 h (fun v25 h => ?_)
  refine j_iconst C0 (pc := 126) dX3_copyFrom_126 (v := (0 : Int32)) (by decide) ?_
  refine j_aload_n C0 (pc := 127) dX3_copyFrom_127 rfl ?_
  refine X_gN C0 (pc := 128) f_Land_28_3 rfl dX3_copyFrom_128 h (fun v26 h => ?_)
  refine j_iconst C0 (pc := 131) dX3_copyFrom_131 (v := (0 : Int32)) (by decide) ?_
  refine j_aload_n C0 (pc := 132) dX3_copyFrom_132 rfl ?_
  refine X_gN C0 (pc := 133) f_Land_28_3 rfl dX3_copyFrom_133 h (fun v27 h => ?_)
  refine X_alen C0 (pc := 136) (by decide) dX3_copyFrom_136 h (fun v28 h => ?_)
  refine X_copyI C0 (pc := 137) ⟨j_c4 65 (by decide +kernel), j_c4 67 (by decide +kernel), j_c4 66 (by decide +kernel), j_c1 21 (by decide +kernel)⟩ (by decide) (Nat.le_of_ble_eq_true rfl) dX3_copyFrom_137 h (fun M10 h => ?_)
  refine j_aload_n C0 (pc := 140) dX3_copyFrom_140 rfl ?_
  refine X_gN C0 (pc := 141) f_Land_31_3 rfl dX3_copyFrom_141 h (fun v29 h => ?_)
  refine j_iconst C0 (pc := 144) dX3_copyFrom_144 (v := (0 : Int32)) (by decide) ?_
  refine j_aload_n C0 (pc := 145) dX3_copyFrom_145 rfl ?_
  refine X_gN C0 (pc := 146) f_Land_31_3 rfl dX3_copyFrom_146 h (fun v30 h => ?_)
  refine j_iconst C0 (pc := 149) dX3_copyFrom_149 (v := (0 : Int32)) (by decide) ?_
  refine j_aload_n C0 (pc := 150) dX3_copyFrom_150 rfl ?_
  refine X_gN C0 (pc := 151) f_Land_31_3 rfl dX3_copyFrom_151 h (fun v31 h => ?_)
  refine X_alen C0 (pc := 154) (by decide) dX3_copyFrom_154 h (fun v32 h => ?_)
  refine X_copyI C0 (pc := 155) ⟨j_c4 65 (by decide +kernel), j_c4 67 (by decide +kernel), j_c4 66 (by decide +kernel), j_c1 21 (by decide +kernel)⟩ (by decide) (Nat.le_of_ble_eq_true rfl) dX3_copyFrom_155 h (fun M11 h => ?_)
  refine j_aload_n C0 (pc := 158) dX3_copyFrom_158 rfl ?_
  refine X_gN C0 (pc := 159) f_Land_34_3 rfl dX3_copyFrom_159 h (fun v33 h => ?_)
  refine j_iconst C0 (pc := 162) dX3_copyFrom_162 (v := (0 : Int32)) (by decide) ?_
  refine j_aload_n C0 (pc := 163) dX3_copyFrom_163 rfl ?_
  refine X_gN C0 (pc := 164) f_Land_34_3 rfl dX3_copyFrom_164 h (fun v34 h => ?_)
  refine j_iconst C0 (pc := 167) dX3_copyFrom_167 (v := (0 : Int32)) (by decide) ?_
  refine j_aload_n C0 (pc := 168) dX3_copyFrom_168 rfl ?_
  refine X_gN C0 (pc := 169) f_Land_34_3 rfl dX3_copyFrom_169 h (fun v35 h => ?_)
  refine X_alen C0 (pc := 172) (by decide) dX3_copyFrom_172 h (fun v36 h => ?_)
  refine X_copyI C0 (pc := 173) ⟨j_c4 65 (by decide +kernel), j_c4 67 (by decide +kernel), j_c4 66 (by decide +kernel), j_c1 21 (by decide +kernel)⟩ (by decide) (Nat.le_of_ble_eq_true rfl) dX3_copyFrom_173 h (fun M12 h => ?_)
  refine j_aload_n C0 (pc := 176) dX3_copyFrom_176 rfl ?_
  refine X_cV C0 (pc := 177) (e' := e_V) (as := []) (rest := []) (s' := fun _ => []) (g' := (0, 0)) v_Land_55_3 (fun Ψ hΨ => K_X3_settle a0 M12 Ψ hΨ) rfl rfl (fun _ => rfl) (by decide) (by decide) rfl (Nat.le_of_ble_eq_true rfl) dX3_copyFrom_177 h (fun _ M13 h => ?_)
  exact j_vret C rfl h dX3_copyFrom_180 (by decide)
theorem dX1_forget_0 : decode cX1_forget 0 = .ok (.aload_n 0, 1) := by decide +kernel
theorem dX1_forget_1 : decode cX1_forget 1 = .ok (.iconst 0, 1) := by decide +kernel
theorem dX1_forget_2 : decode cX1_forget 2 = .ok (.putfield 39, 3) := by decide +kernel
theorem dX1_forget_5 : decode cX1_forget 5 = .ok (.aload_n 0, 1) := by decide +kernel
theorem dX1_forget_6 : decode cX1_forget 6 = .ok (.iconst 0, 1) := by decide +kernel
theorem dX1_forget_7 : decode cX1_forget 7 = .ok (.putfield 43, 3) := by decide +kernel
theorem dX1_forget_10 : decode cX1_forget 10 = .ok (.aload_n 0, 1) := by decide +kernel
theorem dX1_forget_11 : decode cX1_forget 11 = .ok (.iconst 0, 1) := by decide +kernel
theorem dX1_forget_12 : decode cX1_forget 12 = .ok (.putfield 46, 3) := by decide +kernel
theorem dX1_forget_15 : decode cX1_forget 15 = .ok (.aload_n 0, 1) := by decide +kernel
theorem dX1_forget_16 : decode cX1_forget 16 = .ok (.iconst 0, 1) := by decide +kernel
theorem dX1_forget_17 : decode cX1_forget 17 = .ok (.putfield 49, 3) := by decide +kernel
theorem dX1_forget_20 : decode cX1_forget 20 = .ok (.aload_n 0, 1) := by decide +kernel
theorem dX1_forget_21 : decode cX1_forget 21 = .ok (.iconst 0, 1) := by decide +kernel
theorem dX1_forget_22 : decode cX1_forget 22 = .ok (.putfield 52, 3) := by decide +kernel
theorem dX1_forget_25 : decode cX1_forget 25 = .ok (.aload_n 0, 1) := by decide +kernel
theorem dX1_forget_26 : decode cX1_forget 26 = .ok (.aload_n 0, 1) := by decide +kernel
theorem dX1_forget_27 : decode cX1_forget 27 = .ok (.getfield 15, 3) := by decide +kernel
theorem dX1_forget_30 : decode cX1_forget 30 = .ok (.putfield 9, 3) := by decide +kernel
theorem dX1_forget_33 : decode cX1_forget 33 = .ok (.return_, 1) := by decide +kernel
noncomputable def F_X1_forget (a0 : Nat) (M : m_M) : Option (Unit × m_M) :=
  x_pI 1 M a0 0 (0 : Int32) fun M1 =>
  x_pI 1 M1 a0 1 (0 : Int32) fun M2 =>
  x_pI 1 M2 a0 2 (0 : Int32) fun M3 =>
  x_pI 1 M3 a0 3 (0 : Int32) fun M4 =>
  x_pI 1 M4 a0 4 (0 : Int32) fun M5 =>
  x_gN 1 M5 a0 6 fun v1 =>
  x_pR 1 M5 a0 5 (some v1) fun M6 =>
  some ((), M6)
set_option maxHeartbeats 4000000 in
theorem K_X1_forget (a0 : Nat) (M : m_M) (Φ : Option Value → m_M → Prop) (h : m_ok e_V Φ (F_X1_forget a0 M)) : j_Ct yX1_forget cX1_forget 1 none 1 0 0 [.ref a0] M Φ := by
  refine j_Ct.of (by decide +kernel) (Nat.le_of_ble_eq_true rfl) fun X C => ?_
  have C0 := C.1
  show j_J X 1 0 [some (.ref a0)] [] (0, 0) M
  unfold F_X1_forget at h
  refine j_aload_n C0 (pc := 0) dX1_forget_0 rfl ?_
  refine j_iconst C0 (pc := 1) dX1_forget_1 (v := (0 : Int32)) (by decide) ?_
  refine X_pI C0 (pc := 2) f_Book_39_1 rfl rfl dX1_forget_2 h (fun M1 h => ?_)
  refine j_aload_n C0 (pc := 5) dX1_forget_5 rfl ?_
  refine j_iconst C0 (pc := 6) dX1_forget_6 (v := (0 : Int32)) (by decide) ?_
  refine X_pI C0 (pc := 7) f_Book_43_1 rfl rfl dX1_forget_7 h (fun M2 h => ?_)
  refine j_aload_n C0 (pc := 10) dX1_forget_10 rfl ?_
  refine j_iconst C0 (pc := 11) dX1_forget_11 (v := (0 : Int32)) (by decide) ?_
  refine X_pI C0 (pc := 12) f_Book_46_1 rfl rfl dX1_forget_12 h (fun M3 h => ?_)
  refine j_aload_n C0 (pc := 15) dX1_forget_15 rfl ?_
  refine j_iconst C0 (pc := 16) dX1_forget_16 (v := (0 : Int32)) (by decide) ?_
  refine X_pI C0 (pc := 17) f_Book_49_1 rfl rfl dX1_forget_17 h (fun M4 h => ?_)
  refine j_aload_n C0 (pc := 20) dX1_forget_20 rfl ?_
  refine j_iconst C0 (pc := 21) dX1_forget_21 (v := (0 : Int32)) (by decide) ?_
  refine X_pI C0 (pc := 22) f_Book_52_1 rfl rfl dX1_forget_22 h (fun M5 h => ?_)
  refine j_aload_n C0 (pc := 25) dX1_forget_25 rfl ?_
  refine j_aload_n C0 (pc := 26) dX1_forget_26 rfl ?_
  refine X_gN C0 (pc := 27) f_Book_15_1 rfl dX1_forget_27 h (fun v1 h => ?_)
  refine X_pN C0 (pc := 30) f_Book_9_1 (Or.inr ⟨_, rfl⟩) rfl dX1_forget_30 h (fun M6 h => ?_)
  exact j_vret C rfl h dX1_forget_33 (by decide)
theorem dX11_land_0 : decode cX11_land 0 = .ok (.aload_n 0, 1) := by decide +kernel
theorem dX11_land_1 : decode cX11_land 1 = .ok (.getfield 28, 3) := by decide +kernel
theorem dX11_land_4 : decode cX11_land 4 = .ok (.aload_n 0, 1) := by decide +kernel
theorem dX11_land_5 : decode cX11_land 5 = .ok (.invokevirtual 98, 3) := by decide +kernel
theorem dX11_land_8 : decode cX11_land 8 = .ok (.invokevirtual 102, 3) := by decide +kernel
theorem dX11_land_11 : decode cX11_land 11 = .ok (.istore_n 1, 1) := by decide +kernel
theorem dX11_land_12 : decode cX11_land 12 = .ok (.iload_n 1, 1) := by decide +kernel
theorem dX11_land_13 : decode cX11_land 13 = .ok (.ifCond .eq 5, 3) := by decide +kernel
theorem dX11_land_16 : decode cX11_land 16 = .ok (.iload_n 1, 1) := by decide +kernel
theorem dX11_land_17 : decode cX11_land 17 = .ok (.ireturn, 1) := by decide +kernel
theorem dX11_land_18 : decode cX11_land 18 = .ok (.aload_n 0, 1) := by decide +kernel
theorem dX11_land_19 : decode cX11_land 19 = .ok (.getfield 16, 3) := by decide +kernel
theorem dX11_land_22 : decode cX11_land 22 = .ok (.aload_n 0, 1) := by decide +kernel
theorem dX11_land_23 : decode cX11_land 23 = .ok (.getfield 20, 3) := by decide +kernel
theorem dX11_land_26 : decode cX11_land 26 = .ok (.invokevirtual 106, 3) := by decide +kernel
theorem dX11_land_29 : decode cX11_land 29 = .ok (.aload_n 0, 1) := by decide +kernel
theorem dX11_land_30 : decode cX11_land 30 = .ok (.getfield 65, 3) := by decide +kernel
theorem dX11_land_33 : decode cX11_land 33 = .ok (.invokevirtual 109, 3) := by decide +kernel
theorem dX11_land_36 : decode cX11_land 36 = .ok (.iconst 0, 1) := by decide +kernel
theorem dX11_land_37 : decode cX11_land 37 = .ok (.istore_n 2, 1) := by decide +kernel
theorem dX11_land_38 : decode cX11_land 38 = .ok (.iload_n 2, 1) := by decide +kernel
theorem dX11_land_39 : decode cX11_land 39 = .ok (.iconst 4, 1) := by decide +kernel
theorem dX11_land_40 : decode cX11_land 40 = .ok (.if_icmp .ge 16, 3) := by decide +kernel
theorem dX11_land_43 : decode cX11_land 43 = .ok (.aload_n 0, 1) := by decide +kernel
theorem dX11_land_44 : decode cX11_land 44 = .ok (.getfield 73, 3) := by decide +kernel
theorem dX11_land_47 : decode cX11_land 47 = .ok (.iload_n 2, 1) := by decide +kernel
theorem dX11_land_48 : decode cX11_land 48 = .ok (.iconst 0, 1) := by decide +kernel
theorem dX11_land_49 : decode cX11_land 49 = .ok (.bastore, 1) := by decide +kernel
theorem dX11_land_50 : decode cX11_land 50 = .ok (.iinc 2 1, 3) := by decide +kernel
theorem dX11_land_53 : decode cX11_land 53 = .ok (.goto (-15), 3) := by decide +kernel
theorem dX11_land_56 : decode cX11_land 56 = .ok (.iconst 0, 1) := by decide +kernel
theorem dX11_land_57 : decode cX11_land 57 = .ok (.ireturn, 1) := by decide +kernel
noncomputable def F_X11_land_38 : Nat → Nat → Int32 → m_M → Option (Int32 × m_M)
  | 0, _, _, _ => none
  | n + 1, v1, v2, M =>
    if (4 : Int32) ≤ v2 then (
      some ((0 : Int32), M)
    ) else
    x_gN 9 M v1 11 fun v3 =>
    x_sI 14 M v3 v2 (vp_nar .boolean (0 : Int32)) fun M1 =>
    m_let (v2 + (1 : Int32)) fun v4 =>
    F_X11_land_38 n v1 v4 M1
noncomputable def F_X11_land (a0 : Nat) (M : m_M) : Option (Int32 × m_M) :=
  x_gN 9 M a0 4 fun v1 =>
  x_cV 9 M a0 (F_X11_takeTape a0 M) fun v2 M1 =>
  x_cV 4 M1 v1 (F_X4_read v1 v2 M1) fun v3 M2 =>
  if v3 = 0 then (
    x_gN 9 M2 a0 2 fun v4 =>
    x_gN 9 M2 a0 3 fun v5 =>
    x_cV 3 M2 v4 (F_X3_copyFrom v4 v5 M2) fun _ M3 =>
    x_gN 9 M3 a0 9 fun v6 =>
    x_cV 1 M3 v6 (F_X1_forget v6 M3) fun _ M4 =>
    F_X11_land_38 m_FU a0 (0 : Int32) M4
  ) else
  some (v3, M2)
set_option maxHeartbeats 4000000 in
theorem L_X11_land_38 {X : j_X} {Φ : Option Value → m_M → Prop} (C : j_C X yX11_land cX11_land 3 (some .int) 75 0 0 Φ) : ∀ (n : Nat) (v1 : Nat) (v2 : Int32) (M : m_M), m_ok e_I Φ (F_X11_land_38 n v1 v2 M) → j_J X 3 38 [some (.ref v1), none, some (.int v2)] [] (0, 0) M := by
  have C0 := C.1
  intro n
  induction n with
  | zero => intro v1 v2 M h; exact False.elim h
  | succ n ih =>
    intro v1 v2 M h
    rw [F_X11_land_38] at h
    refine j_iload_n C0 (pc := 38) dX11_land_38 rfl ?_
    refine j_iconst C0 (pc := 39) dX11_land_39 (v := (4 : Int32)) (by decide) ?_
    refine j_icmp_ge C0 (pc := 40) (tgt := 56) dX11_land_40 (by decide) (fun hc => ?_) (fun hc => ?_)
    · replace h := (X_if h).1 hc
      refine j_iconst C0 (pc := 56) dX11_land_56 (v := (0 : Int32)) (by decide) ?_
      exact j_iret C rfl h dX11_land_57 (by decide)
    · replace h := (X_if h).2 hc
      refine j_aload_n C0 (pc := 43) dX11_land_43 rfl ?_
      refine X_gN C0 (pc := 44) f_OV_73_9 rfl dX11_land_44 h (fun v3 h => ?_)
      refine j_iload_n C0 (pc := 47) dX11_land_47 rfl ?_
      refine j_iconst C0 (pc := 48) dX11_land_48 (v := (0 : Int32)) (by decide) ?_
      refine X_zast C0 (pc := 49) dX11_land_49 h (fun M1 h => ?_)
      refine j_iinc C0 (pc := 50) dX11_land_50 (v := v2 + (1 : Int32)) rfl (Nat.le_of_ble_eq_true rfl) (by rfl) ?_
      refine X_let (G := fun w => j_J X 3 53 [some (.ref v1), none, some (.int w)] [] (0, 0) M1) h (fun v4 h => ?_)
      refine j_goto C0 (pc := 53) (tgt := 38) dX11_land_53 (by decide) ?_
      exact j_J.wq (ih v1 v4 M1 h) (And.intro rfl (And.intro rfl (trivial)))
set_option maxHeartbeats 4000000 in
theorem K_X11_land (a0 : Nat) (M : m_M) (Φ : Option Value → m_M → Prop) (h : m_ok e_I Φ (F_X11_land a0 M)) : j_Ct yX11_land cX11_land 3 (some .int) 75 0 0 [.ref a0] M Φ := by
  refine j_Ct.of (by decide +kernel) (Nat.le_of_ble_eq_true rfl) fun X C => ?_
  have C0 := C.1
  show j_J X 3 0 [some (.ref a0), none, none] [] (0, 0) M
  unfold F_X11_land at h
  refine j_aload_n C0 (pc := 0) dX11_land_0 rfl ?_
  refine X_gN C0 (pc := 1) f_OV_28_9 rfl dX11_land_1 h (fun v1 h => ?_)
  refine j_aload_n C0 (pc := 4) dX11_land_4 rfl ?_
  refine X_cV C0 (pc := 5) (e' := e_I) (as := []) (rest := [.ref v1]) (s' := fun w => .int w :: [.ref v1]) (g' := (0, 0)) v_OV_98_9 (fun Ψ hΨ => K_X11_takeTape a0 M Ψ hΨ) rfl rfl (fun _ => rfl) (by decide) (by decide) rfl (Nat.le_of_ble_eq_true rfl) dX11_land_5 h (fun v2 M1 h => ?_)
  refine X_cV C0 (pc := 8) (e' := e_I) (as := [.int v2]) (rest := []) (s' := fun w => .int w :: []) (g' := (0, 0)) v_OV_102_4 (fun Ψ hΨ => K_X4_read v1 v2 M1 Ψ hΨ) rfl rfl (fun _ => rfl) (by decide) (by decide) rfl (Nat.le_of_ble_eq_true rfl) dX11_land_8 h (fun v3 M2 h => ?_)
  refine j_istore_n C0 (pc := 11) dX11_land_11 (Nat.le_of_ble_eq_true rfl) ?_
  show j_J X 3 12 [some (.ref a0), some (.int v3), none] [] (0, 0) M2
  refine j_iload_n C0 (pc := 12) dX11_land_12 rfl ?_
  refine j_if_eq C0 (pc := 13) (tgt := 18) dX11_land_13 (by decide) (fun hc => ?_) (fun hc => ?_)
  · replace h := (X_if h).1 hc
    refine j_aload_n C0 (pc := 18) dX11_land_18 rfl ?_
    refine X_gN C0 (pc := 19) f_OV_16_9 rfl dX11_land_19 h (fun v4 h => ?_)
    refine j_aload_n C0 (pc := 22) dX11_land_22 rfl ?_
    refine X_gN C0 (pc := 23) f_OV_20_9 rfl dX11_land_23 h (fun v5 h => ?_)
    refine X_cV C0 (pc := 26) (e' := e_V) (as := [.ref v5]) (rest := []) (s' := fun _ => []) (g' := (0, 0)) v_OV_106_3 (fun Ψ hΨ => K_X3_copyFrom v4 v5 M2 Ψ hΨ) rfl rfl (fun _ => rfl) (by decide) (by decide) rfl (Nat.le_of_ble_eq_true rfl) dX11_land_26 h (fun _ M3 h => ?_)
    refine j_aload_n C0 (pc := 29) dX11_land_29 rfl ?_
    refine X_gN C0 (pc := 30) f_OV_65_9 rfl dX11_land_30 h (fun v6 h => ?_)
    refine X_cV C0 (pc := 33) (e' := e_V) (as := []) (rest := []) (s' := fun _ => []) (g' := (0, 0)) v_OV_109_1 (fun Ψ hΨ => K_X1_forget v6 M3 Ψ hΨ) rfl rfl (fun _ => rfl) (by decide) (by decide) rfl (Nat.le_of_ble_eq_true rfl) dX11_land_33 h (fun _ M4 h => ?_)
    refine j_iconst C0 (pc := 36) dX11_land_36 (v := (0 : Int32)) (by decide) ?_
    refine j_istore_n C0 (pc := 37) dX11_land_37 (Nat.le_of_ble_eq_true rfl) ?_
    show j_J X 3 38 [some (.ref a0), some (.int v3), some (.int (0 : Int32))] [] (0, 0) M4
    exact j_J.wq (L_X11_land_38 C m_FU a0 (0 : Int32) M4 h) (And.intro rfl (And.intro rfl (trivial)))
  · replace h := (X_if h).2 hc
    refine j_iload_n C0 (pc := 16) dX11_land_16 rfl ?_
    exact j_iret C rfl h dX11_land_17 (by decide)
theorem dX10_has_0 : decode cX10_has 0 = .ok (.iload_n 1, 1) := by decide +kernel
theorem dX10_has_1 : decode cX10_has 1 = .ok (.ifCond .lt 35, 3) := by decide +kernel
theorem dX10_has_4 : decode cX10_has 4 = .ok (.iload_n 1, 1) := by decide +kernel
theorem dX10_has_5 : decode cX10_has 5 = .ok (.sipush 1024, 3) := by decide +kernel
theorem dX10_has_8 : decode cX10_has 8 = .ok (.if_icmp .ge 28, 3) := by decide +kernel
theorem dX10_has_11 : decode cX10_has 11 = .ok (.aload_n 0, 1) := by decide +kernel
theorem dX10_has_12 : decode cX10_has 12 = .ok (.getfield 9, 3) := by decide +kernel
theorem dX10_has_15 : decode cX10_has 15 = .ok (.iload_n 1, 1) := by decide +kernel
theorem dX10_has_16 : decode cX10_has 16 = .ok (.bipush 64, 2) := by decide +kernel
theorem dX10_has_18 : decode cX10_has 18 = .ok (.idiv, 1) := by decide +kernel
theorem dX10_has_19 : decode cX10_has 19 = .ok (.laload, 1) := by decide +kernel
theorem dX10_has_20 : decode cX10_has 20 = .ok (.iload_n 1, 1) := by decide +kernel
theorem dX10_has_21 : decode cX10_has 21 = .ok (.bipush 64, 2) := by decide +kernel
theorem dX10_has_23 : decode cX10_has 23 = .ok (.irem, 1) := by decide +kernel
theorem dX10_has_24 : decode cX10_has 24 = .ok (.lshr, 1) := by decide +kernel
theorem dX10_has_25 : decode cX10_has 25 = .ok (.lconst 1, 1) := by decide +kernel
theorem dX10_has_26 : decode cX10_has 26 = .ok (.land, 1) := by decide +kernel
theorem dX10_has_27 : decode cX10_has 27 = .ok (.lconst 0, 1) := by decide +kernel
theorem dX10_has_28 : decode cX10_has 28 = .ok (.lcmp, 1) := by decide +kernel
theorem dX10_has_29 : decode cX10_has 29 = .ok (.ifCond .eq 7, 3) := by decide +kernel
theorem dX10_has_32 : decode cX10_has 32 = .ok (.iconst 1, 1) := by decide +kernel
theorem dX10_has_33 : decode cX10_has 33 = .ok (.goto 4, 3) := by decide +kernel
theorem dX10_has_36 : decode cX10_has 36 = .ok (.iconst 0, 1) := by decide +kernel
theorem dX10_has_37 : decode cX10_has 37 = .ok (.ireturn, 1) := by decide +kernel
noncomputable def F_X10_has (a0 : Nat) (a1 : Int32) (M : m_M) : Option (Int32 × m_M) :=
  m_let (fun  (M1 : m_M) =>
    some ((0 : Int32), M1)
  ) fun (k36 : m_M → Option (Int32 × m_M)) =>
  if a1 < 0 then (
    k36 M
  ) else
  if (1024 : Int32) ≤ a1 then (
    k36 M
  ) else
  x_gN 8 M a0 0 fun v1 =>
  x_nz (64 : Int32) <|
  x_aL M v1 (a1 / (64 : Int32)) fun v2 =>
  x_nz (64 : Int32) <|
  if (lg_cmp ((v2 >>> ((a1 - a1 / (64 : Int32) * (64 : Int32)).toInt64 &&& 63)) &&& (1 : Int64)) (0 : Int64)) = 0 then (
    k36 M
  ) else
  some ((1 : Int32), M)
set_option maxHeartbeats 4000000 in
theorem K_X10_has (a0 : Nat) (a1 : Int32) (M : m_M) (Φ : Option Value → m_M → Prop) (h : m_ok e_I Φ (F_X10_has a0 a1 M)) : j_Ct yX10_has cX10_has 2 (some .boolean) 1 0 0 [.ref a0, .int a1] M Φ := by
  refine j_Ct.of (by decide +kernel) (Nat.le_of_ble_eq_true rfl) fun X C => ?_
  have C0 := C.1
  show j_J X 2 0 [some (.ref a0), some (.int a1)] [] (0, 0) M
  unfold F_X10_has at h
  refine X_join (fun (kj : m_M → Option (Int32 × m_M)) => ∀  (M : m_M), m_ok e_I Φ (kj M) → j_J X 2 36 [none, none] [] (0, 0) M) h (fun M1 h => ?_) (fun k36 hk36 h => ?_)
  · refine j_iconst C0 (pc := 36) dX10_has_36 (v := (0 : Int32)) (by decide) ?_
    exact j_zret C rfl (by decide) h dX10_has_37 (by decide)
  · refine j_iload_n C0 (pc := 0) dX10_has_0 rfl ?_
    refine j_if_lt C0 (pc := 1) (tgt := 36) dX10_has_1 (by decide) (fun hc => ?_) (fun hc => ?_)
    · replace h := (X_if h).1 hc
      exact j_J.wq (hk36 M h) (trivial)
    · replace h := (X_if h).2 hc
      refine j_iload_n C0 (pc := 4) dX10_has_4 rfl ?_
      refine j_sipush C0 (pc := 5) dX10_has_5 (v := (1024 : Int32)) (by decide) ?_
      refine j_icmp_ge C0 (pc := 8) (tgt := 36) dX10_has_8 (by decide) (fun hc => ?_) (fun hc => ?_)
      · replace h := (X_if h).1 hc
        exact j_J.wq (hk36 M h) (trivial)
      · replace h := (X_if h).2 hc
        refine j_aload_n C0 (pc := 11) dX10_has_11 rfl ?_
        refine X_gN C0 (pc := 12) f_WS_9_8 rfl dX10_has_12 h (fun v1 h => ?_)
        refine j_iload_n C0 (pc := 15) dX10_has_15 rfl ?_
        refine j_bipush C0 (pc := 16) dX10_has_16 (v := (64 : Int32)) (by decide) ?_
        refine X_idiv C0 (pc := 18) dX10_has_18 h (fun h => ?_)
        refine X_lald C0 (pc := 19) dX10_has_19 h (fun v2 h => ?_)
        refine j_iload_n C0 (pc := 20) dX10_has_20 rfl ?_
        refine j_bipush C0 (pc := 21) dX10_has_21 (v := (64 : Int32)) (by decide) ?_
        refine X_irem C0 (pc := 23) dX10_has_23 h (fun h => ?_)
        refine j_lshr C0 (pc := 24) dX10_has_24 (v := v2 >>> ((a1 - a1 / (64 : Int32) * (64 : Int32)).toInt64 &&& 63)) rfl ?_
        refine j_lconst C0 (pc := 25) dX10_has_25 (v := (1 : Int64)) (by decide) ?_
        refine j_land C0 (pc := 26) dX10_has_26 ?_
        refine j_lconst C0 (pc := 27) dX10_has_27 (v := (0 : Int64)) (by decide) ?_
        refine j_lcmp C0 (pc := 28) dX10_has_28 ?_
        refine j_if_eq C0 (pc := 29) (tgt := 36) dX10_has_29 (by decide) (fun hc => ?_) (fun hc => ?_)
        · replace h := (X_if h).1 hc
          exact j_J.wq (hk36 M h) (trivial)
        · replace h := (X_if h).2 hc
          refine j_iconst C0 (pc := 32) dX10_has_32 (v := (1 : Int32)) (by decide) ?_
          refine j_goto C0 (pc := 33) (tgt := 37) dX10_has_33 (by decide) ?_
          exact j_zret C rfl (by decide) h dX10_has_37 (by decide)
theorem dX11_left_0 : decode cX11_left 0 = .ok (.aload_n 0, 1) := by decide +kernel
theorem dX11_left_1 : decode cX11_left 1 = .ok (.getfield 16, 3) := by decide +kernel
theorem dX11_left_4 : decode cX11_left 4 = .ok (.iload_n 1, 1) := by decide +kernel
theorem dX11_left_5 : decode cX11_left 5 = .ok (.invokevirtual 192, 3) := by decide +kernel
theorem dX11_left_8 : decode cX11_left 8 = .ok (.ifCond .ne 5, 3) := by decide +kernel
theorem dX11_left_11 : decode cX11_left 11 = .ok (.iconst (-1), 1) := by decide +kernel
theorem dX11_left_12 : decode cX11_left 12 = .ok (.ireturn, 1) := by decide +kernel
theorem dX11_left_13 : decode cX11_left 13 = .ok (.aload_n 0, 1) := by decide +kernel
theorem dX11_left_14 : decode cX11_left 14 = .ok (.invokevirtual 189, 3) := by decide +kernel
theorem dX11_left_17 : decode cX11_left 17 = .ok (.aload_n 0, 1) := by decide +kernel
theorem dX11_left_18 : decode cX11_left 18 = .ok (.getfield 80, 3) := by decide +kernel
theorem dX11_left_21 : decode cX11_left 21 = .ok (.iload_n 1, 1) := by decide +kernel
theorem dX11_left_22 : decode cX11_left 22 = .ok (.invokevirtual 195, 3) := by decide +kernel
theorem dX11_left_25 : decode cX11_left 25 = .ok (.ifCond .eq 7, 3) := by decide +kernel
theorem dX11_left_28 : decode cX11_left 28 = .ok (.iconst 1, 1) := by decide +kernel
theorem dX11_left_29 : decode cX11_left 29 = .ok (.goto 4, 3) := by decide +kernel
theorem dX11_left_32 : decode cX11_left 32 = .ok (.iconst 0, 1) := by decide +kernel
theorem dX11_left_33 : decode cX11_left 33 = .ok (.ireturn, 1) := by decide +kernel
noncomputable def F_X11_left (a0 : Nat) (a1 : Int32) (M : m_M) : Option (Int32 × m_M) :=
  x_gN 9 M a0 2 fun v1 =>
  x_cV 3 M v1 (F_X3_isWorld v1 a1 M) fun v2 M1 =>
  if v2 = 0 then (
    some ((-1 : Int32), M1)
  ) else
  x_cV 9 M1 a0 (F_X11_findLeft a0 M1) fun _ M2 =>
  x_gN 9 M2 a0 12 fun v3 =>
  x_cV 8 M2 v3 (F_X10_has v3 a1 M2) fun v4 M3 =>
  if v4 = 0 then (
    some ((0 : Int32), M3)
  ) else
  some ((1 : Int32), M3)
set_option maxHeartbeats 4000000 in
theorem K_X11_left (a0 : Nat) (a1 : Int32) (M : m_M) (Φ : Option Value → m_M → Prop) (h : m_ok e_I Φ (F_X11_left a0 a1 M)) : j_Ct yX11_left cX11_left 2 (some .int) 5 0 0 [.ref a0, .int a1] M Φ := by
  refine j_Ct.of (by decide +kernel) (Nat.le_of_ble_eq_true rfl) fun X C => ?_
  have C0 := C.1
  show j_J X 2 0 [some (.ref a0), some (.int a1)] [] (0, 0) M
  unfold F_X11_left at h
  refine j_aload_n C0 (pc := 0) dX11_left_0 rfl ?_
  refine X_gN C0 (pc := 1) f_OV_16_9 rfl dX11_left_1 h (fun v1 h => ?_)
  refine j_iload_n C0 (pc := 4) dX11_left_4 rfl ?_
  refine X_cV C0 (pc := 5) (e' := e_I) (as := [.int a1]) (rest := []) (s' := fun w => .int w :: []) (g' := (0, 0)) v_OV_192_3 (fun Ψ hΨ => K_X3_isWorld v1 a1 M Ψ hΨ) rfl rfl (fun _ => rfl) (by decide) (by decide) rfl (Nat.le_of_ble_eq_true rfl) dX11_left_5 h (fun v2 M1 h => ?_)
  refine j_if_ne C0 (pc := 8) (tgt := 13) dX11_left_8 (by decide) (fun hc => ?_) (fun hc => ?_)
  · replace h := (X_if h).2 hc
    refine j_aload_n C0 (pc := 13) dX11_left_13 rfl ?_
    refine X_cV C0 (pc := 14) (e' := e_V) (as := []) (rest := []) (s' := fun _ => []) (g' := (0, 0)) v_OV_189_9 (fun Ψ hΨ => K_X11_findLeft a0 M1 Ψ hΨ) rfl rfl (fun _ => rfl) (by decide) (by decide) rfl (Nat.le_of_ble_eq_true rfl) dX11_left_14 h (fun _ M2 h => ?_)
    refine j_aload_n C0 (pc := 17) dX11_left_17 rfl ?_
    refine X_gN C0 (pc := 18) f_OV_80_9 rfl dX11_left_18 h (fun v3 h => ?_)
    refine j_iload_n C0 (pc := 21) dX11_left_21 rfl ?_
    refine X_cV C0 (pc := 22) (e' := e_I) (as := [.int a1]) (rest := []) (s' := fun w => .int w :: []) (g' := (0, 0)) v_OV_195_8 (fun Ψ hΨ => K_X10_has v3 a1 M2 Ψ hΨ) rfl rfl (fun _ => rfl) (by decide) (by decide) rfl (Nat.le_of_ble_eq_true rfl) dX11_left_22 h (fun v4 M3 h => ?_)
    refine j_if_eq C0 (pc := 25) (tgt := 32) dX11_left_25 (by decide) (fun hc => ?_) (fun hc => ?_)
    · replace h := (X_if h).1 hc
      refine j_iconst C0 (pc := 32) dX11_left_32 (v := (0 : Int32)) (by decide) ?_
      exact j_iret C rfl h dX11_left_33 (by decide)
    · replace h := (X_if h).2 hc
      refine j_iconst C0 (pc := 28) dX11_left_28 (v := (1 : Int32)) (by decide) ?_
      refine j_goto C0 (pc := 29) (tgt := 33) dX11_left_29 (by decide) ?_
      exact j_iret C rfl h dX11_left_33 (by decide)
  · replace h := (X_if h).1 hc
    refine j_iconst C0 (pc := 11) dX11_left_11 (v := (-1 : Int32)) (by decide) ?_
    exact j_iret C rfl h dX11_left_12 (by decide)
theorem dX1_copyFrom_0 : decode cX1_copyFrom 0 = .ok (.aload_n 0, 1) := by decide +kernel
theorem dX1_copyFrom_1 : decode cX1_copyFrom 1 = .ok (.aload_n 1, 1) := by decide +kernel
theorem dX1_copyFrom_2 : decode cX1_copyFrom 2 = .ok (.getfield 39, 3) := by decide +kernel
theorem dX1_copyFrom_5 : decode cX1_copyFrom 5 = .ok (.putfield 39, 3) := by decide +kernel
theorem dX1_copyFrom_8 : decode cX1_copyFrom 8 = .ok (.aload_n 0, 1) := by decide +kernel
theorem dX1_copyFrom_9 : decode cX1_copyFrom 9 = .ok (.aload_n 1, 1) := by decide +kernel
theorem dX1_copyFrom_10 : decode cX1_copyFrom 10 = .ok (.getfield 43, 3) := by decide +kernel
theorem dX1_copyFrom_13 : decode cX1_copyFrom 13 = .ok (.putfield 43, 3) := by decide +kernel
theorem dX1_copyFrom_16 : decode cX1_copyFrom 16 = .ok (.aload_n 0, 1) := by decide +kernel
theorem dX1_copyFrom_17 : decode cX1_copyFrom 17 = .ok (.aload_n 1, 1) := by decide +kernel
theorem dX1_copyFrom_18 : decode cX1_copyFrom 18 = .ok (.getfield 46, 3) := by decide +kernel
theorem dX1_copyFrom_21 : decode cX1_copyFrom 21 = .ok (.putfield 46, 3) := by decide +kernel
theorem dX1_copyFrom_24 : decode cX1_copyFrom 24 = .ok (.aload_n 0, 1) := by decide +kernel
theorem dX1_copyFrom_25 : decode cX1_copyFrom 25 = .ok (.aload_n 1, 1) := by decide +kernel
theorem dX1_copyFrom_26 : decode cX1_copyFrom 26 = .ok (.getfield 49, 3) := by decide +kernel
theorem dX1_copyFrom_29 : decode cX1_copyFrom 29 = .ok (.putfield 49, 3) := by decide +kernel
theorem dX1_copyFrom_32 : decode cX1_copyFrom 32 = .ok (.aload_n 0, 1) := by decide +kernel
theorem dX1_copyFrom_33 : decode cX1_copyFrom 33 = .ok (.iconst 0, 1) := by decide +kernel
theorem dX1_copyFrom_34 : decode cX1_copyFrom 34 = .ok (.putfield 52, 3) := by decide +kernel
theorem dX1_copyFrom_37 : decode cX1_copyFrom 37 = .ok (.aload_n 0, 1) := by decide +kernel
theorem dX1_copyFrom_38 : decode cX1_copyFrom 38 = .ok (.aload_n 1, 1) := by decide +kernel
theorem dX1_copyFrom_39 : decode cX1_copyFrom 39 = .ok (.getfield 9, 3) := by decide +kernel
theorem dX1_copyFrom_42 : decode cX1_copyFrom 42 = .ok (.putfield 9, 3) := by decide +kernel
theorem dX1_copyFrom_45 : decode cX1_copyFrom 45 = .ok (.iconst 0, 1) := by decide +kernel
theorem dX1_copyFrom_46 : decode cX1_copyFrom 46 = .ok (.istore_n 2, 1) := by decide +kernel
theorem dX1_copyFrom_47 : decode cX1_copyFrom 47 = .ok (.iload_n 2, 1) := by decide +kernel
theorem dX1_copyFrom_48 : decode cX1_copyFrom 48 = .ok (.bipush 12, 2) := by decide +kernel
theorem dX1_copyFrom_50 : decode cX1_copyFrom 50 = .ok (.if_icmp .ge 21, 3) := by decide +kernel
theorem dX1_copyFrom_53 : decode cX1_copyFrom 53 = .ok (.aload_n 0, 1) := by decide +kernel
theorem dX1_copyFrom_54 : decode cX1_copyFrom 54 = .ok (.getfield 20, 3) := by decide +kernel
theorem dX1_copyFrom_57 : decode cX1_copyFrom 57 = .ok (.iload_n 2, 1) := by decide +kernel
theorem dX1_copyFrom_58 : decode cX1_copyFrom 58 = .ok (.aload_n 1, 1) := by decide +kernel
theorem dX1_copyFrom_59 : decode cX1_copyFrom 59 = .ok (.getfield 20, 3) := by decide +kernel
theorem dX1_copyFrom_62 : decode cX1_copyFrom 62 = .ok (.iload_n 2, 1) := by decide +kernel
theorem dX1_copyFrom_63 : decode cX1_copyFrom 63 = .ok (.aaload, 1) := by decide +kernel
theorem dX1_copyFrom_64 : decode cX1_copyFrom 64 = .ok (.aastore, 1) := by decide +kernel
theorem dX1_copyFrom_65 : decode cX1_copyFrom 65 = .ok (.iinc 2 1, 3) := by decide +kernel
theorem dX1_copyFrom_68 : decode cX1_copyFrom 68 = .ok (.goto (-21), 3) := by decide +kernel
theorem dX1_copyFrom_71 : decode cX1_copyFrom 71 = .ok (.iconst 0, 1) := by decide +kernel
theorem dX1_copyFrom_72 : decode cX1_copyFrom 72 = .ok (.istore_n 2, 1) := by decide +kernel
theorem dX1_copyFrom_73 : decode cX1_copyFrom 73 = .ok (.iload_n 2, 1) := by decide +kernel
theorem dX1_copyFrom_74 : decode cX1_copyFrom 74 = .ok (.iconst 4, 1) := by decide +kernel
theorem dX1_copyFrom_75 : decode cX1_copyFrom 75 = .ok (.if_icmp .ge 21, 3) := by decide +kernel
theorem dX1_copyFrom_78 : decode cX1_copyFrom 78 = .ok (.aload_n 0, 1) := by decide +kernel
theorem dX1_copyFrom_79 : decode cX1_copyFrom 79 = .ok (.getfield 24, 3) := by decide +kernel
theorem dX1_copyFrom_82 : decode cX1_copyFrom 82 = .ok (.iload_n 2, 1) := by decide +kernel
theorem dX1_copyFrom_83 : decode cX1_copyFrom 83 = .ok (.aload_n 1, 1) := by decide +kernel
theorem dX1_copyFrom_84 : decode cX1_copyFrom 84 = .ok (.getfield 24, 3) := by decide +kernel
theorem dX1_copyFrom_87 : decode cX1_copyFrom 87 = .ok (.iload_n 2, 1) := by decide +kernel
theorem dX1_copyFrom_88 : decode cX1_copyFrom 88 = .ok (.aaload, 1) := by decide +kernel
theorem dX1_copyFrom_89 : decode cX1_copyFrom 89 = .ok (.aastore, 1) := by decide +kernel
theorem dX1_copyFrom_90 : decode cX1_copyFrom 90 = .ok (.iinc 2 1, 3) := by decide +kernel
theorem dX1_copyFrom_93 : decode cX1_copyFrom 93 = .ok (.goto (-20), 3) := by decide +kernel
theorem dX1_copyFrom_96 : decode cX1_copyFrom 96 = .ok (.aload_n 1, 1) := by decide +kernel
theorem dX1_copyFrom_97 : decode cX1_copyFrom 97 = .ok (.getfield 27, 3) := by decide +kernel
theorem dX1_copyFrom_100 : decode cX1_copyFrom 100 = .ok (.iconst 0, 1) := by decide +kernel
theorem dX1_copyFrom_101 : decode cX1_copyFrom 101 = .ok (.aload_n 0, 1) := by decide +kernel
theorem dX1_copyFrom_102 : decode cX1_copyFrom 102 = .ok (.getfield 27, 3) := by decide +kernel
theorem dX1_copyFrom_105 : decode cX1_copyFrom 105 = .ok (.iconst 0, 1) := by decide +kernel
theorem dX1_copyFrom_106 : decode cX1_copyFrom 106 = .ok (.bipush 20, 2) := by decide +kernel
theorem dX1_copyFrom_108 : decode cX1_copyFrom 108 = .ok (.invokestatic 55, 3) := by decide +kernel
theorem dX1_copyFrom_111 : decode cX1_copyFrom 111 = .ok (.return_, 1) := by decide +kernel
noncomputable def F_X1_copyFrom_73 (k96 : Nat → Nat → m_M → Option (Unit × m_M)) : Nat → Nat → Nat → Int32 → m_M → Option (Unit × m_M)
  | 0, _, _, _, _ => none
  | n + 1, v1, v2, v3, M =>
    if (4 : Int32) ≤ v3 then (
      k96 v1 v2 M
    ) else
    x_gN 1 M v1 8 fun v4 =>
    x_gN 1 M v2 8 fun v5 =>
    x_aO 16 M v5 v3 fun v6 =>
    x_sR 16 6 M v4 v3 v6 fun M1 =>
    m_let (v3 + (1 : Int32)) fun v7 =>
    F_X1_copyFrom_73 k96 n v1 v2 v7 M1
noncomputable def F_X1_copyFrom_47 (k71 : Nat → Nat → m_M → Option (Unit × m_M)) : Nat → Nat → Nat → Int32 → m_M → Option (Unit × m_M)
  | 0, _, _, _, _ => none
  | n + 1, v1, v2, v3, M =>
    if (12 : Int32) ≤ v3 then (
      k71 v1 v2 M
    ) else
    x_gN 1 M v1 7 fun v4 =>
    x_gN 1 M v2 7 fun v5 =>
    x_aO 16 M v5 v3 fun v6 =>
    x_sR 16 6 M v4 v3 v6 fun M1 =>
    m_let (v3 + (1 : Int32)) fun v7 =>
    F_X1_copyFrom_47 k71 n v1 v2 v7 M1
noncomputable def F_X1_copyFrom (a0 : Nat) (a1 : Nat) (M : m_M) : Option (Unit × m_M) :=
  x_gI 1 M a1 0 fun v1 =>
  x_pI 1 M a0 0 v1 fun M1 =>
  x_gI 1 M1 a1 1 fun v2 =>
  x_pI 1 M1 a0 1 v2 fun M2 =>
  x_gI 1 M2 a1 2 fun v3 =>
  x_pI 1 M2 a0 2 v3 fun M3 =>
  x_gI 1 M3 a1 3 fun v4 =>
  x_pI 1 M3 a0 3 v4 fun M4 =>
  x_pI 1 M4 a0 4 (0 : Int32) fun M5 =>
  x_gN 1 M5 a1 5 fun v5 =>
  x_pR 1 M5 a0 5 (some v5) fun M6 =>
  m_let (fun (v6 : Nat) (v7 : Nat) (M7 : m_M) =>
    m_let (fun (v8 : Nat) (v9 : Nat) (M8 : m_M) =>
      x_gN 1 M8 v9 9 fun v10 =>
      x_gN 1 M8 v8 9 fun v11 =>
      x_cpI M8 v10 (0 : Int32) v11 (0 : Int32) (20 : Int32) fun M9 =>
      some ((), M9)
    ) fun (k96 : Nat → Nat → m_M → Option (Unit × m_M)) =>
    F_X1_copyFrom_73 k96 m_FU v6 v7 (0 : Int32) M7
  ) fun (k71 : Nat → Nat → m_M → Option (Unit × m_M)) =>
  F_X1_copyFrom_47 k71 m_FU a0 a1 (0 : Int32) M6
set_option maxHeartbeats 4000000 in
theorem L_X1_copyFrom_73 {X : j_X} {Φ : Option Value → m_M → Prop} (C : j_C X yX1_copyFrom cX1_copyFrom 3 none 1 0 0 Φ) {k96 : Nat → Nat → m_M → Option (Unit × m_M)} (hk96 : ∀ (p0 : Nat) (p1 : Nat) (M : m_M), m_ok e_V Φ (k96 p0 p1 M) → j_J X 3 96 [some (.ref p0), some (.ref p1), none] [] (0, 0) M) : ∀ (n : Nat) (v1 : Nat) (v2 : Nat) (v3 : Int32) (M : m_M), m_ok e_V Φ (F_X1_copyFrom_73 k96 n v1 v2 v3 M) → j_J X 3 73 [some (.ref v1), some (.ref v2), some (.int v3)] [] (0, 0) M := by
  have C0 := C.1
  intro n
  induction n with
  | zero => intro v1 v2 v3 M h; exact False.elim h
  | succ n ih =>
    intro v1 v2 v3 M h
    rw [F_X1_copyFrom_73] at h
    refine j_iload_n C0 (pc := 73) dX1_copyFrom_73 rfl ?_
    refine j_iconst C0 (pc := 74) dX1_copyFrom_74 (v := (4 : Int32)) (by decide) ?_
    refine j_icmp_ge C0 (pc := 75) (tgt := 96) dX1_copyFrom_75 (by decide) (fun hc => ?_) (fun hc => ?_)
    · replace h := (X_if h).1 hc
      exact j_J.wq (hk96 v1 v2 M h) (And.intro rfl (And.intro rfl (trivial)))
    · replace h := (X_if h).2 hc
      refine j_aload_n C0 (pc := 78) dX1_copyFrom_78 rfl ?_
      refine X_gN C0 (pc := 79) f_Book_24_1 rfl dX1_copyFrom_79 h (fun v4 h => ?_)
      refine j_iload_n C0 (pc := 82) dX1_copyFrom_82 rfl ?_
      refine j_aload_n C0 (pc := 83) dX1_copyFrom_83 rfl ?_
      refine X_gN C0 (pc := 84) f_Book_24_1 rfl dX1_copyFrom_84 h (fun v5 h => ?_)
      refine j_iload_n C0 (pc := 87) dX1_copyFrom_87 rfl ?_
      refine X_aaldO C0 (pc := 88) (by decide) dX1_copyFrom_88 h (fun v6 h => ?_)
      refine X_aastO C0 (pc := 89) (by decide) dX1_copyFrom_89 h (fun M1 h => ?_)
      refine j_iinc C0 (pc := 90) dX1_copyFrom_90 (v := v3 + (1 : Int32)) rfl (Nat.le_of_ble_eq_true rfl) (by rfl) ?_
      refine X_let (G := fun w => j_J X 3 93 [some (.ref v1), some (.ref v2), some (.int w)] [] (0, 0) M1) h (fun v7 h => ?_)
      refine j_goto C0 (pc := 93) (tgt := 73) dX1_copyFrom_93 (by decide) ?_
      exact j_J.wq (ih v1 v2 v7 M1 h) (And.intro rfl (And.intro rfl (And.intro rfl (trivial))))
set_option maxHeartbeats 4000000 in
theorem L_X1_copyFrom_47 {X : j_X} {Φ : Option Value → m_M → Prop} (C : j_C X yX1_copyFrom cX1_copyFrom 3 none 1 0 0 Φ) {k71 : Nat → Nat → m_M → Option (Unit × m_M)} (hk71 : ∀ (p0 : Nat) (p1 : Nat) (M : m_M), m_ok e_V Φ (k71 p0 p1 M) → j_J X 3 71 [some (.ref p0), some (.ref p1), none] [] (0, 0) M) : ∀ (n : Nat) (v1 : Nat) (v2 : Nat) (v3 : Int32) (M : m_M), m_ok e_V Φ (F_X1_copyFrom_47 k71 n v1 v2 v3 M) → j_J X 3 47 [some (.ref v1), some (.ref v2), some (.int v3)] [] (0, 0) M := by
  have C0 := C.1
  intro n
  induction n with
  | zero => intro v1 v2 v3 M h; exact False.elim h
  | succ n ih =>
    intro v1 v2 v3 M h
    rw [F_X1_copyFrom_47] at h
    refine j_iload_n C0 (pc := 47) dX1_copyFrom_47 rfl ?_
    refine j_bipush C0 (pc := 48) dX1_copyFrom_48 (v := (12 : Int32)) (by decide) ?_
    refine j_icmp_ge C0 (pc := 50) (tgt := 71) dX1_copyFrom_50 (by decide) (fun hc => ?_) (fun hc => ?_)
    · replace h := (X_if h).1 hc
      exact j_J.wq (hk71 v1 v2 M h) (And.intro rfl (And.intro rfl (trivial)))
    · replace h := (X_if h).2 hc
      refine j_aload_n C0 (pc := 53) dX1_copyFrom_53 rfl ?_
      refine X_gN C0 (pc := 54) f_Book_20_1 rfl dX1_copyFrom_54 h (fun v4 h => ?_)
      refine j_iload_n C0 (pc := 57) dX1_copyFrom_57 rfl ?_
      refine j_aload_n C0 (pc := 58) dX1_copyFrom_58 rfl ?_
      refine X_gN C0 (pc := 59) f_Book_20_1 rfl dX1_copyFrom_59 h (fun v5 h => ?_)
      refine j_iload_n C0 (pc := 62) dX1_copyFrom_62 rfl ?_
      refine X_aaldO C0 (pc := 63) (by decide) dX1_copyFrom_63 h (fun v6 h => ?_)
      refine X_aastO C0 (pc := 64) (by decide) dX1_copyFrom_64 h (fun M1 h => ?_)
      refine j_iinc C0 (pc := 65) dX1_copyFrom_65 (v := v3 + (1 : Int32)) rfl (Nat.le_of_ble_eq_true rfl) (by rfl) ?_
      refine X_let (G := fun w => j_J X 3 68 [some (.ref v1), some (.ref v2), some (.int w)] [] (0, 0) M1) h (fun v7 h => ?_)
      refine j_goto C0 (pc := 68) (tgt := 47) dX1_copyFrom_68 (by decide) ?_
      exact j_J.wq (ih v1 v2 v7 M1 h) (And.intro rfl (And.intro rfl (And.intro rfl (trivial))))
set_option maxHeartbeats 4000000 in
theorem K_X1_copyFrom (a0 : Nat) (a1 : Nat) (M : m_M) (Φ : Option Value → m_M → Prop) (h : m_ok e_V Φ (F_X1_copyFrom a0 a1 M)) : j_Ct yX1_copyFrom cX1_copyFrom 3 none 1 0 0 [.ref a0, .ref a1] M Φ := by
  refine j_Ct.of (by decide +kernel) (Nat.le_of_ble_eq_true rfl) fun X C => ?_
  have C0 := C.1
  show j_J X 3 0 [some (.ref a0), some (.ref a1), none] [] (0, 0) M
  unfold F_X1_copyFrom at h
  refine j_aload_n C0 (pc := 0) dX1_copyFrom_0 rfl ?_
  refine j_aload_n C0 (pc := 1) dX1_copyFrom_1 rfl ?_
  refine X_gI C0 (pc := 2) f_Book_39_1 rfl dX1_copyFrom_2 h (fun v1 h => ?_)
  refine X_pI C0 (pc := 5) f_Book_39_1 rfl rfl dX1_copyFrom_5 h (fun M1 h => ?_)
  refine j_aload_n C0 (pc := 8) dX1_copyFrom_8 rfl ?_
  refine j_aload_n C0 (pc := 9) dX1_copyFrom_9 rfl ?_
  refine X_gI C0 (pc := 10) f_Book_43_1 rfl dX1_copyFrom_10 h (fun v2 h => ?_)
  refine X_pI C0 (pc := 13) f_Book_43_1 rfl rfl dX1_copyFrom_13 h (fun M2 h => ?_)
  refine j_aload_n C0 (pc := 16) dX1_copyFrom_16 rfl ?_
  refine j_aload_n C0 (pc := 17) dX1_copyFrom_17 rfl ?_
  refine X_gI C0 (pc := 18) f_Book_46_1 rfl dX1_copyFrom_18 h (fun v3 h => ?_)
  refine X_pI C0 (pc := 21) f_Book_46_1 rfl rfl dX1_copyFrom_21 h (fun M3 h => ?_)
  refine j_aload_n C0 (pc := 24) dX1_copyFrom_24 rfl ?_
  refine j_aload_n C0 (pc := 25) dX1_copyFrom_25 rfl ?_
  refine X_gI C0 (pc := 26) f_Book_49_1 rfl dX1_copyFrom_26 h (fun v4 h => ?_)
  refine X_pI C0 (pc := 29) f_Book_49_1 rfl rfl dX1_copyFrom_29 h (fun M4 h => ?_)
  refine j_aload_n C0 (pc := 32) dX1_copyFrom_32 rfl ?_
  refine j_iconst C0 (pc := 33) dX1_copyFrom_33 (v := (0 : Int32)) (by decide) ?_
  refine X_pI C0 (pc := 34) f_Book_52_1 rfl rfl dX1_copyFrom_34 h (fun M5 h => ?_)
  refine j_aload_n C0 (pc := 37) dX1_copyFrom_37 rfl ?_
  refine j_aload_n C0 (pc := 38) dX1_copyFrom_38 rfl ?_
  refine X_gN C0 (pc := 39) f_Book_9_1 rfl dX1_copyFrom_39 h (fun v5 h => ?_)
  refine X_pN C0 (pc := 42) f_Book_9_1 (Or.inr ⟨_, rfl⟩) rfl dX1_copyFrom_42 h (fun M6 h => ?_)
  refine j_iconst C0 (pc := 45) dX1_copyFrom_45 (v := (0 : Int32)) (by decide) ?_
  refine j_istore_n C0 (pc := 46) dX1_copyFrom_46 (Nat.le_of_ble_eq_true rfl) ?_
  show j_J X 3 47 [some (.ref a0), some (.ref a1), some (.int (0 : Int32))] [] (0, 0) M6
  refine X_join (fun (kj : Nat → Nat → m_M → Option (Unit × m_M)) => ∀ (p0 : Nat) (p1 : Nat) (M : m_M), m_ok e_V Φ (kj p0 p1 M) → j_J X 3 71 [some (.ref p0), some (.ref p1), none] [] (0, 0) M) h (fun v6 v7 M7 h => ?_) (fun k71 hk71 h => ?_)
  · refine j_iconst C0 (pc := 71) dX1_copyFrom_71 (v := (0 : Int32)) (by decide) ?_
    refine j_istore_n C0 (pc := 72) dX1_copyFrom_72 (Nat.le_of_ble_eq_true rfl) ?_
    show j_J X 3 73 [some (.ref v6), some (.ref v7), some (.int (0 : Int32))] [] (0, 0) M7
    refine X_join (fun (kj : Nat → Nat → m_M → Option (Unit × m_M)) => ∀ (p0 : Nat) (p1 : Nat) (M : m_M), m_ok e_V Φ (kj p0 p1 M) → j_J X 3 96 [some (.ref p0), some (.ref p1), none] [] (0, 0) M) h (fun v8 v9 M8 h => ?_) (fun k96 hk96 h => ?_)
    · refine j_aload_n C0 (pc := 96) dX1_copyFrom_96 rfl ?_
      refine X_gN C0 (pc := 97) f_Book_27_1 rfl dX1_copyFrom_97 h (fun v10 h => ?_)
      refine j_iconst C0 (pc := 100) dX1_copyFrom_100 (v := (0 : Int32)) (by decide) ?_
      refine j_aload_n C0 (pc := 101) dX1_copyFrom_101 rfl ?_
      refine X_gN C0 (pc := 102) f_Book_27_1 rfl dX1_copyFrom_102 h (fun v11 h => ?_)
      refine j_iconst C0 (pc := 105) dX1_copyFrom_105 (v := (0 : Int32)) (by decide) ?_
      refine j_bipush C0 (pc := 106) dX1_copyFrom_106 (v := (20 : Int32)) (by decide) ?_
      refine X_copyI C0 (pc := 108) ⟨j_c6 231 (by decide +kernel), j_c4 67 (by decide +kernel), j_c4 66 (by decide +kernel), j_c1 21 (by decide +kernel)⟩ (by decide) (Nat.le_of_ble_eq_true rfl) dX1_copyFrom_108 h (fun M9 h => ?_)
      exact j_vret C rfl h dX1_copyFrom_111 (by decide)
    · exact j_J.wq (L_X1_copyFrom_73 C hk96 m_FU v6 v7 (0 : Int32) M7 h) (And.intro rfl (And.intro rfl (And.intro rfl (trivial))))
  · exact j_J.wq (L_X1_copyFrom_47 C hk71 m_FU a0 a1 (0 : Int32) M6 h) (And.intro rfl (And.intro rfl (And.intro rfl (trivial))))
theorem dX11_mark_0 : decode cX11_mark 0 = .ok (.iload_n 1, 1) := by decide +kernel
theorem dX11_mark_1 : decode cX11_mark 1 = .ok (.ifCond .lt 21, 3) := by decide +kernel
theorem dX11_mark_4 : decode cX11_mark 4 = .ok (.iload_n 1, 1) := by decide +kernel
theorem dX11_mark_5 : decode cX11_mark 5 = .ok (.iconst 4, 1) := by decide +kernel
theorem dX11_mark_6 : decode cX11_mark 6 = .ok (.if_icmp .ge 16, 3) := by decide +kernel
theorem dX11_mark_9 : decode cX11_mark 9 = .ok (.iload_n 2, 1) := by decide +kernel
theorem dX11_mark_10 : decode cX11_mark 10 = .ok (.ifCond .eq 14, 3) := by decide +kernel
theorem dX11_mark_13 : decode cX11_mark 13 = .ok (.aload_n 0, 1) := by decide +kernel
theorem dX11_mark_14 : decode cX11_mark 14 = .ok (.getfield 73, 3) := by decide +kernel
theorem dX11_mark_17 : decode cX11_mark 17 = .ok (.iload_n 1, 1) := by decide +kernel
theorem dX11_mark_18 : decode cX11_mark 18 = .ok (.baload, 1) := by decide +kernel
theorem dX11_mark_19 : decode cX11_mark 19 = .ok (.ifCond .ne 5, 3) := by decide +kernel
theorem dX11_mark_22 : decode cX11_mark 22 = .ok (.iconst 0, 1) := by decide +kernel
theorem dX11_mark_23 : decode cX11_mark 23 = .ok (.ireturn, 1) := by decide +kernel
theorem dX11_mark_24 : decode cX11_mark 24 = .ok (.iload_n 2, 1) := by decide +kernel
theorem dX11_mark_25 : decode cX11_mark 25 = .ok (.ifCond .eq 19, 3) := by decide +kernel
theorem dX11_mark_28 : decode cX11_mark 28 = .ok (.aload_n 0, 1) := by decide +kernel
theorem dX11_mark_29 : decode cX11_mark 29 = .ok (.getfield 65, 3) := by decide +kernel
theorem dX11_mark_32 : decode cX11_mark 32 = .ok (.aload_n 0, 1) := by decide +kernel
theorem dX11_mark_33 : decode cX11_mark 33 = .ok (.getfield 69, 3) := by decide +kernel
theorem dX11_mark_36 : decode cX11_mark 36 = .ok (.iload_n 1, 1) := by decide +kernel
theorem dX11_mark_37 : decode cX11_mark 37 = .ok (.aaload, 1) := by decide +kernel
theorem dX11_mark_38 : decode cX11_mark 38 = .ok (.invokevirtual 322, 3) := by decide +kernel
theorem dX11_mark_41 : decode cX11_mark 41 = .ok (.goto 23, 3) := by decide +kernel
theorem dX11_mark_44 : decode cX11_mark 44 = .ok (.aload_n 0, 1) := by decide +kernel
theorem dX11_mark_45 : decode cX11_mark 45 = .ok (.getfield 69, 3) := by decide +kernel
theorem dX11_mark_48 : decode cX11_mark 48 = .ok (.iload_n 1, 1) := by decide +kernel
theorem dX11_mark_49 : decode cX11_mark 49 = .ok (.aaload, 1) := by decide +kernel
theorem dX11_mark_50 : decode cX11_mark 50 = .ok (.aload_n 0, 1) := by decide +kernel
theorem dX11_mark_51 : decode cX11_mark 51 = .ok (.getfield 65, 3) := by decide +kernel
theorem dX11_mark_54 : decode cX11_mark 54 = .ok (.invokevirtual 322, 3) := by decide +kernel
theorem dX11_mark_57 : decode cX11_mark 57 = .ok (.aload_n 0, 1) := by decide +kernel
theorem dX11_mark_58 : decode cX11_mark 58 = .ok (.getfield 73, 3) := by decide +kernel
theorem dX11_mark_61 : decode cX11_mark 61 = .ok (.iload_n 1, 1) := by decide +kernel
theorem dX11_mark_62 : decode cX11_mark 62 = .ok (.iconst 1, 1) := by decide +kernel
theorem dX11_mark_63 : decode cX11_mark 63 = .ok (.bastore, 1) := by decide +kernel
theorem dX11_mark_64 : decode cX11_mark 64 = .ok (.iconst 1, 1) := by decide +kernel
theorem dX11_mark_65 : decode cX11_mark 65 = .ok (.ireturn, 1) := by decide +kernel
noncomputable def F_X11_mark (a0 : Nat) (a1 : Int32) (a2 : Int32) (M : m_M) : Option (Int32 × m_M) :=
  if a1 < 0 then (
    some ((0 : Int32), M)
  ) else
  if (4 : Int32) ≤ a1 then (
    some ((0 : Int32), M)
  ) else
  m_let (fun (v1 : Nat) (v2 : Int32) (v3 : Int32) (M1 : m_M) =>
    if v3 = 0 then (
      x_gN 9 M1 v1 10 fun v4 =>
      x_aN 15 M1 v4 v2 fun v5 =>
      x_gN 9 M1 v1 9 fun v6 =>
      x_cV 1 M1 v5 (F_X1_copyFrom v5 v6 M1) fun _ M2 =>
      x_gN 9 M2 v1 11 fun v7 =>
      x_sI 14 M2 v7 v2 (vp_nar .boolean (1 : Int32)) fun M3 =>
      some ((1 : Int32), M3)
    ) else
    x_gN 9 M1 v1 9 fun v8 =>
    x_gN 9 M1 v1 10 fun v9 =>
    x_aN 15 M1 v9 v2 fun v10 =>
    x_cV 1 M1 v8 (F_X1_copyFrom v8 v10 M1) fun _ M4 =>
    some ((1 : Int32), M4)
  ) fun (k24 : Nat → Int32 → Int32 → m_M → Option (Int32 × m_M)) =>
  if a2 = 0 then (
    k24 a0 a1 a2 M
  ) else
  x_gN 9 M a0 11 fun v11 =>
  x_aI 14 M v11 a1 fun v12 =>
  if v12 = 0 then (
    some ((0 : Int32), M)
  ) else
  k24 a0 a1 a2 M
set_option maxHeartbeats 4000000 in
theorem K_X11_mark (a0 : Nat) (a1 : Int32) (a2 : Int32) (M : m_M) (Φ : Option Value → m_M → Prop) (h : m_ok e_I Φ (F_X11_mark a0 a1 a2 M)) : j_Ct yX11_mark cX11_mark 3 (some .boolean) 2 0 0 [.ref a0, .int a1, .int a2] M Φ := by
  refine j_Ct.of (by decide +kernel) (Nat.le_of_ble_eq_true rfl) fun X C => ?_
  have C0 := C.1
  show j_J X 3 0 [some (.ref a0), some (.int a1), some (.int a2)] [] (0, 0) M
  unfold F_X11_mark at h
  refine j_iload_n C0 (pc := 0) dX11_mark_0 rfl ?_
  refine j_if_lt C0 (pc := 1) (tgt := 22) dX11_mark_1 (by decide) (fun hc => ?_) (fun hc => ?_)
  · replace h := (X_if h).1 hc
    refine j_iconst C0 (pc := 22) dX11_mark_22 (v := (0 : Int32)) (by decide) ?_
    exact j_zret C rfl (by decide) h dX11_mark_23 (by decide)
  · replace h := (X_if h).2 hc
    refine j_iload_n C0 (pc := 4) dX11_mark_4 rfl ?_
    refine j_iconst C0 (pc := 5) dX11_mark_5 (v := (4 : Int32)) (by decide) ?_
    refine j_icmp_ge C0 (pc := 6) (tgt := 22) dX11_mark_6 (by decide) (fun hc => ?_) (fun hc => ?_)
    · replace h := (X_if h).1 hc
      refine j_iconst C0 (pc := 22) dX11_mark_22 (v := (0 : Int32)) (by decide) ?_
      exact j_zret C rfl (by decide) h dX11_mark_23 (by decide)
    · replace h := (X_if h).2 hc
      refine X_join (fun (kj : Nat → Int32 → Int32 → m_M → Option (Int32 × m_M)) => ∀ (p0 : Nat) (p1 : Int32) (p2 : Int32) (M : m_M), m_ok e_I Φ (kj p0 p1 p2 M) → j_J X 3 24 [some (.ref p0), some (.int p1), some (.int p2)] [] (0, 0) M) h (fun v1 v2 v3 M1 h => ?_) (fun k24 hk24 h => ?_)
      · refine j_iload_n C0 (pc := 24) dX11_mark_24 rfl ?_
        refine j_if_eq C0 (pc := 25) (tgt := 44) dX11_mark_25 (by decide) (fun hc => ?_) (fun hc => ?_)
        · replace h := (X_if h).1 hc
          refine j_aload_n C0 (pc := 44) dX11_mark_44 rfl ?_
          refine X_gN C0 (pc := 45) f_OV_69_9 rfl dX11_mark_45 h (fun v4 h => ?_)
          refine j_iload_n C0 (pc := 48) dX11_mark_48 rfl ?_
          refine X_aaldN C0 (pc := 49) (by decide) dX11_mark_49 h (fun v5 h => ?_)
          refine j_aload_n C0 (pc := 50) dX11_mark_50 rfl ?_
          refine X_gN C0 (pc := 51) f_OV_65_9 rfl dX11_mark_51 h (fun v6 h => ?_)
          refine X_cV C0 (pc := 54) (e' := e_V) (as := [.ref v6]) (rest := []) (s' := fun _ => []) (g' := (0, 0)) v_OV_322_1 (fun Ψ hΨ => K_X1_copyFrom v5 v6 M1 Ψ hΨ) rfl rfl (fun _ => rfl) (by decide) (by decide) rfl (Nat.le_of_ble_eq_true rfl) dX11_mark_54 h (fun _ M2 h => ?_)
          refine j_aload_n C0 (pc := 57) dX11_mark_57 rfl ?_
          refine X_gN C0 (pc := 58) f_OV_73_9 rfl dX11_mark_58 h (fun v7 h => ?_)
          refine j_iload_n C0 (pc := 61) dX11_mark_61 rfl ?_
          refine j_iconst C0 (pc := 62) dX11_mark_62 (v := (1 : Int32)) (by decide) ?_
          refine X_zast C0 (pc := 63) dX11_mark_63 h (fun M3 h => ?_)
          refine j_iconst C0 (pc := 64) dX11_mark_64 (v := (1 : Int32)) (by decide) ?_
          exact j_zret C rfl (by decide) h dX11_mark_65 (by decide)
        · replace h := (X_if h).2 hc
          refine j_aload_n C0 (pc := 28) dX11_mark_28 rfl ?_
          refine X_gN C0 (pc := 29) f_OV_65_9 rfl dX11_mark_29 h (fun v8 h => ?_)
          refine j_aload_n C0 (pc := 32) dX11_mark_32 rfl ?_
          refine X_gN C0 (pc := 33) f_OV_69_9 rfl dX11_mark_33 h (fun v9 h => ?_)
          refine j_iload_n C0 (pc := 36) dX11_mark_36 rfl ?_
          refine X_aaldN C0 (pc := 37) (by decide) dX11_mark_37 h (fun v10 h => ?_)
          refine X_cV C0 (pc := 38) (e' := e_V) (as := [.ref v10]) (rest := []) (s' := fun _ => []) (g' := (0, 0)) v_OV_322_1 (fun Ψ hΨ => K_X1_copyFrom v8 v10 M1 Ψ hΨ) rfl rfl (fun _ => rfl) (by decide) (by decide) rfl (Nat.le_of_ble_eq_true rfl) dX11_mark_38 h (fun _ M4 h => ?_)
          refine j_goto C0 (pc := 41) (tgt := 64) dX11_mark_41 (by decide) ?_
          refine j_iconst C0 (pc := 64) dX11_mark_64 (v := (1 : Int32)) (by decide) ?_
          exact j_zret C rfl (by decide) h dX11_mark_65 (by decide)
      · refine j_iload_n C0 (pc := 9) dX11_mark_9 rfl ?_
        refine j_if_eq C0 (pc := 10) (tgt := 24) dX11_mark_10 (by decide) (fun hc => ?_) (fun hc => ?_)
        · replace h := (X_if h).1 hc
          exact j_J.wq (hk24 a0 a1 a2 M h) (And.intro rfl (And.intro rfl (And.intro rfl (trivial))))
        · replace h := (X_if h).2 hc
          refine j_aload_n C0 (pc := 13) dX11_mark_13 rfl ?_
          refine X_gN C0 (pc := 14) f_OV_73_9 rfl dX11_mark_14 h (fun v11 h => ?_)
          refine j_iload_n C0 (pc := 17) dX11_mark_17 rfl ?_
          refine X_zald C0 (pc := 18) dX11_mark_18 h (fun v12 h => ?_)
          refine j_if_ne C0 (pc := 19) (tgt := 24) dX11_mark_19 (by decide) (fun hc => ?_) (fun hc => ?_)
          · replace h := (X_if h).2 hc
            exact j_J.wq (hk24 a0 a1 a2 M h) (And.intro rfl (And.intro rfl (And.intro rfl (trivial))))
          · replace h := (X_if h).1 hc
            refine j_iconst C0 (pc := 22) dX11_mark_22 (v := (0 : Int32)) (by decide) ?_
            exact j_zret C rfl (by decide) h dX11_mark_23 (by decide)
theorem dX11_meant_0 : decode cX11_meant 0 = .ok (.iload_n 1, 1) := by decide +kernel
theorem dX11_meant_1 : decode cX11_meant 1 = .ok (.ifCond .lt 13, 3) := by decide +kernel
theorem dX11_meant_4 : decode cX11_meant 4 = .ok (.aload_n 0, 1) := by decide +kernel
theorem dX11_meant_5 : decode cX11_meant 5 = .ok (.getfield 65, 3) := by decide +kernel
theorem dX11_meant_8 : decode cX11_meant 8 = .ok (.invokevirtual 205, 3) := by decide +kernel
theorem dX11_meant_11 : decode cX11_meant 11 = .ok (.ifCond .ne 5, 3) := by decide +kernel
theorem dX11_meant_14 : decode cX11_meant 14 = .ok (.iconst (-1), 1) := by decide +kernel
theorem dX11_meant_15 : decode cX11_meant 15 = .ok (.ireturn, 1) := by decide +kernel
theorem dX11_meant_16 : decode cX11_meant 16 = .ok (.aload_n 0, 1) := by decide +kernel
theorem dX11_meant_17 : decode cX11_meant 17 = .ok (.getfield 44, 3) := by decide +kernel
theorem dX11_meant_20 : decode cX11_meant 20 = .ok (.aload_n 0, 1) := by decide +kernel
theorem dX11_meant_21 : decode cX11_meant 21 = .ok (.getfield 65, 3) := by decide +kernel
theorem dX11_meant_24 : decode cX11_meant 24 = .ok (.getfield 140, 3) := by decide +kernel
theorem dX11_meant_27 : decode cX11_meant 27 = .ok (.aload_n 0, 1) := by decide +kernel
theorem dX11_meant_28 : decode cX11_meant 28 = .ok (.getfield 16, 3) := by decide +kernel
theorem dX11_meant_31 : decode cX11_meant 31 = .ok (.iload_n 1, 1) := by decide +kernel
theorem dX11_meant_32 : decode cX11_meant 32 = .ok (.invokevirtual 162, 3) := by decide +kernel
theorem dX11_meant_35 : decode cX11_meant 35 = .ok (.aload_n 0, 1) := by decide +kernel
theorem dX11_meant_36 : decode cX11_meant 36 = .ok (.getfield 84, 3) := by decide +kernel
theorem dX11_meant_39 : decode cX11_meant 39 = .ok (.invokevirtual 208, 3) := by decide +kernel
theorem dX11_meant_42 : decode cX11_meant 42 = .ok (.aload_n 0, 1) := by decide +kernel
theorem dX11_meant_43 : decode cX11_meant 43 = .ok (.getfield 84, 3) := by decide +kernel
theorem dX11_meant_46 : decode cX11_meant 46 = .ok (.invokevirtual 174, 3) := by decide +kernel
theorem dX11_meant_49 : decode cX11_meant 49 = .ok (.ireturn, 1) := by decide +kernel
noncomputable def F_X11_meant (a0 : Nat) (a1 : Int32) (M : m_M) : Option (Int32 × m_M) :=
  if a1 < 0 then (
    some ((-1 : Int32), M)
  ) else
  x_gN 9 M a0 9 fun v1 =>
  x_cV 1 M v1 (F_X1_hasAsked v1 M) fun v2 M1 =>
  if v2 = 0 then (
    some ((-1 : Int32), M1)
  ) else
  x_gN 9 M1 a0 6 fun v3 =>
  x_gN 9 M1 a0 9 fun v4 =>
  x_gN 1 M1 v4 5 fun v5 =>
  x_gN 9 M1 a0 2 fun v6 =>
  x_cV 3 M1 v6 (F_X3_verbOf v6 a1 M1) fun v7 M2 =>
  x_gN 9 M2 a0 13 fun v8 =>
  x_cV 5 M2 v3 (F_X5_find v3 v5 v7 v8 M2) fun _ M3 =>
  x_gN 9 M3 a0 13 fun v9 =>
  x_cV 8 M3 v9 (F_X10_size v9 M3) fun v10 M4 =>
  some (v10, M4)
set_option maxHeartbeats 4000000 in
theorem K_X11_meant (a0 : Nat) (a1 : Int32) (M : m_M) (Φ : Option Value → m_M → Prop) (h : m_ok e_I Φ (F_X11_meant a0 a1 M)) : j_Ct yX11_meant cX11_meant 2 (some .int) 7 0 0 [.ref a0, .int a1] M Φ := by
  refine j_Ct.of (by decide +kernel) (Nat.le_of_ble_eq_true rfl) fun X C => ?_
  have C0 := C.1
  show j_J X 2 0 [some (.ref a0), some (.int a1)] [] (0, 0) M
  unfold F_X11_meant at h
  refine j_iload_n C0 (pc := 0) dX11_meant_0 rfl ?_
  refine j_if_lt C0 (pc := 1) (tgt := 14) dX11_meant_1 (by decide) (fun hc => ?_) (fun hc => ?_)
  · replace h := (X_if h).1 hc
    refine j_iconst C0 (pc := 14) dX11_meant_14 (v := (-1 : Int32)) (by decide) ?_
    exact j_iret C rfl h dX11_meant_15 (by decide)
  · replace h := (X_if h).2 hc
    refine j_aload_n C0 (pc := 4) dX11_meant_4 rfl ?_
    refine X_gN C0 (pc := 5) f_OV_65_9 rfl dX11_meant_5 h (fun v1 h => ?_)
    refine X_cV C0 (pc := 8) (e' := e_I) (as := []) (rest := []) (s' := fun w => .int w :: []) (g' := (0, 0)) v_OV_205_1 (fun Ψ hΨ => K_X1_hasAsked v1 M Ψ hΨ) rfl rfl (fun _ => rfl) (by decide) (by decide) rfl (Nat.le_of_ble_eq_true rfl) dX11_meant_8 h (fun v2 M1 h => ?_)
    refine j_if_ne C0 (pc := 11) (tgt := 16) dX11_meant_11 (by decide) (fun hc => ?_) (fun hc => ?_)
    · replace h := (X_if h).2 hc
      refine j_aload_n C0 (pc := 16) dX11_meant_16 rfl ?_
      refine X_gN C0 (pc := 17) f_OV_44_9 rfl dX11_meant_17 h (fun v3 h => ?_)
      refine j_aload_n C0 (pc := 20) dX11_meant_20 rfl ?_
      refine X_gN C0 (pc := 21) f_OV_65_9 rfl dX11_meant_21 h (fun v4 h => ?_)
      refine X_gN C0 (pc := 24) f_OV_140_1 rfl dX11_meant_24 h (fun v5 h => ?_)
      refine j_aload_n C0 (pc := 27) dX11_meant_27 rfl ?_
      refine X_gN C0 (pc := 28) f_OV_16_9 rfl dX11_meant_28 h (fun v6 h => ?_)
      refine j_iload_n C0 (pc := 31) dX11_meant_31 rfl ?_
      refine X_cV C0 (pc := 32) (e' := e_I) (as := [.int a1]) (rest := [.ref v5, .ref v3]) (s' := fun w => .int w :: [.ref v5, .ref v3]) (g' := (0, 0)) v_OV_162_3 (fun Ψ hΨ => K_X3_verbOf v6 a1 M1 Ψ hΨ) rfl rfl (fun _ => rfl) (by decide) (by decide) rfl (Nat.le_of_ble_eq_true rfl) dX11_meant_32 h (fun v7 M2 h => ?_)
      refine j_aload_n C0 (pc := 35) dX11_meant_35 rfl ?_
      refine X_gN C0 (pc := 36) f_OV_84_9 rfl dX11_meant_36 h (fun v8 h => ?_)
      refine X_cV C0 (pc := 39) (e' := e_V) (as := [.ref v5, .int v7, .ref v8]) (rest := []) (s' := fun _ => []) (g' := (0, 0)) v_OV_208_5 (fun Ψ hΨ => K_X5_find v3 v5 v7 v8 M2 Ψ hΨ) rfl rfl (fun _ => rfl) (by decide) (by decide) rfl (Nat.le_of_ble_eq_true rfl) dX11_meant_39 h (fun _ M3 h => ?_)
      refine j_aload_n C0 (pc := 42) dX11_meant_42 rfl ?_
      refine X_gN C0 (pc := 43) f_OV_84_9 rfl dX11_meant_43 h (fun v9 h => ?_)
      refine X_cV C0 (pc := 46) (e' := e_I) (as := []) (rest := []) (s' := fun w => .int w :: []) (g' := (0, 0)) v_OV_174_8 (fun Ψ hΨ => K_X10_size v9 M3 Ψ hΨ) rfl rfl (fun _ => rfl) (by decide) (by decide) rfl (Nat.le_of_ble_eq_true rfl) dX11_meant_46 h (fun v10 M4 h => ?_)
      exact j_iret C rfl h dX11_meant_49 (by decide)
    · replace h := (X_if h).1 hc
      refine j_iconst C0 (pc := 14) dX11_meant_14 (v := (-1 : Int32)) (by decide) ?_
      exact j_iret C rfl h dX11_meant_15 (by decide)
theorem dX6_init_0 : decode cX6_init 0 = .ok (.aload_n 0, 1) := by decide +kernel
theorem dX6_init_1 : decode cX6_init 1 = .ok (.invokespecial 1, 3) := by decide +kernel
theorem dX6_init_4 : decode cX6_init 4 = .ok (.aload_n 0, 1) := by decide +kernel
theorem dX6_init_5 : decode cX6_init 5 = .ok (.new 7, 3) := by decide +kernel
theorem dX6_init_8 : decode cX6_init 8 = .ok (.dup, 1) := by decide +kernel
theorem dX6_init_9 : decode cX6_init 9 = .ok (.invokespecial 9, 3) := by decide +kernel
theorem dX6_init_12 : decode cX6_init 12 = .ok (.putfield 10, 3) := by decide +kernel
theorem dX6_init_15 : decode cX6_init 15 = .ok (.aload_n 0, 1) := by decide +kernel
theorem dX6_init_16 : decode cX6_init 16 = .ok (.aload_n 1, 1) := by decide +kernel
theorem dX6_init_17 : decode cX6_init 17 = .ok (.putfield 16, 3) := by decide +kernel
theorem dX6_init_20 : decode cX6_init 20 = .ok (.aload_n 0, 1) := by decide +kernel
theorem dX6_init_21 : decode cX6_init 21 = .ok (.iload_n 2, 1) := by decide +kernel
theorem dX6_init_22 : decode cX6_init 22 = .ok (.putfield 20, 3) := by decide +kernel
theorem dX6_init_25 : decode cX6_init 25 = .ok (.aload_n 0, 1) := by decide +kernel
theorem dX6_init_26 : decode cX6_init 26 = .ok (.iload_n 3, 1) := by decide +kernel
theorem dX6_init_27 : decode cX6_init 27 = .ok (.putfield 24, 3) := by decide +kernel
theorem dX6_init_30 : decode cX6_init 30 = .ok (.return_, 1) := by decide +kernel
noncomputable def F_X6_init (a0 : Nat) (a1 : Nat) (a2 : Int32) (a3 : Int32) (M : m_M) : Option (Unit × m_M) :=
  x_new 8 M fun v1 M1 =>
  x_bd (F_X10_init v1 M1) fun _ M2 =>
  x_pR 6 M2 a0 3 (some v1) fun M3 =>
  x_pR 6 M3 a0 0 (some a1) fun M4 =>
  x_pI 6 M4 a0 1 a2 fun M5 =>
  x_pI 6 M5 a0 2 a3 fun M6 =>
  some ((), M6)
set_option maxHeartbeats 4000000 in
theorem K_X6_init (a0 : Nat) (a1 : Nat) (a2 : Int32) (a3 : Int32) (M : m_M) (Φ : Option Value → m_M → Prop) (h : m_ok e_V Φ (F_X6_init a0 a1 a2 a3 M)) : j_Ct yX6_init cX6_init 4 none 2 2 17 [.ref a0, .ref a1, .int a2, .int a3] M Φ := by
  refine j_Ct.of (by decide +kernel) (Nat.le_of_ble_eq_true rfl) fun X C => ?_
  have C0 := C.1
  show j_J X 4 0 [some (.ref a0), some (.ref a1), some (.int a2), some (.int a3)] [] (0, 0) M
  unfold F_X6_init at h
  refine j_aload_n C0 (pc := 0) dX6_init_0 rfl ?_
  refine j_objInit C0 (pc := 1) (j_c4 179 (by decide +kernel)) (j_c1 35 (by decide +kernel)) (j_c1 36 (by decide +kernel)) (by decide) (Nat.le_of_ble_eq_true rfl) dX6_init_1 ?_
  refine j_aload_n C0 (pc := 4) dX6_init_4 rfl ?_
  refine X_new C0 (pc := 5) (g' := (1, 1)) k_WS (j_c4 180 (by decide +kernel)) (j_c2 30 (by decide +kernel)) (j_c1 9 (by decide +kernel)) (by decide) rfl dX6_init_5 h (fun v1 M1 h => ?_)
  refine j_dup C0 (pc := 8) dX6_init_8 rfl ?_
  refine X_cIN C0 (pc := 9) (e' := e_V) (as := []) (rest := [.ref v1, .ref a0]) (s' := fun _ => [.ref v1, .ref a0]) (g' := (2, 17)) n_Saying_9 (fun Ψ hΨ => K_X10_init v1 M1 Ψ hΨ) rfl rfl (fun _ => rfl) (by decide) (by decide) rfl (Nat.le_of_ble_eq_true rfl) dX6_init_9 h (fun _ M2 h => ?_)
  refine X_pNF C0 (pc := 12) f_Saying_10_6 rfl ⟨_, rfl, rfl⟩ (Or.inl ⟨_, rfl⟩) rfl dX6_init_12 h (fun M3 h => ?_)
  refine j_aload_n C0 (pc := 15) dX6_init_15 rfl ?_
  refine j_aload_n C0 (pc := 16) dX6_init_16 rfl ?_
  refine X_pNF C0 (pc := 17) f_Saying_16_6 rfl ⟨_, rfl, rfl⟩ (Or.inr ⟨_, rfl⟩) rfl dX6_init_17 h (fun M4 h => ?_)
  refine j_aload_n C0 (pc := 20) dX6_init_20 rfl ?_
  refine j_iload_n C0 (pc := 21) dX6_init_21 rfl ?_
  refine X_pIF C0 (pc := 22) f_Saying_20_6 rfl ⟨_, rfl, rfl⟩ rfl rfl dX6_init_22 h (fun M5 h => ?_)
  refine j_aload_n C0 (pc := 25) dX6_init_25 rfl ?_
  refine j_iload_n C0 (pc := 26) dX6_init_26 rfl ?_
  refine X_pIF C0 (pc := 27) f_Saying_24_6 rfl ⟨_, rfl, rfl⟩ rfl rfl dX6_init_27 h (fun M6 h => ?_)
  exact j_vret C rfl h dX6_init_30 (by decide)
theorem dX11_sayingFor_0 : decode cX11_sayingFor 0 = .ok (.new 169, 3) := by decide +kernel
theorem dX11_sayingFor_3 : decode cX11_sayingFor 3 = .ok (.dup, 1) := by decide +kernel
theorem dX11_sayingFor_4 : decode cX11_sayingFor 4 = .ok (.aload_n 0, 1) := by decide +kernel
theorem dX11_sayingFor_5 : decode cX11_sayingFor 5 = .ok (.getfield 35, 3) := by decide +kernel
theorem dX11_sayingFor_8 : decode cX11_sayingFor 8 = .ok (.invokevirtual 136, 3) := by decide +kernel
theorem dX11_sayingFor_11 : decode cX11_sayingFor 11 = .ok (.aload_n 0, 1) := by decide +kernel
theorem dX11_sayingFor_12 : decode cX11_sayingFor 12 = .ok (.getfield 65, 3) := by decide +kernel
theorem dX11_sayingFor_15 : decode cX11_sayingFor 15 = .ok (.getfield 119, 3) := by decide +kernel
theorem dX11_sayingFor_18 : decode cX11_sayingFor 18 = .ok (.iload_n 1, 1) := by decide +kernel
theorem dX11_sayingFor_19 : decode cX11_sayingFor 19 = .ok (.invokespecial 342, 3) := by decide +kernel
theorem dX11_sayingFor_22 : decode cX11_sayingFor 22 = .ok (.astore_n 2, 1) := by decide +kernel
theorem dX11_sayingFor_23 : decode cX11_sayingFor 23 = .ok (.aload_n 0, 1) := by decide +kernel
theorem dX11_sayingFor_24 : decode cX11_sayingFor 24 = .ok (.getfield 16, 3) := by decide +kernel
theorem dX11_sayingFor_27 : decode cX11_sayingFor 27 = .ok (.iload_n 1, 1) := by decide +kernel
theorem dX11_sayingFor_28 : decode cX11_sayingFor 28 = .ok (.invokevirtual 162, 3) := by decide +kernel
theorem dX11_sayingFor_31 : decode cX11_sayingFor 31 = .ok (.istore_n 3, 1) := by decide +kernel
theorem dX11_sayingFor_32 : decode cX11_sayingFor 32 = .ok (.iload_n 3, 1) := by decide +kernel
theorem dX11_sayingFor_33 : decode cX11_sayingFor 33 = .ok (.iconst (-1), 1) := by decide +kernel
theorem dX11_sayingFor_34 : decode cX11_sayingFor 34 = .ok (.if_icmp .ne 20, 3) := by decide +kernel
theorem dX11_sayingFor_37 : decode cX11_sayingFor 37 = .ok (.aload_n 2, 1) := by decide +kernel
theorem dX11_sayingFor_38 : decode cX11_sayingFor 38 = .ok (.getfield 171, 3) := by decide +kernel
theorem dX11_sayingFor_41 : decode cX11_sayingFor 41 = .ok (.aload_n 0, 1) := by decide +kernel
theorem dX11_sayingFor_42 : decode cX11_sayingFor 42 = .ok (.getfield 16, 3) := by decide +kernel
theorem dX11_sayingFor_45 : decode cX11_sayingFor 45 = .ok (.getfield 186, 3) := by decide +kernel
theorem dX11_sayingFor_48 : decode cX11_sayingFor 48 = .ok (.invokevirtual 345, 3) := by decide +kernel
theorem dX11_sayingFor_51 : decode cX11_sayingFor 51 = .ok (.goto 19, 3) := by decide +kernel
theorem dX11_sayingFor_54 : decode cX11_sayingFor 54 = .ok (.aload_n 0, 1) := by decide +kernel
theorem dX11_sayingFor_55 : decode cX11_sayingFor 55 = .ok (.getfield 44, 3) := by decide +kernel
theorem dX11_sayingFor_58 : decode cX11_sayingFor 58 = .ok (.aload_n 2, 1) := by decide +kernel
theorem dX11_sayingFor_59 : decode cX11_sayingFor 59 = .ok (.getfield 348, 3) := by decide +kernel
theorem dX11_sayingFor_62 : decode cX11_sayingFor 62 = .ok (.iload_n 3, 1) := by decide +kernel
theorem dX11_sayingFor_63 : decode cX11_sayingFor 63 = .ok (.aload_n 2, 1) := by decide +kernel
theorem dX11_sayingFor_64 : decode cX11_sayingFor 64 = .ok (.getfield 171, 3) := by decide +kernel
theorem dX11_sayingFor_67 : decode cX11_sayingFor 67 = .ok (.invokevirtual 208, 3) := by decide +kernel
theorem dX11_sayingFor_70 : decode cX11_sayingFor 70 = .ok (.aload_n 2, 1) := by decide +kernel
theorem dX11_sayingFor_71 : decode cX11_sayingFor 71 = .ok (.areturn, 1) := by decide +kernel
noncomputable def F_X11_sayingFor (a0 : Nat) (a1 : Int32) (M : m_M) : Option (Nat × m_M) :=
  x_new 6 M fun v1 M1 =>
  x_gN 9 M1 a0 5 fun v2 =>
  x_cV 7 M1 v2 (F_X7_formula v2 M1) fun v3 M2 =>
  x_gN 9 M2 a0 9 fun v4 =>
  x_gI 1 M2 v4 0 fun v5 =>
  x_bd (F_X6_init v1 v3 v5 a1 M2) fun _ M3 =>
  x_gN 9 M3 a0 2 fun v6 =>
  x_cV 3 M3 v6 (F_X3_verbOf v6 a1 M3) fun v7 M4 =>
  if v7 = (-1 : Int32) then (
    x_gN 6 M4 v1 3 fun v11 =>
    x_gN 9 M4 a0 2 fun v12 =>
    x_gI 3 M4 v12 3 fun v13 =>
    x_cV 8 M4 v11 (F_X10_fill v11 v13 M4) fun _ M6 =>
    some (v1, M6)
  ) else
  x_gN 9 M4 a0 6 fun v8 =>
  x_gN 6 M4 v1 0 fun v9 =>
  x_gN 6 M4 v1 3 fun v10 =>
  x_cV 5 M4 v8 (F_X5_find v8 v9 v7 v10 M4) fun _ M5 =>
  some (v1, M5)
set_option maxHeartbeats 4000000 in
theorem K_X11_sayingFor (a0 : Nat) (a1 : Int32) (M : m_M) (Φ : Option Value → m_M → Prop) (h : m_ok e_N Φ (F_X11_sayingFor a0 a1 M)) : j_Ct yX11_sayingFor cX11_sayingFor 4 (some (.object "OneVerb$Saying")) 7 4 1021 [.ref a0, .int a1] M Φ := by
  refine j_Ct.of (by decide +kernel) (Nat.le_of_ble_eq_true rfl) fun X C => ?_
  have C0 := C.1
  show j_J X 4 0 [some (.ref a0), some (.int a1), none, none] [] (0, 0) M
  unfold F_X11_sayingFor at h
  refine X_new C0 (pc := 0) (g' := (1, 4)) k_Saying (j_c4 158 (by decide +kernel)) (j_c4 159 (by decide +kernel)) (j_c1 22 (by decide +kernel)) (by decide) rfl dX11_sayingFor_0 h (fun v1 M1 h => ?_)
  refine j_dup C0 (pc := 3) dX11_sayingFor_3 rfl ?_
  refine j_aload_n C0 (pc := 4) dX11_sayingFor_4 rfl ?_
  refine X_gN C0 (pc := 5) f_OV_35_9 rfl dX11_sayingFor_5 h (fun v2 h => ?_)
  refine X_cV C0 (pc := 8) (e' := e_N) (as := []) (rest := [.ref v1, .ref v1]) (s' := fun w => .ref w :: [.ref v1, .ref v1]) (g' := (2, 1004)) v_OV_136_7 (fun Ψ hΨ => K_X7_formula v2 M1 Ψ hΨ) rfl rfl (fun _ => rfl) (by decide) (by decide) rfl (Nat.le_of_ble_eq_true rfl) dX11_sayingFor_8 h (fun v3 M2 h => ?_)
  refine j_aload_n C0 (pc := 11) dX11_sayingFor_11 rfl ?_
  refine X_gN C0 (pc := 12) f_OV_65_9 rfl dX11_sayingFor_12 h (fun v4 h => ?_)
  refine X_gI C0 (pc := 15) f_OV_119_1 rfl dX11_sayingFor_15 h (fun v5 h => ?_)
  refine j_iload_n C0 (pc := 18) dX11_sayingFor_18 rfl ?_
  refine X_cI C0 (pc := 19) (e' := e_V) (as := [.ref v3, .int v5, .int a1]) (rest := [.ref v1]) (s' := fun _ => [.ref v1]) (g' := (4, 1021)) i_OV_342 (fun Ψ hΨ => K_X6_init v1 v3 v5 a1 M2 Ψ hΨ) rfl rfl (fun _ => rfl) (by decide) (by decide) rfl (Nat.le_of_ble_eq_true rfl) dX11_sayingFor_19 h (fun _ M3 h => ?_)
  refine j_astore_n C0 (pc := 22) dX11_sayingFor_22 (Nat.le_of_ble_eq_true rfl) ?_
  show j_J X 4 23 [some (.ref a0), some (.int a1), some (.ref v1), none] [] (4, 1021) M3
  refine j_aload_n C0 (pc := 23) dX11_sayingFor_23 rfl ?_
  refine X_gN C0 (pc := 24) f_OV_16_9 rfl dX11_sayingFor_24 h (fun v6 h => ?_)
  refine j_iload_n C0 (pc := 27) dX11_sayingFor_27 rfl ?_
  refine X_cV C0 (pc := 28) (e' := e_I) (as := [.int a1]) (rest := []) (s' := fun w => .int w :: []) (g' := (4, 1021)) v_OV_162_3 (fun Ψ hΨ => K_X3_verbOf v6 a1 M3 Ψ hΨ) rfl rfl (fun _ => rfl) (by decide) (by decide) rfl (Nat.le_of_ble_eq_true rfl) dX11_sayingFor_28 h (fun v7 M4 h => ?_)
  refine j_istore_n C0 (pc := 31) dX11_sayingFor_31 (Nat.le_of_ble_eq_true rfl) ?_
  show j_J X 4 32 [some (.ref a0), some (.int a1), some (.ref v1), some (.int v7)] [] (4, 1021) M4
  refine j_iload_n C0 (pc := 32) dX11_sayingFor_32 rfl ?_
  refine j_iconst C0 (pc := 33) dX11_sayingFor_33 (v := (-1 : Int32)) (by decide) ?_
  refine j_icmp_ne C0 (pc := 34) (tgt := 54) dX11_sayingFor_34 (by decide) (fun hc => ?_) (fun hc => ?_)
  · replace h := (X_if h).2 hc
    refine j_aload_n C0 (pc := 54) dX11_sayingFor_54 rfl ?_
    refine X_gN C0 (pc := 55) f_OV_44_9 rfl dX11_sayingFor_55 h (fun v8 h => ?_)
    refine j_aload_n C0 (pc := 58) dX11_sayingFor_58 rfl ?_
    refine X_gN C0 (pc := 59) f_OV_348_6 rfl dX11_sayingFor_59 h (fun v9 h => ?_)
    refine j_iload_n C0 (pc := 62) dX11_sayingFor_62 rfl ?_
    refine j_aload_n C0 (pc := 63) dX11_sayingFor_63 rfl ?_
    refine X_gN C0 (pc := 64) f_OV_171_6 rfl dX11_sayingFor_64 h (fun v10 h => ?_)
    refine X_cV C0 (pc := 67) (e' := e_V) (as := [.ref v9, .int v7, .ref v10]) (rest := []) (s' := fun _ => []) (g' := (4, 1021)) v_OV_208_5 (fun Ψ hΨ => K_X5_find v8 v9 v7 v10 M4 Ψ hΨ) rfl rfl (fun _ => rfl) (by decide) (by decide) rfl (Nat.le_of_ble_eq_true rfl) dX11_sayingFor_67 h (fun _ M5 h => ?_)
    refine j_aload_n C0 (pc := 70) dX11_sayingFor_70 rfl ?_
    exact j_aret C rfl (Or.inl ⟨_, rfl⟩) h dX11_sayingFor_71 (by decide)
  · replace h := (X_if h).1 hc
    refine j_aload_n C0 (pc := 37) dX11_sayingFor_37 rfl ?_
    refine X_gN C0 (pc := 38) f_OV_171_6 rfl dX11_sayingFor_38 h (fun v11 h => ?_)
    refine j_aload_n C0 (pc := 41) dX11_sayingFor_41 rfl ?_
    refine X_gN C0 (pc := 42) f_OV_16_9 rfl dX11_sayingFor_42 h (fun v12 h => ?_)
    refine X_gI C0 (pc := 45) f_OV_186_3 rfl dX11_sayingFor_45 h (fun v13 h => ?_)
    refine X_cV C0 (pc := 48) (e' := e_V) (as := [.int v13]) (rest := []) (s' := fun _ => []) (g' := (4, 1021)) v_OV_345_8 (fun Ψ hΨ => K_X10_fill v11 v13 M4 Ψ hΨ) rfl rfl (fun _ => rfl) (by decide) (by decide) rfl (Nat.le_of_ble_eq_true rfl) dX11_sayingFor_48 h (fun _ M6 h => ?_)
    refine j_goto C0 (pc := 51) (tgt := 70) dX11_sayingFor_51 (by decide) ?_
    refine j_aload_n C0 (pc := 70) dX11_sayingFor_70 rfl ?_
    exact j_aret C rfl (Or.inl ⟨_, rfl⟩) h dX11_sayingFor_71 (by decide)
theorem dX1_noteDeed_0 : decode cX1_noteDeed 0 = .ok (.aload_n 0, 1) := by decide +kernel
theorem dX1_noteDeed_1 : decode cX1_noteDeed 1 = .ok (.getfield 52, 3) := by decide +kernel
theorem dX1_noteDeed_4 : decode cX1_noteDeed 4 = .ok (.bipush 12, 2) := by decide +kernel
theorem dX1_noteDeed_6 : decode cX1_noteDeed 6 = .ok (.if_icmp .lt 75, 3) := by decide +kernel
theorem dX1_noteDeed_9 : decode cX1_noteDeed 9 = .ok (.aload_n 0, 1) := by decide +kernel
theorem dX1_noteDeed_10 : decode cX1_noteDeed 10 = .ok (.bipush 11, 2) := by decide +kernel
theorem dX1_noteDeed_12 : decode cX1_noteDeed 12 = .ok (.putfield 52, 3) := by decide +kernel
theorem dX1_noteDeed_15 : decode cX1_noteDeed 15 = .ok (.iconst 0, 1) := by decide +kernel
theorem dX1_noteDeed_16 : decode cX1_noteDeed 16 = .ok (.istore 4, 2) := by decide +kernel
theorem dX1_noteDeed_18 : decode cX1_noteDeed 18 = .ok (.iload 4, 2) := by decide +kernel
theorem dX1_noteDeed_20 : decode cX1_noteDeed 20 = .ok (.aload_n 0, 1) := by decide +kernel
theorem dX1_noteDeed_21 : decode cX1_noteDeed 21 = .ok (.getfield 52, 3) := by decide +kernel
theorem dX1_noteDeed_24 : decode cX1_noteDeed 24 = .ok (.if_icmp .ge 57, 3) := by decide +kernel
theorem dX1_noteDeed_27 : decode cX1_noteDeed 27 = .ok (.aload_n 0, 1) := by decide +kernel
theorem dX1_noteDeed_28 : decode cX1_noteDeed 28 = .ok (.getfield 30, 3) := by decide +kernel
theorem dX1_noteDeed_31 : decode cX1_noteDeed 31 = .ok (.iload 4, 2) := by decide +kernel
theorem dX1_noteDeed_33 : decode cX1_noteDeed 33 = .ok (.aload_n 0, 1) := by decide +kernel
theorem dX1_noteDeed_34 : decode cX1_noteDeed 34 = .ok (.getfield 30, 3) := by decide +kernel
theorem dX1_noteDeed_37 : decode cX1_noteDeed 37 = .ok (.iload 4, 2) := by decide +kernel
theorem dX1_noteDeed_39 : decode cX1_noteDeed 39 = .ok (.iconst 1, 1) := by decide +kernel
theorem dX1_noteDeed_40 : decode cX1_noteDeed 40 = .ok (.iadd, 1) := by decide +kernel
theorem dX1_noteDeed_41 : decode cX1_noteDeed 41 = .ok (.iaload, 1) := by decide +kernel
theorem dX1_noteDeed_42 : decode cX1_noteDeed 42 = .ok (.iastore, 1) := by decide +kernel
theorem dX1_noteDeed_43 : decode cX1_noteDeed 43 = .ok (.aload_n 0, 1) := by decide +kernel
theorem dX1_noteDeed_44 : decode cX1_noteDeed 44 = .ok (.getfield 33, 3) := by decide +kernel
theorem dX1_noteDeed_47 : decode cX1_noteDeed 47 = .ok (.iload 4, 2) := by decide +kernel
theorem dX1_noteDeed_49 : decode cX1_noteDeed 49 = .ok (.aload_n 0, 1) := by decide +kernel
theorem dX1_noteDeed_50 : decode cX1_noteDeed 50 = .ok (.getfield 33, 3) := by decide +kernel
theorem dX1_noteDeed_53 : decode cX1_noteDeed 53 = .ok (.iload 4, 2) := by decide +kernel
theorem dX1_noteDeed_55 : decode cX1_noteDeed 55 = .ok (.iconst 1, 1) := by decide +kernel
theorem dX1_noteDeed_56 : decode cX1_noteDeed 56 = .ok (.iadd, 1) := by decide +kernel
theorem dX1_noteDeed_57 : decode cX1_noteDeed 57 = .ok (.iaload, 1) := by decide +kernel
theorem dX1_noteDeed_58 : decode cX1_noteDeed 58 = .ok (.iastore, 1) := by decide +kernel
theorem dX1_noteDeed_59 : decode cX1_noteDeed 59 = .ok (.aload_n 0, 1) := by decide +kernel
theorem dX1_noteDeed_60 : decode cX1_noteDeed 60 = .ok (.getfield 36, 3) := by decide +kernel
theorem dX1_noteDeed_63 : decode cX1_noteDeed 63 = .ok (.iload 4, 2) := by decide +kernel
theorem dX1_noteDeed_65 : decode cX1_noteDeed 65 = .ok (.aload_n 0, 1) := by decide +kernel
theorem dX1_noteDeed_66 : decode cX1_noteDeed 66 = .ok (.getfield 36, 3) := by decide +kernel
theorem dX1_noteDeed_69 : decode cX1_noteDeed 69 = .ok (.iload 4, 2) := by decide +kernel
theorem dX1_noteDeed_71 : decode cX1_noteDeed 71 = .ok (.iconst 1, 1) := by decide +kernel
theorem dX1_noteDeed_72 : decode cX1_noteDeed 72 = .ok (.iadd, 1) := by decide +kernel
theorem dX1_noteDeed_73 : decode cX1_noteDeed 73 = .ok (.aaload, 1) := by decide +kernel
theorem dX1_noteDeed_74 : decode cX1_noteDeed 74 = .ok (.aastore, 1) := by decide +kernel
theorem dX1_noteDeed_75 : decode cX1_noteDeed 75 = .ok (.iinc 4 1, 3) := by decide +kernel
theorem dX1_noteDeed_78 : decode cX1_noteDeed 78 = .ok (.goto (-60), 3) := by decide +kernel
theorem dX1_noteDeed_81 : decode cX1_noteDeed 81 = .ok (.aload_n 0, 1) := by decide +kernel
theorem dX1_noteDeed_82 : decode cX1_noteDeed 82 = .ok (.getfield 30, 3) := by decide +kernel
theorem dX1_noteDeed_85 : decode cX1_noteDeed 85 = .ok (.aload_n 0, 1) := by decide +kernel
theorem dX1_noteDeed_86 : decode cX1_noteDeed 86 = .ok (.getfield 52, 3) := by decide +kernel
theorem dX1_noteDeed_89 : decode cX1_noteDeed 89 = .ok (.iload_n 1, 1) := by decide +kernel
theorem dX1_noteDeed_90 : decode cX1_noteDeed 90 = .ok (.iastore, 1) := by decide +kernel
theorem dX1_noteDeed_91 : decode cX1_noteDeed 91 = .ok (.aload_n 0, 1) := by decide +kernel
theorem dX1_noteDeed_92 : decode cX1_noteDeed 92 = .ok (.getfield 33, 3) := by decide +kernel
theorem dX1_noteDeed_95 : decode cX1_noteDeed 95 = .ok (.aload_n 0, 1) := by decide +kernel
theorem dX1_noteDeed_96 : decode cX1_noteDeed 96 = .ok (.getfield 52, 3) := by decide +kernel
theorem dX1_noteDeed_99 : decode cX1_noteDeed 99 = .ok (.iload_n 2, 1) := by decide +kernel
theorem dX1_noteDeed_100 : decode cX1_noteDeed 100 = .ok (.iastore, 1) := by decide +kernel
theorem dX1_noteDeed_101 : decode cX1_noteDeed 101 = .ok (.aload_n 0, 1) := by decide +kernel
theorem dX1_noteDeed_102 : decode cX1_noteDeed 102 = .ok (.getfield 36, 3) := by decide +kernel
theorem dX1_noteDeed_105 : decode cX1_noteDeed 105 = .ok (.aload_n 0, 1) := by decide +kernel
theorem dX1_noteDeed_106 : decode cX1_noteDeed 106 = .ok (.getfield 52, 3) := by decide +kernel
theorem dX1_noteDeed_109 : decode cX1_noteDeed 109 = .ok (.aload_n 3, 1) := by decide +kernel
theorem dX1_noteDeed_110 : decode cX1_noteDeed 110 = .ok (.aastore, 1) := by decide +kernel
theorem dX1_noteDeed_111 : decode cX1_noteDeed 111 = .ok (.aload_n 0, 1) := by decide +kernel
theorem dX1_noteDeed_112 : decode cX1_noteDeed 112 = .ok (.dup, 1) := by decide +kernel
theorem dX1_noteDeed_113 : decode cX1_noteDeed 113 = .ok (.getfield 52, 3) := by decide +kernel
theorem dX1_noteDeed_116 : decode cX1_noteDeed 116 = .ok (.iconst 1, 1) := by decide +kernel
theorem dX1_noteDeed_117 : decode cX1_noteDeed 117 = .ok (.iadd, 1) := by decide +kernel
theorem dX1_noteDeed_118 : decode cX1_noteDeed 118 = .ok (.putfield 52, 3) := by decide +kernel
theorem dX1_noteDeed_121 : decode cX1_noteDeed 121 = .ok (.return_, 1) := by decide +kernel
noncomputable def F_X1_noteDeed_18 (k81 : Nat → Int32 → Int32 → Nat → m_M → Option (Unit × m_M)) : Nat → Nat → Int32 → Int32 → Nat → Int32 → m_M → Option (Unit × m_M)
  | 0, _, _, _, _, _, _ => none
  | n + 1, v1, v2, v3, v4, v5, M =>
    x_gI 1 M v1 4 fun v6 =>
    if v6 ≤ v5 then (
      k81 v1 v2 v3 v4 M
    ) else
    x_gN 1 M v1 10 fun v7 =>
    x_gN 1 M v1 10 fun v8 =>
    x_aI 12 M v8 (v5 + (1 : Int32)) fun v9 =>
    x_sI 12 M v7 v5 v9 fun M1 =>
    x_gN 1 M1 v1 11 fun v10 =>
    x_gN 1 M1 v1 11 fun v11 =>
    x_aI 12 M1 v11 (v5 + (1 : Int32)) fun v12 =>
    x_sI 12 M1 v10 v5 v12 fun M2 =>
    x_gN 1 M2 v1 12 fun v13 =>
    x_gN 1 M2 v1 12 fun v14 =>
    x_aN 16 M2 v14 (v5 + (1 : Int32)) fun v15 =>
    x_sR 16 6 M2 v13 v5 (some v15) fun M3 =>
    m_let (v5 + (1 : Int32)) fun v16 =>
    F_X1_noteDeed_18 k81 n v1 v2 v3 v4 v16 M3
noncomputable def F_X1_noteDeed (a0 : Nat) (a1 : Int32) (a2 : Int32) (a3 : Nat) (M : m_M) : Option (Unit × m_M) :=
  m_let (fun (v1 : Nat) (v2 : Int32) (v3 : Int32) (v4 : Nat) (M1 : m_M) =>
    x_gN 1 M1 v1 10 fun v5 =>
    x_gI 1 M1 v1 4 fun v6 =>
    x_sI 12 M1 v5 v6 v2 fun M2 =>
    x_gN 1 M2 v1 11 fun v7 =>
    x_gI 1 M2 v1 4 fun v8 =>
    x_sI 12 M2 v7 v8 v3 fun M3 =>
    x_gN 1 M3 v1 12 fun v9 =>
    x_gI 1 M3 v1 4 fun v10 =>
    x_sR 16 6 M3 v9 v10 (some v4) fun M4 =>
    x_gI 1 M4 v1 4 fun v11 =>
    x_pI 1 M4 v1 4 (v11 + (1 : Int32)) fun M5 =>
    some ((), M5)
  ) fun (k81 : Nat → Int32 → Int32 → Nat → m_M → Option (Unit × m_M)) =>
  x_gI 1 M a0 4 fun v12 =>
  if v12 < (12 : Int32) then (
    k81 a0 a1 a2 a3 M
  ) else
  x_pI 1 M a0 4 (11 : Int32) fun M6 =>
  F_X1_noteDeed_18 k81 m_FU a0 a1 a2 a3 (0 : Int32) M6
set_option maxHeartbeats 4000000 in
theorem L_X1_noteDeed_18 {X : j_X} {Φ : Option Value → m_M → Prop} (C : j_C X yX1_noteDeed cX1_noteDeed 5 none 1 0 0 Φ) {k81 : Nat → Int32 → Int32 → Nat → m_M → Option (Unit × m_M)} (hk81 : ∀ (p0 : Nat) (p1 : Int32) (p2 : Int32) (p3 : Nat) (M : m_M), m_ok e_V Φ (k81 p0 p1 p2 p3 M) → j_J X 5 81 [some (.ref p0), some (.int p1), some (.int p2), some (.ref p3), none] [] (0, 0) M) : ∀ (n : Nat) (v1 : Nat) (v2 : Int32) (v3 : Int32) (v4 : Nat) (v5 : Int32) (M : m_M), m_ok e_V Φ (F_X1_noteDeed_18 k81 n v1 v2 v3 v4 v5 M) → j_J X 5 18 [some (.ref v1), some (.int v2), some (.int v3), some (.ref v4), some (.int v5)] [] (0, 0) M := by
  have C0 := C.1
  intro n
  induction n with
  | zero => intro v1 v2 v3 v4 v5 M h; exact False.elim h
  | succ n ih =>
    intro v1 v2 v3 v4 v5 M h
    rw [F_X1_noteDeed_18] at h
    refine j_iload C0 (pc := 18) dX1_noteDeed_18 rfl ?_
    refine j_aload_n C0 (pc := 20) dX1_noteDeed_20 rfl ?_
    refine X_gI C0 (pc := 21) f_Book_52_1 rfl dX1_noteDeed_21 h (fun v6 h => ?_)
    refine j_icmp_ge C0 (pc := 24) (tgt := 81) dX1_noteDeed_24 (by decide) (fun hc => ?_) (fun hc => ?_)
    · replace h := (X_if h).1 hc
      exact j_J.wq (hk81 v1 v2 v3 v4 M h) (And.intro rfl (And.intro rfl (And.intro rfl (And.intro rfl (trivial)))))
    · replace h := (X_if h).2 hc
      refine j_aload_n C0 (pc := 27) dX1_noteDeed_27 rfl ?_
      refine X_gN C0 (pc := 28) f_Book_30_1 rfl dX1_noteDeed_28 h (fun v7 h => ?_)
      refine j_iload C0 (pc := 31) dX1_noteDeed_31 rfl ?_
      refine j_aload_n C0 (pc := 33) dX1_noteDeed_33 rfl ?_
      refine X_gN C0 (pc := 34) f_Book_30_1 rfl dX1_noteDeed_34 h (fun v8 h => ?_)
      refine j_iload C0 (pc := 37) dX1_noteDeed_37 rfl ?_
      refine j_iconst C0 (pc := 39) dX1_noteDeed_39 (v := (1 : Int32)) (by decide) ?_
      refine j_iadd C0 (pc := 40) dX1_noteDeed_40 ?_
      refine X_iald C0 (pc := 41) dX1_noteDeed_41 h (fun v9 h => ?_)
      refine X_iast C0 (pc := 42) dX1_noteDeed_42 h (fun M1 h => ?_)
      refine j_aload_n C0 (pc := 43) dX1_noteDeed_43 rfl ?_
      refine X_gN C0 (pc := 44) f_Book_33_1 rfl dX1_noteDeed_44 h (fun v10 h => ?_)
      refine j_iload C0 (pc := 47) dX1_noteDeed_47 rfl ?_
      refine j_aload_n C0 (pc := 49) dX1_noteDeed_49 rfl ?_
      refine X_gN C0 (pc := 50) f_Book_33_1 rfl dX1_noteDeed_50 h (fun v11 h => ?_)
      refine j_iload C0 (pc := 53) dX1_noteDeed_53 rfl ?_
      refine j_iconst C0 (pc := 55) dX1_noteDeed_55 (v := (1 : Int32)) (by decide) ?_
      refine j_iadd C0 (pc := 56) dX1_noteDeed_56 ?_
      refine X_iald C0 (pc := 57) dX1_noteDeed_57 h (fun v12 h => ?_)
      refine X_iast C0 (pc := 58) dX1_noteDeed_58 h (fun M2 h => ?_)
      refine j_aload_n C0 (pc := 59) dX1_noteDeed_59 rfl ?_
      refine X_gN C0 (pc := 60) f_Book_36_1 rfl dX1_noteDeed_60 h (fun v13 h => ?_)
      refine j_iload C0 (pc := 63) dX1_noteDeed_63 rfl ?_
      refine j_aload_n C0 (pc := 65) dX1_noteDeed_65 rfl ?_
      refine X_gN C0 (pc := 66) f_Book_36_1 rfl dX1_noteDeed_66 h (fun v14 h => ?_)
      refine j_iload C0 (pc := 69) dX1_noteDeed_69 rfl ?_
      refine j_iconst C0 (pc := 71) dX1_noteDeed_71 (v := (1 : Int32)) (by decide) ?_
      refine j_iadd C0 (pc := 72) dX1_noteDeed_72 ?_
      refine X_aaldN C0 (pc := 73) (by decide) dX1_noteDeed_73 h (fun v15 h => ?_)
      refine X_aastN C0 (pc := 74) (by decide) dX1_noteDeed_74 h (fun M3 h => ?_)
      refine j_iinc C0 (pc := 75) dX1_noteDeed_75 (v := v5 + (1 : Int32)) rfl (Nat.le_of_ble_eq_true rfl) (by rfl) ?_
      refine X_let (G := fun w => j_J X 5 78 [some (.ref v1), some (.int v2), some (.int v3), some (.ref v4), some (.int w)] [] (0, 0) M3) h (fun v16 h => ?_)
      refine j_goto C0 (pc := 78) (tgt := 18) dX1_noteDeed_78 (by decide) ?_
      exact j_J.wq (ih v1 v2 v3 v4 v16 M3 h) (And.intro rfl (And.intro rfl (And.intro rfl (And.intro rfl (And.intro rfl (trivial))))))
set_option maxHeartbeats 4000000 in
theorem K_X1_noteDeed (a0 : Nat) (a1 : Int32) (a2 : Int32) (a3 : Nat) (M : m_M) (Φ : Option Value → m_M → Prop) (h : m_ok e_V Φ (F_X1_noteDeed a0 a1 a2 a3 M)) : j_Ct yX1_noteDeed cX1_noteDeed 5 none 1 0 0 [.ref a0, .int a1, .int a2, .ref a3] M Φ := by
  refine j_Ct.of (by decide +kernel) (Nat.le_of_ble_eq_true rfl) fun X C => ?_
  have C0 := C.1
  show j_J X 5 0 [some (.ref a0), some (.int a1), some (.int a2), some (.ref a3), none] [] (0, 0) M
  unfold F_X1_noteDeed at h
  refine X_join (fun (kj : Nat → Int32 → Int32 → Nat → m_M → Option (Unit × m_M)) => ∀ (p0 : Nat) (p1 : Int32) (p2 : Int32) (p3 : Nat) (M : m_M), m_ok e_V Φ (kj p0 p1 p2 p3 M) → j_J X 5 81 [some (.ref p0), some (.int p1), some (.int p2), some (.ref p3), none] [] (0, 0) M) h (fun v1 v2 v3 v4 M1 h => ?_) (fun k81 hk81 h => ?_)
  · refine j_aload_n C0 (pc := 81) dX1_noteDeed_81 rfl ?_
    refine X_gN C0 (pc := 82) f_Book_30_1 rfl dX1_noteDeed_82 h (fun v5 h => ?_)
    refine j_aload_n C0 (pc := 85) dX1_noteDeed_85 rfl ?_
    refine X_gI C0 (pc := 86) f_Book_52_1 rfl dX1_noteDeed_86 h (fun v6 h => ?_)
    refine j_iload_n C0 (pc := 89) dX1_noteDeed_89 rfl ?_
    refine X_iast C0 (pc := 90) dX1_noteDeed_90 h (fun M2 h => ?_)
    refine j_aload_n C0 (pc := 91) dX1_noteDeed_91 rfl ?_
    refine X_gN C0 (pc := 92) f_Book_33_1 rfl dX1_noteDeed_92 h (fun v7 h => ?_)
    refine j_aload_n C0 (pc := 95) dX1_noteDeed_95 rfl ?_
    refine X_gI C0 (pc := 96) f_Book_52_1 rfl dX1_noteDeed_96 h (fun v8 h => ?_)
    refine j_iload_n C0 (pc := 99) dX1_noteDeed_99 rfl ?_
    refine X_iast C0 (pc := 100) dX1_noteDeed_100 h (fun M3 h => ?_)
    refine j_aload_n C0 (pc := 101) dX1_noteDeed_101 rfl ?_
    refine X_gN C0 (pc := 102) f_Book_36_1 rfl dX1_noteDeed_102 h (fun v9 h => ?_)
    refine j_aload_n C0 (pc := 105) dX1_noteDeed_105 rfl ?_
    refine X_gI C0 (pc := 106) f_Book_52_1 rfl dX1_noteDeed_106 h (fun v10 h => ?_)
    refine j_aload_n C0 (pc := 109) dX1_noteDeed_109 rfl ?_
    refine X_aastN C0 (pc := 110) (by decide) dX1_noteDeed_110 h (fun M4 h => ?_)
    refine j_aload_n C0 (pc := 111) dX1_noteDeed_111 rfl ?_
    refine j_dup C0 (pc := 112) dX1_noteDeed_112 rfl ?_
    refine X_gI C0 (pc := 113) f_Book_52_1 rfl dX1_noteDeed_113 h (fun v11 h => ?_)
    refine j_iconst C0 (pc := 116) dX1_noteDeed_116 (v := (1 : Int32)) (by decide) ?_
    refine j_iadd C0 (pc := 117) dX1_noteDeed_117 ?_
    refine X_pI C0 (pc := 118) f_Book_52_1 rfl rfl dX1_noteDeed_118 h (fun M5 h => ?_)
    exact j_vret C rfl h dX1_noteDeed_121 (by decide)
  · refine j_aload_n C0 (pc := 0) dX1_noteDeed_0 rfl ?_
    refine X_gI C0 (pc := 1) f_Book_52_1 rfl dX1_noteDeed_1 h (fun v12 h => ?_)
    refine j_bipush C0 (pc := 4) dX1_noteDeed_4 (v := (12 : Int32)) (by decide) ?_
    refine j_icmp_lt C0 (pc := 6) (tgt := 81) dX1_noteDeed_6 (by decide) (fun hc => ?_) (fun hc => ?_)
    · replace h := (X_if h).1 hc
      exact j_J.wq (hk81 a0 a1 a2 a3 M h) (And.intro rfl (And.intro rfl (And.intro rfl (And.intro rfl (trivial)))))
    · replace h := (X_if h).2 hc
      refine j_aload_n C0 (pc := 9) dX1_noteDeed_9 rfl ?_
      refine j_bipush C0 (pc := 10) dX1_noteDeed_10 (v := (11 : Int32)) (by decide) ?_
      refine X_pI C0 (pc := 12) f_Book_52_1 rfl rfl dX1_noteDeed_12 h (fun M6 h => ?_)
      refine j_iconst C0 (pc := 15) dX1_noteDeed_15 (v := (0 : Int32)) (by decide) ?_
      refine j_istore C0 (pc := 16) dX1_noteDeed_16 (Nat.le_of_ble_eq_true rfl) ?_
      show j_J X 5 18 [some (.ref a0), some (.int a1), some (.int a2), some (.ref a3), some (.int (0 : Int32))] [] (0, 0) M6
      exact j_J.wq (L_X1_noteDeed_18 C hk81 m_FU a0 a1 a2 a3 (0 : Int32) M6 h) (And.intro rfl (And.intro rfl (And.intro rfl (And.intro rfl (And.intro rfl (trivial))))))
theorem dX1_keepOrder_0 : decode cX1_keepOrder 0 = .ok (.aload_n 0, 1) := by decide +kernel
theorem dX1_keepOrder_1 : decode cX1_keepOrder 1 = .ok (.getfield 46, 3) := by decide +kernel
theorem dX1_keepOrder_4 : decode cX1_keepOrder 4 = .ok (.iconst 4, 1) := by decide +kernel
theorem dX1_keepOrder_5 : decode cX1_keepOrder 5 = .ok (.if_icmp .ge 35, 3) := by decide +kernel
theorem dX1_keepOrder_8 : decode cX1_keepOrder 8 = .ok (.aload_n 0, 1) := by decide +kernel
theorem dX1_keepOrder_9 : decode cX1_keepOrder 9 = .ok (.getfield 24, 3) := by decide +kernel
theorem dX1_keepOrder_12 : decode cX1_keepOrder 12 = .ok (.aload_n 0, 1) := by decide +kernel
theorem dX1_keepOrder_13 : decode cX1_keepOrder 13 = .ok (.getfield 46, 3) := by decide +kernel
theorem dX1_keepOrder_16 : decode cX1_keepOrder 16 = .ok (.aload_n 1, 1) := by decide +kernel
theorem dX1_keepOrder_17 : decode cX1_keepOrder 17 = .ok (.aastore, 1) := by decide +kernel
theorem dX1_keepOrder_18 : decode cX1_keepOrder 18 = .ok (.aload_n 0, 1) := by decide +kernel
theorem dX1_keepOrder_19 : decode cX1_keepOrder 19 = .ok (.dup, 1) := by decide +kernel
theorem dX1_keepOrder_20 : decode cX1_keepOrder 20 = .ok (.getfield 46, 3) := by decide +kernel
theorem dX1_keepOrder_23 : decode cX1_keepOrder 23 = .ok (.iconst 1, 1) := by decide +kernel
theorem dX1_keepOrder_24 : decode cX1_keepOrder 24 = .ok (.iadd, 1) := by decide +kernel
theorem dX1_keepOrder_25 : decode cX1_keepOrder 25 = .ok (.putfield 46, 3) := by decide +kernel
theorem dX1_keepOrder_28 : decode cX1_keepOrder 28 = .ok (.aload_n 0, 1) := by decide +kernel
theorem dX1_keepOrder_29 : decode cX1_keepOrder 29 = .ok (.iconst 2, 1) := by decide +kernel
theorem dX1_keepOrder_30 : decode cX1_keepOrder 30 = .ok (.aload_n 0, 1) := by decide +kernel
theorem dX1_keepOrder_31 : decode cX1_keepOrder 31 = .ok (.getfield 46, 3) := by decide +kernel
theorem dX1_keepOrder_34 : decode cX1_keepOrder 34 = .ok (.iconst 1, 1) := by decide +kernel
theorem dX1_keepOrder_35 : decode cX1_keepOrder 35 = .ok (.isub, 1) := by decide +kernel
theorem dX1_keepOrder_36 : decode cX1_keepOrder 36 = .ok (.aload_n 1, 1) := by decide +kernel
theorem dX1_keepOrder_37 : decode cX1_keepOrder 37 = .ok (.invokevirtual 65, 3) := by decide +kernel
theorem dX1_keepOrder_40 : decode cX1_keepOrder 40 = .ok (.return_, 1) := by decide +kernel
noncomputable def F_X1_keepOrder (a0 : Nat) (a1 : Nat) (M : m_M) : Option (Unit × m_M) :=
  x_gI 1 M a0 2 fun v1 =>
  if (4 : Int32) ≤ v1 then (
    some ((), M)
  ) else
  x_gN 1 M a0 8 fun v2 =>
  x_gI 1 M a0 2 fun v3 =>
  x_sR 16 6 M v2 v3 (some a1) fun M1 =>
  x_gI 1 M1 a0 2 fun v4 =>
  x_pI 1 M1 a0 2 (v4 + (1 : Int32)) fun M2 =>
  x_gI 1 M2 a0 2 fun v5 =>
  x_cV 1 M2 a0 (F_X1_noteDeed a0 (2 : Int32) (v5 - (1 : Int32)) a1 M2) fun _ M3 =>
  some ((), M3)
set_option maxHeartbeats 4000000 in
theorem K_X1_keepOrder (a0 : Nat) (a1 : Nat) (M : m_M) (Φ : Option Value → m_M → Prop) (h : m_ok e_V Φ (F_X1_keepOrder a0 a1 M)) : j_Ct yX1_keepOrder cX1_keepOrder 2 none 2 0 0 [.ref a0, .ref a1] M Φ := by
  refine j_Ct.of (by decide +kernel) (Nat.le_of_ble_eq_true rfl) fun X C => ?_
  have C0 := C.1
  show j_J X 2 0 [some (.ref a0), some (.ref a1)] [] (0, 0) M
  unfold F_X1_keepOrder at h
  refine j_aload_n C0 (pc := 0) dX1_keepOrder_0 rfl ?_
  refine X_gI C0 (pc := 1) f_Book_46_1 rfl dX1_keepOrder_1 h (fun v1 h => ?_)
  refine j_iconst C0 (pc := 4) dX1_keepOrder_4 (v := (4 : Int32)) (by decide) ?_
  refine j_icmp_ge C0 (pc := 5) (tgt := 40) dX1_keepOrder_5 (by decide) (fun hc => ?_) (fun hc => ?_)
  · replace h := (X_if h).1 hc
    exact j_vret C rfl h dX1_keepOrder_40 (by decide)
  · replace h := (X_if h).2 hc
    refine j_aload_n C0 (pc := 8) dX1_keepOrder_8 rfl ?_
    refine X_gN C0 (pc := 9) f_Book_24_1 rfl dX1_keepOrder_9 h (fun v2 h => ?_)
    refine j_aload_n C0 (pc := 12) dX1_keepOrder_12 rfl ?_
    refine X_gI C0 (pc := 13) f_Book_46_1 rfl dX1_keepOrder_13 h (fun v3 h => ?_)
    refine j_aload_n C0 (pc := 16) dX1_keepOrder_16 rfl ?_
    refine X_aastN C0 (pc := 17) (by decide) dX1_keepOrder_17 h (fun M1 h => ?_)
    refine j_aload_n C0 (pc := 18) dX1_keepOrder_18 rfl ?_
    refine j_dup C0 (pc := 19) dX1_keepOrder_19 rfl ?_
    refine X_gI C0 (pc := 20) f_Book_46_1 rfl dX1_keepOrder_20 h (fun v4 h => ?_)
    refine j_iconst C0 (pc := 23) dX1_keepOrder_23 (v := (1 : Int32)) (by decide) ?_
    refine j_iadd C0 (pc := 24) dX1_keepOrder_24 ?_
    refine X_pI C0 (pc := 25) f_Book_46_1 rfl rfl dX1_keepOrder_25 h (fun M2 h => ?_)
    refine j_aload_n C0 (pc := 28) dX1_keepOrder_28 rfl ?_
    refine j_iconst C0 (pc := 29) dX1_keepOrder_29 (v := (2 : Int32)) (by decide) ?_
    refine j_aload_n C0 (pc := 30) dX1_keepOrder_30 rfl ?_
    refine X_gI C0 (pc := 31) f_Book_46_1 rfl dX1_keepOrder_31 h (fun v5 h => ?_)
    refine j_iconst C0 (pc := 34) dX1_keepOrder_34 (v := (1 : Int32)) (by decide) ?_
    refine j_isub C0 (pc := 35) dX1_keepOrder_35 ?_
    refine j_aload_n C0 (pc := 36) dX1_keepOrder_36 rfl ?_
    refine X_cV C0 (pc := 37) (e' := e_V) (as := [.int (2 : Int32), .int (v5 - (1 : Int32)), .ref a1]) (rest := []) (s' := fun _ => []) (g' := (0, 0)) v_Book_65_1 (fun Ψ hΨ => K_X1_noteDeed a0 (2 : Int32) (v5 - (1 : Int32)) a1 M2 Ψ hΨ) rfl rfl (fun _ => rfl) (by decide) (by decide) rfl (Nat.le_of_ble_eq_true rfl) dX1_keepOrder_37 h (fun _ M3 h => ?_)
    exact j_vret C rfl h dX1_keepOrder_40 (by decide)
theorem dX11_order_0 : decode cX11_order 0 = .ok (.aload_n 0, 1) := by decide +kernel
theorem dX11_order_1 : decode cX11_order 1 = .ok (.getfield 35, 3) := by decide +kernel
theorem dX11_order_4 : decode cX11_order 4 = .ok (.aload_n 0, 1) := by decide +kernel
theorem dX11_order_5 : decode cX11_order 5 = .ok (.invokevirtual 98, 3) := by decide +kernel
theorem dX11_order_8 : decode cX11_order 8 = .ok (.invokevirtual 112, 3) := by decide +kernel
theorem dX11_order_11 : decode cX11_order 11 = .ok (.istore_n 2, 1) := by decide +kernel
theorem dX11_order_12 : decode cX11_order 12 = .ok (.iload_n 2, 1) := by decide +kernel
theorem dX11_order_13 : decode cX11_order 13 = .ok (.ifCond .eq 5, 3) := by decide +kernel
theorem dX11_order_16 : decode cX11_order 16 = .ok (.iload_n 2, 1) := by decide +kernel
theorem dX11_order_17 : decode cX11_order 17 = .ok (.ireturn, 1) := by decide +kernel
theorem dX11_order_18 : decode cX11_order 18 = .ok (.iload_n 1, 1) := by decide +kernel
theorem dX11_order_19 : decode cX11_order 19 = .ok (.iconst 1, 1) := by decide +kernel
theorem dX11_order_20 : decode cX11_order 20 = .ok (.if_icmp .lt 9, 3) := by decide +kernel
theorem dX11_order_23 : decode cX11_order 23 = .ok (.iload_n 1, 1) := by decide +kernel
theorem dX11_order_24 : decode cX11_order 24 = .ok (.bipush 99, 2) := by decide +kernel
theorem dX11_order_26 : decode cX11_order 26 = .ok (.if_icmp .le 6, 3) := by decide +kernel
theorem dX11_order_29 : decode cX11_order 29 = .ok (.bipush (-2), 2) := by decide +kernel
theorem dX11_order_31 : decode cX11_order 31 = .ok (.ireturn, 1) := by decide +kernel
theorem dX11_order_32 : decode cX11_order 32 = .ok (.aload_n 0, 1) := by decide +kernel
theorem dX11_order_33 : decode cX11_order 33 = .ok (.getfield 65, 3) := by decide +kernel
theorem dX11_order_36 : decode cX11_order 36 = .ok (.getfield 130, 3) := by decide +kernel
theorem dX11_order_39 : decode cX11_order 39 = .ok (.iconst 4, 1) := by decide +kernel
theorem dX11_order_40 : decode cX11_order 40 = .ok (.if_icmp .lt 6, 3) := by decide +kernel
theorem dX11_order_43 : decode cX11_order 43 = .ok (.bipush (-3), 2) := by decide +kernel
theorem dX11_order_45 : decode cX11_order 45 = .ok (.ireturn, 1) := by decide +kernel
theorem dX11_order_46 : decode cX11_order 46 = .ok (.aload_n 0, 1) := by decide +kernel
theorem dX11_order_47 : decode cX11_order 47 = .ok (.getfield 65, 3) := by decide +kernel
theorem dX11_order_50 : decode cX11_order 50 = .ok (.aload_n 0, 1) := by decide +kernel
theorem dX11_order_51 : decode cX11_order 51 = .ok (.aload_n 0, 1) := by decide +kernel
theorem dX11_order_52 : decode cX11_order 52 = .ok (.getfield 65, 3) := by decide +kernel
theorem dX11_order_55 : decode cX11_order 55 = .ok (.getfield 119, 3) := by decide +kernel
theorem dX11_order_58 : decode cX11_order 58 = .ok (.iload_n 1, 1) := by decide +kernel
theorem dX11_order_59 : decode cX11_order 59 = .ok (.iadd, 1) := by decide +kernel
theorem dX11_order_60 : decode cX11_order 60 = .ok (.invokevirtual 122, 3) := by decide +kernel
theorem dX11_order_63 : decode cX11_order 63 = .ok (.invokevirtual 133, 3) := by decide +kernel
theorem dX11_order_66 : decode cX11_order 66 = .ok (.iconst 0, 1) := by decide +kernel
theorem dX11_order_67 : decode cX11_order 67 = .ok (.ireturn, 1) := by decide +kernel
noncomputable def F_X11_order (a0 : Nat) (a1 : Int32) (M : m_M) : Option (Int32 × m_M) :=
  x_gN 9 M a0 5 fun v1 =>
  x_cV 9 M a0 (F_X11_takeTape a0 M) fun v2 M1 =>
  x_cV 7 M1 v1 (F_X7_read v1 v2 M1) fun v3 M2 =>
  if v3 = 0 then (
    if a1 < (1 : Int32) then (
      some ((-2 : Int32), M2)
    ) else
    if a1 ≤ (99 : Int32) then (
      x_gN 9 M2 a0 9 fun v4 =>
      x_gI 1 M2 v4 2 fun v5 =>
      if v5 < (4 : Int32) then (
        x_gN 9 M2 a0 9 fun v6 =>
        x_gN 9 M2 a0 9 fun v7 =>
        x_gI 1 M2 v7 0 fun v8 =>
        x_cV 9 M2 a0 (F_X11_sayingFor a0 (v8 + a1) M2) fun v9 M3 =>
        x_cV 1 M3 v6 (F_X1_keepOrder v6 v9 M3) fun _ M4 =>
        some ((0 : Int32), M4)
      ) else
      some ((-3 : Int32), M2)
    ) else
    some ((-2 : Int32), M2)
  ) else
  some (v3, M2)
set_option maxHeartbeats 4000000 in
theorem K_X11_order (a0 : Nat) (a1 : Int32) (M : m_M) (Φ : Option Value → m_M → Prop) (h : m_ok e_I Φ (F_X11_order a0 a1 M)) : j_Ct yX11_order cX11_order 3 (some .int) 74 4 1021 [.ref a0, .int a1] M Φ := by
  refine j_Ct.of (by decide +kernel) (Nat.le_of_ble_eq_true rfl) fun X C => ?_
  have C0 := C.1
  show j_J X 3 0 [some (.ref a0), some (.int a1), none] [] (0, 0) M
  unfold F_X11_order at h
  refine j_aload_n C0 (pc := 0) dX11_order_0 rfl ?_
  refine X_gN C0 (pc := 1) f_OV_35_9 rfl dX11_order_1 h (fun v1 h => ?_)
  refine j_aload_n C0 (pc := 4) dX11_order_4 rfl ?_
  refine X_cV C0 (pc := 5) (e' := e_I) (as := []) (rest := [.ref v1]) (s' := fun w => .int w :: [.ref v1]) (g' := (0, 0)) v_OV_98_9 (fun Ψ hΨ => K_X11_takeTape a0 M Ψ hΨ) rfl rfl (fun _ => rfl) (by decide) (by decide) rfl (Nat.le_of_ble_eq_true rfl) dX11_order_5 h (fun v2 M1 h => ?_)
  refine X_cV C0 (pc := 8) (e' := e_I) (as := [.int v2]) (rest := []) (s' := fun w => .int w :: []) (g' := (0, 0)) v_OV_112_7 (fun Ψ hΨ => K_X7_read v1 v2 M1 Ψ hΨ) rfl rfl (fun _ => rfl) (by decide) (by decide) rfl (Nat.le_of_ble_eq_true rfl) dX11_order_8 h (fun v3 M2 h => ?_)
  refine j_istore_n C0 (pc := 11) dX11_order_11 (Nat.le_of_ble_eq_true rfl) ?_
  show j_J X 3 12 [some (.ref a0), some (.int a1), some (.int v3)] [] (0, 0) M2
  refine j_iload_n C0 (pc := 12) dX11_order_12 rfl ?_
  refine j_if_eq C0 (pc := 13) (tgt := 18) dX11_order_13 (by decide) (fun hc => ?_) (fun hc => ?_)
  · replace h := (X_if h).1 hc
    refine j_iload_n C0 (pc := 18) dX11_order_18 rfl ?_
    refine j_iconst C0 (pc := 19) dX11_order_19 (v := (1 : Int32)) (by decide) ?_
    refine j_icmp_lt C0 (pc := 20) (tgt := 29) dX11_order_20 (by decide) (fun hc => ?_) (fun hc => ?_)
    · replace h := (X_if h).1 hc
      refine j_bipush C0 (pc := 29) dX11_order_29 (v := (-2 : Int32)) (by decide) ?_
      exact j_iret C rfl h dX11_order_31 (by decide)
    · replace h := (X_if h).2 hc
      refine j_iload_n C0 (pc := 23) dX11_order_23 rfl ?_
      refine j_bipush C0 (pc := 24) dX11_order_24 (v := (99 : Int32)) (by decide) ?_
      refine j_icmp_le C0 (pc := 26) (tgt := 32) dX11_order_26 (by decide) (fun hc => ?_) (fun hc => ?_)
      · replace h := (X_if h).1 hc
        refine j_aload_n C0 (pc := 32) dX11_order_32 rfl ?_
        refine X_gN C0 (pc := 33) f_OV_65_9 rfl dX11_order_33 h (fun v4 h => ?_)
        refine X_gI C0 (pc := 36) f_OV_130_1 rfl dX11_order_36 h (fun v5 h => ?_)
        refine j_iconst C0 (pc := 39) dX11_order_39 (v := (4 : Int32)) (by decide) ?_
        refine j_icmp_lt C0 (pc := 40) (tgt := 46) dX11_order_40 (by decide) (fun hc => ?_) (fun hc => ?_)
        · replace h := (X_if h).1 hc
          refine j_aload_n C0 (pc := 46) dX11_order_46 rfl ?_
          refine X_gN C0 (pc := 47) f_OV_65_9 rfl dX11_order_47 h (fun v6 h => ?_)
          refine j_aload_n C0 (pc := 50) dX11_order_50 rfl ?_
          refine j_aload_n C0 (pc := 51) dX11_order_51 rfl ?_
          refine X_gN C0 (pc := 52) f_OV_65_9 rfl dX11_order_52 h (fun v7 h => ?_)
          refine X_gI C0 (pc := 55) f_OV_119_1 rfl dX11_order_55 h (fun v8 h => ?_)
          refine j_iload_n C0 (pc := 58) dX11_order_58 rfl ?_
          refine j_iadd C0 (pc := 59) dX11_order_59 ?_
          refine X_cV C0 (pc := 60) (e' := e_N) (as := [.int (v8 + a1)]) (rest := [.ref v6]) (s' := fun w => .ref w :: [.ref v6]) (g' := (4, 1021)) v_OV_122_9 (fun Ψ hΨ => K_X11_sayingFor a0 (v8 + a1) M2 Ψ hΨ) rfl rfl (fun _ => rfl) (by decide) (by decide) rfl (Nat.le_of_ble_eq_true rfl) dX11_order_60 h (fun v9 M3 h => ?_)
          refine X_cV C0 (pc := 63) (e' := e_V) (as := [.ref v9]) (rest := []) (s' := fun _ => []) (g' := (4, 1021)) v_OV_133_1 (fun Ψ hΨ => K_X1_keepOrder v6 v9 M3 Ψ hΨ) rfl rfl (fun _ => rfl) (by decide) (by decide) rfl (Nat.le_of_ble_eq_true rfl) dX11_order_63 h (fun _ M4 h => ?_)
          refine j_iconst C0 (pc := 66) dX11_order_66 (v := (0 : Int32)) (by decide) ?_
          exact j_iret C rfl h dX11_order_67 (by decide)
        · replace h := (X_if h).2 hc
          refine j_bipush C0 (pc := 43) dX11_order_43 (v := (-3 : Int32)) (by decide) ?_
          exact j_iret C rfl h dX11_order_45 (by decide)
      · replace h := (X_if h).2 hc
        refine j_bipush C0 (pc := 29) dX11_order_29 (v := (-2 : Int32)) (by decide) ?_
        exact j_iret C rfl h dX11_order_31 (by decide)
  · replace h := (X_if h).2 hc
    refine j_iload_n C0 (pc := 16) dX11_order_16 rfl ?_
    exact j_iret C rfl h dX11_order_17 (by decide)
theorem dX11_ordered_0 : decode cX11_ordered 0 = .ok (.aload_n 0, 1) := by decide +kernel
theorem dX11_ordered_1 : decode cX11_ordered 1 = .ok (.getfield 65, 3) := by decide +kernel
theorem dX11_ordered_4 : decode cX11_ordered 4 = .ok (.iload_n 1, 1) := by decide +kernel
theorem dX11_ordered_5 : decode cX11_ordered 5 = .ok (.invokevirtual 177, 3) := by decide +kernel
theorem dX11_ordered_8 : decode cX11_ordered 8 = .ok (.astore_n 3, 1) := by decide +kernel
theorem dX11_ordered_9 : decode cX11_ordered 9 = .ok (.aload_n 3, 1) := by decide +kernel
theorem dX11_ordered_10 : decode cX11_ordered 10 = .ok (.ifnonnull 5, 3) := by decide +kernel
theorem dX11_ordered_13 : decode cX11_ordered 13 = .ok (.iconst (-1), 1) := by decide +kernel
theorem dX11_ordered_14 : decode cX11_ordered 14 = .ok (.ireturn, 1) := by decide +kernel
theorem dX11_ordered_15 : decode cX11_ordered 15 = .ok (.iload_n 2, 1) := by decide +kernel
theorem dX11_ordered_16 : decode cX11_ordered 16 = .ok (.tableswitch 71 0 3 #[32, 37, 45, 58], 32) := by decide +kernel
theorem dX11_ordered_48 : decode cX11_ordered 48 = .ok (.aload_n 3, 1) := by decide +kernel
theorem dX11_ordered_49 : decode cX11_ordered 49 = .ok (.getfield 168, 3) := by decide +kernel
theorem dX11_ordered_52 : decode cX11_ordered 52 = .ok (.ireturn, 1) := by decide +kernel
theorem dX11_ordered_53 : decode cX11_ordered 53 = .ok (.aload_n 3, 1) := by decide +kernel
theorem dX11_ordered_54 : decode cX11_ordered 54 = .ok (.getfield 171, 3) := by decide +kernel
theorem dX11_ordered_57 : decode cX11_ordered 57 = .ok (.invokevirtual 174, 3) := by decide +kernel
theorem dX11_ordered_60 : decode cX11_ordered 60 = .ok (.ireturn, 1) := by decide +kernel
theorem dX11_ordered_61 : decode cX11_ordered 61 = .ok (.aload_n 0, 1) := by decide +kernel
theorem dX11_ordered_62 : decode cX11_ordered 62 = .ok (.aload_n 3, 1) := by decide +kernel
theorem dX11_ordered_63 : decode cX11_ordered 63 = .ok (.invokevirtual 180, 3) := by decide +kernel
theorem dX11_ordered_66 : decode cX11_ordered 66 = .ok (.aload_n 0, 1) := by decide +kernel
theorem dX11_ordered_67 : decode cX11_ordered 67 = .ok (.getfield 84, 3) := by decide +kernel
theorem dX11_ordered_70 : decode cX11_ordered 70 = .ok (.invokevirtual 174, 3) := by decide +kernel
theorem dX11_ordered_73 : decode cX11_ordered 73 = .ok (.ireturn, 1) := by decide +kernel
theorem dX11_ordered_74 : decode cX11_ordered 74 = .ok (.aload_n 0, 1) := by decide +kernel
theorem dX11_ordered_75 : decode cX11_ordered 75 = .ok (.aload_n 3, 1) := by decide +kernel
theorem dX11_ordered_76 : decode cX11_ordered 76 = .ok (.invokevirtual 180, 3) := by decide +kernel
theorem dX11_ordered_79 : decode cX11_ordered 79 = .ok (.aload_n 0, 1) := by decide +kernel
theorem dX11_ordered_80 : decode cX11_ordered 80 = .ok (.getfield 84, 3) := by decide +kernel
theorem dX11_ordered_83 : decode cX11_ordered 83 = .ok (.invokevirtual 183, 3) := by decide +kernel
theorem dX11_ordered_86 : decode cX11_ordered 86 = .ok (.ireturn, 1) := by decide +kernel
theorem dX11_ordered_87 : decode cX11_ordered 87 = .ok (.iconst (-1), 1) := by decide +kernel
theorem dX11_ordered_88 : decode cX11_ordered 88 = .ok (.ireturn, 1) := by decide +kernel
noncomputable def F_X11_ordered (a0 : Nat) (a1 : Int32) (a2 : Int32) (M : m_M) : Option (Int32 × m_M) :=
  x_gN 9 M a0 9 fun v1 =>
  x_cV 1 M v1 (F_X1_orderAt v1 a1 M) fun v2 M1 =>
  x_nul v2 (
    some ((-1 : Int32), M1)
  ) fun v3 =>
  if a2 = (0 : Int32) then (
    x_gI 6 M1 v3 2 fun v4 =>
    some (v4, M1)
  ) else
  if a2 = (1 : Int32) then (
    x_gN 6 M1 v3 3 fun v5 =>
    x_cV 8 M1 v5 (F_X10_size v5 M1) fun v6 M2 =>
    some (v6, M2)
  ) else
  if a2 = (2 : Int32) then (
    x_cV 9 M1 a0 (F_X11_findLoopholes a0 v3 M1) fun _ M3 =>
    x_gN 9 M3 a0 13 fun v7 =>
    x_cV 8 M3 v7 (F_X10_size v7 M3) fun v8 M4 =>
    some (v8, M4)
  ) else
  if a2 = (3 : Int32) then (
    x_cV 9 M1 a0 (F_X11_findLoopholes a0 v3 M1) fun _ M5 =>
    x_gN 9 M5 a0 13 fun v9 =>
    x_cV 8 M5 v9 (F_X10_least v9 M5) fun v10 M6 =>
    some (v10, M6)
  ) else
  some ((-1 : Int32), M1)
set_option maxHeartbeats 4000000 in
theorem K_X11_ordered (a0 : Nat) (a1 : Int32) (a2 : Int32) (M : m_M) (Φ : Option Value → m_M → Prop) (h : m_ok e_I Φ (F_X11_ordered a0 a1 a2 M)) : j_Ct yX11_ordered cX11_ordered 4 (some .int) 8 0 0 [.ref a0, .int a1, .int a2] M Φ := by
  refine j_Ct.of (by decide +kernel) (Nat.le_of_ble_eq_true rfl) fun X C => ?_
  have C0 := C.1
  show j_J X 4 0 [some (.ref a0), some (.int a1), some (.int a2), none] [] (0, 0) M
  unfold F_X11_ordered at h
  refine j_aload_n C0 (pc := 0) dX11_ordered_0 rfl ?_
  refine X_gN C0 (pc := 1) f_OV_65_9 rfl dX11_ordered_1 h (fun v1 h => ?_)
  refine j_iload_n C0 (pc := 4) dX11_ordered_4 rfl ?_
  refine X_cV C0 (pc := 5) (e' := e_O) (as := [.int a1]) (rest := []) (s' := fun w => va_rf w :: []) (g' := (0, 0)) v_OV_177_1 (fun Ψ hΨ => K_X1_orderAt v1 a1 M Ψ hΨ) rfl rfl (fun _ => rfl) (by decide) (by decide) rfl (Nat.le_of_ble_eq_true rfl) dX11_ordered_5 h (fun v2 M1 h => ?_)
  refine j_astore_nO C0 (pc := 8) dX11_ordered_8 (Nat.le_of_ble_eq_true rfl) ?_
  show j_J X 4 9 [some (.ref a0), some (.int a1), some (.int a2), some (va_rf v2)] [] (0, 0) M1
  refine j_aload_nO C0 (pc := 9) dX11_ordered_9 rfl ?_
  rcases v2 with _ | v3
  · refine j_ifnonnullN C0 (pc := 10) dX11_ordered_10 ?_
    simp only [x_nul] at h
    refine j_iconst C0 (pc := 13) dX11_ordered_13 (v := (-1 : Int32)) (by decide) ?_
    exact j_iret C rfl h dX11_ordered_14 (by decide)
  · refine j_ifnonnull C0 (pc := 10) (tgt := 15) dX11_ordered_10 (by decide) ?_
    simp only [x_nul] at h
    refine j_iload_n C0 (pc := 15) dX11_ordered_15 rfl ?_
    by_cases hc : a2 = (0 : Int32)
    · replace h := (X_if h).1 hc
      refine j_tableIn C0 (pc := 16) (off := 32) (tgt := 48) dX11_ordered_16 (by rw [hc]; decide) (by rw [hc]; decide) (by rw [hc]; decide) (by decide) ?_
      refine j_aload_n C0 (pc := 48) dX11_ordered_48 rfl ?_
      refine X_gI C0 (pc := 49) f_OV_168_6 rfl dX11_ordered_49 h (fun v4 h => ?_)
      exact j_iret C rfl h dX11_ordered_52 (by decide)
    · replace h := (X_if h).2 hc
      have hn0 : ¬ a2 = Int32.ofInt (0) := hc
      by_cases hc : a2 = (1 : Int32)
      · replace h := (X_if h).1 hc
        refine j_tableIn C0 (pc := 16) (off := 37) (tgt := 53) dX11_ordered_16 (by rw [hc]; decide) (by rw [hc]; decide) (by rw [hc]; decide) (by decide) ?_
        refine j_aload_n C0 (pc := 53) dX11_ordered_53 rfl ?_
        refine X_gN C0 (pc := 54) f_OV_171_6 rfl dX11_ordered_54 h (fun v5 h => ?_)
        refine X_cV C0 (pc := 57) (e' := e_I) (as := []) (rest := []) (s' := fun w => .int w :: []) (g' := (0, 0)) v_OV_174_8 (fun Ψ hΨ => K_X10_size v5 M1 Ψ hΨ) rfl rfl (fun _ => rfl) (by decide) (by decide) rfl (Nat.le_of_ble_eq_true rfl) dX11_ordered_57 h (fun v6 M2 h => ?_)
        exact j_iret C rfl h dX11_ordered_60 (by decide)
      · replace h := (X_if h).2 hc
        have hn1 : ¬ a2 = Int32.ofInt (1) := hc
        by_cases hc : a2 = (2 : Int32)
        · replace h := (X_if h).1 hc
          refine j_tableIn C0 (pc := 16) (off := 45) (tgt := 61) dX11_ordered_16 (by rw [hc]; decide) (by rw [hc]; decide) (by rw [hc]; decide) (by decide) ?_
          refine j_aload_n C0 (pc := 61) dX11_ordered_61 rfl ?_
          refine j_aload_n C0 (pc := 62) dX11_ordered_62 rfl ?_
          refine X_cV C0 (pc := 63) (e' := e_V) (as := [.ref v3]) (rest := []) (s' := fun _ => []) (g' := (0, 0)) v_OV_180_9 (fun Ψ hΨ => K_X11_findLoopholes a0 v3 M1 Ψ hΨ) rfl rfl (fun _ => rfl) (by decide) (by decide) rfl (Nat.le_of_ble_eq_true rfl) dX11_ordered_63 h (fun _ M3 h => ?_)
          refine j_aload_n C0 (pc := 66) dX11_ordered_66 rfl ?_
          refine X_gN C0 (pc := 67) f_OV_84_9 rfl dX11_ordered_67 h (fun v7 h => ?_)
          refine X_cV C0 (pc := 70) (e' := e_I) (as := []) (rest := []) (s' := fun w => .int w :: []) (g' := (0, 0)) v_OV_174_8 (fun Ψ hΨ => K_X10_size v7 M3 Ψ hΨ) rfl rfl (fun _ => rfl) (by decide) (by decide) rfl (Nat.le_of_ble_eq_true rfl) dX11_ordered_70 h (fun v8 M4 h => ?_)
          exact j_iret C rfl h dX11_ordered_73 (by decide)
        · replace h := (X_if h).2 hc
          have hn2 : ¬ a2 = Int32.ofInt (2) := hc
          by_cases hc : a2 = (3 : Int32)
          · replace h := (X_if h).1 hc
            refine j_tableIn C0 (pc := 16) (off := 58) (tgt := 74) dX11_ordered_16 (by rw [hc]; decide) (by rw [hc]; decide) (by rw [hc]; decide) (by decide) ?_
            refine j_aload_n C0 (pc := 74) dX11_ordered_74 rfl ?_
            refine j_aload_n C0 (pc := 75) dX11_ordered_75 rfl ?_
            refine X_cV C0 (pc := 76) (e' := e_V) (as := [.ref v3]) (rest := []) (s' := fun _ => []) (g' := (0, 0)) v_OV_180_9 (fun Ψ hΨ => K_X11_findLoopholes a0 v3 M1 Ψ hΨ) rfl rfl (fun _ => rfl) (by decide) (by decide) rfl (Nat.le_of_ble_eq_true rfl) dX11_ordered_76 h (fun _ M5 h => ?_)
            refine j_aload_n C0 (pc := 79) dX11_ordered_79 rfl ?_
            refine X_gN C0 (pc := 80) f_OV_84_9 rfl dX11_ordered_80 h (fun v9 h => ?_)
            refine X_cV C0 (pc := 83) (e' := e_I) (as := []) (rest := []) (s' := fun w => .int w :: []) (g' := (0, 0)) v_OV_183_8 (fun Ψ hΨ => K_X10_least v9 M5 Ψ hΨ) rfl rfl (fun _ => rfl) (by decide) (by decide) rfl (Nat.le_of_ble_eq_true rfl) dX11_ordered_83 h (fun v10 M6 h => ?_)
            exact j_iret C rfl h dX11_ordered_86 (by decide)
          · replace h := (X_if h).2 hc
            have hn3 : ¬ a2 = Int32.ofInt (3) := hc
            have q0 := m_sw (k := 0) hn0
            have q1 := m_sw (k := 1) hn1
            have q2 := m_sw (k := 2) hn2
            have q3 := m_sw (k := 3) hn3
            refine j_tableOut C0 (pc := 16) (tgt := 87) dX11_ordered_16 (by omega) (by decide) ?_
            refine j_iconst C0 (pc := 87) dX11_ordered_87 (v := (-1 : Int32)) (by decide) ?_
            exact j_iret C rfl h dX11_ordered_88 (by decide)
