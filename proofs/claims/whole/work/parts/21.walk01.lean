theorem dX1_orderAt_0 : decode cX1_orderAt 0 = .ok (.iload_n 1, 1) := by decide +kernel
theorem dX1_orderAt_1 : decode cX1_orderAt 1 = .ok (.ifCond .lt 20, 3) := by decide +kernel
theorem dX1_orderAt_4 : decode cX1_orderAt 4 = .ok (.iload_n 1, 1) := by decide +kernel
theorem dX1_orderAt_5 : decode cX1_orderAt 5 = .ok (.aload_n 0, 1) := by decide +kernel
theorem dX1_orderAt_6 : decode cX1_orderAt 6 = .ok (.getfield 46, 3) := by decide +kernel
theorem dX1_orderAt_9 : decode cX1_orderAt 9 = .ok (.if_icmp .ge 12, 3) := by decide +kernel
theorem dX1_orderAt_12 : decode cX1_orderAt 12 = .ok (.aload_n 0, 1) := by decide +kernel
theorem dX1_orderAt_13 : decode cX1_orderAt 13 = .ok (.getfield 24, 3) := by decide +kernel
theorem dX1_orderAt_16 : decode cX1_orderAt 16 = .ok (.iload_n 1, 1) := by decide +kernel
theorem dX1_orderAt_17 : decode cX1_orderAt 17 = .ok (.aaload, 1) := by decide +kernel
theorem dX1_orderAt_18 : decode cX1_orderAt 18 = .ok (.goto 4, 3) := by decide +kernel
theorem dX1_orderAt_21 : decode cX1_orderAt 21 = .ok (.aconst_null, 1) := by decide +kernel
theorem dX1_orderAt_22 : decode cX1_orderAt 22 = .ok (.areturn, 1) := by decide +kernel
noncomputable def F_X1_orderAt (a0 : Nat) (a1 : Int32) (M : m_M) : Option (Option Nat × m_M) :=
  m_let (fun  (M1 : m_M) =>
    some (none, M1)
  ) fun (k21 : m_M → Option (Option Nat × m_M)) =>
  if a1 < 0 then (
    k21 M
  ) else
  x_gI 1 M a0 2 fun v1 =>
  if v1 ≤ a1 then (
    k21 M
  ) else
  x_gN 1 M a0 8 fun v2 =>
  x_aO 16 M v2 a1 fun v3 =>
  some (v3, M)
set_option maxHeartbeats 4000000 in
theorem K_X1_orderAt (a0 : Nat) (a1 : Int32) (M : m_M) (Φ : Option Value → m_M → Prop) (h : m_ok e_O Φ (F_X1_orderAt a0 a1 M)) : j_Ct yX1_orderAt cX1_orderAt 2 (some (.object "OneVerb$Saying")) 1 0 0 [.ref a0, .int a1] M Φ := by
  refine j_Ct.of (by decide +kernel) (Nat.le_of_ble_eq_true rfl) fun X C => ?_
  have C0 := C.1
  show j_J X 2 0 [some (.ref a0), some (.int a1)] [] (0, 0) M
  unfold F_X1_orderAt at h
  refine X_join (fun (kj : m_M → Option (Option Nat × m_M)) => ∀  (M : m_M), m_ok e_O Φ (kj M) → j_J X 2 21 [none, none] [] (0, 0) M) h (fun M1 h => ?_) (fun k21 hk21 h => ?_)
  · refine j_null C0 (pc := 21) dX1_orderAt_21 ?_
    exact j_aretN C rfl (Or.inl ⟨_, rfl⟩) h dX1_orderAt_22 (by decide)
  · refine j_iload_n C0 (pc := 0) dX1_orderAt_0 rfl ?_
    refine j_if_lt C0 (pc := 1) (tgt := 21) dX1_orderAt_1 (by decide) (fun hc => ?_) (fun hc => ?_)
    · replace h := (X_if h).1 hc
      exact j_J.wq (hk21 M h) (trivial)
    · replace h := (X_if h).2 hc
      refine j_iload_n C0 (pc := 4) dX1_orderAt_4 rfl ?_
      refine j_aload_n C0 (pc := 5) dX1_orderAt_5 rfl ?_
      refine X_gI C0 (pc := 6) f_Book_46_1 rfl dX1_orderAt_6 h (fun v1 h => ?_)
      refine j_icmp_ge C0 (pc := 9) (tgt := 21) dX1_orderAt_9 (by decide) (fun hc => ?_) (fun hc => ?_)
      · replace h := (X_if h).1 hc
        exact j_J.wq (hk21 M h) (trivial)
      · replace h := (X_if h).2 hc
        refine j_aload_n C0 (pc := 12) dX1_orderAt_12 rfl ?_
        refine X_gN C0 (pc := 13) f_Book_24_1 rfl dX1_orderAt_13 h (fun v2 h => ?_)
        refine j_iload_n C0 (pc := 16) dX1_orderAt_16 rfl ?_
        refine X_aaldO C0 (pc := 17) (by decide) dX1_orderAt_17 h (fun v3 h => ?_)
        refine j_goto C0 (pc := 18) (tgt := 22) dX1_orderAt_18 (by decide) ?_
        exact j_aretO C rfl (Or.inl ⟨_, rfl⟩) h dX1_orderAt_22 (by decide)
theorem dX10_keep_0 : decode cX10_keep 0 = .ok (.iconst 0, 1) := by decide +kernel
theorem dX10_keep_1 : decode cX10_keep 1 = .ok (.istore_n 2, 1) := by decide +kernel
theorem dX10_keep_2 : decode cX10_keep 2 = .ok (.iload_n 2, 1) := by decide +kernel
theorem dX10_keep_3 : decode cX10_keep 3 = .ok (.bipush 16, 2) := by decide +kernel
theorem dX10_keep_5 : decode cX10_keep 5 = .ok (.if_icmp .ge 24, 3) := by decide +kernel
theorem dX10_keep_8 : decode cX10_keep 8 = .ok (.aload_n 0, 1) := by decide +kernel
theorem dX10_keep_9 : decode cX10_keep 9 = .ok (.getfield 9, 3) := by decide +kernel
theorem dX10_keep_12 : decode cX10_keep 12 = .ok (.iload_n 2, 1) := by decide +kernel
theorem dX10_keep_13 : decode cX10_keep 13 = .ok (.dup2, 1) := by decide +kernel
theorem dX10_keep_14 : decode cX10_keep 14 = .ok (.laload, 1) := by decide +kernel
theorem dX10_keep_15 : decode cX10_keep 15 = .ok (.aload_n 1, 1) := by decide +kernel
theorem dX10_keep_16 : decode cX10_keep 16 = .ok (.getfield 9, 3) := by decide +kernel
theorem dX10_keep_19 : decode cX10_keep 19 = .ok (.iload_n 2, 1) := by decide +kernel
theorem dX10_keep_20 : decode cX10_keep 20 = .ok (.laload, 1) := by decide +kernel
theorem dX10_keep_21 : decode cX10_keep 21 = .ok (.land, 1) := by decide +kernel
theorem dX10_keep_22 : decode cX10_keep 22 = .ok (.lastore, 1) := by decide +kernel
theorem dX10_keep_23 : decode cX10_keep 23 = .ok (.iinc 2 1, 3) := by decide +kernel
theorem dX10_keep_26 : decode cX10_keep 26 = .ok (.goto (-24), 3) := by decide +kernel
theorem dX10_keep_29 : decode cX10_keep 29 = .ok (.return_, 1) := by decide +kernel
noncomputable def F_X10_keep_2 : Nat → Nat → Nat → Int32 → m_M → Option (Unit × m_M)
  | 0, _, _, _, _ => none
  | n + 1, v1, v2, v3, M =>
    if (16 : Int32) ≤ v3 then (
      some ((), M)
    ) else
    x_gN 8 M v1 0 fun v4 =>
    x_aL M v4 v3 fun v5 =>
    x_gN 8 M v2 0 fun v6 =>
    x_aL M v6 v3 fun v7 =>
    x_sL M v4 v3 (v5 &&& v7) fun M1 =>
    m_let (v3 + (1 : Int32)) fun v8 =>
    F_X10_keep_2 n v1 v2 v8 M1
noncomputable def F_X10_keep (a0 : Nat) (a1 : Nat) (M : m_M) : Option (Unit × m_M) :=
  F_X10_keep_2 m_FU a0 a1 (0 : Int32) M
set_option maxHeartbeats 4000000 in
theorem L_X10_keep_2 {X : j_X} {Φ : Option Value → m_M → Prop} (C : j_C X yX10_keep cX10_keep 3 none 1 0 0 Φ) : ∀ (n : Nat) (v1 : Nat) (v2 : Nat) (v3 : Int32) (M : m_M), m_ok e_V Φ (F_X10_keep_2 n v1 v2 v3 M) → j_J X 3 2 [some (.ref v1), some (.ref v2), some (.int v3)] [] (0, 0) M := by
  have C0 := C.1
  intro n
  induction n with
  | zero => intro v1 v2 v3 M h; exact False.elim h
  | succ n ih =>
    intro v1 v2 v3 M h
    rw [F_X10_keep_2] at h
    refine j_iload_n C0 (pc := 2) dX10_keep_2 rfl ?_
    refine j_bipush C0 (pc := 3) dX10_keep_3 (v := (16 : Int32)) (by decide) ?_
    refine j_icmp_ge C0 (pc := 5) (tgt := 29) dX10_keep_5 (by decide) (fun hc => ?_) (fun hc => ?_)
    · replace h := (X_if h).1 hc
      exact j_vret C rfl h dX10_keep_29 (by decide)
    · replace h := (X_if h).2 hc
      refine j_aload_n C0 (pc := 8) dX10_keep_8 rfl ?_
      refine X_gN C0 (pc := 9) f_WS_9_8 rfl dX10_keep_9 h (fun v4 h => ?_)
      refine j_iload_n C0 (pc := 12) dX10_keep_12 rfl ?_
      refine j_dup2 C0 (pc := 13) dX10_keep_13 rfl rfl ?_
      refine X_lald C0 (pc := 14) dX10_keep_14 h (fun v5 h => ?_)
      refine j_aload_n C0 (pc := 15) dX10_keep_15 rfl ?_
      refine X_gN C0 (pc := 16) f_WS_9_8 rfl dX10_keep_16 h (fun v6 h => ?_)
      refine j_iload_n C0 (pc := 19) dX10_keep_19 rfl ?_
      refine X_lald C0 (pc := 20) dX10_keep_20 h (fun v7 h => ?_)
      refine j_land C0 (pc := 21) dX10_keep_21 ?_
      refine X_last C0 (pc := 22) dX10_keep_22 h (fun M1 h => ?_)
      refine j_iinc C0 (pc := 23) dX10_keep_23 (v := v3 + (1 : Int32)) rfl (Nat.le_of_ble_eq_true rfl) (by rfl) ?_
      refine X_let (G := fun w => j_J X 3 26 [some (.ref v1), some (.ref v2), some (.int w)] [] (0, 0) M1) h (fun v8 h => ?_)
      refine j_goto C0 (pc := 26) (tgt := 2) dX10_keep_26 (by decide) ?_
      exact j_J.wq (ih v1 v2 v8 M1 h) (And.intro rfl (And.intro rfl (And.intro rfl (trivial))))
set_option maxHeartbeats 4000000 in
theorem K_X10_keep (a0 : Nat) (a1 : Nat) (M : m_M) (Φ : Option Value → m_M → Prop) (h : m_ok e_V Φ (F_X10_keep a0 a1 M)) : j_Ct yX10_keep cX10_keep 3 none 1 0 0 [.ref a0, .ref a1] M Φ := by
  refine j_Ct.of (by decide +kernel) (Nat.le_of_ble_eq_true rfl) fun X C => ?_
  have C0 := C.1
  show j_J X 3 0 [some (.ref a0), some (.ref a1), none] [] (0, 0) M
  unfold F_X10_keep at h
  refine j_iconst C0 (pc := 0) dX10_keep_0 (v := (0 : Int32)) (by decide) ?_
  refine j_istore_n C0 (pc := 1) dX10_keep_1 (Nat.le_of_ble_eq_true rfl) ?_
  show j_J X 3 2 [some (.ref a0), some (.ref a1), some (.int (0 : Int32))] [] (0, 0) M
  exact j_J.wq (L_X10_keep_2 C m_FU a0 a1 (0 : Int32) M h) (And.intro rfl (And.intro rfl (And.intro rfl (trivial))))
theorem dX11_findOrdersLeave_0 : decode cX11_findOrdersLeave 0 = .ok (.aload_n 0, 1) := by decide +kernel
theorem dX11_findOrdersLeave_1 : decode cX11_findOrdersLeave 1 = .ok (.getfield 80, 3) := by decide +kernel
theorem dX11_findOrdersLeave_4 : decode cX11_findOrdersLeave 4 = .ok (.aload_n 0, 1) := by decide +kernel
theorem dX11_findOrdersLeave_5 : decode cX11_findOrdersLeave 5 = .ok (.getfield 16, 3) := by decide +kernel
theorem dX11_findOrdersLeave_8 : decode cX11_findOrdersLeave 8 = .ok (.getfield 186, 3) := by decide +kernel
theorem dX11_findOrdersLeave_11 : decode cX11_findOrdersLeave 11 = .ok (.invokevirtual 345, 3) := by decide +kernel
theorem dX11_findOrdersLeave_14 : decode cX11_findOrdersLeave 14 = .ok (.iconst 0, 1) := by decide +kernel
theorem dX11_findOrdersLeave_15 : decode cX11_findOrdersLeave 15 = .ok (.istore_n 1, 1) := by decide +kernel
theorem dX11_findOrdersLeave_16 : decode cX11_findOrdersLeave 16 = .ok (.iload_n 1, 1) := by decide +kernel
theorem dX11_findOrdersLeave_17 : decode cX11_findOrdersLeave 17 = .ok (.aload_n 0, 1) := by decide +kernel
theorem dX11_findOrdersLeave_18 : decode cX11_findOrdersLeave 18 = .ok (.getfield 65, 3) := by decide +kernel
theorem dX11_findOrdersLeave_21 : decode cX11_findOrdersLeave 21 = .ok (.getfield 130, 3) := by decide +kernel
theorem dX11_findOrdersLeave_24 : decode cX11_findOrdersLeave 24 = .ok (.if_icmp .ge 47, 3) := by decide +kernel
theorem dX11_findOrdersLeave_27 : decode cX11_findOrdersLeave 27 = .ok (.aload_n 0, 1) := by decide +kernel
theorem dX11_findOrdersLeave_28 : decode cX11_findOrdersLeave 28 = .ok (.getfield 65, 3) := by decide +kernel
theorem dX11_findOrdersLeave_31 : decode cX11_findOrdersLeave 31 = .ok (.iload_n 1, 1) := by decide +kernel
theorem dX11_findOrdersLeave_32 : decode cX11_findOrdersLeave 32 = .ok (.invokevirtual 177, 3) := by decide +kernel
theorem dX11_findOrdersLeave_35 : decode cX11_findOrdersLeave 35 = .ok (.astore_n 2, 1) := by decide +kernel
theorem dX11_findOrdersLeave_36 : decode cX11_findOrdersLeave 36 = .ok (.aload_n 2, 1) := by decide +kernel
theorem dX11_findOrdersLeave_37 : decode cX11_findOrdersLeave 37 = .ok (.ifnull 28, 3) := by decide +kernel
theorem dX11_findOrdersLeave_40 : decode cX11_findOrdersLeave 40 = .ok (.aload_n 2, 1) := by decide +kernel
theorem dX11_findOrdersLeave_41 : decode cX11_findOrdersLeave 41 = .ok (.getfield 168, 3) := by decide +kernel
theorem dX11_findOrdersLeave_44 : decode cX11_findOrdersLeave 44 = .ok (.aload_n 0, 1) := by decide +kernel
theorem dX11_findOrdersLeave_45 : decode cX11_findOrdersLeave 45 = .ok (.getfield 65, 3) := by decide +kernel
theorem dX11_findOrdersLeave_48 : decode cX11_findOrdersLeave 48 = .ok (.getfield 119, 3) := by decide +kernel
theorem dX11_findOrdersLeave_51 : decode cX11_findOrdersLeave 51 = .ok (.if_icmp .gt 14, 3) := by decide +kernel
theorem dX11_findOrdersLeave_54 : decode cX11_findOrdersLeave 54 = .ok (.aload_n 0, 1) := by decide +kernel
theorem dX11_findOrdersLeave_55 : decode cX11_findOrdersLeave 55 = .ok (.getfield 80, 3) := by decide +kernel
theorem dX11_findOrdersLeave_58 : decode cX11_findOrdersLeave 58 = .ok (.aload_n 2, 1) := by decide +kernel
theorem dX11_findOrdersLeave_59 : decode cX11_findOrdersLeave 59 = .ok (.getfield 171, 3) := by decide +kernel
theorem dX11_findOrdersLeave_62 : decode cX11_findOrdersLeave 62 = .ok (.invokevirtual 216, 3) := by decide +kernel
theorem dX11_findOrdersLeave_65 : decode cX11_findOrdersLeave 65 = .ok (.iinc 1 1, 3) := by decide +kernel
theorem dX11_findOrdersLeave_68 : decode cX11_findOrdersLeave 68 = .ok (.goto (-52), 3) := by decide +kernel
theorem dX11_findOrdersLeave_71 : decode cX11_findOrdersLeave 71 = .ok (.return_, 1) := by decide +kernel
noncomputable def F_X11_findOrdersLeave_16 : Nat → Nat → Int32 → m_M → Option (Unit × m_M)
  | 0, _, _, _ => none
  | n + 1, v1, v2, M =>
    x_gN 9 M v1 9 fun v3 =>
    x_gI 1 M v3 2 fun v4 =>
    if v4 ≤ v2 then (
      some ((), M)
    ) else
    m_let (fun (v5 : Nat) (v6 : Int32) (M1 : m_M) =>
      m_let (v6 + (1 : Int32)) fun v7 =>
      F_X11_findOrdersLeave_16 n v5 v7 M1
    ) fun (k65 : Nat → Int32 → m_M → Option (Unit × m_M)) =>
    x_gN 9 M v1 9 fun v8 =>
    x_cV 1 M v8 (F_X1_orderAt v8 v2 M) fun v9 M2 =>
    x_nul v9 (
      k65 v1 v2 M2
    ) fun v10 =>
    x_gI 6 M2 v10 2 fun v11 =>
    x_gN 9 M2 v1 9 fun v12 =>
    x_gI 1 M2 v12 0 fun v13 =>
    if v13 < v11 then (
      k65 v1 v2 M2
    ) else
    x_gN 9 M2 v1 12 fun v14 =>
    x_gN 6 M2 v10 3 fun v15 =>
    x_cV 8 M2 v14 (F_X10_keep v14 v15 M2) fun _ M3 =>
    k65 v1 v2 M3
noncomputable def F_X11_findOrdersLeave (a0 : Nat) (M : m_M) : Option (Unit × m_M) :=
  x_gN 9 M a0 12 fun v1 =>
  x_gN 9 M a0 2 fun v2 =>
  x_gI 3 M v2 3 fun v3 =>
  x_cV 8 M v1 (F_X10_fill v1 v3 M) fun _ M1 =>
  F_X11_findOrdersLeave_16 m_FU a0 (0 : Int32) M1
set_option maxHeartbeats 4000000 in
theorem L_X11_findOrdersLeave_16 {X : j_X} {Φ : Option Value → m_M → Prop} (C : j_C X yX11_findOrdersLeave cX11_findOrdersLeave 3 none 3 0 0 Φ) : ∀ (n : Nat) (v1 : Nat) (v2 : Int32) (M : m_M), m_ok e_V Φ (F_X11_findOrdersLeave_16 n v1 v2 M) → j_J X 3 16 [some (.ref v1), some (.int v2), none] [] (0, 0) M := by
  have C0 := C.1
  intro n
  induction n with
  | zero => intro v1 v2 M h; exact False.elim h
  | succ n ih =>
    intro v1 v2 M h
    rw [F_X11_findOrdersLeave_16] at h
    refine j_iload_n C0 (pc := 16) dX11_findOrdersLeave_16 rfl ?_
    refine j_aload_n C0 (pc := 17) dX11_findOrdersLeave_17 rfl ?_
    refine X_gN C0 (pc := 18) f_OV_65_9 rfl dX11_findOrdersLeave_18 h (fun v3 h => ?_)
    refine X_gI C0 (pc := 21) f_OV_130_1 rfl dX11_findOrdersLeave_21 h (fun v4 h => ?_)
    refine j_icmp_ge C0 (pc := 24) (tgt := 71) dX11_findOrdersLeave_24 (by decide) (fun hc => ?_) (fun hc => ?_)
    · replace h := (X_if h).1 hc
      exact j_vret C rfl h dX11_findOrdersLeave_71 (by decide)
    · replace h := (X_if h).2 hc
      refine X_join (fun (kj : Nat → Int32 → m_M → Option (Unit × m_M)) => ∀ (p0 : Nat) (p1 : Int32) (M : m_M), m_ok e_V Φ (kj p0 p1 M) → j_J X 3 65 [some (.ref p0), some (.int p1), none] [] (0, 0) M) h (fun v5 v6 M1 h => ?_) (fun k65 hk65 h => ?_)
      · refine j_iinc C0 (pc := 65) dX11_findOrdersLeave_65 (v := v6 + (1 : Int32)) rfl (Nat.le_of_ble_eq_true rfl) (by rfl) ?_
        refine X_let (G := fun w => j_J X 3 68 [some (.ref v5), some (.int w), none] [] (0, 0) M1) h (fun v7 h => ?_)
        refine j_goto C0 (pc := 68) (tgt := 16) dX11_findOrdersLeave_68 (by decide) ?_
        exact j_J.wq (ih v5 v7 M1 h) (And.intro rfl (And.intro rfl (trivial)))
      · refine j_aload_n C0 (pc := 27) dX11_findOrdersLeave_27 rfl ?_
        refine X_gN C0 (pc := 28) f_OV_65_9 rfl dX11_findOrdersLeave_28 h (fun v8 h => ?_)
        refine j_iload_n C0 (pc := 31) dX11_findOrdersLeave_31 rfl ?_
        refine X_cV C0 (pc := 32) (e' := e_O) (as := [.int v2]) (rest := []) (s' := fun w => va_rf w :: []) (g' := (0, 0)) v_OV_177_1 (fun Ψ hΨ => K_X1_orderAt v8 v2 M Ψ hΨ) rfl rfl (fun _ => rfl) (by decide) (by decide) rfl (Nat.le_of_ble_eq_true rfl) dX11_findOrdersLeave_32 h (fun v9 M2 h => ?_)
        refine j_astore_nO C0 (pc := 35) dX11_findOrdersLeave_35 (Nat.le_of_ble_eq_true rfl) ?_
        show j_J X 3 36 [some (.ref v1), some (.int v2), some (va_rf v9)] [] (0, 0) M2
        refine j_aload_nO C0 (pc := 36) dX11_findOrdersLeave_36 rfl ?_
        rcases v9 with _ | v10
        · refine j_ifnullN C0 (pc := 37) (tgt := 65) dX11_findOrdersLeave_37 (by decide) ?_
          simp only [x_nul] at h
          exact j_J.wq (hk65 v1 v2 M2 h) (And.intro rfl (And.intro rfl (trivial)))
        · refine j_ifnull C0 (pc := 37) dX11_findOrdersLeave_37 ?_
          simp only [x_nul] at h
          refine j_aload_n C0 (pc := 40) dX11_findOrdersLeave_40 rfl ?_
          refine X_gI C0 (pc := 41) f_OV_168_6 rfl dX11_findOrdersLeave_41 h (fun v11 h => ?_)
          refine j_aload_n C0 (pc := 44) dX11_findOrdersLeave_44 rfl ?_
          refine X_gN C0 (pc := 45) f_OV_65_9 rfl dX11_findOrdersLeave_45 h (fun v12 h => ?_)
          refine X_gI C0 (pc := 48) f_OV_119_1 rfl dX11_findOrdersLeave_48 h (fun v13 h => ?_)
          refine j_icmp_gt C0 (pc := 51) (tgt := 65) dX11_findOrdersLeave_51 (by decide) (fun hc => ?_) (fun hc => ?_)
          · replace h := (X_if h).1 hc
            exact j_J.wq (hk65 v1 v2 M2 h) (And.intro rfl (And.intro rfl (trivial)))
          · replace h := (X_if h).2 hc
            refine j_aload_n C0 (pc := 54) dX11_findOrdersLeave_54 rfl ?_
            refine X_gN C0 (pc := 55) f_OV_80_9 rfl dX11_findOrdersLeave_55 h (fun v14 h => ?_)
            refine j_aload_n C0 (pc := 58) dX11_findOrdersLeave_58 rfl ?_
            refine X_gN C0 (pc := 59) f_OV_171_6 rfl dX11_findOrdersLeave_59 h (fun v15 h => ?_)
            refine X_cV C0 (pc := 62) (e' := e_V) (as := [.ref v15]) (rest := []) (s' := fun _ => []) (g' := (0, 0)) v_OV_216_8 (fun Ψ hΨ => K_X10_keep v14 v15 M2 Ψ hΨ) rfl rfl (fun _ => rfl) (by decide) (by decide) rfl (Nat.le_of_ble_eq_true rfl) dX11_findOrdersLeave_62 h (fun _ M3 h => ?_)
            exact j_J.wq (hk65 v1 v2 M3 h) (And.intro rfl (And.intro rfl (trivial)))
set_option maxHeartbeats 4000000 in
theorem K_X11_findOrdersLeave (a0 : Nat) (M : m_M) (Φ : Option Value → m_M → Prop) (h : m_ok e_V Φ (F_X11_findOrdersLeave a0 M)) : j_Ct yX11_findOrdersLeave cX11_findOrdersLeave 3 none 3 0 0 [.ref a0] M Φ := by
  refine j_Ct.of (by decide +kernel) (Nat.le_of_ble_eq_true rfl) fun X C => ?_
  have C0 := C.1
  show j_J X 3 0 [some (.ref a0), none, none] [] (0, 0) M
  unfold F_X11_findOrdersLeave at h
  refine j_aload_n C0 (pc := 0) dX11_findOrdersLeave_0 rfl ?_
  refine X_gN C0 (pc := 1) f_OV_80_9 rfl dX11_findOrdersLeave_1 h (fun v1 h => ?_)
  refine j_aload_n C0 (pc := 4) dX11_findOrdersLeave_4 rfl ?_
  refine X_gN C0 (pc := 5) f_OV_16_9 rfl dX11_findOrdersLeave_5 h (fun v2 h => ?_)
  refine X_gI C0 (pc := 8) f_OV_186_3 rfl dX11_findOrdersLeave_8 h (fun v3 h => ?_)
  refine X_cV C0 (pc := 11) (e' := e_V) (as := [.int v3]) (rest := []) (s' := fun _ => []) (g' := (0, 0)) v_OV_345_8 (fun Ψ hΨ => K_X10_fill v1 v3 M Ψ hΨ) rfl rfl (fun _ => rfl) (by decide) (by decide) rfl (Nat.le_of_ble_eq_true rfl) dX11_findOrdersLeave_11 h (fun _ M1 h => ?_)
  refine j_iconst C0 (pc := 14) dX11_findOrdersLeave_14 (v := (0 : Int32)) (by decide) ?_
  refine j_istore_n C0 (pc := 15) dX11_findOrdersLeave_15 (Nat.le_of_ble_eq_true rfl) ?_
  show j_J X 3 16 [some (.ref a0), some (.int (0 : Int32)), none] [] (0, 0) M1
  exact j_J.wq (L_X11_findOrdersLeave_16 C m_FU a0 (0 : Int32) M1 h) (And.intro rfl (And.intro rfl (trivial)))
theorem dX1_saidAt_0 : decode cX1_saidAt 0 = .ok (.iload_n 1, 1) := by decide +kernel
theorem dX1_saidAt_1 : decode cX1_saidAt 1 = .ok (.ifCond .lt 20, 3) := by decide +kernel
theorem dX1_saidAt_4 : decode cX1_saidAt 4 = .ok (.iload_n 1, 1) := by decide +kernel
theorem dX1_saidAt_5 : decode cX1_saidAt 5 = .ok (.aload_n 0, 1) := by decide +kernel
theorem dX1_saidAt_6 : decode cX1_saidAt 6 = .ok (.getfield 43, 3) := by decide +kernel
theorem dX1_saidAt_9 : decode cX1_saidAt 9 = .ok (.if_icmp .ge 12, 3) := by decide +kernel
theorem dX1_saidAt_12 : decode cX1_saidAt 12 = .ok (.aload_n 0, 1) := by decide +kernel
theorem dX1_saidAt_13 : decode cX1_saidAt 13 = .ok (.getfield 20, 3) := by decide +kernel
theorem dX1_saidAt_16 : decode cX1_saidAt 16 = .ok (.iload_n 1, 1) := by decide +kernel
theorem dX1_saidAt_17 : decode cX1_saidAt 17 = .ok (.aaload, 1) := by decide +kernel
theorem dX1_saidAt_18 : decode cX1_saidAt 18 = .ok (.goto 4, 3) := by decide +kernel
theorem dX1_saidAt_21 : decode cX1_saidAt 21 = .ok (.aconst_null, 1) := by decide +kernel
theorem dX1_saidAt_22 : decode cX1_saidAt 22 = .ok (.areturn, 1) := by decide +kernel
noncomputable def F_X1_saidAt (a0 : Nat) (a1 : Int32) (M : m_M) : Option (Option Nat × m_M) :=
  m_let (fun  (M1 : m_M) =>
    some (none, M1)
  ) fun (k21 : m_M → Option (Option Nat × m_M)) =>
  if a1 < 0 then (
    k21 M
  ) else
  x_gI 1 M a0 1 fun v1 =>
  if v1 ≤ a1 then (
    k21 M
  ) else
  x_gN 1 M a0 7 fun v2 =>
  x_aO 16 M v2 a1 fun v3 =>
  some (v3, M)
set_option maxHeartbeats 4000000 in
theorem K_X1_saidAt (a0 : Nat) (a1 : Int32) (M : m_M) (Φ : Option Value → m_M → Prop) (h : m_ok e_O Φ (F_X1_saidAt a0 a1 M)) : j_Ct yX1_saidAt cX1_saidAt 2 (some (.object "OneVerb$Saying")) 1 0 0 [.ref a0, .int a1] M Φ := by
  refine j_Ct.of (by decide +kernel) (Nat.le_of_ble_eq_true rfl) fun X C => ?_
  have C0 := C.1
  show j_J X 2 0 [some (.ref a0), some (.int a1)] [] (0, 0) M
  unfold F_X1_saidAt at h
  refine X_join (fun (kj : m_M → Option (Option Nat × m_M)) => ∀  (M : m_M), m_ok e_O Φ (kj M) → j_J X 2 21 [none, none] [] (0, 0) M) h (fun M1 h => ?_) (fun k21 hk21 h => ?_)
  · refine j_null C0 (pc := 21) dX1_saidAt_21 ?_
    exact j_aretN C rfl (Or.inl ⟨_, rfl⟩) h dX1_saidAt_22 (by decide)
  · refine j_iload_n C0 (pc := 0) dX1_saidAt_0 rfl ?_
    refine j_if_lt C0 (pc := 1) (tgt := 21) dX1_saidAt_1 (by decide) (fun hc => ?_) (fun hc => ?_)
    · replace h := (X_if h).1 hc
      exact j_J.wq (hk21 M h) (trivial)
    · replace h := (X_if h).2 hc
      refine j_iload_n C0 (pc := 4) dX1_saidAt_4 rfl ?_
      refine j_aload_n C0 (pc := 5) dX1_saidAt_5 rfl ?_
      refine X_gI C0 (pc := 6) f_Book_43_1 rfl dX1_saidAt_6 h (fun v1 h => ?_)
      refine j_icmp_ge C0 (pc := 9) (tgt := 21) dX1_saidAt_9 (by decide) (fun hc => ?_) (fun hc => ?_)
      · replace h := (X_if h).1 hc
        exact j_J.wq (hk21 M h) (trivial)
      · replace h := (X_if h).2 hc
        refine j_aload_n C0 (pc := 12) dX1_saidAt_12 rfl ?_
        refine X_gN C0 (pc := 13) f_Book_20_1 rfl dX1_saidAt_13 h (fun v2 h => ?_)
        refine j_iload_n C0 (pc := 16) dX1_saidAt_16 rfl ?_
        refine X_aaldO C0 (pc := 17) (by decide) dX1_saidAt_17 h (fun v3 h => ?_)
        refine j_goto C0 (pc := 18) (tgt := 22) dX1_saidAt_18 (by decide) ?_
        exact j_aretO C rfl (Or.inl ⟨_, rfl⟩) h dX1_saidAt_22 (by decide)
theorem dX11_findLeft_0 : decode cX11_findLeft 0 = .ok (.aload_n 0, 1) := by decide +kernel
theorem dX11_findLeft_1 : decode cX11_findLeft 1 = .ok (.invokevirtual 230, 3) := by decide +kernel
theorem dX11_findLeft_4 : decode cX11_findLeft 4 = .ok (.iconst 0, 1) := by decide +kernel
theorem dX11_findLeft_5 : decode cX11_findLeft 5 = .ok (.istore_n 1, 1) := by decide +kernel
theorem dX11_findLeft_6 : decode cX11_findLeft 6 = .ok (.iload_n 1, 1) := by decide +kernel
theorem dX11_findLeft_7 : decode cX11_findLeft 7 = .ok (.aload_n 0, 1) := by decide +kernel
theorem dX11_findLeft_8 : decode cX11_findLeft 8 = .ok (.getfield 65, 3) := by decide +kernel
theorem dX11_findLeft_11 : decode cX11_findLeft 11 = .ok (.getfield 116, 3) := by decide +kernel
theorem dX11_findLeft_14 : decode cX11_findLeft 14 = .ok (.if_icmp .ge 33, 3) := by decide +kernel
theorem dX11_findLeft_17 : decode cX11_findLeft 17 = .ok (.aload_n 0, 1) := by decide +kernel
theorem dX11_findLeft_18 : decode cX11_findLeft 18 = .ok (.getfield 65, 3) := by decide +kernel
theorem dX11_findLeft_21 : decode cX11_findLeft 21 = .ok (.iload_n 1, 1) := by decide +kernel
theorem dX11_findLeft_22 : decode cX11_findLeft 22 = .ok (.invokevirtual 165, 3) := by decide +kernel
theorem dX11_findLeft_25 : decode cX11_findLeft 25 = .ok (.astore_n 2, 1) := by decide +kernel
theorem dX11_findLeft_26 : decode cX11_findLeft 26 = .ok (.aload_n 2, 1) := by decide +kernel
theorem dX11_findLeft_27 : decode cX11_findLeft 27 = .ok (.ifnull 14, 3) := by decide +kernel
theorem dX11_findLeft_30 : decode cX11_findLeft 30 = .ok (.aload_n 0, 1) := by decide +kernel
theorem dX11_findLeft_31 : decode cX11_findLeft 31 = .ok (.getfield 80, 3) := by decide +kernel
theorem dX11_findLeft_34 : decode cX11_findLeft 34 = .ok (.aload_n 2, 1) := by decide +kernel
theorem dX11_findLeft_35 : decode cX11_findLeft 35 = .ok (.getfield 171, 3) := by decide +kernel
theorem dX11_findLeft_38 : decode cX11_findLeft 38 = .ok (.invokevirtual 216, 3) := by decide +kernel
theorem dX11_findLeft_41 : decode cX11_findLeft 41 = .ok (.iinc 1 1, 3) := by decide +kernel
theorem dX11_findLeft_44 : decode cX11_findLeft 44 = .ok (.goto (-38), 3) := by decide +kernel
theorem dX11_findLeft_47 : decode cX11_findLeft 47 = .ok (.return_, 1) := by decide +kernel
noncomputable def F_X11_findLeft_6 : Nat → Nat → Int32 → m_M → Option (Unit × m_M)
  | 0, _, _, _ => none
  | n + 1, v1, v2, M =>
    x_gN 9 M v1 9 fun v3 =>
    x_gI 1 M v3 1 fun v4 =>
    if v4 ≤ v2 then (
      some ((), M)
    ) else
    m_let (fun (v5 : Nat) (v6 : Int32) (M1 : m_M) =>
      m_let (v6 + (1 : Int32)) fun v7 =>
      F_X11_findLeft_6 n v5 v7 M1
    ) fun (k41 : Nat → Int32 → m_M → Option (Unit × m_M)) =>
    x_gN 9 M v1 9 fun v8 =>
    x_cV 1 M v8 (F_X1_saidAt v8 v2 M) fun v9 M2 =>
    x_nul v9 (
      k41 v1 v2 M2
    ) fun v10 =>
    x_gN 9 M2 v1 12 fun v11 =>
    x_gN 6 M2 v10 3 fun v12 =>
    x_cV 8 M2 v11 (F_X10_keep v11 v12 M2) fun _ M3 =>
    k41 v1 v2 M3
noncomputable def F_X11_findLeft (a0 : Nat) (M : m_M) : Option (Unit × m_M) :=
  x_cV 9 M a0 (F_X11_findOrdersLeave a0 M) fun _ M1 =>
  F_X11_findLeft_6 m_FU a0 (0 : Int32) M1
set_option maxHeartbeats 4000000 in
theorem L_X11_findLeft_6 {X : j_X} {Φ : Option Value → m_M → Prop} (C : j_C X yX11_findLeft cX11_findLeft 3 none 4 0 0 Φ) : ∀ (n : Nat) (v1 : Nat) (v2 : Int32) (M : m_M), m_ok e_V Φ (F_X11_findLeft_6 n v1 v2 M) → j_J X 3 6 [some (.ref v1), some (.int v2), none] [] (0, 0) M := by
  have C0 := C.1
  intro n
  induction n with
  | zero => intro v1 v2 M h; exact False.elim h
  | succ n ih =>
    intro v1 v2 M h
    rw [F_X11_findLeft_6] at h
    refine j_iload_n C0 (pc := 6) dX11_findLeft_6 rfl ?_
    refine j_aload_n C0 (pc := 7) dX11_findLeft_7 rfl ?_
    refine X_gN C0 (pc := 8) f_OV_65_9 rfl dX11_findLeft_8 h (fun v3 h => ?_)
    refine X_gI C0 (pc := 11) f_OV_116_1 rfl dX11_findLeft_11 h (fun v4 h => ?_)
    refine j_icmp_ge C0 (pc := 14) (tgt := 47) dX11_findLeft_14 (by decide) (fun hc => ?_) (fun hc => ?_)
    · replace h := (X_if h).1 hc
      exact j_vret C rfl h dX11_findLeft_47 (by decide)
    · replace h := (X_if h).2 hc
      refine X_join (fun (kj : Nat → Int32 → m_M → Option (Unit × m_M)) => ∀ (p0 : Nat) (p1 : Int32) (M : m_M), m_ok e_V Φ (kj p0 p1 M) → j_J X 3 41 [some (.ref p0), some (.int p1), none] [] (0, 0) M) h (fun v5 v6 M1 h => ?_) (fun k41 hk41 h => ?_)
      · refine j_iinc C0 (pc := 41) dX11_findLeft_41 (v := v6 + (1 : Int32)) rfl (Nat.le_of_ble_eq_true rfl) (by rfl) ?_
        refine X_let (G := fun w => j_J X 3 44 [some (.ref v5), some (.int w), none] [] (0, 0) M1) h (fun v7 h => ?_)
        refine j_goto C0 (pc := 44) (tgt := 6) dX11_findLeft_44 (by decide) ?_
        exact j_J.wq (ih v5 v7 M1 h) (And.intro rfl (And.intro rfl (trivial)))
      · refine j_aload_n C0 (pc := 17) dX11_findLeft_17 rfl ?_
        refine X_gN C0 (pc := 18) f_OV_65_9 rfl dX11_findLeft_18 h (fun v8 h => ?_)
        refine j_iload_n C0 (pc := 21) dX11_findLeft_21 rfl ?_
        refine X_cV C0 (pc := 22) (e' := e_O) (as := [.int v2]) (rest := []) (s' := fun w => va_rf w :: []) (g' := (0, 0)) v_OV_165_1 (fun Ψ hΨ => K_X1_saidAt v8 v2 M Ψ hΨ) rfl rfl (fun _ => rfl) (by decide) (by decide) rfl (Nat.le_of_ble_eq_true rfl) dX11_findLeft_22 h (fun v9 M2 h => ?_)
        refine j_astore_nO C0 (pc := 25) dX11_findLeft_25 (Nat.le_of_ble_eq_true rfl) ?_
        show j_J X 3 26 [some (.ref v1), some (.int v2), some (va_rf v9)] [] (0, 0) M2
        refine j_aload_nO C0 (pc := 26) dX11_findLeft_26 rfl ?_
        rcases v9 with _ | v10
        · refine j_ifnullN C0 (pc := 27) (tgt := 41) dX11_findLeft_27 (by decide) ?_
          simp only [x_nul] at h
          exact j_J.wq (hk41 v1 v2 M2 h) (And.intro rfl (And.intro rfl (trivial)))
        · refine j_ifnull C0 (pc := 27) dX11_findLeft_27 ?_
          simp only [x_nul] at h
          refine j_aload_n C0 (pc := 30) dX11_findLeft_30 rfl ?_
          refine X_gN C0 (pc := 31) f_OV_80_9 rfl dX11_findLeft_31 h (fun v11 h => ?_)
          refine j_aload_n C0 (pc := 34) dX11_findLeft_34 rfl ?_
          refine X_gN C0 (pc := 35) f_OV_171_6 rfl dX11_findLeft_35 h (fun v12 h => ?_)
          refine X_cV C0 (pc := 38) (e' := e_V) (as := [.ref v12]) (rest := []) (s' := fun _ => []) (g' := (0, 0)) v_OV_216_8 (fun Ψ hΨ => K_X10_keep v11 v12 M2 Ψ hΨ) rfl rfl (fun _ => rfl) (by decide) (by decide) rfl (Nat.le_of_ble_eq_true rfl) dX11_findLeft_38 h (fun _ M3 h => ?_)
          exact j_J.wq (hk41 v1 v2 M3 h) (And.intro rfl (And.intro rfl (trivial)))
set_option maxHeartbeats 4000000 in
theorem K_X11_findLeft (a0 : Nat) (M : m_M) (Φ : Option Value → m_M → Prop) (h : m_ok e_V Φ (F_X11_findLeft a0 M)) : j_Ct yX11_findLeft cX11_findLeft 3 none 4 0 0 [.ref a0] M Φ := by
  refine j_Ct.of (by decide +kernel) (Nat.le_of_ble_eq_true rfl) fun X C => ?_
  have C0 := C.1
  show j_J X 3 0 [some (.ref a0), none, none] [] (0, 0) M
  unfold F_X11_findLeft at h
  refine j_aload_n C0 (pc := 0) dX11_findLeft_0 rfl ?_
  refine X_cV C0 (pc := 1) (e' := e_V) (as := []) (rest := []) (s' := fun _ => []) (g' := (0, 0)) v_OV_230_9 (fun Ψ hΨ => K_X11_findOrdersLeave a0 M Ψ hΨ) rfl rfl (fun _ => rfl) (by decide) (by decide) rfl (Nat.le_of_ble_eq_true rfl) dX11_findLeft_1 h (fun _ M1 h => ?_)
  refine j_iconst C0 (pc := 4) dX11_findLeft_4 (v := (0 : Int32)) (by decide) ?_
  refine j_istore_n C0 (pc := 5) dX11_findLeft_5 (Nat.le_of_ble_eq_true rfl) ?_
  show j_J X 3 6 [some (.ref a0), some (.int (0 : Int32)), none] [] (0, 0) M1
  exact j_J.wq (L_X11_findLeft_6 C m_FU a0 (0 : Int32) M1 h) (And.intro rfl (And.intro rfl (trivial)))
theorem dX3_verbOf_0 : decode cX3_verbOf 0 = .ok (.iload_n 1, 1) := by decide +kernel
theorem dX3_verbOf_1 : decode cX3_verbOf 1 = .ok (.ifCond .ge 5, 3) := by decide +kernel
theorem dX3_verbOf_4 : decode cX3_verbOf 4 = .ok (.iconst (-1), 1) := by decide +kernel
theorem dX3_verbOf_5 : decode cX3_verbOf 5 = .ok (.ireturn, 1) := by decide +kernel
theorem dX3_verbOf_6 : decode cX3_verbOf 6 = .ok (.aload_n 0, 1) := by decide +kernel
theorem dX3_verbOf_7 : decode cX3_verbOf 7 = .ok (.getfield 65, 3) := by decide +kernel
theorem dX3_verbOf_10 : decode cX3_verbOf 10 = .ok (.ifCond .le 15, 3) := by decide +kernel
theorem dX3_verbOf_13 : decode cX3_verbOf 13 = .ok (.aload_n 0, 1) := by decide +kernel
theorem dX3_verbOf_14 : decode cX3_verbOf 14 = .ok (.getfield 18, 3) := by decide +kernel
theorem dX3_verbOf_17 : decode cX3_verbOf 17 = .ok (.iload_n 1, 1) := by decide +kernel
theorem dX3_verbOf_18 : decode cX3_verbOf 18 = .ok (.aload_n 0, 1) := by decide +kernel
theorem dX3_verbOf_19 : decode cX3_verbOf 19 = .ok (.getfield 65, 3) := by decide +kernel
theorem dX3_verbOf_22 : decode cX3_verbOf 22 = .ok (.irem, 1) := by decide +kernel
theorem dX3_verbOf_23 : decode cX3_verbOf 23 = .ok (.iaload, 1) := by decide +kernel
theorem dX3_verbOf_24 : decode cX3_verbOf 24 = .ok (.ireturn, 1) := by decide +kernel
theorem dX3_verbOf_25 : decode cX3_verbOf 25 = .ok (.aload_n 0, 1) := by decide +kernel
theorem dX3_verbOf_26 : decode cX3_verbOf 26 = .ok (.getfield 9, 3) := by decide +kernel
theorem dX3_verbOf_29 : decode cX3_verbOf 29 = .ok (.iconst 2, 1) := by decide +kernel
theorem dX3_verbOf_30 : decode cX3_verbOf 30 = .ok (.iaload, 1) := by decide +kernel
theorem dX3_verbOf_31 : decode cX3_verbOf 31 = .ok (.ifCond .le 14, 3) := by decide +kernel
theorem dX3_verbOf_34 : decode cX3_verbOf 34 = .ok (.iload_n 1, 1) := by decide +kernel
theorem dX3_verbOf_35 : decode cX3_verbOf 35 = .ok (.aload_n 0, 1) := by decide +kernel
theorem dX3_verbOf_36 : decode cX3_verbOf 36 = .ok (.getfield 9, 3) := by decide +kernel
theorem dX3_verbOf_39 : decode cX3_verbOf 39 = .ok (.iconst 2, 1) := by decide +kernel
theorem dX3_verbOf_40 : decode cX3_verbOf 40 = .ok (.iaload, 1) := by decide +kernel
theorem dX3_verbOf_41 : decode cX3_verbOf 41 = .ok (.irem, 1) := by decide +kernel
theorem dX3_verbOf_42 : decode cX3_verbOf 42 = .ok (.goto 4, 3) := by decide +kernel
theorem dX3_verbOf_45 : decode cX3_verbOf 45 = .ok (.iconst (-1), 1) := by decide +kernel
theorem dX3_verbOf_46 : decode cX3_verbOf 46 = .ok (.ireturn, 1) := by decide +kernel
noncomputable def F_X3_verbOf (a0 : Nat) (a1 : Int32) (M : m_M) : Option (Int32 × m_M) :=
  if 0 ≤ a1 then (
    x_gI 3 M a0 2 fun v1 =>
    if v1 ≤ 0 then (
      x_gN 3 M a0 6 fun v2 =>
      x_aI 12 M v2 (2 : Int32) fun v3 =>
      if v3 ≤ 0 then (
        some ((-1 : Int32), M)
      ) else
      x_gN 3 M a0 6 fun v4 =>
      x_aI 12 M v4 (2 : Int32) fun v5 =>
      x_nz v5 <|
      some (a1 - a1 / v5 * v5, M)
    ) else
    x_gN 3 M a0 8 fun v6 =>
    x_gI 3 M a0 2 fun v7 =>
    x_nz v7 <|
    x_aI 12 M v6 (a1 - a1 / v7 * v7) fun v8 =>
    some (v8, M)
  ) else
  some ((-1 : Int32), M)
set_option maxHeartbeats 4000000 in
theorem K_X3_verbOf (a0 : Nat) (a1 : Int32) (M : m_M) (Φ : Option Value → m_M → Prop) (h : m_ok e_I Φ (F_X3_verbOf a0 a1 M)) : j_Ct yX3_verbOf cX3_verbOf 2 (some .int) 1 0 0 [.ref a0, .int a1] M Φ := by
  refine j_Ct.of (by decide +kernel) (Nat.le_of_ble_eq_true rfl) fun X C => ?_
  have C0 := C.1
  show j_J X 2 0 [some (.ref a0), some (.int a1)] [] (0, 0) M
  unfold F_X3_verbOf at h
  refine j_iload_n C0 (pc := 0) dX3_verbOf_0 rfl ?_
  refine j_if_ge C0 (pc := 1) (tgt := 6) dX3_verbOf_1 (by decide) (fun hc => ?_) (fun hc => ?_)
  · replace h := (X_if h).1 hc
    refine j_aload_n C0 (pc := 6) dX3_verbOf_6 rfl ?_
    refine X_gI C0 (pc := 7) f_Land_65_3 rfl dX3_verbOf_7 h (fun v1 h => ?_)
    refine j_if_le C0 (pc := 10) (tgt := 25) dX3_verbOf_10 (by decide) (fun hc => ?_) (fun hc => ?_)
    · replace h := (X_if h).1 hc
      refine j_aload_n C0 (pc := 25) dX3_verbOf_25 rfl ?_
      refine X_gN C0 (pc := 26) f_Land_9_3 rfl dX3_verbOf_26 h (fun v2 h => ?_)
      refine j_iconst C0 (pc := 29) dX3_verbOf_29 (v := (2 : Int32)) (by decide) ?_
      refine X_iald C0 (pc := 30) dX3_verbOf_30 h (fun v3 h => ?_)
      refine j_if_le C0 (pc := 31) (tgt := 45) dX3_verbOf_31 (by decide) (fun hc => ?_) (fun hc => ?_)
      · replace h := (X_if h).1 hc
        refine j_iconst C0 (pc := 45) dX3_verbOf_45 (v := (-1 : Int32)) (by decide) ?_
        exact j_iret C rfl h dX3_verbOf_46 (by decide)
      · replace h := (X_if h).2 hc
        refine j_iload_n C0 (pc := 34) dX3_verbOf_34 rfl ?_
        refine j_aload_n C0 (pc := 35) dX3_verbOf_35 rfl ?_
        refine X_gN C0 (pc := 36) f_Land_9_3 rfl dX3_verbOf_36 h (fun v4 h => ?_)
        refine j_iconst C0 (pc := 39) dX3_verbOf_39 (v := (2 : Int32)) (by decide) ?_
        refine X_iald C0 (pc := 40) dX3_verbOf_40 h (fun v5 h => ?_)
        refine X_irem C0 (pc := 41) dX3_verbOf_41 h (fun h => ?_)
        refine j_goto C0 (pc := 42) (tgt := 46) dX3_verbOf_42 (by decide) ?_
        exact j_iret C rfl h dX3_verbOf_46 (by decide)
    · replace h := (X_if h).2 hc
      refine j_aload_n C0 (pc := 13) dX3_verbOf_13 rfl ?_
      refine X_gN C0 (pc := 14) f_Land_18_3 rfl dX3_verbOf_14 h (fun v6 h => ?_)
      refine j_iload_n C0 (pc := 17) dX3_verbOf_17 rfl ?_
      refine j_aload_n C0 (pc := 18) dX3_verbOf_18 rfl ?_
      refine X_gI C0 (pc := 19) f_Land_65_3 rfl dX3_verbOf_19 h (fun v7 h => ?_)
      refine X_irem C0 (pc := 22) dX3_verbOf_22 h (fun h => ?_)
      refine X_iald C0 (pc := 23) dX3_verbOf_23 h (fun v8 h => ?_)
      exact j_iret C rfl h dX3_verbOf_24 (by decide)
  · replace h := (X_if h).2 hc
    refine j_iconst C0 (pc := 4) dX3_verbOf_4 (v := (-1 : Int32)) (by decide) ?_
    exact j_iret C rfl h dX3_verbOf_5 (by decide)
theorem dX11_verbToday_0 : decode cX11_verbToday 0 = .ok (.aload_n 0, 1) := by decide +kernel
theorem dX11_verbToday_1 : decode cX11_verbToday 1 = .ok (.getfield 16, 3) := by decide +kernel
theorem dX11_verbToday_4 : decode cX11_verbToday 4 = .ok (.aload_n 0, 1) := by decide +kernel
theorem dX11_verbToday_5 : decode cX11_verbToday 5 = .ok (.getfield 65, 3) := by decide +kernel
theorem dX11_verbToday_8 : decode cX11_verbToday 8 = .ok (.getfield 119, 3) := by decide +kernel
theorem dX11_verbToday_11 : decode cX11_verbToday 11 = .ok (.invokevirtual 162, 3) := by decide +kernel
theorem dX11_verbToday_14 : decode cX11_verbToday 14 = .ok (.ireturn, 1) := by decide +kernel
noncomputable def F_X11_verbToday (a0 : Nat) (M : m_M) : Option (Int32 × m_M) :=
  x_gN 9 M a0 2 fun v1 =>
  x_gN 9 M a0 9 fun v2 =>
  x_gI 1 M v2 0 fun v3 =>
  x_cV 3 M v1 (F_X3_verbOf v1 v3 M) fun v4 M1 =>
  some (v4, M1)
set_option maxHeartbeats 4000000 in
theorem K_X11_verbToday (a0 : Nat) (M : m_M) (Φ : Option Value → m_M → Prop) (h : m_ok e_I Φ (F_X11_verbToday a0 M)) : j_Ct yX11_verbToday cX11_verbToday 1 (some .int) 2 0 0 [.ref a0] M Φ := by
  refine j_Ct.of (by decide +kernel) (Nat.le_of_ble_eq_true rfl) fun X C => ?_
  have C0 := C.1
  show j_J X 1 0 [some (.ref a0)] [] (0, 0) M
  unfold F_X11_verbToday at h
  refine j_aload_n C0 (pc := 0) dX11_verbToday_0 rfl ?_
  refine X_gN C0 (pc := 1) f_OV_16_9 rfl dX11_verbToday_1 h (fun v1 h => ?_)
  refine j_aload_n C0 (pc := 4) dX11_verbToday_4 rfl ?_
  refine X_gN C0 (pc := 5) f_OV_65_9 rfl dX11_verbToday_5 h (fun v2 h => ?_)
  refine X_gI C0 (pc := 8) f_OV_119_1 rfl dX11_verbToday_8 h (fun v3 h => ?_)
  refine X_cV C0 (pc := 11) (e' := e_I) (as := [.int v3]) (rest := []) (s' := fun w => .int w :: []) (g' := (0, 0)) v_OV_162_3 (fun Ψ hΨ => K_X3_verbOf v1 v3 M Ψ hΨ) rfl rfl (fun _ => rfl) (by decide) (by decide) rfl (Nat.le_of_ble_eq_true rfl) dX11_verbToday_11 h (fun v4 M1 h => ?_)
  exact j_iret C rfl h dX11_verbToday_14 (by decide)
theorem dX10_turn_0 : decode cX10_turn 0 = .ok (.iconst 0, 1) := by decide +kernel
theorem dX10_turn_1 : decode cX10_turn 1 = .ok (.istore_n 2, 1) := by decide +kernel
theorem dX10_turn_2 : decode cX10_turn 2 = .ok (.iload_n 2, 1) := by decide +kernel
theorem dX10_turn_3 : decode cX10_turn 3 = .ok (.bipush 16, 2) := by decide +kernel
theorem dX10_turn_5 : decode cX10_turn 5 = .ok (.if_icmp .ge 31, 3) := by decide +kernel
theorem dX10_turn_8 : decode cX10_turn 8 = .ok (.aload_n 0, 1) := by decide +kernel
theorem dX10_turn_9 : decode cX10_turn 9 = .ok (.getfield 9, 3) := by decide +kernel
theorem dX10_turn_12 : decode cX10_turn 12 = .ok (.iload_n 2, 1) := by decide +kernel
theorem dX10_turn_13 : decode cX10_turn 13 = .ok (.aload_n 0, 1) := by decide +kernel
theorem dX10_turn_14 : decode cX10_turn 14 = .ok (.getfield 9, 3) := by decide +kernel
theorem dX10_turn_17 : decode cX10_turn 17 = .ok (.iload_n 2, 1) := by decide +kernel
theorem dX10_turn_18 : decode cX10_turn 18 = .ok (.laload, 1) := by decide +kernel
theorem dX10_turn_19 : decode cX10_turn 19 = .ok (.ldc2_w 15, 3) := by decide +kernel
theorem dX10_turn_22 : decode cX10_turn 22 = .ok (.lxor, 1) := by decide +kernel
theorem dX10_turn_23 : decode cX10_turn 23 = .ok (.iload_n 1, 1) := by decide +kernel
theorem dX10_turn_24 : decode cX10_turn 24 = .ok (.iload_n 2, 1) := by decide +kernel
theorem dX10_turn_25 : decode cX10_turn 25 = .ok (.invokestatic 23, 3) := by decide +kernel
theorem dX10_turn_28 : decode cX10_turn 28 = .ok (.land, 1) := by decide +kernel
theorem dX10_turn_29 : decode cX10_turn 29 = .ok (.lastore, 1) := by decide +kernel
theorem dX10_turn_30 : decode cX10_turn 30 = .ok (.iinc 2 1, 3) := by decide +kernel
theorem dX10_turn_33 : decode cX10_turn 33 = .ok (.goto (-31), 3) := by decide +kernel
theorem dX10_turn_36 : decode cX10_turn 36 = .ok (.return_, 1) := by decide +kernel
noncomputable def F_X10_turn_2 : Nat → Nat → Int32 → Int32 → m_M → Option (Unit × m_M)
  | 0, _, _, _, _ => none
  | n + 1, v1, v2, v3, M =>
    if (16 : Int32) ≤ v3 then (
      some ((), M)
    ) else
    x_gN 8 M v1 0 fun v4 =>
    x_gN 8 M v1 0 fun v5 =>
    x_aL M v5 v3 fun v6 =>
    x_bd (F_X10_wholeLong v2 v3 M) fun v7 M1 =>
    x_sL M1 v4 v3 ((v6 ^^^ (-1 : Int64)) &&& v7) fun M2 =>
    m_let (v3 + (1 : Int32)) fun v8 =>
    F_X10_turn_2 n v1 v2 v8 M2
noncomputable def F_X10_turn (a0 : Nat) (a1 : Int32) (M : m_M) : Option (Unit × m_M) :=
  F_X10_turn_2 m_FU a0 a1 (0 : Int32) M
set_option maxHeartbeats 4000000 in
theorem L_X10_turn_2 {X : j_X} {Φ : Option Value → m_M → Prop} (C : j_C X yX10_turn cX10_turn 3 none 2 0 0 Φ) : ∀ (n : Nat) (v1 : Nat) (v2 : Int32) (v3 : Int32) (M : m_M), m_ok e_V Φ (F_X10_turn_2 n v1 v2 v3 M) → j_J X 3 2 [some (.ref v1), some (.int v2), some (.int v3)] [] (0, 0) M := by
  have C0 := C.1
  intro n
  induction n with
  | zero => intro v1 v2 v3 M h; exact False.elim h
  | succ n ih =>
    intro v1 v2 v3 M h
    rw [F_X10_turn_2] at h
    refine j_iload_n C0 (pc := 2) dX10_turn_2 rfl ?_
    refine j_bipush C0 (pc := 3) dX10_turn_3 (v := (16 : Int32)) (by decide) ?_
    refine j_icmp_ge C0 (pc := 5) (tgt := 36) dX10_turn_5 (by decide) (fun hc => ?_) (fun hc => ?_)
    · replace h := (X_if h).1 hc
      exact j_vret C rfl h dX10_turn_36 (by decide)
    · replace h := (X_if h).2 hc
      refine j_aload_n C0 (pc := 8) dX10_turn_8 rfl ?_
      refine X_gN C0 (pc := 9) f_WS_9_8 rfl dX10_turn_9 h (fun v4 h => ?_)
      refine j_iload_n C0 (pc := 12) dX10_turn_12 rfl ?_
      refine j_aload_n C0 (pc := 13) dX10_turn_13 rfl ?_
      refine X_gN C0 (pc := 14) f_WS_9_8 rfl dX10_turn_14 h (fun v5 h => ?_)
      refine j_iload_n C0 (pc := 17) dX10_turn_17 rfl ?_
      refine X_lald C0 (pc := 18) dX10_turn_18 h (fun v6 h => ?_)
      refine j_ldc2 C0 (pc := 19) (v := (-1 : Int64)) (j_c4 208 (by decide +kernel)) dX10_turn_19 ?_
      refine j_lxor C0 (pc := 22) dX10_turn_22 ?_
      refine j_iload_n C0 (pc := 23) dX10_turn_23 rfl ?_
      refine j_iload_n C0 (pc := 24) dX10_turn_24 rfl ?_
      refine X_cS C0 (pc := 25) (e' := e_L) (as := [.int v2, .int v3]) (rest := [.long (v6 ^^^ (-1 : Int64)), .int v3, .ref v4]) (s' := fun w => .long w :: [.long (v6 ^^^ (-1 : Int64)), .int v3, .ref v4]) (g' := (0, 0)) s_WS_23 (fun Ψ hΨ => K_X10_wholeLong v2 v3 M Ψ hΨ) rfl rfl (fun _ => rfl) (by decide) (by decide) rfl (Nat.le_of_ble_eq_true rfl) dX10_turn_25 h (fun v7 M1 h => ?_)
      refine j_land C0 (pc := 28) dX10_turn_28 ?_
      refine X_last C0 (pc := 29) dX10_turn_29 h (fun M2 h => ?_)
      refine j_iinc C0 (pc := 30) dX10_turn_30 (v := v3 + (1 : Int32)) rfl (Nat.le_of_ble_eq_true rfl) (by rfl) ?_
      refine X_let (G := fun w => j_J X 3 33 [some (.ref v1), some (.int v2), some (.int w)] [] (0, 0) M2) h (fun v8 h => ?_)
      refine j_goto C0 (pc := 33) (tgt := 2) dX10_turn_33 (by decide) ?_
      exact j_J.wq (ih v1 v2 v8 M2 h) (And.intro rfl (And.intro rfl (And.intro rfl (trivial))))
set_option maxHeartbeats 4000000 in
theorem K_X10_turn (a0 : Nat) (a1 : Int32) (M : m_M) (Φ : Option Value → m_M → Prop) (h : m_ok e_V Φ (F_X10_turn a0 a1 M)) : j_Ct yX10_turn cX10_turn 3 none 2 0 0 [.ref a0, .int a1] M Φ := by
  refine j_Ct.of (by decide +kernel) (Nat.le_of_ble_eq_true rfl) fun X C => ?_
  have C0 := C.1
  show j_J X 3 0 [some (.ref a0), some (.int a1), none] [] (0, 0) M
  unfold F_X10_turn at h
  refine j_iconst C0 (pc := 0) dX10_turn_0 (v := (0 : Int32)) (by decide) ?_
  refine j_istore_n C0 (pc := 1) dX10_turn_1 (Nat.le_of_ble_eq_true rfl) ?_
  show j_J X 3 2 [some (.ref a0), some (.int a1), some (.int (0 : Int32))] [] (0, 0) M
  exact j_J.wq (L_X10_turn_2 C m_FU a0 a1 (0 : Int32) M h) (And.intro rfl (And.intro rfl (And.intro rfl (trivial))))
theorem dX10_join_0 : decode cX10_join 0 = .ok (.iconst 0, 1) := by decide +kernel
theorem dX10_join_1 : decode cX10_join 1 = .ok (.istore_n 2, 1) := by decide +kernel
theorem dX10_join_2 : decode cX10_join 2 = .ok (.iload_n 2, 1) := by decide +kernel
theorem dX10_join_3 : decode cX10_join 3 = .ok (.bipush 16, 2) := by decide +kernel
theorem dX10_join_5 : decode cX10_join 5 = .ok (.if_icmp .ge 24, 3) := by decide +kernel
theorem dX10_join_8 : decode cX10_join 8 = .ok (.aload_n 0, 1) := by decide +kernel
theorem dX10_join_9 : decode cX10_join 9 = .ok (.getfield 9, 3) := by decide +kernel
theorem dX10_join_12 : decode cX10_join 12 = .ok (.iload_n 2, 1) := by decide +kernel
theorem dX10_join_13 : decode cX10_join 13 = .ok (.dup2, 1) := by decide +kernel
theorem dX10_join_14 : decode cX10_join 14 = .ok (.laload, 1) := by decide +kernel
theorem dX10_join_15 : decode cX10_join 15 = .ok (.aload_n 1, 1) := by decide +kernel
theorem dX10_join_16 : decode cX10_join 16 = .ok (.getfield 9, 3) := by decide +kernel
theorem dX10_join_19 : decode cX10_join 19 = .ok (.iload_n 2, 1) := by decide +kernel
theorem dX10_join_20 : decode cX10_join 20 = .ok (.laload, 1) := by decide +kernel
theorem dX10_join_21 : decode cX10_join 21 = .ok (.lor, 1) := by decide +kernel
theorem dX10_join_22 : decode cX10_join 22 = .ok (.lastore, 1) := by decide +kernel
theorem dX10_join_23 : decode cX10_join 23 = .ok (.iinc 2 1, 3) := by decide +kernel
theorem dX10_join_26 : decode cX10_join 26 = .ok (.goto (-24), 3) := by decide +kernel
theorem dX10_join_29 : decode cX10_join 29 = .ok (.return_, 1) := by decide +kernel
noncomputable def F_X10_join_2 : Nat → Nat → Nat → Int32 → m_M → Option (Unit × m_M)
  | 0, _, _, _, _ => none
  | n + 1, v1, v2, v3, M =>
    if (16 : Int32) ≤ v3 then (
      some ((), M)
    ) else
    x_gN 8 M v1 0 fun v4 =>
    x_aL M v4 v3 fun v5 =>
    x_gN 8 M v2 0 fun v6 =>
    x_aL M v6 v3 fun v7 =>
    x_sL M v4 v3 (v5 ||| v7) fun M1 =>
    m_let (v3 + (1 : Int32)) fun v8 =>
    F_X10_join_2 n v1 v2 v8 M1
noncomputable def F_X10_join (a0 : Nat) (a1 : Nat) (M : m_M) : Option (Unit × m_M) :=
  F_X10_join_2 m_FU a0 a1 (0 : Int32) M
set_option maxHeartbeats 4000000 in
theorem L_X10_join_2 {X : j_X} {Φ : Option Value → m_M → Prop} (C : j_C X yX10_join cX10_join 3 none 1 0 0 Φ) : ∀ (n : Nat) (v1 : Nat) (v2 : Nat) (v3 : Int32) (M : m_M), m_ok e_V Φ (F_X10_join_2 n v1 v2 v3 M) → j_J X 3 2 [some (.ref v1), some (.ref v2), some (.int v3)] [] (0, 0) M := by
  have C0 := C.1
  intro n
  induction n with
  | zero => intro v1 v2 v3 M h; exact False.elim h
  | succ n ih =>
    intro v1 v2 v3 M h
    rw [F_X10_join_2] at h
    refine j_iload_n C0 (pc := 2) dX10_join_2 rfl ?_
    refine j_bipush C0 (pc := 3) dX10_join_3 (v := (16 : Int32)) (by decide) ?_
    refine j_icmp_ge C0 (pc := 5) (tgt := 29) dX10_join_5 (by decide) (fun hc => ?_) (fun hc => ?_)
    · replace h := (X_if h).1 hc
      exact j_vret C rfl h dX10_join_29 (by decide)
    · replace h := (X_if h).2 hc
      refine j_aload_n C0 (pc := 8) dX10_join_8 rfl ?_
      refine X_gN C0 (pc := 9) f_WS_9_8 rfl dX10_join_9 h (fun v4 h => ?_)
      refine j_iload_n C0 (pc := 12) dX10_join_12 rfl ?_
      refine j_dup2 C0 (pc := 13) dX10_join_13 rfl rfl ?_
      refine X_lald C0 (pc := 14) dX10_join_14 h (fun v5 h => ?_)
      refine j_aload_n C0 (pc := 15) dX10_join_15 rfl ?_
      refine X_gN C0 (pc := 16) f_WS_9_8 rfl dX10_join_16 h (fun v6 h => ?_)
      refine j_iload_n C0 (pc := 19) dX10_join_19 rfl ?_
      refine X_lald C0 (pc := 20) dX10_join_20 h (fun v7 h => ?_)
      refine j_lor C0 (pc := 21) dX10_join_21 ?_
      refine X_last C0 (pc := 22) dX10_join_22 h (fun M1 h => ?_)
      refine j_iinc C0 (pc := 23) dX10_join_23 (v := v3 + (1 : Int32)) rfl (Nat.le_of_ble_eq_true rfl) (by rfl) ?_
      refine X_let (G := fun w => j_J X 3 26 [some (.ref v1), some (.ref v2), some (.int w)] [] (0, 0) M1) h (fun v8 h => ?_)
      refine j_goto C0 (pc := 26) (tgt := 2) dX10_join_26 (by decide) ?_
      exact j_J.wq (ih v1 v2 v8 M1 h) (And.intro rfl (And.intro rfl (And.intro rfl (trivial))))
set_option maxHeartbeats 4000000 in
theorem K_X10_join (a0 : Nat) (a1 : Nat) (M : m_M) (Φ : Option Value → m_M → Prop) (h : m_ok e_V Φ (F_X10_join a0 a1 M)) : j_Ct yX10_join cX10_join 3 none 1 0 0 [.ref a0, .ref a1] M Φ := by
  refine j_Ct.of (by decide +kernel) (Nat.le_of_ble_eq_true rfl) fun X C => ?_
  have C0 := C.1
  show j_J X 3 0 [some (.ref a0), some (.ref a1), none] [] (0, 0) M
  unfold F_X10_join at h
  refine j_iconst C0 (pc := 0) dX10_join_0 (v := (0 : Int32)) (by decide) ?_
  refine j_istore_n C0 (pc := 1) dX10_join_1 (Nat.le_of_ble_eq_true rfl) ?_
  show j_J X 3 2 [some (.ref a0), some (.ref a1), some (.int (0 : Int32))] [] (0, 0) M
  exact j_J.wq (L_X10_join_2 C m_FU a0 a1 (0 : Int32) M h) (And.intro rfl (And.intro rfl (And.intro rfl (trivial))))
theorem dX5_joinTop_0 : decode cX5_joinTop 0 = .ok (.iload_n 1, 1) := by decide +kernel
theorem dX5_joinTop_1 : decode cX5_joinTop 1 = .ok (.bipush (-12), 2) := by decide +kernel
theorem dX5_joinTop_3 : decode cX5_joinTop 3 = .ok (.if_icmp .ne 23, 3) := by decide +kernel
theorem dX5_joinTop_6 : decode cX5_joinTop 6 = .ok (.aload_n 0, 1) := by decide +kernel
theorem dX5_joinTop_7 : decode cX5_joinTop 7 = .ok (.getfield 13, 3) := by decide +kernel
theorem dX5_joinTop_10 : decode cX5_joinTop 10 = .ok (.iload_n 2, 1) := by decide +kernel
theorem dX5_joinTop_11 : decode cX5_joinTop 11 = .ok (.iconst 1, 1) := by decide +kernel
theorem dX5_joinTop_12 : decode cX5_joinTop 12 = .ok (.isub, 1) := by decide +kernel
theorem dX5_joinTop_13 : decode cX5_joinTop 13 = .ok (.aaload, 1) := by decide +kernel
theorem dX5_joinTop_14 : decode cX5_joinTop 14 = .ok (.aload_n 0, 1) := by decide +kernel
theorem dX5_joinTop_15 : decode cX5_joinTop 15 = .ok (.getfield 13, 3) := by decide +kernel
theorem dX5_joinTop_18 : decode cX5_joinTop 18 = .ok (.iload_n 2, 1) := by decide +kernel
theorem dX5_joinTop_19 : decode cX5_joinTop 19 = .ok (.aaload, 1) := by decide +kernel
theorem dX5_joinTop_20 : decode cX5_joinTop 20 = .ok (.invokevirtual 51, 3) := by decide +kernel
theorem dX5_joinTop_23 : decode cX5_joinTop 23 = .ok (.goto 20, 3) := by decide +kernel
theorem dX5_joinTop_26 : decode cX5_joinTop 26 = .ok (.aload_n 0, 1) := by decide +kernel
theorem dX5_joinTop_27 : decode cX5_joinTop 27 = .ok (.getfield 13, 3) := by decide +kernel
theorem dX5_joinTop_30 : decode cX5_joinTop 30 = .ok (.iload_n 2, 1) := by decide +kernel
theorem dX5_joinTop_31 : decode cX5_joinTop 31 = .ok (.iconst 1, 1) := by decide +kernel
theorem dX5_joinTop_32 : decode cX5_joinTop 32 = .ok (.isub, 1) := by decide +kernel
theorem dX5_joinTop_33 : decode cX5_joinTop 33 = .ok (.aaload, 1) := by decide +kernel
theorem dX5_joinTop_34 : decode cX5_joinTop 34 = .ok (.aload_n 0, 1) := by decide +kernel
theorem dX5_joinTop_35 : decode cX5_joinTop 35 = .ok (.getfield 13, 3) := by decide +kernel
theorem dX5_joinTop_38 : decode cX5_joinTop 38 = .ok (.iload_n 2, 1) := by decide +kernel
theorem dX5_joinTop_39 : decode cX5_joinTop 39 = .ok (.aaload, 1) := by decide +kernel
theorem dX5_joinTop_40 : decode cX5_joinTop 40 = .ok (.invokevirtual 54, 3) := by decide +kernel
theorem dX5_joinTop_43 : decode cX5_joinTop 43 = .ok (.return_, 1) := by decide +kernel
noncomputable def F_X5_joinTop (a0 : Nat) (a1 : Int32) (a2 : Int32) (M : m_M) : Option (Unit × m_M) :=
  if a1 = (-12 : Int32) then (
    x_gN 5 M a0 1 fun v5 =>
    x_aN 17 M v5 (a2 - (1 : Int32)) fun v6 =>
    x_gN 5 M a0 1 fun v7 =>
    x_aN 17 M v7 a2 fun v8 =>
    x_cV 8 M v6 (F_X10_keep v6 v8 M) fun _ M2 =>
    some ((), M2)
  ) else
  x_gN 5 M a0 1 fun v1 =>
  x_aN 17 M v1 (a2 - (1 : Int32)) fun v2 =>
  x_gN 5 M a0 1 fun v3 =>
  x_aN 17 M v3 a2 fun v4 =>
  x_cV 8 M v2 (F_X10_join v2 v4 M) fun _ M1 =>
  some ((), M1)
set_option maxHeartbeats 4000000 in
theorem K_X5_joinTop (a0 : Nat) (a1 : Int32) (a2 : Int32) (M : m_M) (Φ : Option Value → m_M → Prop) (h : m_ok e_V Φ (F_X5_joinTop a0 a1 a2 M)) : j_Ct yX5_joinTop cX5_joinTop 3 none 2 0 0 [.ref a0, .int a1, .int a2] M Φ := by
  refine j_Ct.of (by decide +kernel) (Nat.le_of_ble_eq_true rfl) fun X C => ?_
  have C0 := C.1
  show j_J X 3 0 [some (.ref a0), some (.int a1), some (.int a2)] [] (0, 0) M
  unfold F_X5_joinTop at h
  refine j_iload_n C0 (pc := 0) dX5_joinTop_0 rfl ?_
  refine j_bipush C0 (pc := 1) dX5_joinTop_1 (v := (-12 : Int32)) (by decide) ?_
  refine j_icmp_ne C0 (pc := 3) (tgt := 26) dX5_joinTop_3 (by decide) (fun hc => ?_) (fun hc => ?_)
  · replace h := (X_if h).2 hc
    refine j_aload_n C0 (pc := 26) dX5_joinTop_26 rfl ?_
    refine X_gN C0 (pc := 27) f_Meaning_13_5 rfl dX5_joinTop_27 h (fun v1 h => ?_)
    refine j_iload_n C0 (pc := 30) dX5_joinTop_30 rfl ?_
    refine j_iconst C0 (pc := 31) dX5_joinTop_31 (v := (1 : Int32)) (by decide) ?_
    refine j_isub C0 (pc := 32) dX5_joinTop_32 ?_
    refine X_aaldN C0 (pc := 33) (by decide) dX5_joinTop_33 h (fun v2 h => ?_)
    refine j_aload_n C0 (pc := 34) dX5_joinTop_34 rfl ?_
    refine X_gN C0 (pc := 35) f_Meaning_13_5 rfl dX5_joinTop_35 h (fun v3 h => ?_)
    refine j_iload_n C0 (pc := 38) dX5_joinTop_38 rfl ?_
    refine X_aaldN C0 (pc := 39) (by decide) dX5_joinTop_39 h (fun v4 h => ?_)
    refine X_cV C0 (pc := 40) (e' := e_V) (as := [.ref v4]) (rest := []) (s' := fun _ => []) (g' := (0, 0)) v_Meaning_54_8 (fun Ψ hΨ => K_X10_join v2 v4 M Ψ hΨ) rfl rfl (fun _ => rfl) (by decide) (by decide) rfl (Nat.le_of_ble_eq_true rfl) dX5_joinTop_40 h (fun _ M1 h => ?_)
    exact j_vret C rfl h dX5_joinTop_43 (by decide)
  · replace h := (X_if h).1 hc
    refine j_aload_n C0 (pc := 6) dX5_joinTop_6 rfl ?_
    refine X_gN C0 (pc := 7) f_Meaning_13_5 rfl dX5_joinTop_7 h (fun v5 h => ?_)
    refine j_iload_n C0 (pc := 10) dX5_joinTop_10 rfl ?_
    refine j_iconst C0 (pc := 11) dX5_joinTop_11 (v := (1 : Int32)) (by decide) ?_
    refine j_isub C0 (pc := 12) dX5_joinTop_12 ?_
    refine X_aaldN C0 (pc := 13) (by decide) dX5_joinTop_13 h (fun v6 h => ?_)
    refine j_aload_n C0 (pc := 14) dX5_joinTop_14 rfl ?_
    refine X_gN C0 (pc := 15) f_Meaning_13_5 rfl dX5_joinTop_15 h (fun v7 h => ?_)
    refine j_iload_n C0 (pc := 18) dX5_joinTop_18 rfl ?_
    refine X_aaldN C0 (pc := 19) (by decide) dX5_joinTop_19 h (fun v8 h => ?_)
    refine X_cV C0 (pc := 20) (e' := e_V) (as := [.ref v8]) (rest := []) (s' := fun _ => []) (g' := (0, 0)) v_Meaning_51_8 (fun Ψ hΨ => K_X10_keep v6 v8 M Ψ hΨ) rfl rfl (fun _ => rfl) (by decide) (by decide) rfl (Nat.le_of_ble_eq_true rfl) dX5_joinTop_20 h (fun _ M2 h => ?_)
    refine j_goto C0 (pc := 23) (tgt := 43) dX5_joinTop_23 (by decide) ?_
    exact j_vret C rfl h dX5_joinTop_43 (by decide)
theorem dX3_firstOf_0 : decode cX3_firstOf 0 = .ok (.iload_n 1, 1) := by decide +kernel
theorem dX3_firstOf_1 : decode cX3_firstOf 1 = .ok (.bipush 11, 2) := by decide +kernel
theorem dX3_firstOf_3 : decode cX3_firstOf 3 = .ok (.ishr, 1) := by decide +kernel
theorem dX3_firstOf_4 : decode cX3_firstOf 4 = .ok (.ireturn, 1) := by decide +kernel
noncomputable def F_X3_firstOf (a0 : Nat) (a1 : Int32) (M : m_M) : Option (Int32 × m_M) :=
  some (a1 >>> ((11 : Int32) &&& 31), M)
set_option maxHeartbeats 4000000 in
theorem K_X3_firstOf (a0 : Nat) (a1 : Int32) (M : m_M) (Φ : Option Value → m_M → Prop) (h : m_ok e_I Φ (F_X3_firstOf a0 a1 M)) : j_Ct yX3_firstOf cX3_firstOf 2 (some .int) 1 0 0 [.ref a0, .int a1] M Φ := by
  refine j_Ct.of (by decide +kernel) (Nat.le_of_ble_eq_true rfl) fun X C => ?_
  have C0 := C.1
  show j_J X 2 0 [some (.ref a0), some (.int a1)] [] (0, 0) M
  unfold F_X3_firstOf at h
  refine j_iload_n C0 (pc := 0) dX3_firstOf_0 rfl ?_
  refine j_bipush C0 (pc := 1) dX3_firstOf_1 (v := (11 : Int32)) (by decide) ?_
  refine j_ishr C0 (pc := 3) dX3_firstOf_3 ?_
  exact j_iret C rfl h dX3_firstOf_4 (by decide)
theorem dX3_secondOf_0 : decode cX3_secondOf 0 = .ok (.iload_n 1, 1) := by decide +kernel
theorem dX3_secondOf_1 : decode cX3_secondOf 1 = .ok (.sipush 2047, 3) := by decide +kernel
theorem dX3_secondOf_4 : decode cX3_secondOf 4 = .ok (.iand, 1) := by decide +kernel
theorem dX3_secondOf_5 : decode cX3_secondOf 5 = .ok (.ireturn, 1) := by decide +kernel
noncomputable def F_X3_secondOf (a0 : Nat) (a1 : Int32) (M : m_M) : Option (Int32 × m_M) :=
  some (a1 &&& (2047 : Int32), M)
set_option maxHeartbeats 4000000 in
theorem K_X3_secondOf (a0 : Nat) (a1 : Int32) (M : m_M) (Φ : Option Value → m_M → Prop) (h : m_ok e_I Φ (F_X3_secondOf a0 a1 M)) : j_Ct yX3_secondOf cX3_secondOf 2 (some .int) 1 0 0 [.ref a0, .int a1] M Φ := by
  refine j_Ct.of (by decide +kernel) (Nat.le_of_ble_eq_true rfl) fun X C => ?_
  have C0 := C.1
  show j_J X 2 0 [some (.ref a0), some (.int a1)] [] (0, 0) M
  unfold F_X3_secondOf at h
  refine j_iload_n C0 (pc := 0) dX3_secondOf_0 rfl ?_
  refine j_sipush C0 (pc := 1) dX3_secondOf_1 (v := (2047 : Int32)) (by decide) ?_
  refine j_iand C0 (pc := 4) dX3_secondOf_4 ?_
  exact j_iret C rfl h dX3_secondOf_5 (by decide)
theorem dX3_thingOf_0 : decode cX3_thingOf 0 = .ok (.iload_n 0, 1) := by decide +kernel
theorem dX3_thingOf_1 : decode cX3_thingOf 1 = .ok (.bipush 7, 2) := by decide +kernel
theorem dX3_thingOf_3 : decode cX3_thingOf 3 = .ok (.iand, 1) := by decide +kernel
theorem dX3_thingOf_4 : decode cX3_thingOf 4 = .ok (.iconst 4, 1) := by decide +kernel
theorem dX3_thingOf_5 : decode cX3_thingOf 5 = .ok (.invokestatic 132, 3) := by decide +kernel
theorem dX3_thingOf_8 : decode cX3_thingOf 8 = .ok (.ireturn, 1) := by decide +kernel
noncomputable def F_X3_thingOf (a1 : Int32) (M : m_M) : Option (Int32 × m_M) :=
  x_bd (F_J9_min_7cf53 (a1 &&& (7 : Int32)) (4 : Int32) M) fun v1 M1 =>
  some (v1, M1)
set_option maxHeartbeats 4000000 in
theorem K_X3_thingOf (a1 : Int32) (M : m_M) (Φ : Option Value → m_M → Prop) (h : m_ok e_I Φ (F_X3_thingOf a1 M)) : j_Ct yX3_thingOf cX3_thingOf 1 (some .int) 2 0 0 [.int a1] M Φ := by
  refine j_Ct.of (by decide +kernel) (Nat.le_of_ble_eq_true rfl) fun X C => ?_
  have C0 := C.1
  show j_J X 1 0 [some (.int a1)] [] (0, 0) M
  unfold F_X3_thingOf at h
  refine j_iload_n C0 (pc := 0) dX3_thingOf_0 rfl ?_
  refine j_bipush C0 (pc := 1) dX3_thingOf_1 (v := (7 : Int32)) (by decide) ?_
  refine j_iand C0 (pc := 3) dX3_thingOf_3 ?_
  refine j_iconst C0 (pc := 4) dX3_thingOf_4 (v := (4 : Int32)) (by decide) ?_
  refine X_cS C0 (pc := 5) (e' := e_I) (as := [.int (a1 &&& (7 : Int32)), .int (4 : Int32)]) (rest := []) (s' := fun w => .int w :: []) (g' := (0, 0)) s_Land_132 (fun Ψ hΨ => K_J9_min_7cf53 (a1 &&& (7 : Int32)) (4 : Int32) M Ψ hΨ) rfl rfl (fun _ => rfl) (by decide) (by decide) rfl (Nat.le_of_ble_eq_true rfl) dX3_thingOf_5 h (fun v1 M1 h => ?_)
  exact j_iret C rfl h dX3_thingOf_8 (by decide)
theorem dX3_lawIndex_0 : decode cX3_lawIndex 0 = .ok (.iload_n 0, 1) := by decide +kernel
theorem dX3_lawIndex_1 : decode cX3_lawIndex 1 = .ok (.iconst 5, 1) := by decide +kernel
theorem dX3_lawIndex_2 : decode cX3_lawIndex 2 = .ok (.imul, 1) := by decide +kernel
theorem dX3_lawIndex_3 : decode cX3_lawIndex 3 = .ok (.iload_n 1, 1) := by decide +kernel
theorem dX3_lawIndex_4 : decode cX3_lawIndex 4 = .ok (.iadd, 1) := by decide +kernel
theorem dX3_lawIndex_5 : decode cX3_lawIndex 5 = .ok (.iconst 5, 1) := by decide +kernel
theorem dX3_lawIndex_6 : decode cX3_lawIndex 6 = .ok (.imul, 1) := by decide +kernel
theorem dX3_lawIndex_7 : decode cX3_lawIndex 7 = .ok (.iload_n 2, 1) := by decide +kernel
theorem dX3_lawIndex_8 : decode cX3_lawIndex 8 = .ok (.iadd, 1) := by decide +kernel
theorem dX3_lawIndex_9 : decode cX3_lawIndex 9 = .ok (.ireturn, 1) := by decide +kernel
noncomputable def F_X3_lawIndex (a1 : Int32) (a2 : Int32) (a3 : Int32) (M : m_M) : Option (Int32 × m_M) :=
  some ((((a1 * (5 : Int32)) + a2) * (5 : Int32)) + a3, M)
set_option maxHeartbeats 4000000 in
theorem K_X3_lawIndex (a1 : Int32) (a2 : Int32) (a3 : Int32) (M : m_M) (Φ : Option Value → m_M → Prop) (h : m_ok e_I Φ (F_X3_lawIndex a1 a2 a3 M)) : j_Ct yX3_lawIndex cX3_lawIndex 3 (some .int) 1 0 0 [.int a1, .int a2, .int a3] M Φ := by
  refine j_Ct.of (by decide +kernel) (Nat.le_of_ble_eq_true rfl) fun X C => ?_
  have C0 := C.1
  show j_J X 3 0 [some (.int a1), some (.int a2), some (.int a3)] [] (0, 0) M
  unfold F_X3_lawIndex at h
  refine j_iload_n C0 (pc := 0) dX3_lawIndex_0 rfl ?_
  refine j_iconst C0 (pc := 1) dX3_lawIndex_1 (v := (5 : Int32)) (by decide) ?_
  refine j_imul C0 (pc := 2) dX3_lawIndex_2 ?_
  refine j_iload_n C0 (pc := 3) dX3_lawIndex_3 rfl ?_
  refine j_iadd C0 (pc := 4) dX3_lawIndex_4 ?_
  refine j_iconst C0 (pc := 5) dX3_lawIndex_5 (v := (5 : Int32)) (by decide) ?_
  refine j_imul C0 (pc := 6) dX3_lawIndex_6 ?_
  refine j_iload_n C0 (pc := 7) dX3_lawIndex_7 rfl ?_
  refine j_iadd C0 (pc := 8) dX3_lawIndex_8 ?_
  exact j_iret C rfl h dX3_lawIndex_9 (by decide)
theorem dX3_lawOn_0 : decode cX3_lawOn 0 = .ok (.iload_n 1, 1) := by decide +kernel
theorem dX3_lawOn_1 : decode cX3_lawOn 1 = .ok (.ifCond .lt 21, 3) := by decide +kernel
theorem dX3_lawOn_4 : decode cX3_lawOn 4 = .ok (.iload_n 2, 1) := by decide +kernel
theorem dX3_lawOn_5 : decode cX3_lawOn 5 = .ok (.ifCond .lt 17, 3) := by decide +kernel
theorem dX3_lawOn_8 : decode cX3_lawOn 8 = .ok (.iload_n 3, 1) := by decide +kernel
theorem dX3_lawOn_9 : decode cX3_lawOn 9 = .ok (.ifCond .lt 13, 3) := by decide +kernel
theorem dX3_lawOn_12 : decode cX3_lawOn 12 = .ok (.iload_n 3, 1) := by decide +kernel
theorem dX3_lawOn_13 : decode cX3_lawOn 13 = .ok (.aload_n 0, 1) := by decide +kernel
theorem dX3_lawOn_14 : decode cX3_lawOn 14 = .ok (.getfield 9, 3) := by decide +kernel
theorem dX3_lawOn_17 : decode cX3_lawOn 17 = .ok (.iconst 2, 1) := by decide +kernel
theorem dX3_lawOn_18 : decode cX3_lawOn 18 = .ok (.iaload, 1) := by decide +kernel
theorem dX3_lawOn_19 : decode cX3_lawOn 19 = .ok (.if_icmp .lt 5, 3) := by decide +kernel
theorem dX3_lawOn_22 : decode cX3_lawOn 22 = .ok (.iconst 0, 1) := by decide +kernel
theorem dX3_lawOn_23 : decode cX3_lawOn 23 = .ok (.ireturn, 1) := by decide +kernel
theorem dX3_lawOn_24 : decode cX3_lawOn 24 = .ok (.aload_n 0, 1) := by decide +kernel
theorem dX3_lawOn_25 : decode cX3_lawOn 25 = .ok (.getfield 40, 3) := by decide +kernel
theorem dX3_lawOn_28 : decode cX3_lawOn 28 = .ok (.iload_n 3, 1) := by decide +kernel
theorem dX3_lawOn_29 : decode cX3_lawOn 29 = .ok (.iload_n 1, 1) := by decide +kernel
theorem dX3_lawOn_30 : decode cX3_lawOn 30 = .ok (.invokestatic 145, 3) := by decide +kernel
theorem dX3_lawOn_33 : decode cX3_lawOn 33 = .ok (.iload_n 2, 1) := by decide +kernel
theorem dX3_lawOn_34 : decode cX3_lawOn 34 = .ok (.invokestatic 145, 3) := by decide +kernel
theorem dX3_lawOn_37 : decode cX3_lawOn 37 = .ok (.invokestatic 105, 3) := by decide +kernel
theorem dX3_lawOn_40 : decode cX3_lawOn 40 = .ok (.iaload, 1) := by decide +kernel
theorem dX3_lawOn_41 : decode cX3_lawOn 41 = .ok (.ireturn, 1) := by decide +kernel
noncomputable def F_X3_lawOn (a0 : Nat) (a1 : Int32) (a2 : Int32) (a3 : Int32) (M : m_M) : Option (Int32 × m_M) :=
  if a1 < 0 then (
    some ((0 : Int32), M)
  ) else
  if a2 < 0 then (
    some ((0 : Int32), M)
  ) else
  if a3 < 0 then (
    some ((0 : Int32), M)
  ) else
  x_gN 3 M a0 6 fun v1 =>
  x_aI 12 M v1 (2 : Int32) fun v2 =>
  if a3 < v2 then (
    x_gN 3 M a0 15 fun v3 =>
    x_bd (F_X3_thingOf a1 M) fun v4 M1 =>
    x_bd (F_X3_thingOf a2 M1) fun v5 M2 =>
    x_bd (F_X3_lawIndex a3 v4 v5 M2) fun v6 M3 =>
    x_aI 12 M3 v3 v6 fun v7 =>
    some (v7, M3)
  ) else
  some ((0 : Int32), M)
set_option maxHeartbeats 4000000 in
theorem K_X3_lawOn (a0 : Nat) (a1 : Int32) (a2 : Int32) (a3 : Int32) (M : m_M) (Φ : Option Value → m_M → Prop) (h : m_ok e_I Φ (F_X3_lawOn a0 a1 a2 a3 M)) : j_Ct yX3_lawOn cX3_lawOn 4 (some .int) 3 0 0 [.ref a0, .int a1, .int a2, .int a3] M Φ := by
  refine j_Ct.of (by decide +kernel) (Nat.le_of_ble_eq_true rfl) fun X C => ?_
  have C0 := C.1
  show j_J X 4 0 [some (.ref a0), some (.int a1), some (.int a2), some (.int a3)] [] (0, 0) M
  unfold F_X3_lawOn at h
  refine j_iload_n C0 (pc := 0) dX3_lawOn_0 rfl ?_
  refine j_if_lt C0 (pc := 1) (tgt := 22) dX3_lawOn_1 (by decide) (fun hc => ?_) (fun hc => ?_)
  · replace h := (X_if h).1 hc
    refine j_iconst C0 (pc := 22) dX3_lawOn_22 (v := (0 : Int32)) (by decide) ?_
    exact j_iret C rfl h dX3_lawOn_23 (by decide)
  · replace h := (X_if h).2 hc
    refine j_iload_n C0 (pc := 4) dX3_lawOn_4 rfl ?_
    refine j_if_lt C0 (pc := 5) (tgt := 22) dX3_lawOn_5 (by decide) (fun hc => ?_) (fun hc => ?_)
    · replace h := (X_if h).1 hc
      refine j_iconst C0 (pc := 22) dX3_lawOn_22 (v := (0 : Int32)) (by decide) ?_
      exact j_iret C rfl h dX3_lawOn_23 (by decide)
    · replace h := (X_if h).2 hc
      refine j_iload_n C0 (pc := 8) dX3_lawOn_8 rfl ?_
      refine j_if_lt C0 (pc := 9) (tgt := 22) dX3_lawOn_9 (by decide) (fun hc => ?_) (fun hc => ?_)
      · replace h := (X_if h).1 hc
        refine j_iconst C0 (pc := 22) dX3_lawOn_22 (v := (0 : Int32)) (by decide) ?_
        exact j_iret C rfl h dX3_lawOn_23 (by decide)
      · replace h := (X_if h).2 hc
        refine j_iload_n C0 (pc := 12) dX3_lawOn_12 rfl ?_
        refine j_aload_n C0 (pc := 13) dX3_lawOn_13 rfl ?_
        refine X_gN C0 (pc := 14) f_Land_9_3 rfl dX3_lawOn_14 h (fun v1 h => ?_)
        refine j_iconst C0 (pc := 17) dX3_lawOn_17 (v := (2 : Int32)) (by decide) ?_
        refine X_iald C0 (pc := 18) dX3_lawOn_18 h (fun v2 h => ?_)
        refine j_icmp_lt C0 (pc := 19) (tgt := 24) dX3_lawOn_19 (by decide) (fun hc => ?_) (fun hc => ?_)
        · replace h := (X_if h).1 hc
          refine j_aload_n C0 (pc := 24) dX3_lawOn_24 rfl ?_
          refine X_gN C0 (pc := 25) f_Land_40_3 rfl dX3_lawOn_25 h (fun v3 h => ?_)
          refine j_iload_n C0 (pc := 28) dX3_lawOn_28 rfl ?_
          refine j_iload_n C0 (pc := 29) dX3_lawOn_29 rfl ?_
          refine X_cS C0 (pc := 30) (e' := e_I) (as := [.int a1]) (rest := [.int a3, .ref v3]) (s' := fun w => .int w :: [.int a3, .ref v3]) (g' := (0, 0)) s_Land_145 (fun Ψ hΨ => K_X3_thingOf a1 M Ψ hΨ) rfl rfl (fun _ => rfl) (by decide) (by decide) rfl (Nat.le_of_ble_eq_true rfl) dX3_lawOn_30 h (fun v4 M1 h => ?_)
          refine j_iload_n C0 (pc := 33) dX3_lawOn_33 rfl ?_
          refine X_cS C0 (pc := 34) (e' := e_I) (as := [.int a2]) (rest := [.int v4, .int a3, .ref v3]) (s' := fun w => .int w :: [.int v4, .int a3, .ref v3]) (g' := (0, 0)) s_Land_145 (fun Ψ hΨ => K_X3_thingOf a2 M1 Ψ hΨ) rfl rfl (fun _ => rfl) (by decide) (by decide) rfl (Nat.le_of_ble_eq_true rfl) dX3_lawOn_34 h (fun v5 M2 h => ?_)
          refine X_cS C0 (pc := 37) (e' := e_I) (as := [.int a3, .int v4, .int v5]) (rest := [.ref v3]) (s' := fun w => .int w :: [.ref v3]) (g' := (0, 0)) s_Land_105 (fun Ψ hΨ => K_X3_lawIndex a3 v4 v5 M2 Ψ hΨ) rfl rfl (fun _ => rfl) (by decide) (by decide) rfl (Nat.le_of_ble_eq_true rfl) dX3_lawOn_37 h (fun v6 M3 h => ?_)
          refine X_iald C0 (pc := 40) dX3_lawOn_40 h (fun v7 h => ?_)
          exact j_iret C rfl h dX3_lawOn_41 (by decide)
        · replace h := (X_if h).2 hc
          refine j_iconst C0 (pc := 22) dX3_lawOn_22 (v := (0 : Int32)) (by decide) ?_
          exact j_iret C rfl h dX3_lawOn_23 (by decide)
theorem dX3_placeOf_0 : decode cX3_placeOf 0 = .ok (.iload_n 0, 1) := by decide +kernel
theorem dX3_placeOf_1 : decode cX3_placeOf 1 = .ok (.iconst 3, 1) := by decide +kernel
theorem dX3_placeOf_2 : decode cX3_placeOf 2 = .ok (.iconst 2, 1) := by decide +kernel
theorem dX3_placeOf_3 : decode cX3_placeOf 3 = .ok (.iload_n 1, 1) := by decide +kernel
theorem dX3_placeOf_4 : decode cX3_placeOf 4 = .ok (.imul, 1) := by decide +kernel
theorem dX3_placeOf_5 : decode cX3_placeOf 5 = .ok (.iadd, 1) := by decide +kernel
theorem dX3_placeOf_6 : decode cX3_placeOf 6 = .ok (.ishr, 1) := by decide +kernel
theorem dX3_placeOf_7 : decode cX3_placeOf 7 = .ok (.iconst 3, 1) := by decide +kernel
theorem dX3_placeOf_8 : decode cX3_placeOf 8 = .ok (.iand, 1) := by decide +kernel
theorem dX3_placeOf_9 : decode cX3_placeOf 9 = .ok (.ireturn, 1) := by decide +kernel
noncomputable def F_X3_placeOf (a1 : Int32) (a2 : Int32) (M : m_M) : Option (Int32 × m_M) :=
  some ((a1 >>> (((3 : Int32) + ((2 : Int32) * a2)) &&& 31)) &&& (3 : Int32), M)
set_option maxHeartbeats 4000000 in
theorem K_X3_placeOf (a1 : Int32) (a2 : Int32) (M : m_M) (Φ : Option Value → m_M → Prop) (h : m_ok e_I Φ (F_X3_placeOf a1 a2 M)) : j_Ct yX3_placeOf cX3_placeOf 2 (some .int) 1 0 0 [.int a1, .int a2] M Φ := by
  refine j_Ct.of (by decide +kernel) (Nat.le_of_ble_eq_true rfl) fun X C => ?_
  have C0 := C.1
  show j_J X 2 0 [some (.int a1), some (.int a2)] [] (0, 0) M
  unfold F_X3_placeOf at h
  refine j_iload_n C0 (pc := 0) dX3_placeOf_0 rfl ?_
  refine j_iconst C0 (pc := 1) dX3_placeOf_1 (v := (3 : Int32)) (by decide) ?_
  refine j_iconst C0 (pc := 2) dX3_placeOf_2 (v := (2 : Int32)) (by decide) ?_
  refine j_iload_n C0 (pc := 3) dX3_placeOf_3 rfl ?_
  refine j_imul C0 (pc := 4) dX3_placeOf_4 ?_
  refine j_iadd C0 (pc := 5) dX3_placeOf_5 ?_
  refine j_ishr C0 (pc := 6) dX3_placeOf_6 ?_
  refine j_iconst C0 (pc := 7) dX3_placeOf_7 (v := (3 : Int32)) (by decide) ?_
  refine j_iand C0 (pc := 8) dX3_placeOf_8 ?_
  exact j_iret C rfl h dX3_placeOf_9 (by decide)
theorem dX3_tableOf_0 : decode cX3_tableOf 0 = .ok (.aload_n 0, 1) := by decide +kernel
theorem dX3_tableOf_1 : decode cX3_tableOf 1 = .ok (.iload_n 1, 1) := by decide +kernel
theorem dX3_tableOf_2 : decode cX3_tableOf 2 = .ok (.iload_n 2, 1) := by decide +kernel
theorem dX3_tableOf_3 : decode cX3_tableOf 3 = .ok (.iload_n 3, 1) := by decide +kernel
theorem dX3_tableOf_4 : decode cX3_tableOf 4 = .ok (.invokevirtual 148, 3) := by decide +kernel
theorem dX3_tableOf_7 : decode cX3_tableOf 7 = .ok (.istore 4, 2) := by decide +kernel
theorem dX3_tableOf_9 : decode cX3_tableOf 9 = .ok (.iconst 0, 1) := by decide +kernel
theorem dX3_tableOf_10 : decode cX3_tableOf 10 = .ok (.istore 5, 2) := by decide +kernel
theorem dX3_tableOf_12 : decode cX3_tableOf 12 = .ok (.iconst 0, 1) := by decide +kernel
theorem dX3_tableOf_13 : decode cX3_tableOf 13 = .ok (.istore 6, 2) := by decide +kernel
theorem dX3_tableOf_15 : decode cX3_tableOf 15 = .ok (.iload 6, 2) := by decide +kernel
theorem dX3_tableOf_17 : decode cX3_tableOf 17 = .ok (.aload_n 0, 1) := by decide +kernel
theorem dX3_tableOf_18 : decode cX3_tableOf 18 = .ok (.getfield 58, 3) := by decide +kernel
theorem dX3_tableOf_21 : decode cX3_tableOf 21 = .ok (.if_icmp .ge 64, 3) := by decide +kernel
theorem dX3_tableOf_24 : decode cX3_tableOf 24 = .ok (.iload 4, 2) := by decide +kernel
theorem dX3_tableOf_26 : decode cX3_tableOf 26 = .ok (.iconst 4, 1) := by decide +kernel
theorem dX3_tableOf_27 : decode cX3_tableOf 27 = .ok (.iload_n 1, 1) := by decide +kernel
theorem dX3_tableOf_28 : decode cX3_tableOf 28 = .ok (.iload 6, 2) := by decide +kernel
theorem dX3_tableOf_30 : decode cX3_tableOf 30 = .ok (.invokestatic 151, 3) := by decide +kernel
theorem dX3_tableOf_33 : decode cX3_tableOf 33 = .ok (.imul, 1) := by decide +kernel
theorem dX3_tableOf_34 : decode cX3_tableOf 34 = .ok (.ishr, 1) := by decide +kernel
theorem dX3_tableOf_35 : decode cX3_tableOf 35 = .ok (.istore 7, 2) := by decide +kernel
theorem dX3_tableOf_37 : decode cX3_tableOf 37 = .ok (.iconst 0, 1) := by decide +kernel
theorem dX3_tableOf_38 : decode cX3_tableOf 38 = .ok (.istore 8, 2) := by decide +kernel
theorem dX3_tableOf_40 : decode cX3_tableOf 40 = .ok (.iload 8, 2) := by decide +kernel
theorem dX3_tableOf_42 : decode cX3_tableOf 42 = .ok (.aload_n 0, 1) := by decide +kernel
theorem dX3_tableOf_43 : decode cX3_tableOf 43 = .ok (.getfield 58, 3) := by decide +kernel
theorem dX3_tableOf_46 : decode cX3_tableOf 46 = .ok (.if_icmp .ge 33, 3) := by decide +kernel
theorem dX3_tableOf_49 : decode cX3_tableOf 49 = .ok (.iload 5, 2) := by decide +kernel
theorem dX3_tableOf_51 : decode cX3_tableOf 51 = .ok (.iload 7, 2) := by decide +kernel
theorem dX3_tableOf_53 : decode cX3_tableOf 53 = .ok (.iload_n 2, 1) := by decide +kernel
theorem dX3_tableOf_54 : decode cX3_tableOf 54 = .ok (.iload 8, 2) := by decide +kernel
theorem dX3_tableOf_56 : decode cX3_tableOf 56 = .ok (.invokestatic 151, 3) := by decide +kernel
theorem dX3_tableOf_59 : decode cX3_tableOf 59 = .ok (.ishr, 1) := by decide +kernel
theorem dX3_tableOf_60 : decode cX3_tableOf 60 = .ok (.iconst 1, 1) := by decide +kernel
theorem dX3_tableOf_61 : decode cX3_tableOf 61 = .ok (.iand, 1) := by decide +kernel
theorem dX3_tableOf_62 : decode cX3_tableOf 62 = .ok (.iload 6, 2) := by decide +kernel
theorem dX3_tableOf_64 : decode cX3_tableOf 64 = .ok (.iconst 4, 1) := by decide +kernel
theorem dX3_tableOf_65 : decode cX3_tableOf 65 = .ok (.imul, 1) := by decide +kernel
theorem dX3_tableOf_66 : decode cX3_tableOf 66 = .ok (.iload 8, 2) := by decide +kernel
theorem dX3_tableOf_68 : decode cX3_tableOf 68 = .ok (.iadd, 1) := by decide +kernel
theorem dX3_tableOf_69 : decode cX3_tableOf 69 = .ok (.ishl, 1) := by decide +kernel
theorem dX3_tableOf_70 : decode cX3_tableOf 70 = .ok (.ior, 1) := by decide +kernel
theorem dX3_tableOf_71 : decode cX3_tableOf 71 = .ok (.istore 5, 2) := by decide +kernel
theorem dX3_tableOf_73 : decode cX3_tableOf 73 = .ok (.iinc 8 1, 3) := by decide +kernel
theorem dX3_tableOf_76 : decode cX3_tableOf 76 = .ok (.goto (-36), 3) := by decide +kernel
theorem dX3_tableOf_79 : decode cX3_tableOf 79 = .ok (.iinc 6 1, 3) := by decide +kernel
theorem dX3_tableOf_82 : decode cX3_tableOf 82 = .ok (.goto (-67), 3) := by decide +kernel
theorem dX3_tableOf_85 : decode cX3_tableOf 85 = .ok (.iload 5, 2) := by decide +kernel
theorem dX3_tableOf_87 : decode cX3_tableOf 87 = .ok (.ireturn, 1) := by decide +kernel
noncomputable def F_X3_tableOf_40 (k79 : Nat → Int32 → Int32 → Int32 → Int32 → Int32 → m_M → Option (Int32 × m_M)) : Nat → Nat → Int32 → Int32 → Int32 → Int32 → Int32 → Int32 → Int32 → m_M → Option (Int32 × m_M)
  | 0, _, _, _, _, _, _, _, _, _ => none
  | n + 1, v1, v2, v3, v4, v5, v6, v7, v8, M =>
    x_gI 3 M v1 0 fun v9 =>
    if v9 ≤ v8 then (
      k79 v1 v2 v3 v4 v5 v6 M
    ) else
    x_bd (F_X3_placeOf v3 v8 M) fun v10 M1 =>
    m_let (v5 ||| (((v7 >>> (v10 &&& 31)) &&& (1 : Int32)) <<< (((v6 * (4 : Int32)) + v8) &&& 31))) fun v11 =>
    m_let (v8 + (1 : Int32)) fun v12 =>
    F_X3_tableOf_40 k79 n v1 v2 v3 v4 v11 v6 v7 v12 M1
noncomputable def F_X3_tableOf_15 : Nat → Nat → Int32 → Int32 → Int32 → Int32 → Int32 → m_M → Option (Int32 × m_M)
  | 0, _, _, _, _, _, _, _ => none
  | n + 1, v1, v2, v3, v4, v5, v6, M =>
    x_gI 3 M v1 0 fun v7 =>
    if v7 ≤ v6 then (
      some (v5, M)
    ) else
    x_bd (F_X3_placeOf v2 v6 M) fun v8 M1 =>
    m_let (v4 >>> (((4 : Int32) * v8) &&& 31)) fun v9 =>
    m_let (fun (v10 : Nat) (v11 : Int32) (v12 : Int32) (v13 : Int32) (v14 : Int32) (v15 : Int32) (M2 : m_M) =>
      m_let (v15 + (1 : Int32)) fun v16 =>
      F_X3_tableOf_15 n v10 v11 v12 v13 v14 v16 M2
    ) fun (k79 : Nat → Int32 → Int32 → Int32 → Int32 → Int32 → m_M → Option (Int32 × m_M)) =>
    F_X3_tableOf_40 k79 m_FU v1 v2 v3 v4 v5 v6 v9 (0 : Int32) M1
noncomputable def F_X3_tableOf (a0 : Nat) (a1 : Int32) (a2 : Int32) (a3 : Int32) (M : m_M) : Option (Int32 × m_M) :=
  x_cV 3 M a0 (F_X3_lawOn a0 a1 a2 a3 M) fun v1 M1 =>
  F_X3_tableOf_15 m_FU a0 a1 a2 v1 (0 : Int32) (0 : Int32) M1
set_option maxHeartbeats 4000000 in
theorem L_X3_tableOf_40 {X : j_X} {Φ : Option Value → m_M → Prop} (C : j_C X yX3_tableOf cX3_tableOf 9 (some .int) 4 0 0 Φ) {k79 : Nat → Int32 → Int32 → Int32 → Int32 → Int32 → m_M → Option (Int32 × m_M)} (hk79 : ∀ (p0 : Nat) (p1 : Int32) (p2 : Int32) (p3 : Int32) (p4 : Int32) (p5 : Int32) (M : m_M), m_ok e_I Φ (k79 p0 p1 p2 p3 p4 p5 M) → j_J X 9 79 [some (.ref p0), some (.int p1), some (.int p2), none, some (.int p3), some (.int p4), some (.int p5), none, none] [] (0, 0) M) : ∀ (n : Nat) (v1 : Nat) (v2 : Int32) (v3 : Int32) (v4 : Int32) (v5 : Int32) (v6 : Int32) (v7 : Int32) (v8 : Int32) (M : m_M), m_ok e_I Φ (F_X3_tableOf_40 k79 n v1 v2 v3 v4 v5 v6 v7 v8 M) → j_J X 9 40 [some (.ref v1), some (.int v2), some (.int v3), none, some (.int v4), some (.int v5), some (.int v6), some (.int v7), some (.int v8)] [] (0, 0) M := by
  have C0 := C.1
  intro n
  induction n with
  | zero => intro v1 v2 v3 v4 v5 v6 v7 v8 M h; exact False.elim h
  | succ n ih =>
    intro v1 v2 v3 v4 v5 v6 v7 v8 M h
    rw [F_X3_tableOf_40] at h
    refine j_iload C0 (pc := 40) dX3_tableOf_40 rfl ?_
    refine j_aload_n C0 (pc := 42) dX3_tableOf_42 rfl ?_
    refine X_gI C0 (pc := 43) f_Land_58_3 rfl dX3_tableOf_43 h (fun v9 h => ?_)
    refine j_icmp_ge C0 (pc := 46) (tgt := 79) dX3_tableOf_46 (by decide) (fun hc => ?_) (fun hc => ?_)
    · replace h := (X_if h).1 hc
      exact j_J.wq (hk79 v1 v2 v3 v4 v5 v6 M h) (And.intro rfl (And.intro rfl (And.intro rfl (And.intro rfl (And.intro rfl (And.intro rfl (trivial)))))))
    · replace h := (X_if h).2 hc
      refine j_iload C0 (pc := 49) dX3_tableOf_49 rfl ?_
      refine j_iload C0 (pc := 51) dX3_tableOf_51 rfl ?_
      refine j_iload_n C0 (pc := 53) dX3_tableOf_53 rfl ?_
      refine j_iload C0 (pc := 54) dX3_tableOf_54 rfl ?_
      refine X_cS C0 (pc := 56) (e' := e_I) (as := [.int v3, .int v8]) (rest := [.int v7, .int v5]) (s' := fun w => .int w :: [.int v7, .int v5]) (g' := (0, 0)) s_Land_151 (fun Ψ hΨ => K_X3_placeOf v3 v8 M Ψ hΨ) rfl rfl (fun _ => rfl) (by decide) (by decide) rfl (Nat.le_of_ble_eq_true rfl) dX3_tableOf_56 h (fun v10 M1 h => ?_)
      refine j_ishr C0 (pc := 59) dX3_tableOf_59 ?_
      refine j_iconst C0 (pc := 60) dX3_tableOf_60 (v := (1 : Int32)) (by decide) ?_
      refine j_iand C0 (pc := 61) dX3_tableOf_61 ?_
      refine j_iload C0 (pc := 62) dX3_tableOf_62 rfl ?_
      refine j_iconst C0 (pc := 64) dX3_tableOf_64 (v := (4 : Int32)) (by decide) ?_
      refine j_imul C0 (pc := 65) dX3_tableOf_65 ?_
      refine j_iload C0 (pc := 66) dX3_tableOf_66 rfl ?_
      refine j_iadd C0 (pc := 68) dX3_tableOf_68 ?_
      refine j_ishl C0 (pc := 69) dX3_tableOf_69 ?_
      refine j_ior C0 (pc := 70) dX3_tableOf_70 ?_
      refine X_let (G := fun w => j_J X 9 71 [some (.ref v1), some (.int v2), some (.int v3), none, some (.int v4), some (.int v5), some (.int v6), some (.int v7), some (.int v8)] (.int w :: []) (0, 0) M1) h (fun v11 h => ?_)
      refine j_istore C0 (pc := 71) dX3_tableOf_71 (Nat.le_of_ble_eq_true rfl) ?_
      show j_J X 9 73 [some (.ref v1), some (.int v2), some (.int v3), none, some (.int v4), some (.int v11), some (.int v6), some (.int v7), some (.int v8)] [] (0, 0) M1
      refine j_iinc C0 (pc := 73) dX3_tableOf_73 (v := v8 + (1 : Int32)) rfl (Nat.le_of_ble_eq_true rfl) (by rfl) ?_
      refine X_let (G := fun w => j_J X 9 76 [some (.ref v1), some (.int v2), some (.int v3), none, some (.int v4), some (.int v11), some (.int v6), some (.int v7), some (.int w)] [] (0, 0) M1) h (fun v12 h => ?_)
      refine j_goto C0 (pc := 76) (tgt := 40) dX3_tableOf_76 (by decide) ?_
      exact j_J.wq (ih v1 v2 v3 v4 v11 v6 v7 v12 M1 h) (And.intro rfl (And.intro rfl (And.intro rfl (And.intro rfl (And.intro rfl (And.intro rfl (And.intro rfl (And.intro rfl (trivial)))))))))
set_option maxHeartbeats 4000000 in
theorem L_X3_tableOf_15 {X : j_X} {Φ : Option Value → m_M → Prop} (C : j_C X yX3_tableOf cX3_tableOf 9 (some .int) 4 0 0 Φ) : ∀ (n : Nat) (v1 : Nat) (v2 : Int32) (v3 : Int32) (v4 : Int32) (v5 : Int32) (v6 : Int32) (M : m_M), m_ok e_I Φ (F_X3_tableOf_15 n v1 v2 v3 v4 v5 v6 M) → j_J X 9 15 [some (.ref v1), some (.int v2), some (.int v3), none, some (.int v4), some (.int v5), some (.int v6), none, none] [] (0, 0) M := by
  have C0 := C.1
  intro n
  induction n with
  | zero => intro v1 v2 v3 v4 v5 v6 M h; exact False.elim h
  | succ n ih =>
    intro v1 v2 v3 v4 v5 v6 M h
    rw [F_X3_tableOf_15] at h
    refine j_iload C0 (pc := 15) dX3_tableOf_15 rfl ?_
    refine j_aload_n C0 (pc := 17) dX3_tableOf_17 rfl ?_
    refine X_gI C0 (pc := 18) f_Land_58_3 rfl dX3_tableOf_18 h (fun v7 h => ?_)
    refine j_icmp_ge C0 (pc := 21) (tgt := 85) dX3_tableOf_21 (by decide) (fun hc => ?_) (fun hc => ?_)
    · replace h := (X_if h).1 hc
      refine j_iload C0 (pc := 85) dX3_tableOf_85 rfl ?_
      exact j_iret C rfl h dX3_tableOf_87 (by decide)
    · replace h := (X_if h).2 hc
      refine j_iload C0 (pc := 24) dX3_tableOf_24 rfl ?_
      refine j_iconst C0 (pc := 26) dX3_tableOf_26 (v := (4 : Int32)) (by decide) ?_
      refine j_iload_n C0 (pc := 27) dX3_tableOf_27 rfl ?_
      refine j_iload C0 (pc := 28) dX3_tableOf_28 rfl ?_
      refine X_cS C0 (pc := 30) (e' := e_I) (as := [.int v2, .int v6]) (rest := [.int (4 : Int32), .int v4]) (s' := fun w => .int w :: [.int (4 : Int32), .int v4]) (g' := (0, 0)) s_Land_151 (fun Ψ hΨ => K_X3_placeOf v2 v6 M Ψ hΨ) rfl rfl (fun _ => rfl) (by decide) (by decide) rfl (Nat.le_of_ble_eq_true rfl) dX3_tableOf_30 h (fun v8 M1 h => ?_)
      refine j_imul C0 (pc := 33) dX3_tableOf_33 ?_
      refine j_ishr C0 (pc := 34) dX3_tableOf_34 ?_
      refine X_let (G := fun w => j_J X 9 35 [some (.ref v1), some (.int v2), some (.int v3), none, some (.int v4), some (.int v5), some (.int v6), none, none] (.int w :: []) (0, 0) M1) h (fun v9 h => ?_)
      refine j_istore C0 (pc := 35) dX3_tableOf_35 (Nat.le_of_ble_eq_true rfl) ?_
      show j_J X 9 37 [some (.ref v1), some (.int v2), some (.int v3), none, some (.int v4), some (.int v5), some (.int v6), some (.int v9), none] [] (0, 0) M1
      refine j_iconst C0 (pc := 37) dX3_tableOf_37 (v := (0 : Int32)) (by decide) ?_
      refine j_istore C0 (pc := 38) dX3_tableOf_38 (Nat.le_of_ble_eq_true rfl) ?_
      show j_J X 9 40 [some (.ref v1), some (.int v2), some (.int v3), none, some (.int v4), some (.int v5), some (.int v6), some (.int v9), some (.int (0 : Int32))] [] (0, 0) M1
      refine X_join (fun (kj : Nat → Int32 → Int32 → Int32 → Int32 → Int32 → m_M → Option (Int32 × m_M)) => ∀ (p0 : Nat) (p1 : Int32) (p2 : Int32) (p3 : Int32) (p4 : Int32) (p5 : Int32) (M : m_M), m_ok e_I Φ (kj p0 p1 p2 p3 p4 p5 M) → j_J X 9 79 [some (.ref p0), some (.int p1), some (.int p2), none, some (.int p3), some (.int p4), some (.int p5), none, none] [] (0, 0) M) h (fun v10 v11 v12 v13 v14 v15 M2 h => ?_) (fun k79 hk79 h => ?_)
      · refine j_iinc C0 (pc := 79) dX3_tableOf_79 (v := v15 + (1 : Int32)) rfl (Nat.le_of_ble_eq_true rfl) (by rfl) ?_
        refine X_let (G := fun w => j_J X 9 82 [some (.ref v10), some (.int v11), some (.int v12), none, some (.int v13), some (.int v14), some (.int w), none, none] [] (0, 0) M2) h (fun v16 h => ?_)
        refine j_goto C0 (pc := 82) (tgt := 15) dX3_tableOf_82 (by decide) ?_
        exact j_J.wq (ih v10 v11 v12 v13 v14 v16 M2 h) (And.intro rfl (And.intro rfl (And.intro rfl (And.intro rfl (And.intro rfl (And.intro rfl (trivial)))))))
      · exact j_J.wq (L_X3_tableOf_40 C hk79 m_FU v1 v2 v3 v4 v5 v6 v9 (0 : Int32) M1 h) (And.intro rfl (And.intro rfl (And.intro rfl (And.intro rfl (And.intro rfl (And.intro rfl (And.intro rfl (And.intro rfl (trivial)))))))))
set_option maxHeartbeats 4000000 in
theorem K_X3_tableOf (a0 : Nat) (a1 : Int32) (a2 : Int32) (a3 : Int32) (M : m_M) (Φ : Option Value → m_M → Prop) (h : m_ok e_I Φ (F_X3_tableOf a0 a1 a2 a3 M)) : j_Ct yX3_tableOf cX3_tableOf 9 (some .int) 4 0 0 [.ref a0, .int a1, .int a2, .int a3] M Φ := by
  refine j_Ct.of (by decide +kernel) (Nat.le_of_ble_eq_true rfl) fun X C => ?_
  have C0 := C.1
  show j_J X 9 0 [some (.ref a0), some (.int a1), some (.int a2), some (.int a3), none, none, none, none, none] [] (0, 0) M
  unfold F_X3_tableOf at h
  refine j_aload_n C0 (pc := 0) dX3_tableOf_0 rfl ?_
  refine j_iload_n C0 (pc := 1) dX3_tableOf_1 rfl ?_
  refine j_iload_n C0 (pc := 2) dX3_tableOf_2 rfl ?_
  refine j_iload_n C0 (pc := 3) dX3_tableOf_3 rfl ?_
  refine X_cV C0 (pc := 4) (e' := e_I) (as := [.int a1, .int a2, .int a3]) (rest := []) (s' := fun w => .int w :: []) (g' := (0, 0)) v_Land_148_3 (fun Ψ hΨ => K_X3_lawOn a0 a1 a2 a3 M Ψ hΨ) rfl rfl (fun _ => rfl) (by decide) (by decide) rfl (Nat.le_of_ble_eq_true rfl) dX3_tableOf_4 h (fun v1 M1 h => ?_)
  refine j_istore C0 (pc := 7) dX3_tableOf_7 (Nat.le_of_ble_eq_true rfl) ?_
  show j_J X 9 9 [some (.ref a0), some (.int a1), some (.int a2), some (.int a3), some (.int v1), none, none, none, none] [] (0, 0) M1
  refine j_iconst C0 (pc := 9) dX3_tableOf_9 (v := (0 : Int32)) (by decide) ?_
  refine j_istore C0 (pc := 10) dX3_tableOf_10 (Nat.le_of_ble_eq_true rfl) ?_
  show j_J X 9 12 [some (.ref a0), some (.int a1), some (.int a2), some (.int a3), some (.int v1), some (.int (0 : Int32)), none, none, none] [] (0, 0) M1
  refine j_iconst C0 (pc := 12) dX3_tableOf_12 (v := (0 : Int32)) (by decide) ?_
  refine j_istore C0 (pc := 13) dX3_tableOf_13 (Nat.le_of_ble_eq_true rfl) ?_
  show j_J X 9 15 [some (.ref a0), some (.int a1), some (.int a2), some (.int a3), some (.int v1), some (.int (0 : Int32)), some (.int (0 : Int32)), none, none] [] (0, 0) M1
  exact j_J.wq (L_X3_tableOf_15 C m_FU a0 a1 a2 v1 (0 : Int32) (0 : Int32) M1 h) (And.intro rfl (And.intro rfl (And.intro rfl (And.intro rfl (And.intro rfl (And.intro rfl (trivial)))))))
theorem dX10_clear_0 : decode cX10_clear 0 = .ok (.aload_n 0, 1) := by decide +kernel
theorem dX10_clear_1 : decode cX10_clear 1 = .ok (.getfield 9, 3) := by decide +kernel
theorem dX10_clear_4 : decode cX10_clear 4 = .ok (.lconst 0, 1) := by decide +kernel
theorem dX10_clear_5 : decode cX10_clear 5 = .ok (.invokestatic 17, 3) := by decide +kernel
theorem dX10_clear_8 : decode cX10_clear 8 = .ok (.return_, 1) := by decide +kernel
noncomputable def F_X10_clear (a0 : Nat) (M : m_M) : Option (Unit × m_M) :=
  x_gN 8 M a0 0 fun v1 =>
  x_bd (F_J7_fill_d0a16 v1 (0 : Int64) M) fun _ M1 =>
  some ((), M1)
set_option maxHeartbeats 4000000 in
theorem K_X10_clear (a0 : Nat) (M : m_M) (Φ : Option Value → m_M → Prop) (h : m_ok e_V Φ (F_X10_clear a0 M)) : j_Ct yX10_clear cX10_clear 1 none 2 0 0 [.ref a0] M Φ := by
  refine j_Ct.of (by decide +kernel) (Nat.le_of_ble_eq_true rfl) fun X C => ?_
  have C0 := C.1
  show j_J X 1 0 [some (.ref a0)] [] (0, 0) M
  unfold F_X10_clear at h
  refine j_aload_n C0 (pc := 0) dX10_clear_0 rfl ?_
  refine X_gN C0 (pc := 1) f_WS_9_8 rfl dX10_clear_1 h (fun v1 h => ?_)
  refine j_lconst C0 (pc := 4) dX10_clear_4 (v := (0 : Int64)) (by decide) ?_
  refine X_cS C0 (pc := 5) (e' := e_V) (as := [.ref v1, .long (0 : Int64)]) (rest := []) (s' := fun _ => []) (g' := (0, 0)) s_WS_17 (fun Ψ hΨ => K_J7_fill_d0a16 v1 (0 : Int64) M Ψ hΨ) rfl rfl (fun _ => rfl) (by decide) (by decide) rfl (Nat.le_of_ble_eq_true rfl) dX10_clear_5 h (fun _ M1 h => ?_)
  exact j_vret C rfl h dX10_clear_8 (by decide)
theorem dX3_spotIndex_0 : decode cX3_spotIndex 0 = .ok (.iload_n 0, 1) := by decide +kernel
theorem dX3_spotIndex_1 : decode cX3_spotIndex 1 = .ok (.iconst 4, 1) := by decide +kernel
theorem dX3_spotIndex_2 : decode cX3_spotIndex 2 = .ok (.imul, 1) := by decide +kernel
theorem dX3_spotIndex_3 : decode cX3_spotIndex 3 = .ok (.iload_n 1, 1) := by decide +kernel
theorem dX3_spotIndex_4 : decode cX3_spotIndex 4 = .ok (.iadd, 1) := by decide +kernel
theorem dX3_spotIndex_5 : decode cX3_spotIndex 5 = .ok (.bipush 16, 2) := by decide +kernel
theorem dX3_spotIndex_7 : decode cX3_spotIndex 7 = .ok (.imul, 1) := by decide +kernel
theorem dX3_spotIndex_8 : decode cX3_spotIndex 8 = .ok (.iload_n 2, 1) := by decide +kernel
theorem dX3_spotIndex_9 : decode cX3_spotIndex 9 = .ok (.iadd, 1) := by decide +kernel
theorem dX3_spotIndex_10 : decode cX3_spotIndex 10 = .ok (.ireturn, 1) := by decide +kernel
noncomputable def F_X3_spotIndex (a1 : Int32) (a2 : Int32) (a3 : Int32) (M : m_M) : Option (Int32 × m_M) :=
  some ((((a1 * (4 : Int32)) + a2) * (16 : Int32)) + a3, M)
set_option maxHeartbeats 4000000 in
theorem K_X3_spotIndex (a1 : Int32) (a2 : Int32) (a3 : Int32) (M : m_M) (Φ : Option Value → m_M → Prop) (h : m_ok e_I Φ (F_X3_spotIndex a1 a2 a3 M)) : j_Ct yX3_spotIndex cX3_spotIndex 3 (some .int) 1 0 0 [.int a1, .int a2, .int a3] M Φ := by
  refine j_Ct.of (by decide +kernel) (Nat.le_of_ble_eq_true rfl) fun X C => ?_
  have C0 := C.1
  show j_J X 3 0 [some (.int a1), some (.int a2), some (.int a3)] [] (0, 0) M
  unfold F_X3_spotIndex at h
  refine j_iload_n C0 (pc := 0) dX3_spotIndex_0 rfl ?_
  refine j_iconst C0 (pc := 1) dX3_spotIndex_1 (v := (4 : Int32)) (by decide) ?_
  refine j_imul C0 (pc := 2) dX3_spotIndex_2 ?_
  refine j_iload_n C0 (pc := 3) dX3_spotIndex_3 rfl ?_
  refine j_iadd C0 (pc := 4) dX3_spotIndex_4 ?_
  refine j_bipush C0 (pc := 5) dX3_spotIndex_5 (v := (16 : Int32)) (by decide) ?_
  refine j_imul C0 (pc := 7) dX3_spotIndex_7 ?_
  refine j_iload_n C0 (pc := 8) dX3_spotIndex_8 rfl ?_
  refine j_iadd C0 (pc := 9) dX3_spotIndex_9 ?_
  exact j_iret C rfl h dX3_spotIndex_10 (by decide)
theorem dX3_longOf_0 : decode cX3_longOf 0 = .ok (.lconst 0, 1) := by decide +kernel
theorem dX3_longOf_1 : decode cX3_longOf 1 = .ok (.lstore 5, 2) := by decide +kernel
theorem dX3_longOf_3 : decode cX3_longOf 3 = .ok (.iconst 0, 1) := by decide +kernel
theorem dX3_longOf_4 : decode cX3_longOf 4 = .ok (.istore 7, 2) := by decide +kernel
theorem dX3_longOf_6 : decode cX3_longOf 6 = .ok (.iload 7, 2) := by decide +kernel
theorem dX3_longOf_8 : decode cX3_longOf 8 = .ok (.aload_n 0, 1) := by decide +kernel
theorem dX3_longOf_9 : decode cX3_longOf 9 = .ok (.getfield 58, 3) := by decide +kernel
theorem dX3_longOf_12 : decode cX3_longOf 12 = .ok (.if_icmp .ge 98, 3) := by decide +kernel
theorem dX3_longOf_15 : decode cX3_longOf 15 = .ok (.iload_n 1, 1) := by decide +kernel
theorem dX3_longOf_16 : decode cX3_longOf 16 = .ok (.iload 7, 2) := by decide +kernel
theorem dX3_longOf_18 : decode cX3_longOf 18 = .ok (.iconst 4, 1) := by decide +kernel
theorem dX3_longOf_19 : decode cX3_longOf 19 = .ok (.imul, 1) := by decide +kernel
theorem dX3_longOf_20 : decode cX3_longOf 20 = .ok (.ishr, 1) := by decide +kernel
theorem dX3_longOf_21 : decode cX3_longOf 21 = .ok (.bipush 15, 2) := by decide +kernel
theorem dX3_longOf_23 : decode cX3_longOf 23 = .ok (.iand, 1) := by decide +kernel
theorem dX3_longOf_24 : decode cX3_longOf 24 = .ok (.istore 8, 2) := by decide +kernel
theorem dX3_longOf_26 : decode cX3_longOf 26 = .ok (.lconst 0, 1) := by decide +kernel
theorem dX3_longOf_27 : decode cX3_longOf 27 = .ok (.lstore 9, 2) := by decide +kernel
theorem dX3_longOf_29 : decode cX3_longOf 29 = .ok (.iconst 0, 1) := by decide +kernel
theorem dX3_longOf_30 : decode cX3_longOf 30 = .ok (.istore 11, 2) := by decide +kernel
theorem dX3_longOf_32 : decode cX3_longOf 32 = .ok (.iload 8, 2) := by decide +kernel
theorem dX3_longOf_34 : decode cX3_longOf 34 = .ok (.iload 11, 2) := by decide +kernel
theorem dX3_longOf_36 : decode cX3_longOf 36 = .ok (.ishr, 1) := by decide +kernel
theorem dX3_longOf_37 : decode cX3_longOf 37 = .ok (.ifCond .eq 46, 3) := by decide +kernel
theorem dX3_longOf_40 : decode cX3_longOf 40 = .ok (.iload 11, 2) := by decide +kernel
theorem dX3_longOf_42 : decode cX3_longOf 42 = .ok (.aload_n 0, 1) := by decide +kernel
theorem dX3_longOf_43 : decode cX3_longOf 43 = .ok (.getfield 58, 3) := by decide +kernel
theorem dX3_longOf_46 : decode cX3_longOf 46 = .ok (.if_icmp .ge 37, 3) := by decide +kernel
theorem dX3_longOf_49 : decode cX3_longOf 49 = .ok (.iload 8, 2) := by decide +kernel
theorem dX3_longOf_51 : decode cX3_longOf 51 = .ok (.iload 11, 2) := by decide +kernel
theorem dX3_longOf_53 : decode cX3_longOf 53 = .ok (.ishr, 1) := by decide +kernel
theorem dX3_longOf_54 : decode cX3_longOf 54 = .ok (.iconst 1, 1) := by decide +kernel
theorem dX3_longOf_55 : decode cX3_longOf 55 = .ok (.iand, 1) := by decide +kernel
theorem dX3_longOf_56 : decode cX3_longOf 56 = .ok (.ifCond .eq 21, 3) := by decide +kernel
theorem dX3_longOf_59 : decode cX3_longOf 59 = .ok (.lload 9, 2) := by decide +kernel
theorem dX3_longOf_61 : decode cX3_longOf 61 = .ok (.aload_n 0, 1) := by decide +kernel
theorem dX3_longOf_62 : decode cX3_longOf 62 = .ok (.getfield 43, 3) := by decide +kernel
theorem dX3_longOf_65 : decode cX3_longOf 65 = .ok (.iload_n 3, 1) := by decide +kernel
theorem dX3_longOf_66 : decode cX3_longOf 66 = .ok (.iload 11, 2) := by decide +kernel
theorem dX3_longOf_68 : decode cX3_longOf 68 = .ok (.iload 4, 2) := by decide +kernel
theorem dX3_longOf_70 : decode cX3_longOf 70 = .ok (.invokestatic 118, 3) := by decide +kernel
theorem dX3_longOf_73 : decode cX3_longOf 73 = .ok (.laload, 1) := by decide +kernel
theorem dX3_longOf_74 : decode cX3_longOf 74 = .ok (.lor, 1) := by decide +kernel
theorem dX3_longOf_75 : decode cX3_longOf 75 = .ok (.lstore 9, 2) := by decide +kernel
theorem dX3_longOf_77 : decode cX3_longOf 77 = .ok (.iinc 11 1, 3) := by decide +kernel
theorem dX3_longOf_80 : decode cX3_longOf 80 = .ok (.goto (-48), 3) := by decide +kernel
theorem dX3_longOf_83 : decode cX3_longOf 83 = .ok (.lload 5, 2) := by decide +kernel
theorem dX3_longOf_85 : decode cX3_longOf 85 = .ok (.lload 9, 2) := by decide +kernel
theorem dX3_longOf_87 : decode cX3_longOf 87 = .ok (.aload_n 0, 1) := by decide +kernel
theorem dX3_longOf_88 : decode cX3_longOf 88 = .ok (.getfield 43, 3) := by decide +kernel
theorem dX3_longOf_91 : decode cX3_longOf 91 = .ok (.iload_n 2, 1) := by decide +kernel
theorem dX3_longOf_92 : decode cX3_longOf 92 = .ok (.iload 7, 2) := by decide +kernel
theorem dX3_longOf_94 : decode cX3_longOf 94 = .ok (.iload 4, 2) := by decide +kernel
theorem dX3_longOf_96 : decode cX3_longOf 96 = .ok (.invokestatic 118, 3) := by decide +kernel
theorem dX3_longOf_99 : decode cX3_longOf 99 = .ok (.laload, 1) := by decide +kernel
theorem dX3_longOf_100 : decode cX3_longOf 100 = .ok (.land, 1) := by decide +kernel
theorem dX3_longOf_101 : decode cX3_longOf 101 = .ok (.lor, 1) := by decide +kernel
theorem dX3_longOf_102 : decode cX3_longOf 102 = .ok (.lstore 5, 2) := by decide +kernel
theorem dX3_longOf_104 : decode cX3_longOf 104 = .ok (.iinc 7 1, 3) := by decide +kernel
theorem dX3_longOf_107 : decode cX3_longOf 107 = .ok (.goto (-101), 3) := by decide +kernel
theorem dX3_longOf_110 : decode cX3_longOf 110 = .ok (.lload 5, 2) := by decide +kernel
theorem dX3_longOf_112 : decode cX3_longOf 112 = .ok (.lreturn, 1) := by decide +kernel
noncomputable def F_X3_longOf_32 (k83 : Nat → Int32 → Int32 → Int32 → Int32 → Int64 → Int32 → Int64 → m_M → Option (Int64 × m_M)) : Nat → Nat → Int32 → Int32 → Int32 → Int32 → Int64 → Int32 → Int32 → Int64 → Int32 → m_M → Option (Int64 × m_M)
  | 0, _, _, _, _, _, _, _, _, _, _, _ => none
  | n + 1, v1, v2, v3, v4, v5, v6, v7, v8, v9, v10, M =>
    if (v8 >>> (v10 &&& 31)) = 0 then (
      k83 v1 v2 v3 v4 v5 v6 v7 v9 M
    ) else
    x_gI 3 M v1 0 fun v11 =>
    if v11 ≤ v10 then (
      k83 v1 v2 v3 v4 v5 v6 v7 v9 M
    ) else
    m_let (fun (v12 : Nat) (v13 : Int32) (v14 : Int32) (v15 : Int32) (v16 : Int32) (v17 : Int64) (v18 : Int32) (v19 : Int32) (v20 : Int64) (v21 : Int32) (M1 : m_M) =>
      m_let (v21 + (1 : Int32)) fun v22 =>
      F_X3_longOf_32 k83 n v12 v13 v14 v15 v16 v17 v18 v19 v20 v22 M1
    ) fun (k77 : Nat → Int32 → Int32 → Int32 → Int32 → Int64 → Int32 → Int32 → Int64 → Int32 → m_M → Option (Int64 × m_M)) =>
    if ((v8 >>> (v10 &&& 31)) &&& (1 : Int32)) = 0 then (
      k77 v1 v2 v3 v4 v5 v6 v7 v8 v9 v10 M
    ) else
    x_gN 3 M v1 16 fun v23 =>
    x_bd (F_X3_spotIndex v4 v10 v5 M) fun v24 M2 =>
    x_aL M2 v23 v24 fun v25 =>
    m_let (v9 ||| v25) fun v26 =>
    k77 v1 v2 v3 v4 v5 v6 v7 v8 v26 v10 M2
noncomputable def F_X3_longOf_6 : Nat → Nat → Int32 → Int32 → Int32 → Int32 → Int64 → Int32 → m_M → Option (Int64 × m_M)
  | 0, _, _, _, _, _, _, _, _ => none
  | n + 1, v1, v2, v3, v4, v5, v6, v7, M =>
    x_gI 3 M v1 0 fun v8 =>
    if v8 ≤ v7 then (
      some (v6, M)
    ) else
    m_let ((v2 >>> ((v7 * (4 : Int32)) &&& 31)) &&& (15 : Int32)) fun v9 =>
    m_let (fun (v10 : Nat) (v11 : Int32) (v12 : Int32) (v13 : Int32) (v14 : Int32) (v15 : Int64) (v16 : Int32) (v17 : Int64) (M1 : m_M) =>
      x_gN 3 M1 v10 16 fun v18 =>
      x_bd (F_X3_spotIndex v12 v16 v14 M1) fun v19 M2 =>
      x_aL M2 v18 v19 fun v20 =>
      m_let (v15 ||| (v17 &&& v20)) fun v21 =>
      m_let (v16 + (1 : Int32)) fun v22 =>
      F_X3_longOf_6 n v10 v11 v12 v13 v14 v21 v22 M2
    ) fun (k83 : Nat → Int32 → Int32 → Int32 → Int32 → Int64 → Int32 → Int64 → m_M → Option (Int64 × m_M)) =>
    F_X3_longOf_32 k83 m_FU v1 v2 v3 v4 v5 v6 v7 v9 (0 : Int64) (0 : Int32) M
noncomputable def F_X3_longOf (a0 : Nat) (a1 : Int32) (a2 : Int32) (a3 : Int32) (a4 : Int32) (M : m_M) : Option (Int64 × m_M) :=
  F_X3_longOf_6 m_FU a0 a1 a2 a3 a4 (0 : Int64) (0 : Int32) M
set_option maxHeartbeats 4000000 in
theorem L_X3_longOf_32 {X : j_X} {Φ : Option Value → m_M → Prop} (C : j_C X yX3_longOf cX3_longOf 12 (some .long) 2 0 0 Φ) {k83 : Nat → Int32 → Int32 → Int32 → Int32 → Int64 → Int32 → Int64 → m_M → Option (Int64 × m_M)} (hk83 : ∀ (p0 : Nat) (p1 : Int32) (p2 : Int32) (p3 : Int32) (p4 : Int32) (p5 : Int64) (p6 : Int32) (p7 : Int64) (M : m_M), m_ok e_L Φ (k83 p0 p1 p2 p3 p4 p5 p6 p7 M) → j_J X 12 83 [some (.ref p0), some (.int p1), some (.int p2), some (.int p3), some (.int p4), some (.long p5), none, some (.int p6), none, some (.long p7), none, none] [] (0, 0) M) : ∀ (n : Nat) (v1 : Nat) (v2 : Int32) (v3 : Int32) (v4 : Int32) (v5 : Int32) (v6 : Int64) (v7 : Int32) (v8 : Int32) (v9 : Int64) (v10 : Int32) (M : m_M), m_ok e_L Φ (F_X3_longOf_32 k83 n v1 v2 v3 v4 v5 v6 v7 v8 v9 v10 M) → j_J X 12 32 [some (.ref v1), some (.int v2), some (.int v3), some (.int v4), some (.int v5), some (.long v6), none, some (.int v7), some (.int v8), some (.long v9), none, some (.int v10)] [] (0, 0) M := by
  have C0 := C.1
  intro n
  induction n with
  | zero => intro v1 v2 v3 v4 v5 v6 v7 v8 v9 v10 M h; exact False.elim h
  | succ n ih =>
    intro v1 v2 v3 v4 v5 v6 v7 v8 v9 v10 M h
    rw [F_X3_longOf_32] at h
    refine j_iload C0 (pc := 32) dX3_longOf_32 rfl ?_
    refine j_iload C0 (pc := 34) dX3_longOf_34 rfl ?_
    refine j_ishr C0 (pc := 36) dX3_longOf_36 ?_
    refine j_if_eq C0 (pc := 37) (tgt := 83) dX3_longOf_37 (by decide) (fun hc => ?_) (fun hc => ?_)
    · replace h := (X_if h).1 hc
      exact j_J.wq (hk83 v1 v2 v3 v4 v5 v6 v7 v9 M h) (And.intro rfl (And.intro rfl (And.intro rfl (And.intro rfl (And.intro rfl (And.intro rfl (And.intro rfl (And.intro rfl (trivial)))))))))
    · replace h := (X_if h).2 hc
      refine j_iload C0 (pc := 40) dX3_longOf_40 rfl ?_
      refine j_aload_n C0 (pc := 42) dX3_longOf_42 rfl ?_
      refine X_gI C0 (pc := 43) f_Land_58_3 rfl dX3_longOf_43 h (fun v11 h => ?_)
      refine j_icmp_ge C0 (pc := 46) (tgt := 83) dX3_longOf_46 (by decide) (fun hc => ?_) (fun hc => ?_)
      · replace h := (X_if h).1 hc
        exact j_J.wq (hk83 v1 v2 v3 v4 v5 v6 v7 v9 M h) (And.intro rfl (And.intro rfl (And.intro rfl (And.intro rfl (And.intro rfl (And.intro rfl (And.intro rfl (And.intro rfl (trivial)))))))))
      · replace h := (X_if h).2 hc
        refine X_join (fun (kj : Nat → Int32 → Int32 → Int32 → Int32 → Int64 → Int32 → Int32 → Int64 → Int32 → m_M → Option (Int64 × m_M)) => ∀ (p0 : Nat) (p1 : Int32) (p2 : Int32) (p3 : Int32) (p4 : Int32) (p5 : Int64) (p6 : Int32) (p7 : Int32) (p8 : Int64) (p9 : Int32) (M : m_M), m_ok e_L Φ (kj p0 p1 p2 p3 p4 p5 p6 p7 p8 p9 M) → j_J X 12 77 [some (.ref p0), some (.int p1), some (.int p2), some (.int p3), some (.int p4), some (.long p5), none, some (.int p6), some (.int p7), some (.long p8), none, some (.int p9)] [] (0, 0) M) h (fun v12 v13 v14 v15 v16 v17 v18 v19 v20 v21 M1 h => ?_) (fun k77 hk77 h => ?_)
        · refine j_iinc C0 (pc := 77) dX3_longOf_77 (v := v21 + (1 : Int32)) rfl (Nat.le_of_ble_eq_true rfl) (by rfl) ?_
          refine X_let (G := fun w => j_J X 12 80 [some (.ref v12), some (.int v13), some (.int v14), some (.int v15), some (.int v16), some (.long v17), none, some (.int v18), some (.int v19), some (.long v20), none, some (.int w)] [] (0, 0) M1) h (fun v22 h => ?_)
          refine j_goto C0 (pc := 80) (tgt := 32) dX3_longOf_80 (by decide) ?_
          exact j_J.wq (ih v12 v13 v14 v15 v16 v17 v18 v19 v20 v22 M1 h) (And.intro rfl (And.intro rfl (And.intro rfl (And.intro rfl (And.intro rfl (And.intro rfl (And.intro rfl (And.intro rfl (And.intro rfl (And.intro rfl (trivial)))))))))))
        · refine j_iload C0 (pc := 49) dX3_longOf_49 rfl ?_
          refine j_iload C0 (pc := 51) dX3_longOf_51 rfl ?_
          refine j_ishr C0 (pc := 53) dX3_longOf_53 ?_
          refine j_iconst C0 (pc := 54) dX3_longOf_54 (v := (1 : Int32)) (by decide) ?_
          refine j_iand C0 (pc := 55) dX3_longOf_55 ?_
          refine j_if_eq C0 (pc := 56) (tgt := 77) dX3_longOf_56 (by decide) (fun hc => ?_) (fun hc => ?_)
          · replace h := (X_if h).1 hc
            exact j_J.wq (hk77 v1 v2 v3 v4 v5 v6 v7 v8 v9 v10 M h) (And.intro rfl (And.intro rfl (And.intro rfl (And.intro rfl (And.intro rfl (And.intro rfl (And.intro rfl (And.intro rfl (And.intro rfl (And.intro rfl (trivial)))))))))))
          · replace h := (X_if h).2 hc
            refine j_lload C0 (pc := 59) dX3_longOf_59 rfl ?_
            refine j_aload_n C0 (pc := 61) dX3_longOf_61 rfl ?_
            refine X_gN C0 (pc := 62) f_Land_43_3 rfl dX3_longOf_62 h (fun v23 h => ?_)
            refine j_iload_n C0 (pc := 65) dX3_longOf_65 rfl ?_
            refine j_iload C0 (pc := 66) dX3_longOf_66 rfl ?_
            refine j_iload C0 (pc := 68) dX3_longOf_68 rfl ?_
            refine X_cS C0 (pc := 70) (e' := e_I) (as := [.int v4, .int v10, .int v5]) (rest := [.ref v23, .long v9]) (s' := fun w => .int w :: [.ref v23, .long v9]) (g' := (0, 0)) s_Land_118 (fun Ψ hΨ => K_X3_spotIndex v4 v10 v5 M Ψ hΨ) rfl rfl (fun _ => rfl) (by decide) (by decide) rfl (Nat.le_of_ble_eq_true rfl) dX3_longOf_70 h (fun v24 M2 h => ?_)
            refine X_lald C0 (pc := 73) dX3_longOf_73 h (fun v25 h => ?_)
            refine j_lor C0 (pc := 74) dX3_longOf_74 ?_
            refine X_let (G := fun w => j_J X 12 75 [some (.ref v1), some (.int v2), some (.int v3), some (.int v4), some (.int v5), some (.long v6), none, some (.int v7), some (.int v8), some (.long v9), none, some (.int v10)] (.long w :: []) (0, 0) M2) h (fun v26 h => ?_)
            refine j_lstore C0 (pc := 75) dX3_longOf_75 (Nat.le_of_ble_eq_true rfl) ?_
            show j_J X 12 77 [some (.ref v1), some (.int v2), some (.int v3), some (.int v4), some (.int v5), some (.long v6), none, some (.int v7), some (.int v8), some (.long v26), none, some (.int v10)] [] (0, 0) M2
            exact j_J.wq (hk77 v1 v2 v3 v4 v5 v6 v7 v8 v26 v10 M2 h) (And.intro rfl (And.intro rfl (And.intro rfl (And.intro rfl (And.intro rfl (And.intro rfl (And.intro rfl (And.intro rfl (And.intro rfl (And.intro rfl (trivial)))))))))))
set_option maxHeartbeats 4000000 in
theorem L_X3_longOf_6 {X : j_X} {Φ : Option Value → m_M → Prop} (C : j_C X yX3_longOf cX3_longOf 12 (some .long) 2 0 0 Φ) : ∀ (n : Nat) (v1 : Nat) (v2 : Int32) (v3 : Int32) (v4 : Int32) (v5 : Int32) (v6 : Int64) (v7 : Int32) (M : m_M), m_ok e_L Φ (F_X3_longOf_6 n v1 v2 v3 v4 v5 v6 v7 M) → j_J X 12 6 [some (.ref v1), some (.int v2), some (.int v3), some (.int v4), some (.int v5), some (.long v6), none, some (.int v7), none, none, none, none] [] (0, 0) M := by
  have C0 := C.1
  intro n
  induction n with
  | zero => intro v1 v2 v3 v4 v5 v6 v7 M h; exact False.elim h
  | succ n ih =>
    intro v1 v2 v3 v4 v5 v6 v7 M h
    rw [F_X3_longOf_6] at h
    refine j_iload C0 (pc := 6) dX3_longOf_6 rfl ?_
    refine j_aload_n C0 (pc := 8) dX3_longOf_8 rfl ?_
    refine X_gI C0 (pc := 9) f_Land_58_3 rfl dX3_longOf_9 h (fun v8 h => ?_)
    refine j_icmp_ge C0 (pc := 12) (tgt := 110) dX3_longOf_12 (by decide) (fun hc => ?_) (fun hc => ?_)
    · replace h := (X_if h).1 hc
      refine j_lload C0 (pc := 110) dX3_longOf_110 rfl ?_
      exact j_lret C rfl h dX3_longOf_112 (by decide)
    · replace h := (X_if h).2 hc
      refine j_iload_n C0 (pc := 15) dX3_longOf_15 rfl ?_
      refine j_iload C0 (pc := 16) dX3_longOf_16 rfl ?_
      refine j_iconst C0 (pc := 18) dX3_longOf_18 (v := (4 : Int32)) (by decide) ?_
      refine j_imul C0 (pc := 19) dX3_longOf_19 ?_
      refine j_ishr C0 (pc := 20) dX3_longOf_20 ?_
      refine j_bipush C0 (pc := 21) dX3_longOf_21 (v := (15 : Int32)) (by decide) ?_
      refine j_iand C0 (pc := 23) dX3_longOf_23 ?_
      refine X_let (G := fun w => j_J X 12 24 [some (.ref v1), some (.int v2), some (.int v3), some (.int v4), some (.int v5), some (.long v6), none, some (.int v7), none, none, none, none] (.int w :: []) (0, 0) M) h (fun v9 h => ?_)
      refine j_istore C0 (pc := 24) dX3_longOf_24 (Nat.le_of_ble_eq_true rfl) ?_
      show j_J X 12 26 [some (.ref v1), some (.int v2), some (.int v3), some (.int v4), some (.int v5), some (.long v6), none, some (.int v7), some (.int v9), none, none, none] [] (0, 0) M
      refine j_lconst C0 (pc := 26) dX3_longOf_26 (v := (0 : Int64)) (by decide) ?_
      refine j_lstore C0 (pc := 27) dX3_longOf_27 (Nat.le_of_ble_eq_true rfl) ?_
      show j_J X 12 29 [some (.ref v1), some (.int v2), some (.int v3), some (.int v4), some (.int v5), some (.long v6), none, some (.int v7), some (.int v9), some (.long (0 : Int64)), none, none] [] (0, 0) M
      refine j_iconst C0 (pc := 29) dX3_longOf_29 (v := (0 : Int32)) (by decide) ?_
      refine j_istore C0 (pc := 30) dX3_longOf_30 (Nat.le_of_ble_eq_true rfl) ?_
      show j_J X 12 32 [some (.ref v1), some (.int v2), some (.int v3), some (.int v4), some (.int v5), some (.long v6), none, some (.int v7), some (.int v9), some (.long (0 : Int64)), none, some (.int (0 : Int32))] [] (0, 0) M
      refine X_join (fun (kj : Nat → Int32 → Int32 → Int32 → Int32 → Int64 → Int32 → Int64 → m_M → Option (Int64 × m_M)) => ∀ (p0 : Nat) (p1 : Int32) (p2 : Int32) (p3 : Int32) (p4 : Int32) (p5 : Int64) (p6 : Int32) (p7 : Int64) (M : m_M), m_ok e_L Φ (kj p0 p1 p2 p3 p4 p5 p6 p7 M) → j_J X 12 83 [some (.ref p0), some (.int p1), some (.int p2), some (.int p3), some (.int p4), some (.long p5), none, some (.int p6), none, some (.long p7), none, none] [] (0, 0) M) h (fun v10 v11 v12 v13 v14 v15 v16 v17 M1 h => ?_) (fun k83 hk83 h => ?_)
      · refine j_lload C0 (pc := 83) dX3_longOf_83 rfl ?_
        refine j_lload C0 (pc := 85) dX3_longOf_85 rfl ?_
        refine j_aload_n C0 (pc := 87) dX3_longOf_87 rfl ?_
        refine X_gN C0 (pc := 88) f_Land_43_3 rfl dX3_longOf_88 h (fun v18 h => ?_)
        refine j_iload_n C0 (pc := 91) dX3_longOf_91 rfl ?_
        refine j_iload C0 (pc := 92) dX3_longOf_92 rfl ?_
        refine j_iload C0 (pc := 94) dX3_longOf_94 rfl ?_
        refine X_cS C0 (pc := 96) (e' := e_I) (as := [.int v12, .int v16, .int v14]) (rest := [.ref v18, .long v17, .long v15]) (s' := fun w => .int w :: [.ref v18, .long v17, .long v15]) (g' := (0, 0)) s_Land_118 (fun Ψ hΨ => K_X3_spotIndex v12 v16 v14 M1 Ψ hΨ) rfl rfl (fun _ => rfl) (by decide) (by decide) rfl (Nat.le_of_ble_eq_true rfl) dX3_longOf_96 h (fun v19 M2 h => ?_)
        refine X_lald C0 (pc := 99) dX3_longOf_99 h (fun v20 h => ?_)
        refine j_land C0 (pc := 100) dX3_longOf_100 ?_
        refine j_lor C0 (pc := 101) dX3_longOf_101 ?_
        refine X_let (G := fun w => j_J X 12 102 [some (.ref v10), some (.int v11), some (.int v12), some (.int v13), some (.int v14), some (.long v15), none, some (.int v16), none, some (.long v17), none, none] (.long w :: []) (0, 0) M2) h (fun v21 h => ?_)
        refine j_lstore C0 (pc := 102) dX3_longOf_102 (Nat.le_of_ble_eq_true rfl) ?_
        show j_J X 12 104 [some (.ref v10), some (.int v11), some (.int v12), some (.int v13), some (.int v14), some (.long v21), none, some (.int v16), none, some (.long v17), none, none] [] (0, 0) M2
        refine j_iinc C0 (pc := 104) dX3_longOf_104 (v := v16 + (1 : Int32)) rfl (Nat.le_of_ble_eq_true rfl) (by rfl) ?_
        refine X_let (G := fun w => j_J X 12 107 [some (.ref v10), some (.int v11), some (.int v12), some (.int v13), some (.int v14), some (.long v21), none, some (.int w), none, some (.long v17), none, none] [] (0, 0) M2) h (fun v22 h => ?_)
        refine j_goto C0 (pc := 107) (tgt := 6) dX3_longOf_107 (by decide) ?_
        exact j_J.wq (ih v10 v11 v12 v13 v14 v21 v22 M2 h) (And.intro rfl (And.intro rfl (And.intro rfl (And.intro rfl (And.intro rfl (And.intro rfl (And.intro rfl (trivial))))))))
      · exact j_J.wq (L_X3_longOf_32 C hk83 m_FU v1 v2 v3 v4 v5 v6 v7 v9 (0 : Int64) (0 : Int32) M h) (And.intro rfl (And.intro rfl (And.intro rfl (And.intro rfl (And.intro rfl (And.intro rfl (And.intro rfl (And.intro rfl (And.intro rfl (And.intro rfl (trivial)))))))))))
set_option maxHeartbeats 4000000 in
theorem K_X3_longOf (a0 : Nat) (a1 : Int32) (a2 : Int32) (a3 : Int32) (a4 : Int32) (M : m_M) (Φ : Option Value → m_M → Prop) (h : m_ok e_L Φ (F_X3_longOf a0 a1 a2 a3 a4 M)) : j_Ct yX3_longOf cX3_longOf 12 (some .long) 2 0 0 [.ref a0, .int a1, .int a2, .int a3, .int a4] M Φ := by
  refine j_Ct.of (by decide +kernel) (Nat.le_of_ble_eq_true rfl) fun X C => ?_
  have C0 := C.1
  show j_J X 12 0 [some (.ref a0), some (.int a1), some (.int a2), some (.int a3), some (.int a4), none, none, none, none, none, none, none] [] (0, 0) M
  unfold F_X3_longOf at h
  refine j_lconst C0 (pc := 0) dX3_longOf_0 (v := (0 : Int64)) (by decide) ?_
  refine j_lstore C0 (pc := 1) dX3_longOf_1 (Nat.le_of_ble_eq_true rfl) ?_
  show j_J X 12 3 [some (.ref a0), some (.int a1), some (.int a2), some (.int a3), some (.int a4), some (.long (0 : Int64)), none, none, none, none, none, none] [] (0, 0) M
  refine j_iconst C0 (pc := 3) dX3_longOf_3 (v := (0 : Int32)) (by decide) ?_
  refine j_istore C0 (pc := 4) dX3_longOf_4 (Nat.le_of_ble_eq_true rfl) ?_
  show j_J X 12 6 [some (.ref a0), some (.int a1), some (.int a2), some (.int a3), some (.int a4), some (.long (0 : Int64)), none, some (.int (0 : Int32)), none, none, none, none] [] (0, 0) M
  exact j_J.wq (L_X3_longOf_6 C m_FU a0 a1 a2 a3 a4 (0 : Int64) (0 : Int32) M h) (And.intro rfl (And.intro rfl (And.intro rfl (And.intro rfl (And.intro rfl (And.intro rfl (And.intro rfl (trivial))))))))
theorem dX3_spread_0 : decode cX3_spread 0 = .ok (.aload_n 0, 1) := by decide +kernel
theorem dX3_spread_1 : decode cX3_spread 1 = .ok (.iload_n 1, 1) := by decide +kernel
theorem dX3_spread_2 : decode cX3_spread 2 = .ok (.iload_n 2, 1) := by decide +kernel
theorem dX3_spread_3 : decode cX3_spread 3 = .ok (.iload_n 3, 1) := by decide +kernel
theorem dX3_spread_4 : decode cX3_spread 4 = .ok (.invokevirtual 154, 3) := by decide +kernel
theorem dX3_spread_7 : decode cX3_spread 7 = .ok (.istore 5, 2) := by decide +kernel
theorem dX3_spread_9 : decode cX3_spread 9 = .ok (.aload 4, 2) := by decide +kernel
theorem dX3_spread_11 : decode cX3_spread 11 = .ok (.invokevirtual 161, 3) := by decide +kernel
theorem dX3_spread_14 : decode cX3_spread 14 = .ok (.iload 5, 2) := by decide +kernel
theorem dX3_spread_16 : decode cX3_spread 16 = .ok (.ifCond .ne 4, 3) := by decide +kernel
theorem dX3_spread_19 : decode cX3_spread 19 = .ok (.return_, 1) := by decide +kernel
theorem dX3_spread_20 : decode cX3_spread 20 = .ok (.iconst 0, 1) := by decide +kernel
theorem dX3_spread_21 : decode cX3_spread 21 = .ok (.istore 6, 2) := by decide +kernel
theorem dX3_spread_23 : decode cX3_spread 23 = .ok (.iload 6, 2) := by decide +kernel
theorem dX3_spread_25 : decode cX3_spread 25 = .ok (.aload_n 0, 1) := by decide +kernel
theorem dX3_spread_26 : decode cX3_spread 26 = .ok (.getfield 112, 3) := by decide +kernel
theorem dX3_spread_29 : decode cX3_spread 29 = .ok (.if_icmp .ge 40, 3) := by decide +kernel
theorem dX3_spread_32 : decode cX3_spread 32 = .ok (.iload 6, 2) := by decide +kernel
theorem dX3_spread_34 : decode cX3_spread 34 = .ok (.bipush 16, 2) := by decide +kernel
theorem dX3_spread_36 : decode cX3_spread 36 = .ok (.if_icmp .ge 33, 3) := by decide +kernel
theorem dX3_spread_39 : decode cX3_spread 39 = .ok (.aload 4, 2) := by decide +kernel
theorem dX3_spread_41 : decode cX3_spread 41 = .ok (.getfield 169, 3) := by decide +kernel
theorem dX3_spread_44 : decode cX3_spread 44 = .ok (.iload 6, 2) := by decide +kernel
theorem dX3_spread_46 : decode cX3_spread 46 = .ok (.aload_n 0, 1) := by decide +kernel
theorem dX3_spread_47 : decode cX3_spread 47 = .ok (.iload 5, 2) := by decide +kernel
theorem dX3_spread_49 : decode cX3_spread 49 = .ok (.iload_n 1, 1) := by decide +kernel
theorem dX3_spread_50 : decode cX3_spread 50 = .ok (.invokestatic 145, 3) := by decide +kernel
theorem dX3_spread_53 : decode cX3_spread 53 = .ok (.iload_n 2, 1) := by decide +kernel
theorem dX3_spread_54 : decode cX3_spread 54 = .ok (.invokestatic 145, 3) := by decide +kernel
theorem dX3_spread_57 : decode cX3_spread 57 = .ok (.iload 6, 2) := by decide +kernel
theorem dX3_spread_59 : decode cX3_spread 59 = .ok (.invokevirtual 172, 3) := by decide +kernel
theorem dX3_spread_62 : decode cX3_spread 62 = .ok (.lastore, 1) := by decide +kernel
theorem dX3_spread_63 : decode cX3_spread 63 = .ok (.iinc 6 1, 3) := by decide +kernel
theorem dX3_spread_66 : decode cX3_spread 66 = .ok (.goto (-43), 3) := by decide +kernel
theorem dX3_spread_69 : decode cX3_spread 69 = .ok (.return_, 1) := by decide +kernel
noncomputable def F_X3_spread_23 : Nat → Nat → Int32 → Int32 → Nat → Int32 → Int32 → m_M → Option (Unit × m_M)
  | 0, _, _, _, _, _, _, _ => none
  | n + 1, v1, v2, v3, v4, v5, v6, M =>
    x_gI 3 M v1 4 fun v7 =>
    if v7 ≤ v6 then (
      some ((), M)
    ) else
    if (16 : Int32) ≤ v6 then (
      some ((), M)
    ) else
    x_gN 8 M v4 0 fun v8 =>
    x_bd (F_X3_thingOf v2 M) fun v9 M1 =>
    x_bd (F_X3_thingOf v3 M1) fun v10 M2 =>
    x_cV 3 M2 v1 (F_X3_longOf v1 v5 v9 v10 v6 M2) fun v11 M3 =>
    x_sL M3 v8 v6 v11 fun M4 =>
    m_let (v6 + (1 : Int32)) fun v12 =>
    F_X3_spread_23 n v1 v2 v3 v4 v5 v12 M4
noncomputable def F_X3_spread (a0 : Nat) (a1 : Int32) (a2 : Int32) (a3 : Int32) (a4 : Nat) (M : m_M) : Option (Unit × m_M) :=
  x_cV 3 M a0 (F_X3_tableOf a0 a1 a2 a3 M) fun v1 M1 =>
  x_cV 8 M1 a4 (F_X10_clear a4 M1) fun _ M2 =>
  if v1 = 0 then (
    some ((), M2)
  ) else
  F_X3_spread_23 m_FU a0 a1 a2 a4 v1 (0 : Int32) M2
set_option maxHeartbeats 4000000 in
theorem L_X3_spread_23 {X : j_X} {Φ : Option Value → m_M → Prop} (C : j_C X yX3_spread cX3_spread 7 none 5 0 0 Φ) : ∀ (n : Nat) (v1 : Nat) (v2 : Int32) (v3 : Int32) (v4 : Nat) (v5 : Int32) (v6 : Int32) (M : m_M), m_ok e_V Φ (F_X3_spread_23 n v1 v2 v3 v4 v5 v6 M) → j_J X 7 23 [some (.ref v1), some (.int v2), some (.int v3), none, some (.ref v4), some (.int v5), some (.int v6)] [] (0, 0) M := by
  have C0 := C.1
  intro n
  induction n with
  | zero => intro v1 v2 v3 v4 v5 v6 M h; exact False.elim h
  | succ n ih =>
    intro v1 v2 v3 v4 v5 v6 M h
    rw [F_X3_spread_23] at h
    refine j_iload C0 (pc := 23) dX3_spread_23 rfl ?_
    refine j_aload_n C0 (pc := 25) dX3_spread_25 rfl ?_
    refine X_gI C0 (pc := 26) f_Land_112_3 rfl dX3_spread_26 h (fun v7 h => ?_)
    refine j_icmp_ge C0 (pc := 29) (tgt := 69) dX3_spread_29 (by decide) (fun hc => ?_) (fun hc => ?_)
    · replace h := (X_if h).1 hc
      exact j_vret C rfl h dX3_spread_69 (by decide)
    · replace h := (X_if h).2 hc
      refine j_iload C0 (pc := 32) dX3_spread_32 rfl ?_
      refine j_bipush C0 (pc := 34) dX3_spread_34 (v := (16 : Int32)) (by decide) ?_
      refine j_icmp_ge C0 (pc := 36) (tgt := 69) dX3_spread_36 (by decide) (fun hc => ?_) (fun hc => ?_)
      · replace h := (X_if h).1 hc
        exact j_vret C rfl h dX3_spread_69 (by decide)
      · replace h := (X_if h).2 hc
        refine j_aload C0 (pc := 39) dX3_spread_39 rfl ?_
        refine X_gN C0 (pc := 41) f_Land_169_8 rfl dX3_spread_41 h (fun v8 h => ?_)
        refine j_iload C0 (pc := 44) dX3_spread_44 rfl ?_
        refine j_aload_n C0 (pc := 46) dX3_spread_46 rfl ?_
        refine j_iload C0 (pc := 47) dX3_spread_47 rfl ?_
        refine j_iload_n C0 (pc := 49) dX3_spread_49 rfl ?_
        refine X_cS C0 (pc := 50) (e' := e_I) (as := [.int v2]) (rest := [.int v5, .ref v1, .int v6, .ref v8]) (s' := fun w => .int w :: [.int v5, .ref v1, .int v6, .ref v8]) (g' := (0, 0)) s_Land_145 (fun Ψ hΨ => K_X3_thingOf v2 M Ψ hΨ) rfl rfl (fun _ => rfl) (by decide) (by decide) rfl (Nat.le_of_ble_eq_true rfl) dX3_spread_50 h (fun v9 M1 h => ?_)
        refine j_iload_n C0 (pc := 53) dX3_spread_53 rfl ?_
        refine X_cS C0 (pc := 54) (e' := e_I) (as := [.int v3]) (rest := [.int v9, .int v5, .ref v1, .int v6, .ref v8]) (s' := fun w => .int w :: [.int v9, .int v5, .ref v1, .int v6, .ref v8]) (g' := (0, 0)) s_Land_145 (fun Ψ hΨ => K_X3_thingOf v3 M1 Ψ hΨ) rfl rfl (fun _ => rfl) (by decide) (by decide) rfl (Nat.le_of_ble_eq_true rfl) dX3_spread_54 h (fun v10 M2 h => ?_)
        refine j_iload C0 (pc := 57) dX3_spread_57 rfl ?_
        refine X_cV C0 (pc := 59) (e' := e_L) (as := [.int v5, .int v9, .int v10, .int v6]) (rest := [.int v6, .ref v8]) (s' := fun w => .long w :: [.int v6, .ref v8]) (g' := (0, 0)) v_Land_172_3 (fun Ψ hΨ => K_X3_longOf v1 v5 v9 v10 v6 M2 Ψ hΨ) rfl rfl (fun _ => rfl) (by decide) (by decide) rfl (Nat.le_of_ble_eq_true rfl) dX3_spread_59 h (fun v11 M3 h => ?_)
        refine X_last C0 (pc := 62) dX3_spread_62 h (fun M4 h => ?_)
        refine j_iinc C0 (pc := 63) dX3_spread_63 (v := v6 + (1 : Int32)) rfl (Nat.le_of_ble_eq_true rfl) (by rfl) ?_
        refine X_let (G := fun w => j_J X 7 66 [some (.ref v1), some (.int v2), some (.int v3), none, some (.ref v4), some (.int v5), some (.int w)] [] (0, 0) M4) h (fun v12 h => ?_)
        refine j_goto C0 (pc := 66) (tgt := 23) dX3_spread_66 (by decide) ?_
        exact j_J.wq (ih v1 v2 v3 v4 v5 v12 M4 h) (And.intro rfl (And.intro rfl (And.intro rfl (And.intro rfl (And.intro rfl (And.intro rfl (trivial)))))))
set_option maxHeartbeats 4000000 in
theorem K_X3_spread (a0 : Nat) (a1 : Int32) (a2 : Int32) (a3 : Int32) (a4 : Nat) (M : m_M) (Φ : Option Value → m_M → Prop) (h : m_ok e_V Φ (F_X3_spread a0 a1 a2 a3 a4 M)) : j_Ct yX3_spread cX3_spread 7 none 5 0 0 [.ref a0, .int a1, .int a2, .int a3, .ref a4] M Φ := by
  refine j_Ct.of (by decide +kernel) (Nat.le_of_ble_eq_true rfl) fun X C => ?_
  have C0 := C.1
  show j_J X 7 0 [some (.ref a0), some (.int a1), some (.int a2), some (.int a3), some (.ref a4), none, none] [] (0, 0) M
  unfold F_X3_spread at h
  refine j_aload_n C0 (pc := 0) dX3_spread_0 rfl ?_
  refine j_iload_n C0 (pc := 1) dX3_spread_1 rfl ?_
  refine j_iload_n C0 (pc := 2) dX3_spread_2 rfl ?_
  refine j_iload_n C0 (pc := 3) dX3_spread_3 rfl ?_
  refine X_cV C0 (pc := 4) (e' := e_I) (as := [.int a1, .int a2, .int a3]) (rest := []) (s' := fun w => .int w :: []) (g' := (0, 0)) v_Land_154_3 (fun Ψ hΨ => K_X3_tableOf a0 a1 a2 a3 M Ψ hΨ) rfl rfl (fun _ => rfl) (by decide) (by decide) rfl (Nat.le_of_ble_eq_true rfl) dX3_spread_4 h (fun v1 M1 h => ?_)
  refine j_istore C0 (pc := 7) dX3_spread_7 (Nat.le_of_ble_eq_true rfl) ?_
  show j_J X 7 9 [some (.ref a0), some (.int a1), some (.int a2), some (.int a3), some (.ref a4), some (.int v1), none] [] (0, 0) M1
  refine j_aload C0 (pc := 9) dX3_spread_9 rfl ?_
  refine X_cV C0 (pc := 11) (e' := e_V) (as := []) (rest := []) (s' := fun _ => []) (g' := (0, 0)) v_Land_161_8 (fun Ψ hΨ => K_X10_clear a4 M1 Ψ hΨ) rfl rfl (fun _ => rfl) (by decide) (by decide) rfl (Nat.le_of_ble_eq_true rfl) dX3_spread_11 h (fun _ M2 h => ?_)
  refine j_iload C0 (pc := 14) dX3_spread_14 rfl ?_
  refine j_if_ne C0 (pc := 16) (tgt := 20) dX3_spread_16 (by decide) (fun hc => ?_) (fun hc => ?_)
  · replace h := (X_if h).2 hc
    refine j_iconst C0 (pc := 20) dX3_spread_20 (v := (0 : Int32)) (by decide) ?_
    refine j_istore C0 (pc := 21) dX3_spread_21 (Nat.le_of_ble_eq_true rfl) ?_
    show j_J X 7 23 [some (.ref a0), some (.int a1), some (.int a2), some (.int a3), some (.ref a4), some (.int v1), some (.int (0 : Int32))] [] (0, 0) M2
    exact j_J.wq (L_X3_spread_23 C m_FU a0 a1 a2 a4 v1 (0 : Int32) M2 h) (And.intro rfl (And.intro rfl (And.intro rfl (And.intro rfl (And.intro rfl (And.intro rfl (trivial)))))))
  · replace h := (X_if h).1 hc
    exact j_vret C rfl h dX3_spread_19 (by decide)
theorem dX10_take_0 : decode cX10_take 0 = .ok (.aload_n 1, 1) := by decide +kernel
theorem dX10_take_1 : decode cX10_take 1 = .ok (.getfield 9, 3) := by decide +kernel
theorem dX10_take_4 : decode cX10_take 4 = .ok (.iconst 0, 1) := by decide +kernel
theorem dX10_take_5 : decode cX10_take 5 = .ok (.aload_n 0, 1) := by decide +kernel
theorem dX10_take_6 : decode cX10_take 6 = .ok (.getfield 9, 3) := by decide +kernel
theorem dX10_take_9 : decode cX10_take 9 = .ok (.iconst 0, 1) := by decide +kernel
theorem dX10_take_10 : decode cX10_take 10 = .ok (.bipush 16, 2) := by decide +kernel
theorem dX10_take_12 : decode cX10_take 12 = .ok (.invokestatic 27, 3) := by decide +kernel
theorem dX10_take_15 : decode cX10_take 15 = .ok (.return_, 1) := by decide +kernel
noncomputable def F_X10_take (a0 : Nat) (a1 : Nat) (M : m_M) : Option (Unit × m_M) :=
  x_gN 8 M a1 0 fun v1 =>
  x_gN 8 M a0 0 fun v2 =>
  x_cpL M v1 (0 : Int32) v2 (0 : Int32) (16 : Int32) fun M1 =>
  some ((), M1)
set_option maxHeartbeats 4000000 in
theorem K_X10_take (a0 : Nat) (a1 : Nat) (M : m_M) (Φ : Option Value → m_M → Prop) (h : m_ok e_V Φ (F_X10_take a0 a1 M)) : j_Ct yX10_take cX10_take 2 none 1 0 0 [.ref a0, .ref a1] M Φ := by
  refine j_Ct.of (by decide +kernel) (Nat.le_of_ble_eq_true rfl) fun X C => ?_
  have C0 := C.1
  show j_J X 2 0 [some (.ref a0), some (.ref a1)] [] (0, 0) M
  unfold F_X10_take at h
  refine j_aload_n C0 (pc := 0) dX10_take_0 rfl ?_
  refine X_gN C0 (pc := 1) f_WS_9_8 rfl dX10_take_1 h (fun v1 h => ?_)
  refine j_iconst C0 (pc := 4) dX10_take_4 (v := (0 : Int32)) (by decide) ?_
  refine j_aload_n C0 (pc := 5) dX10_take_5 rfl ?_
  refine X_gN C0 (pc := 6) f_WS_9_8 rfl dX10_take_6 h (fun v2 h => ?_)
  refine j_iconst C0 (pc := 9) dX10_take_9 (v := (0 : Int32)) (by decide) ?_
  refine j_bipush C0 (pc := 10) dX10_take_10 (v := (16 : Int32)) (by decide) ?_
  refine X_copyL C0 (pc := 12) ⟨j_c5 28 (by decide +kernel), j_c4 67 (by decide +kernel), j_c4 66 (by decide +kernel), j_c1 21 (by decide +kernel)⟩ (by decide) (Nat.le_of_ble_eq_true rfl) dX10_take_12 h (fun M1 h => ?_)
  exact j_vret C rfl h dX10_take_15 (by decide)
theorem dX5_find_0 : decode cX5_find 0 = .ok (.iconst 0, 1) := by decide +kernel
theorem dX5_find_1 : decode cX5_find 1 = .ok (.istore 4, 2) := by decide +kernel
theorem dX5_find_3 : decode cX5_find 3 = .ok (.iconst 0, 1) := by decide +kernel
theorem dX5_find_4 : decode cX5_find 4 = .ok (.istore 5, 2) := by decide +kernel
theorem dX5_find_6 : decode cX5_find 6 = .ok (.iload 5, 2) := by decide +kernel
theorem dX5_find_8 : decode cX5_find 8 = .ok (.aload_n 1, 1) := by decide +kernel
theorem dX5_find_9 : decode cX5_find 9 = .ok (.arraylength, 1) := by decide +kernel
theorem dX5_find_10 : decode cX5_find 10 = .ok (.if_icmp .ge 124, 3) := by decide +kernel
theorem dX5_find_13 : decode cX5_find 13 = .ok (.aload_n 1, 1) := by decide +kernel
theorem dX5_find_14 : decode cX5_find 14 = .ok (.iload 5, 2) := by decide +kernel
theorem dX5_find_16 : decode cX5_find 16 = .ok (.iaload, 1) := by decide +kernel
theorem dX5_find_17 : decode cX5_find 17 = .ok (.istore 6, 2) := by decide +kernel
theorem dX5_find_19 : decode cX5_find 19 = .ok (.iload 6, 2) := by decide +kernel
theorem dX5_find_21 : decode cX5_find 21 = .ok (.bipush (-11), 2) := by decide +kernel
theorem dX5_find_23 : decode cX5_find 23 = .ok (.if_icmp .ne 30, 3) := by decide +kernel
theorem dX5_find_26 : decode cX5_find 26 = .ok (.iload 4, 2) := by decide +kernel
theorem dX5_find_28 : decode cX5_find 28 = .ok (.ifCond .le 25, 3) := by decide +kernel
theorem dX5_find_31 : decode cX5_find 31 = .ok (.aload_n 0, 1) := by decide +kernel
theorem dX5_find_32 : decode cX5_find 32 = .ok (.getfield 13, 3) := by decide +kernel
theorem dX5_find_35 : decode cX5_find 35 = .ok (.iload 4, 2) := by decide +kernel
theorem dX5_find_37 : decode cX5_find 37 = .ok (.iconst 1, 1) := by decide +kernel
theorem dX5_find_38 : decode cX5_find 38 = .ok (.isub, 1) := by decide +kernel
theorem dX5_find_39 : decode cX5_find 39 = .ok (.aaload, 1) := by decide +kernel
theorem dX5_find_40 : decode cX5_find 40 = .ok (.aload_n 0, 1) := by decide +kernel
theorem dX5_find_41 : decode cX5_find 41 = .ok (.getfield 17, 3) := by decide +kernel
theorem dX5_find_44 : decode cX5_find 44 = .ok (.getfield 22, 3) := by decide +kernel
theorem dX5_find_47 : decode cX5_find 47 = .ok (.invokevirtual 28, 3) := by decide +kernel
theorem dX5_find_50 : decode cX5_find 50 = .ok (.goto 78, 3) := by decide +kernel
theorem dX5_find_53 : decode cX5_find 53 = .ok (.iload 6, 2) := by decide +kernel
theorem dX5_find_55 : decode cX5_find 55 = .ok (.bipush (-11), 2) := by decide +kernel
theorem dX5_find_57 : decode cX5_find 57 = .ok (.if_icmp .ge 23, 3) := by decide +kernel
theorem dX5_find_60 : decode cX5_find 60 = .ok (.iload 4, 2) := by decide +kernel
theorem dX5_find_62 : decode cX5_find 62 = .ok (.iconst 1, 1) := by decide +kernel
theorem dX5_find_63 : decode cX5_find 63 = .ok (.if_icmp .le 17, 3) := by decide +kernel
theorem dX5_find_66 : decode cX5_find 66 = .ok (.iinc 4 (-1), 3) := by decide +kernel
theorem dX5_find_69 : decode cX5_find 69 = .ok (.aload_n 0, 1) := by decide +kernel
theorem dX5_find_70 : decode cX5_find 70 = .ok (.iload 6, 2) := by decide +kernel
theorem dX5_find_72 : decode cX5_find 72 = .ok (.iload 4, 2) := by decide +kernel
theorem dX5_find_74 : decode cX5_find 74 = .ok (.invokevirtual 32, 3) := by decide +kernel
theorem dX5_find_77 : decode cX5_find 77 = .ok (.goto 51, 3) := by decide +kernel
theorem dX5_find_80 : decode cX5_find 80 = .ok (.iload 6, 2) := by decide +kernel
theorem dX5_find_82 : decode cX5_find 82 = .ok (.ifCond .lt 46, 3) := by decide +kernel
theorem dX5_find_85 : decode cX5_find 85 = .ok (.iload 4, 2) := by decide +kernel
theorem dX5_find_87 : decode cX5_find 87 = .ok (.bipush 16, 2) := by decide +kernel
theorem dX5_find_89 : decode cX5_find 89 = .ok (.if_icmp .ge 39, 3) := by decide +kernel
theorem dX5_find_92 : decode cX5_find 92 = .ok (.aload_n 0, 1) := by decide +kernel
theorem dX5_find_93 : decode cX5_find 93 = .ok (.getfield 17, 3) := by decide +kernel
theorem dX5_find_96 : decode cX5_find 96 = .ok (.aload_n 0, 1) := by decide +kernel
theorem dX5_find_97 : decode cX5_find 97 = .ok (.getfield 17, 3) := by decide +kernel
theorem dX5_find_100 : decode cX5_find 100 = .ok (.iload 6, 2) := by decide +kernel
theorem dX5_find_102 : decode cX5_find 102 = .ok (.invokevirtual 36, 3) := by decide +kernel
theorem dX5_find_105 : decode cX5_find 105 = .ok (.aload_n 0, 1) := by decide +kernel
theorem dX5_find_106 : decode cX5_find 106 = .ok (.getfield 17, 3) := by decide +kernel
theorem dX5_find_109 : decode cX5_find 109 = .ok (.iload 6, 2) := by decide +kernel
theorem dX5_find_111 : decode cX5_find 111 = .ok (.invokevirtual 40, 3) := by decide +kernel
theorem dX5_find_114 : decode cX5_find 114 = .ok (.iload_n 2, 1) := by decide +kernel
theorem dX5_find_115 : decode cX5_find 115 = .ok (.aload_n 0, 1) := by decide +kernel
theorem dX5_find_116 : decode cX5_find 116 = .ok (.getfield 13, 3) := by decide +kernel
theorem dX5_find_119 : decode cX5_find 119 = .ok (.iload 4, 2) := by decide +kernel
theorem dX5_find_121 : decode cX5_find 121 = .ok (.aaload, 1) := by decide +kernel
theorem dX5_find_122 : decode cX5_find 122 = .ok (.invokevirtual 43, 3) := by decide +kernel
theorem dX5_find_125 : decode cX5_find 125 = .ok (.iinc 4 1, 3) := by decide +kernel
theorem dX5_find_128 : decode cX5_find 128 = .ok (.iinc 5 1, 3) := by decide +kernel
theorem dX5_find_131 : decode cX5_find 131 = .ok (.goto (-125), 3) := by decide +kernel
theorem dX5_find_134 : decode cX5_find 134 = .ok (.aload_n 3, 1) := by decide +kernel
theorem dX5_find_135 : decode cX5_find 135 = .ok (.aload_n 0, 1) := by decide +kernel
theorem dX5_find_136 : decode cX5_find 136 = .ok (.getfield 13, 3) := by decide +kernel
theorem dX5_find_139 : decode cX5_find 139 = .ok (.iconst 0, 1) := by decide +kernel
theorem dX5_find_140 : decode cX5_find 140 = .ok (.aaload, 1) := by decide +kernel
theorem dX5_find_141 : decode cX5_find 141 = .ok (.invokevirtual 47, 3) := by decide +kernel
theorem dX5_find_144 : decode cX5_find 144 = .ok (.return_, 1) := by decide +kernel
noncomputable def F_X5_find_6 (k134 : Nat → Nat → m_M → Option (Unit × m_M)) : Nat → Nat → Nat → Int32 → Nat → Int32 → Int32 → m_M → Option (Unit × m_M)
  | 0, _, _, _, _, _, _, _ => none
  | n + 1, v1, v2, v3, v4, v5, v6, M =>
    x_len 12 M v2 fun v7 =>
    if v7 ≤ v6 then (
      k134 v1 v4 M
    ) else
    m_let (fun (v8 : Nat) (v9 : Nat) (v10 : Int32) (v11 : Nat) (v12 : Int32) (v13 : Int32) (M1 : m_M) =>
      m_let (v13 + (1 : Int32)) fun v14 =>
      F_X5_find_6 k134 n v8 v9 v10 v11 v12 v14 M1
    ) fun (k128 : Nat → Nat → Int32 → Nat → Int32 → Int32 → m_M → Option (Unit × m_M)) =>
    m_let (fun (v15 : Nat) (v16 : Nat) (v17 : Int32) (v18 : Nat) (v19 : Int32) (v20 : Int32) (v21 : Int32) (M2 : m_M) =>
      m_let (fun (v22 : Nat) (v23 : Nat) (v24 : Int32) (v25 : Nat) (v26 : Int32) (v27 : Int32) (v28 : Int32) (M3 : m_M) =>
        if v28 < 0 then (
          k128 v22 v23 v24 v25 v26 v27 M3
        ) else
        if (16 : Int32) ≤ v26 then (
          k128 v22 v23 v24 v25 v26 v27 M3
        ) else
        x_gN 5 M3 v22 0 fun v29 =>
        x_gN 5 M3 v22 0 fun v30 =>
        x_cV 3 M3 v30 (F_X3_firstOf v30 v28 M3) fun v31 M4 =>
        x_gN 5 M4 v22 0 fun v32 =>
        x_cV 3 M4 v32 (F_X3_secondOf v32 v28 M4) fun v33 M5 =>
        x_gN 5 M5 v22 1 fun v34 =>
        x_aN 17 M5 v34 v26 fun v35 =>
        x_cV 3 M5 v29 (F_X3_spread v29 v31 v33 v24 v35 M5) fun _ M6 =>
        m_let (v26 + (1 : Int32)) fun v36 =>
        k128 v22 v23 v24 v25 v36 v27 M6
      ) fun (k80 : Nat → Nat → Int32 → Nat → Int32 → Int32 → Int32 → m_M → Option (Unit × m_M)) =>
      if (-11 : Int32) ≤ v21 then (
        k80 v15 v16 v17 v18 v19 v20 v21 M2
      ) else
      if v19 ≤ (1 : Int32) then (
        k80 v15 v16 v17 v18 v19 v20 v21 M2
      ) else
      m_let (v19 + (-1 : Int32)) fun v37 =>
      x_cV 5 M2 v15 (F_X5_joinTop v15 v21 v37 M2) fun _ M7 =>
      k128 v15 v16 v17 v18 v37 v20 M7
    ) fun (k53 : Nat → Nat → Int32 → Nat → Int32 → Int32 → Int32 → m_M → Option (Unit × m_M)) =>
    x_aI 12 M v2 v6 fun v38 =>
    if v38 = (-11 : Int32) then (
      if v5 ≤ 0 then (
        k53 v1 v2 v3 v4 v5 v6 v38 M
      ) else
      x_gN 5 M v1 1 fun v39 =>
      x_aN 17 M v39 (v5 - (1 : Int32)) fun v40 =>
      x_gN 5 M v1 0 fun v41 =>
      x_gI 3 M v41 3 fun v42 =>
      x_cV 8 M v40 (F_X10_turn v40 v42 M) fun _ M8 =>
      k128 v1 v2 v3 v4 v5 v6 M8
    ) else
    k53 v1 v2 v3 v4 v5 v6 v38 M
noncomputable def F_X5_find (a0 : Nat) (a1 : Nat) (a2 : Int32) (a3 : Nat) (M : m_M) : Option (Unit × m_M) :=
  m_let (fun (v1 : Nat) (v2 : Nat) (M1 : m_M) =>
    x_gN 5 M1 v1 1 fun v3 =>
    x_aN 17 M1 v3 (0 : Int32) fun v4 =>
    x_cV 8 M1 v2 (F_X10_take v2 v4 M1) fun _ M2 =>
    some ((), M2)
  ) fun (k134 : Nat → Nat → m_M → Option (Unit × m_M)) =>
  F_X5_find_6 k134 m_FU a0 a1 a2 a3 (0 : Int32) (0 : Int32) M
set_option maxHeartbeats 4000000 in
theorem L_X5_find_6 {X : j_X} {Φ : Option Value → m_M → Prop} (C : j_C X yX5_find cX5_find 7 none 6 0 0 Φ) {k134 : Nat → Nat → m_M → Option (Unit × m_M)} (hk134 : ∀ (p0 : Nat) (p1 : Nat) (M : m_M), m_ok e_V Φ (k134 p0 p1 M) → j_J X 7 134 [some (.ref p0), none, none, some (.ref p1), none, none, none] [] (0, 0) M) : ∀ (n : Nat) (v1 : Nat) (v2 : Nat) (v3 : Int32) (v4 : Nat) (v5 : Int32) (v6 : Int32) (M : m_M), m_ok e_V Φ (F_X5_find_6 k134 n v1 v2 v3 v4 v5 v6 M) → j_J X 7 6 [some (.ref v1), some (.ref v2), some (.int v3), some (.ref v4), some (.int v5), some (.int v6), none] [] (0, 0) M := by
  have C0 := C.1
  intro n
  induction n with
  | zero => intro v1 v2 v3 v4 v5 v6 M h; exact False.elim h
  | succ n ih =>
    intro v1 v2 v3 v4 v5 v6 M h
    rw [F_X5_find_6] at h
    refine j_iload C0 (pc := 6) dX5_find_6 rfl ?_
    refine j_aload_n C0 (pc := 8) dX5_find_8 rfl ?_
    refine X_alen C0 (pc := 9) (by decide) dX5_find_9 h (fun v7 h => ?_)
    refine j_icmp_ge C0 (pc := 10) (tgt := 134) dX5_find_10 (by decide) (fun hc => ?_) (fun hc => ?_)
    · replace h := (X_if h).1 hc
      exact j_J.wq (hk134 v1 v4 M h) (And.intro rfl (And.intro rfl (trivial)))
    · replace h := (X_if h).2 hc
      refine X_join (fun (kj : Nat → Nat → Int32 → Nat → Int32 → Int32 → m_M → Option (Unit × m_M)) => ∀ (p0 : Nat) (p1 : Nat) (p2 : Int32) (p3 : Nat) (p4 : Int32) (p5 : Int32) (M : m_M), m_ok e_V Φ (kj p0 p1 p2 p3 p4 p5 M) → j_J X 7 128 [some (.ref p0), some (.ref p1), some (.int p2), some (.ref p3), some (.int p4), some (.int p5), none] [] (0, 0) M) h (fun v8 v9 v10 v11 v12 v13 M1 h => ?_) (fun k128 hk128 h => ?_)
      · refine j_iinc C0 (pc := 128) dX5_find_128 (v := v13 + (1 : Int32)) rfl (Nat.le_of_ble_eq_true rfl) (by rfl) ?_
        refine X_let (G := fun w => j_J X 7 131 [some (.ref v8), some (.ref v9), some (.int v10), some (.ref v11), some (.int v12), some (.int w), none] [] (0, 0) M1) h (fun v14 h => ?_)
        refine j_goto C0 (pc := 131) (tgt := 6) dX5_find_131 (by decide) ?_
        exact j_J.wq (ih v8 v9 v10 v11 v12 v14 M1 h) (And.intro rfl (And.intro rfl (And.intro rfl (And.intro rfl (And.intro rfl (And.intro rfl (trivial)))))))
      · refine X_join (fun (kj : Nat → Nat → Int32 → Nat → Int32 → Int32 → Int32 → m_M → Option (Unit × m_M)) => ∀ (p0 : Nat) (p1 : Nat) (p2 : Int32) (p3 : Nat) (p4 : Int32) (p5 : Int32) (p6 : Int32) (M : m_M), m_ok e_V Φ (kj p0 p1 p2 p3 p4 p5 p6 M) → j_J X 7 53 [some (.ref p0), some (.ref p1), some (.int p2), some (.ref p3), some (.int p4), some (.int p5), some (.int p6)] [] (0, 0) M) h (fun v15 v16 v17 v18 v19 v20 v21 M2 h => ?_) (fun k53 hk53 h => ?_)
        · refine X_join (fun (kj : Nat → Nat → Int32 → Nat → Int32 → Int32 → Int32 → m_M → Option (Unit × m_M)) => ∀ (p0 : Nat) (p1 : Nat) (p2 : Int32) (p3 : Nat) (p4 : Int32) (p5 : Int32) (p6 : Int32) (M : m_M), m_ok e_V Φ (kj p0 p1 p2 p3 p4 p5 p6 M) → j_J X 7 80 [some (.ref p0), some (.ref p1), some (.int p2), some (.ref p3), some (.int p4), some (.int p5), some (.int p6)] [] (0, 0) M) h (fun v22 v23 v24 v25 v26 v27 v28 M3 h => ?_) (fun k80 hk80 h => ?_)
          · refine j_iload C0 (pc := 80) dX5_find_80 rfl ?_
            refine j_if_lt C0 (pc := 82) (tgt := 128) dX5_find_82 (by decide) (fun hc => ?_) (fun hc => ?_)
            · replace h := (X_if h).1 hc
              exact j_J.wq (hk128 v22 v23 v24 v25 v26 v27 M3 h) (And.intro rfl (And.intro rfl (And.intro rfl (And.intro rfl (And.intro rfl (And.intro rfl (trivial)))))))
            · replace h := (X_if h).2 hc
              refine j_iload C0 (pc := 85) dX5_find_85 rfl ?_
              refine j_bipush C0 (pc := 87) dX5_find_87 (v := (16 : Int32)) (by decide) ?_
              refine j_icmp_ge C0 (pc := 89) (tgt := 128) dX5_find_89 (by decide) (fun hc => ?_) (fun hc => ?_)
              · replace h := (X_if h).1 hc
                exact j_J.wq (hk128 v22 v23 v24 v25 v26 v27 M3 h) (And.intro rfl (And.intro rfl (And.intro rfl (And.intro rfl (And.intro rfl (And.intro rfl (trivial)))))))
              · replace h := (X_if h).2 hc
                refine j_aload_n C0 (pc := 92) dX5_find_92 rfl ?_
                refine X_gN C0 (pc := 93) f_Meaning_17_5 rfl dX5_find_93 h (fun v29 h => ?_)
                refine j_aload_n C0 (pc := 96) dX5_find_96 rfl ?_
                refine X_gN C0 (pc := 97) f_Meaning_17_5 rfl dX5_find_97 h (fun v30 h => ?_)
                refine j_iload C0 (pc := 100) dX5_find_100 rfl ?_
                refine X_cV C0 (pc := 102) (e' := e_I) (as := [.int v28]) (rest := [.ref v29]) (s' := fun w => .int w :: [.ref v29]) (g' := (0, 0)) v_Meaning_36_3 (fun Ψ hΨ => K_X3_firstOf v30 v28 M3 Ψ hΨ) rfl rfl (fun _ => rfl) (by decide) (by decide) rfl (Nat.le_of_ble_eq_true rfl) dX5_find_102 h (fun v31 M4 h => ?_)
                refine j_aload_n C0 (pc := 105) dX5_find_105 rfl ?_
                refine X_gN C0 (pc := 106) f_Meaning_17_5 rfl dX5_find_106 h (fun v32 h => ?_)
                refine j_iload C0 (pc := 109) dX5_find_109 rfl ?_
                refine X_cV C0 (pc := 111) (e' := e_I) (as := [.int v28]) (rest := [.int v31, .ref v29]) (s' := fun w => .int w :: [.int v31, .ref v29]) (g' := (0, 0)) v_Meaning_40_3 (fun Ψ hΨ => K_X3_secondOf v32 v28 M4 Ψ hΨ) rfl rfl (fun _ => rfl) (by decide) (by decide) rfl (Nat.le_of_ble_eq_true rfl) dX5_find_111 h (fun v33 M5 h => ?_)
                refine j_iload_n C0 (pc := 114) dX5_find_114 rfl ?_
                refine j_aload_n C0 (pc := 115) dX5_find_115 rfl ?_
                refine X_gN C0 (pc := 116) f_Meaning_13_5 rfl dX5_find_116 h (fun v34 h => ?_)
                refine j_iload C0 (pc := 119) dX5_find_119 rfl ?_
                refine X_aaldN C0 (pc := 121) (by decide) dX5_find_121 h (fun v35 h => ?_)
                refine X_cV C0 (pc := 122) (e' := e_V) (as := [.int v31, .int v33, .int v24, .ref v35]) (rest := []) (s' := fun _ => []) (g' := (0, 0)) v_Meaning_43_3 (fun Ψ hΨ => K_X3_spread v29 v31 v33 v24 v35 M5 Ψ hΨ) rfl rfl (fun _ => rfl) (by decide) (by decide) rfl (Nat.le_of_ble_eq_true rfl) dX5_find_122 h (fun _ M6 h => ?_)
                refine j_iinc C0 (pc := 125) dX5_find_125 (v := v26 + (1 : Int32)) rfl (Nat.le_of_ble_eq_true rfl) (by rfl) ?_
                refine X_let (G := fun w => j_J X 7 128 [some (.ref v22), some (.ref v23), some (.int v24), some (.ref v25), some (.int w), some (.int v27), some (.int v28)] [] (0, 0) M6) h (fun v36 h => ?_)
                exact j_J.wq (hk128 v22 v23 v24 v25 v36 v27 M6 h) (And.intro rfl (And.intro rfl (And.intro rfl (And.intro rfl (And.intro rfl (And.intro rfl (trivial)))))))
          · refine j_iload C0 (pc := 53) dX5_find_53 rfl ?_
            refine j_bipush C0 (pc := 55) dX5_find_55 (v := (-11 : Int32)) (by decide) ?_
            refine j_icmp_ge C0 (pc := 57) (tgt := 80) dX5_find_57 (by decide) (fun hc => ?_) (fun hc => ?_)
            · replace h := (X_if h).1 hc
              exact j_J.wq (hk80 v15 v16 v17 v18 v19 v20 v21 M2 h) (And.intro rfl (And.intro rfl (And.intro rfl (And.intro rfl (And.intro rfl (And.intro rfl (And.intro rfl (trivial))))))))
            · replace h := (X_if h).2 hc
              refine j_iload C0 (pc := 60) dX5_find_60 rfl ?_
              refine j_iconst C0 (pc := 62) dX5_find_62 (v := (1 : Int32)) (by decide) ?_
              refine j_icmp_le C0 (pc := 63) (tgt := 80) dX5_find_63 (by decide) (fun hc => ?_) (fun hc => ?_)
              · replace h := (X_if h).1 hc
                exact j_J.wq (hk80 v15 v16 v17 v18 v19 v20 v21 M2 h) (And.intro rfl (And.intro rfl (And.intro rfl (And.intro rfl (And.intro rfl (And.intro rfl (And.intro rfl (trivial))))))))
              · replace h := (X_if h).2 hc
                refine j_iinc C0 (pc := 66) dX5_find_66 (v := v19 + (-1 : Int32)) rfl (Nat.le_of_ble_eq_true rfl) (by rfl) ?_
                refine X_let (G := fun w => j_J X 7 69 [some (.ref v15), some (.ref v16), some (.int v17), some (.ref v18), some (.int w), some (.int v20), some (.int v21)] [] (0, 0) M2) h (fun v37 h => ?_)
                refine j_aload_n C0 (pc := 69) dX5_find_69 rfl ?_
                refine j_iload C0 (pc := 70) dX5_find_70 rfl ?_
                refine j_iload C0 (pc := 72) dX5_find_72 rfl ?_
                refine X_cV C0 (pc := 74) (e' := e_V) (as := [.int v21, .int v37]) (rest := []) (s' := fun _ => []) (g' := (0, 0)) v_Meaning_32_5 (fun Ψ hΨ => K_X5_joinTop v15 v21 v37 M2 Ψ hΨ) rfl rfl (fun _ => rfl) (by decide) (by decide) rfl (Nat.le_of_ble_eq_true rfl) dX5_find_74 h (fun _ M7 h => ?_)
                refine j_goto C0 (pc := 77) (tgt := 128) dX5_find_77 (by decide) ?_
                exact j_J.wq (hk128 v15 v16 v17 v18 v37 v20 M7 h) (And.intro rfl (And.intro rfl (And.intro rfl (And.intro rfl (And.intro rfl (And.intro rfl (trivial)))))))
        · refine j_aload_n C0 (pc := 13) dX5_find_13 rfl ?_
          refine j_iload C0 (pc := 14) dX5_find_14 rfl ?_
          refine X_iald C0 (pc := 16) dX5_find_16 h (fun v38 h => ?_)
          refine j_istore C0 (pc := 17) dX5_find_17 (Nat.le_of_ble_eq_true rfl) ?_
          show j_J X 7 19 [some (.ref v1), some (.ref v2), some (.int v3), some (.ref v4), some (.int v5), some (.int v6), some (.int v38)] [] (0, 0) M
          refine j_iload C0 (pc := 19) dX5_find_19 rfl ?_
          refine j_bipush C0 (pc := 21) dX5_find_21 (v := (-11 : Int32)) (by decide) ?_
          refine j_icmp_ne C0 (pc := 23) (tgt := 53) dX5_find_23 (by decide) (fun hc => ?_) (fun hc => ?_)
          · replace h := (X_if h).2 hc
            exact j_J.wq (hk53 v1 v2 v3 v4 v5 v6 v38 M h) (And.intro rfl (And.intro rfl (And.intro rfl (And.intro rfl (And.intro rfl (And.intro rfl (And.intro rfl (trivial))))))))
          · replace h := (X_if h).1 hc
            refine j_iload C0 (pc := 26) dX5_find_26 rfl ?_
            refine j_if_le C0 (pc := 28) (tgt := 53) dX5_find_28 (by decide) (fun hc => ?_) (fun hc => ?_)
            · replace h := (X_if h).1 hc
              exact j_J.wq (hk53 v1 v2 v3 v4 v5 v6 v38 M h) (And.intro rfl (And.intro rfl (And.intro rfl (And.intro rfl (And.intro rfl (And.intro rfl (And.intro rfl (trivial))))))))
            · replace h := (X_if h).2 hc
              refine j_aload_n C0 (pc := 31) dX5_find_31 rfl ?_
              refine X_gN C0 (pc := 32) f_Meaning_13_5 rfl dX5_find_32 h (fun v39 h => ?_)
              refine j_iload C0 (pc := 35) dX5_find_35 rfl ?_
              refine j_iconst C0 (pc := 37) dX5_find_37 (v := (1 : Int32)) (by decide) ?_
              refine j_isub C0 (pc := 38) dX5_find_38 ?_
              refine X_aaldN C0 (pc := 39) (by decide) dX5_find_39 h (fun v40 h => ?_)
              refine j_aload_n C0 (pc := 40) dX5_find_40 rfl ?_
              refine X_gN C0 (pc := 41) f_Meaning_17_5 rfl dX5_find_41 h (fun v41 h => ?_)
              refine X_gI C0 (pc := 44) f_Meaning_22_3 rfl dX5_find_44 h (fun v42 h => ?_)
              refine X_cV C0 (pc := 47) (e' := e_V) (as := [.int v42]) (rest := []) (s' := fun _ => []) (g' := (0, 0)) v_Meaning_28_8 (fun Ψ hΨ => K_X10_turn v40 v42 M Ψ hΨ) rfl rfl (fun _ => rfl) (by decide) (by decide) rfl (Nat.le_of_ble_eq_true rfl) dX5_find_47 h (fun _ M8 h => ?_)
              refine j_goto C0 (pc := 50) (tgt := 128) dX5_find_50 (by decide) ?_
              exact j_J.wq (hk128 v1 v2 v3 v4 v5 v6 M8 h) (And.intro rfl (And.intro rfl (And.intro rfl (And.intro rfl (And.intro rfl (And.intro rfl (trivial)))))))
set_option maxHeartbeats 4000000 in
theorem K_X5_find (a0 : Nat) (a1 : Nat) (a2 : Int32) (a3 : Nat) (M : m_M) (Φ : Option Value → m_M → Prop) (h : m_ok e_V Φ (F_X5_find a0 a1 a2 a3 M)) : j_Ct yX5_find cX5_find 7 none 6 0 0 [.ref a0, .ref a1, .int a2, .ref a3] M Φ := by
  refine j_Ct.of (by decide +kernel) (Nat.le_of_ble_eq_true rfl) fun X C => ?_
  have C0 := C.1
  show j_J X 7 0 [some (.ref a0), some (.ref a1), some (.int a2), some (.ref a3), none, none, none] [] (0, 0) M
  unfold F_X5_find at h
  refine j_iconst C0 (pc := 0) dX5_find_0 (v := (0 : Int32)) (by decide) ?_
  refine j_istore C0 (pc := 1) dX5_find_1 (Nat.le_of_ble_eq_true rfl) ?_
  show j_J X 7 3 [some (.ref a0), some (.ref a1), some (.int a2), some (.ref a3), some (.int (0 : Int32)), none, none] [] (0, 0) M
  refine j_iconst C0 (pc := 3) dX5_find_3 (v := (0 : Int32)) (by decide) ?_
  refine j_istore C0 (pc := 4) dX5_find_4 (Nat.le_of_ble_eq_true rfl) ?_
  show j_J X 7 6 [some (.ref a0), some (.ref a1), some (.int a2), some (.ref a3), some (.int (0 : Int32)), some (.int (0 : Int32)), none] [] (0, 0) M
  refine X_join (fun (kj : Nat → Nat → m_M → Option (Unit × m_M)) => ∀ (p0 : Nat) (p1 : Nat) (M : m_M), m_ok e_V Φ (kj p0 p1 M) → j_J X 7 134 [some (.ref p0), none, none, some (.ref p1), none, none, none] [] (0, 0) M) h (fun v1 v2 M1 h => ?_) (fun k134 hk134 h => ?_)
  · refine j_aload_n C0 (pc := 134) dX5_find_134 rfl ?_
    refine j_aload_n C0 (pc := 135) dX5_find_135 rfl ?_
    refine X_gN C0 (pc := 136) f_Meaning_13_5 rfl dX5_find_136 h (fun v3 h => ?_)
    refine j_iconst C0 (pc := 139) dX5_find_139 (v := (0 : Int32)) (by decide) ?_
    refine X_aaldN C0 (pc := 140) (by decide) dX5_find_140 h (fun v4 h => ?_)
    refine X_cV C0 (pc := 141) (e' := e_V) (as := [.ref v4]) (rest := []) (s' := fun _ => []) (g' := (0, 0)) v_Meaning_47_8 (fun Ψ hΨ => K_X10_take v2 v4 M1 Ψ hΨ) rfl rfl (fun _ => rfl) (by decide) (by decide) rfl (Nat.le_of_ble_eq_true rfl) dX5_find_141 h (fun _ M2 h => ?_)
    exact j_vret C rfl h dX5_find_144 (by decide)
  · exact j_J.wq (L_X5_find_6 C hk134 m_FU a0 a1 a2 a3 (0 : Int32) (0 : Int32) M h) (And.intro rfl (And.intro rfl (And.intro rfl (And.intro rfl (And.intro rfl (And.intro rfl (trivial)))))))
theorem dX10_size_0 : decode cX10_size 0 = .ok (.iconst 0, 1) := by decide +kernel
theorem dX10_size_1 : decode cX10_size 1 = .ok (.istore_n 1, 1) := by decide +kernel
theorem dX10_size_2 : decode cX10_size 2 = .ok (.iconst 0, 1) := by decide +kernel
theorem dX10_size_3 : decode cX10_size 3 = .ok (.istore_n 2, 1) := by decide +kernel
theorem dX10_size_4 : decode cX10_size 4 = .ok (.iload_n 2, 1) := by decide +kernel
theorem dX10_size_5 : decode cX10_size 5 = .ok (.bipush 16, 2) := by decide +kernel
theorem dX10_size_7 : decode cX10_size 7 = .ok (.if_icmp .ge 21, 3) := by decide +kernel
theorem dX10_size_10 : decode cX10_size 10 = .ok (.iload_n 1, 1) := by decide +kernel
theorem dX10_size_11 : decode cX10_size 11 = .ok (.aload_n 0, 1) := by decide +kernel
theorem dX10_size_12 : decode cX10_size 12 = .ok (.getfield 9, 3) := by decide +kernel
theorem dX10_size_15 : decode cX10_size 15 = .ok (.iload_n 2, 1) := by decide +kernel
theorem dX10_size_16 : decode cX10_size 16 = .ok (.laload, 1) := by decide +kernel
theorem dX10_size_17 : decode cX10_size 17 = .ok (.invokestatic 33, 3) := by decide +kernel
theorem dX10_size_20 : decode cX10_size 20 = .ok (.iadd, 1) := by decide +kernel
theorem dX10_size_21 : decode cX10_size 21 = .ok (.istore_n 1, 1) := by decide +kernel
theorem dX10_size_22 : decode cX10_size 22 = .ok (.iinc 2 1, 3) := by decide +kernel
theorem dX10_size_25 : decode cX10_size 25 = .ok (.goto (-21), 3) := by decide +kernel
theorem dX10_size_28 : decode cX10_size 28 = .ok (.iload_n 1, 1) := by decide +kernel
theorem dX10_size_29 : decode cX10_size 29 = .ok (.ireturn, 1) := by decide +kernel
noncomputable def F_X10_size_4 : Nat → Nat → Int32 → Int32 → m_M → Option (Int32 × m_M)
  | 0, _, _, _, _ => none
  | n + 1, v1, v2, v3, M =>
    if (16 : Int32) ≤ v3 then (
      some (v2, M)
    ) else
    x_gN 8 M v1 0 fun v4 =>
    x_aL M v4 v3 fun v5 =>
    x_bd (F_J13_bitCount_95d88 v5 M) fun v6 M1 =>
    m_let (v2 + v6) fun v7 =>
    m_let (v3 + (1 : Int32)) fun v8 =>
    F_X10_size_4 n v1 v7 v8 M1
noncomputable def F_X10_size (a0 : Nat) (M : m_M) : Option (Int32 × m_M) :=
  F_X10_size_4 m_FU a0 (0 : Int32) (0 : Int32) M
set_option maxHeartbeats 4000000 in
theorem L_X10_size_4 {X : j_X} {Φ : Option Value → m_M → Prop} (C : j_C X yX10_size cX10_size 3 (some .int) 2 0 0 Φ) : ∀ (n : Nat) (v1 : Nat) (v2 : Int32) (v3 : Int32) (M : m_M), m_ok e_I Φ (F_X10_size_4 n v1 v2 v3 M) → j_J X 3 4 [some (.ref v1), some (.int v2), some (.int v3)] [] (0, 0) M := by
  have C0 := C.1
  intro n
  induction n with
  | zero => intro v1 v2 v3 M h; exact False.elim h
  | succ n ih =>
    intro v1 v2 v3 M h
    rw [F_X10_size_4] at h
    refine j_iload_n C0 (pc := 4) dX10_size_4 rfl ?_
    refine j_bipush C0 (pc := 5) dX10_size_5 (v := (16 : Int32)) (by decide) ?_
    refine j_icmp_ge C0 (pc := 7) (tgt := 28) dX10_size_7 (by decide) (fun hc => ?_) (fun hc => ?_)
    · replace h := (X_if h).1 hc
      refine j_iload_n C0 (pc := 28) dX10_size_28 rfl ?_
      exact j_iret C rfl h dX10_size_29 (by decide)
    · replace h := (X_if h).2 hc
      refine j_iload_n C0 (pc := 10) dX10_size_10 rfl ?_
      refine j_aload_n C0 (pc := 11) dX10_size_11 rfl ?_
      refine X_gN C0 (pc := 12) f_WS_9_8 rfl dX10_size_12 h (fun v4 h => ?_)
      refine j_iload_n C0 (pc := 15) dX10_size_15 rfl ?_
      refine X_lald C0 (pc := 16) dX10_size_16 h (fun v5 h => ?_)
      refine X_cS C0 (pc := 17) (e' := e_I) (as := [.long v5]) (rest := [.int v2]) (s' := fun w => .int w :: [.int v2]) (g' := (0, 0)) s_WS_33 (fun Ψ hΨ => K_J13_bitCount_95d88 v5 M Ψ hΨ) rfl rfl (fun _ => rfl) (by decide) (by decide) rfl (Nat.le_of_ble_eq_true rfl) dX10_size_17 h (fun v6 M1 h => ?_)
      refine j_iadd C0 (pc := 20) dX10_size_20 ?_
      refine X_let (G := fun w => j_J X 3 21 [some (.ref v1), some (.int v2), some (.int v3)] (.int w :: []) (0, 0) M1) h (fun v7 h => ?_)
      refine j_istore_n C0 (pc := 21) dX10_size_21 (Nat.le_of_ble_eq_true rfl) ?_
      show j_J X 3 22 [some (.ref v1), some (.int v7), some (.int v3)] [] (0, 0) M1
      refine j_iinc C0 (pc := 22) dX10_size_22 (v := v3 + (1 : Int32)) rfl (Nat.le_of_ble_eq_true rfl) (by rfl) ?_
      refine X_let (G := fun w => j_J X 3 25 [some (.ref v1), some (.int v7), some (.int w)] [] (0, 0) M1) h (fun v8 h => ?_)
      refine j_goto C0 (pc := 25) (tgt := 4) dX10_size_25 (by decide) ?_
      exact j_J.wq (ih v1 v7 v8 M1 h) (And.intro rfl (And.intro rfl (And.intro rfl (trivial))))
set_option maxHeartbeats 4000000 in
theorem K_X10_size (a0 : Nat) (M : m_M) (Φ : Option Value → m_M → Prop) (h : m_ok e_I Φ (F_X10_size a0 M)) : j_Ct yX10_size cX10_size 3 (some .int) 2 0 0 [.ref a0] M Φ := by
  refine j_Ct.of (by decide +kernel) (Nat.le_of_ble_eq_true rfl) fun X C => ?_
  have C0 := C.1
  show j_J X 3 0 [some (.ref a0), none, none] [] (0, 0) M
  unfold F_X10_size at h
  refine j_iconst C0 (pc := 0) dX10_size_0 (v := (0 : Int32)) (by decide) ?_
  refine j_istore_n C0 (pc := 1) dX10_size_1 (Nat.le_of_ble_eq_true rfl) ?_
  show j_J X 3 2 [some (.ref a0), some (.int (0 : Int32)), none] [] (0, 0) M
  refine j_iconst C0 (pc := 2) dX10_size_2 (v := (0 : Int32)) (by decide) ?_
  refine j_istore_n C0 (pc := 3) dX10_size_3 (Nat.le_of_ble_eq_true rfl) ?_
  show j_J X 3 4 [some (.ref a0), some (.int (0 : Int32)), some (.int (0 : Int32))] [] (0, 0) M
  exact j_J.wq (L_X10_size_4 C m_FU a0 (0 : Int32) (0 : Int32) M h) (And.intro rfl (And.intro rfl (And.intro rfl (trivial))))
theorem dX11_asked_0 : decode cX11_asked 0 = .ok (.aload_n 0, 1) := by decide +kernel
theorem dX11_asked_1 : decode cX11_asked 1 = .ok (.getfield 65, 3) := by decide +kernel
theorem dX11_asked_4 : decode cX11_asked 4 = .ok (.invokevirtual 205, 3) := by decide +kernel
theorem dX11_asked_7 : decode cX11_asked 7 = .ok (.ifCond .ne 5, 3) := by decide +kernel
theorem dX11_asked_10 : decode cX11_asked 10 = .ok (.iconst (-1), 1) := by decide +kernel
theorem dX11_asked_11 : decode cX11_asked 11 = .ok (.ireturn, 1) := by decide +kernel
theorem dX11_asked_12 : decode cX11_asked 12 = .ok (.aload_n 0, 1) := by decide +kernel
theorem dX11_asked_13 : decode cX11_asked 13 = .ok (.invokevirtual 189, 3) := by decide +kernel
theorem dX11_asked_16 : decode cX11_asked 16 = .ok (.aload_n 0, 1) := by decide +kernel
theorem dX11_asked_17 : decode cX11_asked 17 = .ok (.getfield 44, 3) := by decide +kernel
theorem dX11_asked_20 : decode cX11_asked 20 = .ok (.aload_n 0, 1) := by decide +kernel
theorem dX11_asked_21 : decode cX11_asked 21 = .ok (.getfield 65, 3) := by decide +kernel
theorem dX11_asked_24 : decode cX11_asked 24 = .ok (.getfield 140, 3) := by decide +kernel
theorem dX11_asked_27 : decode cX11_asked 27 = .ok (.aload_n 0, 1) := by decide +kernel
theorem dX11_asked_28 : decode cX11_asked 28 = .ok (.invokevirtual 113, 3) := by decide +kernel
theorem dX11_asked_31 : decode cX11_asked 31 = .ok (.aload_n 0, 1) := by decide +kernel
theorem dX11_asked_32 : decode cX11_asked 32 = .ok (.getfield 84, 3) := by decide +kernel
theorem dX11_asked_35 : decode cX11_asked 35 = .ok (.invokevirtual 208, 3) := by decide +kernel
theorem dX11_asked_38 : decode cX11_asked 38 = .ok (.aload_n 0, 1) := by decide +kernel
theorem dX11_asked_39 : decode cX11_asked 39 = .ok (.getfield 84, 3) := by decide +kernel
theorem dX11_asked_42 : decode cX11_asked 42 = .ok (.aload_n 0, 1) := by decide +kernel
theorem dX11_asked_43 : decode cX11_asked 43 = .ok (.getfield 80, 3) := by decide +kernel
theorem dX11_asked_46 : decode cX11_asked 46 = .ok (.invokevirtual 216, 3) := by decide +kernel
theorem dX11_asked_49 : decode cX11_asked 49 = .ok (.aload_n 0, 1) := by decide +kernel
theorem dX11_asked_50 : decode cX11_asked 50 = .ok (.getfield 84, 3) := by decide +kernel
theorem dX11_asked_53 : decode cX11_asked 53 = .ok (.invokevirtual 174, 3) := by decide +kernel
theorem dX11_asked_56 : decode cX11_asked 56 = .ok (.ireturn, 1) := by decide +kernel
noncomputable def F_X11_asked (a0 : Nat) (M : m_M) : Option (Int32 × m_M) :=
  x_gN 9 M a0 9 fun v1 =>
  x_cV 1 M v1 (F_X1_hasAsked v1 M) fun v2 M1 =>
  if v2 = 0 then (
    some ((-1 : Int32), M1)
  ) else
  x_cV 9 M1 a0 (F_X11_findLeft a0 M1) fun _ M2 =>
  x_gN 9 M2 a0 6 fun v3 =>
  x_gN 9 M2 a0 9 fun v4 =>
  x_gN 1 M2 v4 5 fun v5 =>
  x_cV 9 M2 a0 (F_X11_verbToday a0 M2) fun v6 M3 =>
  x_gN 9 M3 a0 13 fun v7 =>
  x_cV 5 M3 v3 (F_X5_find v3 v5 v6 v7 M3) fun _ M4 =>
  x_gN 9 M4 a0 13 fun v8 =>
  x_gN 9 M4 a0 12 fun v9 =>
  x_cV 8 M4 v8 (F_X10_keep v8 v9 M4) fun _ M5 =>
  x_gN 9 M5 a0 13 fun v10 =>
  x_cV 8 M5 v10 (F_X10_size v10 M5) fun v11 M6 =>
  some (v11, M6)
set_option maxHeartbeats 4000000 in
theorem K_X11_asked (a0 : Nat) (M : m_M) (Φ : Option Value → m_M → Prop) (h : m_ok e_I Φ (F_X11_asked a0 M)) : j_Ct yX11_asked cX11_asked 1 (some .int) 7 0 0 [.ref a0] M Φ := by
  refine j_Ct.of (by decide +kernel) (Nat.le_of_ble_eq_true rfl) fun X C => ?_
  have C0 := C.1
  show j_J X 1 0 [some (.ref a0)] [] (0, 0) M
  unfold F_X11_asked at h
  refine j_aload_n C0 (pc := 0) dX11_asked_0 rfl ?_
  refine X_gN C0 (pc := 1) f_OV_65_9 rfl dX11_asked_1 h (fun v1 h => ?_)
  refine X_cV C0 (pc := 4) (e' := e_I) (as := []) (rest := []) (s' := fun w => .int w :: []) (g' := (0, 0)) v_OV_205_1 (fun Ψ hΨ => K_X1_hasAsked v1 M Ψ hΨ) rfl rfl (fun _ => rfl) (by decide) (by decide) rfl (Nat.le_of_ble_eq_true rfl) dX11_asked_4 h (fun v2 M1 h => ?_)
  refine j_if_ne C0 (pc := 7) (tgt := 12) dX11_asked_7 (by decide) (fun hc => ?_) (fun hc => ?_)
  · replace h := (X_if h).2 hc
    refine j_aload_n C0 (pc := 12) dX11_asked_12 rfl ?_
    refine X_cV C0 (pc := 13) (e' := e_V) (as := []) (rest := []) (s' := fun _ => []) (g' := (0, 0)) v_OV_189_9 (fun Ψ hΨ => K_X11_findLeft a0 M1 Ψ hΨ) rfl rfl (fun _ => rfl) (by decide) (by decide) rfl (Nat.le_of_ble_eq_true rfl) dX11_asked_13 h (fun _ M2 h => ?_)
    refine j_aload_n C0 (pc := 16) dX11_asked_16 rfl ?_
    refine X_gN C0 (pc := 17) f_OV_44_9 rfl dX11_asked_17 h (fun v3 h => ?_)
    refine j_aload_n C0 (pc := 20) dX11_asked_20 rfl ?_
    refine X_gN C0 (pc := 21) f_OV_65_9 rfl dX11_asked_21 h (fun v4 h => ?_)
    refine X_gN C0 (pc := 24) f_OV_140_1 rfl dX11_asked_24 h (fun v5 h => ?_)
    refine j_aload_n C0 (pc := 27) dX11_asked_27 rfl ?_
    refine X_cV C0 (pc := 28) (e' := e_I) (as := []) (rest := [.ref v5, .ref v3]) (s' := fun w => .int w :: [.ref v5, .ref v3]) (g' := (0, 0)) v_OV_113_9 (fun Ψ hΨ => K_X11_verbToday a0 M2 Ψ hΨ) rfl rfl (fun _ => rfl) (by decide) (by decide) rfl (Nat.le_of_ble_eq_true rfl) dX11_asked_28 h (fun v6 M3 h => ?_)
    refine j_aload_n C0 (pc := 31) dX11_asked_31 rfl ?_
    refine X_gN C0 (pc := 32) f_OV_84_9 rfl dX11_asked_32 h (fun v7 h => ?_)
    refine X_cV C0 (pc := 35) (e' := e_V) (as := [.ref v5, .int v6, .ref v7]) (rest := []) (s' := fun _ => []) (g' := (0, 0)) v_OV_208_5 (fun Ψ hΨ => K_X5_find v3 v5 v6 v7 M3 Ψ hΨ) rfl rfl (fun _ => rfl) (by decide) (by decide) rfl (Nat.le_of_ble_eq_true rfl) dX11_asked_35 h (fun _ M4 h => ?_)
    refine j_aload_n C0 (pc := 38) dX11_asked_38 rfl ?_
    refine X_gN C0 (pc := 39) f_OV_84_9 rfl dX11_asked_39 h (fun v8 h => ?_)
    refine j_aload_n C0 (pc := 42) dX11_asked_42 rfl ?_
    refine X_gN C0 (pc := 43) f_OV_80_9 rfl dX11_asked_43 h (fun v9 h => ?_)
    refine X_cV C0 (pc := 46) (e' := e_V) (as := [.ref v9]) (rest := []) (s' := fun _ => []) (g' := (0, 0)) v_OV_216_8 (fun Ψ hΨ => K_X10_keep v8 v9 M4 Ψ hΨ) rfl rfl (fun _ => rfl) (by decide) (by decide) rfl (Nat.le_of_ble_eq_true rfl) dX11_asked_46 h (fun _ M5 h => ?_)
    refine j_aload_n C0 (pc := 49) dX11_asked_49 rfl ?_
    refine X_gN C0 (pc := 50) f_OV_84_9 rfl dX11_asked_50 h (fun v10 h => ?_)
    refine X_cV C0 (pc := 53) (e' := e_I) (as := []) (rest := []) (s' := fun w => .int w :: []) (g' := (0, 0)) v_OV_174_8 (fun Ψ hΨ => K_X10_size v10 M5 Ψ hΨ) rfl rfl (fun _ => rfl) (by decide) (by decide) rfl (Nat.le_of_ble_eq_true rfl) dX11_asked_53 h (fun v11 M6 h => ?_)
    exact j_iret C rfl h dX11_asked_56 (by decide)
  · replace h := (X_if h).1 hc
    refine j_iconst C0 (pc := 10) dX11_asked_10 (v := (-1 : Int32)) (by decide) ?_
    exact j_iret C rfl h dX11_asked_11 (by decide)
theorem dX10_least_0 : decode cX10_least 0 = .ok (.iconst 0, 1) := by decide +kernel
theorem dX10_least_1 : decode cX10_least 1 = .ok (.istore_n 1, 1) := by decide +kernel
theorem dX10_least_2 : decode cX10_least 2 = .ok (.iload_n 1, 1) := by decide +kernel
theorem dX10_least_3 : decode cX10_least 3 = .ok (.bipush 16, 2) := by decide +kernel
theorem dX10_least_5 : decode cX10_least 5 = .ok (.if_icmp .ge 45, 3) := by decide +kernel
theorem dX10_least_8 : decode cX10_least 8 = .ok (.aload_n 0, 1) := by decide +kernel
theorem dX10_least_9 : decode cX10_least 9 = .ok (.getfield 9, 3) := by decide +kernel
theorem dX10_least_12 : decode cX10_least 12 = .ok (.iload_n 1, 1) := by decide +kernel
theorem dX10_least_13 : decode cX10_least 13 = .ok (.laload, 1) := by decide +kernel
theorem dX10_least_14 : decode cX10_least 14 = .ok (.lconst 0, 1) := by decide +kernel
theorem dX10_least_15 : decode cX10_least 15 = .ok (.lcmp, 1) := by decide +kernel
theorem dX10_least_16 : decode cX10_least 16 = .ok (.ifCond .eq 28, 3) := by decide +kernel
theorem dX10_least_19 : decode cX10_least 19 = .ok (.iload_n 1, 1) := by decide +kernel
theorem dX10_least_20 : decode cX10_least 20 = .ok (.bipush 64, 2) := by decide +kernel
theorem dX10_least_22 : decode cX10_least 22 = .ok (.imul, 1) := by decide +kernel
theorem dX10_least_23 : decode cX10_least 23 = .ok (.aload_n 0, 1) := by decide +kernel
theorem dX10_least_24 : decode cX10_least 24 = .ok (.getfield 9, 3) := by decide +kernel
theorem dX10_least_27 : decode cX10_least 27 = .ok (.iload_n 1, 1) := by decide +kernel
theorem dX10_least_28 : decode cX10_least 28 = .ok (.laload, 1) := by decide +kernel
theorem dX10_least_29 : decode cX10_least 29 = .ok (.aload_n 0, 1) := by decide +kernel
theorem dX10_least_30 : decode cX10_least 30 = .ok (.getfield 9, 3) := by decide +kernel
theorem dX10_least_33 : decode cX10_least 33 = .ok (.iload_n 1, 1) := by decide +kernel
theorem dX10_least_34 : decode cX10_least 34 = .ok (.laload, 1) := by decide +kernel
theorem dX10_least_35 : decode cX10_least 35 = .ok (.lneg, 1) := by decide +kernel
theorem dX10_least_36 : decode cX10_least 36 = .ok (.land, 1) := by decide +kernel
theorem dX10_least_37 : decode cX10_least 37 = .ok (.lconst 1, 1) := by decide +kernel
theorem dX10_least_38 : decode cX10_least 38 = .ok (.lsub, 1) := by decide +kernel
theorem dX10_least_39 : decode cX10_least 39 = .ok (.invokestatic 33, 3) := by decide +kernel
theorem dX10_least_42 : decode cX10_least 42 = .ok (.iadd, 1) := by decide +kernel
theorem dX10_least_43 : decode cX10_least 43 = .ok (.ireturn, 1) := by decide +kernel
theorem dX10_least_44 : decode cX10_least 44 = .ok (.iinc 1 1, 3) := by decide +kernel
theorem dX10_least_47 : decode cX10_least 47 = .ok (.goto (-45), 3) := by decide +kernel
theorem dX10_least_50 : decode cX10_least 50 = .ok (.iconst (-1), 1) := by decide +kernel
theorem dX10_least_51 : decode cX10_least 51 = .ok (.ireturn, 1) := by decide +kernel
noncomputable def F_X10_least_2 (k19 : Nat → Int32 → m_M → Option (Int32 × m_M)) : Nat → Nat → Int32 → m_M → Option (Int32 × m_M)
  | 0, _, _, _ => none
  | n + 1, v1, v2, M =>
    if (16 : Int32) ≤ v2 then (
      some ((-1 : Int32), M)
    ) else
    x_gN 8 M v1 0 fun v3 =>
    x_aL M v3 v2 fun v4 =>
    if (lg_cmp v4 (0 : Int64)) = 0 then (
      m_let (v2 + (1 : Int32)) fun v5 =>
      F_X10_least_2 k19 n v1 v5 M
    ) else
    k19 v1 v2 M
noncomputable def F_X10_least (a0 : Nat) (M : m_M) : Option (Int32 × m_M) :=
  m_let (fun (v1 : Nat) (v2 : Int32) (M1 : m_M) =>
    x_gN 8 M1 v1 0 fun v3 =>
    x_aL M1 v3 v2 fun v4 =>
    x_gN 8 M1 v1 0 fun v5 =>
    x_aL M1 v5 v2 fun v6 =>
    x_bd (F_J13_bitCount_95d88 ((v4 &&& (-v6)) - (1 : Int64)) M1) fun v7 M2 =>
    some ((v2 * (64 : Int32)) + v7, M2)
  ) fun (k19 : Nat → Int32 → m_M → Option (Int32 × m_M)) =>
  F_X10_least_2 k19 m_FU a0 (0 : Int32) M
set_option maxHeartbeats 4000000 in
theorem L_X10_least_2 {X : j_X} {Φ : Option Value → m_M → Prop} (C : j_C X yX10_least cX10_least 2 (some .int) 2 0 0 Φ) {k19 : Nat → Int32 → m_M → Option (Int32 × m_M)} (hk19 : ∀ (p0 : Nat) (p1 : Int32) (M : m_M), m_ok e_I Φ (k19 p0 p1 M) → j_J X 2 19 [some (.ref p0), some (.int p1)] [] (0, 0) M) : ∀ (n : Nat) (v1 : Nat) (v2 : Int32) (M : m_M), m_ok e_I Φ (F_X10_least_2 k19 n v1 v2 M) → j_J X 2 2 [some (.ref v1), some (.int v2)] [] (0, 0) M := by
  have C0 := C.1
  intro n
  induction n with
  | zero => intro v1 v2 M h; exact False.elim h
  | succ n ih =>
    intro v1 v2 M h
    rw [F_X10_least_2] at h
    refine j_iload_n C0 (pc := 2) dX10_least_2 rfl ?_
    refine j_bipush C0 (pc := 3) dX10_least_3 (v := (16 : Int32)) (by decide) ?_
    refine j_icmp_ge C0 (pc := 5) (tgt := 50) dX10_least_5 (by decide) (fun hc => ?_) (fun hc => ?_)
    · replace h := (X_if h).1 hc
      refine j_iconst C0 (pc := 50) dX10_least_50 (v := (-1 : Int32)) (by decide) ?_
      exact j_iret C rfl h dX10_least_51 (by decide)
    · replace h := (X_if h).2 hc
      refine j_aload_n C0 (pc := 8) dX10_least_8 rfl ?_
      refine X_gN C0 (pc := 9) f_WS_9_8 rfl dX10_least_9 h (fun v3 h => ?_)
      refine j_iload_n C0 (pc := 12) dX10_least_12 rfl ?_
      refine X_lald C0 (pc := 13) dX10_least_13 h (fun v4 h => ?_)
      refine j_lconst C0 (pc := 14) dX10_least_14 (v := (0 : Int64)) (by decide) ?_
      refine j_lcmp C0 (pc := 15) dX10_least_15 ?_
      refine j_if_eq C0 (pc := 16) (tgt := 44) dX10_least_16 (by decide) (fun hc => ?_) (fun hc => ?_)
      · replace h := (X_if h).1 hc
        refine j_iinc C0 (pc := 44) dX10_least_44 (v := v2 + (1 : Int32)) rfl (Nat.le_of_ble_eq_true rfl) (by rfl) ?_
        refine X_let (G := fun w => j_J X 2 47 [some (.ref v1), some (.int w)] [] (0, 0) M) h (fun v5 h => ?_)
        refine j_goto C0 (pc := 47) (tgt := 2) dX10_least_47 (by decide) ?_
        exact j_J.wq (ih v1 v5 M h) (And.intro rfl (And.intro rfl (trivial)))
      · replace h := (X_if h).2 hc
        exact j_J.wq (hk19 v1 v2 M h) (And.intro rfl (And.intro rfl (trivial)))
set_option maxHeartbeats 4000000 in
theorem K_X10_least (a0 : Nat) (M : m_M) (Φ : Option Value → m_M → Prop) (h : m_ok e_I Φ (F_X10_least a0 M)) : j_Ct yX10_least cX10_least 2 (some .int) 2 0 0 [.ref a0] M Φ := by
  refine j_Ct.of (by decide +kernel) (Nat.le_of_ble_eq_true rfl) fun X C => ?_
  have C0 := C.1
  show j_J X 2 0 [some (.ref a0), none] [] (0, 0) M
  unfold F_X10_least at h
  refine j_iconst C0 (pc := 0) dX10_least_0 (v := (0 : Int32)) (by decide) ?_
  refine j_istore_n C0 (pc := 1) dX10_least_1 (Nat.le_of_ble_eq_true rfl) ?_
  show j_J X 2 2 [some (.ref a0), some (.int (0 : Int32))] [] (0, 0) M
  refine X_join (fun (kj : Nat → Int32 → m_M → Option (Int32 × m_M)) => ∀ (p0 : Nat) (p1 : Int32) (M : m_M), m_ok e_I Φ (kj p0 p1 M) → j_J X 2 19 [some (.ref p0), some (.int p1)] [] (0, 0) M) h (fun v1 v2 M1 h => ?_) (fun k19 hk19 h => ?_)
  · refine j_iload_n C0 (pc := 19) dX10_least_19 rfl ?_
    refine j_bipush C0 (pc := 20) dX10_least_20 (v := (64 : Int32)) (by decide) ?_
    refine j_imul C0 (pc := 22) dX10_least_22 ?_
    refine j_aload_n C0 (pc := 23) dX10_least_23 rfl ?_
    refine X_gN C0 (pc := 24) f_WS_9_8 rfl dX10_least_24 h (fun v3 h => ?_)
    refine j_iload_n C0 (pc := 27) dX10_least_27 rfl ?_
    refine X_lald C0 (pc := 28) dX10_least_28 h (fun v4 h => ?_)
    refine j_aload_n C0 (pc := 29) dX10_least_29 rfl ?_
    refine X_gN C0 (pc := 30) f_WS_9_8 rfl dX10_least_30 h (fun v5 h => ?_)
    refine j_iload_n C0 (pc := 33) dX10_least_33 rfl ?_
    refine X_lald C0 (pc := 34) dX10_least_34 h (fun v6 h => ?_)
    refine j_lneg C0 (pc := 35) dX10_least_35 ?_
    refine j_land C0 (pc := 36) dX10_least_36 ?_
    refine j_lconst C0 (pc := 37) dX10_least_37 (v := (1 : Int64)) (by decide) ?_
    refine j_lsub C0 (pc := 38) dX10_least_38 ?_
    refine X_cS C0 (pc := 39) (e' := e_I) (as := [.long ((v4 &&& (-v6)) - (1 : Int64))]) (rest := [.int (v2 * (64 : Int32))]) (s' := fun w => .int w :: [.int (v2 * (64 : Int32))]) (g' := (0, 0)) s_WS_33 (fun Ψ hΨ => K_J13_bitCount_95d88 ((v4 &&& (-v6)) - (1 : Int64)) M1 Ψ hΨ) rfl rfl (fun _ => rfl) (by decide) (by decide) rfl (Nat.le_of_ble_eq_true rfl) dX10_least_39 h (fun v7 M2 h => ?_)
    refine j_iadd C0 (pc := 42) dX10_least_42 ?_
    exact j_iret C rfl h dX10_least_43 (by decide)
  · exact j_J.wq (L_X10_least_2 C hk19 m_FU a0 (0 : Int32) M h) (And.intro rfl (And.intro rfl (trivial)))
theorem dX10_isEmpty_0 : decode cX10_isEmpty 0 = .ok (.aload_n 0, 1) := by decide +kernel
theorem dX10_isEmpty_1 : decode cX10_isEmpty 1 = .ok (.invokevirtual 39, 3) := by decide +kernel
theorem dX10_isEmpty_4 : decode cX10_isEmpty 4 = .ok (.iconst (-1), 1) := by decide +kernel
theorem dX10_isEmpty_5 : decode cX10_isEmpty 5 = .ok (.if_icmp .ne 7, 3) := by decide +kernel
theorem dX10_isEmpty_8 : decode cX10_isEmpty 8 = .ok (.iconst 1, 1) := by decide +kernel
theorem dX10_isEmpty_9 : decode cX10_isEmpty 9 = .ok (.goto 4, 3) := by decide +kernel
theorem dX10_isEmpty_12 : decode cX10_isEmpty 12 = .ok (.iconst 0, 1) := by decide +kernel
theorem dX10_isEmpty_13 : decode cX10_isEmpty 13 = .ok (.ireturn, 1) := by decide +kernel
noncomputable def F_X10_isEmpty (a0 : Nat) (M : m_M) : Option (Int32 × m_M) :=
  x_cV 8 M a0 (F_X10_least a0 M) fun v1 M1 =>
  if v1 = (-1 : Int32) then (
    some ((1 : Int32), M1)
  ) else
  some ((0 : Int32), M1)
set_option maxHeartbeats 4000000 in
theorem K_X10_isEmpty (a0 : Nat) (M : m_M) (Φ : Option Value → m_M → Prop) (h : m_ok e_I Φ (F_X10_isEmpty a0 M)) : j_Ct yX10_isEmpty cX10_isEmpty 1 (some .boolean) 3 0 0 [.ref a0] M Φ := by
  refine j_Ct.of (by decide +kernel) (Nat.le_of_ble_eq_true rfl) fun X C => ?_
  have C0 := C.1
  show j_J X 1 0 [some (.ref a0)] [] (0, 0) M
  unfold F_X10_isEmpty at h
  refine j_aload_n C0 (pc := 0) dX10_isEmpty_0 rfl ?_
  refine X_cV C0 (pc := 1) (e' := e_I) (as := []) (rest := []) (s' := fun w => .int w :: []) (g' := (0, 0)) v_WS_39_8 (fun Ψ hΨ => K_X10_least a0 M Ψ hΨ) rfl rfl (fun _ => rfl) (by decide) (by decide) rfl (Nat.le_of_ble_eq_true rfl) dX10_isEmpty_1 h (fun v1 M1 h => ?_)
  refine j_iconst C0 (pc := 4) dX10_isEmpty_4 (v := (-1 : Int32)) (by decide) ?_
  refine j_icmp_ne C0 (pc := 5) (tgt := 12) dX10_isEmpty_5 (by decide) (fun hc => ?_) (fun hc => ?_)
  · replace h := (X_if h).2 hc
    refine j_iconst C0 (pc := 12) dX10_isEmpty_12 (v := (0 : Int32)) (by decide) ?_
    exact j_zret C rfl (by decide) h dX10_isEmpty_13 (by decide)
  · replace h := (X_if h).1 hc
    refine j_iconst C0 (pc := 8) dX10_isEmpty_8 (v := (1 : Int32)) (by decide) ?_
    refine j_goto C0 (pc := 9) (tgt := 13) dX10_isEmpty_9 (by decide) ?_
    exact j_zret C rfl (by decide) h dX10_isEmpty_13 (by decide)
theorem dX1_leavesNothing_0 : decode cX1_leavesNothing 0 = .ok (.iconst 0, 1) := by decide +kernel
theorem dX1_leavesNothing_1 : decode cX1_leavesNothing 1 = .ok (.istore_n 3, 1) := by decide +kernel
theorem dX1_leavesNothing_2 : decode cX1_leavesNothing 2 = .ok (.iload_n 3, 1) := by decide +kernel
theorem dX1_leavesNothing_3 : decode cX1_leavesNothing 3 = .ok (.bipush 16, 2) := by decide +kernel
theorem dX1_leavesNothing_5 : decode cX1_leavesNothing 5 = .ok (.if_icmp .ge 88, 3) := by decide +kernel
theorem dX1_leavesNothing_8 : decode cX1_leavesNothing 8 = .ok (.aload_n 1, 1) := by decide +kernel
theorem dX1_leavesNothing_9 : decode cX1_leavesNothing 9 = .ok (.getfield 83, 3) := by decide +kernel
theorem dX1_leavesNothing_12 : decode cX1_leavesNothing 12 = .ok (.iload_n 3, 1) := by decide +kernel
theorem dX1_leavesNothing_13 : decode cX1_leavesNothing 13 = .ok (.laload, 1) := by decide +kernel
theorem dX1_leavesNothing_14 : decode cX1_leavesNothing 14 = .ok (.lstore 4, 2) := by decide +kernel
theorem dX1_leavesNothing_16 : decode cX1_leavesNothing 16 = .ok (.iconst 0, 1) := by decide +kernel
theorem dX1_leavesNothing_17 : decode cX1_leavesNothing 17 = .ok (.istore 6, 2) := by decide +kernel
theorem dX1_leavesNothing_19 : decode cX1_leavesNothing 19 = .ok (.lload 4, 2) := by decide +kernel
theorem dX1_leavesNothing_21 : decode cX1_leavesNothing 21 = .ok (.lconst 0, 1) := by decide +kernel
theorem dX1_leavesNothing_22 : decode cX1_leavesNothing 22 = .ok (.lcmp, 1) := by decide +kernel
theorem dX1_leavesNothing_23 : decode cX1_leavesNothing 23 = .ok (.ifCond .eq 55, 3) := by decide +kernel
theorem dX1_leavesNothing_26 : decode cX1_leavesNothing 26 = .ok (.iload 6, 2) := by decide +kernel
theorem dX1_leavesNothing_28 : decode cX1_leavesNothing 28 = .ok (.aload_n 0, 1) := by decide +kernel
theorem dX1_leavesNothing_29 : decode cX1_leavesNothing 29 = .ok (.getfield 43, 3) := by decide +kernel
theorem dX1_leavesNothing_32 : decode cX1_leavesNothing 32 = .ok (.if_icmp .ge 46, 3) := by decide +kernel
theorem dX1_leavesNothing_35 : decode cX1_leavesNothing 35 = .ok (.aload_n 0, 1) := by decide +kernel
theorem dX1_leavesNothing_36 : decode cX1_leavesNothing 36 = .ok (.iload 6, 2) := by decide +kernel
theorem dX1_leavesNothing_38 : decode cX1_leavesNothing 38 = .ok (.invokevirtual 69, 3) := by decide +kernel
theorem dX1_leavesNothing_41 : decode cX1_leavesNothing 41 = .ok (.astore 7, 2) := by decide +kernel
theorem dX1_leavesNothing_43 : decode cX1_leavesNothing 43 = .ok (.aload 7, 2) := by decide +kernel
theorem dX1_leavesNothing_45 : decode cX1_leavesNothing 45 = .ok (.ifnull 27, 3) := by decide +kernel
theorem dX1_leavesNothing_48 : decode cX1_leavesNothing 48 = .ok (.iload_n 2, 1) := by decide +kernel
theorem dX1_leavesNothing_49 : decode cX1_leavesNothing 49 = .ok (.iload 6, 2) := by decide +kernel
theorem dX1_leavesNothing_51 : decode cX1_leavesNothing 51 = .ok (.ishr, 1) := by decide +kernel
theorem dX1_leavesNothing_52 : decode cX1_leavesNothing 52 = .ok (.iconst 1, 1) := by decide +kernel
theorem dX1_leavesNothing_53 : decode cX1_leavesNothing 53 = .ok (.iand, 1) := by decide +kernel
theorem dX1_leavesNothing_54 : decode cX1_leavesNothing 54 = .ok (.ifCond .eq 18, 3) := by decide +kernel
theorem dX1_leavesNothing_57 : decode cX1_leavesNothing 57 = .ok (.lload 4, 2) := by decide +kernel
theorem dX1_leavesNothing_59 : decode cX1_leavesNothing 59 = .ok (.aload 7, 2) := by decide +kernel
theorem dX1_leavesNothing_61 : decode cX1_leavesNothing 61 = .ok (.getfield 89, 3) := by decide +kernel
theorem dX1_leavesNothing_64 : decode cX1_leavesNothing 64 = .ok (.getfield 83, 3) := by decide +kernel
theorem dX1_leavesNothing_67 : decode cX1_leavesNothing 67 = .ok (.iload_n 3, 1) := by decide +kernel
theorem dX1_leavesNothing_68 : decode cX1_leavesNothing 68 = .ok (.laload, 1) := by decide +kernel
theorem dX1_leavesNothing_69 : decode cX1_leavesNothing 69 = .ok (.land, 1) := by decide +kernel
theorem dX1_leavesNothing_70 : decode cX1_leavesNothing 70 = .ok (.lstore 4, 2) := by decide +kernel
theorem dX1_leavesNothing_72 : decode cX1_leavesNothing 72 = .ok (.iinc 6 1, 3) := by decide +kernel
theorem dX1_leavesNothing_75 : decode cX1_leavesNothing 75 = .ok (.goto (-56), 3) := by decide +kernel
theorem dX1_leavesNothing_78 : decode cX1_leavesNothing 78 = .ok (.lload 4, 2) := by decide +kernel
theorem dX1_leavesNothing_80 : decode cX1_leavesNothing 80 = .ok (.lconst 0, 1) := by decide +kernel
theorem dX1_leavesNothing_81 : decode cX1_leavesNothing 81 = .ok (.lcmp, 1) := by decide +kernel
theorem dX1_leavesNothing_82 : decode cX1_leavesNothing 82 = .ok (.ifCond .eq 5, 3) := by decide +kernel
theorem dX1_leavesNothing_85 : decode cX1_leavesNothing 85 = .ok (.iconst 0, 1) := by decide +kernel
theorem dX1_leavesNothing_86 : decode cX1_leavesNothing 86 = .ok (.ireturn, 1) := by decide +kernel
theorem dX1_leavesNothing_87 : decode cX1_leavesNothing 87 = .ok (.iinc 3 1, 3) := by decide +kernel
theorem dX1_leavesNothing_90 : decode cX1_leavesNothing 90 = .ok (.goto (-88), 3) := by decide +kernel
theorem dX1_leavesNothing_93 : decode cX1_leavesNothing 93 = .ok (.iconst 1, 1) := by decide +kernel
theorem dX1_leavesNothing_94 : decode cX1_leavesNothing 94 = .ok (.ireturn, 1) := by decide +kernel
noncomputable def F_X1_leavesNothing_19 (k78 : Nat → Nat → Int32 → Int32 → Int64 → m_M → Option (Int32 × m_M)) : Nat → Nat → Nat → Int32 → Int32 → Int64 → Int32 → m_M → Option (Int32 × m_M)
  | 0, _, _, _, _, _, _, _ => none
  | n + 1, v1, v2, v3, v4, v5, v6, M =>
    if (lg_cmp v5 (0 : Int64)) = 0 then (
      k78 v1 v2 v3 v4 v5 M
    ) else
    x_gI 1 M v1 1 fun v7 =>
    if v7 ≤ v6 then (
      k78 v1 v2 v3 v4 v5 M
    ) else
    m_let (fun (v8 : Nat) (v9 : Nat) (v10 : Int32) (v11 : Int32) (v12 : Int64) (v13 : Int32) (M1 : m_M) =>
      m_let (v13 + (1 : Int32)) fun v14 =>
      F_X1_leavesNothing_19 k78 n v8 v9 v10 v11 v12 v14 M1
    ) fun (k72 : Nat → Nat → Int32 → Int32 → Int64 → Int32 → m_M → Option (Int32 × m_M)) =>
    x_cV 1 M v1 (F_X1_saidAt v1 v6 M) fun v15 M2 =>
    x_nul v15 (
      k72 v1 v2 v3 v4 v5 v6 M2
    ) fun v16 =>
    if ((v3 >>> (v6 &&& 31)) &&& (1 : Int32)) = 0 then (
      k72 v1 v2 v3 v4 v5 v6 M2
    ) else
    x_gN 6 M2 v16 3 fun v17 =>
    x_gN 8 M2 v17 0 fun v18 =>
    x_aL M2 v18 v4 fun v19 =>
    m_let (v5 &&& v19) fun v20 =>
    k72 v1 v2 v3 v4 v20 v6 M2
noncomputable def F_X1_leavesNothing_2 : Nat → Nat → Nat → Int32 → Int32 → m_M → Option (Int32 × m_M)
  | 0, _, _, _, _, _ => none
  | n + 1, v1, v2, v3, v4, M =>
    if (16 : Int32) ≤ v4 then (
      some ((1 : Int32), M)
    ) else
    x_gN 8 M v2 0 fun v5 =>
    x_aL M v5 v4 fun v6 =>
    m_let (fun (v7 : Nat) (v8 : Nat) (v9 : Int32) (v10 : Int32) (v11 : Int64) (M1 : m_M) =>
      if (lg_cmp v11 (0 : Int64)) = 0 then (
        m_let (v10 + (1 : Int32)) fun v12 =>
        F_X1_leavesNothing_2 n v7 v8 v9 v12 M1
      ) else
      some ((0 : Int32), M1)
    ) fun (k78 : Nat → Nat → Int32 → Int32 → Int64 → m_M → Option (Int32 × m_M)) =>
    F_X1_leavesNothing_19 k78 m_FU v1 v2 v3 v4 v6 (0 : Int32) M
noncomputable def F_X1_leavesNothing (a0 : Nat) (a1 : Nat) (a2 : Int32) (M : m_M) : Option (Int32 × m_M) :=
  F_X1_leavesNothing_2 m_FU a0 a1 a2 (0 : Int32) M
set_option maxHeartbeats 4000000 in
theorem L_X1_leavesNothing_19 {X : j_X} {Φ : Option Value → m_M → Prop} (C : j_C X yX1_leavesNothing cX1_leavesNothing 8 (some .boolean) 2 0 0 Φ) {k78 : Nat → Nat → Int32 → Int32 → Int64 → m_M → Option (Int32 × m_M)} (hk78 : ∀ (p0 : Nat) (p1 : Nat) (p2 : Int32) (p3 : Int32) (p4 : Int64) (M : m_M), m_ok e_I Φ (k78 p0 p1 p2 p3 p4 M) → j_J X 8 78 [some (.ref p0), some (.ref p1), some (.int p2), some (.int p3), some (.long p4), none, none, none] [] (0, 0) M) : ∀ (n : Nat) (v1 : Nat) (v2 : Nat) (v3 : Int32) (v4 : Int32) (v5 : Int64) (v6 : Int32) (M : m_M), m_ok e_I Φ (F_X1_leavesNothing_19 k78 n v1 v2 v3 v4 v5 v6 M) → j_J X 8 19 [some (.ref v1), some (.ref v2), some (.int v3), some (.int v4), some (.long v5), none, some (.int v6), none] [] (0, 0) M := by
  have C0 := C.1
  intro n
  induction n with
  | zero => intro v1 v2 v3 v4 v5 v6 M h; exact False.elim h
  | succ n ih =>
    intro v1 v2 v3 v4 v5 v6 M h
    rw [F_X1_leavesNothing_19] at h
    refine j_lload C0 (pc := 19) dX1_leavesNothing_19 rfl ?_
    refine j_lconst C0 (pc := 21) dX1_leavesNothing_21 (v := (0 : Int64)) (by decide) ?_
    refine j_lcmp C0 (pc := 22) dX1_leavesNothing_22 ?_
    refine j_if_eq C0 (pc := 23) (tgt := 78) dX1_leavesNothing_23 (by decide) (fun hc => ?_) (fun hc => ?_)
    · replace h := (X_if h).1 hc
      exact j_J.wq (hk78 v1 v2 v3 v4 v5 M h) (And.intro rfl (And.intro rfl (And.intro rfl (And.intro rfl (And.intro rfl (trivial))))))
    · replace h := (X_if h).2 hc
      refine j_iload C0 (pc := 26) dX1_leavesNothing_26 rfl ?_
      refine j_aload_n C0 (pc := 28) dX1_leavesNothing_28 rfl ?_
      refine X_gI C0 (pc := 29) f_Book_43_1 rfl dX1_leavesNothing_29 h (fun v7 h => ?_)
      refine j_icmp_ge C0 (pc := 32) (tgt := 78) dX1_leavesNothing_32 (by decide) (fun hc => ?_) (fun hc => ?_)
      · replace h := (X_if h).1 hc
        exact j_J.wq (hk78 v1 v2 v3 v4 v5 M h) (And.intro rfl (And.intro rfl (And.intro rfl (And.intro rfl (And.intro rfl (trivial))))))
      · replace h := (X_if h).2 hc
        refine X_join (fun (kj : Nat → Nat → Int32 → Int32 → Int64 → Int32 → m_M → Option (Int32 × m_M)) => ∀ (p0 : Nat) (p1 : Nat) (p2 : Int32) (p3 : Int32) (p4 : Int64) (p5 : Int32) (M : m_M), m_ok e_I Φ (kj p0 p1 p2 p3 p4 p5 M) → j_J X 8 72 [some (.ref p0), some (.ref p1), some (.int p2), some (.int p3), some (.long p4), none, some (.int p5), none] [] (0, 0) M) h (fun v8 v9 v10 v11 v12 v13 M1 h => ?_) (fun k72 hk72 h => ?_)
        · refine j_iinc C0 (pc := 72) dX1_leavesNothing_72 (v := v13 + (1 : Int32)) rfl (Nat.le_of_ble_eq_true rfl) (by rfl) ?_
          refine X_let (G := fun w => j_J X 8 75 [some (.ref v8), some (.ref v9), some (.int v10), some (.int v11), some (.long v12), none, some (.int w), none] [] (0, 0) M1) h (fun v14 h => ?_)
          refine j_goto C0 (pc := 75) (tgt := 19) dX1_leavesNothing_75 (by decide) ?_
          exact j_J.wq (ih v8 v9 v10 v11 v12 v14 M1 h) (And.intro rfl (And.intro rfl (And.intro rfl (And.intro rfl (And.intro rfl (And.intro rfl (trivial)))))))
        · refine j_aload_n C0 (pc := 35) dX1_leavesNothing_35 rfl ?_
          refine j_iload C0 (pc := 36) dX1_leavesNothing_36 rfl ?_
          refine X_cV C0 (pc := 38) (e' := e_O) (as := [.int v6]) (rest := []) (s' := fun w => va_rf w :: []) (g' := (0, 0)) v_Book_69_1 (fun Ψ hΨ => K_X1_saidAt v1 v6 M Ψ hΨ) rfl rfl (fun _ => rfl) (by decide) (by decide) rfl (Nat.le_of_ble_eq_true rfl) dX1_leavesNothing_38 h (fun v15 M2 h => ?_)
          refine j_astoreO C0 (pc := 41) dX1_leavesNothing_41 (Nat.le_of_ble_eq_true rfl) ?_
          show j_J X 8 43 [some (.ref v1), some (.ref v2), some (.int v3), some (.int v4), some (.long v5), none, some (.int v6), some (va_rf v15)] [] (0, 0) M2
          refine j_aloadO C0 (pc := 43) dX1_leavesNothing_43 rfl ?_
          rcases v15 with _ | v16
          · refine j_ifnullN C0 (pc := 45) (tgt := 72) dX1_leavesNothing_45 (by decide) ?_
            simp only [x_nul] at h
            exact j_J.wq (hk72 v1 v2 v3 v4 v5 v6 M2 h) (And.intro rfl (And.intro rfl (And.intro rfl (And.intro rfl (And.intro rfl (And.intro rfl (trivial)))))))
          · refine j_ifnull C0 (pc := 45) dX1_leavesNothing_45 ?_
            simp only [x_nul] at h
            refine j_iload_n C0 (pc := 48) dX1_leavesNothing_48 rfl ?_
            refine j_iload C0 (pc := 49) dX1_leavesNothing_49 rfl ?_
            refine j_ishr C0 (pc := 51) dX1_leavesNothing_51 ?_
            refine j_iconst C0 (pc := 52) dX1_leavesNothing_52 (v := (1 : Int32)) (by decide) ?_
            refine j_iand C0 (pc := 53) dX1_leavesNothing_53 ?_
            refine j_if_eq C0 (pc := 54) (tgt := 72) dX1_leavesNothing_54 (by decide) (fun hc => ?_) (fun hc => ?_)
            · replace h := (X_if h).1 hc
              exact j_J.wq (hk72 v1 v2 v3 v4 v5 v6 M2 h) (And.intro rfl (And.intro rfl (And.intro rfl (And.intro rfl (And.intro rfl (And.intro rfl (trivial)))))))
            · replace h := (X_if h).2 hc
              refine j_lload C0 (pc := 57) dX1_leavesNothing_57 rfl ?_
              refine j_aload C0 (pc := 59) dX1_leavesNothing_59 rfl ?_
              refine X_gN C0 (pc := 61) f_Book_89_6 rfl dX1_leavesNothing_61 h (fun v17 h => ?_)
              refine X_gN C0 (pc := 64) f_Book_83_8 rfl dX1_leavesNothing_64 h (fun v18 h => ?_)
              refine j_iload_n C0 (pc := 67) dX1_leavesNothing_67 rfl ?_
              refine X_lald C0 (pc := 68) dX1_leavesNothing_68 h (fun v19 h => ?_)
              refine j_land C0 (pc := 69) dX1_leavesNothing_69 ?_
              refine X_let (G := fun w => j_J X 8 70 [some (.ref v1), some (.ref v2), some (.int v3), some (.int v4), some (.long v5), none, some (.int v6), some (.ref v16)] (.long w :: []) (0, 0) M2) h (fun v20 h => ?_)
              refine j_lstore C0 (pc := 70) dX1_leavesNothing_70 (Nat.le_of_ble_eq_true rfl) ?_
              show j_J X 8 72 [some (.ref v1), some (.ref v2), some (.int v3), some (.int v4), some (.long v20), none, some (.int v6), some (.ref v16)] [] (0, 0) M2
              exact j_J.wq (hk72 v1 v2 v3 v4 v20 v6 M2 h) (And.intro rfl (And.intro rfl (And.intro rfl (And.intro rfl (And.intro rfl (And.intro rfl (trivial)))))))
set_option maxHeartbeats 4000000 in
theorem L_X1_leavesNothing_2 {X : j_X} {Φ : Option Value → m_M → Prop} (C : j_C X yX1_leavesNothing cX1_leavesNothing 8 (some .boolean) 2 0 0 Φ) : ∀ (n : Nat) (v1 : Nat) (v2 : Nat) (v3 : Int32) (v4 : Int32) (M : m_M), m_ok e_I Φ (F_X1_leavesNothing_2 n v1 v2 v3 v4 M) → j_J X 8 2 [some (.ref v1), some (.ref v2), some (.int v3), some (.int v4), none, none, none, none] [] (0, 0) M := by
  have C0 := C.1
  intro n
  induction n with
  | zero => intro v1 v2 v3 v4 M h; exact False.elim h
  | succ n ih =>
    intro v1 v2 v3 v4 M h
    rw [F_X1_leavesNothing_2] at h
    refine j_iload_n C0 (pc := 2) dX1_leavesNothing_2 rfl ?_
    refine j_bipush C0 (pc := 3) dX1_leavesNothing_3 (v := (16 : Int32)) (by decide) ?_
    refine j_icmp_ge C0 (pc := 5) (tgt := 93) dX1_leavesNothing_5 (by decide) (fun hc => ?_) (fun hc => ?_)
    · replace h := (X_if h).1 hc
      refine j_iconst C0 (pc := 93) dX1_leavesNothing_93 (v := (1 : Int32)) (by decide) ?_
      exact j_zret C rfl (by decide) h dX1_leavesNothing_94 (by decide)
    · replace h := (X_if h).2 hc
      refine j_aload_n C0 (pc := 8) dX1_leavesNothing_8 rfl ?_
      refine X_gN C0 (pc := 9) f_Book_83_8 rfl dX1_leavesNothing_9 h (fun v5 h => ?_)
      refine j_iload_n C0 (pc := 12) dX1_leavesNothing_12 rfl ?_
      refine X_lald C0 (pc := 13) dX1_leavesNothing_13 h (fun v6 h => ?_)
      refine j_lstore C0 (pc := 14) dX1_leavesNothing_14 (Nat.le_of_ble_eq_true rfl) ?_
      show j_J X 8 16 [some (.ref v1), some (.ref v2), some (.int v3), some (.int v4), some (.long v6), none, none, none] [] (0, 0) M
      refine j_iconst C0 (pc := 16) dX1_leavesNothing_16 (v := (0 : Int32)) (by decide) ?_
      refine j_istore C0 (pc := 17) dX1_leavesNothing_17 (Nat.le_of_ble_eq_true rfl) ?_
      show j_J X 8 19 [some (.ref v1), some (.ref v2), some (.int v3), some (.int v4), some (.long v6), none, some (.int (0 : Int32)), none] [] (0, 0) M
      refine X_join (fun (kj : Nat → Nat → Int32 → Int32 → Int64 → m_M → Option (Int32 × m_M)) => ∀ (p0 : Nat) (p1 : Nat) (p2 : Int32) (p3 : Int32) (p4 : Int64) (M : m_M), m_ok e_I Φ (kj p0 p1 p2 p3 p4 M) → j_J X 8 78 [some (.ref p0), some (.ref p1), some (.int p2), some (.int p3), some (.long p4), none, none, none] [] (0, 0) M) h (fun v7 v8 v9 v10 v11 M1 h => ?_) (fun k78 hk78 h => ?_)
      · refine j_lload C0 (pc := 78) dX1_leavesNothing_78 rfl ?_
        refine j_lconst C0 (pc := 80) dX1_leavesNothing_80 (v := (0 : Int64)) (by decide) ?_
        refine j_lcmp C0 (pc := 81) dX1_leavesNothing_81 ?_
        refine j_if_eq C0 (pc := 82) (tgt := 87) dX1_leavesNothing_82 (by decide) (fun hc => ?_) (fun hc => ?_)
        · replace h := (X_if h).1 hc
          refine j_iinc C0 (pc := 87) dX1_leavesNothing_87 (v := v10 + (1 : Int32)) rfl (Nat.le_of_ble_eq_true rfl) (by rfl) ?_
          refine X_let (G := fun w => j_J X 8 90 [some (.ref v7), some (.ref v8), some (.int v9), some (.int w), some (.long v11), none, none, none] [] (0, 0) M1) h (fun v12 h => ?_)
          refine j_goto C0 (pc := 90) (tgt := 2) dX1_leavesNothing_90 (by decide) ?_
          exact j_J.wq (ih v7 v8 v9 v12 M1 h) (And.intro rfl (And.intro rfl (And.intro rfl (And.intro rfl (trivial)))))
        · replace h := (X_if h).2 hc
          refine j_iconst C0 (pc := 85) dX1_leavesNothing_85 (v := (0 : Int32)) (by decide) ?_
          exact j_zret C rfl (by decide) h dX1_leavesNothing_86 (by decide)
      · exact j_J.wq (L_X1_leavesNothing_19 C hk78 m_FU v1 v2 v3 v4 v6 (0 : Int32) M h) (And.intro rfl (And.intro rfl (And.intro rfl (And.intro rfl (And.intro rfl (And.intro rfl (trivial)))))))
set_option maxHeartbeats 4000000 in
theorem K_X1_leavesNothing (a0 : Nat) (a1 : Nat) (a2 : Int32) (M : m_M) (Φ : Option Value → m_M → Prop) (h : m_ok e_I Φ (F_X1_leavesNothing a0 a1 a2 M)) : j_Ct yX1_leavesNothing cX1_leavesNothing 8 (some .boolean) 2 0 0 [.ref a0, .ref a1, .int a2] M Φ := by
  refine j_Ct.of (by decide +kernel) (Nat.le_of_ble_eq_true rfl) fun X C => ?_
  have C0 := C.1
  show j_J X 8 0 [some (.ref a0), some (.ref a1), some (.int a2), none, none, none, none, none] [] (0, 0) M
  unfold F_X1_leavesNothing at h
  refine j_iconst C0 (pc := 0) dX1_leavesNothing_0 (v := (0 : Int32)) (by decide) ?_
  refine j_istore_n C0 (pc := 1) dX1_leavesNothing_1 (Nat.le_of_ble_eq_true rfl) ?_
  show j_J X 8 2 [some (.ref a0), some (.ref a1), some (.int a2), some (.int (0 : Int32)), none, none, none, none] [] (0, 0) M
  exact j_J.wq (L_X1_leavesNothing_2 C m_FU a0 a1 a2 (0 : Int32) M h) (And.intro rfl (And.intro rfl (And.intro rfl (And.intro rfl (trivial)))))
theorem dX11_clash_0 : decode cX11_clash 0 = .ok (.aload_n 0, 1) := by decide +kernel
theorem dX11_clash_1 : decode cX11_clash 1 = .ok (.invokevirtual 189, 3) := by decide +kernel
theorem dX11_clash_4 : decode cX11_clash 4 = .ok (.aload_n 0, 1) := by decide +kernel
theorem dX11_clash_5 : decode cX11_clash 5 = .ok (.getfield 80, 3) := by decide +kernel
theorem dX11_clash_8 : decode cX11_clash 8 = .ok (.invokevirtual 223, 3) := by decide +kernel
theorem dX11_clash_11 : decode cX11_clash 11 = .ok (.ifCond .ne 5, 3) := by decide +kernel
theorem dX11_clash_14 : decode cX11_clash 14 = .ok (.iconst (-1), 1) := by decide +kernel
theorem dX11_clash_15 : decode cX11_clash 15 = .ok (.ireturn, 1) := by decide +kernel
theorem dX11_clash_16 : decode cX11_clash 16 = .ok (.aload_n 0, 1) := by decide +kernel
theorem dX11_clash_17 : decode cX11_clash 17 = .ok (.invokevirtual 230, 3) := by decide +kernel
theorem dX11_clash_20 : decode cX11_clash 20 = .ok (.iconst 0, 1) := by decide +kernel
theorem dX11_clash_21 : decode cX11_clash 21 = .ok (.istore_n 1, 1) := by decide +kernel
theorem dX11_clash_22 : decode cX11_clash 22 = .ok (.bipush 13, 2) := by decide +kernel
theorem dX11_clash_24 : decode cX11_clash 24 = .ok (.istore_n 2, 1) := by decide +kernel
theorem dX11_clash_25 : decode cX11_clash 25 = .ok (.iconst 0, 1) := by decide +kernel
theorem dX11_clash_26 : decode cX11_clash 26 = .ok (.istore_n 3, 1) := by decide +kernel
theorem dX11_clash_27 : decode cX11_clash 27 = .ok (.iload_n 3, 1) := by decide +kernel
theorem dX11_clash_28 : decode cX11_clash 28 = .ok (.iconst 1, 1) := by decide +kernel
theorem dX11_clash_29 : decode cX11_clash 29 = .ok (.aload_n 0, 1) := by decide +kernel
theorem dX11_clash_30 : decode cX11_clash 30 = .ok (.getfield 65, 3) := by decide +kernel
theorem dX11_clash_33 : decode cX11_clash 33 = .ok (.getfield 116, 3) := by decide +kernel
theorem dX11_clash_36 : decode cX11_clash 36 = .ok (.ishl, 1) := by decide +kernel
theorem dX11_clash_37 : decode cX11_clash 37 = .ok (.if_icmp .ge 41, 3) := by decide +kernel
theorem dX11_clash_40 : decode cX11_clash 40 = .ok (.iload_n 3, 1) := by decide +kernel
theorem dX11_clash_41 : decode cX11_clash 41 = .ok (.invokestatic 233, 3) := by decide +kernel
theorem dX11_clash_44 : decode cX11_clash 44 = .ok (.istore 4, 2) := by decide +kernel
theorem dX11_clash_46 : decode cX11_clash 46 = .ok (.iload 4, 2) := by decide +kernel
theorem dX11_clash_48 : decode cX11_clash 48 = .ok (.iload_n 2, 1) := by decide +kernel
theorem dX11_clash_49 : decode cX11_clash 49 = .ok (.if_icmp .ge 23, 3) := by decide +kernel
theorem dX11_clash_52 : decode cX11_clash 52 = .ok (.aload_n 0, 1) := by decide +kernel
theorem dX11_clash_53 : decode cX11_clash 53 = .ok (.getfield 65, 3) := by decide +kernel
theorem dX11_clash_56 : decode cX11_clash 56 = .ok (.aload_n 0, 1) := by decide +kernel
theorem dX11_clash_57 : decode cX11_clash 57 = .ok (.getfield 80, 3) := by decide +kernel
theorem dX11_clash_60 : decode cX11_clash 60 = .ok (.iload_n 3, 1) := by decide +kernel
theorem dX11_clash_61 : decode cX11_clash 61 = .ok (.invokevirtual 238, 3) := by decide +kernel
theorem dX11_clash_64 : decode cX11_clash 64 = .ok (.ifCond .eq 8, 3) := by decide +kernel
theorem dX11_clash_67 : decode cX11_clash 67 = .ok (.iload 4, 2) := by decide +kernel
theorem dX11_clash_69 : decode cX11_clash 69 = .ok (.istore_n 2, 1) := by decide +kernel
theorem dX11_clash_70 : decode cX11_clash 70 = .ok (.iload_n 3, 1) := by decide +kernel
theorem dX11_clash_71 : decode cX11_clash 71 = .ok (.istore_n 1, 1) := by decide +kernel
theorem dX11_clash_72 : decode cX11_clash 72 = .ok (.iinc 3 1, 3) := by decide +kernel
theorem dX11_clash_75 : decode cX11_clash 75 = .ok (.goto (-48), 3) := by decide +kernel
theorem dX11_clash_78 : decode cX11_clash 78 = .ok (.iload_n 1, 1) := by decide +kernel
theorem dX11_clash_79 : decode cX11_clash 79 = .ok (.ireturn, 1) := by decide +kernel
noncomputable def F_X11_clash_27 : Nat → Nat → Int32 → Int32 → Int32 → m_M → Option (Int32 × m_M)
  | 0, _, _, _, _, _ => none
  | n + 1, v1, v2, v3, v4, M =>
    x_gN 9 M v1 9 fun v5 =>
    x_gI 1 M v5 1 fun v6 =>
    if ((1 : Int32) <<< (v6 &&& 31)) ≤ v4 then (
      some (v2, M)
    ) else
    m_let (fun (v7 : Nat) (v8 : Int32) (v9 : Int32) (v10 : Int32) (M1 : m_M) =>
      m_let (v10 + (1 : Int32)) fun v11 =>
      F_X11_clash_27 n v7 v8 v9 v11 M1
    ) fun (k72 : Nat → Int32 → Int32 → Int32 → m_M → Option (Int32 × m_M)) =>
    x_bd (F_J6_bitCount_0f7a4 v4 M) fun v12 M2 =>
    if v3 ≤ v12 then (
      k72 v1 v2 v3 v4 M2
    ) else
    x_gN 9 M2 v1 9 fun v13 =>
    x_gN 9 M2 v1 12 fun v14 =>
    x_cV 1 M2 v13 (F_X1_leavesNothing v13 v14 v4 M2) fun v15 M3 =>
    if v15 = 0 then (
      k72 v1 v2 v3 v4 M3
    ) else
    k72 v1 v4 v12 v4 M3
noncomputable def F_X11_clash (a0 : Nat) (M : m_M) : Option (Int32 × m_M) :=
  x_cV 9 M a0 (F_X11_findLeft a0 M) fun _ M1 =>
  x_gN 9 M1 a0 12 fun v1 =>
  x_cV 8 M1 v1 (F_X10_isEmpty v1 M1) fun v2 M2 =>
  if v2 = 0 then (
    some ((-1 : Int32), M2)
  ) else
  x_cV 9 M2 a0 (F_X11_findOrdersLeave a0 M2) fun _ M3 =>
  F_X11_clash_27 m_FU a0 (0 : Int32) (13 : Int32) (0 : Int32) M3
set_option maxHeartbeats 4000000 in
theorem L_X11_clash_27 {X : j_X} {Φ : Option Value → m_M → Prop} (C : j_C X yX11_clash cX11_clash 5 (some .int) 5 0 0 Φ) : ∀ (n : Nat) (v1 : Nat) (v2 : Int32) (v3 : Int32) (v4 : Int32) (M : m_M), m_ok e_I Φ (F_X11_clash_27 n v1 v2 v3 v4 M) → j_J X 5 27 [some (.ref v1), some (.int v2), some (.int v3), some (.int v4), none] [] (0, 0) M := by
  have C0 := C.1
  intro n
  induction n with
  | zero => intro v1 v2 v3 v4 M h; exact False.elim h
  | succ n ih =>
    intro v1 v2 v3 v4 M h
    rw [F_X11_clash_27] at h
    refine j_iload_n C0 (pc := 27) dX11_clash_27 rfl ?_
    refine j_iconst C0 (pc := 28) dX11_clash_28 (v := (1 : Int32)) (by decide) ?_
    refine j_aload_n C0 (pc := 29) dX11_clash_29 rfl ?_
    refine X_gN C0 (pc := 30) f_OV_65_9 rfl dX11_clash_30 h (fun v5 h => ?_)
    refine X_gI C0 (pc := 33) f_OV_116_1 rfl dX11_clash_33 h (fun v6 h => ?_)
    refine j_ishl C0 (pc := 36) dX11_clash_36 ?_
    refine j_icmp_ge C0 (pc := 37) (tgt := 78) dX11_clash_37 (by decide) (fun hc => ?_) (fun hc => ?_)
    · replace h := (X_if h).1 hc
      refine j_iload_n C0 (pc := 78) dX11_clash_78 rfl ?_
      exact j_iret C rfl h dX11_clash_79 (by decide)
    · replace h := (X_if h).2 hc
      refine X_join (fun (kj : Nat → Int32 → Int32 → Int32 → m_M → Option (Int32 × m_M)) => ∀ (p0 : Nat) (p1 : Int32) (p2 : Int32) (p3 : Int32) (M : m_M), m_ok e_I Φ (kj p0 p1 p2 p3 M) → j_J X 5 72 [some (.ref p0), some (.int p1), some (.int p2), some (.int p3), none] [] (0, 0) M) h (fun v7 v8 v9 v10 M1 h => ?_) (fun k72 hk72 h => ?_)
      · refine j_iinc C0 (pc := 72) dX11_clash_72 (v := v10 + (1 : Int32)) rfl (Nat.le_of_ble_eq_true rfl) (by rfl) ?_
        refine X_let (G := fun w => j_J X 5 75 [some (.ref v7), some (.int v8), some (.int v9), some (.int w), none] [] (0, 0) M1) h (fun v11 h => ?_)
        refine j_goto C0 (pc := 75) (tgt := 27) dX11_clash_75 (by decide) ?_
        exact j_J.wq (ih v7 v8 v9 v11 M1 h) (And.intro rfl (And.intro rfl (And.intro rfl (And.intro rfl (trivial)))))
      · refine j_iload_n C0 (pc := 40) dX11_clash_40 rfl ?_
        refine X_cS C0 (pc := 41) (e' := e_I) (as := [.int v4]) (rest := []) (s' := fun w => .int w :: []) (g' := (0, 0)) s_OV_233 (fun Ψ hΨ => K_J6_bitCount_0f7a4 v4 M Ψ hΨ) rfl rfl (fun _ => rfl) (by decide) (by decide) rfl (Nat.le_of_ble_eq_true rfl) dX11_clash_41 h (fun v12 M2 h => ?_)
        refine j_istore C0 (pc := 44) dX11_clash_44 (Nat.le_of_ble_eq_true rfl) ?_
        show j_J X 5 46 [some (.ref v1), some (.int v2), some (.int v3), some (.int v4), some (.int v12)] [] (0, 0) M2
        refine j_iload C0 (pc := 46) dX11_clash_46 rfl ?_
        refine j_iload_n C0 (pc := 48) dX11_clash_48 rfl ?_
        refine j_icmp_ge C0 (pc := 49) (tgt := 72) dX11_clash_49 (by decide) (fun hc => ?_) (fun hc => ?_)
        · replace h := (X_if h).1 hc
          exact j_J.wq (hk72 v1 v2 v3 v4 M2 h) (And.intro rfl (And.intro rfl (And.intro rfl (And.intro rfl (trivial)))))
        · replace h := (X_if h).2 hc
          refine j_aload_n C0 (pc := 52) dX11_clash_52 rfl ?_
          refine X_gN C0 (pc := 53) f_OV_65_9 rfl dX11_clash_53 h (fun v13 h => ?_)
          refine j_aload_n C0 (pc := 56) dX11_clash_56 rfl ?_
          refine X_gN C0 (pc := 57) f_OV_80_9 rfl dX11_clash_57 h (fun v14 h => ?_)
          refine j_iload_n C0 (pc := 60) dX11_clash_60 rfl ?_
          refine X_cV C0 (pc := 61) (e' := e_I) (as := [.ref v14, .int v4]) (rest := []) (s' := fun w => .int w :: []) (g' := (0, 0)) v_OV_238_1 (fun Ψ hΨ => K_X1_leavesNothing v13 v14 v4 M2 Ψ hΨ) rfl rfl (fun _ => rfl) (by decide) (by decide) rfl (Nat.le_of_ble_eq_true rfl) dX11_clash_61 h (fun v15 M3 h => ?_)
          refine j_if_eq C0 (pc := 64) (tgt := 72) dX11_clash_64 (by decide) (fun hc => ?_) (fun hc => ?_)
          · replace h := (X_if h).1 hc
            exact j_J.wq (hk72 v1 v2 v3 v4 M3 h) (And.intro rfl (And.intro rfl (And.intro rfl (And.intro rfl (trivial)))))
          · replace h := (X_if h).2 hc
            refine j_iload C0 (pc := 67) dX11_clash_67 rfl ?_
            refine j_istore_n C0 (pc := 69) dX11_clash_69 (Nat.le_of_ble_eq_true rfl) ?_
            show j_J X 5 70 [some (.ref v1), some (.int v2), some (.int v12), some (.int v4), some (.int v12)] [] (0, 0) M3
            refine j_iload_n C0 (pc := 70) dX11_clash_70 rfl ?_
            refine j_istore_n C0 (pc := 71) dX11_clash_71 (Nat.le_of_ble_eq_true rfl) ?_
            show j_J X 5 72 [some (.ref v1), some (.int v4), some (.int v12), some (.int v4), some (.int v12)] [] (0, 0) M3
            exact j_J.wq (hk72 v1 v4 v12 v4 M3 h) (And.intro rfl (And.intro rfl (And.intro rfl (And.intro rfl (trivial)))))
set_option maxHeartbeats 4000000 in
theorem K_X11_clash (a0 : Nat) (M : m_M) (Φ : Option Value → m_M → Prop) (h : m_ok e_I Φ (F_X11_clash a0 M)) : j_Ct yX11_clash cX11_clash 5 (some .int) 5 0 0 [.ref a0] M Φ := by
  refine j_Ct.of (by decide +kernel) (Nat.le_of_ble_eq_true rfl) fun X C => ?_
  have C0 := C.1
  show j_J X 5 0 [some (.ref a0), none, none, none, none] [] (0, 0) M
  unfold F_X11_clash at h
  refine j_aload_n C0 (pc := 0) dX11_clash_0 rfl ?_
  refine X_cV C0 (pc := 1) (e' := e_V) (as := []) (rest := []) (s' := fun _ => []) (g' := (0, 0)) v_OV_189_9 (fun Ψ hΨ => K_X11_findLeft a0 M Ψ hΨ) rfl rfl (fun _ => rfl) (by decide) (by decide) rfl (Nat.le_of_ble_eq_true rfl) dX11_clash_1 h (fun _ M1 h => ?_)
  refine j_aload_n C0 (pc := 4) dX11_clash_4 rfl ?_
  refine X_gN C0 (pc := 5) f_OV_80_9 rfl dX11_clash_5 h (fun v1 h => ?_)
  refine X_cV C0 (pc := 8) (e' := e_I) (as := []) (rest := []) (s' := fun w => .int w :: []) (g' := (0, 0)) v_OV_223_8 (fun Ψ hΨ => K_X10_isEmpty v1 M1 Ψ hΨ) rfl rfl (fun _ => rfl) (by decide) (by decide) rfl (Nat.le_of_ble_eq_true rfl) dX11_clash_8 h (fun v2 M2 h => ?_)
  refine j_if_ne C0 (pc := 11) (tgt := 16) dX11_clash_11 (by decide) (fun hc => ?_) (fun hc => ?_)
  · replace h := (X_if h).2 hc
    refine j_aload_n C0 (pc := 16) dX11_clash_16 rfl ?_
    refine X_cV C0 (pc := 17) (e' := e_V) (as := []) (rest := []) (s' := fun _ => []) (g' := (0, 0)) v_OV_230_9 (fun Ψ hΨ => K_X11_findOrdersLeave a0 M2 Ψ hΨ) rfl rfl (fun _ => rfl) (by decide) (by decide) rfl (Nat.le_of_ble_eq_true rfl) dX11_clash_17 h (fun _ M3 h => ?_)
    refine j_iconst C0 (pc := 20) dX11_clash_20 (v := (0 : Int32)) (by decide) ?_
    refine j_istore_n C0 (pc := 21) dX11_clash_21 (Nat.le_of_ble_eq_true rfl) ?_
    show j_J X 5 22 [some (.ref a0), some (.int (0 : Int32)), none, none, none] [] (0, 0) M3
    refine j_bipush C0 (pc := 22) dX11_clash_22 (v := (13 : Int32)) (by decide) ?_
    refine j_istore_n C0 (pc := 24) dX11_clash_24 (Nat.le_of_ble_eq_true rfl) ?_
    show j_J X 5 25 [some (.ref a0), some (.int (0 : Int32)), some (.int (13 : Int32)), none, none] [] (0, 0) M3
    refine j_iconst C0 (pc := 25) dX11_clash_25 (v := (0 : Int32)) (by decide) ?_
    refine j_istore_n C0 (pc := 26) dX11_clash_26 (Nat.le_of_ble_eq_true rfl) ?_
    show j_J X 5 27 [some (.ref a0), some (.int (0 : Int32)), some (.int (13 : Int32)), some (.int (0 : Int32)), none] [] (0, 0) M3
    exact j_J.wq (L_X11_clash_27 C m_FU a0 (0 : Int32) (13 : Int32) (0 : Int32) M3 h) (And.intro rfl (And.intro rfl (And.intro rfl (And.intro rfl (trivial)))))
  · replace h := (X_if h).1 hc
    refine j_iconst C0 (pc := 14) dX11_clash_14 (v := (-1 : Int32)) (by decide) ?_
    exact j_iret C rfl h dX11_clash_15 (by decide)
theorem dX11_count_0 : decode cX11_count 0 = .ok (.iload_n 1, 1) := by decide +kernel
theorem dX11_count_1 : decode cX11_count 1 = .ok (.tableswitch 196 0 13 #[71, 79, 89, 99, 109, 119, 127, 135, 143, 151, 167, 175, 183, 191], 71) := by decide +kernel
theorem dX11_count_72 : decode cX11_count 72 = .ok (.aload_n 0, 1) := by decide +kernel
theorem dX11_count_73 : decode cX11_count 73 = .ok (.getfield 16, 3) := by decide +kernel
theorem dX11_count_76 : decode cX11_count 76 = .ok (.getfield 325, 3) := by decide +kernel
theorem dX11_count_79 : decode cX11_count 79 = .ok (.ireturn, 1) := by decide +kernel
theorem dX11_count_80 : decode cX11_count 80 = .ok (.aload_n 0, 1) := by decide +kernel
theorem dX11_count_81 : decode cX11_count 81 = .ok (.getfield 16, 3) := by decide +kernel
theorem dX11_count_84 : decode cX11_count 84 = .ok (.getfield 279, 3) := by decide +kernel
theorem dX11_count_87 : decode cX11_count 87 = .ok (.iconst 0, 1) := by decide +kernel
theorem dX11_count_88 : decode cX11_count 88 = .ok (.iaload, 1) := by decide +kernel
theorem dX11_count_89 : decode cX11_count 89 = .ok (.ireturn, 1) := by decide +kernel
theorem dX11_count_90 : decode cX11_count 90 = .ok (.aload_n 0, 1) := by decide +kernel
theorem dX11_count_91 : decode cX11_count 91 = .ok (.getfield 16, 3) := by decide +kernel
theorem dX11_count_94 : decode cX11_count 94 = .ok (.getfield 279, 3) := by decide +kernel
theorem dX11_count_97 : decode cX11_count 97 = .ok (.iconst 1, 1) := by decide +kernel
theorem dX11_count_98 : decode cX11_count 98 = .ok (.iaload, 1) := by decide +kernel
theorem dX11_count_99 : decode cX11_count 99 = .ok (.ireturn, 1) := by decide +kernel
theorem dX11_count_100 : decode cX11_count 100 = .ok (.aload_n 0, 1) := by decide +kernel
theorem dX11_count_101 : decode cX11_count 101 = .ok (.getfield 16, 3) := by decide +kernel
theorem dX11_count_104 : decode cX11_count 104 = .ok (.getfield 279, 3) := by decide +kernel
theorem dX11_count_107 : decode cX11_count 107 = .ok (.iconst 2, 1) := by decide +kernel
theorem dX11_count_108 : decode cX11_count 108 = .ok (.iaload, 1) := by decide +kernel
theorem dX11_count_109 : decode cX11_count 109 = .ok (.ireturn, 1) := by decide +kernel
theorem dX11_count_110 : decode cX11_count 110 = .ok (.aload_n 0, 1) := by decide +kernel
theorem dX11_count_111 : decode cX11_count 111 = .ok (.getfield 16, 3) := by decide +kernel
theorem dX11_count_114 : decode cX11_count 114 = .ok (.getfield 279, 3) := by decide +kernel
theorem dX11_count_117 : decode cX11_count 117 = .ok (.iconst 3, 1) := by decide +kernel
theorem dX11_count_118 : decode cX11_count 118 = .ok (.iaload, 1) := by decide +kernel
theorem dX11_count_119 : decode cX11_count 119 = .ok (.ireturn, 1) := by decide +kernel
theorem dX11_count_120 : decode cX11_count 120 = .ok (.aload_n 0, 1) := by decide +kernel
theorem dX11_count_121 : decode cX11_count 121 = .ok (.getfield 16, 3) := by decide +kernel
theorem dX11_count_124 : decode cX11_count 124 = .ok (.getfield 328, 3) := by decide +kernel
theorem dX11_count_127 : decode cX11_count 127 = .ok (.ireturn, 1) := by decide +kernel
theorem dX11_count_128 : decode cX11_count 128 = .ok (.aload_n 0, 1) := by decide +kernel
theorem dX11_count_129 : decode cX11_count 129 = .ok (.getfield 65, 3) := by decide +kernel
theorem dX11_count_132 : decode cX11_count 132 = .ok (.getfield 119, 3) := by decide +kernel
theorem dX11_count_135 : decode cX11_count 135 = .ok (.ireturn, 1) := by decide +kernel
theorem dX11_count_136 : decode cX11_count 136 = .ok (.aload_n 0, 1) := by decide +kernel
theorem dX11_count_137 : decode cX11_count 137 = .ok (.getfield 65, 3) := by decide +kernel
theorem dX11_count_140 : decode cX11_count 140 = .ok (.getfield 116, 3) := by decide +kernel
theorem dX11_count_143 : decode cX11_count 143 = .ok (.ireturn, 1) := by decide +kernel
theorem dX11_count_144 : decode cX11_count 144 = .ok (.aload_n 0, 1) := by decide +kernel
theorem dX11_count_145 : decode cX11_count 145 = .ok (.getfield 65, 3) := by decide +kernel
theorem dX11_count_148 : decode cX11_count 148 = .ok (.getfield 130, 3) := by decide +kernel
theorem dX11_count_151 : decode cX11_count 151 = .ok (.ireturn, 1) := by decide +kernel
theorem dX11_count_152 : decode cX11_count 152 = .ok (.aload_n 0, 1) := by decide +kernel
theorem dX11_count_153 : decode cX11_count 153 = .ok (.getfield 65, 3) := by decide +kernel
theorem dX11_count_156 : decode cX11_count 156 = .ok (.invokevirtual 205, 3) := by decide +kernel
theorem dX11_count_159 : decode cX11_count 159 = .ok (.ifCond .eq 7, 3) := by decide +kernel
theorem dX11_count_162 : decode cX11_count 162 = .ok (.iconst 1, 1) := by decide +kernel
theorem dX11_count_163 : decode cX11_count 163 = .ok (.goto 4, 3) := by decide +kernel
theorem dX11_count_166 : decode cX11_count 166 = .ok (.iconst 0, 1) := by decide +kernel
theorem dX11_count_167 : decode cX11_count 167 = .ok (.ireturn, 1) := by decide +kernel
theorem dX11_count_168 : decode cX11_count 168 = .ok (.aload_n 0, 1) := by decide +kernel
theorem dX11_count_169 : decode cX11_count 169 = .ok (.getfield 65, 3) := by decide +kernel
theorem dX11_count_172 : decode cX11_count 172 = .ok (.getfield 331, 3) := by decide +kernel
theorem dX11_count_175 : decode cX11_count 175 = .ok (.ireturn, 1) := by decide +kernel
theorem dX11_count_176 : decode cX11_count 176 = .ok (.aload_n 0, 1) := by decide +kernel
theorem dX11_count_177 : decode cX11_count 177 = .ok (.getfield 65, 3) := by decide +kernel
theorem dX11_count_180 : decode cX11_count 180 = .ok (.getfield 334, 3) := by decide +kernel
theorem dX11_count_183 : decode cX11_count 183 = .ok (.ireturn, 1) := by decide +kernel
theorem dX11_count_184 : decode cX11_count 184 = .ok (.aload_n 0, 1) := by decide +kernel
theorem dX11_count_185 : decode cX11_count 185 = .ok (.getfield 16, 3) := by decide +kernel
theorem dX11_count_188 : decode cX11_count 188 = .ok (.getfield 337, 3) := by decide +kernel
theorem dX11_count_191 : decode cX11_count 191 = .ok (.ireturn, 1) := by decide +kernel
theorem dX11_count_192 : decode cX11_count 192 = .ok (.aload_n 0, 1) := by decide +kernel
theorem dX11_count_193 : decode cX11_count 193 = .ok (.getfield 94, 3) := by decide +kernel
theorem dX11_count_196 : decode cX11_count 196 = .ok (.ireturn, 1) := by decide +kernel
theorem dX11_count_197 : decode cX11_count 197 = .ok (.iconst (-1), 1) := by decide +kernel
theorem dX11_count_198 : decode cX11_count 198 = .ok (.ireturn, 1) := by decide +kernel
noncomputable def F_X11_count (a0 : Nat) (a1 : Int32) (M : m_M) : Option (Int32 × m_M) :=
  if a1 = (0 : Int32) then (
    x_gN 9 M a0 2 fun v1 =>
    x_gI 3 M v1 0 fun v2 =>
    some (v2, M)
  ) else
  if a1 = (1 : Int32) then (
    x_gN 9 M a0 2 fun v3 =>
    x_gN 3 M v3 6 fun v4 =>
    x_aI 12 M v4 (0 : Int32) fun v5 =>
    some (v5, M)
  ) else
  if a1 = (2 : Int32) then (
    x_gN 9 M a0 2 fun v6 =>
    x_gN 3 M v6 6 fun v7 =>
    x_aI 12 M v7 (1 : Int32) fun v8 =>
    some (v8, M)
  ) else
  if a1 = (3 : Int32) then (
    x_gN 9 M a0 2 fun v9 =>
    x_gN 3 M v9 6 fun v10 =>
    x_aI 12 M v10 (2 : Int32) fun v11 =>
    some (v11, M)
  ) else
  if a1 = (4 : Int32) then (
    x_gN 9 M a0 2 fun v12 =>
    x_gN 3 M v12 6 fun v13 =>
    x_aI 12 M v13 (3 : Int32) fun v14 =>
    some (v14, M)
  ) else
  if a1 = (5 : Int32) then (
    x_gN 9 M a0 2 fun v15 =>
    x_gI 3 M v15 2 fun v16 =>
    some (v16, M)
  ) else
  if a1 = (6 : Int32) then (
    x_gN 9 M a0 9 fun v17 =>
    x_gI 1 M v17 0 fun v18 =>
    some (v18, M)
  ) else
  if a1 = (7 : Int32) then (
    x_gN 9 M a0 9 fun v19 =>
    x_gI 1 M v19 1 fun v20 =>
    some (v20, M)
  ) else
  if a1 = (8 : Int32) then (
    x_gN 9 M a0 9 fun v21 =>
    x_gI 1 M v21 2 fun v22 =>
    some (v22, M)
  ) else
  if a1 = (9 : Int32) then (
    x_gN 9 M a0 9 fun v23 =>
    x_cV 1 M v23 (F_X1_hasAsked v23 M) fun v24 M1 =>
    if v24 = 0 then (
      some ((0 : Int32), M1)
    ) else
    some ((1 : Int32), M1)
  ) else
  if a1 = (10 : Int32) then (
    x_gN 9 M a0 9 fun v25 =>
    x_gI 1 M v25 3 fun v26 =>
    some (v26, M)
  ) else
  if a1 = (11 : Int32) then (
    x_gN 9 M a0 9 fun v27 =>
    x_gI 1 M v27 4 fun v28 =>
    some (v28, M)
  ) else
  if a1 = (12 : Int32) then (
    x_gN 9 M a0 2 fun v29 =>
    x_gI 3 M v29 1 fun v30 =>
    some (v30, M)
  ) else
  if a1 = (13 : Int32) then (
    x_gI 9 M a0 1 fun v31 =>
    some (v31, M)
  ) else
  some ((-1 : Int32), M)
set_option maxHeartbeats 4000000 in
theorem K_X11_count (a0 : Nat) (a1 : Int32) (M : m_M) (Φ : Option Value → m_M → Prop) (h : m_ok e_I Φ (F_X11_count a0 a1 M)) : j_Ct yX11_count cX11_count 2 (some .int) 2 0 0 [.ref a0, .int a1] M Φ := by
  refine j_Ct.of (by decide +kernel) (Nat.le_of_ble_eq_true rfl) fun X C => ?_
  have C0 := C.1
  show j_J X 2 0 [some (.ref a0), some (.int a1)] [] (0, 0) M
  unfold F_X11_count at h
  refine j_iload_n C0 (pc := 0) dX11_count_0 rfl ?_
  by_cases hc : a1 = (0 : Int32)
  · replace h := (X_if h).1 hc
    refine j_tableIn C0 (pc := 1) (off := 71) (tgt := 72) dX11_count_1 (by rw [hc]; decide) (by rw [hc]; decide) (by rw [hc]; decide) (by decide) ?_
    refine j_aload_n C0 (pc := 72) dX11_count_72 rfl ?_
    refine X_gN C0 (pc := 73) f_OV_16_9 rfl dX11_count_73 h (fun v1 h => ?_)
    refine X_gI C0 (pc := 76) f_OV_325_3 rfl dX11_count_76 h (fun v2 h => ?_)
    exact j_iret C rfl h dX11_count_79 (by decide)
  · replace h := (X_if h).2 hc
    have hn0 : ¬ a1 = Int32.ofInt (0) := hc
    by_cases hc : a1 = (1 : Int32)
    · replace h := (X_if h).1 hc
      refine j_tableIn C0 (pc := 1) (off := 79) (tgt := 80) dX11_count_1 (by rw [hc]; decide) (by rw [hc]; decide) (by rw [hc]; decide) (by decide) ?_
      refine j_aload_n C0 (pc := 80) dX11_count_80 rfl ?_
      refine X_gN C0 (pc := 81) f_OV_16_9 rfl dX11_count_81 h (fun v3 h => ?_)
      refine X_gN C0 (pc := 84) f_OV_279_3 rfl dX11_count_84 h (fun v4 h => ?_)
      refine j_iconst C0 (pc := 87) dX11_count_87 (v := (0 : Int32)) (by decide) ?_
      refine X_iald C0 (pc := 88) dX11_count_88 h (fun v5 h => ?_)
      exact j_iret C rfl h dX11_count_89 (by decide)
    · replace h := (X_if h).2 hc
      have hn1 : ¬ a1 = Int32.ofInt (1) := hc
      by_cases hc : a1 = (2 : Int32)
      · replace h := (X_if h).1 hc
        refine j_tableIn C0 (pc := 1) (off := 89) (tgt := 90) dX11_count_1 (by rw [hc]; decide) (by rw [hc]; decide) (by rw [hc]; decide) (by decide) ?_
        refine j_aload_n C0 (pc := 90) dX11_count_90 rfl ?_
        refine X_gN C0 (pc := 91) f_OV_16_9 rfl dX11_count_91 h (fun v6 h => ?_)
        refine X_gN C0 (pc := 94) f_OV_279_3 rfl dX11_count_94 h (fun v7 h => ?_)
        refine j_iconst C0 (pc := 97) dX11_count_97 (v := (1 : Int32)) (by decide) ?_
        refine X_iald C0 (pc := 98) dX11_count_98 h (fun v8 h => ?_)
        exact j_iret C rfl h dX11_count_99 (by decide)
      · replace h := (X_if h).2 hc
        have hn2 : ¬ a1 = Int32.ofInt (2) := hc
        by_cases hc : a1 = (3 : Int32)
        · replace h := (X_if h).1 hc
          refine j_tableIn C0 (pc := 1) (off := 99) (tgt := 100) dX11_count_1 (by rw [hc]; decide) (by rw [hc]; decide) (by rw [hc]; decide) (by decide) ?_
          refine j_aload_n C0 (pc := 100) dX11_count_100 rfl ?_
          refine X_gN C0 (pc := 101) f_OV_16_9 rfl dX11_count_101 h (fun v9 h => ?_)
          refine X_gN C0 (pc := 104) f_OV_279_3 rfl dX11_count_104 h (fun v10 h => ?_)
          refine j_iconst C0 (pc := 107) dX11_count_107 (v := (2 : Int32)) (by decide) ?_
          refine X_iald C0 (pc := 108) dX11_count_108 h (fun v11 h => ?_)
          exact j_iret C rfl h dX11_count_109 (by decide)
        · replace h := (X_if h).2 hc
          have hn3 : ¬ a1 = Int32.ofInt (3) := hc
          by_cases hc : a1 = (4 : Int32)
          · replace h := (X_if h).1 hc
            refine j_tableIn C0 (pc := 1) (off := 109) (tgt := 110) dX11_count_1 (by rw [hc]; decide) (by rw [hc]; decide) (by rw [hc]; decide) (by decide) ?_
            refine j_aload_n C0 (pc := 110) dX11_count_110 rfl ?_
            refine X_gN C0 (pc := 111) f_OV_16_9 rfl dX11_count_111 h (fun v12 h => ?_)
            refine X_gN C0 (pc := 114) f_OV_279_3 rfl dX11_count_114 h (fun v13 h => ?_)
            refine j_iconst C0 (pc := 117) dX11_count_117 (v := (3 : Int32)) (by decide) ?_
            refine X_iald C0 (pc := 118) dX11_count_118 h (fun v14 h => ?_)
            exact j_iret C rfl h dX11_count_119 (by decide)
          · replace h := (X_if h).2 hc
            have hn4 : ¬ a1 = Int32.ofInt (4) := hc
            by_cases hc : a1 = (5 : Int32)
            · replace h := (X_if h).1 hc
              refine j_tableIn C0 (pc := 1) (off := 119) (tgt := 120) dX11_count_1 (by rw [hc]; decide) (by rw [hc]; decide) (by rw [hc]; decide) (by decide) ?_
              refine j_aload_n C0 (pc := 120) dX11_count_120 rfl ?_
              refine X_gN C0 (pc := 121) f_OV_16_9 rfl dX11_count_121 h (fun v15 h => ?_)
              refine X_gI C0 (pc := 124) f_OV_328_3 rfl dX11_count_124 h (fun v16 h => ?_)
              exact j_iret C rfl h dX11_count_127 (by decide)
            · replace h := (X_if h).2 hc
              have hn5 : ¬ a1 = Int32.ofInt (5) := hc
              by_cases hc : a1 = (6 : Int32)
              · replace h := (X_if h).1 hc
                refine j_tableIn C0 (pc := 1) (off := 127) (tgt := 128) dX11_count_1 (by rw [hc]; decide) (by rw [hc]; decide) (by rw [hc]; decide) (by decide) ?_
                refine j_aload_n C0 (pc := 128) dX11_count_128 rfl ?_
                refine X_gN C0 (pc := 129) f_OV_65_9 rfl dX11_count_129 h (fun v17 h => ?_)
                refine X_gI C0 (pc := 132) f_OV_119_1 rfl dX11_count_132 h (fun v18 h => ?_)
                exact j_iret C rfl h dX11_count_135 (by decide)
              · replace h := (X_if h).2 hc
                have hn6 : ¬ a1 = Int32.ofInt (6) := hc
                by_cases hc : a1 = (7 : Int32)
                · replace h := (X_if h).1 hc
                  refine j_tableIn C0 (pc := 1) (off := 135) (tgt := 136) dX11_count_1 (by rw [hc]; decide) (by rw [hc]; decide) (by rw [hc]; decide) (by decide) ?_
                  refine j_aload_n C0 (pc := 136) dX11_count_136 rfl ?_
                  refine X_gN C0 (pc := 137) f_OV_65_9 rfl dX11_count_137 h (fun v19 h => ?_)
                  refine X_gI C0 (pc := 140) f_OV_116_1 rfl dX11_count_140 h (fun v20 h => ?_)
                  exact j_iret C rfl h dX11_count_143 (by decide)
                · replace h := (X_if h).2 hc
                  have hn7 : ¬ a1 = Int32.ofInt (7) := hc
                  by_cases hc : a1 = (8 : Int32)
                  · replace h := (X_if h).1 hc
                    refine j_tableIn C0 (pc := 1) (off := 143) (tgt := 144) dX11_count_1 (by rw [hc]; decide) (by rw [hc]; decide) (by rw [hc]; decide) (by decide) ?_
                    refine j_aload_n C0 (pc := 144) dX11_count_144 rfl ?_
                    refine X_gN C0 (pc := 145) f_OV_65_9 rfl dX11_count_145 h (fun v21 h => ?_)
                    refine X_gI C0 (pc := 148) f_OV_130_1 rfl dX11_count_148 h (fun v22 h => ?_)
                    exact j_iret C rfl h dX11_count_151 (by decide)
                  · replace h := (X_if h).2 hc
                    have hn8 : ¬ a1 = Int32.ofInt (8) := hc
                    by_cases hc : a1 = (9 : Int32)
                    · replace h := (X_if h).1 hc
                      refine j_tableIn C0 (pc := 1) (off := 151) (tgt := 152) dX11_count_1 (by rw [hc]; decide) (by rw [hc]; decide) (by rw [hc]; decide) (by decide) ?_
                      refine j_aload_n C0 (pc := 152) dX11_count_152 rfl ?_
                      refine X_gN C0 (pc := 153) f_OV_65_9 rfl dX11_count_153 h (fun v23 h => ?_)
                      refine X_cV C0 (pc := 156) (e' := e_I) (as := []) (rest := []) (s' := fun w => .int w :: []) (g' := (0, 0)) v_OV_205_1 (fun Ψ hΨ => K_X1_hasAsked v23 M Ψ hΨ) rfl rfl (fun _ => rfl) (by decide) (by decide) rfl (Nat.le_of_ble_eq_true rfl) dX11_count_156 h (fun v24 M1 h => ?_)
                      refine j_if_eq C0 (pc := 159) (tgt := 166) dX11_count_159 (by decide) (fun hc => ?_) (fun hc => ?_)
                      · replace h := (X_if h).1 hc
                        refine j_iconst C0 (pc := 166) dX11_count_166 (v := (0 : Int32)) (by decide) ?_
                        exact j_iret C rfl h dX11_count_167 (by decide)
                      · replace h := (X_if h).2 hc
                        refine j_iconst C0 (pc := 162) dX11_count_162 (v := (1 : Int32)) (by decide) ?_
                        refine j_goto C0 (pc := 163) (tgt := 167) dX11_count_163 (by decide) ?_
                        exact j_iret C rfl h dX11_count_167 (by decide)
                    · replace h := (X_if h).2 hc
                      have hn9 : ¬ a1 = Int32.ofInt (9) := hc
                      by_cases hc : a1 = (10 : Int32)
                      · replace h := (X_if h).1 hc
                        refine j_tableIn C0 (pc := 1) (off := 167) (tgt := 168) dX11_count_1 (by rw [hc]; decide) (by rw [hc]; decide) (by rw [hc]; decide) (by decide) ?_
                        refine j_aload_n C0 (pc := 168) dX11_count_168 rfl ?_
                        refine X_gN C0 (pc := 169) f_OV_65_9 rfl dX11_count_169 h (fun v25 h => ?_)
                        refine X_gI C0 (pc := 172) f_OV_331_1 rfl dX11_count_172 h (fun v26 h => ?_)
                        exact j_iret C rfl h dX11_count_175 (by decide)
                      · replace h := (X_if h).2 hc
                        have hn10 : ¬ a1 = Int32.ofInt (10) := hc
                        by_cases hc : a1 = (11 : Int32)
                        · replace h := (X_if h).1 hc
                          refine j_tableIn C0 (pc := 1) (off := 175) (tgt := 176) dX11_count_1 (by rw [hc]; decide) (by rw [hc]; decide) (by rw [hc]; decide) (by decide) ?_
                          refine j_aload_n C0 (pc := 176) dX11_count_176 rfl ?_
                          refine X_gN C0 (pc := 177) f_OV_65_9 rfl dX11_count_177 h (fun v27 h => ?_)
                          refine X_gI C0 (pc := 180) f_OV_334_1 rfl dX11_count_180 h (fun v28 h => ?_)
                          exact j_iret C rfl h dX11_count_183 (by decide)
                        · replace h := (X_if h).2 hc
                          have hn11 : ¬ a1 = Int32.ofInt (11) := hc
                          by_cases hc : a1 = (12 : Int32)
                          · replace h := (X_if h).1 hc
                            refine j_tableIn C0 (pc := 1) (off := 183) (tgt := 184) dX11_count_1 (by rw [hc]; decide) (by rw [hc]; decide) (by rw [hc]; decide) (by decide) ?_
                            refine j_aload_n C0 (pc := 184) dX11_count_184 rfl ?_
                            refine X_gN C0 (pc := 185) f_OV_16_9 rfl dX11_count_185 h (fun v29 h => ?_)
                            refine X_gI C0 (pc := 188) f_OV_337_3 rfl dX11_count_188 h (fun v30 h => ?_)
                            exact j_iret C rfl h dX11_count_191 (by decide)
                          · replace h := (X_if h).2 hc
                            have hn12 : ¬ a1 = Int32.ofInt (12) := hc
                            by_cases hc : a1 = (13 : Int32)
                            · replace h := (X_if h).1 hc
                              refine j_tableIn C0 (pc := 1) (off := 191) (tgt := 192) dX11_count_1 (by rw [hc]; decide) (by rw [hc]; decide) (by rw [hc]; decide) (by decide) ?_
                              refine j_aload_n C0 (pc := 192) dX11_count_192 rfl ?_
                              refine X_gI C0 (pc := 193) f_OV_94_9 rfl dX11_count_193 h (fun v31 h => ?_)
                              exact j_iret C rfl h dX11_count_196 (by decide)
                            · replace h := (X_if h).2 hc
                              have hn13 : ¬ a1 = Int32.ofInt (13) := hc
                              have q0 := m_sw (k := 0) hn0
                              have q1 := m_sw (k := 1) hn1
                              have q2 := m_sw (k := 2) hn2
                              have q3 := m_sw (k := 3) hn3
                              have q4 := m_sw (k := 4) hn4
                              have q5 := m_sw (k := 5) hn5
                              have q6 := m_sw (k := 6) hn6
                              have q7 := m_sw (k := 7) hn7
                              have q8 := m_sw (k := 8) hn8
                              have q9 := m_sw (k := 9) hn9
                              have q10 := m_sw (k := 10) hn10
                              have q11 := m_sw (k := 11) hn11
                              have q12 := m_sw (k := 12) hn12
                              have q13 := m_sw (k := 13) hn13
                              refine j_tableOut C0 (pc := 1) (tgt := 197) dX11_count_1 (by omega) (by decide) ?_
                              refine j_iconst C0 (pc := 197) dX11_count_197 (v := (-1 : Int32)) (by decide) ?_
                              exact j_iret C rfl h dX11_count_198 (by decide)
theorem dX3_nounOf_0 : decode cX3_nounOf 0 = .ok (.iload_n 1, 1) := by decide +kernel
theorem dX3_nounOf_1 : decode cX3_nounOf 1 = .ok (.iconst 4, 1) := by decide +kernel
theorem dX3_nounOf_2 : decode cX3_nounOf 2 = .ok (.idiv, 1) := by decide +kernel
theorem dX3_nounOf_3 : decode cX3_nounOf 3 = .ok (.istore_n 2, 1) := by decide +kernel
theorem dX3_nounOf_4 : decode cX3_nounOf 4 = .ok (.iload_n 1, 1) := by decide +kernel
theorem dX3_nounOf_5 : decode cX3_nounOf 5 = .ok (.iconst 4, 1) := by decide +kernel
theorem dX3_nounOf_6 : decode cX3_nounOf 6 = .ok (.irem, 1) := by decide +kernel
theorem dX3_nounOf_7 : decode cX3_nounOf 7 = .ok (.iconst 1, 1) := by decide +kernel
theorem dX3_nounOf_8 : decode cX3_nounOf 8 = .ok (.isub, 1) := by decide +kernel
theorem dX3_nounOf_9 : decode cX3_nounOf 9 = .ok (.istore_n 3, 1) := by decide +kernel
theorem dX3_nounOf_10 : decode cX3_nounOf 10 = .ok (.iload_n 1, 1) := by decide +kernel
theorem dX3_nounOf_11 : decode cX3_nounOf 11 = .ok (.ifCond .lt 23, 3) := by decide +kernel
theorem dX3_nounOf_14 : decode cX3_nounOf 14 = .ok (.iload_n 2, 1) := by decide +kernel
theorem dX3_nounOf_15 : decode cX3_nounOf 15 = .ok (.aload_n 0, 1) := by decide +kernel
theorem dX3_nounOf_16 : decode cX3_nounOf 16 = .ok (.getfield 9, 3) := by decide +kernel
theorem dX3_nounOf_19 : decode cX3_nounOf 19 = .ok (.iconst 0, 1) := by decide +kernel
theorem dX3_nounOf_20 : decode cX3_nounOf 20 = .ok (.iaload, 1) := by decide +kernel
theorem dX3_nounOf_21 : decode cX3_nounOf 21 = .ok (.if_icmp .ge 13, 3) := by decide +kernel
theorem dX3_nounOf_24 : decode cX3_nounOf 24 = .ok (.iload_n 3, 1) := by decide +kernel
theorem dX3_nounOf_25 : decode cX3_nounOf 25 = .ok (.aload_n 0, 1) := by decide +kernel
theorem dX3_nounOf_26 : decode cX3_nounOf 26 = .ok (.getfield 9, 3) := by decide +kernel
theorem dX3_nounOf_29 : decode cX3_nounOf 29 = .ok (.iconst 1, 1) := by decide +kernel
theorem dX3_nounOf_30 : decode cX3_nounOf 30 = .ok (.iaload, 1) := by decide +kernel
theorem dX3_nounOf_31 : decode cX3_nounOf 31 = .ok (.if_icmp .lt 5, 3) := by decide +kernel
theorem dX3_nounOf_34 : decode cX3_nounOf 34 = .ok (.iconst (-1), 1) := by decide +kernel
theorem dX3_nounOf_35 : decode cX3_nounOf 35 = .ok (.ireturn, 1) := by decide +kernel
theorem dX3_nounOf_36 : decode cX3_nounOf 36 = .ok (.iload_n 3, 1) := by decide +kernel
theorem dX3_nounOf_37 : decode cX3_nounOf 37 = .ok (.ifCond .lt 16, 3) := by decide +kernel
theorem dX3_nounOf_40 : decode cX3_nounOf 40 = .ok (.aload_n 0, 1) := by decide +kernel
theorem dX3_nounOf_41 : decode cX3_nounOf 41 = .ok (.getfield 37, 3) := by decide +kernel
theorem dX3_nounOf_44 : decode cX3_nounOf 44 = .ok (.iload_n 3, 1) := by decide +kernel
theorem dX3_nounOf_45 : decode cX3_nounOf 45 = .ok (.iconst 5, 1) := by decide +kernel
theorem dX3_nounOf_46 : decode cX3_nounOf 46 = .ok (.imul, 1) := by decide +kernel
theorem dX3_nounOf_47 : decode cX3_nounOf 47 = .ok (.iload_n 2, 1) := by decide +kernel
theorem dX3_nounOf_48 : decode cX3_nounOf 48 = .ok (.iadd, 1) := by decide +kernel
theorem dX3_nounOf_49 : decode cX3_nounOf 49 = .ok (.iaload, 1) := by decide +kernel
theorem dX3_nounOf_50 : decode cX3_nounOf 50 = .ok (.goto 6, 3) := by decide +kernel
theorem dX3_nounOf_53 : decode cX3_nounOf 53 = .ok (.sipush 228, 3) := by decide +kernel
theorem dX3_nounOf_56 : decode cX3_nounOf 56 = .ok (.istore 4, 2) := by decide +kernel
theorem dX3_nounOf_58 : decode cX3_nounOf 58 = .ok (.iload 4, 2) := by decide +kernel
theorem dX3_nounOf_60 : decode cX3_nounOf 60 = .ok (.iconst 3, 1) := by decide +kernel
theorem dX3_nounOf_61 : decode cX3_nounOf 61 = .ok (.ishl, 1) := by decide +kernel
theorem dX3_nounOf_62 : decode cX3_nounOf 62 = .ok (.iload_n 2, 1) := by decide +kernel
theorem dX3_nounOf_63 : decode cX3_nounOf 63 = .ok (.ior, 1) := by decide +kernel
theorem dX3_nounOf_64 : decode cX3_nounOf 64 = .ok (.ireturn, 1) := by decide +kernel
noncomputable def F_X3_nounOf (a0 : Nat) (a1 : Int32) (M : m_M) : Option (Int32 × m_M) :=
  x_nz (4 : Int32) <|
  m_let (a1 / (4 : Int32)) fun v1 =>
  x_nz (4 : Int32) <|
  m_let ((a1 - a1 / (4 : Int32) * (4 : Int32)) - (1 : Int32)) fun v2 =>
  if a1 < 0 then (
    some ((-1 : Int32), M)
  ) else
  x_gN 3 M a0 6 fun v3 =>
  x_aI 12 M v3 (0 : Int32) fun v4 =>
  if v4 ≤ v1 then (
    some ((-1 : Int32), M)
  ) else
  x_gN 3 M a0 6 fun v5 =>
  x_aI 12 M v5 (1 : Int32) fun v6 =>
  if v2 < v6 then (
    m_let (fun (v7 : Int32) (v8 : Int32) (M1 : m_M) =>
      some ((v8 <<< ((3 : Int32) &&& 31)) ||| v7, M1)
    ) fun (k56 : Int32 → Int32 → m_M → Option (Int32 × m_M)) =>
    if v2 < 0 then (
      k56 v1 (228 : Int32) M
    ) else
    x_gN 3 M a0 14 fun v9 =>
    x_aI 12 M v9 ((v2 * (5 : Int32)) + v1) fun v10 =>
    k56 v1 v10 M
  ) else
  some ((-1 : Int32), M)
set_option maxHeartbeats 4000000 in
theorem K_X3_nounOf (a0 : Nat) (a1 : Int32) (M : m_M) (Φ : Option Value → m_M → Prop) (h : m_ok e_I Φ (F_X3_nounOf a0 a1 M)) : j_Ct yX3_nounOf cX3_nounOf 5 (some .int) 1 0 0 [.ref a0, .int a1] M Φ := by
  refine j_Ct.of (by decide +kernel) (Nat.le_of_ble_eq_true rfl) fun X C => ?_
  have C0 := C.1
  show j_J X 5 0 [some (.ref a0), some (.int a1), none, none, none] [] (0, 0) M
  unfold F_X3_nounOf at h
  refine j_iload_n C0 (pc := 0) dX3_nounOf_0 rfl ?_
  refine j_iconst C0 (pc := 1) dX3_nounOf_1 (v := (4 : Int32)) (by decide) ?_
  refine X_idiv C0 (pc := 2) dX3_nounOf_2 h (fun h => ?_)
  refine X_let (G := fun w => j_J X 5 3 [some (.ref a0), some (.int a1), none, none, none] (.int w :: []) (0, 0) M) h (fun v1 h => ?_)
  refine j_istore_n C0 (pc := 3) dX3_nounOf_3 (Nat.le_of_ble_eq_true rfl) ?_
  show j_J X 5 4 [some (.ref a0), some (.int a1), some (.int v1), none, none] [] (0, 0) M
  refine j_iload_n C0 (pc := 4) dX3_nounOf_4 rfl ?_
  refine j_iconst C0 (pc := 5) dX3_nounOf_5 (v := (4 : Int32)) (by decide) ?_
  refine X_irem C0 (pc := 6) dX3_nounOf_6 h (fun h => ?_)
  refine j_iconst C0 (pc := 7) dX3_nounOf_7 (v := (1 : Int32)) (by decide) ?_
  refine j_isub C0 (pc := 8) dX3_nounOf_8 ?_
  refine X_let (G := fun w => j_J X 5 9 [some (.ref a0), some (.int a1), some (.int v1), none, none] (.int w :: []) (0, 0) M) h (fun v2 h => ?_)
  refine j_istore_n C0 (pc := 9) dX3_nounOf_9 (Nat.le_of_ble_eq_true rfl) ?_
  show j_J X 5 10 [some (.ref a0), some (.int a1), some (.int v1), some (.int v2), none] [] (0, 0) M
  refine j_iload_n C0 (pc := 10) dX3_nounOf_10 rfl ?_
  refine j_if_lt C0 (pc := 11) (tgt := 34) dX3_nounOf_11 (by decide) (fun hc => ?_) (fun hc => ?_)
  · replace h := (X_if h).1 hc
    refine j_iconst C0 (pc := 34) dX3_nounOf_34 (v := (-1 : Int32)) (by decide) ?_
    exact j_iret C rfl h dX3_nounOf_35 (by decide)
  · replace h := (X_if h).2 hc
    refine j_iload_n C0 (pc := 14) dX3_nounOf_14 rfl ?_
    refine j_aload_n C0 (pc := 15) dX3_nounOf_15 rfl ?_
    refine X_gN C0 (pc := 16) f_Land_9_3 rfl dX3_nounOf_16 h (fun v3 h => ?_)
    refine j_iconst C0 (pc := 19) dX3_nounOf_19 (v := (0 : Int32)) (by decide) ?_
    refine X_iald C0 (pc := 20) dX3_nounOf_20 h (fun v4 h => ?_)
    refine j_icmp_ge C0 (pc := 21) (tgt := 34) dX3_nounOf_21 (by decide) (fun hc => ?_) (fun hc => ?_)
    · replace h := (X_if h).1 hc
      refine j_iconst C0 (pc := 34) dX3_nounOf_34 (v := (-1 : Int32)) (by decide) ?_
      exact j_iret C rfl h dX3_nounOf_35 (by decide)
    · replace h := (X_if h).2 hc
      refine j_iload_n C0 (pc := 24) dX3_nounOf_24 rfl ?_
      refine j_aload_n C0 (pc := 25) dX3_nounOf_25 rfl ?_
      refine X_gN C0 (pc := 26) f_Land_9_3 rfl dX3_nounOf_26 h (fun v5 h => ?_)
      refine j_iconst C0 (pc := 29) dX3_nounOf_29 (v := (1 : Int32)) (by decide) ?_
      refine X_iald C0 (pc := 30) dX3_nounOf_30 h (fun v6 h => ?_)
      refine j_icmp_lt C0 (pc := 31) (tgt := 36) dX3_nounOf_31 (by decide) (fun hc => ?_) (fun hc => ?_)
      · replace h := (X_if h).1 hc
        refine X_join (fun (kj : Int32 → Int32 → m_M → Option (Int32 × m_M)) => ∀ (p0 : Int32) (p1 : Int32) (M : m_M), m_ok e_I Φ (kj p0 p1 M) → j_J X 5 56 [none, none, some (.int p0), none, none] [.int p1] (0, 0) M) h (fun v7 v8 M1 h => ?_) (fun k56 hk56 h => ?_)
        · refine j_istore C0 (pc := 56) dX3_nounOf_56 (Nat.le_of_ble_eq_true rfl) ?_
          show j_J X 5 58 [none, none, some (.int v7), none, some (.int v8)] [] (0, 0) M1
          refine j_iload C0 (pc := 58) dX3_nounOf_58 rfl ?_
          refine j_iconst C0 (pc := 60) dX3_nounOf_60 (v := (3 : Int32)) (by decide) ?_
          refine j_ishl C0 (pc := 61) dX3_nounOf_61 ?_
          refine j_iload_n C0 (pc := 62) dX3_nounOf_62 rfl ?_
          refine j_ior C0 (pc := 63) dX3_nounOf_63 ?_
          exact j_iret C rfl h dX3_nounOf_64 (by decide)
        · refine j_iload_n C0 (pc := 36) dX3_nounOf_36 rfl ?_
          refine j_if_lt C0 (pc := 37) (tgt := 53) dX3_nounOf_37 (by decide) (fun hc => ?_) (fun hc => ?_)
          · replace h := (X_if h).1 hc
            refine j_sipush C0 (pc := 53) dX3_nounOf_53 (v := (228 : Int32)) (by decide) ?_
            exact j_J.wq (hk56 v1 (228 : Int32) M h) (And.intro rfl (trivial))
          · replace h := (X_if h).2 hc
            refine j_aload_n C0 (pc := 40) dX3_nounOf_40 rfl ?_
            refine X_gN C0 (pc := 41) f_Land_37_3 rfl dX3_nounOf_41 h (fun v9 h => ?_)
            refine j_iload_n C0 (pc := 44) dX3_nounOf_44 rfl ?_
            refine j_iconst C0 (pc := 45) dX3_nounOf_45 (v := (5 : Int32)) (by decide) ?_
            refine j_imul C0 (pc := 46) dX3_nounOf_46 ?_
            refine j_iload_n C0 (pc := 47) dX3_nounOf_47 rfl ?_
            refine j_iadd C0 (pc := 48) dX3_nounOf_48 ?_
            refine X_iald C0 (pc := 49) dX3_nounOf_49 h (fun v10 h => ?_)
            refine j_goto C0 (pc := 50) (tgt := 56) dX3_nounOf_50 (by decide) ?_
            exact j_J.wq (hk56 v1 v10 M h) (And.intro rfl (trivial))
      · replace h := (X_if h).2 hc
        refine j_iconst C0 (pc := 34) dX3_nounOf_34 (v := (-1 : Int32)) (by decide) ?_
        exact j_iret C rfl h dX3_nounOf_35 (by decide)
theorem dX3_isClause_0 : decode cX3_isClause 0 = .ok (.iload_n 1, 1) := by decide +kernel
theorem dX3_isClause_1 : decode cX3_isClause 1 = .ok (.ifCond .lt 38, 3) := by decide +kernel
theorem dX3_isClause_4 : decode cX3_isClause 4 = .ok (.iload_n 1, 1) := by decide +kernel
theorem dX3_isClause_5 : decode cX3_isClause 5 = .ok (.sipush 400, 3) := by decide +kernel
theorem dX3_isClause_8 : decode cX3_isClause 8 = .ok (.if_icmp .ge 31, 3) := by decide +kernel
theorem dX3_isClause_11 : decode cX3_isClause 11 = .ok (.aload_n 0, 1) := by decide +kernel
theorem dX3_isClause_12 : decode cX3_isClause 12 = .ok (.iload_n 1, 1) := by decide +kernel
theorem dX3_isClause_13 : decode cX3_isClause 13 = .ok (.bipush 20, 2) := by decide +kernel
theorem dX3_isClause_15 : decode cX3_isClause 15 = .ok (.idiv, 1) := by decide +kernel
theorem dX3_isClause_16 : decode cX3_isClause 16 = .ok (.invokevirtual 90, 3) := by decide +kernel
theorem dX3_isClause_19 : decode cX3_isClause 19 = .ok (.iconst (-1), 1) := by decide +kernel
theorem dX3_isClause_20 : decode cX3_isClause 20 = .ok (.if_icmp .eq 19, 3) := by decide +kernel
theorem dX3_isClause_23 : decode cX3_isClause 23 = .ok (.aload_n 0, 1) := by decide +kernel
theorem dX3_isClause_24 : decode cX3_isClause 24 = .ok (.iload_n 1, 1) := by decide +kernel
theorem dX3_isClause_25 : decode cX3_isClause 25 = .ok (.bipush 20, 2) := by decide +kernel
theorem dX3_isClause_27 : decode cX3_isClause 27 = .ok (.irem, 1) := by decide +kernel
theorem dX3_isClause_28 : decode cX3_isClause 28 = .ok (.invokevirtual 90, 3) := by decide +kernel
theorem dX3_isClause_31 : decode cX3_isClause 31 = .ok (.iconst (-1), 1) := by decide +kernel
theorem dX3_isClause_32 : decode cX3_isClause 32 = .ok (.if_icmp .eq 7, 3) := by decide +kernel
theorem dX3_isClause_35 : decode cX3_isClause 35 = .ok (.iconst 1, 1) := by decide +kernel
theorem dX3_isClause_36 : decode cX3_isClause 36 = .ok (.goto 4, 3) := by decide +kernel
theorem dX3_isClause_39 : decode cX3_isClause 39 = .ok (.iconst 0, 1) := by decide +kernel
theorem dX3_isClause_40 : decode cX3_isClause 40 = .ok (.ireturn, 1) := by decide +kernel
noncomputable def F_X3_isClause (a0 : Nat) (a1 : Int32) (M : m_M) : Option (Int32 × m_M) :=
  m_let (fun  (M1 : m_M) =>
    some ((0 : Int32), M1)
  ) fun (k39 : m_M → Option (Int32 × m_M)) =>
  if a1 < 0 then (
    k39 M
  ) else
  if (400 : Int32) ≤ a1 then (
    k39 M
  ) else
  x_nz (20 : Int32) <|
  x_cV 3 M a0 (F_X3_nounOf a0 (a1 / (20 : Int32)) M) fun v1 M2 =>
  if v1 = (-1 : Int32) then (
    k39 M2
  ) else
  x_nz (20 : Int32) <|
  x_cV 3 M2 a0 (F_X3_nounOf a0 (a1 - a1 / (20 : Int32) * (20 : Int32)) M2) fun v2 M3 =>
  if v2 = (-1 : Int32) then (
    k39 M3
  ) else
  some ((1 : Int32), M3)
set_option maxHeartbeats 4000000 in
theorem K_X3_isClause (a0 : Nat) (a1 : Int32) (M : m_M) (Φ : Option Value → m_M → Prop) (h : m_ok e_I Φ (F_X3_isClause a0 a1 M)) : j_Ct yX3_isClause cX3_isClause 2 (some .boolean) 2 0 0 [.ref a0, .int a1] M Φ := by
  refine j_Ct.of (by decide +kernel) (Nat.le_of_ble_eq_true rfl) fun X C => ?_
  have C0 := C.1
  show j_J X 2 0 [some (.ref a0), some (.int a1)] [] (0, 0) M
  unfold F_X3_isClause at h
  refine X_join (fun (kj : m_M → Option (Int32 × m_M)) => ∀  (M : m_M), m_ok e_I Φ (kj M) → j_J X 2 39 [none, none] [] (0, 0) M) h (fun M1 h => ?_) (fun k39 hk39 h => ?_)
  · refine j_iconst C0 (pc := 39) dX3_isClause_39 (v := (0 : Int32)) (by decide) ?_
    exact j_zret C rfl (by decide) h dX3_isClause_40 (by decide)
  · refine j_iload_n C0 (pc := 0) dX3_isClause_0 rfl ?_
    refine j_if_lt C0 (pc := 1) (tgt := 39) dX3_isClause_1 (by decide) (fun hc => ?_) (fun hc => ?_)
    · replace h := (X_if h).1 hc
      exact j_J.wq (hk39 M h) (trivial)
    · replace h := (X_if h).2 hc
      refine j_iload_n C0 (pc := 4) dX3_isClause_4 rfl ?_
      refine j_sipush C0 (pc := 5) dX3_isClause_5 (v := (400 : Int32)) (by decide) ?_
      refine j_icmp_ge C0 (pc := 8) (tgt := 39) dX3_isClause_8 (by decide) (fun hc => ?_) (fun hc => ?_)
      · replace h := (X_if h).1 hc
        exact j_J.wq (hk39 M h) (trivial)
      · replace h := (X_if h).2 hc
        refine j_aload_n C0 (pc := 11) dX3_isClause_11 rfl ?_
        refine j_iload_n C0 (pc := 12) dX3_isClause_12 rfl ?_
        refine j_bipush C0 (pc := 13) dX3_isClause_13 (v := (20 : Int32)) (by decide) ?_
        refine X_idiv C0 (pc := 15) dX3_isClause_15 h (fun h => ?_)
        refine X_cV C0 (pc := 16) (e' := e_I) (as := [.int (a1 / (20 : Int32))]) (rest := []) (s' := fun w => .int w :: []) (g' := (0, 0)) v_Land_90_3 (fun Ψ hΨ => K_X3_nounOf a0 (a1 / (20 : Int32)) M Ψ hΨ) rfl rfl (fun _ => rfl) (by decide) (by decide) rfl (Nat.le_of_ble_eq_true rfl) dX3_isClause_16 h (fun v1 M2 h => ?_)
        refine j_iconst C0 (pc := 19) dX3_isClause_19 (v := (-1 : Int32)) (by decide) ?_
        refine j_icmp_eq C0 (pc := 20) (tgt := 39) dX3_isClause_20 (by decide) (fun hc => ?_) (fun hc => ?_)
        · replace h := (X_if h).1 hc
          exact j_J.wq (hk39 M2 h) (trivial)
        · replace h := (X_if h).2 hc
          refine j_aload_n C0 (pc := 23) dX3_isClause_23 rfl ?_
          refine j_iload_n C0 (pc := 24) dX3_isClause_24 rfl ?_
          refine j_bipush C0 (pc := 25) dX3_isClause_25 (v := (20 : Int32)) (by decide) ?_
          refine X_irem C0 (pc := 27) dX3_isClause_27 h (fun h => ?_)
          refine X_cV C0 (pc := 28) (e' := e_I) (as := [.int (a1 - a1 / (20 : Int32) * (20 : Int32))]) (rest := []) (s' := fun w => .int w :: []) (g' := (0, 0)) v_Land_90_3 (fun Ψ hΨ => K_X3_nounOf a0 (a1 - a1 / (20 : Int32) * (20 : Int32)) M2 Ψ hΨ) rfl rfl (fun _ => rfl) (by decide) (by decide) rfl (Nat.le_of_ble_eq_true rfl) dX3_isClause_28 h (fun v2 M3 h => ?_)
          refine j_iconst C0 (pc := 31) dX3_isClause_31 (v := (-1 : Int32)) (by decide) ?_
          refine j_icmp_eq C0 (pc := 32) (tgt := 39) dX3_isClause_32 (by decide) (fun hc => ?_) (fun hc => ?_)
          · replace h := (X_if h).1 hc
            exact j_J.wq (hk39 M3 h) (trivial)
          · replace h := (X_if h).2 hc
            refine j_iconst C0 (pc := 35) dX3_isClause_35 (v := (1 : Int32)) (by decide) ?_
            refine j_goto C0 (pc := 36) (tgt := 40) dX3_isClause_36 (by decide) ?_
            exact j_zret C rfl (by decide) h dX3_isClause_40 (by decide)
theorem dX3_firstThing_0 : decode cX3_firstThing 0 = .ok (.aload_n 0, 1) := by decide +kernel
theorem dX3_firstThing_1 : decode cX3_firstThing 1 = .ok (.iload_n 1, 1) := by decide +kernel
theorem dX3_firstThing_2 : decode cX3_firstThing 2 = .ok (.bipush 20, 2) := by decide +kernel
theorem dX3_firstThing_4 : decode cX3_firstThing 4 = .ok (.idiv, 1) := by decide +kernel
theorem dX3_firstThing_5 : decode cX3_firstThing 5 = .ok (.invokevirtual 90, 3) := by decide +kernel
theorem dX3_firstThing_8 : decode cX3_firstThing 8 = .ok (.invokestatic 145, 3) := by decide +kernel
theorem dX3_firstThing_11 : decode cX3_firstThing 11 = .ok (.ireturn, 1) := by decide +kernel
noncomputable def F_X3_firstThing (a0 : Nat) (a1 : Int32) (M : m_M) : Option (Int32 × m_M) :=
  x_nz (20 : Int32) <|
  x_cV 3 M a0 (F_X3_nounOf a0 (a1 / (20 : Int32)) M) fun v1 M1 =>
  x_bd (F_X3_thingOf v1 M1) fun v2 M2 =>
  some (v2, M2)
set_option maxHeartbeats 4000000 in
theorem K_X3_firstThing (a0 : Nat) (a1 : Int32) (M : m_M) (Φ : Option Value → m_M → Prop) (h : m_ok e_I Φ (F_X3_firstThing a0 a1 M)) : j_Ct yX3_firstThing cX3_firstThing 2 (some .int) 3 0 0 [.ref a0, .int a1] M Φ := by
  refine j_Ct.of (by decide +kernel) (Nat.le_of_ble_eq_true rfl) fun X C => ?_
  have C0 := C.1
  show j_J X 2 0 [some (.ref a0), some (.int a1)] [] (0, 0) M
  unfold F_X3_firstThing at h
  refine j_aload_n C0 (pc := 0) dX3_firstThing_0 rfl ?_
  refine j_iload_n C0 (pc := 1) dX3_firstThing_1 rfl ?_
  refine j_bipush C0 (pc := 2) dX3_firstThing_2 (v := (20 : Int32)) (by decide) ?_
  refine X_idiv C0 (pc := 4) dX3_firstThing_4 h (fun h => ?_)
  refine X_cV C0 (pc := 5) (e' := e_I) (as := [.int (a1 / (20 : Int32))]) (rest := []) (s' := fun w => .int w :: []) (g' := (0, 0)) v_Land_90_3 (fun Ψ hΨ => K_X3_nounOf a0 (a1 / (20 : Int32)) M Ψ hΨ) rfl rfl (fun _ => rfl) (by decide) (by decide) rfl (Nat.le_of_ble_eq_true rfl) dX3_firstThing_5 h (fun v1 M1 h => ?_)
  refine X_cS C0 (pc := 8) (e' := e_I) (as := [.int v1]) (rest := []) (s' := fun w => .int w :: []) (g' := (0, 0)) s_Land_145 (fun Ψ hΨ => K_X3_thingOf v1 M1 Ψ hΨ) rfl rfl (fun _ => rfl) (by decide) (by decide) rfl (Nat.le_of_ble_eq_true rfl) dX3_firstThing_8 h (fun v2 M2 h => ?_)
  exact j_iret C rfl h dX3_firstThing_11 (by decide)
theorem dX3_secondThing_0 : decode cX3_secondThing 0 = .ok (.aload_n 0, 1) := by decide +kernel
theorem dX3_secondThing_1 : decode cX3_secondThing 1 = .ok (.iload_n 1, 1) := by decide +kernel
theorem dX3_secondThing_2 : decode cX3_secondThing 2 = .ok (.bipush 20, 2) := by decide +kernel
theorem dX3_secondThing_4 : decode cX3_secondThing 4 = .ok (.irem, 1) := by decide +kernel
theorem dX3_secondThing_5 : decode cX3_secondThing 5 = .ok (.invokevirtual 90, 3) := by decide +kernel
theorem dX3_secondThing_8 : decode cX3_secondThing 8 = .ok (.invokestatic 145, 3) := by decide +kernel
theorem dX3_secondThing_11 : decode cX3_secondThing 11 = .ok (.ireturn, 1) := by decide +kernel
noncomputable def F_X3_secondThing (a0 : Nat) (a1 : Int32) (M : m_M) : Option (Int32 × m_M) :=
  x_nz (20 : Int32) <|
  x_cV 3 M a0 (F_X3_nounOf a0 (a1 - a1 / (20 : Int32) * (20 : Int32)) M) fun v1 M1 =>
  x_bd (F_X3_thingOf v1 M1) fun v2 M2 =>
  some (v2, M2)
set_option maxHeartbeats 4000000 in
theorem K_X3_secondThing (a0 : Nat) (a1 : Int32) (M : m_M) (Φ : Option Value → m_M → Prop) (h : m_ok e_I Φ (F_X3_secondThing a0 a1 M)) : j_Ct yX3_secondThing cX3_secondThing 2 (some .int) 3 0 0 [.ref a0, .int a1] M Φ := by
  refine j_Ct.of (by decide +kernel) (Nat.le_of_ble_eq_true rfl) fun X C => ?_
  have C0 := C.1
  show j_J X 2 0 [some (.ref a0), some (.int a1)] [] (0, 0) M
  unfold F_X3_secondThing at h
  refine j_aload_n C0 (pc := 0) dX3_secondThing_0 rfl ?_
  refine j_iload_n C0 (pc := 1) dX3_secondThing_1 rfl ?_
  refine j_bipush C0 (pc := 2) dX3_secondThing_2 (v := (20 : Int32)) (by decide) ?_
  refine X_irem C0 (pc := 4) dX3_secondThing_4 h (fun h => ?_)
  refine X_cV C0 (pc := 5) (e' := e_I) (as := [.int (a1 - a1 / (20 : Int32) * (20 : Int32))]) (rest := []) (s' := fun w => .int w :: []) (g' := (0, 0)) v_Land_90_3 (fun Ψ hΨ => K_X3_nounOf a0 (a1 - a1 / (20 : Int32) * (20 : Int32)) M Ψ hΨ) rfl rfl (fun _ => rfl) (by decide) (by decide) rfl (Nat.le_of_ble_eq_true rfl) dX3_secondThing_5 h (fun v1 M1 h => ?_)
  refine X_cS C0 (pc := 8) (e' := e_I) (as := [.int v1]) (rest := []) (s' := fun w => .int w :: []) (g' := (0, 0)) s_Land_145 (fun Ψ hΨ => K_X3_thingOf v1 M1 Ψ hΨ) rfl rfl (fun _ => rfl) (by decide) (by decide) rfl (Nat.le_of_ble_eq_true rfl) dX3_secondThing_8 h (fun v2 M2 h => ?_)
  exact j_iret C rfl h dX3_secondThing_11 (by decide)
theorem dX3_wholeTable_0 : decode cX3_wholeTable 0 = .ok (.iconst 1, 1) := by decide +kernel
theorem dX3_wholeTable_1 : decode cX3_wholeTable 1 = .ok (.aload_n 0, 1) := by decide +kernel
theorem dX3_wholeTable_2 : decode cX3_wholeTable 2 = .ok (.getfield 58, 3) := by decide +kernel
theorem dX3_wholeTable_5 : decode cX3_wholeTable 5 = .ok (.ishl, 1) := by decide +kernel
theorem dX3_wholeTable_6 : decode cX3_wholeTable 6 = .ok (.iconst 1, 1) := by decide +kernel
theorem dX3_wholeTable_7 : decode cX3_wholeTable 7 = .ok (.isub, 1) := by decide +kernel
theorem dX3_wholeTable_8 : decode cX3_wholeTable 8 = .ok (.istore_n 2, 1) := by decide +kernel
theorem dX3_wholeTable_9 : decode cX3_wholeTable 9 = .ok (.iload_n 2, 1) := by decide +kernel
theorem dX3_wholeTable_10 : decode cX3_wholeTable 10 = .ok (.iload_n 2, 1) := by decide +kernel
theorem dX3_wholeTable_11 : decode cX3_wholeTable 11 = .ok (.iconst 4, 1) := by decide +kernel
theorem dX3_wholeTable_12 : decode cX3_wholeTable 12 = .ok (.ishl, 1) := by decide +kernel
theorem dX3_wholeTable_13 : decode cX3_wholeTable 13 = .ok (.ior, 1) := by decide +kernel
theorem dX3_wholeTable_14 : decode cX3_wholeTable 14 = .ok (.iload_n 2, 1) := by decide +kernel
theorem dX3_wholeTable_15 : decode cX3_wholeTable 15 = .ok (.bipush 8, 2) := by decide +kernel
theorem dX3_wholeTable_17 : decode cX3_wholeTable 17 = .ok (.ishl, 1) := by decide +kernel
theorem dX3_wholeTable_18 : decode cX3_wholeTable 18 = .ok (.ior, 1) := by decide +kernel
theorem dX3_wholeTable_19 : decode cX3_wholeTable 19 = .ok (.iload_n 2, 1) := by decide +kernel
theorem dX3_wholeTable_20 : decode cX3_wholeTable 20 = .ok (.bipush 12, 2) := by decide +kernel
theorem dX3_wholeTable_22 : decode cX3_wholeTable 22 = .ok (.ishl, 1) := by decide +kernel
theorem dX3_wholeTable_23 : decode cX3_wholeTable 23 = .ok (.ior, 1) := by decide +kernel
theorem dX3_wholeTable_24 : decode cX3_wholeTable 24 = .ok (.istore_n 3, 1) := by decide +kernel
theorem dX3_wholeTable_25 : decode cX3_wholeTable 25 = .ok (.iload_n 3, 1) := by decide +kernel
theorem dX3_wholeTable_26 : decode cX3_wholeTable 26 = .ok (.iconst 1, 1) := by decide +kernel
theorem dX3_wholeTable_27 : decode cX3_wholeTable 27 = .ok (.iconst 4, 1) := by decide +kernel
theorem dX3_wholeTable_28 : decode cX3_wholeTable 28 = .ok (.aload_n 0, 1) := by decide +kernel
theorem dX3_wholeTable_29 : decode cX3_wholeTable 29 = .ok (.getfield 58, 3) := by decide +kernel
theorem dX3_wholeTable_32 : decode cX3_wholeTable 32 = .ok (.imul, 1) := by decide +kernel
theorem dX3_wholeTable_33 : decode cX3_wholeTable 33 = .ok (.ishl, 1) := by decide +kernel
theorem dX3_wholeTable_34 : decode cX3_wholeTable 34 = .ok (.iconst 1, 1) := by decide +kernel
theorem dX3_wholeTable_35 : decode cX3_wholeTable 35 = .ok (.isub, 1) := by decide +kernel
theorem dX3_wholeTable_36 : decode cX3_wholeTable 36 = .ok (.iand, 1) := by decide +kernel
theorem dX3_wholeTable_37 : decode cX3_wholeTable 37 = .ok (.istore_n 3, 1) := by decide +kernel
theorem dX3_wholeTable_38 : decode cX3_wholeTable 38 = .ok (.iload_n 1, 1) := by decide +kernel
theorem dX3_wholeTable_39 : decode cX3_wholeTable 39 = .ok (.ifCond .eq 10, 3) := by decide +kernel
theorem dX3_wholeTable_42 : decode cX3_wholeTable 42 = .ok (.iload_n 3, 1) := by decide +kernel
theorem dX3_wholeTable_43 : decode cX3_wholeTable 43 = .ok (.ldc 160, 2) := by decide +kernel
theorem dX3_wholeTable_45 : decode cX3_wholeTable 45 = .ok (.iand, 1) := by decide +kernel
theorem dX3_wholeTable_46 : decode cX3_wholeTable 46 = .ok (.goto 4, 3) := by decide +kernel
theorem dX3_wholeTable_49 : decode cX3_wholeTable 49 = .ok (.iload_n 3, 1) := by decide +kernel
theorem dX3_wholeTable_50 : decode cX3_wholeTable 50 = .ok (.ireturn, 1) := by decide +kernel
noncomputable def F_X3_wholeTable (a0 : Nat) (a1 : Int32) (M : m_M) : Option (Int32 × m_M) :=
  x_gI 3 M a0 0 fun v1 =>
  m_let (((1 : Int32) <<< (v1 &&& 31)) - (1 : Int32)) fun v2 =>
  m_let (((v2 ||| (v2 <<< ((4 : Int32) &&& 31))) ||| (v2 <<< ((8 : Int32) &&& 31))) ||| (v2 <<< ((12 : Int32) &&& 31))) fun v3 =>
  x_gI 3 M a0 0 fun v4 =>
  m_let (v3 &&& (((1 : Int32) <<< (((4 : Int32) * v4) &&& 31)) - (1 : Int32))) fun v5 =>
  if a1 = 0 then (
    some (v5, M)
  ) else
  some (v5 &&& (33825 : Int32), M)
set_option maxHeartbeats 4000000 in
theorem K_X3_wholeTable (a0 : Nat) (a1 : Int32) (M : m_M) (Φ : Option Value → m_M → Prop) (h : m_ok e_I Φ (F_X3_wholeTable a0 a1 M)) : j_Ct yX3_wholeTable cX3_wholeTable 4 (some .int) 1 0 0 [.ref a0, .int a1] M Φ := by
  refine j_Ct.of (by decide +kernel) (Nat.le_of_ble_eq_true rfl) fun X C => ?_
  have C0 := C.1
  show j_J X 4 0 [some (.ref a0), some (.int a1), none, none] [] (0, 0) M
  unfold F_X3_wholeTable at h
  refine j_iconst C0 (pc := 0) dX3_wholeTable_0 (v := (1 : Int32)) (by decide) ?_
  refine j_aload_n C0 (pc := 1) dX3_wholeTable_1 rfl ?_
  refine X_gI C0 (pc := 2) f_Land_58_3 rfl dX3_wholeTable_2 h (fun v1 h => ?_)
  refine j_ishl C0 (pc := 5) dX3_wholeTable_5 ?_
  refine j_iconst C0 (pc := 6) dX3_wholeTable_6 (v := (1 : Int32)) (by decide) ?_
  refine j_isub C0 (pc := 7) dX3_wholeTable_7 ?_
  refine X_let (G := fun w => j_J X 4 8 [some (.ref a0), some (.int a1), none, none] (.int w :: []) (0, 0) M) h (fun v2 h => ?_)
  refine j_istore_n C0 (pc := 8) dX3_wholeTable_8 (Nat.le_of_ble_eq_true rfl) ?_
  show j_J X 4 9 [some (.ref a0), some (.int a1), some (.int v2), none] [] (0, 0) M
  refine j_iload_n C0 (pc := 9) dX3_wholeTable_9 rfl ?_
  refine j_iload_n C0 (pc := 10) dX3_wholeTable_10 rfl ?_
  refine j_iconst C0 (pc := 11) dX3_wholeTable_11 (v := (4 : Int32)) (by decide) ?_
  refine j_ishl C0 (pc := 12) dX3_wholeTable_12 ?_
  refine j_ior C0 (pc := 13) dX3_wholeTable_13 ?_
  refine j_iload_n C0 (pc := 14) dX3_wholeTable_14 rfl ?_
  refine j_bipush C0 (pc := 15) dX3_wholeTable_15 (v := (8 : Int32)) (by decide) ?_
  refine j_ishl C0 (pc := 17) dX3_wholeTable_17 ?_
  refine j_ior C0 (pc := 18) dX3_wholeTable_18 ?_
  refine j_iload_n C0 (pc := 19) dX3_wholeTable_19 rfl ?_
  refine j_bipush C0 (pc := 20) dX3_wholeTable_20 (v := (12 : Int32)) (by decide) ?_
  refine j_ishl C0 (pc := 22) dX3_wholeTable_22 ?_
  refine j_ior C0 (pc := 23) dX3_wholeTable_23 ?_
  refine X_let (G := fun w => j_J X 4 24 [some (.ref a0), some (.int a1), some (.int v2), none] (.int w :: []) (0, 0) M) h (fun v3 h => ?_)
  refine j_istore_n C0 (pc := 24) dX3_wholeTable_24 (Nat.le_of_ble_eq_true rfl) ?_
  show j_J X 4 25 [some (.ref a0), some (.int a1), some (.int v2), some (.int v3)] [] (0, 0) M
  refine j_iload_n C0 (pc := 25) dX3_wholeTable_25 rfl ?_
  refine j_iconst C0 (pc := 26) dX3_wholeTable_26 (v := (1 : Int32)) (by decide) ?_
  refine j_iconst C0 (pc := 27) dX3_wholeTable_27 (v := (4 : Int32)) (by decide) ?_
  refine j_aload_n C0 (pc := 28) dX3_wholeTable_28 rfl ?_
  refine X_gI C0 (pc := 29) f_Land_58_3 rfl dX3_wholeTable_29 h (fun v4 h => ?_)
  refine j_imul C0 (pc := 32) dX3_wholeTable_32 ?_
  refine j_ishl C0 (pc := 33) dX3_wholeTable_33 ?_
  refine j_iconst C0 (pc := 34) dX3_wholeTable_34 (v := (1 : Int32)) (by decide) ?_
  refine j_isub C0 (pc := 35) dX3_wholeTable_35 ?_
  refine j_iand C0 (pc := 36) dX3_wholeTable_36 ?_
  refine X_let (G := fun w => j_J X 4 37 [some (.ref a0), some (.int a1), some (.int v2), some (.int v3)] (.int w :: []) (0, 0) M) h (fun v5 h => ?_)
  refine j_istore_n C0 (pc := 37) dX3_wholeTable_37 (Nat.le_of_ble_eq_true rfl) ?_
  show j_J X 4 38 [some (.ref a0), some (.int a1), some (.int v2), some (.int v5)] [] (0, 0) M
  refine j_iload_n C0 (pc := 38) dX3_wholeTable_38 rfl ?_
  refine j_if_eq C0 (pc := 39) (tgt := 49) dX3_wholeTable_39 (by decide) (fun hc => ?_) (fun hc => ?_)
  · replace h := (X_if h).1 hc
    refine j_iload_n C0 (pc := 49) dX3_wholeTable_49 rfl ?_
    exact j_iret C rfl h dX3_wholeTable_50 (by decide)
  · replace h := (X_if h).2 hc
    refine j_iload_n C0 (pc := 42) dX3_wholeTable_42 rfl ?_
    refine j_ldc C0 (pc := 43) (v := (33825 : Int32)) (j_c6 140 (by decide +kernel)) dX3_wholeTable_43 ?_
    refine j_iand C0 (pc := 45) dX3_wholeTable_45 ?_
    refine j_goto C0 (pc := 46) (tgt := 50) dX3_wholeTable_46 (by decide) ?_
    exact j_iret C rfl h dX3_wholeTable_50 (by decide)
theorem dX3_clauseTable_0 : decode cX3_clauseTable 0 = .ok (.aload_n 0, 1) := by decide +kernel
theorem dX3_clauseTable_1 : decode cX3_clauseTable 1 = .ok (.aload_n 0, 1) := by decide +kernel
theorem dX3_clauseTable_2 : decode cX3_clauseTable 2 = .ok (.iload_n 1, 1) := by decide +kernel
theorem dX3_clauseTable_3 : decode cX3_clauseTable 3 = .ok (.bipush 20, 2) := by decide +kernel
theorem dX3_clauseTable_5 : decode cX3_clauseTable 5 = .ok (.idiv, 1) := by decide +kernel
theorem dX3_clauseTable_6 : decode cX3_clauseTable 6 = .ok (.invokevirtual 90, 3) := by decide +kernel
theorem dX3_clauseTable_9 : decode cX3_clauseTable 9 = .ok (.aload_n 0, 1) := by decide +kernel
theorem dX3_clauseTable_10 : decode cX3_clauseTable 10 = .ok (.iload_n 1, 1) := by decide +kernel
theorem dX3_clauseTable_11 : decode cX3_clauseTable 11 = .ok (.bipush 20, 2) := by decide +kernel
theorem dX3_clauseTable_13 : decode cX3_clauseTable 13 = .ok (.irem, 1) := by decide +kernel
theorem dX3_clauseTable_14 : decode cX3_clauseTable 14 = .ok (.invokevirtual 90, 3) := by decide +kernel
theorem dX3_clauseTable_17 : decode cX3_clauseTable 17 = .ok (.iload_n 2, 1) := by decide +kernel
theorem dX3_clauseTable_18 : decode cX3_clauseTable 18 = .ok (.invokevirtual 154, 3) := by decide +kernel
theorem dX3_clauseTable_21 : decode cX3_clauseTable 21 = .ok (.ireturn, 1) := by decide +kernel
noncomputable def F_X3_clauseTable (a0 : Nat) (a1 : Int32) (a2 : Int32) (M : m_M) : Option (Int32 × m_M) :=
  x_nz (20 : Int32) <|
  x_cV 3 M a0 (F_X3_nounOf a0 (a1 / (20 : Int32)) M) fun v1 M1 =>
  x_nz (20 : Int32) <|
  x_cV 3 M1 a0 (F_X3_nounOf a0 (a1 - a1 / (20 : Int32) * (20 : Int32)) M1) fun v2 M2 =>
  x_cV 3 M2 a0 (F_X3_tableOf a0 v1 v2 a2 M2) fun v3 M3 =>
  some (v3, M3)
set_option maxHeartbeats 4000000 in
theorem K_X3_clauseTable (a0 : Nat) (a1 : Int32) (a2 : Int32) (M : m_M) (Φ : Option Value → m_M → Prop) (h : m_ok e_I Φ (F_X3_clauseTable a0 a1 a2 M)) : j_Ct yX3_clauseTable cX3_clauseTable 3 (some .int) 5 0 0 [.ref a0, .int a1, .int a2] M Φ := by
  refine j_Ct.of (by decide +kernel) (Nat.le_of_ble_eq_true rfl) fun X C => ?_
  have C0 := C.1
  show j_J X 3 0 [some (.ref a0), some (.int a1), some (.int a2)] [] (0, 0) M
  unfold F_X3_clauseTable at h
  refine j_aload_n C0 (pc := 0) dX3_clauseTable_0 rfl ?_
  refine j_aload_n C0 (pc := 1) dX3_clauseTable_1 rfl ?_
  refine j_iload_n C0 (pc := 2) dX3_clauseTable_2 rfl ?_
  refine j_bipush C0 (pc := 3) dX3_clauseTable_3 (v := (20 : Int32)) (by decide) ?_
  refine X_idiv C0 (pc := 5) dX3_clauseTable_5 h (fun h => ?_)
  refine X_cV C0 (pc := 6) (e' := e_I) (as := [.int (a1 / (20 : Int32))]) (rest := [.ref a0]) (s' := fun w => .int w :: [.ref a0]) (g' := (0, 0)) v_Land_90_3 (fun Ψ hΨ => K_X3_nounOf a0 (a1 / (20 : Int32)) M Ψ hΨ) rfl rfl (fun _ => rfl) (by decide) (by decide) rfl (Nat.le_of_ble_eq_true rfl) dX3_clauseTable_6 h (fun v1 M1 h => ?_)
  refine j_aload_n C0 (pc := 9) dX3_clauseTable_9 rfl ?_
  refine j_iload_n C0 (pc := 10) dX3_clauseTable_10 rfl ?_
  refine j_bipush C0 (pc := 11) dX3_clauseTable_11 (v := (20 : Int32)) (by decide) ?_
  refine X_irem C0 (pc := 13) dX3_clauseTable_13 h (fun h => ?_)
  refine X_cV C0 (pc := 14) (e' := e_I) (as := [.int (a1 - a1 / (20 : Int32) * (20 : Int32))]) (rest := [.int v1, .ref a0]) (s' := fun w => .int w :: [.int v1, .ref a0]) (g' := (0, 0)) v_Land_90_3 (fun Ψ hΨ => K_X3_nounOf a0 (a1 - a1 / (20 : Int32) * (20 : Int32)) M1 Ψ hΨ) rfl rfl (fun _ => rfl) (by decide) (by decide) rfl (Nat.le_of_ble_eq_true rfl) dX3_clauseTable_14 h (fun v2 M2 h => ?_)
  refine j_iload_n C0 (pc := 17) dX3_clauseTable_17 rfl ?_
  refine X_cV C0 (pc := 18) (e' := e_I) (as := [.int v1, .int v2, .int a2]) (rest := []) (s' := fun w => .int w :: []) (g' := (0, 0)) v_Land_154_3 (fun Ψ hΨ => K_X3_tableOf a0 v1 v2 a2 M2 Ψ hΨ) rfl rfl (fun _ => rfl) (by decide) (by decide) rfl (Nat.le_of_ble_eq_true rfl) dX3_clauseTable_18 h (fun v3 M3 h => ?_)
  exact j_iret C rfl h dX3_clauseTable_21 (by decide)
theorem dX3_firstAt_0 : decode cX3_firstAt 0 = .ok (.bipush 15, 2) := by decide +kernel
theorem dX3_firstAt_2 : decode cX3_firstAt 2 = .ok (.iconst 4, 1) := by decide +kernel
theorem dX3_firstAt_3 : decode cX3_firstAt 3 = .ok (.iload_n 1, 1) := by decide +kernel
theorem dX3_firstAt_4 : decode cX3_firstAt 4 = .ok (.imul, 1) := by decide +kernel
theorem dX3_firstAt_5 : decode cX3_firstAt 5 = .ok (.ishl, 1) := by decide +kernel
theorem dX3_firstAt_6 : decode cX3_firstAt 6 = .ok (.ireturn, 1) := by decide +kernel
noncomputable def F_X3_firstAt (a0 : Nat) (a1 : Int32) (M : m_M) : Option (Int32 × m_M) :=
  some ((15 : Int32) <<< (((4 : Int32) * a1) &&& 31), M)
set_option maxHeartbeats 4000000 in
theorem K_X3_firstAt (a0 : Nat) (a1 : Int32) (M : m_M) (Φ : Option Value → m_M → Prop) (h : m_ok e_I Φ (F_X3_firstAt a0 a1 M)) : j_Ct yX3_firstAt cX3_firstAt 2 (some .int) 1 0 0 [.ref a0, .int a1] M Φ := by
  refine j_Ct.of (by decide +kernel) (Nat.le_of_ble_eq_true rfl) fun X C => ?_
  have C0 := C.1
  show j_J X 2 0 [some (.ref a0), some (.int a1)] [] (0, 0) M
  unfold F_X3_firstAt at h
  refine j_bipush C0 (pc := 0) dX3_firstAt_0 (v := (15 : Int32)) (by decide) ?_
  refine j_iconst C0 (pc := 2) dX3_firstAt_2 (v := (4 : Int32)) (by decide) ?_
  refine j_iload_n C0 (pc := 3) dX3_firstAt_3 rfl ?_
  refine j_imul C0 (pc := 4) dX3_firstAt_4 ?_
  refine j_ishl C0 (pc := 5) dX3_firstAt_5 ?_
  exact j_iret C rfl h dX3_firstAt_6 (by decide)
theorem dX3_secondAt_0 : decode cX3_secondAt 0 = .ok (.sipush 4369, 3) := by decide +kernel
theorem dX3_secondAt_3 : decode cX3_secondAt 3 = .ok (.iload_n 1, 1) := by decide +kernel
theorem dX3_secondAt_4 : decode cX3_secondAt 4 = .ok (.ishl, 1) := by decide +kernel
theorem dX3_secondAt_5 : decode cX3_secondAt 5 = .ok (.ireturn, 1) := by decide +kernel
noncomputable def F_X3_secondAt (a0 : Nat) (a1 : Int32) (M : m_M) : Option (Int32 × m_M) :=
  some ((4369 : Int32) <<< (a1 &&& 31), M)
set_option maxHeartbeats 4000000 in
theorem K_X3_secondAt (a0 : Nat) (a1 : Int32) (M : m_M) (Φ : Option Value → m_M → Prop) (h : m_ok e_I Φ (F_X3_secondAt a0 a1 M)) : j_Ct yX3_secondAt cX3_secondAt 2 (some .int) 1 0 0 [.ref a0, .int a1] M Φ := by
  refine j_Ct.of (by decide +kernel) (Nat.le_of_ble_eq_true rfl) fun X C => ?_
  have C0 := C.1
  show j_J X 2 0 [some (.ref a0), some (.int a1)] [] (0, 0) M
  unfold F_X3_secondAt at h
  refine j_sipush C0 (pc := 0) dX3_secondAt_0 (v := (4369 : Int32)) (by decide) ?_
  refine j_iload_n C0 (pc := 3) dX3_secondAt_3 rfl ?_
  refine j_ishl C0 (pc := 4) dX3_secondAt_4 ?_
  exact j_iret C rfl h dX3_secondAt_5 (by decide)
theorem dX2_noteSayable_0 : decode cX2_noteSayable 0 = .ok (.aload_n 0, 1) := by decide +kernel
theorem dX2_noteSayable_1 : decode cX2_noteSayable 1 = .ok (.getfield 38, 3) := by decide +kernel
theorem dX2_noteSayable_4 : decode cX2_noteSayable 4 = .ok (.iload_n 1, 1) := by decide +kernel
theorem dX2_noteSayable_5 : decode cX2_noteSayable 5 = .ok (.invokevirtual 117, 3) := by decide +kernel
theorem dX2_noteSayable_8 : decode cX2_noteSayable 8 = .ok (.istore_n 3, 1) := by decide +kernel
theorem dX2_noteSayable_9 : decode cX2_noteSayable 9 = .ok (.aload_n 0, 1) := by decide +kernel
theorem dX2_noteSayable_10 : decode cX2_noteSayable 10 = .ok (.getfield 38, 3) := by decide +kernel
theorem dX2_noteSayable_13 : decode cX2_noteSayable 13 = .ok (.iload_n 1, 1) := by decide +kernel
theorem dX2_noteSayable_14 : decode cX2_noteSayable 14 = .ok (.invokevirtual 120, 3) := by decide +kernel
theorem dX2_noteSayable_17 : decode cX2_noteSayable 17 = .ok (.istore 4, 2) := by decide +kernel
theorem dX2_noteSayable_19 : decode cX2_noteSayable 19 = .ok (.aload_n 0, 1) := by decide +kernel
theorem dX2_noteSayable_20 : decode cX2_noteSayable 20 = .ok (.getfield 38, 3) := by decide +kernel
theorem dX2_noteSayable_23 : decode cX2_noteSayable 23 = .ok (.iload_n 3, 1) := by decide +kernel
theorem dX2_noteSayable_24 : decode cX2_noteSayable 24 = .ok (.iload 4, 2) := by decide +kernel
theorem dX2_noteSayable_26 : decode cX2_noteSayable 26 = .ok (.if_icmp .ne 7, 3) := by decide +kernel
theorem dX2_noteSayable_29 : decode cX2_noteSayable 29 = .ok (.iconst 1, 1) := by decide +kernel
theorem dX2_noteSayable_30 : decode cX2_noteSayable 30 = .ok (.goto 4, 3) := by decide +kernel
theorem dX2_noteSayable_33 : decode cX2_noteSayable 33 = .ok (.iconst 0, 1) := by decide +kernel
theorem dX2_noteSayable_34 : decode cX2_noteSayable 34 = .ok (.invokevirtual 163, 3) := by decide +kernel
theorem dX2_noteSayable_37 : decode cX2_noteSayable 37 = .ok (.istore 5, 2) := by decide +kernel
theorem dX2_noteSayable_39 : decode cX2_noteSayable 39 = .ok (.aload_n 0, 1) := by decide +kernel
theorem dX2_noteSayable_40 : decode cX2_noteSayable 40 = .ok (.getfield 38, 3) := by decide +kernel
theorem dX2_noteSayable_43 : decode cX2_noteSayable 43 = .ok (.iload_n 1, 1) := by decide +kernel
theorem dX2_noteSayable_44 : decode cX2_noteSayable 44 = .ok (.iload_n 2, 1) := by decide +kernel
theorem dX2_noteSayable_45 : decode cX2_noteSayable 45 = .ok (.invokevirtual 113, 3) := by decide +kernel
theorem dX2_noteSayable_48 : decode cX2_noteSayable 48 = .ok (.iload 5, 2) := by decide +kernel
theorem dX2_noteSayable_50 : decode cX2_noteSayable 50 = .ok (.iand, 1) := by decide +kernel
theorem dX2_noteSayable_51 : decode cX2_noteSayable 51 = .ok (.istore 6, 2) := by decide +kernel
theorem dX2_noteSayable_53 : decode cX2_noteSayable 53 = .ok (.iconst 0, 1) := by decide +kernel
theorem dX2_noteSayable_54 : decode cX2_noteSayable 54 = .ok (.istore 7, 2) := by decide +kernel
theorem dX2_noteSayable_56 : decode cX2_noteSayable 56 = .ok (.iload 7, 2) := by decide +kernel
theorem dX2_noteSayable_58 : decode cX2_noteSayable 58 = .ok (.aload_n 0, 1) := by decide +kernel
theorem dX2_noteSayable_59 : decode cX2_noteSayable 59 = .ok (.getfield 38, 3) := by decide +kernel
theorem dX2_noteSayable_62 : decode cX2_noteSayable 62 = .ok (.getfield 167, 3) := by decide +kernel
theorem dX2_noteSayable_65 : decode cX2_noteSayable 65 = .ok (.if_icmp .ge 110, 3) := by decide +kernel
theorem dX2_noteSayable_68 : decode cX2_noteSayable 68 = .ok (.aload_n 0, 1) := by decide +kernel
theorem dX2_noteSayable_69 : decode cX2_noteSayable 69 = .ok (.getfield 38, 3) := by decide +kernel
theorem dX2_noteSayable_72 : decode cX2_noteSayable 72 = .ok (.iload 7, 2) := by decide +kernel
theorem dX2_noteSayable_74 : decode cX2_noteSayable 74 = .ok (.invokevirtual 170, 3) := by decide +kernel
theorem dX2_noteSayable_77 : decode cX2_noteSayable 77 = .ok (.iload 5, 2) := by decide +kernel
theorem dX2_noteSayable_79 : decode cX2_noteSayable 79 = .ok (.iand, 1) := by decide +kernel
theorem dX2_noteSayable_80 : decode cX2_noteSayable 80 = .ok (.istore 8, 2) := by decide +kernel
theorem dX2_noteSayable_82 : decode cX2_noteSayable 82 = .ok (.aload_n 0, 1) := by decide +kernel
theorem dX2_noteSayable_83 : decode cX2_noteSayable 83 = .ok (.getfield 38, 3) := by decide +kernel
theorem dX2_noteSayable_86 : decode cX2_noteSayable 86 = .ok (.iload 7, 2) := by decide +kernel
theorem dX2_noteSayable_88 : decode cX2_noteSayable 88 = .ok (.invokevirtual 173, 3) := by decide +kernel
theorem dX2_noteSayable_91 : decode cX2_noteSayable 91 = .ok (.iload 5, 2) := by decide +kernel
theorem dX2_noteSayable_93 : decode cX2_noteSayable 93 = .ok (.iand, 1) := by decide +kernel
theorem dX2_noteSayable_94 : decode cX2_noteSayable 94 = .ok (.istore 9, 2) := by decide +kernel
theorem dX2_noteSayable_96 : decode cX2_noteSayable 96 = .ok (.iload 6, 2) := by decide +kernel
theorem dX2_noteSayable_98 : decode cX2_noteSayable 98 = .ok (.iload 8, 2) := by decide +kernel
theorem dX2_noteSayable_100 : decode cX2_noteSayable 100 = .ok (.if_icmp .eq 15, 3) := by decide +kernel
theorem dX2_noteSayable_103 : decode cX2_noteSayable 103 = .ok (.iload 6, 2) := by decide +kernel
theorem dX2_noteSayable_105 : decode cX2_noteSayable 105 = .ok (.iload 5, 2) := by decide +kernel
theorem dX2_noteSayable_107 : decode cX2_noteSayable 107 = .ok (.iload 8, 2) := by decide +kernel
theorem dX2_noteSayable_109 : decode cX2_noteSayable 109 = .ok (.iconst (-1), 1) := by decide +kernel
theorem dX2_noteSayable_110 : decode cX2_noteSayable 110 = .ok (.ixor, 1) := by decide +kernel
theorem dX2_noteSayable_111 : decode cX2_noteSayable 111 = .ok (.iand, 1) := by decide +kernel
theorem dX2_noteSayable_112 : decode cX2_noteSayable 112 = .ok (.if_icmp .ne 20, 3) := by decide +kernel
theorem dX2_noteSayable_115 : decode cX2_noteSayable 115 = .ok (.aload_n 0, 1) := by decide +kernel
theorem dX2_noteSayable_116 : decode cX2_noteSayable 116 = .ok (.getfield 9, 3) := by decide +kernel
theorem dX2_noteSayable_119 : decode cX2_noteSayable 119 = .ok (.iload_n 3, 1) := by decide +kernel
theorem dX2_noteSayable_120 : decode cX2_noteSayable 120 = .ok (.iconst 4, 1) := by decide +kernel
theorem dX2_noteSayable_121 : decode cX2_noteSayable 121 = .ok (.imul, 1) := by decide +kernel
theorem dX2_noteSayable_122 : decode cX2_noteSayable 122 = .ok (.iload 7, 2) := by decide +kernel
theorem dX2_noteSayable_124 : decode cX2_noteSayable 124 = .ok (.iadd, 1) := by decide +kernel
theorem dX2_noteSayable_125 : decode cX2_noteSayable 125 = .ok (.dup2, 1) := by decide +kernel
theorem dX2_noteSayable_126 : decode cX2_noteSayable 126 = .ok (.iaload, 1) := by decide +kernel
theorem dX2_noteSayable_127 : decode cX2_noteSayable 127 = .ok (.iconst 1, 1) := by decide +kernel
theorem dX2_noteSayable_128 : decode cX2_noteSayable 128 = .ok (.iload_n 2, 1) := by decide +kernel
theorem dX2_noteSayable_129 : decode cX2_noteSayable 129 = .ok (.ishl, 1) := by decide +kernel
theorem dX2_noteSayable_130 : decode cX2_noteSayable 130 = .ok (.ior, 1) := by decide +kernel
theorem dX2_noteSayable_131 : decode cX2_noteSayable 131 = .ok (.iastore, 1) := by decide +kernel
theorem dX2_noteSayable_132 : decode cX2_noteSayable 132 = .ok (.iload 6, 2) := by decide +kernel
theorem dX2_noteSayable_134 : decode cX2_noteSayable 134 = .ok (.iload 9, 2) := by decide +kernel
theorem dX2_noteSayable_136 : decode cX2_noteSayable 136 = .ok (.if_icmp .eq 15, 3) := by decide +kernel
theorem dX2_noteSayable_139 : decode cX2_noteSayable 139 = .ok (.iload 6, 2) := by decide +kernel
theorem dX2_noteSayable_141 : decode cX2_noteSayable 141 = .ok (.iload 5, 2) := by decide +kernel
theorem dX2_noteSayable_143 : decode cX2_noteSayable 143 = .ok (.iload 9, 2) := by decide +kernel
theorem dX2_noteSayable_145 : decode cX2_noteSayable 145 = .ok (.iconst (-1), 1) := by decide +kernel
theorem dX2_noteSayable_146 : decode cX2_noteSayable 146 = .ok (.ixor, 1) := by decide +kernel
theorem dX2_noteSayable_147 : decode cX2_noteSayable 147 = .ok (.iand, 1) := by decide +kernel
theorem dX2_noteSayable_148 : decode cX2_noteSayable 148 = .ok (.if_icmp .ne 21, 3) := by decide +kernel
theorem dX2_noteSayable_151 : decode cX2_noteSayable 151 = .ok (.aload_n 0, 1) := by decide +kernel
theorem dX2_noteSayable_152 : decode cX2_noteSayable 152 = .ok (.getfield 9, 3) := by decide +kernel
theorem dX2_noteSayable_155 : decode cX2_noteSayable 155 = .ok (.iload 4, 2) := by decide +kernel
theorem dX2_noteSayable_157 : decode cX2_noteSayable 157 = .ok (.iconst 4, 1) := by decide +kernel
theorem dX2_noteSayable_158 : decode cX2_noteSayable 158 = .ok (.imul, 1) := by decide +kernel
theorem dX2_noteSayable_159 : decode cX2_noteSayable 159 = .ok (.iload 7, 2) := by decide +kernel
theorem dX2_noteSayable_161 : decode cX2_noteSayable 161 = .ok (.iadd, 1) := by decide +kernel
theorem dX2_noteSayable_162 : decode cX2_noteSayable 162 = .ok (.dup2, 1) := by decide +kernel
theorem dX2_noteSayable_163 : decode cX2_noteSayable 163 = .ok (.iaload, 1) := by decide +kernel
theorem dX2_noteSayable_164 : decode cX2_noteSayable 164 = .ok (.iconst 1, 1) := by decide +kernel
theorem dX2_noteSayable_165 : decode cX2_noteSayable 165 = .ok (.iload_n 2, 1) := by decide +kernel
theorem dX2_noteSayable_166 : decode cX2_noteSayable 166 = .ok (.ishl, 1) := by decide +kernel
theorem dX2_noteSayable_167 : decode cX2_noteSayable 167 = .ok (.ior, 1) := by decide +kernel
theorem dX2_noteSayable_168 : decode cX2_noteSayable 168 = .ok (.iastore, 1) := by decide +kernel
theorem dX2_noteSayable_169 : decode cX2_noteSayable 169 = .ok (.iinc 7 1, 3) := by decide +kernel
theorem dX2_noteSayable_172 : decode cX2_noteSayable 172 = .ok (.goto (-116), 3) := by decide +kernel
theorem dX2_noteSayable_175 : decode cX2_noteSayable 175 = .ok (.return_, 1) := by decide +kernel
noncomputable def F_X2_noteSayable_56 : Nat → Nat → Int32 → Int32 → Int32 → Int32 → Int32 → Int32 → m_M → Option (Unit × m_M)
  | 0, _, _, _, _, _, _, _, _ => none
  | n + 1, v1, v2, v3, v4, v5, v6, v7, M =>
    x_gN 2 M v1 5 fun v8 =>
    x_gI 3 M v8 0 fun v9 =>
    if v9 ≤ v7 then (
      some ((), M)
    ) else
    m_let (fun (v10 : Nat) (v11 : Int32) (v12 : Int32) (v13 : Int32) (v14 : Int32) (v15 : Int32) (v16 : Int32) (v17 : Int32) (M1 : m_M) =>
      m_let (fun (v18 : Nat) (v19 : Int32) (v20 : Int32) (v21 : Int32) (v22 : Int32) (v23 : Int32) (v24 : Int32) (M2 : m_M) =>
        m_let (v24 + (1 : Int32)) fun v25 =>
        F_X2_noteSayable_56 n v18 v19 v20 v21 v22 v23 v25 M2
      ) fun (k169 : Nat → Int32 → Int32 → Int32 → Int32 → Int32 → Int32 → m_M → Option (Unit × m_M)) =>
      m_let (fun (v26 : Nat) (v27 : Int32) (v28 : Int32) (v29 : Int32) (v30 : Int32) (v31 : Int32) (v32 : Int32) (M3 : m_M) =>
        x_gN 2 M3 v26 4 fun v33 =>
        x_aI 12 M3 v33 ((v29 * (4 : Int32)) + v32) fun v34 =>
        x_sI 12 M3 v33 ((v29 * (4 : Int32)) + v32) (v34 ||| ((1 : Int32) <<< (v27 &&& 31))) fun M4 =>
        k169 v26 v27 v28 v29 v30 v31 v32 M4
      ) fun (k151 : Nat → Int32 → Int32 → Int32 → Int32 → Int32 → Int32 → m_M → Option (Unit × m_M)) =>
      if v15 = v17 then (
        k151 v10 v11 v12 v13 v14 v15 v16 M1
      ) else
      if v15 = (v14 &&& (v17 ^^^ (-1 : Int32))) then (
        k151 v10 v11 v12 v13 v14 v15 v16 M1
      ) else
      k169 v10 v11 v12 v13 v14 v15 v16 M1
    ) fun (k132 : Nat → Int32 → Int32 → Int32 → Int32 → Int32 → Int32 → Int32 → m_M → Option (Unit × m_M)) =>
    m_let (fun (v35 : Nat) (v36 : Int32) (v37 : Int32) (v38 : Int32) (v39 : Int32) (v40 : Int32) (v41 : Int32) (v42 : Int32) (M5 : m_M) =>
      x_gN 2 M5 v35 4 fun v43 =>
      x_aI 12 M5 v43 ((v37 * (4 : Int32)) + v41) fun v44 =>
      x_sI 12 M5 v43 ((v37 * (4 : Int32)) + v41) (v44 ||| ((1 : Int32) <<< (v36 &&& 31))) fun M6 =>
      k132 v35 v36 v37 v38 v39 v40 v41 v42 M6
    ) fun (k115 : Nat → Int32 → Int32 → Int32 → Int32 → Int32 → Int32 → Int32 → m_M → Option (Unit × m_M)) =>
    x_gN 2 M v1 5 fun v45 =>
    x_cV 3 M v45 (F_X3_firstAt v45 v7 M) fun v46 M7 =>
    m_let (v46 &&& v5) fun v47 =>
    x_gN 2 M7 v1 5 fun v48 =>
    x_cV 3 M7 v48 (F_X3_secondAt v48 v7 M7) fun v49 M8 =>
    m_let (v49 &&& v5) fun v50 =>
    if v6 = v47 then (
      k115 v1 v2 v3 v4 v5 v6 v7 v50 M8
    ) else
    if v6 = (v5 &&& (v47 ^^^ (-1 : Int32))) then (
      k115 v1 v2 v3 v4 v5 v6 v7 v50 M8
    ) else
    k132 v1 v2 v3 v4 v5 v6 v7 v50 M8
noncomputable def F_X2_noteSayable (a0 : Nat) (a1 : Int32) (a2 : Int32) (M : m_M) : Option (Unit × m_M) :=
  m_let (fun (v1 : Nat) (v2 : Int32) (v3 : Int32) (v4 : Int32) (v5 : Int32) (v6 : Nat) (v7 : Int32) (M1 : m_M) =>
    x_cV 3 M1 v6 (F_X3_wholeTable v6 v7 M1) fun v8 M2 =>
    x_gN 2 M2 v1 5 fun v9 =>
    x_cV 3 M2 v9 (F_X3_clauseTable v9 v2 v3 M2) fun v10 M3 =>
    m_let (v10 &&& v8) fun v11 =>
    F_X2_noteSayable_56 m_FU v1 v3 v4 v5 v8 v11 (0 : Int32) M3
  ) fun (k34 : Nat → Int32 → Int32 → Int32 → Int32 → Nat → Int32 → m_M → Option (Unit × m_M)) =>
  x_gN 2 M a0 5 fun v12 =>
  x_cV 3 M v12 (F_X3_firstThing v12 a1 M) fun v13 M4 =>
  x_gN 2 M4 a0 5 fun v14 =>
  x_cV 3 M4 v14 (F_X3_secondThing v14 a1 M4) fun v15 M5 =>
  x_gN 2 M5 a0 5 fun v16 =>
  if v13 = v15 then (
    k34 a0 a1 a2 v13 v15 v16 (1 : Int32) M5
  ) else
  k34 a0 a1 a2 v13 v15 v16 (0 : Int32) M5
set_option maxHeartbeats 4000000 in
theorem L_X2_noteSayable_56 {X : j_X} {Φ : Option Value → m_M → Prop} (C : j_C X yX2_noteSayable cX2_noteSayable 10 none 6 0 0 Φ) : ∀ (n : Nat) (v1 : Nat) (v2 : Int32) (v3 : Int32) (v4 : Int32) (v5 : Int32) (v6 : Int32) (v7 : Int32) (M : m_M), m_ok e_V Φ (F_X2_noteSayable_56 n v1 v2 v3 v4 v5 v6 v7 M) → j_J X 10 56 [some (.ref v1), none, some (.int v2), some (.int v3), some (.int v4), some (.int v5), some (.int v6), some (.int v7), none, none] [] (0, 0) M := by
  have C0 := C.1
  intro n
  induction n with
  | zero => intro v1 v2 v3 v4 v5 v6 v7 M h; exact False.elim h
  | succ n ih =>
    intro v1 v2 v3 v4 v5 v6 v7 M h
    rw [F_X2_noteSayable_56] at h
    refine j_iload C0 (pc := 56) dX2_noteSayable_56 rfl ?_
    refine j_aload_n C0 (pc := 58) dX2_noteSayable_58 rfl ?_
    refine X_gN C0 (pc := 59) f_Finder_38_2 rfl dX2_noteSayable_59 h (fun v8 h => ?_)
    refine X_gI C0 (pc := 62) f_Finder_167_3 rfl dX2_noteSayable_62 h (fun v9 h => ?_)
    refine j_icmp_ge C0 (pc := 65) (tgt := 175) dX2_noteSayable_65 (by decide) (fun hc => ?_) (fun hc => ?_)
    · replace h := (X_if h).1 hc
      exact j_vret C rfl h dX2_noteSayable_175 (by decide)
    · replace h := (X_if h).2 hc
      refine X_join (fun (kj : Nat → Int32 → Int32 → Int32 → Int32 → Int32 → Int32 → Int32 → m_M → Option (Unit × m_M)) => ∀ (p0 : Nat) (p1 : Int32) (p2 : Int32) (p3 : Int32) (p4 : Int32) (p5 : Int32) (p6 : Int32) (p7 : Int32) (M : m_M), m_ok e_V Φ (kj p0 p1 p2 p3 p4 p5 p6 p7 M) → j_J X 10 132 [some (.ref p0), none, some (.int p1), some (.int p2), some (.int p3), some (.int p4), some (.int p5), some (.int p6), none, some (.int p7)] [] (0, 0) M) h (fun v10 v11 v12 v13 v14 v15 v16 v17 M1 h => ?_) (fun k132 hk132 h => ?_)
      · refine X_join (fun (kj : Nat → Int32 → Int32 → Int32 → Int32 → Int32 → Int32 → m_M → Option (Unit × m_M)) => ∀ (p0 : Nat) (p1 : Int32) (p2 : Int32) (p3 : Int32) (p4 : Int32) (p5 : Int32) (p6 : Int32) (M : m_M), m_ok e_V Φ (kj p0 p1 p2 p3 p4 p5 p6 M) → j_J X 10 169 [some (.ref p0), none, some (.int p1), some (.int p2), some (.int p3), some (.int p4), some (.int p5), some (.int p6), none, none] [] (0, 0) M) h (fun v18 v19 v20 v21 v22 v23 v24 M2 h => ?_) (fun k169 hk169 h => ?_)
        · refine j_iinc C0 (pc := 169) dX2_noteSayable_169 (v := v24 + (1 : Int32)) rfl (Nat.le_of_ble_eq_true rfl) (by rfl) ?_
          refine X_let (G := fun w => j_J X 10 172 [some (.ref v18), none, some (.int v19), some (.int v20), some (.int v21), some (.int v22), some (.int v23), some (.int w), none, none] [] (0, 0) M2) h (fun v25 h => ?_)
          refine j_goto C0 (pc := 172) (tgt := 56) dX2_noteSayable_172 (by decide) ?_
          exact j_J.wq (ih v18 v19 v20 v21 v22 v23 v25 M2 h) (And.intro rfl (And.intro rfl (And.intro rfl (And.intro rfl (And.intro rfl (And.intro rfl (And.intro rfl (trivial))))))))
        · refine X_join (fun (kj : Nat → Int32 → Int32 → Int32 → Int32 → Int32 → Int32 → m_M → Option (Unit × m_M)) => ∀ (p0 : Nat) (p1 : Int32) (p2 : Int32) (p3 : Int32) (p4 : Int32) (p5 : Int32) (p6 : Int32) (M : m_M), m_ok e_V Φ (kj p0 p1 p2 p3 p4 p5 p6 M) → j_J X 10 151 [some (.ref p0), none, some (.int p1), some (.int p2), some (.int p3), some (.int p4), some (.int p5), some (.int p6), none, none] [] (0, 0) M) h (fun v26 v27 v28 v29 v30 v31 v32 M3 h => ?_) (fun k151 hk151 h => ?_)
          · refine j_aload_n C0 (pc := 151) dX2_noteSayable_151 rfl ?_
            refine X_gN C0 (pc := 152) f_Finder_9_2 rfl dX2_noteSayable_152 h (fun v33 h => ?_)
            refine j_iload C0 (pc := 155) dX2_noteSayable_155 rfl ?_
            refine j_iconst C0 (pc := 157) dX2_noteSayable_157 (v := (4 : Int32)) (by decide) ?_
            refine j_imul C0 (pc := 158) dX2_noteSayable_158 ?_
            refine j_iload C0 (pc := 159) dX2_noteSayable_159 rfl ?_
            refine j_iadd C0 (pc := 161) dX2_noteSayable_161 ?_
            refine j_dup2 C0 (pc := 162) dX2_noteSayable_162 rfl rfl ?_
            refine X_iald C0 (pc := 163) dX2_noteSayable_163 h (fun v34 h => ?_)
            refine j_iconst C0 (pc := 164) dX2_noteSayable_164 (v := (1 : Int32)) (by decide) ?_
            refine j_iload_n C0 (pc := 165) dX2_noteSayable_165 rfl ?_
            refine j_ishl C0 (pc := 166) dX2_noteSayable_166 ?_
            refine j_ior C0 (pc := 167) dX2_noteSayable_167 ?_
            refine X_iast C0 (pc := 168) dX2_noteSayable_168 h (fun M4 h => ?_)
            exact j_J.wq (hk169 v26 v27 v28 v29 v30 v31 v32 M4 h) (And.intro rfl (And.intro rfl (And.intro rfl (And.intro rfl (And.intro rfl (And.intro rfl (And.intro rfl (trivial))))))))
          · refine j_iload C0 (pc := 132) dX2_noteSayable_132 rfl ?_
            refine j_iload C0 (pc := 134) dX2_noteSayable_134 rfl ?_
            refine j_icmp_eq C0 (pc := 136) (tgt := 151) dX2_noteSayable_136 (by decide) (fun hc => ?_) (fun hc => ?_)
            · replace h := (X_if h).1 hc
              exact j_J.wq (hk151 v10 v11 v12 v13 v14 v15 v16 M1 h) (And.intro rfl (And.intro rfl (And.intro rfl (And.intro rfl (And.intro rfl (And.intro rfl (And.intro rfl (trivial))))))))
            · replace h := (X_if h).2 hc
              refine j_iload C0 (pc := 139) dX2_noteSayable_139 rfl ?_
              refine j_iload C0 (pc := 141) dX2_noteSayable_141 rfl ?_
              refine j_iload C0 (pc := 143) dX2_noteSayable_143 rfl ?_
              refine j_iconst C0 (pc := 145) dX2_noteSayable_145 (v := (-1 : Int32)) (by decide) ?_
              refine j_ixor C0 (pc := 146) dX2_noteSayable_146 ?_
              refine j_iand C0 (pc := 147) dX2_noteSayable_147 ?_
              refine j_icmp_ne C0 (pc := 148) (tgt := 169) dX2_noteSayable_148 (by decide) (fun hc => ?_) (fun hc => ?_)
              · replace h := (X_if h).2 hc
                exact j_J.wq (hk169 v10 v11 v12 v13 v14 v15 v16 M1 h) (And.intro rfl (And.intro rfl (And.intro rfl (And.intro rfl (And.intro rfl (And.intro rfl (And.intro rfl (trivial))))))))
              · replace h := (X_if h).1 hc
                exact j_J.wq (hk151 v10 v11 v12 v13 v14 v15 v16 M1 h) (And.intro rfl (And.intro rfl (And.intro rfl (And.intro rfl (And.intro rfl (And.intro rfl (And.intro rfl (trivial))))))))
      · refine X_join (fun (kj : Nat → Int32 → Int32 → Int32 → Int32 → Int32 → Int32 → Int32 → m_M → Option (Unit × m_M)) => ∀ (p0 : Nat) (p1 : Int32) (p2 : Int32) (p3 : Int32) (p4 : Int32) (p5 : Int32) (p6 : Int32) (p7 : Int32) (M : m_M), m_ok e_V Φ (kj p0 p1 p2 p3 p4 p5 p6 p7 M) → j_J X 10 115 [some (.ref p0), none, some (.int p1), some (.int p2), some (.int p3), some (.int p4), some (.int p5), some (.int p6), none, some (.int p7)] [] (0, 0) M) h (fun v35 v36 v37 v38 v39 v40 v41 v42 M5 h => ?_) (fun k115 hk115 h => ?_)
        · refine j_aload_n C0 (pc := 115) dX2_noteSayable_115 rfl ?_
          refine X_gN C0 (pc := 116) f_Finder_9_2 rfl dX2_noteSayable_116 h (fun v43 h => ?_)
          refine j_iload_n C0 (pc := 119) dX2_noteSayable_119 rfl ?_
          refine j_iconst C0 (pc := 120) dX2_noteSayable_120 (v := (4 : Int32)) (by decide) ?_
          refine j_imul C0 (pc := 121) dX2_noteSayable_121 ?_
          refine j_iload C0 (pc := 122) dX2_noteSayable_122 rfl ?_
          refine j_iadd C0 (pc := 124) dX2_noteSayable_124 ?_
          refine j_dup2 C0 (pc := 125) dX2_noteSayable_125 rfl rfl ?_
          refine X_iald C0 (pc := 126) dX2_noteSayable_126 h (fun v44 h => ?_)
          refine j_iconst C0 (pc := 127) dX2_noteSayable_127 (v := (1 : Int32)) (by decide) ?_
          refine j_iload_n C0 (pc := 128) dX2_noteSayable_128 rfl ?_
          refine j_ishl C0 (pc := 129) dX2_noteSayable_129 ?_
          refine j_ior C0 (pc := 130) dX2_noteSayable_130 ?_
          refine X_iast C0 (pc := 131) dX2_noteSayable_131 h (fun M6 h => ?_)
          exact j_J.wq (hk132 v35 v36 v37 v38 v39 v40 v41 v42 M6 h) (And.intro rfl (And.intro rfl (And.intro rfl (And.intro rfl (And.intro rfl (And.intro rfl (And.intro rfl (And.intro rfl (trivial)))))))))
        · refine j_aload_n C0 (pc := 68) dX2_noteSayable_68 rfl ?_
          refine X_gN C0 (pc := 69) f_Finder_38_2 rfl dX2_noteSayable_69 h (fun v45 h => ?_)
          refine j_iload C0 (pc := 72) dX2_noteSayable_72 rfl ?_
          refine X_cV C0 (pc := 74) (e' := e_I) (as := [.int v7]) (rest := []) (s' := fun w => .int w :: []) (g' := (0, 0)) v_Finder_170_3 (fun Ψ hΨ => K_X3_firstAt v45 v7 M Ψ hΨ) rfl rfl (fun _ => rfl) (by decide) (by decide) rfl (Nat.le_of_ble_eq_true rfl) dX2_noteSayable_74 h (fun v46 M7 h => ?_)
          refine j_iload C0 (pc := 77) dX2_noteSayable_77 rfl ?_
          refine j_iand C0 (pc := 79) dX2_noteSayable_79 ?_
          refine X_let (G := fun w => j_J X 10 80 [some (.ref v1), none, some (.int v2), some (.int v3), some (.int v4), some (.int v5), some (.int v6), some (.int v7), none, none] (.int w :: []) (0, 0) M7) h (fun v47 h => ?_)
          refine j_istore C0 (pc := 80) dX2_noteSayable_80 (Nat.le_of_ble_eq_true rfl) ?_
          show j_J X 10 82 [some (.ref v1), none, some (.int v2), some (.int v3), some (.int v4), some (.int v5), some (.int v6), some (.int v7), some (.int v47), none] [] (0, 0) M7
          refine j_aload_n C0 (pc := 82) dX2_noteSayable_82 rfl ?_
          refine X_gN C0 (pc := 83) f_Finder_38_2 rfl dX2_noteSayable_83 h (fun v48 h => ?_)
          refine j_iload C0 (pc := 86) dX2_noteSayable_86 rfl ?_
          refine X_cV C0 (pc := 88) (e' := e_I) (as := [.int v7]) (rest := []) (s' := fun w => .int w :: []) (g' := (0, 0)) v_Finder_173_3 (fun Ψ hΨ => K_X3_secondAt v48 v7 M7 Ψ hΨ) rfl rfl (fun _ => rfl) (by decide) (by decide) rfl (Nat.le_of_ble_eq_true rfl) dX2_noteSayable_88 h (fun v49 M8 h => ?_)
          refine j_iload C0 (pc := 91) dX2_noteSayable_91 rfl ?_
          refine j_iand C0 (pc := 93) dX2_noteSayable_93 ?_
          refine X_let (G := fun w => j_J X 10 94 [some (.ref v1), none, some (.int v2), some (.int v3), some (.int v4), some (.int v5), some (.int v6), some (.int v7), some (.int v47), none] (.int w :: []) (0, 0) M8) h (fun v50 h => ?_)
          refine j_istore C0 (pc := 94) dX2_noteSayable_94 (Nat.le_of_ble_eq_true rfl) ?_
          show j_J X 10 96 [some (.ref v1), none, some (.int v2), some (.int v3), some (.int v4), some (.int v5), some (.int v6), some (.int v7), some (.int v47), some (.int v50)] [] (0, 0) M8
          refine j_iload C0 (pc := 96) dX2_noteSayable_96 rfl ?_
          refine j_iload C0 (pc := 98) dX2_noteSayable_98 rfl ?_
          refine j_icmp_eq C0 (pc := 100) (tgt := 115) dX2_noteSayable_100 (by decide) (fun hc => ?_) (fun hc => ?_)
          · replace h := (X_if h).1 hc
            exact j_J.wq (hk115 v1 v2 v3 v4 v5 v6 v7 v50 M8 h) (And.intro rfl (And.intro rfl (And.intro rfl (And.intro rfl (And.intro rfl (And.intro rfl (And.intro rfl (And.intro rfl (trivial)))))))))
          · replace h := (X_if h).2 hc
            refine j_iload C0 (pc := 103) dX2_noteSayable_103 rfl ?_
            refine j_iload C0 (pc := 105) dX2_noteSayable_105 rfl ?_
            refine j_iload C0 (pc := 107) dX2_noteSayable_107 rfl ?_
            refine j_iconst C0 (pc := 109) dX2_noteSayable_109 (v := (-1 : Int32)) (by decide) ?_
            refine j_ixor C0 (pc := 110) dX2_noteSayable_110 ?_
            refine j_iand C0 (pc := 111) dX2_noteSayable_111 ?_
            refine j_icmp_ne C0 (pc := 112) (tgt := 132) dX2_noteSayable_112 (by decide) (fun hc => ?_) (fun hc => ?_)
            · replace h := (X_if h).2 hc
              exact j_J.wq (hk132 v1 v2 v3 v4 v5 v6 v7 v50 M8 h) (And.intro rfl (And.intro rfl (And.intro rfl (And.intro rfl (And.intro rfl (And.intro rfl (And.intro rfl (And.intro rfl (trivial)))))))))
            · replace h := (X_if h).1 hc
              exact j_J.wq (hk115 v1 v2 v3 v4 v5 v6 v7 v50 M8 h) (And.intro rfl (And.intro rfl (And.intro rfl (And.intro rfl (And.intro rfl (And.intro rfl (And.intro rfl (And.intro rfl (trivial)))))))))
set_option maxHeartbeats 4000000 in
theorem K_X2_noteSayable (a0 : Nat) (a1 : Int32) (a2 : Int32) (M : m_M) (Φ : Option Value → m_M → Prop) (h : m_ok e_V Φ (F_X2_noteSayable a0 a1 a2 M)) : j_Ct yX2_noteSayable cX2_noteSayable 10 none 6 0 0 [.ref a0, .int a1, .int a2] M Φ := by
  refine j_Ct.of (by decide +kernel) (Nat.le_of_ble_eq_true rfl) fun X C => ?_
  have C0 := C.1
  show j_J X 10 0 [some (.ref a0), some (.int a1), some (.int a2), none, none, none, none, none, none, none] [] (0, 0) M
  unfold F_X2_noteSayable at h
  refine X_join (fun (kj : Nat → Int32 → Int32 → Int32 → Int32 → Nat → Int32 → m_M → Option (Unit × m_M)) => ∀ (p0 : Nat) (p1 : Int32) (p2 : Int32) (p3 : Int32) (p4 : Int32) (p5 : Nat) (p6 : Int32) (M : m_M), m_ok e_V Φ (kj p0 p1 p2 p3 p4 p5 p6 M) → j_J X 10 34 [some (.ref p0), some (.int p1), some (.int p2), some (.int p3), some (.int p4), none, none, none, none, none] [.int p6, .ref p5] (0, 0) M) h (fun v1 v2 v3 v4 v5 v6 v7 M1 h => ?_) (fun k34 hk34 h => ?_)
  · refine X_cV C0 (pc := 34) (e' := e_I) (as := [.int v7]) (rest := []) (s' := fun w => .int w :: []) (g' := (0, 0)) v_Finder_163_3 (fun Ψ hΨ => K_X3_wholeTable v6 v7 M1 Ψ hΨ) rfl rfl (fun _ => rfl) (by decide) (by decide) rfl (Nat.le_of_ble_eq_true rfl) dX2_noteSayable_34 h (fun v8 M2 h => ?_)
    refine j_istore C0 (pc := 37) dX2_noteSayable_37 (Nat.le_of_ble_eq_true rfl) ?_
    show j_J X 10 39 [some (.ref v1), some (.int v2), some (.int v3), some (.int v4), some (.int v5), some (.int v8), none, none, none, none] [] (0, 0) M2
    refine j_aload_n C0 (pc := 39) dX2_noteSayable_39 rfl ?_
    refine X_gN C0 (pc := 40) f_Finder_38_2 rfl dX2_noteSayable_40 h (fun v9 h => ?_)
    refine j_iload_n C0 (pc := 43) dX2_noteSayable_43 rfl ?_
    refine j_iload_n C0 (pc := 44) dX2_noteSayable_44 rfl ?_
    refine X_cV C0 (pc := 45) (e' := e_I) (as := [.int v2, .int v3]) (rest := []) (s' := fun w => .int w :: []) (g' := (0, 0)) v_Finder_113_3 (fun Ψ hΨ => K_X3_clauseTable v9 v2 v3 M2 Ψ hΨ) rfl rfl (fun _ => rfl) (by decide) (by decide) rfl (Nat.le_of_ble_eq_true rfl) dX2_noteSayable_45 h (fun v10 M3 h => ?_)
    refine j_iload C0 (pc := 48) dX2_noteSayable_48 rfl ?_
    refine j_iand C0 (pc := 50) dX2_noteSayable_50 ?_
    refine X_let (G := fun w => j_J X 10 51 [some (.ref v1), some (.int v2), some (.int v3), some (.int v4), some (.int v5), some (.int v8), none, none, none, none] (.int w :: []) (0, 0) M3) h (fun v11 h => ?_)
    refine j_istore C0 (pc := 51) dX2_noteSayable_51 (Nat.le_of_ble_eq_true rfl) ?_
    show j_J X 10 53 [some (.ref v1), some (.int v2), some (.int v3), some (.int v4), some (.int v5), some (.int v8), some (.int v11), none, none, none] [] (0, 0) M3
    refine j_iconst C0 (pc := 53) dX2_noteSayable_53 (v := (0 : Int32)) (by decide) ?_
    refine j_istore C0 (pc := 54) dX2_noteSayable_54 (Nat.le_of_ble_eq_true rfl) ?_
    show j_J X 10 56 [some (.ref v1), some (.int v2), some (.int v3), some (.int v4), some (.int v5), some (.int v8), some (.int v11), some (.int (0 : Int32)), none, none] [] (0, 0) M3
    exact j_J.wq (L_X2_noteSayable_56 C m_FU v1 v3 v4 v5 v8 v11 (0 : Int32) M3 h) (And.intro rfl (And.intro rfl (And.intro rfl (And.intro rfl (And.intro rfl (And.intro rfl (And.intro rfl (trivial))))))))
  · refine j_aload_n C0 (pc := 0) dX2_noteSayable_0 rfl ?_
    refine X_gN C0 (pc := 1) f_Finder_38_2 rfl dX2_noteSayable_1 h (fun v12 h => ?_)
    refine j_iload_n C0 (pc := 4) dX2_noteSayable_4 rfl ?_
    refine X_cV C0 (pc := 5) (e' := e_I) (as := [.int a1]) (rest := []) (s' := fun w => .int w :: []) (g' := (0, 0)) v_Finder_117_3 (fun Ψ hΨ => K_X3_firstThing v12 a1 M Ψ hΨ) rfl rfl (fun _ => rfl) (by decide) (by decide) rfl (Nat.le_of_ble_eq_true rfl) dX2_noteSayable_5 h (fun v13 M4 h => ?_)
    refine j_istore_n C0 (pc := 8) dX2_noteSayable_8 (Nat.le_of_ble_eq_true rfl) ?_
    show j_J X 10 9 [some (.ref a0), some (.int a1), some (.int a2), some (.int v13), none, none, none, none, none, none] [] (0, 0) M4
    refine j_aload_n C0 (pc := 9) dX2_noteSayable_9 rfl ?_
    refine X_gN C0 (pc := 10) f_Finder_38_2 rfl dX2_noteSayable_10 h (fun v14 h => ?_)
    refine j_iload_n C0 (pc := 13) dX2_noteSayable_13 rfl ?_
    refine X_cV C0 (pc := 14) (e' := e_I) (as := [.int a1]) (rest := []) (s' := fun w => .int w :: []) (g' := (0, 0)) v_Finder_120_3 (fun Ψ hΨ => K_X3_secondThing v14 a1 M4 Ψ hΨ) rfl rfl (fun _ => rfl) (by decide) (by decide) rfl (Nat.le_of_ble_eq_true rfl) dX2_noteSayable_14 h (fun v15 M5 h => ?_)
    refine j_istore C0 (pc := 17) dX2_noteSayable_17 (Nat.le_of_ble_eq_true rfl) ?_
    show j_J X 10 19 [some (.ref a0), some (.int a1), some (.int a2), some (.int v13), some (.int v15), none, none, none, none, none] [] (0, 0) M5
    refine j_aload_n C0 (pc := 19) dX2_noteSayable_19 rfl ?_
    refine X_gN C0 (pc := 20) f_Finder_38_2 rfl dX2_noteSayable_20 h (fun v16 h => ?_)
    refine j_iload_n C0 (pc := 23) dX2_noteSayable_23 rfl ?_
    refine j_iload C0 (pc := 24) dX2_noteSayable_24 rfl ?_
    refine j_icmp_ne C0 (pc := 26) (tgt := 33) dX2_noteSayable_26 (by decide) (fun hc => ?_) (fun hc => ?_)
    · replace h := (X_if h).2 hc
      refine j_iconst C0 (pc := 33) dX2_noteSayable_33 (v := (0 : Int32)) (by decide) ?_
      exact j_J.wq (hk34 a0 a1 a2 v13 v15 v16 (0 : Int32) M5 h) (And.intro rfl (And.intro rfl (And.intro rfl (And.intro rfl (And.intro rfl (trivial))))))
    · replace h := (X_if h).1 hc
      refine j_iconst C0 (pc := 29) dX2_noteSayable_29 (v := (1 : Int32)) (by decide) ?_
      refine j_goto C0 (pc := 30) (tgt := 34) dX2_noteSayable_30 (by decide) ?_
      exact j_J.wq (hk34 a0 a1 a2 v13 v15 v16 (1 : Int32) M5 h) (And.intro rfl (And.intro rfl (And.intro rfl (And.intro rfl (And.intro rfl (trivial))))))
theorem dX2_findSayable_0 : decode cX2_findSayable 0 = .ok (.aload_n 0, 1) := by decide +kernel
theorem dX2_findSayable_1 : decode cX2_findSayable 1 = .ok (.getfield 9, 3) := by decide +kernel
theorem dX2_findSayable_4 : decode cX2_findSayable 4 = .ok (.iconst 0, 1) := by decide +kernel
theorem dX2_findSayable_5 : decode cX2_findSayable 5 = .ok (.invokestatic 150, 3) := by decide +kernel
theorem dX2_findSayable_8 : decode cX2_findSayable 8 = .ok (.iconst 0, 1) := by decide +kernel
theorem dX2_findSayable_9 : decode cX2_findSayable 9 = .ok (.istore_n 1, 1) := by decide +kernel
theorem dX2_findSayable_10 : decode cX2_findSayable 10 = .ok (.iload_n 1, 1) := by decide +kernel
theorem dX2_findSayable_11 : decode cX2_findSayable 11 = .ok (.aload_n 0, 1) := by decide +kernel
theorem dX2_findSayable_12 : decode cX2_findSayable 12 = .ok (.getfield 38, 3) := by decide +kernel
theorem dX2_findSayable_15 : decode cX2_findSayable 15 = .ok (.getfield 156, 3) := by decide +kernel
theorem dX2_findSayable_18 : decode cX2_findSayable 18 = .ok (.iconst 2, 1) := by decide +kernel
theorem dX2_findSayable_19 : decode cX2_findSayable 19 = .ok (.iaload, 1) := by decide +kernel
theorem dX2_findSayable_20 : decode cX2_findSayable 20 = .ok (.if_icmp .ge 41, 3) := by decide +kernel
theorem dX2_findSayable_23 : decode cX2_findSayable 23 = .ok (.iconst 0, 1) := by decide +kernel
theorem dX2_findSayable_24 : decode cX2_findSayable 24 = .ok (.istore_n 2, 1) := by decide +kernel
theorem dX2_findSayable_25 : decode cX2_findSayable 25 = .ok (.iload_n 2, 1) := by decide +kernel
theorem dX2_findSayable_26 : decode cX2_findSayable 26 = .ok (.sipush 400, 3) := by decide +kernel
theorem dX2_findSayable_29 : decode cX2_findSayable 29 = .ok (.if_icmp .ge 26, 3) := by decide +kernel
theorem dX2_findSayable_32 : decode cX2_findSayable 32 = .ok (.aload_n 0, 1) := by decide +kernel
theorem dX2_findSayable_33 : decode cX2_findSayable 33 = .ok (.getfield 38, 3) := by decide +kernel
theorem dX2_findSayable_36 : decode cX2_findSayable 36 = .ok (.iload_n 2, 1) := by decide +kernel
theorem dX2_findSayable_37 : decode cX2_findSayable 37 = .ok (.invokevirtual 73, 3) := by decide +kernel
theorem dX2_findSayable_40 : decode cX2_findSayable 40 = .ok (.ifCond .eq 9, 3) := by decide +kernel
theorem dX2_findSayable_43 : decode cX2_findSayable 43 = .ok (.aload_n 0, 1) := by decide +kernel
theorem dX2_findSayable_44 : decode cX2_findSayable 44 = .ok (.iload_n 2, 1) := by decide +kernel
theorem dX2_findSayable_45 : decode cX2_findSayable 45 = .ok (.iload_n 1, 1) := by decide +kernel
theorem dX2_findSayable_46 : decode cX2_findSayable 46 = .ok (.invokevirtual 159, 3) := by decide +kernel
theorem dX2_findSayable_49 : decode cX2_findSayable 49 = .ok (.iinc 2 1, 3) := by decide +kernel
theorem dX2_findSayable_52 : decode cX2_findSayable 52 = .ok (.goto (-27), 3) := by decide +kernel
theorem dX2_findSayable_55 : decode cX2_findSayable 55 = .ok (.iinc 1 1, 3) := by decide +kernel
theorem dX2_findSayable_58 : decode cX2_findSayable 58 = .ok (.goto (-48), 3) := by decide +kernel
theorem dX2_findSayable_61 : decode cX2_findSayable 61 = .ok (.return_, 1) := by decide +kernel
noncomputable def F_X2_findSayable_25 (k55 : Nat → Int32 → m_M → Option (Unit × m_M)) : Nat → Nat → Int32 → Int32 → m_M → Option (Unit × m_M)
  | 0, _, _, _, _ => none
  | n + 1, v1, v2, v3, M =>
    if (400 : Int32) ≤ v3 then (
      k55 v1 v2 M
    ) else
    m_let (fun (v4 : Nat) (v5 : Int32) (v6 : Int32) (M1 : m_M) =>
      m_let (v6 + (1 : Int32)) fun v7 =>
      F_X2_findSayable_25 k55 n v4 v5 v7 M1
    ) fun (k49 : Nat → Int32 → Int32 → m_M → Option (Unit × m_M)) =>
    x_gN 2 M v1 5 fun v8 =>
    x_cV 3 M v8 (F_X3_isClause v8 v3 M) fun v9 M2 =>
    if v9 = 0 then (
      k49 v1 v2 v3 M2
    ) else
    x_cV 2 M2 v1 (F_X2_noteSayable v1 v3 v2 M2) fun _ M3 =>
    k49 v1 v2 v3 M3
noncomputable def F_X2_findSayable_10 : Nat → Nat → Int32 → m_M → Option (Unit × m_M)
  | 0, _, _, _ => none
  | n + 1, v1, v2, M =>
    x_gN 2 M v1 5 fun v3 =>
    x_gN 3 M v3 6 fun v4 =>
    x_aI 12 M v4 (2 : Int32) fun v5 =>
    if v5 ≤ v2 then (
      some ((), M)
    ) else
    m_let (fun (v6 : Nat) (v7 : Int32) (M1 : m_M) =>
      m_let (v7 + (1 : Int32)) fun v8 =>
      F_X2_findSayable_10 n v6 v8 M1
    ) fun (k55 : Nat → Int32 → m_M → Option (Unit × m_M)) =>
    F_X2_findSayable_25 k55 m_FU v1 v2 (0 : Int32) M
noncomputable def F_X2_findSayable (a0 : Nat) (M : m_M) : Option (Unit × m_M) :=
  x_gN 2 M a0 4 fun v1 =>
  x_bd (F_J7_fill_53178 v1 (0 : Int32) M) fun _ M1 =>
  F_X2_findSayable_10 m_FU a0 (0 : Int32) M1
set_option maxHeartbeats 4000000 in
theorem L_X2_findSayable_25 {X : j_X} {Φ : Option Value → m_M → Prop} (C : j_C X yX2_findSayable cX2_findSayable 3 none 7 0 0 Φ) {k55 : Nat → Int32 → m_M → Option (Unit × m_M)} (hk55 : ∀ (p0 : Nat) (p1 : Int32) (M : m_M), m_ok e_V Φ (k55 p0 p1 M) → j_J X 3 55 [some (.ref p0), some (.int p1), none] [] (0, 0) M) : ∀ (n : Nat) (v1 : Nat) (v2 : Int32) (v3 : Int32) (M : m_M), m_ok e_V Φ (F_X2_findSayable_25 k55 n v1 v2 v3 M) → j_J X 3 25 [some (.ref v1), some (.int v2), some (.int v3)] [] (0, 0) M := by
  have C0 := C.1
  intro n
  induction n with
  | zero => intro v1 v2 v3 M h; exact False.elim h
  | succ n ih =>
    intro v1 v2 v3 M h
    rw [F_X2_findSayable_25] at h
    refine j_iload_n C0 (pc := 25) dX2_findSayable_25 rfl ?_
    refine j_sipush C0 (pc := 26) dX2_findSayable_26 (v := (400 : Int32)) (by decide) ?_
    refine j_icmp_ge C0 (pc := 29) (tgt := 55) dX2_findSayable_29 (by decide) (fun hc => ?_) (fun hc => ?_)
    · replace h := (X_if h).1 hc
      exact j_J.wq (hk55 v1 v2 M h) (And.intro rfl (And.intro rfl (trivial)))
    · replace h := (X_if h).2 hc
      refine X_join (fun (kj : Nat → Int32 → Int32 → m_M → Option (Unit × m_M)) => ∀ (p0 : Nat) (p1 : Int32) (p2 : Int32) (M : m_M), m_ok e_V Φ (kj p0 p1 p2 M) → j_J X 3 49 [some (.ref p0), some (.int p1), some (.int p2)] [] (0, 0) M) h (fun v4 v5 v6 M1 h => ?_) (fun k49 hk49 h => ?_)
      · refine j_iinc C0 (pc := 49) dX2_findSayable_49 (v := v6 + (1 : Int32)) rfl (Nat.le_of_ble_eq_true rfl) (by rfl) ?_
        refine X_let (G := fun w => j_J X 3 52 [some (.ref v4), some (.int v5), some (.int w)] [] (0, 0) M1) h (fun v7 h => ?_)
        refine j_goto C0 (pc := 52) (tgt := 25) dX2_findSayable_52 (by decide) ?_
        exact j_J.wq (ih v4 v5 v7 M1 h) (And.intro rfl (And.intro rfl (And.intro rfl (trivial))))
      · refine j_aload_n C0 (pc := 32) dX2_findSayable_32 rfl ?_
        refine X_gN C0 (pc := 33) f_Finder_38_2 rfl dX2_findSayable_33 h (fun v8 h => ?_)
        refine j_iload_n C0 (pc := 36) dX2_findSayable_36 rfl ?_
        refine X_cV C0 (pc := 37) (e' := e_I) (as := [.int v3]) (rest := []) (s' := fun w => .int w :: []) (g' := (0, 0)) v_Finder_73_3 (fun Ψ hΨ => K_X3_isClause v8 v3 M Ψ hΨ) rfl rfl (fun _ => rfl) (by decide) (by decide) rfl (Nat.le_of_ble_eq_true rfl) dX2_findSayable_37 h (fun v9 M2 h => ?_)
        refine j_if_eq C0 (pc := 40) (tgt := 49) dX2_findSayable_40 (by decide) (fun hc => ?_) (fun hc => ?_)
        · replace h := (X_if h).1 hc
          exact j_J.wq (hk49 v1 v2 v3 M2 h) (And.intro rfl (And.intro rfl (And.intro rfl (trivial))))
        · replace h := (X_if h).2 hc
          refine j_aload_n C0 (pc := 43) dX2_findSayable_43 rfl ?_
          refine j_iload_n C0 (pc := 44) dX2_findSayable_44 rfl ?_
          refine j_iload_n C0 (pc := 45) dX2_findSayable_45 rfl ?_
          refine X_cV C0 (pc := 46) (e' := e_V) (as := [.int v3, .int v2]) (rest := []) (s' := fun _ => []) (g' := (0, 0)) v_Finder_159_2 (fun Ψ hΨ => K_X2_noteSayable v1 v3 v2 M2 Ψ hΨ) rfl rfl (fun _ => rfl) (by decide) (by decide) rfl (Nat.le_of_ble_eq_true rfl) dX2_findSayable_46 h (fun _ M3 h => ?_)
          exact j_J.wq (hk49 v1 v2 v3 M3 h) (And.intro rfl (And.intro rfl (And.intro rfl (trivial))))
set_option maxHeartbeats 4000000 in
theorem L_X2_findSayable_10 {X : j_X} {Φ : Option Value → m_M → Prop} (C : j_C X yX2_findSayable cX2_findSayable 3 none 7 0 0 Φ) : ∀ (n : Nat) (v1 : Nat) (v2 : Int32) (M : m_M), m_ok e_V Φ (F_X2_findSayable_10 n v1 v2 M) → j_J X 3 10 [some (.ref v1), some (.int v2), none] [] (0, 0) M := by
  have C0 := C.1
  intro n
  induction n with
  | zero => intro v1 v2 M h; exact False.elim h
  | succ n ih =>
    intro v1 v2 M h
    rw [F_X2_findSayable_10] at h
    refine j_iload_n C0 (pc := 10) dX2_findSayable_10 rfl ?_
    refine j_aload_n C0 (pc := 11) dX2_findSayable_11 rfl ?_
    refine X_gN C0 (pc := 12) f_Finder_38_2 rfl dX2_findSayable_12 h (fun v3 h => ?_)
    refine X_gN C0 (pc := 15) f_Finder_156_3 rfl dX2_findSayable_15 h (fun v4 h => ?_)
    refine j_iconst C0 (pc := 18) dX2_findSayable_18 (v := (2 : Int32)) (by decide) ?_
    refine X_iald C0 (pc := 19) dX2_findSayable_19 h (fun v5 h => ?_)
    refine j_icmp_ge C0 (pc := 20) (tgt := 61) dX2_findSayable_20 (by decide) (fun hc => ?_) (fun hc => ?_)
    · replace h := (X_if h).1 hc
      exact j_vret C rfl h dX2_findSayable_61 (by decide)
    · replace h := (X_if h).2 hc
      refine j_iconst C0 (pc := 23) dX2_findSayable_23 (v := (0 : Int32)) (by decide) ?_
      refine j_istore_n C0 (pc := 24) dX2_findSayable_24 (Nat.le_of_ble_eq_true rfl) ?_
      show j_J X 3 25 [some (.ref v1), some (.int v2), some (.int (0 : Int32))] [] (0, 0) M
      refine X_join (fun (kj : Nat → Int32 → m_M → Option (Unit × m_M)) => ∀ (p0 : Nat) (p1 : Int32) (M : m_M), m_ok e_V Φ (kj p0 p1 M) → j_J X 3 55 [some (.ref p0), some (.int p1), none] [] (0, 0) M) h (fun v6 v7 M1 h => ?_) (fun k55 hk55 h => ?_)
      · refine j_iinc C0 (pc := 55) dX2_findSayable_55 (v := v7 + (1 : Int32)) rfl (Nat.le_of_ble_eq_true rfl) (by rfl) ?_
        refine X_let (G := fun w => j_J X 3 58 [some (.ref v6), some (.int w), none] [] (0, 0) M1) h (fun v8 h => ?_)
        refine j_goto C0 (pc := 58) (tgt := 10) dX2_findSayable_58 (by decide) ?_
        exact j_J.wq (ih v6 v8 M1 h) (And.intro rfl (And.intro rfl (trivial)))
      · exact j_J.wq (L_X2_findSayable_25 C hk55 m_FU v1 v2 (0 : Int32) M h) (And.intro rfl (And.intro rfl (And.intro rfl (trivial))))
set_option maxHeartbeats 4000000 in
theorem K_X2_findSayable (a0 : Nat) (M : m_M) (Φ : Option Value → m_M → Prop) (h : m_ok e_V Φ (F_X2_findSayable a0 M)) : j_Ct yX2_findSayable cX2_findSayable 3 none 7 0 0 [.ref a0] M Φ := by
  refine j_Ct.of (by decide +kernel) (Nat.le_of_ble_eq_true rfl) fun X C => ?_
  have C0 := C.1
  show j_J X 3 0 [some (.ref a0), none, none] [] (0, 0) M
  unfold F_X2_findSayable at h
  refine j_aload_n C0 (pc := 0) dX2_findSayable_0 rfl ?_
  refine X_gN C0 (pc := 1) f_Finder_9_2 rfl dX2_findSayable_1 h (fun v1 h => ?_)
  refine j_iconst C0 (pc := 4) dX2_findSayable_4 (v := (0 : Int32)) (by decide) ?_
  refine X_cS C0 (pc := 5) (e' := e_V) (as := [.ref v1, .int (0 : Int32)]) (rest := []) (s' := fun _ => []) (g' := (0, 0)) s_Finder_150 (fun Ψ hΨ => K_J7_fill_53178 v1 (0 : Int32) M Ψ hΨ) rfl rfl (fun _ => rfl) (by decide) (by decide) rfl (Nat.le_of_ble_eq_true rfl) dX2_findSayable_5 h (fun _ M1 h => ?_)
  refine j_iconst C0 (pc := 8) dX2_findSayable_8 (v := (0 : Int32)) (by decide) ?_
  refine j_istore_n C0 (pc := 9) dX2_findSayable_9 (Nat.le_of_ble_eq_true rfl) ?_
  show j_J X 3 10 [some (.ref a0), some (.int (0 : Int32)), none] [] (0, 0) M1
  exact j_J.wq (L_X2_findSayable_10 C m_FU a0 (0 : Int32) M1 h) (And.intro rfl (And.intro rfl (trivial)))
theorem dX2_saysAll_0 : decode cX2_saysAll 0 = .ok (.iconst 0, 1) := by decide +kernel
theorem dX2_saysAll_1 : decode cX2_saysAll 1 = .ok (.istore_n 2, 1) := by decide +kernel
theorem dX2_saysAll_2 : decode cX2_saysAll 2 = .ok (.iload_n 2, 1) := by decide +kernel
theorem dX2_saysAll_3 : decode cX2_saysAll 3 = .ok (.aload_n 0, 1) := by decide +kernel
theorem dX2_saysAll_4 : decode cX2_saysAll 4 = .ok (.getfield 9, 3) := by decide +kernel
theorem dX2_saysAll_7 : decode cX2_saysAll 7 = .ok (.arraylength, 1) := by decide +kernel
theorem dX2_saysAll_8 : decode cX2_saysAll 8 = .ok (.if_icmp .ge 31, 3) := by decide +kernel
theorem dX2_saysAll_11 : decode cX2_saysAll 11 = .ok (.aload_n 0, 1) := by decide +kernel
theorem dX2_saysAll_12 : decode cX2_saysAll 12 = .ok (.getfield 9, 3) := by decide +kernel
theorem dX2_saysAll_15 : decode cX2_saysAll 15 = .ok (.iload_n 2, 1) := by decide +kernel
theorem dX2_saysAll_16 : decode cX2_saysAll 16 = .ok (.iaload, 1) := by decide +kernel
theorem dX2_saysAll_17 : decode cX2_saysAll 17 = .ok (.ifCond .eq 16, 3) := by decide +kernel
theorem dX2_saysAll_20 : decode cX2_saysAll 20 = .ok (.aload_n 0, 1) := by decide +kernel
theorem dX2_saysAll_21 : decode cX2_saysAll 21 = .ok (.getfield 9, 3) := by decide +kernel
theorem dX2_saysAll_24 : decode cX2_saysAll 24 = .ok (.iload_n 2, 1) := by decide +kernel
theorem dX2_saysAll_25 : decode cX2_saysAll 25 = .ok (.iaload, 1) := by decide +kernel
theorem dX2_saysAll_26 : decode cX2_saysAll 26 = .ok (.iload_n 1, 1) := by decide +kernel
theorem dX2_saysAll_27 : decode cX2_saysAll 27 = .ok (.iand, 1) := by decide +kernel
theorem dX2_saysAll_28 : decode cX2_saysAll 28 = .ok (.ifCond .ne 5, 3) := by decide +kernel
theorem dX2_saysAll_31 : decode cX2_saysAll 31 = .ok (.iconst 0, 1) := by decide +kernel
theorem dX2_saysAll_32 : decode cX2_saysAll 32 = .ok (.ireturn, 1) := by decide +kernel
theorem dX2_saysAll_33 : decode cX2_saysAll 33 = .ok (.iinc 2 1, 3) := by decide +kernel
theorem dX2_saysAll_36 : decode cX2_saysAll 36 = .ok (.goto (-34), 3) := by decide +kernel
theorem dX2_saysAll_39 : decode cX2_saysAll 39 = .ok (.iconst 1, 1) := by decide +kernel
theorem dX2_saysAll_40 : decode cX2_saysAll 40 = .ok (.ireturn, 1) := by decide +kernel
noncomputable def F_X2_saysAll_2 : Nat → Nat → Int32 → Int32 → m_M → Option (Int32 × m_M)
  | 0, _, _, _, _ => none
  | n + 1, v1, v2, v3, M =>
    x_gN 2 M v1 4 fun v4 =>
    x_len 12 M v4 fun v5 =>
    if v5 ≤ v3 then (
      some ((1 : Int32), M)
    ) else
    m_let (fun (v6 : Nat) (v7 : Int32) (v8 : Int32) (M1 : m_M) =>
      m_let (v8 + (1 : Int32)) fun v9 =>
      F_X2_saysAll_2 n v6 v7 v9 M1
    ) fun (k33 : Nat → Int32 → Int32 → m_M → Option (Int32 × m_M)) =>
    x_gN 2 M v1 4 fun v10 =>
    x_aI 12 M v10 v3 fun v11 =>
    if v11 = 0 then (
      k33 v1 v2 v3 M
    ) else
    x_gN 2 M v1 4 fun v12 =>
    x_aI 12 M v12 v3 fun v13 =>
    if (v13 &&& v2) = 0 then (
      some ((0 : Int32), M)
    ) else
    k33 v1 v2 v3 M
noncomputable def F_X2_saysAll (a0 : Nat) (a1 : Int32) (M : m_M) : Option (Int32 × m_M) :=
  F_X2_saysAll_2 m_FU a0 a1 (0 : Int32) M
set_option maxHeartbeats 4000000 in
theorem L_X2_saysAll_2 {X : j_X} {Φ : Option Value → m_M → Prop} (C : j_C X yX2_saysAll cX2_saysAll 3 (some .boolean) 1 0 0 Φ) : ∀ (n : Nat) (v1 : Nat) (v2 : Int32) (v3 : Int32) (M : m_M), m_ok e_I Φ (F_X2_saysAll_2 n v1 v2 v3 M) → j_J X 3 2 [some (.ref v1), some (.int v2), some (.int v3)] [] (0, 0) M := by
  have C0 := C.1
  intro n
  induction n with
  | zero => intro v1 v2 v3 M h; exact False.elim h
  | succ n ih =>
    intro v1 v2 v3 M h
    rw [F_X2_saysAll_2] at h
    refine j_iload_n C0 (pc := 2) dX2_saysAll_2 rfl ?_
    refine j_aload_n C0 (pc := 3) dX2_saysAll_3 rfl ?_
    refine X_gN C0 (pc := 4) f_Finder_9_2 rfl dX2_saysAll_4 h (fun v4 h => ?_)
    refine X_alen C0 (pc := 7) (by decide) dX2_saysAll_7 h (fun v5 h => ?_)
    refine j_icmp_ge C0 (pc := 8) (tgt := 39) dX2_saysAll_8 (by decide) (fun hc => ?_) (fun hc => ?_)
    · replace h := (X_if h).1 hc
      refine j_iconst C0 (pc := 39) dX2_saysAll_39 (v := (1 : Int32)) (by decide) ?_
      exact j_zret C rfl (by decide) h dX2_saysAll_40 (by decide)
    · replace h := (X_if h).2 hc
      refine X_join (fun (kj : Nat → Int32 → Int32 → m_M → Option (Int32 × m_M)) => ∀ (p0 : Nat) (p1 : Int32) (p2 : Int32) (M : m_M), m_ok e_I Φ (kj p0 p1 p2 M) → j_J X 3 33 [some (.ref p0), some (.int p1), some (.int p2)] [] (0, 0) M) h (fun v6 v7 v8 M1 h => ?_) (fun k33 hk33 h => ?_)
      · refine j_iinc C0 (pc := 33) dX2_saysAll_33 (v := v8 + (1 : Int32)) rfl (Nat.le_of_ble_eq_true rfl) (by rfl) ?_
        refine X_let (G := fun w => j_J X 3 36 [some (.ref v6), some (.int v7), some (.int w)] [] (0, 0) M1) h (fun v9 h => ?_)
        refine j_goto C0 (pc := 36) (tgt := 2) dX2_saysAll_36 (by decide) ?_
        exact j_J.wq (ih v6 v7 v9 M1 h) (And.intro rfl (And.intro rfl (And.intro rfl (trivial))))
      · refine j_aload_n C0 (pc := 11) dX2_saysAll_11 rfl ?_
        refine X_gN C0 (pc := 12) f_Finder_9_2 rfl dX2_saysAll_12 h (fun v10 h => ?_)
        refine j_iload_n C0 (pc := 15) dX2_saysAll_15 rfl ?_
        refine X_iald C0 (pc := 16) dX2_saysAll_16 h (fun v11 h => ?_)
        refine j_if_eq C0 (pc := 17) (tgt := 33) dX2_saysAll_17 (by decide) (fun hc => ?_) (fun hc => ?_)
        · replace h := (X_if h).1 hc
          exact j_J.wq (hk33 v1 v2 v3 M h) (And.intro rfl (And.intro rfl (And.intro rfl (trivial))))
        · replace h := (X_if h).2 hc
          refine j_aload_n C0 (pc := 20) dX2_saysAll_20 rfl ?_
          refine X_gN C0 (pc := 21) f_Finder_9_2 rfl dX2_saysAll_21 h (fun v12 h => ?_)
          refine j_iload_n C0 (pc := 24) dX2_saysAll_24 rfl ?_
          refine X_iald C0 (pc := 25) dX2_saysAll_25 h (fun v13 h => ?_)
          refine j_iload_n C0 (pc := 26) dX2_saysAll_26 rfl ?_
          refine j_iand C0 (pc := 27) dX2_saysAll_27 ?_
          refine j_if_ne C0 (pc := 28) (tgt := 33) dX2_saysAll_28 (by decide) (fun hc => ?_) (fun hc => ?_)
          · replace h := (X_if h).2 hc
            exact j_J.wq (hk33 v1 v2 v3 M h) (And.intro rfl (And.intro rfl (And.intro rfl (trivial))))
          · replace h := (X_if h).1 hc
            refine j_iconst C0 (pc := 31) dX2_saysAll_31 (v := (0 : Int32)) (by decide) ?_
            exact j_zret C rfl (by decide) h dX2_saysAll_32 (by decide)
set_option maxHeartbeats 4000000 in
theorem K_X2_saysAll (a0 : Nat) (a1 : Int32) (M : m_M) (Φ : Option Value → m_M → Prop) (h : m_ok e_I Φ (F_X2_saysAll a0 a1 M)) : j_Ct yX2_saysAll cX2_saysAll 3 (some .boolean) 1 0 0 [.ref a0, .int a1] M Φ := by
  refine j_Ct.of (by decide +kernel) (Nat.le_of_ble_eq_true rfl) fun X C => ?_
  have C0 := C.1
  show j_J X 3 0 [some (.ref a0), some (.int a1), none] [] (0, 0) M
  unfold F_X2_saysAll at h
  refine j_iconst C0 (pc := 0) dX2_saysAll_0 (v := (0 : Int32)) (by decide) ?_
  refine j_istore_n C0 (pc := 1) dX2_saysAll_1 (Nat.le_of_ble_eq_true rfl) ?_
  show j_J X 3 2 [some (.ref a0), some (.int a1), some (.int (0 : Int32))] [] (0, 0) M
  exact j_J.wq (L_X2_saysAll_2 C m_FU a0 a1 (0 : Int32) M h) (And.intro rfl (And.intro rfl (And.intro rfl (trivial))))
theorem dX11_cover_0 : decode cX11_cover 0 = .ok (.iload_n 1, 1) := by decide +kernel
theorem dX11_cover_1 : decode cX11_cover 1 = .ok (.ifCond .lt 8, 3) := by decide +kernel
theorem dX11_cover_4 : decode cX11_cover 4 = .ok (.iload_n 1, 1) := by decide +kernel
theorem dX11_cover_5 : decode cX11_cover 5 = .ok (.iconst 1, 1) := by decide +kernel
theorem dX11_cover_6 : decode cX11_cover 6 = .ok (.if_icmp .le 5, 3) := by decide +kernel
theorem dX11_cover_9 : decode cX11_cover 9 = .ok (.iconst (-1), 1) := by decide +kernel
theorem dX11_cover_10 : decode cX11_cover 10 = .ok (.ireturn, 1) := by decide +kernel
theorem dX11_cover_11 : decode cX11_cover 11 = .ok (.aload_n 0, 1) := by decide +kernel
theorem dX11_cover_12 : decode cX11_cover 12 = .ok (.getfield 51, 3) := by decide +kernel
theorem dX11_cover_15 : decode cX11_cover 15 = .ok (.invokevirtual 285, 3) := by decide +kernel
theorem dX11_cover_18 : decode cX11_cover 18 = .ok (.iconst 0, 1) := by decide +kernel
theorem dX11_cover_19 : decode cX11_cover 19 = .ok (.istore_n 2, 1) := by decide +kernel
theorem dX11_cover_20 : decode cX11_cover 20 = .ok (.bipush 7, 2) := by decide +kernel
theorem dX11_cover_22 : decode cX11_cover 22 = .ok (.istore_n 3, 1) := by decide +kernel
theorem dX11_cover_23 : decode cX11_cover 23 = .ok (.iconst 0, 1) := by decide +kernel
theorem dX11_cover_24 : decode cX11_cover 24 = .ok (.istore 4, 2) := by decide +kernel
theorem dX11_cover_26 : decode cX11_cover 26 = .ok (.iload 4, 2) := by decide +kernel
theorem dX11_cover_28 : decode cX11_cover 28 = .ok (.iconst 1, 1) := by decide +kernel
theorem dX11_cover_29 : decode cX11_cover 29 = .ok (.aload_n 0, 1) := by decide +kernel
theorem dX11_cover_30 : decode cX11_cover 30 = .ok (.getfield 16, 3) := by decide +kernel
theorem dX11_cover_33 : decode cX11_cover 33 = .ok (.getfield 279, 3) := by decide +kernel
theorem dX11_cover_36 : decode cX11_cover 36 = .ok (.iconst 2, 1) := by decide +kernel
theorem dX11_cover_37 : decode cX11_cover 37 = .ok (.iaload, 1) := by decide +kernel
theorem dX11_cover_38 : decode cX11_cover 38 = .ok (.ishl, 1) := by decide +kernel
theorem dX11_cover_39 : decode cX11_cover 39 = .ok (.if_icmp .ge 40, 3) := by decide +kernel
theorem dX11_cover_42 : decode cX11_cover 42 = .ok (.iload 4, 2) := by decide +kernel
theorem dX11_cover_44 : decode cX11_cover 44 = .ok (.invokestatic 233, 3) := by decide +kernel
theorem dX11_cover_47 : decode cX11_cover 47 = .ok (.istore 5, 2) := by decide +kernel
theorem dX11_cover_49 : decode cX11_cover 49 = .ok (.iload 5, 2) := by decide +kernel
theorem dX11_cover_51 : decode cX11_cover 51 = .ok (.iload_n 3, 1) := by decide +kernel
theorem dX11_cover_52 : decode cX11_cover 52 = .ok (.if_icmp .ge 21, 3) := by decide +kernel
theorem dX11_cover_55 : decode cX11_cover 55 = .ok (.aload_n 0, 1) := by decide +kernel
theorem dX11_cover_56 : decode cX11_cover 56 = .ok (.getfield 51, 3) := by decide +kernel
theorem dX11_cover_59 : decode cX11_cover 59 = .ok (.iload 4, 2) := by decide +kernel
theorem dX11_cover_61 : decode cX11_cover 61 = .ok (.invokevirtual 291, 3) := by decide +kernel
theorem dX11_cover_64 : decode cX11_cover 64 = .ok (.ifCond .eq 9, 3) := by decide +kernel
theorem dX11_cover_67 : decode cX11_cover 67 = .ok (.iload 5, 2) := by decide +kernel
theorem dX11_cover_69 : decode cX11_cover 69 = .ok (.istore_n 3, 1) := by decide +kernel
theorem dX11_cover_70 : decode cX11_cover 70 = .ok (.iload 4, 2) := by decide +kernel
theorem dX11_cover_72 : decode cX11_cover 72 = .ok (.istore_n 2, 1) := by decide +kernel
theorem dX11_cover_73 : decode cX11_cover 73 = .ok (.iinc 4 1, 3) := by decide +kernel
theorem dX11_cover_76 : decode cX11_cover 76 = .ok (.goto (-50), 3) := by decide +kernel
theorem dX11_cover_79 : decode cX11_cover 79 = .ok (.iload_n 1, 1) := by decide +kernel
theorem dX11_cover_80 : decode cX11_cover 80 = .ok (.ifCond .ne 10, 3) := by decide +kernel
theorem dX11_cover_83 : decode cX11_cover 83 = .ok (.iload_n 2, 1) := by decide +kernel
theorem dX11_cover_84 : decode cX11_cover 84 = .ok (.invokestatic 233, 3) := by decide +kernel
theorem dX11_cover_87 : decode cX11_cover 87 = .ok (.goto 4, 3) := by decide +kernel
theorem dX11_cover_90 : decode cX11_cover 90 = .ok (.iload_n 2, 1) := by decide +kernel
theorem dX11_cover_91 : decode cX11_cover 91 = .ok (.ireturn, 1) := by decide +kernel
noncomputable def F_X11_cover_26 (k79 : Int32 → Int32 → m_M → Option (Int32 × m_M)) : Nat → Nat → Int32 → Int32 → Int32 → Int32 → m_M → Option (Int32 × m_M)
  | 0, _, _, _, _, _, _ => none
  | n + 1, v1, v2, v3, v4, v5, M =>
    x_gN 9 M v1 2 fun v6 =>
    x_gN 3 M v6 6 fun v7 =>
    x_aI 12 M v7 (2 : Int32) fun v8 =>
    if ((1 : Int32) <<< (v8 &&& 31)) ≤ v5 then (
      k79 v2 v3 M
    ) else
    m_let (fun (v9 : Nat) (v10 : Int32) (v11 : Int32) (v12 : Int32) (v13 : Int32) (M1 : m_M) =>
      m_let (v13 + (1 : Int32)) fun v14 =>
      F_X11_cover_26 k79 n v9 v10 v11 v12 v14 M1
    ) fun (k73 : Nat → Int32 → Int32 → Int32 → Int32 → m_M → Option (Int32 × m_M)) =>
    x_bd (F_J6_bitCount_0f7a4 v5 M) fun v15 M2 =>
    if v4 ≤ v15 then (
      k73 v1 v2 v3 v4 v5 M2
    ) else
    x_gN 9 M2 v1 7 fun v16 =>
    x_cV 2 M2 v16 (F_X2_saysAll v16 v5 M2) fun v17 M3 =>
    if v17 = 0 then (
      k73 v1 v2 v3 v4 v5 M3
    ) else
    k73 v1 v2 v5 v15 v5 M3
noncomputable def F_X11_cover (a0 : Nat) (a1 : Int32) (M : m_M) : Option (Int32 × m_M) :=
  if a1 < 0 then (
    some ((-1 : Int32), M)
  ) else
  if a1 ≤ (1 : Int32) then (
    x_gN 9 M a0 7 fun v1 =>
    x_cV 2 M v1 (F_X2_findSayable v1 M) fun _ M1 =>
    m_let (fun (v2 : Int32) (v3 : Int32) (M2 : m_M) =>
      if v2 = 0 then (
        x_bd (F_J6_bitCount_0f7a4 v3 M2) fun v4 M3 =>
        some (v4, M3)
      ) else
      some (v3, M2)
    ) fun (k79 : Int32 → Int32 → m_M → Option (Int32 × m_M)) =>
    F_X11_cover_26 k79 m_FU a0 a1 (0 : Int32) (7 : Int32) (0 : Int32) M1
  ) else
  some ((-1 : Int32), M)
set_option maxHeartbeats 4000000 in
theorem L_X11_cover_26 {X : j_X} {Φ : Option Value → m_M → Prop} (C : j_C X yX11_cover cX11_cover 6 (some .int) 8 0 0 Φ) {k79 : Int32 → Int32 → m_M → Option (Int32 × m_M)} (hk79 : ∀ (p0 : Int32) (p1 : Int32) (M : m_M), m_ok e_I Φ (k79 p0 p1 M) → j_J X 6 79 [none, some (.int p0), some (.int p1), none, none, none] [] (0, 0) M) : ∀ (n : Nat) (v1 : Nat) (v2 : Int32) (v3 : Int32) (v4 : Int32) (v5 : Int32) (M : m_M), m_ok e_I Φ (F_X11_cover_26 k79 n v1 v2 v3 v4 v5 M) → j_J X 6 26 [some (.ref v1), some (.int v2), some (.int v3), some (.int v4), some (.int v5), none] [] (0, 0) M := by
  have C0 := C.1
  intro n
  induction n with
  | zero => intro v1 v2 v3 v4 v5 M h; exact False.elim h
  | succ n ih =>
    intro v1 v2 v3 v4 v5 M h
    rw [F_X11_cover_26] at h
    refine j_iload C0 (pc := 26) dX11_cover_26 rfl ?_
    refine j_iconst C0 (pc := 28) dX11_cover_28 (v := (1 : Int32)) (by decide) ?_
    refine j_aload_n C0 (pc := 29) dX11_cover_29 rfl ?_
    refine X_gN C0 (pc := 30) f_OV_16_9 rfl dX11_cover_30 h (fun v6 h => ?_)
    refine X_gN C0 (pc := 33) f_OV_279_3 rfl dX11_cover_33 h (fun v7 h => ?_)
    refine j_iconst C0 (pc := 36) dX11_cover_36 (v := (2 : Int32)) (by decide) ?_
    refine X_iald C0 (pc := 37) dX11_cover_37 h (fun v8 h => ?_)
    refine j_ishl C0 (pc := 38) dX11_cover_38 ?_
    refine j_icmp_ge C0 (pc := 39) (tgt := 79) dX11_cover_39 (by decide) (fun hc => ?_) (fun hc => ?_)
    · replace h := (X_if h).1 hc
      exact j_J.wq (hk79 v2 v3 M h) (And.intro rfl (And.intro rfl (trivial)))
    · replace h := (X_if h).2 hc
      refine X_join (fun (kj : Nat → Int32 → Int32 → Int32 → Int32 → m_M → Option (Int32 × m_M)) => ∀ (p0 : Nat) (p1 : Int32) (p2 : Int32) (p3 : Int32) (p4 : Int32) (M : m_M), m_ok e_I Φ (kj p0 p1 p2 p3 p4 M) → j_J X 6 73 [some (.ref p0), some (.int p1), some (.int p2), some (.int p3), some (.int p4), none] [] (0, 0) M) h (fun v9 v10 v11 v12 v13 M1 h => ?_) (fun k73 hk73 h => ?_)
      · refine j_iinc C0 (pc := 73) dX11_cover_73 (v := v13 + (1 : Int32)) rfl (Nat.le_of_ble_eq_true rfl) (by rfl) ?_
        refine X_let (G := fun w => j_J X 6 76 [some (.ref v9), some (.int v10), some (.int v11), some (.int v12), some (.int w), none] [] (0, 0) M1) h (fun v14 h => ?_)
        refine j_goto C0 (pc := 76) (tgt := 26) dX11_cover_76 (by decide) ?_
        exact j_J.wq (ih v9 v10 v11 v12 v14 M1 h) (And.intro rfl (And.intro rfl (And.intro rfl (And.intro rfl (And.intro rfl (trivial))))))
      · refine j_iload C0 (pc := 42) dX11_cover_42 rfl ?_
        refine X_cS C0 (pc := 44) (e' := e_I) (as := [.int v5]) (rest := []) (s' := fun w => .int w :: []) (g' := (0, 0)) s_OV_233 (fun Ψ hΨ => K_J6_bitCount_0f7a4 v5 M Ψ hΨ) rfl rfl (fun _ => rfl) (by decide) (by decide) rfl (Nat.le_of_ble_eq_true rfl) dX11_cover_44 h (fun v15 M2 h => ?_)
        refine j_istore C0 (pc := 47) dX11_cover_47 (Nat.le_of_ble_eq_true rfl) ?_
        show j_J X 6 49 [some (.ref v1), some (.int v2), some (.int v3), some (.int v4), some (.int v5), some (.int v15)] [] (0, 0) M2
        refine j_iload C0 (pc := 49) dX11_cover_49 rfl ?_
        refine j_iload_n C0 (pc := 51) dX11_cover_51 rfl ?_
        refine j_icmp_ge C0 (pc := 52) (tgt := 73) dX11_cover_52 (by decide) (fun hc => ?_) (fun hc => ?_)
        · replace h := (X_if h).1 hc
          exact j_J.wq (hk73 v1 v2 v3 v4 v5 M2 h) (And.intro rfl (And.intro rfl (And.intro rfl (And.intro rfl (And.intro rfl (trivial))))))
        · replace h := (X_if h).2 hc
          refine j_aload_n C0 (pc := 55) dX11_cover_55 rfl ?_
          refine X_gN C0 (pc := 56) f_OV_51_9 rfl dX11_cover_56 h (fun v16 h => ?_)
          refine j_iload C0 (pc := 59) dX11_cover_59 rfl ?_
          refine X_cV C0 (pc := 61) (e' := e_I) (as := [.int v5]) (rest := []) (s' := fun w => .int w :: []) (g' := (0, 0)) v_OV_291_2 (fun Ψ hΨ => K_X2_saysAll v16 v5 M2 Ψ hΨ) rfl rfl (fun _ => rfl) (by decide) (by decide) rfl (Nat.le_of_ble_eq_true rfl) dX11_cover_61 h (fun v17 M3 h => ?_)
          refine j_if_eq C0 (pc := 64) (tgt := 73) dX11_cover_64 (by decide) (fun hc => ?_) (fun hc => ?_)
          · replace h := (X_if h).1 hc
            exact j_J.wq (hk73 v1 v2 v3 v4 v5 M3 h) (And.intro rfl (And.intro rfl (And.intro rfl (And.intro rfl (And.intro rfl (trivial))))))
          · replace h := (X_if h).2 hc
            refine j_iload C0 (pc := 67) dX11_cover_67 rfl ?_
            refine j_istore_n C0 (pc := 69) dX11_cover_69 (Nat.le_of_ble_eq_true rfl) ?_
            show j_J X 6 70 [some (.ref v1), some (.int v2), some (.int v3), some (.int v15), some (.int v5), some (.int v15)] [] (0, 0) M3
            refine j_iload C0 (pc := 70) dX11_cover_70 rfl ?_
            refine j_istore_n C0 (pc := 72) dX11_cover_72 (Nat.le_of_ble_eq_true rfl) ?_
            show j_J X 6 73 [some (.ref v1), some (.int v2), some (.int v5), some (.int v15), some (.int v5), some (.int v15)] [] (0, 0) M3
            exact j_J.wq (hk73 v1 v2 v5 v15 v5 M3 h) (And.intro rfl (And.intro rfl (And.intro rfl (And.intro rfl (And.intro rfl (trivial))))))
set_option maxHeartbeats 4000000 in
theorem K_X11_cover (a0 : Nat) (a1 : Int32) (M : m_M) (Φ : Option Value → m_M → Prop) (h : m_ok e_I Φ (F_X11_cover a0 a1 M)) : j_Ct yX11_cover cX11_cover 6 (some .int) 8 0 0 [.ref a0, .int a1] M Φ := by
  refine j_Ct.of (by decide +kernel) (Nat.le_of_ble_eq_true rfl) fun X C => ?_
  have C0 := C.1
  show j_J X 6 0 [some (.ref a0), some (.int a1), none, none, none, none] [] (0, 0) M
  unfold F_X11_cover at h
  refine j_iload_n C0 (pc := 0) dX11_cover_0 rfl ?_
  refine j_if_lt C0 (pc := 1) (tgt := 9) dX11_cover_1 (by decide) (fun hc => ?_) (fun hc => ?_)
  · replace h := (X_if h).1 hc
    refine j_iconst C0 (pc := 9) dX11_cover_9 (v := (-1 : Int32)) (by decide) ?_
    exact j_iret C rfl h dX11_cover_10 (by decide)
  · replace h := (X_if h).2 hc
    refine j_iload_n C0 (pc := 4) dX11_cover_4 rfl ?_
    refine j_iconst C0 (pc := 5) dX11_cover_5 (v := (1 : Int32)) (by decide) ?_
    refine j_icmp_le C0 (pc := 6) (tgt := 11) dX11_cover_6 (by decide) (fun hc => ?_) (fun hc => ?_)
    · replace h := (X_if h).1 hc
      refine j_aload_n C0 (pc := 11) dX11_cover_11 rfl ?_
      refine X_gN C0 (pc := 12) f_OV_51_9 rfl dX11_cover_12 h (fun v1 h => ?_)
      refine X_cV C0 (pc := 15) (e' := e_V) (as := []) (rest := []) (s' := fun _ => []) (g' := (0, 0)) v_OV_285_2 (fun Ψ hΨ => K_X2_findSayable v1 M Ψ hΨ) rfl rfl (fun _ => rfl) (by decide) (by decide) rfl (Nat.le_of_ble_eq_true rfl) dX11_cover_15 h (fun _ M1 h => ?_)
      refine j_iconst C0 (pc := 18) dX11_cover_18 (v := (0 : Int32)) (by decide) ?_
      refine j_istore_n C0 (pc := 19) dX11_cover_19 (Nat.le_of_ble_eq_true rfl) ?_
      show j_J X 6 20 [some (.ref a0), some (.int a1), some (.int (0 : Int32)), none, none, none] [] (0, 0) M1
      refine j_bipush C0 (pc := 20) dX11_cover_20 (v := (7 : Int32)) (by decide) ?_
      refine j_istore_n C0 (pc := 22) dX11_cover_22 (Nat.le_of_ble_eq_true rfl) ?_
      show j_J X 6 23 [some (.ref a0), some (.int a1), some (.int (0 : Int32)), some (.int (7 : Int32)), none, none] [] (0, 0) M1
      refine j_iconst C0 (pc := 23) dX11_cover_23 (v := (0 : Int32)) (by decide) ?_
      refine j_istore C0 (pc := 24) dX11_cover_24 (Nat.le_of_ble_eq_true rfl) ?_
      show j_J X 6 26 [some (.ref a0), some (.int a1), some (.int (0 : Int32)), some (.int (7 : Int32)), some (.int (0 : Int32)), none] [] (0, 0) M1
      refine X_join (fun (kj : Int32 → Int32 → m_M → Option (Int32 × m_M)) => ∀ (p0 : Int32) (p1 : Int32) (M : m_M), m_ok e_I Φ (kj p0 p1 M) → j_J X 6 79 [none, some (.int p0), some (.int p1), none, none, none] [] (0, 0) M) h (fun v2 v3 M2 h => ?_) (fun k79 hk79 h => ?_)
      · refine j_iload_n C0 (pc := 79) dX11_cover_79 rfl ?_
        refine j_if_ne C0 (pc := 80) (tgt := 90) dX11_cover_80 (by decide) (fun hc => ?_) (fun hc => ?_)
        · replace h := (X_if h).2 hc
          refine j_iload_n C0 (pc := 90) dX11_cover_90 rfl ?_
          exact j_iret C rfl h dX11_cover_91 (by decide)
        · replace h := (X_if h).1 hc
          refine j_iload_n C0 (pc := 83) dX11_cover_83 rfl ?_
          refine X_cS C0 (pc := 84) (e' := e_I) (as := [.int v3]) (rest := []) (s' := fun w => .int w :: []) (g' := (0, 0)) s_OV_233 (fun Ψ hΨ => K_J6_bitCount_0f7a4 v3 M2 Ψ hΨ) rfl rfl (fun _ => rfl) (by decide) (by decide) rfl (Nat.le_of_ble_eq_true rfl) dX11_cover_84 h (fun v4 M3 h => ?_)
          refine j_goto C0 (pc := 87) (tgt := 91) dX11_cover_87 (by decide) ?_
          exact j_iret C rfl h dX11_cover_91 (by decide)
      · exact j_J.wq (L_X11_cover_26 C hk79 m_FU a0 a1 (0 : Int32) (7 : Int32) (0 : Int32) M1 h) (And.intro rfl (And.intro rfl (And.intro rfl (And.intro rfl (And.intro rfl (trivial))))))
    · replace h := (X_if h).2 hc
      refine j_iconst C0 (pc := 9) dX11_cover_9 (v := (-1 : Int32)) (by decide) ?_
      exact j_iret C rfl h dX11_cover_10 (by decide)
theorem dX1_passDays_0 : decode cX1_passDays 0 = .ok (.aload_n 0, 1) := by decide +kernel
theorem dX1_passDays_1 : decode cX1_passDays 1 = .ok (.dup, 1) := by decide +kernel
theorem dX1_passDays_2 : decode cX1_passDays 2 = .ok (.getfield 39, 3) := by decide +kernel
theorem dX1_passDays_5 : decode cX1_passDays 5 = .ok (.iload_n 1, 1) := by decide +kernel
theorem dX1_passDays_6 : decode cX1_passDays 6 = .ok (.iadd, 1) := by decide +kernel
theorem dX1_passDays_7 : decode cX1_passDays 7 = .ok (.putfield 39, 3) := by decide +kernel
theorem dX1_passDays_10 : decode cX1_passDays 10 = .ok (.aload_n 0, 1) := by decide +kernel
theorem dX1_passDays_11 : decode cX1_passDays 11 = .ok (.iconst 0, 1) := by decide +kernel
theorem dX1_passDays_12 : decode cX1_passDays 12 = .ok (.putfield 52, 3) := by decide +kernel
theorem dX1_passDays_15 : decode cX1_passDays 15 = .ok (.return_, 1) := by decide +kernel
noncomputable def F_X1_passDays (a0 : Nat) (a1 : Int32) (M : m_M) : Option (Unit × m_M) :=
  x_gI 1 M a0 0 fun v1 =>
  x_pI 1 M a0 0 (v1 + a1) fun M1 =>
  x_pI 1 M1 a0 4 (0 : Int32) fun M2 =>
  some ((), M2)
set_option maxHeartbeats 4000000 in
theorem K_X1_passDays (a0 : Nat) (a1 : Int32) (M : m_M) (Φ : Option Value → m_M → Prop) (h : m_ok e_V Φ (F_X1_passDays a0 a1 M)) : j_Ct yX1_passDays cX1_passDays 2 none 1 0 0 [.ref a0, .int a1] M Φ := by
  refine j_Ct.of (by decide +kernel) (Nat.le_of_ble_eq_true rfl) fun X C => ?_
  have C0 := C.1
  show j_J X 2 0 [some (.ref a0), some (.int a1)] [] (0, 0) M
  unfold F_X1_passDays at h
  refine j_aload_n C0 (pc := 0) dX1_passDays_0 rfl ?_
  refine j_dup C0 (pc := 1) dX1_passDays_1 rfl ?_
  refine X_gI C0 (pc := 2) f_Book_39_1 rfl dX1_passDays_2 h (fun v1 h => ?_)
  refine j_iload_n C0 (pc := 5) dX1_passDays_5 rfl ?_
  refine j_iadd C0 (pc := 6) dX1_passDays_6 ?_
  refine X_pI C0 (pc := 7) f_Book_39_1 rfl rfl dX1_passDays_7 h (fun M1 h => ?_)
  refine j_aload_n C0 (pc := 10) dX1_passDays_10 rfl ?_
  refine j_iconst C0 (pc := 11) dX1_passDays_11 (v := (0 : Int32)) (by decide) ?_
  refine X_pI C0 (pc := 12) f_Book_52_1 rfl rfl dX1_passDays_12 h (fun M2 h => ?_)
  exact j_vret C rfl h dX1_passDays_15 (by decide)
theorem dX11_dawn_0 : decode cX11_dawn 0 = .ok (.iload_n 1, 1) := by decide +kernel
theorem dX11_dawn_1 : decode cX11_dawn 1 = .ok (.iconst 1, 1) := by decide +kernel
theorem dX11_dawn_2 : decode cX11_dawn 2 = .ok (.if_icmp .lt 10, 3) := by decide +kernel
theorem dX11_dawn_5 : decode cX11_dawn 5 = .ok (.iload_n 1, 1) := by decide +kernel
theorem dX11_dawn_6 : decode cX11_dawn 6 = .ok (.sipush 1000, 3) := by decide +kernel
theorem dX11_dawn_9 : decode cX11_dawn 9 = .ok (.if_icmp .le 5, 3) := by decide +kernel
theorem dX11_dawn_12 : decode cX11_dawn 12 = .ok (.iconst (-1), 1) := by decide +kernel
theorem dX11_dawn_13 : decode cX11_dawn 13 = .ok (.ireturn, 1) := by decide +kernel
theorem dX11_dawn_14 : decode cX11_dawn 14 = .ok (.aload_n 0, 1) := by decide +kernel
theorem dX11_dawn_15 : decode cX11_dawn 15 = .ok (.getfield 65, 3) := by decide +kernel
theorem dX11_dawn_18 : decode cX11_dawn 18 = .ok (.iload_n 1, 1) := by decide +kernel
theorem dX11_dawn_19 : decode cX11_dawn 19 = .ok (.invokevirtual 152, 3) := by decide +kernel
theorem dX11_dawn_22 : decode cX11_dawn 22 = .ok (.aload_n 0, 1) := by decide +kernel
theorem dX11_dawn_23 : decode cX11_dawn 23 = .ok (.getfield 65, 3) := by decide +kernel
theorem dX11_dawn_26 : decode cX11_dawn 26 = .ok (.getfield 119, 3) := by decide +kernel
theorem dX11_dawn_29 : decode cX11_dawn 29 = .ok (.ireturn, 1) := by decide +kernel
noncomputable def F_X11_dawn (a0 : Nat) (a1 : Int32) (M : m_M) : Option (Int32 × m_M) :=
  if a1 < (1 : Int32) then (
    some ((-1 : Int32), M)
  ) else
  if a1 ≤ (1000 : Int32) then (
    x_gN 9 M a0 9 fun v1 =>
    x_cV 1 M v1 (F_X1_passDays v1 a1 M) fun _ M1 =>
    x_gN 9 M1 a0 9 fun v2 =>
    x_gI 1 M1 v2 0 fun v3 =>
    some (v3, M1)
  ) else
  some ((-1 : Int32), M)
set_option maxHeartbeats 4000000 in
theorem K_X11_dawn (a0 : Nat) (a1 : Int32) (M : m_M) (Φ : Option Value → m_M → Prop) (h : m_ok e_I Φ (F_X11_dawn a0 a1 M)) : j_Ct yX11_dawn cX11_dawn 2 (some .int) 2 0 0 [.ref a0, .int a1] M Φ := by
  refine j_Ct.of (by decide +kernel) (Nat.le_of_ble_eq_true rfl) fun X C => ?_
  have C0 := C.1
  show j_J X 2 0 [some (.ref a0), some (.int a1)] [] (0, 0) M
  unfold F_X11_dawn at h
  refine j_iload_n C0 (pc := 0) dX11_dawn_0 rfl ?_
  refine j_iconst C0 (pc := 1) dX11_dawn_1 (v := (1 : Int32)) (by decide) ?_
  refine j_icmp_lt C0 (pc := 2) (tgt := 12) dX11_dawn_2 (by decide) (fun hc => ?_) (fun hc => ?_)
  · replace h := (X_if h).1 hc
    refine j_iconst C0 (pc := 12) dX11_dawn_12 (v := (-1 : Int32)) (by decide) ?_
    exact j_iret C rfl h dX11_dawn_13 (by decide)
  · replace h := (X_if h).2 hc
    refine j_iload_n C0 (pc := 5) dX11_dawn_5 rfl ?_
    refine j_sipush C0 (pc := 6) dX11_dawn_6 (v := (1000 : Int32)) (by decide) ?_
    refine j_icmp_le C0 (pc := 9) (tgt := 14) dX11_dawn_9 (by decide) (fun hc => ?_) (fun hc => ?_)
    · replace h := (X_if h).1 hc
      refine j_aload_n C0 (pc := 14) dX11_dawn_14 rfl ?_
      refine X_gN C0 (pc := 15) f_OV_65_9 rfl dX11_dawn_15 h (fun v1 h => ?_)
      refine j_iload_n C0 (pc := 18) dX11_dawn_18 rfl ?_
      refine X_cV C0 (pc := 19) (e' := e_V) (as := [.int a1]) (rest := []) (s' := fun _ => []) (g' := (0, 0)) v_OV_152_1 (fun Ψ hΨ => K_X1_passDays v1 a1 M Ψ hΨ) rfl rfl (fun _ => rfl) (by decide) (by decide) rfl (Nat.le_of_ble_eq_true rfl) dX11_dawn_19 h (fun _ M1 h => ?_)
      refine j_aload_n C0 (pc := 22) dX11_dawn_22 rfl ?_
      refine X_gN C0 (pc := 23) f_OV_65_9 rfl dX11_dawn_23 h (fun v2 h => ?_)
      refine X_gI C0 (pc := 26) f_OV_119_1 rfl dX11_dawn_26 h (fun v3 h => ?_)
      exact j_iret C rfl h dX11_dawn_29 (by decide)
    · replace h := (X_if h).2 hc
      refine j_iconst C0 (pc := 12) dX11_dawn_12 (v := (-1 : Int32)) (by decide) ?_
      exact j_iret C rfl h dX11_dawn_13 (by decide)
theorem dX11_drawBelow_0 : decode cX11_drawBelow 0 = .ok (.aload_n 0, 1) := by decide +kernel
theorem dX11_drawBelow_1 : decode cX11_drawBelow 1 = .ok (.aload_n 0, 1) := by decide +kernel
theorem dX11_drawBelow_2 : decode cX11_drawBelow 2 = .ok (.getfield 308, 3) := by decide +kernel
theorem dX11_drawBelow_5 : decode cX11_drawBelow 5 = .ok (.ldc2_w 373, 3) := by decide +kernel
theorem dX11_drawBelow_8 : decode cX11_drawBelow 8 = .ok (.lmul, 1) := by decide +kernel
theorem dX11_drawBelow_9 : decode cX11_drawBelow 9 = .ok (.ldc2_w 375, 3) := by decide +kernel
theorem dX11_drawBelow_12 : decode cX11_drawBelow 12 = .ok (.ladd, 1) := by decide +kernel
theorem dX11_drawBelow_13 : decode cX11_drawBelow 13 = .ok (.ldc2_w 377, 3) := by decide +kernel
theorem dX11_drawBelow_16 : decode cX11_drawBelow 16 = .ok (.lrem, 1) := by decide +kernel
theorem dX11_drawBelow_17 : decode cX11_drawBelow 17 = .ok (.putfield 308, 3) := by decide +kernel
theorem dX11_drawBelow_20 : decode cX11_drawBelow 20 = .ok (.iload_n 1, 1) := by decide +kernel
theorem dX11_drawBelow_21 : decode cX11_drawBelow 21 = .ok (.ifCond .le 18, 3) := by decide +kernel
theorem dX11_drawBelow_24 : decode cX11_drawBelow 24 = .ok (.aload_n 0, 1) := by decide +kernel
theorem dX11_drawBelow_25 : decode cX11_drawBelow 25 = .ok (.getfield 308, 3) := by decide +kernel
theorem dX11_drawBelow_28 : decode cX11_drawBelow 28 = .ok (.ldc2_w 379, 3) := by decide +kernel
theorem dX11_drawBelow_31 : decode cX11_drawBelow 31 = .ok (.ldiv, 1) := by decide +kernel
theorem dX11_drawBelow_32 : decode cX11_drawBelow 32 = .ok (.iload_n 1, 1) := by decide +kernel
theorem dX11_drawBelow_33 : decode cX11_drawBelow 33 = .ok (.i2l, 1) := by decide +kernel
theorem dX11_drawBelow_34 : decode cX11_drawBelow 34 = .ok (.lrem, 1) := by decide +kernel
theorem dX11_drawBelow_35 : decode cX11_drawBelow 35 = .ok (.l2i, 1) := by decide +kernel
theorem dX11_drawBelow_36 : decode cX11_drawBelow 36 = .ok (.goto 4, 3) := by decide +kernel
theorem dX11_drawBelow_39 : decode cX11_drawBelow 39 = .ok (.iconst 0, 1) := by decide +kernel
theorem dX11_drawBelow_40 : decode cX11_drawBelow 40 = .ok (.ireturn, 1) := by decide +kernel
noncomputable def F_X11_drawBelow (a0 : Nat) (a1 : Int32) (M : m_M) : Option (Int32 × m_M) :=
  x_gL 9 M a0 15 fun v1 =>
  x_nzL (2147483648 : Int64) <|
  x_pL 9 M a0 15 (((v1 * (1103515245 : Int64)) + (12345 : Int64)) - ((v1 * (1103515245 : Int64)) + (12345 : Int64)) / (2147483648 : Int64) * (2147483648 : Int64)) fun M1 =>
  if a1 ≤ 0 then (
    some ((0 : Int32), M1)
  ) else
  x_gL 9 M1 a0 15 fun v2 =>
  x_nzL (65536 : Int64) <|
  x_nzL a1.toInt64 <|
  some (((v2 / (65536 : Int64)) - (v2 / (65536 : Int64)) / a1.toInt64 * a1.toInt64).toInt32, M1)
set_option maxHeartbeats 4000000 in
theorem K_X11_drawBelow (a0 : Nat) (a1 : Int32) (M : m_M) (Φ : Option Value → m_M → Prop) (h : m_ok e_I Φ (F_X11_drawBelow a0 a1 M)) : j_Ct yX11_drawBelow cX11_drawBelow 2 (some .int) 1 0 0 [.ref a0, .int a1] M Φ := by
  refine j_Ct.of (by decide +kernel) (Nat.le_of_ble_eq_true rfl) fun X C => ?_
  have C0 := C.1
  show j_J X 2 0 [some (.ref a0), some (.int a1)] [] (0, 0) M
  unfold F_X11_drawBelow at h
  refine j_aload_n C0 (pc := 0) dX11_drawBelow_0 rfl ?_
  refine j_aload_n C0 (pc := 1) dX11_drawBelow_1 rfl ?_
  refine X_gL C0 (pc := 2) f_OV_308_9 rfl dX11_drawBelow_2 h (fun v1 h => ?_)
  refine j_ldc2 C0 (pc := 5) (v := (1103515245 : Int64)) (j_c6 207 (by decide +kernel)) dX11_drawBelow_5 ?_
  refine j_lmul C0 (pc := 8) dX11_drawBelow_8 ?_
  refine j_ldc2 C0 (pc := 9) (v := (12345 : Int64)) (j_c6 208 (by decide +kernel)) dX11_drawBelow_9 ?_
  refine j_ladd C0 (pc := 12) dX11_drawBelow_12 ?_
  refine j_ldc2 C0 (pc := 13) (v := (2147483648 : Int64)) (j_c6 209 (by decide +kernel)) dX11_drawBelow_13 ?_
  refine X_lrem C0 (pc := 16) dX11_drawBelow_16 h (fun h => ?_)
  refine X_pL C0 (pc := 17) f_OV_308_9 rfl rfl dX11_drawBelow_17 h (fun M1 h => ?_)
  refine j_iload_n C0 (pc := 20) dX11_drawBelow_20 rfl ?_
  refine j_if_le C0 (pc := 21) (tgt := 39) dX11_drawBelow_21 (by decide) (fun hc => ?_) (fun hc => ?_)
  · replace h := (X_if h).1 hc
    refine j_iconst C0 (pc := 39) dX11_drawBelow_39 (v := (0 : Int32)) (by decide) ?_
    exact j_iret C rfl h dX11_drawBelow_40 (by decide)
  · replace h := (X_if h).2 hc
    refine j_aload_n C0 (pc := 24) dX11_drawBelow_24 rfl ?_
    refine X_gL C0 (pc := 25) f_OV_308_9 rfl dX11_drawBelow_25 h (fun v2 h => ?_)
    refine j_ldc2 C0 (pc := 28) (v := (65536 : Int64)) (j_c6 210 (by decide +kernel)) dX11_drawBelow_28 ?_
    refine X_ldiv C0 (pc := 31) dX11_drawBelow_31 h (fun h => ?_)
    refine j_iload_n C0 (pc := 32) dX11_drawBelow_32 rfl ?_
    refine j_i2l C0 (pc := 33) dX11_drawBelow_33 (v := a1.toInt64) rfl ?_
    refine X_lrem C0 (pc := 34) dX11_drawBelow_34 h (fun h => ?_)
    refine j_l2i C0 (pc := 35) dX11_drawBelow_35 (v := ((v2 / (65536 : Int64)) - (v2 / (65536 : Int64)) / a1.toInt64 * a1.toInt64).toInt32) rfl ?_
    refine j_goto C0 (pc := 36) (tgt := 40) dX11_drawBelow_36 (by decide) ?_
    exact j_iret C rfl h dX11_drawBelow_40 (by decide)
theorem dX11_drawClause_0 : decode cX11_drawClause 0 = .ok (.aload_n 0, 1) := by decide +kernel
theorem dX11_drawClause_1 : decode cX11_drawClause 1 = .ok (.getfield 16, 3) := by decide +kernel
theorem dX11_drawClause_4 : decode cX11_drawClause 4 = .ok (.aload_n 0, 1) := by decide +kernel
theorem dX11_drawClause_5 : decode cX11_drawClause 5 = .ok (.aload_n 0, 1) := by decide +kernel
theorem dX11_drawClause_6 : decode cX11_drawClause 6 = .ok (.getfield 16, 3) := by decide +kernel
theorem dX11_drawClause_9 : decode cX11_drawClause 9 = .ok (.getfield 279, 3) := by decide +kernel
theorem dX11_drawClause_12 : decode cX11_drawClause 12 = .ok (.iconst 0, 1) := by decide +kernel
theorem dX11_drawClause_13 : decode cX11_drawClause 13 = .ok (.iaload, 1) := by decide +kernel
theorem dX11_drawClause_14 : decode cX11_drawClause 14 = .ok (.invokevirtual 381, 3) := by decide +kernel
theorem dX11_drawClause_17 : decode cX11_drawClause 17 = .ok (.iconst 4, 1) := by decide +kernel
theorem dX11_drawClause_18 : decode cX11_drawClause 18 = .ok (.imul, 1) := by decide +kernel
theorem dX11_drawClause_19 : decode cX11_drawClause 19 = .ok (.invokevirtual 384, 3) := by decide +kernel
theorem dX11_drawClause_22 : decode cX11_drawClause 22 = .ok (.istore_n 2, 1) := by decide +kernel
theorem dX11_drawClause_23 : decode cX11_drawClause 23 = .ok (.aload_n 0, 1) := by decide +kernel
theorem dX11_drawClause_24 : decode cX11_drawClause 24 = .ok (.getfield 16, 3) := by decide +kernel
theorem dX11_drawClause_27 : decode cX11_drawClause 27 = .ok (.aload_n 0, 1) := by decide +kernel
theorem dX11_drawClause_28 : decode cX11_drawClause 28 = .ok (.aload_n 0, 1) := by decide +kernel
theorem dX11_drawClause_29 : decode cX11_drawClause 29 = .ok (.getfield 16, 3) := by decide +kernel
theorem dX11_drawClause_32 : decode cX11_drawClause 32 = .ok (.getfield 279, 3) := by decide +kernel
theorem dX11_drawClause_35 : decode cX11_drawClause 35 = .ok (.iconst 0, 1) := by decide +kernel
theorem dX11_drawClause_36 : decode cX11_drawClause 36 = .ok (.iaload, 1) := by decide +kernel
theorem dX11_drawClause_37 : decode cX11_drawClause 37 = .ok (.invokevirtual 381, 3) := by decide +kernel
theorem dX11_drawClause_40 : decode cX11_drawClause 40 = .ok (.iconst 4, 1) := by decide +kernel
theorem dX11_drawClause_41 : decode cX11_drawClause 41 = .ok (.imul, 1) := by decide +kernel
theorem dX11_drawClause_42 : decode cX11_drawClause 42 = .ok (.invokevirtual 384, 3) := by decide +kernel
theorem dX11_drawClause_45 : decode cX11_drawClause 45 = .ok (.istore_n 3, 1) := by decide +kernel
theorem dX11_drawClause_46 : decode cX11_drawClause 46 = .ok (.aload_n 0, 1) := by decide +kernel
theorem dX11_drawClause_47 : decode cX11_drawClause 47 = .ok (.getfield 16, 3) := by decide +kernel
theorem dX11_drawClause_50 : decode cX11_drawClause 50 = .ok (.iload_n 2, 1) := by decide +kernel
theorem dX11_drawClause_51 : decode cX11_drawClause 51 = .ok (.iload_n 3, 1) := by decide +kernel
theorem dX11_drawClause_52 : decode cX11_drawClause 52 = .ok (.iload_n 1, 1) := by decide +kernel
theorem dX11_drawClause_53 : decode cX11_drawClause 53 = .ok (.aload_n 0, 1) := by decide +kernel
theorem dX11_drawClause_54 : decode cX11_drawClause 54 = .ok (.getfield 84, 3) := by decide +kernel
theorem dX11_drawClause_57 : decode cX11_drawClause 57 = .ok (.invokevirtual 387, 3) := by decide +kernel
theorem dX11_drawClause_60 : decode cX11_drawClause 60 = .ok (.aload_n 0, 1) := by decide +kernel
theorem dX11_drawClause_61 : decode cX11_drawClause 61 = .ok (.getfield 84, 3) := by decide +kernel
theorem dX11_drawClause_64 : decode cX11_drawClause 64 = .ok (.aload_n 0, 1) := by decide +kernel
theorem dX11_drawClause_65 : decode cX11_drawClause 65 = .ok (.getfield 80, 3) := by decide +kernel
theorem dX11_drawClause_68 : decode cX11_drawClause 68 = .ok (.invokevirtual 216, 3) := by decide +kernel
theorem dX11_drawClause_71 : decode cX11_drawClause 71 = .ok (.aload_n 0, 1) := by decide +kernel
theorem dX11_drawClause_72 : decode cX11_drawClause 72 = .ok (.getfield 84, 3) := by decide +kernel
theorem dX11_drawClause_75 : decode cX11_drawClause 75 = .ok (.invokevirtual 223, 3) := by decide +kernel
theorem dX11_drawClause_78 : decode cX11_drawClause 78 = .ok (.ifCond .eq 5, 3) := by decide +kernel
theorem dX11_drawClause_81 : decode cX11_drawClause 81 = .ok (.iconst 0, 1) := by decide +kernel
theorem dX11_drawClause_82 : decode cX11_drawClause 82 = .ok (.ireturn, 1) := by decide +kernel
theorem dX11_drawClause_83 : decode cX11_drawClause 83 = .ok (.aload_n 0, 1) := by decide +kernel
theorem dX11_drawClause_84 : decode cX11_drawClause 84 = .ok (.getfield 80, 3) := by decide +kernel
theorem dX11_drawClause_87 : decode cX11_drawClause 87 = .ok (.aload_n 0, 1) := by decide +kernel
theorem dX11_drawClause_88 : decode cX11_drawClause 88 = .ok (.getfield 84, 3) := by decide +kernel
theorem dX11_drawClause_91 : decode cX11_drawClause 91 = .ok (.invokevirtual 353, 3) := by decide +kernel
theorem dX11_drawClause_94 : decode cX11_drawClause 94 = .ok (.iconst 1, 1) := by decide +kernel
theorem dX11_drawClause_95 : decode cX11_drawClause 95 = .ok (.ireturn, 1) := by decide +kernel
noncomputable def F_X11_drawClause (a0 : Nat) (a1 : Int32) (M : m_M) : Option (Int32 × m_M) :=
  x_gN 9 M a0 2 fun v1 =>
  x_gN 9 M a0 2 fun v2 =>
  x_gN 3 M v2 6 fun v3 =>
  x_aI 12 M v3 (0 : Int32) fun v4 =>
  x_cV 9 M a0 (F_X11_drawBelow a0 v4 M) fun v5 M1 =>
  x_cV 3 M1 v1 (F_X3_nounOf v1 (v5 * (4 : Int32)) M1) fun v6 M2 =>
  x_gN 9 M2 a0 2 fun v7 =>
  x_gN 9 M2 a0 2 fun v8 =>
  x_gN 3 M2 v8 6 fun v9 =>
  x_aI 12 M2 v9 (0 : Int32) fun v10 =>
  x_cV 9 M2 a0 (F_X11_drawBelow a0 v10 M2) fun v11 M3 =>
  x_cV 3 M3 v7 (F_X3_nounOf v7 (v11 * (4 : Int32)) M3) fun v12 M4 =>
  x_gN 9 M4 a0 2 fun v13 =>
  x_gN 9 M4 a0 13 fun v14 =>
  x_cV 3 M4 v13 (F_X3_spread v13 v6 v12 a1 v14 M4) fun _ M5 =>
  x_gN 9 M5 a0 13 fun v15 =>
  x_gN 9 M5 a0 12 fun v16 =>
  x_cV 8 M5 v15 (F_X10_keep v15 v16 M5) fun _ M6 =>
  x_gN 9 M6 a0 13 fun v17 =>
  x_cV 8 M6 v17 (F_X10_isEmpty v17 M6) fun v18 M7 =>
  if v18 = 0 then (
    x_gN 9 M7 a0 12 fun v19 =>
    x_gN 9 M7 a0 13 fun v20 =>
    x_cV 8 M7 v19 (F_X10_take v19 v20 M7) fun _ M8 =>
    some ((1 : Int32), M8)
  ) else
  some ((0 : Int32), M7)
set_option maxHeartbeats 4000000 in
theorem K_X11_drawClause (a0 : Nat) (a1 : Int32) (M : m_M) (Φ : Option Value → m_M → Prop) (h : m_ok e_I Φ (F_X11_drawClause a0 a1 M)) : j_Ct yX11_drawClause cX11_drawClause 4 (some .boolean) 6 0 0 [.ref a0, .int a1] M Φ := by
  refine j_Ct.of (by decide +kernel) (Nat.le_of_ble_eq_true rfl) fun X C => ?_
  have C0 := C.1
  show j_J X 4 0 [some (.ref a0), some (.int a1), none, none] [] (0, 0) M
  unfold F_X11_drawClause at h
  refine j_aload_n C0 (pc := 0) dX11_drawClause_0 rfl ?_
  refine X_gN C0 (pc := 1) f_OV_16_9 rfl dX11_drawClause_1 h (fun v1 h => ?_)
  refine j_aload_n C0 (pc := 4) dX11_drawClause_4 rfl ?_
  refine j_aload_n C0 (pc := 5) dX11_drawClause_5 rfl ?_
  refine X_gN C0 (pc := 6) f_OV_16_9 rfl dX11_drawClause_6 h (fun v2 h => ?_)
  refine X_gN C0 (pc := 9) f_OV_279_3 rfl dX11_drawClause_9 h (fun v3 h => ?_)
  refine j_iconst C0 (pc := 12) dX11_drawClause_12 (v := (0 : Int32)) (by decide) ?_
  refine X_iald C0 (pc := 13) dX11_drawClause_13 h (fun v4 h => ?_)
  refine X_cV C0 (pc := 14) (e' := e_I) (as := [.int v4]) (rest := [.ref v1]) (s' := fun w => .int w :: [.ref v1]) (g' := (0, 0)) v_OV_381_9 (fun Ψ hΨ => K_X11_drawBelow a0 v4 M Ψ hΨ) rfl rfl (fun _ => rfl) (by decide) (by decide) rfl (Nat.le_of_ble_eq_true rfl) dX11_drawClause_14 h (fun v5 M1 h => ?_)
  refine j_iconst C0 (pc := 17) dX11_drawClause_17 (v := (4 : Int32)) (by decide) ?_
  refine j_imul C0 (pc := 18) dX11_drawClause_18 ?_
  refine X_cV C0 (pc := 19) (e' := e_I) (as := [.int (v5 * (4 : Int32))]) (rest := []) (s' := fun w => .int w :: []) (g' := (0, 0)) v_OV_384_3 (fun Ψ hΨ => K_X3_nounOf v1 (v5 * (4 : Int32)) M1 Ψ hΨ) rfl rfl (fun _ => rfl) (by decide) (by decide) rfl (Nat.le_of_ble_eq_true rfl) dX11_drawClause_19 h (fun v6 M2 h => ?_)
  refine j_istore_n C0 (pc := 22) dX11_drawClause_22 (Nat.le_of_ble_eq_true rfl) ?_
  show j_J X 4 23 [some (.ref a0), some (.int a1), some (.int v6), none] [] (0, 0) M2
  refine j_aload_n C0 (pc := 23) dX11_drawClause_23 rfl ?_
  refine X_gN C0 (pc := 24) f_OV_16_9 rfl dX11_drawClause_24 h (fun v7 h => ?_)
  refine j_aload_n C0 (pc := 27) dX11_drawClause_27 rfl ?_
  refine j_aload_n C0 (pc := 28) dX11_drawClause_28 rfl ?_
  refine X_gN C0 (pc := 29) f_OV_16_9 rfl dX11_drawClause_29 h (fun v8 h => ?_)
  refine X_gN C0 (pc := 32) f_OV_279_3 rfl dX11_drawClause_32 h (fun v9 h => ?_)
  refine j_iconst C0 (pc := 35) dX11_drawClause_35 (v := (0 : Int32)) (by decide) ?_
  refine X_iald C0 (pc := 36) dX11_drawClause_36 h (fun v10 h => ?_)
  refine X_cV C0 (pc := 37) (e' := e_I) (as := [.int v10]) (rest := [.ref v7]) (s' := fun w => .int w :: [.ref v7]) (g' := (0, 0)) v_OV_381_9 (fun Ψ hΨ => K_X11_drawBelow a0 v10 M2 Ψ hΨ) rfl rfl (fun _ => rfl) (by decide) (by decide) rfl (Nat.le_of_ble_eq_true rfl) dX11_drawClause_37 h (fun v11 M3 h => ?_)
  refine j_iconst C0 (pc := 40) dX11_drawClause_40 (v := (4 : Int32)) (by decide) ?_
  refine j_imul C0 (pc := 41) dX11_drawClause_41 ?_
  refine X_cV C0 (pc := 42) (e' := e_I) (as := [.int (v11 * (4 : Int32))]) (rest := []) (s' := fun w => .int w :: []) (g' := (0, 0)) v_OV_384_3 (fun Ψ hΨ => K_X3_nounOf v7 (v11 * (4 : Int32)) M3 Ψ hΨ) rfl rfl (fun _ => rfl) (by decide) (by decide) rfl (Nat.le_of_ble_eq_true rfl) dX11_drawClause_42 h (fun v12 M4 h => ?_)
  refine j_istore_n C0 (pc := 45) dX11_drawClause_45 (Nat.le_of_ble_eq_true rfl) ?_
  show j_J X 4 46 [some (.ref a0), some (.int a1), some (.int v6), some (.int v12)] [] (0, 0) M4
  refine j_aload_n C0 (pc := 46) dX11_drawClause_46 rfl ?_
  refine X_gN C0 (pc := 47) f_OV_16_9 rfl dX11_drawClause_47 h (fun v13 h => ?_)
  refine j_iload_n C0 (pc := 50) dX11_drawClause_50 rfl ?_
  refine j_iload_n C0 (pc := 51) dX11_drawClause_51 rfl ?_
  refine j_iload_n C0 (pc := 52) dX11_drawClause_52 rfl ?_
  refine j_aload_n C0 (pc := 53) dX11_drawClause_53 rfl ?_
  refine X_gN C0 (pc := 54) f_OV_84_9 rfl dX11_drawClause_54 h (fun v14 h => ?_)
  refine X_cV C0 (pc := 57) (e' := e_V) (as := [.int v6, .int v12, .int a1, .ref v14]) (rest := []) (s' := fun _ => []) (g' := (0, 0)) v_OV_387_3 (fun Ψ hΨ => K_X3_spread v13 v6 v12 a1 v14 M4 Ψ hΨ) rfl rfl (fun _ => rfl) (by decide) (by decide) rfl (Nat.le_of_ble_eq_true rfl) dX11_drawClause_57 h (fun _ M5 h => ?_)
  refine j_aload_n C0 (pc := 60) dX11_drawClause_60 rfl ?_
  refine X_gN C0 (pc := 61) f_OV_84_9 rfl dX11_drawClause_61 h (fun v15 h => ?_)
  refine j_aload_n C0 (pc := 64) dX11_drawClause_64 rfl ?_
  refine X_gN C0 (pc := 65) f_OV_80_9 rfl dX11_drawClause_65 h (fun v16 h => ?_)
  refine X_cV C0 (pc := 68) (e' := e_V) (as := [.ref v16]) (rest := []) (s' := fun _ => []) (g' := (0, 0)) v_OV_216_8 (fun Ψ hΨ => K_X10_keep v15 v16 M5 Ψ hΨ) rfl rfl (fun _ => rfl) (by decide) (by decide) rfl (Nat.le_of_ble_eq_true rfl) dX11_drawClause_68 h (fun _ M6 h => ?_)
  refine j_aload_n C0 (pc := 71) dX11_drawClause_71 rfl ?_
  refine X_gN C0 (pc := 72) f_OV_84_9 rfl dX11_drawClause_72 h (fun v17 h => ?_)
  refine X_cV C0 (pc := 75) (e' := e_I) (as := []) (rest := []) (s' := fun w => .int w :: []) (g' := (0, 0)) v_OV_223_8 (fun Ψ hΨ => K_X10_isEmpty v17 M6 Ψ hΨ) rfl rfl (fun _ => rfl) (by decide) (by decide) rfl (Nat.le_of_ble_eq_true rfl) dX11_drawClause_75 h (fun v18 M7 h => ?_)
  refine j_if_eq C0 (pc := 78) (tgt := 83) dX11_drawClause_78 (by decide) (fun hc => ?_) (fun hc => ?_)
  · replace h := (X_if h).1 hc
    refine j_aload_n C0 (pc := 83) dX11_drawClause_83 rfl ?_
    refine X_gN C0 (pc := 84) f_OV_80_9 rfl dX11_drawClause_84 h (fun v19 h => ?_)
    refine j_aload_n C0 (pc := 87) dX11_drawClause_87 rfl ?_
    refine X_gN C0 (pc := 88) f_OV_84_9 rfl dX11_drawClause_88 h (fun v20 h => ?_)
    refine X_cV C0 (pc := 91) (e' := e_V) (as := [.ref v20]) (rest := []) (s' := fun _ => []) (g' := (0, 0)) v_OV_353_8 (fun Ψ hΨ => K_X10_take v19 v20 M7 Ψ hΨ) rfl rfl (fun _ => rfl) (by decide) (by decide) rfl (Nat.le_of_ble_eq_true rfl) dX11_drawClause_91 h (fun _ M8 h => ?_)
    refine j_iconst C0 (pc := 94) dX11_drawClause_94 (v := (1 : Int32)) (by decide) ?_
    exact j_zret C rfl (by decide) h dX11_drawClause_95 (by decide)
  · replace h := (X_if h).2 hc
    refine j_iconst C0 (pc := 81) dX11_drawClause_81 (v := (0 : Int32)) (by decide) ?_
    exact j_zret C rfl (by decide) h dX11_drawClause_82 (by decide)
