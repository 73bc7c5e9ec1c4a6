theorem dX12_closes_0 : decode cX12_closes 0 = .ok (.aload_n 0, 1) := by decide +kernel
theorem dX12_closes_1 : decode cX12_closes 1 = .ok (.bipush 59, 2) := by decide +kernel
theorem dX12_closes_3 : decode cX12_closes 3 = .ok (.invokevirtual 233, 3) := by decide +kernel
theorem dX12_closes_6 : decode cX12_closes 6 = .ok (.ifCond .ne 9, 3) := by decide +kernel
theorem dX12_closes_9 : decode cX12_closes 9 = .ok (.aload_n 0, 1) := by decide +kernel
theorem dX12_closes_10 : decode cX12_closes 10 = .ok (.iconst 1, 1) := by decide +kernel
theorem dX12_closes_11 : decode cX12_closes 11 = .ok (.invokevirtual 237, 3) := by decide +kernel
theorem dX12_closes_14 : decode cX12_closes 14 = .ok (.ireturn, 1) := by decide +kernel
theorem dX12_closes_15 : decode cX12_closes 15 = .ok (.aload_n 0, 1) := by decide +kernel
theorem dX12_closes_16 : decode cX12_closes 16 = .ok (.invokevirtual 243, 3) := by decide +kernel
theorem dX12_closes_19 : decode cX12_closes 19 = .ok (.iconst 1, 1) := by decide +kernel
theorem dX12_closes_20 : decode cX12_closes 20 = .ok (.ireturn, 1) := by decide +kernel
noncomputable def F_X12_closes (a0 : Nat) (M : m_M) : Option (Int32 × m_M) :=
  x_cV 10 M a0 (F_X12_isSign a0 (59 : Int32) M) fun v1 M1 =>
  if v1 = 0 then (
    x_cV 10 M1 a0 (F_X12_fails a0 (1 : Int32) M1) fun v2 M3 =>
    x_b v2 <| some (v2, M3)
  ) else
  x_cV 10 M1 a0 (F_X12_nextToken a0 M1) fun _ M2 =>
  some ((1 : Int32), M2)
set_option maxHeartbeats 4000000 in
theorem K_X12_closes (a0 : Nat) (M : m_M) (Φ : Option Value → m_M → Prop) (h : m_ok e_I Φ (F_X12_closes a0 M)) : j_Ct yX12_closes cX12_closes 1 (some .boolean) 3 0 0 [.ref a0] M Φ := by
  refine j_Ct.of (by decide +kernel) (Nat.le_of_ble_eq_true rfl) fun X C => ?_
  have C0 := C.1
  show j_J X 1 0 [some (.ref a0)] [] (0, 0) M
  unfold F_X12_closes at h
  refine j_aload_n C0 (pc := 0) dX12_closes_0 rfl ?_
  refine j_bipush C0 (pc := 1) dX12_closes_1 (v := (59 : Int32)) (by decide) ?_
  refine X_cV C0 (pc := 3) (e' := e_I) (as := [.int (59 : Int32)]) (rest := []) (s' := fun w => .int w :: []) (g' := (0, 0)) v_OM_233_10 (fun Ψ hΨ => K_X12_isSign a0 (59 : Int32) M Ψ hΨ) rfl rfl (fun _ => rfl) (by decide) (by decide) rfl (Nat.le_of_ble_eq_true rfl) dX12_closes_3 h (fun v1 M1 h => ?_)
  refine j_if_ne C0 (pc := 6) (tgt := 15) dX12_closes_6 (by decide) (fun hc => ?_) (fun hc => ?_)
  · replace h := (X_if h).2 hc
    refine j_aload_n C0 (pc := 15) dX12_closes_15 rfl ?_
    refine X_cV C0 (pc := 16) (e' := e_V) (as := []) (rest := []) (s' := fun _ => []) (g' := (0, 0)) v_OM_243_10 (fun Ψ hΨ => K_X12_nextToken a0 M1 Ψ hΨ) rfl rfl (fun _ => rfl) (by decide) (by decide) rfl (Nat.le_of_ble_eq_true rfl) dX12_closes_16 h (fun _ M2 h => ?_)
    refine j_iconst C0 (pc := 19) dX12_closes_19 (v := (1 : Int32)) (by decide) ?_
    exact j_zret C rfl (by decide) h dX12_closes_20 (by decide)
  · replace h := (X_if h).1 hc
    refine j_aload_n C0 (pc := 9) dX12_closes_9 rfl ?_
    refine j_iconst C0 (pc := 10) dX12_closes_10 (v := (1 : Int32)) (by decide) ?_
    refine X_cV C0 (pc := 11) (e' := e_I) (as := [.int (1 : Int32)]) (rest := []) (s' := fun w => .int w :: []) (g' := (0, 0)) v_OM_237_10 (fun Ψ hΨ => K_X12_fails a0 (1 : Int32) M1 Ψ hΨ) rfl rfl (fun _ => rfl) (by decide) (by decide) rfl (Nat.le_of_ble_eq_true rfl) dX12_closes_11 h (fun v2 M3 h => ?_)
    exact j_zret C rfl (by rcases (X_gd h).1 with q | q <;> (rw [q]; rfl)) (X_gd h).2 dX12_closes_14 (by decide)
theorem dX12_readsSaying_0 : decode cX12_readsSaying 0 = .ok (.aload_n 0, 1) := by decide +kernel
theorem dX12_readsSaying_1 : decode cX12_readsSaying 1 = .ok (.iconst 0, 1) := by decide +kernel
theorem dX12_readsSaying_2 : decode cX12_readsSaying 2 = .ok (.putfield 356, 3) := by decide +kernel
theorem dX12_readsSaying_5 : decode cX12_readsSaying 5 = .ok (.aload_n 0, 1) := by decide +kernel
theorem dX12_readsSaying_6 : decode cX12_readsSaying 6 = .ok (.iconst 0, 1) := by decide +kernel
theorem dX12_readsSaying_7 : decode cX12_readsSaying 7 = .ok (.putfield 362, 3) := by decide +kernel
theorem dX12_readsSaying_10 : decode cX12_readsSaying 10 = .ok (.aload_n 0, 1) := by decide +kernel
theorem dX12_readsSaying_11 : decode cX12_readsSaying 11 = .ok (.invokevirtual 327, 3) := by decide +kernel
theorem dX12_readsSaying_14 : decode cX12_readsSaying 14 = .ok (.aload_n 0, 1) := by decide +kernel
theorem dX12_readsSaying_15 : decode cX12_readsSaying 15 = .ok (.invokevirtual 377, 3) := by decide +kernel
theorem dX12_readsSaying_18 : decode cX12_readsSaying 18 = .ok (.ifCond .eq 10, 3) := by decide +kernel
theorem dX12_readsSaying_21 : decode cX12_readsSaying 21 = .ok (.aload_n 0, 1) := by decide +kernel
theorem dX12_readsSaying_22 : decode cX12_readsSaying 22 = .ok (.invokevirtual 309, 3) := by decide +kernel
theorem dX12_readsSaying_25 : decode cX12_readsSaying 25 = .ok (.ifCond .ne 5, 3) := by decide +kernel
theorem dX12_readsSaying_28 : decode cX12_readsSaying 28 = .ok (.iconst 0, 1) := by decide +kernel
theorem dX12_readsSaying_29 : decode cX12_readsSaying 29 = .ok (.ireturn, 1) := by decide +kernel
theorem dX12_readsSaying_30 : decode cX12_readsSaying 30 = .ok (.aload_n 0, 1) := by decide +kernel
theorem dX12_readsSaying_31 : decode cX12_readsSaying 31 = .ok (.getfield 188, 3) := by decide +kernel
theorem dX12_readsSaying_34 : decode cX12_readsSaying 34 = .ok (.ifCond .eq 11, 3) := by decide +kernel
theorem dX12_readsSaying_37 : decode cX12_readsSaying 37 = .ok (.aload_n 0, 1) := by decide +kernel
theorem dX12_readsSaying_38 : decode cX12_readsSaying 38 = .ok (.iconst 1, 1) := by decide +kernel
theorem dX12_readsSaying_39 : decode cX12_readsSaying 39 = .ok (.invokevirtual 237, 3) := by decide +kernel
theorem dX12_readsSaying_42 : decode cX12_readsSaying 42 = .ok (.ifCond .eq 7, 3) := by decide +kernel
theorem dX12_readsSaying_45 : decode cX12_readsSaying 45 = .ok (.iconst 1, 1) := by decide +kernel
theorem dX12_readsSaying_46 : decode cX12_readsSaying 46 = .ok (.goto 4, 3) := by decide +kernel
theorem dX12_readsSaying_49 : decode cX12_readsSaying 49 = .ok (.iconst 0, 1) := by decide +kernel
theorem dX12_readsSaying_50 : decode cX12_readsSaying 50 = .ok (.ireturn, 1) := by decide +kernel
noncomputable def F_X12_readsSaying (a0 : Nat) (M : m_M) : Option (Int32 × m_M) :=
  x_pI 10 M a0 39 (0 : Int32) fun M1 =>
  x_pI 10 M1 a0 40 (0 : Int32) fun M2 =>
  x_cV 10 M2 a0 (F_X12_starts a0 M2) fun _ M3 =>
  x_cV 10 M3 a0 (FG_X12_readsFormula a0 M3) fun v1 M4 =>
  if v1 = 0 then (
    some ((0 : Int32), M4)
  ) else
  x_cV 10 M4 a0 (F_X12_closes a0 M4) fun v2 M5 =>
  if v2 = 0 then (
    some ((0 : Int32), M5)
  ) else
  m_let (fun  (M6 : m_M) =>
    some ((1 : Int32), M6)
  ) fun (k45 : m_M → Option (Int32 × m_M)) =>
  x_gI 10 M5 a0 6 fun v3 =>
  if v3 = 0 then (
    k45 M5
  ) else
  x_cV 10 M5 a0 (F_X12_fails a0 (1 : Int32) M5) fun v4 M7 =>
  if v4 = 0 then (
    some ((0 : Int32), M7)
  ) else
  k45 M7
set_option maxHeartbeats 4000000 in
theorem K_X12_readsSaying (a0 : Nat) (M : m_M) (Φ : Option Value → m_M → Prop) (h : m_ok e_I Φ (F_X12_readsSaying a0 M)) : j_Ct yX12_readsSaying cX12_readsSaying 1 (some .boolean) 69 0 0 [.ref a0] M Φ := by
  refine j_Ct.of (by decide +kernel) (Nat.le_of_ble_eq_true rfl) fun X C => ?_
  have C0 := C.1
  show j_J X 1 0 [some (.ref a0)] [] (0, 0) M
  unfold F_X12_readsSaying at h
  refine j_aload_n C0 (pc := 0) dX12_readsSaying_0 rfl ?_
  refine j_iconst C0 (pc := 1) dX12_readsSaying_1 (v := (0 : Int32)) (by decide) ?_
  refine X_pI C0 (pc := 2) f_OM_356_10 rfl rfl dX12_readsSaying_2 h (fun M1 h => ?_)
  refine j_aload_n C0 (pc := 5) dX12_readsSaying_5 rfl ?_
  refine j_iconst C0 (pc := 6) dX12_readsSaying_6 (v := (0 : Int32)) (by decide) ?_
  refine X_pI C0 (pc := 7) f_OM_362_10 rfl rfl dX12_readsSaying_7 h (fun M2 h => ?_)
  refine j_aload_n C0 (pc := 10) dX12_readsSaying_10 rfl ?_
  refine X_cV C0 (pc := 11) (e' := e_V) (as := []) (rest := []) (s' := fun _ => []) (g' := (0, 0)) v_OM_327_10 (fun Ψ hΨ => K_X12_starts a0 M2 Ψ hΨ) rfl rfl (fun _ => rfl) (by decide) (by decide) rfl (Nat.le_of_ble_eq_true rfl) dX12_readsSaying_11 h (fun _ M3 h => ?_)
  refine j_aload_n C0 (pc := 14) dX12_readsSaying_14 rfl ?_
  refine X_cV C0 (pc := 15) (e' := e_I) (as := []) (rest := []) (s' := fun w => .int w :: []) (g' := (0, 0)) v_OM_377_10 (fun Ψ hΨ => KG_X12_readsFormula a0 M3 Ψ hΨ) rfl rfl (fun _ => rfl) (by decide) (by decide) rfl (Nat.le_of_ble_eq_true rfl) dX12_readsSaying_15 h (fun v1 M4 h => ?_)
  refine j_if_eq C0 (pc := 18) (tgt := 28) dX12_readsSaying_18 (by decide) (fun hc => ?_) (fun hc => ?_)
  · replace h := (X_if h).1 hc
    refine j_iconst C0 (pc := 28) dX12_readsSaying_28 (v := (0 : Int32)) (by decide) ?_
    exact j_zret C rfl (by decide) h dX12_readsSaying_29 (by decide)
  · replace h := (X_if h).2 hc
    refine j_aload_n C0 (pc := 21) dX12_readsSaying_21 rfl ?_
    refine X_cV C0 (pc := 22) (e' := e_I) (as := []) (rest := []) (s' := fun w => .int w :: []) (g' := (0, 0)) v_OM_309_10 (fun Ψ hΨ => K_X12_closes a0 M4 Ψ hΨ) rfl rfl (fun _ => rfl) (by decide) (by decide) rfl (Nat.le_of_ble_eq_true rfl) dX12_readsSaying_22 h (fun v2 M5 h => ?_)
    refine j_if_ne C0 (pc := 25) (tgt := 30) dX12_readsSaying_25 (by decide) (fun hc => ?_) (fun hc => ?_)
    · replace h := (X_if h).2 hc
      refine X_join (fun (kj : m_M → Option (Int32 × m_M)) => ∀  (M : m_M), m_ok e_I Φ (kj M) → j_J X 1 45 [none] [] (0, 0) M) h (fun M6 h => ?_) (fun k45 hk45 h => ?_)
      · refine j_iconst C0 (pc := 45) dX12_readsSaying_45 (v := (1 : Int32)) (by decide) ?_
        refine j_goto C0 (pc := 46) (tgt := 50) dX12_readsSaying_46 (by decide) ?_
        exact j_zret C rfl (by decide) h dX12_readsSaying_50 (by decide)
      · refine j_aload_n C0 (pc := 30) dX12_readsSaying_30 rfl ?_
        refine X_gI C0 (pc := 31) f_OM_188_10 rfl dX12_readsSaying_31 h (fun v3 h => ?_)
        refine j_if_eq C0 (pc := 34) (tgt := 45) dX12_readsSaying_34 (by decide) (fun hc => ?_) (fun hc => ?_)
        · replace h := (X_if h).1 hc
          exact j_J.wq (hk45 M5 h) (trivial)
        · replace h := (X_if h).2 hc
          refine j_aload_n C0 (pc := 37) dX12_readsSaying_37 rfl ?_
          refine j_iconst C0 (pc := 38) dX12_readsSaying_38 (v := (1 : Int32)) (by decide) ?_
          refine X_cV C0 (pc := 39) (e' := e_I) (as := [.int (1 : Int32)]) (rest := []) (s' := fun w => .int w :: []) (g' := (0, 0)) v_OM_237_10 (fun Ψ hΨ => K_X12_fails a0 (1 : Int32) M5 Ψ hΨ) rfl rfl (fun _ => rfl) (by decide) (by decide) rfl (Nat.le_of_ble_eq_true rfl) dX12_readsSaying_39 h (fun v4 M7 h => ?_)
          refine j_if_eq C0 (pc := 42) (tgt := 49) dX12_readsSaying_42 (by decide) (fun hc => ?_) (fun hc => ?_)
          · replace h := (X_if h).1 hc
            refine j_iconst C0 (pc := 49) dX12_readsSaying_49 (v := (0 : Int32)) (by decide) ?_
            exact j_zret C rfl (by decide) h dX12_readsSaying_50 (by decide)
          · replace h := (X_if h).2 hc
            exact j_J.wq (hk45 M7 h) (trivial)
    · replace h := (X_if h).1 hc
      refine j_iconst C0 (pc := 28) dX12_readsSaying_28 (v := (0 : Int32)) (by decide) ?_
      exact j_zret C rfl (by decide) h dX12_readsSaying_29 (by decide)
theorem dX12_shows_0 : decode cX12_shows 0 = .ok (.iload_n 1, 1) := by decide +kernel
theorem dX12_shows_1 : decode cX12_shows 1 = .ok (.istore_n 2, 1) := by decide +kernel
theorem dX12_shows_2 : decode cX12_shows 2 = .ok (.aload_n 0, 1) := by decide +kernel
theorem dX12_shows_3 : decode cX12_shows 3 = .ok (.getfield 13, 3) := by decide +kernel
theorem dX12_shows_6 : decode cX12_shows 6 = .ok (.iconst 1, 1) := by decide +kernel
theorem dX12_shows_7 : decode cX12_shows 7 = .ok (.iaload, 1) := by decide +kernel
theorem dX12_shows_8 : decode cX12_shows 8 = .ok (.iconst 1, 1) := by decide +kernel
theorem dX12_shows_9 : decode cX12_shows 9 = .ok (.isub, 1) := by decide +kernel
theorem dX12_shows_10 : decode cX12_shows 10 = .ok (.istore_n 3, 1) := by decide +kernel
theorem dX12_shows_11 : decode cX12_shows 11 = .ok (.iload_n 3, 1) := by decide +kernel
theorem dX12_shows_12 : decode cX12_shows 12 = .ok (.ifCond .lt 32, 3) := by decide +kernel
theorem dX12_shows_15 : decode cX12_shows 15 = .ok (.aload_n 0, 1) := by decide +kernel
theorem dX12_shows_16 : decode cX12_shows 16 = .ok (.getfield 87, 3) := by decide +kernel
theorem dX12_shows_19 : decode cX12_shows 19 = .ok (.iload_n 3, 1) := by decide +kernel
theorem dX12_shows_20 : decode cX12_shows 20 = .ok (.iload_n 2, 1) := by decide +kernel
theorem dX12_shows_21 : decode cX12_shows 21 = .ok (.aload_n 0, 1) := by decide +kernel
theorem dX12_shows_22 : decode cX12_shows 22 = .ok (.getfield 13, 3) := by decide +kernel
theorem dX12_shows_25 : decode cX12_shows 25 = .ok (.iconst 0, 1) := by decide +kernel
theorem dX12_shows_26 : decode cX12_shows 26 = .ok (.iaload, 1) := by decide +kernel
theorem dX12_shows_27 : decode cX12_shows 27 = .ok (.irem, 1) := by decide +kernel
theorem dX12_shows_28 : decode cX12_shows 28 = .ok (.iastore, 1) := by decide +kernel
theorem dX12_shows_29 : decode cX12_shows 29 = .ok (.iload_n 2, 1) := by decide +kernel
theorem dX12_shows_30 : decode cX12_shows 30 = .ok (.aload_n 0, 1) := by decide +kernel
theorem dX12_shows_31 : decode cX12_shows 31 = .ok (.getfield 13, 3) := by decide +kernel
theorem dX12_shows_34 : decode cX12_shows 34 = .ok (.iconst 0, 1) := by decide +kernel
theorem dX12_shows_35 : decode cX12_shows 35 = .ok (.iaload, 1) := by decide +kernel
theorem dX12_shows_36 : decode cX12_shows 36 = .ok (.idiv, 1) := by decide +kernel
theorem dX12_shows_37 : decode cX12_shows 37 = .ok (.istore_n 2, 1) := by decide +kernel
theorem dX12_shows_38 : decode cX12_shows 38 = .ok (.iinc 3 (-1), 3) := by decide +kernel
theorem dX12_shows_41 : decode cX12_shows 41 = .ok (.goto (-30), 3) := by decide +kernel
theorem dX12_shows_44 : decode cX12_shows 44 = .ok (.return_, 1) := by decide +kernel
noncomputable def F_X12_shows_11 : Nat → Nat → Int32 → Int32 → m_M → Option (Unit × m_M)
  | 0, _, _, _, _ => none
  | n + 1, v1, v2, v3, M =>
    if v3 < 0 then (
      some ((), M)
    ) else
    x_gN 10 M v1 44 fun v4 =>
    x_gN 10 M v1 10 fun v5 =>
    x_aI 12 M v5 (0 : Int32) fun v6 =>
    x_nz v6 <|
    x_sI 12 M v4 v3 (v2 - v2 / v6 * v6) fun M1 =>
    x_gN 10 M1 v1 10 fun v7 =>
    x_aI 12 M1 v7 (0 : Int32) fun v8 =>
    x_nz v8 <|
    m_let (v2 / v8) fun v9 =>
    m_let (v3 + (-1 : Int32)) fun v10 =>
    F_X12_shows_11 n v1 v9 v10 M1
noncomputable def F_X12_shows (a0 : Nat) (a1 : Int32) (M : m_M) : Option (Unit × m_M) :=
  x_gN 10 M a0 10 fun v1 =>
  x_aI 12 M v1 (1 : Int32) fun v2 =>
  m_let (v2 - (1 : Int32)) fun v3 =>
  F_X12_shows_11 m_FU a0 a1 v3 M
set_option maxHeartbeats 4000000 in
theorem L_X12_shows_11 {X : j_X} {Φ : Option Value → m_M → Prop} (C : j_C X yX12_shows cX12_shows 4 none 1 0 0 Φ) : ∀ (n : Nat) (v1 : Nat) (v2 : Int32) (v3 : Int32) (M : m_M), m_ok e_V Φ (F_X12_shows_11 n v1 v2 v3 M) → j_J X 4 11 [some (.ref v1), none, some (.int v2), some (.int v3)] [] (0, 0) M := by
  have C0 := C.1
  intro n
  induction n with
  | zero => intro v1 v2 v3 M h; exact False.elim h
  | succ n ih =>
    intro v1 v2 v3 M h
    rw [F_X12_shows_11] at h
    refine j_iload_n C0 (pc := 11) dX12_shows_11 rfl ?_
    refine j_if_lt C0 (pc := 12) (tgt := 44) dX12_shows_12 (by decide) (fun hc => ?_) (fun hc => ?_)
    · replace h := (X_if h).1 hc
      exact j_vret C rfl h dX12_shows_44 (by decide)
    · replace h := (X_if h).2 hc
      refine j_aload_n C0 (pc := 15) dX12_shows_15 rfl ?_
      refine X_gN C0 (pc := 16) f_OM_87_10 rfl dX12_shows_16 h (fun v4 h => ?_)
      refine j_iload_n C0 (pc := 19) dX12_shows_19 rfl ?_
      refine j_iload_n C0 (pc := 20) dX12_shows_20 rfl ?_
      refine j_aload_n C0 (pc := 21) dX12_shows_21 rfl ?_
      refine X_gN C0 (pc := 22) f_OM_13_10 rfl dX12_shows_22 h (fun v5 h => ?_)
      refine j_iconst C0 (pc := 25) dX12_shows_25 (v := (0 : Int32)) (by decide) ?_
      refine X_iald C0 (pc := 26) dX12_shows_26 h (fun v6 h => ?_)
      refine X_irem C0 (pc := 27) dX12_shows_27 h (fun h => ?_)
      refine X_iast C0 (pc := 28) dX12_shows_28 h (fun M1 h => ?_)
      refine j_iload_n C0 (pc := 29) dX12_shows_29 rfl ?_
      refine j_aload_n C0 (pc := 30) dX12_shows_30 rfl ?_
      refine X_gN C0 (pc := 31) f_OM_13_10 rfl dX12_shows_31 h (fun v7 h => ?_)
      refine j_iconst C0 (pc := 34) dX12_shows_34 (v := (0 : Int32)) (by decide) ?_
      refine X_iald C0 (pc := 35) dX12_shows_35 h (fun v8 h => ?_)
      refine X_idiv C0 (pc := 36) dX12_shows_36 h (fun h => ?_)
      refine X_let (G := fun w => j_J X 4 37 [some (.ref v1), none, some (.int v2), some (.int v3)] (.int w :: []) (0, 0) M1) h (fun v9 h => ?_)
      refine j_istore_n C0 (pc := 37) dX12_shows_37 (Nat.le_of_ble_eq_true rfl) ?_
      show j_J X 4 38 [some (.ref v1), none, some (.int v9), some (.int v3)] [] (0, 0) M1
      refine j_iinc C0 (pc := 38) dX12_shows_38 (v := v3 + (-1 : Int32)) rfl (Nat.le_of_ble_eq_true rfl) (by rfl) ?_
      refine X_let (G := fun w => j_J X 4 41 [some (.ref v1), none, some (.int v9), some (.int w)] [] (0, 0) M1) h (fun v10 h => ?_)
      refine j_goto C0 (pc := 41) (tgt := 11) dX12_shows_41 (by decide) ?_
      exact j_J.wq (ih v1 v9 v10 M1 h) (And.intro rfl (And.intro rfl (And.intro rfl (trivial))))
set_option maxHeartbeats 4000000 in
theorem K_X12_shows (a0 : Nat) (a1 : Int32) (M : m_M) (Φ : Option Value → m_M → Prop) (h : m_ok e_V Φ (F_X12_shows a0 a1 M)) : j_Ct yX12_shows cX12_shows 4 none 1 0 0 [.ref a0, .int a1] M Φ := by
  refine j_Ct.of (by decide +kernel) (Nat.le_of_ble_eq_true rfl) fun X C => ?_
  have C0 := C.1
  show j_J X 4 0 [some (.ref a0), some (.int a1), none, none] [] (0, 0) M
  unfold F_X12_shows at h
  refine j_iload_n C0 (pc := 0) dX12_shows_0 rfl ?_
  refine j_istore_n C0 (pc := 1) dX12_shows_1 (Nat.le_of_ble_eq_true rfl) ?_
  show j_J X 4 2 [some (.ref a0), some (.int a1), some (.int a1), none] [] (0, 0) M
  refine j_aload_n C0 (pc := 2) dX12_shows_2 rfl ?_
  refine X_gN C0 (pc := 3) f_OM_13_10 rfl dX12_shows_3 h (fun v1 h => ?_)
  refine j_iconst C0 (pc := 6) dX12_shows_6 (v := (1 : Int32)) (by decide) ?_
  refine X_iald C0 (pc := 7) dX12_shows_7 h (fun v2 h => ?_)
  refine j_iconst C0 (pc := 8) dX12_shows_8 (v := (1 : Int32)) (by decide) ?_
  refine j_isub C0 (pc := 9) dX12_shows_9 ?_
  refine X_let (G := fun w => j_J X 4 10 [some (.ref a0), some (.int a1), some (.int a1), none] (.int w :: []) (0, 0) M) h (fun v3 h => ?_)
  refine j_istore_n C0 (pc := 10) dX12_shows_10 (Nat.le_of_ble_eq_true rfl) ?_
  show j_J X 4 11 [some (.ref a0), some (.int a1), some (.int a1), some (.int v3)] [] (0, 0) M
  exact j_J.wq (L_X12_shows_11 C m_FU a0 a1 v3 M h) (And.intro rfl (And.intro rfl (And.intro rfl (trivial))))
theorem dX12_opens_0 : decode cX12_opens 0 = .ok (.aload_n 0, 1) := by decide +kernel
theorem dX12_opens_1 : decode cX12_opens 1 = .ok (.getfield 57, 3) := by decide +kernel
theorem dX12_opens_4 : decode cX12_opens 4 = .ok (.iload_n 1, 1) := by decide +kernel
theorem dX12_opens_5 : decode cX12_opens 5 = .ok (.iconst 0, 1) := by decide +kernel
theorem dX12_opens_6 : decode cX12_opens 6 = .ok (.iastore, 1) := by decide +kernel
theorem dX12_opens_7 : decode cX12_opens 7 = .ok (.aload_n 0, 1) := by decide +kernel
theorem dX12_opens_8 : decode cX12_opens 8 = .ok (.getfield 63, 3) := by decide +kernel
theorem dX12_opens_11 : decode cX12_opens 11 = .ok (.iload_n 1, 1) := by decide +kernel
theorem dX12_opens_12 : decode cX12_opens 12 = .ok (.iconst 0, 1) := by decide +kernel
theorem dX12_opens_13 : decode cX12_opens 13 = .ok (.iastore, 1) := by decide +kernel
theorem dX12_opens_14 : decode cX12_opens 14 = .ok (.aload_n 0, 1) := by decide +kernel
theorem dX12_opens_15 : decode cX12_opens 15 = .ok (.getfield 66, 3) := by decide +kernel
theorem dX12_opens_18 : decode cX12_opens 18 = .ok (.iload_n 1, 1) := by decide +kernel
theorem dX12_opens_19 : decode cX12_opens 19 = .ok (.iconst 0, 1) := by decide +kernel
theorem dX12_opens_20 : decode cX12_opens 20 = .ok (.iastore, 1) := by decide +kernel
theorem dX12_opens_21 : decode cX12_opens 21 = .ok (.aload_n 0, 1) := by decide +kernel
theorem dX12_opens_22 : decode cX12_opens 22 = .ok (.getfield 69, 3) := by decide +kernel
theorem dX12_opens_25 : decode cX12_opens 25 = .ok (.iload_n 1, 1) := by decide +kernel
theorem dX12_opens_26 : decode cX12_opens 26 = .ok (.bipush 20, 2) := by decide +kernel
theorem dX12_opens_28 : decode cX12_opens 28 = .ok (.iastore, 1) := by decide +kernel
theorem dX12_opens_29 : decode cX12_opens 29 = .ok (.aload_n 0, 1) := by decide +kernel
theorem dX12_opens_30 : decode cX12_opens 30 = .ok (.getfield 75, 3) := by decide +kernel
theorem dX12_opens_33 : decode cX12_opens 33 = .ok (.iload_n 1, 1) := by decide +kernel
theorem dX12_opens_34 : decode cX12_opens 34 = .ok (.iconst 0, 1) := by decide +kernel
theorem dX12_opens_35 : decode cX12_opens 35 = .ok (.iastore, 1) := by decide +kernel
theorem dX12_opens_36 : decode cX12_opens 36 = .ok (.return_, 1) := by decide +kernel
noncomputable def F_X12_opens (a0 : Nat) (a1 : Int32) (M : m_M) : Option (Unit × m_M) :=
  x_gN 10 M a0 28 fun v1 =>
  x_sI 12 M v1 a1 (0 : Int32) fun M1 =>
  x_gN 10 M1 a0 30 fun v2 =>
  x_sI 12 M1 v2 a1 (0 : Int32) fun M2 =>
  x_gN 10 M2 a0 31 fun v3 =>
  x_sI 12 M2 v3 a1 (0 : Int32) fun M3 =>
  x_gN 10 M3 a0 32 fun v4 =>
  x_sI 12 M3 v4 a1 (20 : Int32) fun M4 =>
  x_gN 10 M4 a0 34 fun v5 =>
  x_sI 12 M4 v5 a1 (0 : Int32) fun M5 =>
  some ((), M5)
set_option maxHeartbeats 4000000 in
theorem K_X12_opens (a0 : Nat) (a1 : Int32) (M : m_M) (Φ : Option Value → m_M → Prop) (h : m_ok e_V Φ (F_X12_opens a0 a1 M)) : j_Ct yX12_opens cX12_opens 2 none 1 0 0 [.ref a0, .int a1] M Φ := by
  refine j_Ct.of (by decide +kernel) (Nat.le_of_ble_eq_true rfl) fun X C => ?_
  have C0 := C.1
  show j_J X 2 0 [some (.ref a0), some (.int a1)] [] (0, 0) M
  unfold F_X12_opens at h
  refine j_aload_n C0 (pc := 0) dX12_opens_0 rfl ?_
  refine X_gN C0 (pc := 1) f_OM_57_10 rfl dX12_opens_1 h (fun v1 h => ?_)
  refine j_iload_n C0 (pc := 4) dX12_opens_4 rfl ?_
  refine j_iconst C0 (pc := 5) dX12_opens_5 (v := (0 : Int32)) (by decide) ?_
  refine X_iast C0 (pc := 6) dX12_opens_6 h (fun M1 h => ?_)
  refine j_aload_n C0 (pc := 7) dX12_opens_7 rfl ?_
  refine X_gN C0 (pc := 8) f_OM_63_10 rfl dX12_opens_8 h (fun v2 h => ?_)
  refine j_iload_n C0 (pc := 11) dX12_opens_11 rfl ?_
  refine j_iconst C0 (pc := 12) dX12_opens_12 (v := (0 : Int32)) (by decide) ?_
  refine X_iast C0 (pc := 13) dX12_opens_13 h (fun M2 h => ?_)
  refine j_aload_n C0 (pc := 14) dX12_opens_14 rfl ?_
  refine X_gN C0 (pc := 15) f_OM_66_10 rfl dX12_opens_15 h (fun v3 h => ?_)
  refine j_iload_n C0 (pc := 18) dX12_opens_18 rfl ?_
  refine j_iconst C0 (pc := 19) dX12_opens_19 (v := (0 : Int32)) (by decide) ?_
  refine X_iast C0 (pc := 20) dX12_opens_20 h (fun M3 h => ?_)
  refine j_aload_n C0 (pc := 21) dX12_opens_21 rfl ?_
  refine X_gN C0 (pc := 22) f_OM_69_10 rfl dX12_opens_22 h (fun v4 h => ?_)
  refine j_iload_n C0 (pc := 25) dX12_opens_25 rfl ?_
  refine j_bipush C0 (pc := 26) dX12_opens_26 (v := (20 : Int32)) (by decide) ?_
  refine X_iast C0 (pc := 28) dX12_opens_28 h (fun M4 h => ?_)
  refine j_aload_n C0 (pc := 29) dX12_opens_29 rfl ?_
  refine X_gN C0 (pc := 30) f_OM_75_10 rfl dX12_opens_30 h (fun v5 h => ?_)
  refine j_iload_n C0 (pc := 33) dX12_opens_33 rfl ?_
  refine j_iconst C0 (pc := 34) dX12_opens_34 (v := (0 : Int32)) (by decide) ?_
  refine X_iast C0 (pc := 35) dX12_opens_35 h (fun M5 h => ?_)
  exact j_vret C rfl h dX12_opens_36 (by decide)
theorem dX12_sums_0 : decode cX12_sums 0 = .ok (.aload_n 0, 1) := by decide +kernel
theorem dX12_sums_1 : decode cX12_sums 1 = .ok (.getfield 66, 3) := by decide +kernel
theorem dX12_sums_4 : decode cX12_sums 4 = .ok (.iload_n 1, 1) := by decide +kernel
theorem dX12_sums_5 : decode cX12_sums 5 = .ok (.aload_n 0, 1) := by decide +kernel
theorem dX12_sums_6 : decode cX12_sums 6 = .ok (.getfield 69, 3) := by decide +kernel
theorem dX12_sums_9 : decode cX12_sums 9 = .ok (.iload_n 1, 1) := by decide +kernel
theorem dX12_sums_10 : decode cX12_sums 10 = .ok (.iaload, 1) := by decide +kernel
theorem dX12_sums_11 : decode cX12_sums 11 = .ok (.bipush 21, 2) := by decide +kernel
theorem dX12_sums_13 : decode cX12_sums 13 = .ok (.if_icmp .ne 19, 3) := by decide +kernel
theorem dX12_sums_16 : decode cX12_sums 16 = .ok (.aload_n 0, 1) := by decide +kernel
theorem dX12_sums_17 : decode cX12_sums 17 = .ok (.getfield 66, 3) := by decide +kernel
theorem dX12_sums_20 : decode cX12_sums 20 = .ok (.iload_n 1, 1) := by decide +kernel
theorem dX12_sums_21 : decode cX12_sums 21 = .ok (.iaload, 1) := by decide +kernel
theorem dX12_sums_22 : decode cX12_sums 22 = .ok (.aload_n 0, 1) := by decide +kernel
theorem dX12_sums_23 : decode cX12_sums 23 = .ok (.getfield 72, 3) := by decide +kernel
theorem dX12_sums_26 : decode cX12_sums 26 = .ok (.iload_n 1, 1) := by decide +kernel
theorem dX12_sums_27 : decode cX12_sums 27 = .ok (.iaload, 1) := by decide +kernel
theorem dX12_sums_28 : decode cX12_sums 28 = .ok (.isub, 1) := by decide +kernel
theorem dX12_sums_29 : decode cX12_sums 29 = .ok (.goto 16, 3) := by decide +kernel
theorem dX12_sums_32 : decode cX12_sums 32 = .ok (.aload_n 0, 1) := by decide +kernel
theorem dX12_sums_33 : decode cX12_sums 33 = .ok (.getfield 66, 3) := by decide +kernel
theorem dX12_sums_36 : decode cX12_sums 36 = .ok (.iload_n 1, 1) := by decide +kernel
theorem dX12_sums_37 : decode cX12_sums 37 = .ok (.iaload, 1) := by decide +kernel
theorem dX12_sums_38 : decode cX12_sums 38 = .ok (.aload_n 0, 1) := by decide +kernel
theorem dX12_sums_39 : decode cX12_sums 39 = .ok (.getfield 72, 3) := by decide +kernel
theorem dX12_sums_42 : decode cX12_sums 42 = .ok (.iload_n 1, 1) := by decide +kernel
theorem dX12_sums_43 : decode cX12_sums 43 = .ok (.iaload, 1) := by decide +kernel
theorem dX12_sums_44 : decode cX12_sums 44 = .ok (.iadd, 1) := by decide +kernel
theorem dX12_sums_45 : decode cX12_sums 45 = .ok (.iastore, 1) := by decide +kernel
theorem dX12_sums_46 : decode cX12_sums 46 = .ok (.aload_n 0, 1) := by decide +kernel
theorem dX12_sums_47 : decode cX12_sums 47 = .ok (.getfield 75, 3) := by decide +kernel
theorem dX12_sums_50 : decode cX12_sums 50 = .ok (.iload_n 1, 1) := by decide +kernel
theorem dX12_sums_51 : decode cX12_sums 51 = .ok (.iconst 0, 1) := by decide +kernel
theorem dX12_sums_52 : decode cX12_sums 52 = .ok (.iastore, 1) := by decide +kernel
theorem dX12_sums_53 : decode cX12_sums 53 = .ok (.return_, 1) := by decide +kernel
noncomputable def F_X12_sums (a0 : Nat) (a1 : Int32) (M : m_M) : Option (Unit × m_M) :=
  m_let (fun (v1 : Nat) (v2 : Int32) (v3 : Nat) (v4 : Int32) (v5 : Int32) (M1 : m_M) =>
    x_sI 12 M1 v3 v4 v5 fun M2 =>
    x_gN 10 M2 v1 34 fun v6 =>
    x_sI 12 M2 v6 v2 (0 : Int32) fun M3 =>
    some ((), M3)
  ) fun (k45 : Nat → Int32 → Nat → Int32 → Int32 → m_M → Option (Unit × m_M)) =>
  x_gN 10 M a0 31 fun v7 =>
  x_gN 10 M a0 32 fun v8 =>
  x_aI 12 M v8 a1 fun v9 =>
  if v9 = (21 : Int32) then (
    x_gN 10 M a0 31 fun v14 =>
    x_aI 12 M v14 a1 fun v15 =>
    x_gN 10 M a0 33 fun v16 =>
    x_aI 12 M v16 a1 fun v17 =>
    k45 a0 a1 v7 a1 (v15 - v17) M
  ) else
  x_gN 10 M a0 31 fun v10 =>
  x_aI 12 M v10 a1 fun v11 =>
  x_gN 10 M a0 33 fun v12 =>
  x_aI 12 M v12 a1 fun v13 =>
  k45 a0 a1 v7 a1 (v11 + v13) M
set_option maxHeartbeats 4000000 in
theorem K_X12_sums (a0 : Nat) (a1 : Int32) (M : m_M) (Φ : Option Value → m_M → Prop) (h : m_ok e_V Φ (F_X12_sums a0 a1 M)) : j_Ct yX12_sums cX12_sums 2 none 1 0 0 [.ref a0, .int a1] M Φ := by
  refine j_Ct.of (by decide +kernel) (Nat.le_of_ble_eq_true rfl) fun X C => ?_
  have C0 := C.1
  show j_J X 2 0 [some (.ref a0), some (.int a1)] [] (0, 0) M
  unfold F_X12_sums at h
  refine X_join (fun (kj : Nat → Int32 → Nat → Int32 → Int32 → m_M → Option (Unit × m_M)) => ∀ (p0 : Nat) (p1 : Int32) (p2 : Nat) (p3 : Int32) (p4 : Int32) (M : m_M), m_ok e_V Φ (kj p0 p1 p2 p3 p4 M) → j_J X 2 45 [some (.ref p0), some (.int p1)] [.int p4, .int p3, .ref p2] (0, 0) M) h (fun v1 v2 v3 v4 v5 M1 h => ?_) (fun k45 hk45 h => ?_)
  · refine X_iast C0 (pc := 45) dX12_sums_45 h (fun M2 h => ?_)
    refine j_aload_n C0 (pc := 46) dX12_sums_46 rfl ?_
    refine X_gN C0 (pc := 47) f_OM_75_10 rfl dX12_sums_47 h (fun v6 h => ?_)
    refine j_iload_n C0 (pc := 50) dX12_sums_50 rfl ?_
    refine j_iconst C0 (pc := 51) dX12_sums_51 (v := (0 : Int32)) (by decide) ?_
    refine X_iast C0 (pc := 52) dX12_sums_52 h (fun M3 h => ?_)
    exact j_vret C rfl h dX12_sums_53 (by decide)
  · refine j_aload_n C0 (pc := 0) dX12_sums_0 rfl ?_
    refine X_gN C0 (pc := 1) f_OM_66_10 rfl dX12_sums_1 h (fun v7 h => ?_)
    refine j_iload_n C0 (pc := 4) dX12_sums_4 rfl ?_
    refine j_aload_n C0 (pc := 5) dX12_sums_5 rfl ?_
    refine X_gN C0 (pc := 6) f_OM_69_10 rfl dX12_sums_6 h (fun v8 h => ?_)
    refine j_iload_n C0 (pc := 9) dX12_sums_9 rfl ?_
    refine X_iald C0 (pc := 10) dX12_sums_10 h (fun v9 h => ?_)
    refine j_bipush C0 (pc := 11) dX12_sums_11 (v := (21 : Int32)) (by decide) ?_
    refine j_icmp_ne C0 (pc := 13) (tgt := 32) dX12_sums_13 (by decide) (fun hc => ?_) (fun hc => ?_)
    · replace h := (X_if h).2 hc
      refine j_aload_n C0 (pc := 32) dX12_sums_32 rfl ?_
      refine X_gN C0 (pc := 33) f_OM_66_10 rfl dX12_sums_33 h (fun v10 h => ?_)
      refine j_iload_n C0 (pc := 36) dX12_sums_36 rfl ?_
      refine X_iald C0 (pc := 37) dX12_sums_37 h (fun v11 h => ?_)
      refine j_aload_n C0 (pc := 38) dX12_sums_38 rfl ?_
      refine X_gN C0 (pc := 39) f_OM_72_10 rfl dX12_sums_39 h (fun v12 h => ?_)
      refine j_iload_n C0 (pc := 42) dX12_sums_42 rfl ?_
      refine X_iald C0 (pc := 43) dX12_sums_43 h (fun v13 h => ?_)
      refine j_iadd C0 (pc := 44) dX12_sums_44 ?_
      exact j_J.wq (hk45 a0 a1 v7 a1 (v11 + v13) M h) (And.intro rfl (And.intro rfl (trivial)))
    · replace h := (X_if h).1 hc
      refine j_aload_n C0 (pc := 16) dX12_sums_16 rfl ?_
      refine X_gN C0 (pc := 17) f_OM_66_10 rfl dX12_sums_17 h (fun v14 h => ?_)
      refine j_iload_n C0 (pc := 20) dX12_sums_20 rfl ?_
      refine X_iald C0 (pc := 21) dX12_sums_21 h (fun v15 h => ?_)
      refine j_aload_n C0 (pc := 22) dX12_sums_22 rfl ?_
      refine X_gN C0 (pc := 23) f_OM_72_10 rfl dX12_sums_23 h (fun v16 h => ?_)
      refine j_iload_n C0 (pc := 26) dX12_sums_26 rfl ?_
      refine X_iald C0 (pc := 27) dX12_sums_27 h (fun v17 h => ?_)
      refine j_isub C0 (pc := 28) dX12_sums_28 ?_
      refine j_goto C0 (pc := 29) (tgt := 45) dX12_sums_29 (by decide) ?_
      exact j_J.wq (hk45 a0 a1 v7 a1 (v15 - v17) M h) (And.intro rfl (And.intro rfl (trivial)))
theorem dX12_tests_0 : decode cX12_tests 0 = .ok (.aload_n 0, 1) := by decide +kernel
theorem dX12_tests_1 : decode cX12_tests 1 = .ok (.iload_n 1, 1) := by decide +kernel
theorem dX12_tests_2 : decode cX12_tests 2 = .ok (.invokevirtual 250, 3) := by decide +kernel
theorem dX12_tests_5 : decode cX12_tests 5 = .ok (.aload_n 0, 1) := by decide +kernel
theorem dX12_tests_6 : decode cX12_tests 6 = .ok (.getfield 66, 3) := by decide +kernel
theorem dX12_tests_9 : decode cX12_tests 9 = .ok (.iload_n 1, 1) := by decide +kernel
theorem dX12_tests_10 : decode cX12_tests 10 = .ok (.iaload, 1) := by decide +kernel
theorem dX12_tests_11 : decode cX12_tests 11 = .ok (.istore_n 2, 1) := by decide +kernel
theorem dX12_tests_12 : decode cX12_tests 12 = .ok (.aload_n 0, 1) := by decide +kernel
theorem dX12_tests_13 : decode cX12_tests 13 = .ok (.getfield 63, 3) := by decide +kernel
theorem dX12_tests_16 : decode cX12_tests 16 = .ok (.iload_n 1, 1) := by decide +kernel
theorem dX12_tests_17 : decode cX12_tests 17 = .ok (.iaload, 1) := by decide +kernel
theorem dX12_tests_18 : decode cX12_tests 18 = .ok (.bipush 24, 2) := by decide +kernel
theorem dX12_tests_20 : decode cX12_tests 20 = .ok (.if_icmp .ne 24, 3) := by decide +kernel
theorem dX12_tests_23 : decode cX12_tests 23 = .ok (.aload_n 0, 1) := by decide +kernel
theorem dX12_tests_24 : decode cX12_tests 24 = .ok (.getfield 60, 3) := by decide +kernel
theorem dX12_tests_27 : decode cX12_tests 27 = .ok (.iload_n 1, 1) := by decide +kernel
theorem dX12_tests_28 : decode cX12_tests 28 = .ok (.iaload, 1) := by decide +kernel
theorem dX12_tests_29 : decode cX12_tests 29 = .ok (.aload_n 0, 1) := by decide +kernel
theorem dX12_tests_30 : decode cX12_tests 30 = .ok (.getfield 66, 3) := by decide +kernel
theorem dX12_tests_33 : decode cX12_tests 33 = .ok (.iload_n 1, 1) := by decide +kernel
theorem dX12_tests_34 : decode cX12_tests 34 = .ok (.iaload, 1) := by decide +kernel
theorem dX12_tests_35 : decode cX12_tests 35 = .ok (.if_icmp .ge 7, 3) := by decide +kernel
theorem dX12_tests_38 : decode cX12_tests 38 = .ok (.iconst 1, 1) := by decide +kernel
theorem dX12_tests_39 : decode cX12_tests 39 = .ok (.goto 4, 3) := by decide +kernel
theorem dX12_tests_42 : decode cX12_tests 42 = .ok (.iconst 0, 1) := by decide +kernel
theorem dX12_tests_43 : decode cX12_tests 43 = .ok (.istore_n 2, 1) := by decide +kernel
theorem dX12_tests_44 : decode cX12_tests 44 = .ok (.aload_n 0, 1) := by decide +kernel
theorem dX12_tests_45 : decode cX12_tests 45 = .ok (.getfield 63, 3) := by decide +kernel
theorem dX12_tests_48 : decode cX12_tests 48 = .ok (.iload_n 1, 1) := by decide +kernel
theorem dX12_tests_49 : decode cX12_tests 49 = .ok (.iaload, 1) := by decide +kernel
theorem dX12_tests_50 : decode cX12_tests 50 = .ok (.bipush 25, 2) := by decide +kernel
theorem dX12_tests_52 : decode cX12_tests 52 = .ok (.if_icmp .ne 24, 3) := by decide +kernel
theorem dX12_tests_55 : decode cX12_tests 55 = .ok (.aload_n 0, 1) := by decide +kernel
theorem dX12_tests_56 : decode cX12_tests 56 = .ok (.getfield 60, 3) := by decide +kernel
theorem dX12_tests_59 : decode cX12_tests 59 = .ok (.iload_n 1, 1) := by decide +kernel
theorem dX12_tests_60 : decode cX12_tests 60 = .ok (.iaload, 1) := by decide +kernel
theorem dX12_tests_61 : decode cX12_tests 61 = .ok (.aload_n 0, 1) := by decide +kernel
theorem dX12_tests_62 : decode cX12_tests 62 = .ok (.getfield 66, 3) := by decide +kernel
theorem dX12_tests_65 : decode cX12_tests 65 = .ok (.iload_n 1, 1) := by decide +kernel
theorem dX12_tests_66 : decode cX12_tests 66 = .ok (.iaload, 1) := by decide +kernel
theorem dX12_tests_67 : decode cX12_tests 67 = .ok (.if_icmp .ne 7, 3) := by decide +kernel
theorem dX12_tests_70 : decode cX12_tests 70 = .ok (.iconst 1, 1) := by decide +kernel
theorem dX12_tests_71 : decode cX12_tests 71 = .ok (.goto 4, 3) := by decide +kernel
theorem dX12_tests_74 : decode cX12_tests 74 = .ok (.iconst 0, 1) := by decide +kernel
theorem dX12_tests_75 : decode cX12_tests 75 = .ok (.istore_n 2, 1) := by decide +kernel
theorem dX12_tests_76 : decode cX12_tests 76 = .ok (.aload_n 0, 1) := by decide +kernel
theorem dX12_tests_77 : decode cX12_tests 77 = .ok (.getfield 57, 3) := by decide +kernel
theorem dX12_tests_80 : decode cX12_tests 80 = .ok (.iload_n 1, 1) := by decide +kernel
theorem dX12_tests_81 : decode cX12_tests 81 = .ok (.iaload, 1) := by decide +kernel
theorem dX12_tests_82 : decode cX12_tests 82 = .ok (.bipush 26, 2) := by decide +kernel
theorem dX12_tests_84 : decode cX12_tests 84 = .ok (.if_icmp .ne 22, 3) := by decide +kernel
theorem dX12_tests_87 : decode cX12_tests 87 = .ok (.aload_n 0, 1) := by decide +kernel
theorem dX12_tests_88 : decode cX12_tests 88 = .ok (.getfield 54, 3) := by decide +kernel
theorem dX12_tests_91 : decode cX12_tests 91 = .ok (.iload_n 1, 1) := by decide +kernel
theorem dX12_tests_92 : decode cX12_tests 92 = .ok (.iaload, 1) := by decide +kernel
theorem dX12_tests_93 : decode cX12_tests 93 = .ok (.ifCond .eq 11, 3) := by decide +kernel
theorem dX12_tests_96 : decode cX12_tests 96 = .ok (.iload_n 2, 1) := by decide +kernel
theorem dX12_tests_97 : decode cX12_tests 97 = .ok (.ifCond .eq 7, 3) := by decide +kernel
theorem dX12_tests_100 : decode cX12_tests 100 = .ok (.iconst 1, 1) := by decide +kernel
theorem dX12_tests_101 : decode cX12_tests 101 = .ok (.goto 4, 3) := by decide +kernel
theorem dX12_tests_104 : decode cX12_tests 104 = .ok (.iconst 0, 1) := by decide +kernel
theorem dX12_tests_105 : decode cX12_tests 105 = .ok (.istore_n 2, 1) := by decide +kernel
theorem dX12_tests_106 : decode cX12_tests 106 = .ok (.aload_n 0, 1) := by decide +kernel
theorem dX12_tests_107 : decode cX12_tests 107 = .ok (.getfield 57, 3) := by decide +kernel
theorem dX12_tests_110 : decode cX12_tests 110 = .ok (.iload_n 1, 1) := by decide +kernel
theorem dX12_tests_111 : decode cX12_tests 111 = .ok (.iaload, 1) := by decide +kernel
theorem dX12_tests_112 : decode cX12_tests 112 = .ok (.bipush 27, 2) := by decide +kernel
theorem dX12_tests_114 : decode cX12_tests 114 = .ok (.if_icmp .ne 22, 3) := by decide +kernel
theorem dX12_tests_117 : decode cX12_tests 117 = .ok (.aload_n 0, 1) := by decide +kernel
theorem dX12_tests_118 : decode cX12_tests 118 = .ok (.getfield 54, 3) := by decide +kernel
theorem dX12_tests_121 : decode cX12_tests 121 = .ok (.iload_n 1, 1) := by decide +kernel
theorem dX12_tests_122 : decode cX12_tests 122 = .ok (.iaload, 1) := by decide +kernel
theorem dX12_tests_123 : decode cX12_tests 123 = .ok (.ifCond .ne 7, 3) := by decide +kernel
theorem dX12_tests_126 : decode cX12_tests 126 = .ok (.iload_n 2, 1) := by decide +kernel
theorem dX12_tests_127 : decode cX12_tests 127 = .ok (.ifCond .eq 7, 3) := by decide +kernel
theorem dX12_tests_130 : decode cX12_tests 130 = .ok (.iconst 1, 1) := by decide +kernel
theorem dX12_tests_131 : decode cX12_tests 131 = .ok (.goto 4, 3) := by decide +kernel
theorem dX12_tests_134 : decode cX12_tests 134 = .ok (.iconst 0, 1) := by decide +kernel
theorem dX12_tests_135 : decode cX12_tests 135 = .ok (.istore_n 2, 1) := by decide +kernel
theorem dX12_tests_136 : decode cX12_tests 136 = .ok (.aload_n 0, 1) := by decide +kernel
theorem dX12_tests_137 : decode cX12_tests 137 = .ok (.getfield 54, 3) := by decide +kernel
theorem dX12_tests_140 : decode cX12_tests 140 = .ok (.iload_n 1, 1) := by decide +kernel
theorem dX12_tests_141 : decode cX12_tests 141 = .ok (.iload_n 2, 1) := by decide +kernel
theorem dX12_tests_142 : decode cX12_tests 142 = .ok (.iastore, 1) := by decide +kernel
theorem dX12_tests_143 : decode cX12_tests 143 = .ok (.aload_n 0, 1) := by decide +kernel
theorem dX12_tests_144 : decode cX12_tests 144 = .ok (.getfield 63, 3) := by decide +kernel
theorem dX12_tests_147 : decode cX12_tests 147 = .ok (.iload_n 1, 1) := by decide +kernel
theorem dX12_tests_148 : decode cX12_tests 148 = .ok (.iconst 0, 1) := by decide +kernel
theorem dX12_tests_149 : decode cX12_tests 149 = .ok (.iastore, 1) := by decide +kernel
theorem dX12_tests_150 : decode cX12_tests 150 = .ok (.aload_n 0, 1) := by decide +kernel
theorem dX12_tests_151 : decode cX12_tests 151 = .ok (.getfield 66, 3) := by decide +kernel
theorem dX12_tests_154 : decode cX12_tests 154 = .ok (.iload_n 1, 1) := by decide +kernel
theorem dX12_tests_155 : decode cX12_tests 155 = .ok (.iconst 0, 1) := by decide +kernel
theorem dX12_tests_156 : decode cX12_tests 156 = .ok (.iastore, 1) := by decide +kernel
theorem dX12_tests_157 : decode cX12_tests 157 = .ok (.aload_n 0, 1) := by decide +kernel
theorem dX12_tests_158 : decode cX12_tests 158 = .ok (.getfield 69, 3) := by decide +kernel
theorem dX12_tests_161 : decode cX12_tests 161 = .ok (.iload_n 1, 1) := by decide +kernel
theorem dX12_tests_162 : decode cX12_tests 162 = .ok (.bipush 20, 2) := by decide +kernel
theorem dX12_tests_164 : decode cX12_tests 164 = .ok (.iastore, 1) := by decide +kernel
theorem dX12_tests_165 : decode cX12_tests 165 = .ok (.return_, 1) := by decide +kernel
noncomputable def F_X12_tests (a0 : Nat) (a1 : Int32) (M : m_M) : Option (Unit × m_M) :=
  m_let (fun (v1 : Nat) (v2 : Int32) (v3 : Int32) (M1 : m_M) =>
    m_let (fun (v4 : Nat) (v5 : Int32) (v6 : Int32) (M2 : m_M) =>
      m_let (fun (v7 : Nat) (v8 : Int32) (v9 : Int32) (M3 : m_M) =>
        m_let (fun (v10 : Nat) (v11 : Int32) (v12 : Int32) (M4 : m_M) =>
          x_gN 10 M4 v10 27 fun v13 =>
          x_sI 12 M4 v13 v11 v12 fun M5 =>
          x_gN 10 M5 v10 30 fun v14 =>
          x_sI 12 M5 v14 v11 (0 : Int32) fun M6 =>
          x_gN 10 M6 v10 31 fun v15 =>
          x_sI 12 M6 v15 v11 (0 : Int32) fun M7 =>
          x_gN 10 M7 v10 32 fun v16 =>
          x_sI 12 M7 v16 v11 (20 : Int32) fun M8 =>
          some ((), M8)
        ) fun (k136 : Nat → Int32 → Int32 → m_M → Option (Unit × m_M)) =>
        x_gN 10 M3 v7 28 fun v17 =>
        x_aI 12 M3 v17 v8 fun v18 =>
        if v18 = (27 : Int32) then (
          m_let (fun (v19 : Nat) (v20 : Int32) (v21 : Int32) (M9 : m_M) =>
            k136 v19 v20 v21 M9
          ) fun (k135 : Nat → Int32 → Int32 → m_M → Option (Unit × m_M)) =>
          m_let (fun (v22 : Nat) (v23 : Int32) (M10 : m_M) =>
            k135 v22 v23 (1 : Int32) M10
          ) fun (k130 : Nat → Int32 → m_M → Option (Unit × m_M)) =>
          x_gN 10 M3 v7 27 fun v24 =>
          x_aI 12 M3 v24 v8 fun v25 =>
          if v25 = 0 then (
            if v9 = 0 then (
              k135 v7 v8 (0 : Int32) M3
            ) else
            k130 v7 v8 M3
          ) else
          k130 v7 v8 M3
        ) else
        k136 v7 v8 v9 M3
      ) fun (k106 : Nat → Int32 → Int32 → m_M → Option (Unit × m_M)) =>
      x_gN 10 M2 v4 28 fun v26 =>
      x_aI 12 M2 v26 v5 fun v27 =>
      if v27 = (26 : Int32) then (
        m_let (fun (v28 : Nat) (v29 : Int32) (v30 : Int32) (M11 : m_M) =>
          k106 v28 v29 v30 M11
        ) fun (k105 : Nat → Int32 → Int32 → m_M → Option (Unit × m_M)) =>
        m_let (fun (v31 : Nat) (v32 : Int32) (M12 : m_M) =>
          k105 v31 v32 (0 : Int32) M12
        ) fun (k104 : Nat → Int32 → m_M → Option (Unit × m_M)) =>
        x_gN 10 M2 v4 27 fun v33 =>
        x_aI 12 M2 v33 v5 fun v34 =>
        if v34 = 0 then (
          k104 v4 v5 M2
        ) else
        if v6 = 0 then (
          k104 v4 v5 M2
        ) else
        k105 v4 v5 (1 : Int32) M2
      ) else
      k106 v4 v5 v6 M2
    ) fun (k76 : Nat → Int32 → Int32 → m_M → Option (Unit × m_M)) =>
    x_gN 10 M1 v1 30 fun v35 =>
    x_aI 12 M1 v35 v2 fun v36 =>
    if v36 = (25 : Int32) then (
      m_let (fun (v37 : Nat) (v38 : Int32) (v39 : Int32) (M13 : m_M) =>
        k76 v37 v38 v39 M13
      ) fun (k75 : Nat → Int32 → Int32 → m_M → Option (Unit × m_M)) =>
      x_gN 10 M1 v1 29 fun v40 =>
      x_aI 12 M1 v40 v2 fun v41 =>
      x_gN 10 M1 v1 31 fun v42 =>
      x_aI 12 M1 v42 v2 fun v43 =>
      if v41 = v43 then (
        k75 v1 v2 (1 : Int32) M1
      ) else
      k75 v1 v2 (0 : Int32) M1
    ) else
    k76 v1 v2 v3 M1
  ) fun (k44 : Nat → Int32 → Int32 → m_M → Option (Unit × m_M)) =>
  x_cV 10 M a0 (F_X12_sums a0 a1 M) fun _ M14 =>
  x_gN 10 M14 a0 31 fun v44 =>
  x_aI 12 M14 v44 a1 fun v45 =>
  x_gN 10 M14 a0 30 fun v46 =>
  x_aI 12 M14 v46 a1 fun v47 =>
  if v47 = (24 : Int32) then (
    m_let (fun (v48 : Nat) (v49 : Int32) (v50 : Int32) (M15 : m_M) =>
      k44 v48 v49 v50 M15
    ) fun (k43 : Nat → Int32 → Int32 → m_M → Option (Unit × m_M)) =>
    x_gN 10 M14 a0 29 fun v51 =>
    x_aI 12 M14 v51 a1 fun v52 =>
    x_gN 10 M14 a0 31 fun v53 =>
    x_aI 12 M14 v53 a1 fun v54 =>
    if v54 ≤ v52 then (
      k43 a0 a1 (0 : Int32) M14
    ) else
    k43 a0 a1 (1 : Int32) M14
  ) else
  k44 a0 a1 v45 M14
set_option maxHeartbeats 4000000 in
theorem K_X12_tests (a0 : Nat) (a1 : Int32) (M : m_M) (Φ : Option Value → m_M → Prop) (h : m_ok e_V Φ (F_X12_tests a0 a1 M)) : j_Ct yX12_tests cX12_tests 3 none 2 0 0 [.ref a0, .int a1] M Φ := by
  refine j_Ct.of (by decide +kernel) (Nat.le_of_ble_eq_true rfl) fun X C => ?_
  have C0 := C.1
  show j_J X 3 0 [some (.ref a0), some (.int a1), none] [] (0, 0) M
  unfold F_X12_tests at h
  refine X_join (fun (kj : Nat → Int32 → Int32 → m_M → Option (Unit × m_M)) => ∀ (p0 : Nat) (p1 : Int32) (p2 : Int32) (M : m_M), m_ok e_V Φ (kj p0 p1 p2 M) → j_J X 3 44 [some (.ref p0), some (.int p1), some (.int p2)] [] (0, 0) M) h (fun v1 v2 v3 M1 h => ?_) (fun k44 hk44 h => ?_)
  · refine X_join (fun (kj : Nat → Int32 → Int32 → m_M → Option (Unit × m_M)) => ∀ (p0 : Nat) (p1 : Int32) (p2 : Int32) (M : m_M), m_ok e_V Φ (kj p0 p1 p2 M) → j_J X 3 76 [some (.ref p0), some (.int p1), some (.int p2)] [] (0, 0) M) h (fun v4 v5 v6 M2 h => ?_) (fun k76 hk76 h => ?_)
    · refine X_join (fun (kj : Nat → Int32 → Int32 → m_M → Option (Unit × m_M)) => ∀ (p0 : Nat) (p1 : Int32) (p2 : Int32) (M : m_M), m_ok e_V Φ (kj p0 p1 p2 M) → j_J X 3 106 [some (.ref p0), some (.int p1), some (.int p2)] [] (0, 0) M) h (fun v7 v8 v9 M3 h => ?_) (fun k106 hk106 h => ?_)
      · refine X_join (fun (kj : Nat → Int32 → Int32 → m_M → Option (Unit × m_M)) => ∀ (p0 : Nat) (p1 : Int32) (p2 : Int32) (M : m_M), m_ok e_V Φ (kj p0 p1 p2 M) → j_J X 3 136 [some (.ref p0), some (.int p1), some (.int p2)] [] (0, 0) M) h (fun v10 v11 v12 M4 h => ?_) (fun k136 hk136 h => ?_)
        · refine j_aload_n C0 (pc := 136) dX12_tests_136 rfl ?_
          refine X_gN C0 (pc := 137) f_OM_54_10 rfl dX12_tests_137 h (fun v13 h => ?_)
          refine j_iload_n C0 (pc := 140) dX12_tests_140 rfl ?_
          refine j_iload_n C0 (pc := 141) dX12_tests_141 rfl ?_
          refine X_iast C0 (pc := 142) dX12_tests_142 h (fun M5 h => ?_)
          refine j_aload_n C0 (pc := 143) dX12_tests_143 rfl ?_
          refine X_gN C0 (pc := 144) f_OM_63_10 rfl dX12_tests_144 h (fun v14 h => ?_)
          refine j_iload_n C0 (pc := 147) dX12_tests_147 rfl ?_
          refine j_iconst C0 (pc := 148) dX12_tests_148 (v := (0 : Int32)) (by decide) ?_
          refine X_iast C0 (pc := 149) dX12_tests_149 h (fun M6 h => ?_)
          refine j_aload_n C0 (pc := 150) dX12_tests_150 rfl ?_
          refine X_gN C0 (pc := 151) f_OM_66_10 rfl dX12_tests_151 h (fun v15 h => ?_)
          refine j_iload_n C0 (pc := 154) dX12_tests_154 rfl ?_
          refine j_iconst C0 (pc := 155) dX12_tests_155 (v := (0 : Int32)) (by decide) ?_
          refine X_iast C0 (pc := 156) dX12_tests_156 h (fun M7 h => ?_)
          refine j_aload_n C0 (pc := 157) dX12_tests_157 rfl ?_
          refine X_gN C0 (pc := 158) f_OM_69_10 rfl dX12_tests_158 h (fun v16 h => ?_)
          refine j_iload_n C0 (pc := 161) dX12_tests_161 rfl ?_
          refine j_bipush C0 (pc := 162) dX12_tests_162 (v := (20 : Int32)) (by decide) ?_
          refine X_iast C0 (pc := 164) dX12_tests_164 h (fun M8 h => ?_)
          exact j_vret C rfl h dX12_tests_165 (by decide)
        · refine j_aload_n C0 (pc := 106) dX12_tests_106 rfl ?_
          refine X_gN C0 (pc := 107) f_OM_57_10 rfl dX12_tests_107 h (fun v17 h => ?_)
          refine j_iload_n C0 (pc := 110) dX12_tests_110 rfl ?_
          refine X_iald C0 (pc := 111) dX12_tests_111 h (fun v18 h => ?_)
          refine j_bipush C0 (pc := 112) dX12_tests_112 (v := (27 : Int32)) (by decide) ?_
          refine j_icmp_ne C0 (pc := 114) (tgt := 136) dX12_tests_114 (by decide) (fun hc => ?_) (fun hc => ?_)
          · replace h := (X_if h).2 hc
            exact j_J.wq (hk136 v7 v8 v9 M3 h) (And.intro rfl (And.intro rfl (And.intro rfl (trivial))))
          · replace h := (X_if h).1 hc
            refine X_join (fun (kj : Nat → Int32 → Int32 → m_M → Option (Unit × m_M)) => ∀ (p0 : Nat) (p1 : Int32) (p2 : Int32) (M : m_M), m_ok e_V Φ (kj p0 p1 p2 M) → j_J X 3 135 [some (.ref p0), some (.int p1), none] [.int p2] (0, 0) M) h (fun v19 v20 v21 M9 h => ?_) (fun k135 hk135 h => ?_)
            · refine j_istore_n C0 (pc := 135) dX12_tests_135 (Nat.le_of_ble_eq_true rfl) ?_
              show j_J X 3 136 [some (.ref v19), some (.int v20), some (.int v21)] [] (0, 0) M9
              exact j_J.wq (hk136 v19 v20 v21 M9 h) (And.intro rfl (And.intro rfl (And.intro rfl (trivial))))
            · refine X_join (fun (kj : Nat → Int32 → m_M → Option (Unit × m_M)) => ∀ (p0 : Nat) (p1 : Int32) (M : m_M), m_ok e_V Φ (kj p0 p1 M) → j_J X 3 130 [some (.ref p0), some (.int p1), none] [] (0, 0) M) h (fun v22 v23 M10 h => ?_) (fun k130 hk130 h => ?_)
              · refine j_iconst C0 (pc := 130) dX12_tests_130 (v := (1 : Int32)) (by decide) ?_
                refine j_goto C0 (pc := 131) (tgt := 135) dX12_tests_131 (by decide) ?_
                exact j_J.wq (hk135 v22 v23 (1 : Int32) M10 h) (And.intro rfl (And.intro rfl (trivial)))
              · refine j_aload_n C0 (pc := 117) dX12_tests_117 rfl ?_
                refine X_gN C0 (pc := 118) f_OM_54_10 rfl dX12_tests_118 h (fun v24 h => ?_)
                refine j_iload_n C0 (pc := 121) dX12_tests_121 rfl ?_
                refine X_iald C0 (pc := 122) dX12_tests_122 h (fun v25 h => ?_)
                refine j_if_ne C0 (pc := 123) (tgt := 130) dX12_tests_123 (by decide) (fun hc => ?_) (fun hc => ?_)
                · replace h := (X_if h).2 hc
                  exact j_J.wq (hk130 v7 v8 M3 h) (And.intro rfl (And.intro rfl (trivial)))
                · replace h := (X_if h).1 hc
                  refine j_iload_n C0 (pc := 126) dX12_tests_126 rfl ?_
                  refine j_if_eq C0 (pc := 127) (tgt := 134) dX12_tests_127 (by decide) (fun hc => ?_) (fun hc => ?_)
                  · replace h := (X_if h).1 hc
                    refine j_iconst C0 (pc := 134) dX12_tests_134 (v := (0 : Int32)) (by decide) ?_
                    exact j_J.wq (hk135 v7 v8 (0 : Int32) M3 h) (And.intro rfl (And.intro rfl (trivial)))
                  · replace h := (X_if h).2 hc
                    exact j_J.wq (hk130 v7 v8 M3 h) (And.intro rfl (And.intro rfl (trivial)))
      · refine j_aload_n C0 (pc := 76) dX12_tests_76 rfl ?_
        refine X_gN C0 (pc := 77) f_OM_57_10 rfl dX12_tests_77 h (fun v26 h => ?_)
        refine j_iload_n C0 (pc := 80) dX12_tests_80 rfl ?_
        refine X_iald C0 (pc := 81) dX12_tests_81 h (fun v27 h => ?_)
        refine j_bipush C0 (pc := 82) dX12_tests_82 (v := (26 : Int32)) (by decide) ?_
        refine j_icmp_ne C0 (pc := 84) (tgt := 106) dX12_tests_84 (by decide) (fun hc => ?_) (fun hc => ?_)
        · replace h := (X_if h).2 hc
          exact j_J.wq (hk106 v4 v5 v6 M2 h) (And.intro rfl (And.intro rfl (And.intro rfl (trivial))))
        · replace h := (X_if h).1 hc
          refine X_join (fun (kj : Nat → Int32 → Int32 → m_M → Option (Unit × m_M)) => ∀ (p0 : Nat) (p1 : Int32) (p2 : Int32) (M : m_M), m_ok e_V Φ (kj p0 p1 p2 M) → j_J X 3 105 [some (.ref p0), some (.int p1), none] [.int p2] (0, 0) M) h (fun v28 v29 v30 M11 h => ?_) (fun k105 hk105 h => ?_)
          · refine j_istore_n C0 (pc := 105) dX12_tests_105 (Nat.le_of_ble_eq_true rfl) ?_
            show j_J X 3 106 [some (.ref v28), some (.int v29), some (.int v30)] [] (0, 0) M11
            exact j_J.wq (hk106 v28 v29 v30 M11 h) (And.intro rfl (And.intro rfl (And.intro rfl (trivial))))
          · refine X_join (fun (kj : Nat → Int32 → m_M → Option (Unit × m_M)) => ∀ (p0 : Nat) (p1 : Int32) (M : m_M), m_ok e_V Φ (kj p0 p1 M) → j_J X 3 104 [some (.ref p0), some (.int p1), none] [] (0, 0) M) h (fun v31 v32 M12 h => ?_) (fun k104 hk104 h => ?_)
            · refine j_iconst C0 (pc := 104) dX12_tests_104 (v := (0 : Int32)) (by decide) ?_
              exact j_J.wq (hk105 v31 v32 (0 : Int32) M12 h) (And.intro rfl (And.intro rfl (trivial)))
            · refine j_aload_n C0 (pc := 87) dX12_tests_87 rfl ?_
              refine X_gN C0 (pc := 88) f_OM_54_10 rfl dX12_tests_88 h (fun v33 h => ?_)
              refine j_iload_n C0 (pc := 91) dX12_tests_91 rfl ?_
              refine X_iald C0 (pc := 92) dX12_tests_92 h (fun v34 h => ?_)
              refine j_if_eq C0 (pc := 93) (tgt := 104) dX12_tests_93 (by decide) (fun hc => ?_) (fun hc => ?_)
              · replace h := (X_if h).1 hc
                exact j_J.wq (hk104 v4 v5 M2 h) (And.intro rfl (And.intro rfl (trivial)))
              · replace h := (X_if h).2 hc
                refine j_iload_n C0 (pc := 96) dX12_tests_96 rfl ?_
                refine j_if_eq C0 (pc := 97) (tgt := 104) dX12_tests_97 (by decide) (fun hc => ?_) (fun hc => ?_)
                · replace h := (X_if h).1 hc
                  exact j_J.wq (hk104 v4 v5 M2 h) (And.intro rfl (And.intro rfl (trivial)))
                · replace h := (X_if h).2 hc
                  refine j_iconst C0 (pc := 100) dX12_tests_100 (v := (1 : Int32)) (by decide) ?_
                  refine j_goto C0 (pc := 101) (tgt := 105) dX12_tests_101 (by decide) ?_
                  exact j_J.wq (hk105 v4 v5 (1 : Int32) M2 h) (And.intro rfl (And.intro rfl (trivial)))
    · refine j_aload_n C0 (pc := 44) dX12_tests_44 rfl ?_
      refine X_gN C0 (pc := 45) f_OM_63_10 rfl dX12_tests_45 h (fun v35 h => ?_)
      refine j_iload_n C0 (pc := 48) dX12_tests_48 rfl ?_
      refine X_iald C0 (pc := 49) dX12_tests_49 h (fun v36 h => ?_)
      refine j_bipush C0 (pc := 50) dX12_tests_50 (v := (25 : Int32)) (by decide) ?_
      refine j_icmp_ne C0 (pc := 52) (tgt := 76) dX12_tests_52 (by decide) (fun hc => ?_) (fun hc => ?_)
      · replace h := (X_if h).2 hc
        exact j_J.wq (hk76 v1 v2 v3 M1 h) (And.intro rfl (And.intro rfl (And.intro rfl (trivial))))
      · replace h := (X_if h).1 hc
        refine X_join (fun (kj : Nat → Int32 → Int32 → m_M → Option (Unit × m_M)) => ∀ (p0 : Nat) (p1 : Int32) (p2 : Int32) (M : m_M), m_ok e_V Φ (kj p0 p1 p2 M) → j_J X 3 75 [some (.ref p0), some (.int p1), none] [.int p2] (0, 0) M) h (fun v37 v38 v39 M13 h => ?_) (fun k75 hk75 h => ?_)
        · refine j_istore_n C0 (pc := 75) dX12_tests_75 (Nat.le_of_ble_eq_true rfl) ?_
          show j_J X 3 76 [some (.ref v37), some (.int v38), some (.int v39)] [] (0, 0) M13
          exact j_J.wq (hk76 v37 v38 v39 M13 h) (And.intro rfl (And.intro rfl (And.intro rfl (trivial))))
        · refine j_aload_n C0 (pc := 55) dX12_tests_55 rfl ?_
          refine X_gN C0 (pc := 56) f_OM_60_10 rfl dX12_tests_56 h (fun v40 h => ?_)
          refine j_iload_n C0 (pc := 59) dX12_tests_59 rfl ?_
          refine X_iald C0 (pc := 60) dX12_tests_60 h (fun v41 h => ?_)
          refine j_aload_n C0 (pc := 61) dX12_tests_61 rfl ?_
          refine X_gN C0 (pc := 62) f_OM_66_10 rfl dX12_tests_62 h (fun v42 h => ?_)
          refine j_iload_n C0 (pc := 65) dX12_tests_65 rfl ?_
          refine X_iald C0 (pc := 66) dX12_tests_66 h (fun v43 h => ?_)
          refine j_icmp_ne C0 (pc := 67) (tgt := 74) dX12_tests_67 (by decide) (fun hc => ?_) (fun hc => ?_)
          · replace h := (X_if h).2 hc
            refine j_iconst C0 (pc := 74) dX12_tests_74 (v := (0 : Int32)) (by decide) ?_
            exact j_J.wq (hk75 v1 v2 (0 : Int32) M1 h) (And.intro rfl (And.intro rfl (trivial)))
          · replace h := (X_if h).1 hc
            refine j_iconst C0 (pc := 70) dX12_tests_70 (v := (1 : Int32)) (by decide) ?_
            refine j_goto C0 (pc := 71) (tgt := 75) dX12_tests_71 (by decide) ?_
            exact j_J.wq (hk75 v1 v2 (1 : Int32) M1 h) (And.intro rfl (And.intro rfl (trivial)))
  · refine j_aload_n C0 (pc := 0) dX12_tests_0 rfl ?_
    refine j_iload_n C0 (pc := 1) dX12_tests_1 rfl ?_
    refine X_cV C0 (pc := 2) (e' := e_V) (as := [.int a1]) (rest := []) (s' := fun _ => []) (g' := (0, 0)) v_OM_250_10 (fun Ψ hΨ => K_X12_sums a0 a1 M Ψ hΨ) rfl rfl (fun _ => rfl) (by decide) (by decide) rfl (Nat.le_of_ble_eq_true rfl) dX12_tests_2 h (fun _ M14 h => ?_)
    refine j_aload_n C0 (pc := 5) dX12_tests_5 rfl ?_
    refine X_gN C0 (pc := 6) f_OM_66_10 rfl dX12_tests_6 h (fun v44 h => ?_)
    refine j_iload_n C0 (pc := 9) dX12_tests_9 rfl ?_
    refine X_iald C0 (pc := 10) dX12_tests_10 h (fun v45 h => ?_)
    refine j_istore_n C0 (pc := 11) dX12_tests_11 (Nat.le_of_ble_eq_true rfl) ?_
    show j_J X 3 12 [some (.ref a0), some (.int a1), some (.int v45)] [] (0, 0) M14
    refine j_aload_n C0 (pc := 12) dX12_tests_12 rfl ?_
    refine X_gN C0 (pc := 13) f_OM_63_10 rfl dX12_tests_13 h (fun v46 h => ?_)
    refine j_iload_n C0 (pc := 16) dX12_tests_16 rfl ?_
    refine X_iald C0 (pc := 17) dX12_tests_17 h (fun v47 h => ?_)
    refine j_bipush C0 (pc := 18) dX12_tests_18 (v := (24 : Int32)) (by decide) ?_
    refine j_icmp_ne C0 (pc := 20) (tgt := 44) dX12_tests_20 (by decide) (fun hc => ?_) (fun hc => ?_)
    · replace h := (X_if h).2 hc
      exact j_J.wq (hk44 a0 a1 v45 M14 h) (And.intro rfl (And.intro rfl (And.intro rfl (trivial))))
    · replace h := (X_if h).1 hc
      refine X_join (fun (kj : Nat → Int32 → Int32 → m_M → Option (Unit × m_M)) => ∀ (p0 : Nat) (p1 : Int32) (p2 : Int32) (M : m_M), m_ok e_V Φ (kj p0 p1 p2 M) → j_J X 3 43 [some (.ref p0), some (.int p1), none] [.int p2] (0, 0) M) h (fun v48 v49 v50 M15 h => ?_) (fun k43 hk43 h => ?_)
      · refine j_istore_n C0 (pc := 43) dX12_tests_43 (Nat.le_of_ble_eq_true rfl) ?_
        show j_J X 3 44 [some (.ref v48), some (.int v49), some (.int v50)] [] (0, 0) M15
        exact j_J.wq (hk44 v48 v49 v50 M15 h) (And.intro rfl (And.intro rfl (And.intro rfl (trivial))))
      · refine j_aload_n C0 (pc := 23) dX12_tests_23 rfl ?_
        refine X_gN C0 (pc := 24) f_OM_60_10 rfl dX12_tests_24 h (fun v51 h => ?_)
        refine j_iload_n C0 (pc := 27) dX12_tests_27 rfl ?_
        refine X_iald C0 (pc := 28) dX12_tests_28 h (fun v52 h => ?_)
        refine j_aload_n C0 (pc := 29) dX12_tests_29 rfl ?_
        refine X_gN C0 (pc := 30) f_OM_66_10 rfl dX12_tests_30 h (fun v53 h => ?_)
        refine j_iload_n C0 (pc := 33) dX12_tests_33 rfl ?_
        refine X_iald C0 (pc := 34) dX12_tests_34 h (fun v54 h => ?_)
        refine j_icmp_ge C0 (pc := 35) (tgt := 42) dX12_tests_35 (by decide) (fun hc => ?_) (fun hc => ?_)
        · replace h := (X_if h).1 hc
          refine j_iconst C0 (pc := 42) dX12_tests_42 (v := (0 : Int32)) (by decide) ?_
          exact j_J.wq (hk43 a0 a1 (0 : Int32) M14 h) (And.intro rfl (And.intro rfl (trivial)))
        · replace h := (X_if h).2 hc
          refine j_iconst C0 (pc := 38) dX12_tests_38 (v := (1 : Int32)) (by decide) ?_
          refine j_goto C0 (pc := 39) (tgt := 43) dX12_tests_39 (by decide) ?_
          exact j_J.wq (hk43 a0 a1 (1 : Int32) M14 h) (And.intro rfl (And.intro rfl (trivial)))
theorem dX12_worked_0 : decode cX12_worked 0 = .ok (.iconst 0, 1) := by decide +kernel
theorem dX12_worked_1 : decode cX12_worked 1 = .ok (.istore_n 2, 1) := by decide +kernel
theorem dX12_worked_2 : decode cX12_worked 2 = .ok (.aload_n 0, 1) := by decide +kernel
theorem dX12_worked_3 : decode cX12_worked 3 = .ok (.iconst 0, 1) := by decide +kernel
theorem dX12_worked_4 : decode cX12_worked 4 = .ok (.invokevirtual 253, 3) := by decide +kernel
theorem dX12_worked_7 : decode cX12_worked 7 = .ok (.aload_n 0, 1) := by decide +kernel
theorem dX12_worked_8 : decode cX12_worked 8 = .ok (.getfield 38, 3) := by decide +kernel
theorem dX12_worked_11 : decode cX12_worked 11 = .ok (.iload_n 1, 1) := by decide +kernel
theorem dX12_worked_12 : decode cX12_worked 12 = .ok (.iaload, 1) := by decide +kernel
theorem dX12_worked_13 : decode cX12_worked 13 = .ok (.istore_n 3, 1) := by decide +kernel
theorem dX12_worked_14 : decode cX12_worked 14 = .ok (.iload_n 3, 1) := by decide +kernel
theorem dX12_worked_15 : decode cX12_worked 15 = .ok (.aload_n 0, 1) := by decide +kernel
theorem dX12_worked_16 : decode cX12_worked 16 = .ok (.getfield 41, 3) := by decide +kernel
theorem dX12_worked_19 : decode cX12_worked 19 = .ok (.iload_n 1, 1) := by decide +kernel
theorem dX12_worked_20 : decode cX12_worked 20 = .ok (.iaload, 1) := by decide +kernel
theorem dX12_worked_21 : decode cX12_worked 21 = .ok (.if_icmp .ge 314, 3) := by decide +kernel
theorem dX12_worked_24 : decode cX12_worked 24 = .ok (.aload_n 0, 1) := by decide +kernel
theorem dX12_worked_25 : decode cX12_worked 25 = .ok (.getfield 44, 3) := by decide +kernel
theorem dX12_worked_28 : decode cX12_worked 28 = .ok (.iload_n 3, 1) := by decide +kernel
theorem dX12_worked_29 : decode cX12_worked 29 = .ok (.iaload, 1) := by decide +kernel
theorem dX12_worked_30 : decode cX12_worked 30 = .ok (.istore 4, 2) := by decide +kernel
theorem dX12_worked_32 : decode cX12_worked 32 = .ok (.iload 4, 2) := by decide +kernel
theorem dX12_worked_34 : decode cX12_worked 34 = .ok (.bipush 28, 2) := by decide +kernel
theorem dX12_worked_36 : decode cX12_worked 36 = .ok (.if_icmp .eq 10, 3) := by decide +kernel
theorem dX12_worked_39 : decode cX12_worked 39 = .ok (.iload 4, 2) := by decide +kernel
theorem dX12_worked_41 : decode cX12_worked 41 = .ok (.bipush 30, 2) := by decide +kernel
theorem dX12_worked_43 : decode cX12_worked 43 = .ok (.if_icmp .ne 32, 3) := by decide +kernel
theorem dX12_worked_46 : decode cX12_worked 46 = .ok (.iinc 2 1, 3) := by decide +kernel
theorem dX12_worked_49 : decode cX12_worked 49 = .ok (.aload_n 0, 1) := by decide +kernel
theorem dX12_worked_50 : decode cX12_worked 50 = .ok (.getfield 78, 3) := by decide +kernel
theorem dX12_worked_53 : decode cX12_worked 53 = .ok (.iload_n 2, 1) := by decide +kernel
theorem dX12_worked_54 : decode cX12_worked 54 = .ok (.iload 4, 2) := by decide +kernel
theorem dX12_worked_56 : decode cX12_worked 56 = .ok (.bipush 30, 2) := by decide +kernel
theorem dX12_worked_58 : decode cX12_worked 58 = .ok (.if_icmp .ne 7, 3) := by decide +kernel
theorem dX12_worked_61 : decode cX12_worked 61 = .ok (.iconst 1, 1) := by decide +kernel
theorem dX12_worked_62 : decode cX12_worked 62 = .ok (.goto 4, 3) := by decide +kernel
theorem dX12_worked_65 : decode cX12_worked 65 = .ok (.iconst 0, 1) := by decide +kernel
theorem dX12_worked_66 : decode cX12_worked 66 = .ok (.iastore, 1) := by decide +kernel
theorem dX12_worked_67 : decode cX12_worked 67 = .ok (.aload_n 0, 1) := by decide +kernel
theorem dX12_worked_68 : decode cX12_worked 68 = .ok (.iload_n 2, 1) := by decide +kernel
theorem dX12_worked_69 : decode cX12_worked 69 = .ok (.invokevirtual 253, 3) := by decide +kernel
theorem dX12_worked_72 : decode cX12_worked 72 = .ok (.goto 257, 3) := by decide +kernel
theorem dX12_worked_75 : decode cX12_worked 75 = .ok (.iload 4, 2) := by decide +kernel
theorem dX12_worked_77 : decode cX12_worked 77 = .ok (.bipush 20, 2) := by decide +kernel
theorem dX12_worked_79 : decode cX12_worked 79 = .ok (.if_icmp .eq 10, 3) := by decide +kernel
theorem dX12_worked_82 : decode cX12_worked 82 = .ok (.iload 4, 2) := by decide +kernel
theorem dX12_worked_84 : decode cX12_worked 84 = .ok (.bipush 21, 2) := by decide +kernel
theorem dX12_worked_86 : decode cX12_worked 86 = .ok (.if_icmp .ne 19, 3) := by decide +kernel
theorem dX12_worked_89 : decode cX12_worked 89 = .ok (.aload_n 0, 1) := by decide +kernel
theorem dX12_worked_90 : decode cX12_worked 90 = .ok (.iload_n 2, 1) := by decide +kernel
theorem dX12_worked_91 : decode cX12_worked 91 = .ok (.invokevirtual 250, 3) := by decide +kernel
theorem dX12_worked_94 : decode cX12_worked 94 = .ok (.aload_n 0, 1) := by decide +kernel
theorem dX12_worked_95 : decode cX12_worked 95 = .ok (.getfield 69, 3) := by decide +kernel
theorem dX12_worked_98 : decode cX12_worked 98 = .ok (.iload_n 2, 1) := by decide +kernel
theorem dX12_worked_99 : decode cX12_worked 99 = .ok (.iload 4, 2) := by decide +kernel
theorem dX12_worked_101 : decode cX12_worked 101 = .ok (.iastore, 1) := by decide +kernel
theorem dX12_worked_102 : decode cX12_worked 102 = .ok (.goto 227, 3) := by decide +kernel
theorem dX12_worked_105 : decode cX12_worked 105 = .ok (.iload 4, 2) := by decide +kernel
theorem dX12_worked_107 : decode cX12_worked 107 = .ok (.bipush 22, 2) := by decide +kernel
theorem dX12_worked_109 : decode cX12_worked 109 = .ok (.if_icmp .ne 14, 3) := by decide +kernel
theorem dX12_worked_112 : decode cX12_worked 112 = .ok (.aload_n 0, 1) := by decide +kernel
theorem dX12_worked_113 : decode cX12_worked 113 = .ok (.getfield 75, 3) := by decide +kernel
theorem dX12_worked_116 : decode cX12_worked 116 = .ok (.iload_n 2, 1) := by decide +kernel
theorem dX12_worked_117 : decode cX12_worked 117 = .ok (.iload 4, 2) := by decide +kernel
theorem dX12_worked_119 : decode cX12_worked 119 = .ok (.iastore, 1) := by decide +kernel
theorem dX12_worked_120 : decode cX12_worked 120 = .ok (.goto 209, 3) := by decide +kernel
theorem dX12_worked_123 : decode cX12_worked 123 = .ok (.iload 4, 2) := by decide +kernel
theorem dX12_worked_125 : decode cX12_worked 125 = .ok (.bipush 24, 2) := by decide +kernel
theorem dX12_worked_127 : decode cX12_worked 127 = .ok (.if_icmp .eq 10, 3) := by decide +kernel
theorem dX12_worked_130 : decode cX12_worked 130 = .ok (.iload 4, 2) := by decide +kernel
theorem dX12_worked_132 : decode cX12_worked 132 = .ok (.bipush 25, 2) := by decide +kernel
theorem dX12_worked_134 : decode cX12_worked 134 = .ok (.if_icmp .ne 46, 3) := by decide +kernel
theorem dX12_worked_137 : decode cX12_worked 137 = .ok (.aload_n 0, 1) := by decide +kernel
theorem dX12_worked_138 : decode cX12_worked 138 = .ok (.iload_n 2, 1) := by decide +kernel
theorem dX12_worked_139 : decode cX12_worked 139 = .ok (.invokevirtual 250, 3) := by decide +kernel
theorem dX12_worked_142 : decode cX12_worked 142 = .ok (.aload_n 0, 1) := by decide +kernel
theorem dX12_worked_143 : decode cX12_worked 143 = .ok (.getfield 60, 3) := by decide +kernel
theorem dX12_worked_146 : decode cX12_worked 146 = .ok (.iload_n 2, 1) := by decide +kernel
theorem dX12_worked_147 : decode cX12_worked 147 = .ok (.aload_n 0, 1) := by decide +kernel
theorem dX12_worked_148 : decode cX12_worked 148 = .ok (.getfield 66, 3) := by decide +kernel
theorem dX12_worked_151 : decode cX12_worked 151 = .ok (.iload_n 2, 1) := by decide +kernel
theorem dX12_worked_152 : decode cX12_worked 152 = .ok (.iaload, 1) := by decide +kernel
theorem dX12_worked_153 : decode cX12_worked 153 = .ok (.iastore, 1) := by decide +kernel
theorem dX12_worked_154 : decode cX12_worked 154 = .ok (.aload_n 0, 1) := by decide +kernel
theorem dX12_worked_155 : decode cX12_worked 155 = .ok (.getfield 63, 3) := by decide +kernel
theorem dX12_worked_158 : decode cX12_worked 158 = .ok (.iload_n 2, 1) := by decide +kernel
theorem dX12_worked_159 : decode cX12_worked 159 = .ok (.iload 4, 2) := by decide +kernel
theorem dX12_worked_161 : decode cX12_worked 161 = .ok (.iastore, 1) := by decide +kernel
theorem dX12_worked_162 : decode cX12_worked 162 = .ok (.aload_n 0, 1) := by decide +kernel
theorem dX12_worked_163 : decode cX12_worked 163 = .ok (.getfield 66, 3) := by decide +kernel
theorem dX12_worked_166 : decode cX12_worked 166 = .ok (.iload_n 2, 1) := by decide +kernel
theorem dX12_worked_167 : decode cX12_worked 167 = .ok (.iconst 0, 1) := by decide +kernel
theorem dX12_worked_168 : decode cX12_worked 168 = .ok (.iastore, 1) := by decide +kernel
theorem dX12_worked_169 : decode cX12_worked 169 = .ok (.aload_n 0, 1) := by decide +kernel
theorem dX12_worked_170 : decode cX12_worked 170 = .ok (.getfield 69, 3) := by decide +kernel
theorem dX12_worked_173 : decode cX12_worked 173 = .ok (.iload_n 2, 1) := by decide +kernel
theorem dX12_worked_174 : decode cX12_worked 174 = .ok (.bipush 20, 2) := by decide +kernel
theorem dX12_worked_176 : decode cX12_worked 176 = .ok (.iastore, 1) := by decide +kernel
theorem dX12_worked_177 : decode cX12_worked 177 = .ok (.goto 152, 3) := by decide +kernel
theorem dX12_worked_180 : decode cX12_worked 180 = .ok (.iload 4, 2) := by decide +kernel
theorem dX12_worked_182 : decode cX12_worked 182 = .ok (.bipush 26, 2) := by decide +kernel
theorem dX12_worked_184 : decode cX12_worked 184 = .ok (.if_icmp .eq 10, 3) := by decide +kernel
theorem dX12_worked_187 : decode cX12_worked 187 = .ok (.iload 4, 2) := by decide +kernel
theorem dX12_worked_189 : decode cX12_worked 189 = .ok (.bipush 27, 2) := by decide +kernel
theorem dX12_worked_191 : decode cX12_worked 191 = .ok (.if_icmp .ne 19, 3) := by decide +kernel
theorem dX12_worked_194 : decode cX12_worked 194 = .ok (.aload_n 0, 1) := by decide +kernel
theorem dX12_worked_195 : decode cX12_worked 195 = .ok (.iload_n 2, 1) := by decide +kernel
theorem dX12_worked_196 : decode cX12_worked 196 = .ok (.invokevirtual 256, 3) := by decide +kernel
theorem dX12_worked_199 : decode cX12_worked 199 = .ok (.aload_n 0, 1) := by decide +kernel
theorem dX12_worked_200 : decode cX12_worked 200 = .ok (.getfield 57, 3) := by decide +kernel
theorem dX12_worked_203 : decode cX12_worked 203 = .ok (.iload_n 2, 1) := by decide +kernel
theorem dX12_worked_204 : decode cX12_worked 204 = .ok (.iload 4, 2) := by decide +kernel
theorem dX12_worked_206 : decode cX12_worked 206 = .ok (.iastore, 1) := by decide +kernel
theorem dX12_worked_207 : decode cX12_worked 207 = .ok (.goto 122, 3) := by decide +kernel
theorem dX12_worked_210 : decode cX12_worked 210 = .ok (.iload 4, 2) := by decide +kernel
theorem dX12_worked_212 : decode cX12_worked 212 = .ok (.bipush 100, 2) := by decide +kernel
theorem dX12_worked_214 : decode cX12_worked 214 = .ok (.if_icmp .lt 11, 3) := by decide +kernel
theorem dX12_worked_217 : decode cX12_worked 217 = .ok (.iload 4, 2) := by decide +kernel
theorem dX12_worked_219 : decode cX12_worked 219 = .ok (.bipush 100, 2) := by decide +kernel
theorem dX12_worked_221 : decode cX12_worked 221 = .ok (.isub, 1) := by decide +kernel
theorem dX12_worked_222 : decode cX12_worked 222 = .ok (.goto 21, 3) := by decide +kernel
theorem dX12_worked_225 : decode cX12_worked 225 = .ok (.iload 4, 2) := by decide +kernel
theorem dX12_worked_227 : decode cX12_worked 227 = .ok (.bipush 20, 2) := by decide +kernel
theorem dX12_worked_229 : decode cX12_worked 229 = .ok (.if_icmp .ge 13, 3) := by decide +kernel
theorem dX12_worked_232 : decode cX12_worked 232 = .ok (.aload_n 0, 1) := by decide +kernel
theorem dX12_worked_233 : decode cX12_worked 233 = .ok (.getfield 81, 3) := by decide +kernel
theorem dX12_worked_236 : decode cX12_worked 236 = .ok (.iload 4, 2) := by decide +kernel
theorem dX12_worked_238 : decode cX12_worked 238 = .ok (.iaload, 1) := by decide +kernel
theorem dX12_worked_239 : decode cX12_worked 239 = .ok (.goto 4, 3) := by decide +kernel
theorem dX12_worked_242 : decode cX12_worked 242 = .ok (.iconst 0, 1) := by decide +kernel
theorem dX12_worked_243 : decode cX12_worked 243 = .ok (.istore 5, 2) := by decide +kernel
theorem dX12_worked_245 : decode cX12_worked 245 = .ok (.iload 4, 2) := by decide +kernel
theorem dX12_worked_247 : decode cX12_worked 247 = .ok (.bipush 29, 2) := by decide +kernel
theorem dX12_worked_249 : decode cX12_worked 249 = .ok (.if_icmp .ne 19, 3) := by decide +kernel
theorem dX12_worked_252 : decode cX12_worked 252 = .ok (.aload_n 0, 1) := by decide +kernel
theorem dX12_worked_253 : decode cX12_worked 253 = .ok (.iload_n 2, 1) := by decide +kernel
theorem dX12_worked_254 : decode cX12_worked 254 = .ok (.invokevirtual 256, 3) := by decide +kernel
theorem dX12_worked_257 : decode cX12_worked 257 = .ok (.aload_n 0, 1) := by decide +kernel
theorem dX12_worked_258 : decode cX12_worked 258 = .ok (.getfield 54, 3) := by decide +kernel
theorem dX12_worked_261 : decode cX12_worked 261 = .ok (.iload_n 2, 1) := by decide +kernel
theorem dX12_worked_262 : decode cX12_worked 262 = .ok (.iaload, 1) := by decide +kernel
theorem dX12_worked_263 : decode cX12_worked 263 = .ok (.istore 5, 2) := by decide +kernel
theorem dX12_worked_265 : decode cX12_worked 265 = .ok (.iinc 2 (-1), 3) := by decide +kernel
theorem dX12_worked_268 : decode cX12_worked 268 = .ok (.iload_n 2, 1) := by decide +kernel
theorem dX12_worked_269 : decode cX12_worked 269 = .ok (.ifCond .le 31, 3) := by decide +kernel
theorem dX12_worked_272 : decode cX12_worked 272 = .ok (.aload_n 0, 1) := by decide +kernel
theorem dX12_worked_273 : decode cX12_worked 273 = .ok (.getfield 78, 3) := by decide +kernel
theorem dX12_worked_276 : decode cX12_worked 276 = .ok (.iload_n 2, 1) := by decide +kernel
theorem dX12_worked_277 : decode cX12_worked 277 = .ok (.iaload, 1) := by decide +kernel
theorem dX12_worked_278 : decode cX12_worked 278 = .ok (.iconst 1, 1) := by decide +kernel
theorem dX12_worked_279 : decode cX12_worked 279 = .ok (.if_icmp .ne 21, 3) := by decide +kernel
theorem dX12_worked_282 : decode cX12_worked 282 = .ok (.iload 5, 2) := by decide +kernel
theorem dX12_worked_284 : decode cX12_worked 284 = .ok (.ifCond .ne 7, 3) := by decide +kernel
theorem dX12_worked_287 : decode cX12_worked 287 = .ok (.iconst 1, 1) := by decide +kernel
theorem dX12_worked_288 : decode cX12_worked 288 = .ok (.goto 4, 3) := by decide +kernel
theorem dX12_worked_291 : decode cX12_worked 291 = .ok (.iconst 0, 1) := by decide +kernel
theorem dX12_worked_292 : decode cX12_worked 292 = .ok (.istore 5, 2) := by decide +kernel
theorem dX12_worked_294 : decode cX12_worked 294 = .ok (.iinc 2 (-1), 3) := by decide +kernel
theorem dX12_worked_297 : decode cX12_worked 297 = .ok (.goto (-29), 3) := by decide +kernel
theorem dX12_worked_300 : decode cX12_worked 300 = .ok (.aload_n 0, 1) := by decide +kernel
theorem dX12_worked_301 : decode cX12_worked 301 = .ok (.getfield 72, 3) := by decide +kernel
theorem dX12_worked_304 : decode cX12_worked 304 = .ok (.iload_n 2, 1) := by decide +kernel
theorem dX12_worked_305 : decode cX12_worked 305 = .ok (.aload_n 0, 1) := by decide +kernel
theorem dX12_worked_306 : decode cX12_worked 306 = .ok (.getfield 75, 3) := by decide +kernel
theorem dX12_worked_309 : decode cX12_worked 309 = .ok (.iload_n 2, 1) := by decide +kernel
theorem dX12_worked_310 : decode cX12_worked 310 = .ok (.iaload, 1) := by decide +kernel
theorem dX12_worked_311 : decode cX12_worked 311 = .ok (.ifCond .ne 8, 3) := by decide +kernel
theorem dX12_worked_314 : decode cX12_worked 314 = .ok (.iload 5, 2) := by decide +kernel
theorem dX12_worked_316 : decode cX12_worked 316 = .ok (.goto 12, 3) := by decide +kernel
theorem dX12_worked_319 : decode cX12_worked 319 = .ok (.aload_n 0, 1) := by decide +kernel
theorem dX12_worked_320 : decode cX12_worked 320 = .ok (.getfield 72, 3) := by decide +kernel
theorem dX12_worked_323 : decode cX12_worked 323 = .ok (.iload_n 2, 1) := by decide +kernel
theorem dX12_worked_324 : decode cX12_worked 324 = .ok (.iaload, 1) := by decide +kernel
theorem dX12_worked_325 : decode cX12_worked 325 = .ok (.iload 5, 2) := by decide +kernel
theorem dX12_worked_327 : decode cX12_worked 327 = .ok (.imul, 1) := by decide +kernel
theorem dX12_worked_328 : decode cX12_worked 328 = .ok (.iastore, 1) := by decide +kernel
theorem dX12_worked_329 : decode cX12_worked 329 = .ok (.iinc 3 1, 3) := by decide +kernel
theorem dX12_worked_332 : decode cX12_worked 332 = .ok (.goto (-318), 3) := by decide +kernel
theorem dX12_worked_335 : decode cX12_worked 335 = .ok (.aload_n 0, 1) := by decide +kernel
theorem dX12_worked_336 : decode cX12_worked 336 = .ok (.iconst 0, 1) := by decide +kernel
theorem dX12_worked_337 : decode cX12_worked 337 = .ok (.invokevirtual 256, 3) := by decide +kernel
theorem dX12_worked_340 : decode cX12_worked 340 = .ok (.aload_n 0, 1) := by decide +kernel
theorem dX12_worked_341 : decode cX12_worked 341 = .ok (.getfield 54, 3) := by decide +kernel
theorem dX12_worked_344 : decode cX12_worked 344 = .ok (.iconst 0, 1) := by decide +kernel
theorem dX12_worked_345 : decode cX12_worked 345 = .ok (.iaload, 1) := by decide +kernel
theorem dX12_worked_346 : decode cX12_worked 346 = .ok (.ireturn, 1) := by decide +kernel
noncomputable def F_X12_worked_268 (k300 : Nat → Int32 → Int32 → Int32 → Int32 → m_M → Option (Int32 × m_M)) : Nat → Nat → Int32 → Int32 → Int32 → Int32 → m_M → Option (Int32 × m_M)
  | 0, _, _, _, _, _, _ => none
  | n + 1, v1, v2, v3, v4, v5, M =>
    if v3 ≤ 0 then (
      k300 v1 v2 v3 v4 v5 M
    ) else
    x_gN 10 M v1 35 fun v6 =>
    x_aI 12 M v6 v3 fun v7 =>
    if v7 = (1 : Int32) then (
      m_let (fun (v8 : Nat) (v9 : Int32) (v10 : Int32) (v11 : Int32) (v12 : Int32) (M1 : m_M) =>
        m_let (v10 + (-1 : Int32)) fun v13 =>
        F_X12_worked_268 k300 n v8 v9 v13 v11 v12 M1
      ) fun (k292 : Nat → Int32 → Int32 → Int32 → Int32 → m_M → Option (Int32 × m_M)) =>
      if v5 = 0 then (
        k292 v1 v2 v3 v4 (1 : Int32) M
      ) else
      k292 v1 v2 v3 v4 (0 : Int32) M
    ) else
    k300 v1 v2 v3 v4 v5 M
noncomputable def F_X12_worked_14 (k335 : Nat → m_M → Option (Int32 × m_M)) : Nat → Nat → Int32 → Int32 → Int32 → m_M → Option (Int32 × m_M)
  | 0, _, _, _, _, _ => none
  | n + 1, v1, v2, v3, v4, M =>
    x_gN 10 M v1 19 fun v5 =>
    x_aI 12 M v5 v2 fun v6 =>
    if v6 ≤ v4 then (
      k335 v1 M
    ) else
    m_let (fun (v7 : Nat) (v8 : Int32) (v9 : Int32) (v10 : Int32) (M1 : m_M) =>
      m_let (v10 + (1 : Int32)) fun v11 =>
      F_X12_worked_14 k335 n v7 v8 v9 v11 M1
    ) fun (k329 : Nat → Int32 → Int32 → Int32 → m_M → Option (Int32 × m_M)) =>
    m_let (fun (v12 : Nat) (v13 : Int32) (v14 : Int32) (v15 : Int32) (v16 : Int32) (M2 : m_M) =>
      m_let (fun (v17 : Nat) (v18 : Int32) (v19 : Int32) (v20 : Int32) (v21 : Nat) (v22 : Int32) (v23 : Int32) (M3 : m_M) =>
        x_sI 12 M3 v21 v22 v23 fun M4 =>
        x_cV 10 M4 v17 (F_X12_opens v17 v19 M4) fun _ M5 =>
        k329 v17 v18 v19 v20 M5
      ) fun (k66 : Nat → Int32 → Int32 → Int32 → Nat → Int32 → Int32 → m_M → Option (Int32 × m_M)) =>
      m_let (v14 + (1 : Int32)) fun v24 =>
      x_gN 10 M2 v12 35 fun v25 =>
      if v16 = (30 : Int32) then (
        k66 v12 v13 v24 v15 v25 v24 (1 : Int32) M2
      ) else
      k66 v12 v13 v24 v15 v25 v24 (0 : Int32) M2
    ) fun (k46 : Nat → Int32 → Int32 → Int32 → Int32 → m_M → Option (Int32 × m_M)) =>
    x_gN 10 M v1 20 fun v26 =>
    x_aI 12 M v26 v4 fun v27 =>
    if v27 = (28 : Int32) then (
      k46 v1 v2 v3 v4 v27 M
    ) else
    if v27 = (30 : Int32) then (
      k46 v1 v2 v3 v4 v27 M
    ) else
    m_let (fun (v28 : Nat) (v29 : Int32) (v30 : Int32) (v31 : Int32) (v32 : Int32) (M6 : m_M) =>
      x_cV 10 M6 v28 (F_X12_sums v28 v30 M6) fun _ M7 =>
      x_gN 10 M7 v28 32 fun v33 =>
      x_sI 12 M7 v33 v30 v32 fun M8 =>
      k329 v28 v29 v30 v31 M8
    ) fun (k89 : Nat → Int32 → Int32 → Int32 → Int32 → m_M → Option (Int32 × m_M)) =>
    if v27 = (20 : Int32) then (
      k89 v1 v2 v3 v4 v27 M
    ) else
    if v27 = (21 : Int32) then (
      k89 v1 v2 v3 v4 v27 M
    ) else
    if v27 = (22 : Int32) then (
      x_gN 10 M v1 34 fun v84 =>
      x_sI 12 M v84 v3 v27 fun M24 =>
      k329 v1 v2 v3 v4 M24
    ) else
    m_let (fun (v34 : Nat) (v35 : Int32) (v36 : Int32) (v37 : Int32) (v38 : Int32) (M9 : m_M) =>
      x_cV 10 M9 v34 (F_X12_sums v34 v36 M9) fun _ M10 =>
      x_gN 10 M10 v34 29 fun v39 =>
      x_gN 10 M10 v34 31 fun v40 =>
      x_aI 12 M10 v40 v36 fun v41 =>
      x_sI 12 M10 v39 v36 v41 fun M11 =>
      x_gN 10 M11 v34 30 fun v42 =>
      x_sI 12 M11 v42 v36 v38 fun M12 =>
      x_gN 10 M12 v34 31 fun v43 =>
      x_sI 12 M12 v43 v36 (0 : Int32) fun M13 =>
      x_gN 10 M13 v34 32 fun v44 =>
      x_sI 12 M13 v44 v36 (20 : Int32) fun M14 =>
      k329 v34 v35 v36 v37 M14
    ) fun (k137 : Nat → Int32 → Int32 → Int32 → Int32 → m_M → Option (Int32 × m_M)) =>
    if v27 = (24 : Int32) then (
      k137 v1 v2 v3 v4 v27 M
    ) else
    if v27 = (25 : Int32) then (
      k137 v1 v2 v3 v4 v27 M
    ) else
    m_let (fun (v45 : Nat) (v46 : Int32) (v47 : Int32) (v48 : Int32) (v49 : Int32) (M15 : m_M) =>
      x_cV 10 M15 v45 (F_X12_tests v45 v47 M15) fun _ M16 =>
      x_gN 10 M16 v45 28 fun v50 =>
      x_sI 12 M16 v50 v47 v49 fun M17 =>
      k329 v45 v46 v47 v48 M17
    ) fun (k194 : Nat → Int32 → Int32 → Int32 → Int32 → m_M → Option (Int32 × m_M)) =>
    if v27 = (26 : Int32) then (
      k194 v1 v2 v3 v4 v27 M
    ) else
    if v27 = (27 : Int32) then (
      k194 v1 v2 v3 v4 v27 M
    ) else
    m_let (fun (v51 : Nat) (v52 : Int32) (v53 : Int32) (v54 : Int32) (v55 : Int32) (v56 : Int32) (M18 : m_M) =>
      m_let (fun (v57 : Nat) (v58 : Int32) (v59 : Int32) (v60 : Int32) (v61 : Int32) (M19 : m_M) =>
        m_let (fun (v62 : Nat) (v63 : Int32) (v64 : Int32) (v65 : Int32) (v66 : Int32) (M20 : m_M) =>
          m_let (fun (v67 : Nat) (v68 : Int32) (v69 : Int32) (v70 : Int32) (v71 : Nat) (v72 : Int32) (v73 : Int32) (M21 : m_M) =>
            x_sI 12 M21 v71 v72 v73 fun M22 =>
            k329 v67 v68 v69 v70 M22
          ) fun (k328 : Nat → Int32 → Int32 → Int32 → Nat → Int32 → Int32 → m_M → Option (Int32 × m_M)) =>
          x_gN 10 M20 v62 33 fun v74 =>
          x_gN 10 M20 v62 34 fun v75 =>
          x_aI 12 M20 v75 v64 fun v76 =>
          if v76 = 0 then (
            k328 v62 v63 v64 v65 v74 v64 v66 M20
          ) else
          x_gN 10 M20 v62 33 fun v77 =>
          x_aI 12 M20 v77 v64 fun v78 =>
          k328 v62 v63 v64 v65 v74 v64 (v78 * v66) M20
        ) fun (k300 : Nat → Int32 → Int32 → Int32 → Int32 → m_M → Option (Int32 × m_M)) =>
        F_X12_worked_268 k300 m_FU v57 v58 v59 v60 v61 M19
      ) fun (k268 : Nat → Int32 → Int32 → Int32 → Int32 → m_M → Option (Int32 × m_M)) =>
      if v55 = (29 : Int32) then (
        x_cV 10 M18 v51 (F_X12_tests v51 v53 M18) fun _ M23 =>
        x_gN 10 M23 v51 27 fun v79 =>
        x_aI 12 M23 v79 v53 fun v80 =>
        m_let (v53 + (-1 : Int32)) fun v81 =>
        k268 v51 v52 v81 v54 v80 M23
      ) else
      k268 v51 v52 v53 v54 v56 M18
    ) fun (k243 : Nat → Int32 → Int32 → Int32 → Int32 → Int32 → m_M → Option (Int32 × m_M)) =>
    if v27 < (100 : Int32) then (
      if (20 : Int32) ≤ v27 then (
        k243 v1 v2 v3 v4 v27 (0 : Int32) M
      ) else
      x_gN 10 M v1 36 fun v82 =>
      x_aI 12 M v82 v27 fun v83 =>
      k243 v1 v2 v3 v4 v27 v83 M
    ) else
    k243 v1 v2 v3 v4 v27 (v27 - (100 : Int32)) M
noncomputable def F_X12_worked (a0 : Nat) (a1 : Int32) (M : m_M) : Option (Int32 × m_M) :=
  x_cV 10 M a0 (F_X12_opens a0 (0 : Int32) M) fun _ M1 =>
  x_gN 10 M1 a0 18 fun v1 =>
  x_aI 12 M1 v1 a1 fun v2 =>
  m_let (fun (v3 : Nat) (M2 : m_M) =>
    x_cV 10 M2 v3 (F_X12_tests v3 (0 : Int32) M2) fun _ M3 =>
    x_gN 10 M3 v3 27 fun v4 =>
    x_aI 12 M3 v4 (0 : Int32) fun v5 =>
    some (v5, M3)
  ) fun (k335 : Nat → m_M → Option (Int32 × m_M)) =>
  F_X12_worked_14 k335 m_FU a0 a1 (0 : Int32) v2 M1
set_option maxHeartbeats 4000000 in
theorem L_X12_worked_268 {X : j_X} {Φ : Option Value → m_M → Prop} (C : j_C X yX12_worked cX12_worked 6 (some .int) 3 0 0 Φ) {k300 : Nat → Int32 → Int32 → Int32 → Int32 → m_M → Option (Int32 × m_M)} (hk300 : ∀ (p0 : Nat) (p1 : Int32) (p2 : Int32) (p3 : Int32) (p4 : Int32) (M : m_M), m_ok e_I Φ (k300 p0 p1 p2 p3 p4 M) → j_J X 6 300 [some (.ref p0), some (.int p1), some (.int p2), some (.int p3), none, some (.int p4)] [] (0, 0) M) : ∀ (n : Nat) (v1 : Nat) (v2 : Int32) (v3 : Int32) (v4 : Int32) (v5 : Int32) (M : m_M), m_ok e_I Φ (F_X12_worked_268 k300 n v1 v2 v3 v4 v5 M) → j_J X 6 268 [some (.ref v1), some (.int v2), some (.int v3), some (.int v4), none, some (.int v5)] [] (0, 0) M := by
  have C0 := C.1
  intro n
  induction n with
  | zero => intro v1 v2 v3 v4 v5 M h; exact False.elim h
  | succ n ih =>
    intro v1 v2 v3 v4 v5 M h
    rw [F_X12_worked_268] at h
    refine j_iload_n C0 (pc := 268) dX12_worked_268 rfl ?_
    refine j_if_le C0 (pc := 269) (tgt := 300) dX12_worked_269 (by decide) (fun hc => ?_) (fun hc => ?_)
    · replace h := (X_if h).1 hc
      exact j_J.wq (hk300 v1 v2 v3 v4 v5 M h) (And.intro rfl (And.intro rfl (And.intro rfl (And.intro rfl (And.intro rfl (trivial))))))
    · replace h := (X_if h).2 hc
      refine j_aload_n C0 (pc := 272) dX12_worked_272 rfl ?_
      refine X_gN C0 (pc := 273) f_OM_78_10 rfl dX12_worked_273 h (fun v6 h => ?_)
      refine j_iload_n C0 (pc := 276) dX12_worked_276 rfl ?_
      refine X_iald C0 (pc := 277) dX12_worked_277 h (fun v7 h => ?_)
      refine j_iconst C0 (pc := 278) dX12_worked_278 (v := (1 : Int32)) (by decide) ?_
      refine j_icmp_ne C0 (pc := 279) (tgt := 300) dX12_worked_279 (by decide) (fun hc => ?_) (fun hc => ?_)
      · replace h := (X_if h).2 hc
        exact j_J.wq (hk300 v1 v2 v3 v4 v5 M h) (And.intro rfl (And.intro rfl (And.intro rfl (And.intro rfl (And.intro rfl (trivial))))))
      · replace h := (X_if h).1 hc
        refine X_join (fun (kj : Nat → Int32 → Int32 → Int32 → Int32 → m_M → Option (Int32 × m_M)) => ∀ (p0 : Nat) (p1 : Int32) (p2 : Int32) (p3 : Int32) (p4 : Int32) (M : m_M), m_ok e_I Φ (kj p0 p1 p2 p3 p4 M) → j_J X 6 292 [some (.ref p0), some (.int p1), some (.int p2), some (.int p3), none, none] [.int p4] (0, 0) M) h (fun v8 v9 v10 v11 v12 M1 h => ?_) (fun k292 hk292 h => ?_)
        · refine j_istore C0 (pc := 292) dX12_worked_292 (Nat.le_of_ble_eq_true rfl) ?_
          show j_J X 6 294 [some (.ref v8), some (.int v9), some (.int v10), some (.int v11), none, some (.int v12)] [] (0, 0) M1
          refine j_iinc C0 (pc := 294) dX12_worked_294 (v := v10 + (-1 : Int32)) rfl (Nat.le_of_ble_eq_true rfl) (by rfl) ?_
          refine X_let (G := fun w => j_J X 6 297 [some (.ref v8), some (.int v9), some (.int w), some (.int v11), none, some (.int v12)] [] (0, 0) M1) h (fun v13 h => ?_)
          refine j_goto C0 (pc := 297) (tgt := 268) dX12_worked_297 (by decide) ?_
          exact j_J.wq (ih v8 v9 v13 v11 v12 M1 h) (And.intro rfl (And.intro rfl (And.intro rfl (And.intro rfl (And.intro rfl (trivial))))))
        · refine j_iload C0 (pc := 282) dX12_worked_282 rfl ?_
          refine j_if_ne C0 (pc := 284) (tgt := 291) dX12_worked_284 (by decide) (fun hc => ?_) (fun hc => ?_)
          · replace h := (X_if h).2 hc
            refine j_iconst C0 (pc := 291) dX12_worked_291 (v := (0 : Int32)) (by decide) ?_
            exact j_J.wq (hk292 v1 v2 v3 v4 (0 : Int32) M h) (And.intro rfl (And.intro rfl (And.intro rfl (And.intro rfl (trivial)))))
          · replace h := (X_if h).1 hc
            refine j_iconst C0 (pc := 287) dX12_worked_287 (v := (1 : Int32)) (by decide) ?_
            refine j_goto C0 (pc := 288) (tgt := 292) dX12_worked_288 (by decide) ?_
            exact j_J.wq (hk292 v1 v2 v3 v4 (1 : Int32) M h) (And.intro rfl (And.intro rfl (And.intro rfl (And.intro rfl (trivial)))))
set_option maxHeartbeats 4000000 in
theorem L_X12_worked_14 {X : j_X} {Φ : Option Value → m_M → Prop} (C : j_C X yX12_worked cX12_worked 6 (some .int) 3 0 0 Φ) {k335 : Nat → m_M → Option (Int32 × m_M)} (hk335 : ∀ (p0 : Nat) (M : m_M), m_ok e_I Φ (k335 p0 M) → j_J X 6 335 [some (.ref p0), none, none, none, none, none] [] (0, 0) M) : ∀ (n : Nat) (v1 : Nat) (v2 : Int32) (v3 : Int32) (v4 : Int32) (M : m_M), m_ok e_I Φ (F_X12_worked_14 k335 n v1 v2 v3 v4 M) → j_J X 6 14 [some (.ref v1), some (.int v2), some (.int v3), some (.int v4), none, none] [] (0, 0) M := by
  have C0 := C.1
  intro n
  induction n with
  | zero => intro v1 v2 v3 v4 M h; exact False.elim h
  | succ n ih =>
    intro v1 v2 v3 v4 M h
    rw [F_X12_worked_14] at h
    refine j_iload_n C0 (pc := 14) dX12_worked_14 rfl ?_
    refine j_aload_n C0 (pc := 15) dX12_worked_15 rfl ?_
    refine X_gN C0 (pc := 16) f_OM_41_10 rfl dX12_worked_16 h (fun v5 h => ?_)
    refine j_iload_n C0 (pc := 19) dX12_worked_19 rfl ?_
    refine X_iald C0 (pc := 20) dX12_worked_20 h (fun v6 h => ?_)
    refine j_icmp_ge C0 (pc := 21) (tgt := 335) dX12_worked_21 (by decide) (fun hc => ?_) (fun hc => ?_)
    · replace h := (X_if h).1 hc
      exact j_J.wq (hk335 v1 M h) (And.intro rfl (trivial))
    · replace h := (X_if h).2 hc
      refine X_join (fun (kj : Nat → Int32 → Int32 → Int32 → m_M → Option (Int32 × m_M)) => ∀ (p0 : Nat) (p1 : Int32) (p2 : Int32) (p3 : Int32) (M : m_M), m_ok e_I Φ (kj p0 p1 p2 p3 M) → j_J X 6 329 [some (.ref p0), some (.int p1), some (.int p2), some (.int p3), none, none] [] (0, 0) M) h (fun v7 v8 v9 v10 M1 h => ?_) (fun k329 hk329 h => ?_)
      · refine j_iinc C0 (pc := 329) dX12_worked_329 (v := v10 + (1 : Int32)) rfl (Nat.le_of_ble_eq_true rfl) (by rfl) ?_
        refine X_let (G := fun w => j_J X 6 332 [some (.ref v7), some (.int v8), some (.int v9), some (.int w), none, none] [] (0, 0) M1) h (fun v11 h => ?_)
        refine j_goto C0 (pc := 332) (tgt := 14) dX12_worked_332 (by decide) ?_
        exact j_J.wq (ih v7 v8 v9 v11 M1 h) (And.intro rfl (And.intro rfl (And.intro rfl (And.intro rfl (trivial)))))
      · refine X_join (fun (kj : Nat → Int32 → Int32 → Int32 → Int32 → m_M → Option (Int32 × m_M)) => ∀ (p0 : Nat) (p1 : Int32) (p2 : Int32) (p3 : Int32) (p4 : Int32) (M : m_M), m_ok e_I Φ (kj p0 p1 p2 p3 p4 M) → j_J X 6 46 [some (.ref p0), some (.int p1), some (.int p2), some (.int p3), some (.int p4), none] [] (0, 0) M) h (fun v12 v13 v14 v15 v16 M2 h => ?_) (fun k46 hk46 h => ?_)
        · refine X_join (fun (kj : Nat → Int32 → Int32 → Int32 → Nat → Int32 → Int32 → m_M → Option (Int32 × m_M)) => ∀ (p0 : Nat) (p1 : Int32) (p2 : Int32) (p3 : Int32) (p4 : Nat) (p5 : Int32) (p6 : Int32) (M : m_M), m_ok e_I Φ (kj p0 p1 p2 p3 p4 p5 p6 M) → j_J X 6 66 [some (.ref p0), some (.int p1), some (.int p2), some (.int p3), none, none] [.int p6, .int p5, .ref p4] (0, 0) M) h (fun v17 v18 v19 v20 v21 v22 v23 M3 h => ?_) (fun k66 hk66 h => ?_)
          · refine X_iast C0 (pc := 66) dX12_worked_66 h (fun M4 h => ?_)
            refine j_aload_n C0 (pc := 67) dX12_worked_67 rfl ?_
            refine j_iload_n C0 (pc := 68) dX12_worked_68 rfl ?_
            refine X_cV C0 (pc := 69) (e' := e_V) (as := [.int v19]) (rest := []) (s' := fun _ => []) (g' := (0, 0)) v_OM_253_10 (fun Ψ hΨ => K_X12_opens v17 v19 M4 Ψ hΨ) rfl rfl (fun _ => rfl) (by decide) (by decide) rfl (Nat.le_of_ble_eq_true rfl) dX12_worked_69 h (fun _ M5 h => ?_)
            refine j_goto C0 (pc := 72) (tgt := 329) dX12_worked_72 (by decide) ?_
            exact j_J.wq (hk329 v17 v18 v19 v20 M5 h) (And.intro rfl (And.intro rfl (And.intro rfl (And.intro rfl (trivial)))))
          · refine j_iinc C0 (pc := 46) dX12_worked_46 (v := v14 + (1 : Int32)) rfl (Nat.le_of_ble_eq_true rfl) (by rfl) ?_
            refine X_let (G := fun w => j_J X 6 49 [some (.ref v12), some (.int v13), some (.int w), some (.int v15), some (.int v16), none] [] (0, 0) M2) h (fun v24 h => ?_)
            refine j_aload_n C0 (pc := 49) dX12_worked_49 rfl ?_
            refine X_gN C0 (pc := 50) f_OM_78_10 rfl dX12_worked_50 h (fun v25 h => ?_)
            refine j_iload_n C0 (pc := 53) dX12_worked_53 rfl ?_
            refine j_iload C0 (pc := 54) dX12_worked_54 rfl ?_
            refine j_bipush C0 (pc := 56) dX12_worked_56 (v := (30 : Int32)) (by decide) ?_
            refine j_icmp_ne C0 (pc := 58) (tgt := 65) dX12_worked_58 (by decide) (fun hc => ?_) (fun hc => ?_)
            · replace h := (X_if h).2 hc
              refine j_iconst C0 (pc := 65) dX12_worked_65 (v := (0 : Int32)) (by decide) ?_
              exact j_J.wq (hk66 v12 v13 v24 v15 v25 v24 (0 : Int32) M2 h) (And.intro rfl (And.intro rfl (And.intro rfl (And.intro rfl (trivial)))))
            · replace h := (X_if h).1 hc
              refine j_iconst C0 (pc := 61) dX12_worked_61 (v := (1 : Int32)) (by decide) ?_
              refine j_goto C0 (pc := 62) (tgt := 66) dX12_worked_62 (by decide) ?_
              exact j_J.wq (hk66 v12 v13 v24 v15 v25 v24 (1 : Int32) M2 h) (And.intro rfl (And.intro rfl (And.intro rfl (And.intro rfl (trivial)))))
        · refine j_aload_n C0 (pc := 24) dX12_worked_24 rfl ?_
          refine X_gN C0 (pc := 25) f_OM_44_10 rfl dX12_worked_25 h (fun v26 h => ?_)
          refine j_iload_n C0 (pc := 28) dX12_worked_28 rfl ?_
          refine X_iald C0 (pc := 29) dX12_worked_29 h (fun v27 h => ?_)
          refine j_istore C0 (pc := 30) dX12_worked_30 (Nat.le_of_ble_eq_true rfl) ?_
          show j_J X 6 32 [some (.ref v1), some (.int v2), some (.int v3), some (.int v4), some (.int v27), none] [] (0, 0) M
          refine j_iload C0 (pc := 32) dX12_worked_32 rfl ?_
          refine j_bipush C0 (pc := 34) dX12_worked_34 (v := (28 : Int32)) (by decide) ?_
          refine j_icmp_eq C0 (pc := 36) (tgt := 46) dX12_worked_36 (by decide) (fun hc => ?_) (fun hc => ?_)
          · replace h := (X_if h).1 hc
            exact j_J.wq (hk46 v1 v2 v3 v4 v27 M h) (And.intro rfl (And.intro rfl (And.intro rfl (And.intro rfl (And.intro rfl (trivial))))))
          · replace h := (X_if h).2 hc
            refine j_iload C0 (pc := 39) dX12_worked_39 rfl ?_
            refine j_bipush C0 (pc := 41) dX12_worked_41 (v := (30 : Int32)) (by decide) ?_
            refine j_icmp_ne C0 (pc := 43) (tgt := 75) dX12_worked_43 (by decide) (fun hc => ?_) (fun hc => ?_)
            · replace h := (X_if h).2 hc
              refine X_join (fun (kj : Nat → Int32 → Int32 → Int32 → Int32 → m_M → Option (Int32 × m_M)) => ∀ (p0 : Nat) (p1 : Int32) (p2 : Int32) (p3 : Int32) (p4 : Int32) (M : m_M), m_ok e_I Φ (kj p0 p1 p2 p3 p4 M) → j_J X 6 89 [some (.ref p0), some (.int p1), some (.int p2), some (.int p3), some (.int p4), none] [] (0, 0) M) h (fun v28 v29 v30 v31 v32 M6 h => ?_) (fun k89 hk89 h => ?_)
              · refine j_aload_n C0 (pc := 89) dX12_worked_89 rfl ?_
                refine j_iload_n C0 (pc := 90) dX12_worked_90 rfl ?_
                refine X_cV C0 (pc := 91) (e' := e_V) (as := [.int v30]) (rest := []) (s' := fun _ => []) (g' := (0, 0)) v_OM_250_10 (fun Ψ hΨ => K_X12_sums v28 v30 M6 Ψ hΨ) rfl rfl (fun _ => rfl) (by decide) (by decide) rfl (Nat.le_of_ble_eq_true rfl) dX12_worked_91 h (fun _ M7 h => ?_)
                refine j_aload_n C0 (pc := 94) dX12_worked_94 rfl ?_
                refine X_gN C0 (pc := 95) f_OM_69_10 rfl dX12_worked_95 h (fun v33 h => ?_)
                refine j_iload_n C0 (pc := 98) dX12_worked_98 rfl ?_
                refine j_iload C0 (pc := 99) dX12_worked_99 rfl ?_
                refine X_iast C0 (pc := 101) dX12_worked_101 h (fun M8 h => ?_)
                refine j_goto C0 (pc := 102) (tgt := 329) dX12_worked_102 (by decide) ?_
                exact j_J.wq (hk329 v28 v29 v30 v31 M8 h) (And.intro rfl (And.intro rfl (And.intro rfl (And.intro rfl (trivial)))))
              · refine j_iload C0 (pc := 75) dX12_worked_75 rfl ?_
                refine j_bipush C0 (pc := 77) dX12_worked_77 (v := (20 : Int32)) (by decide) ?_
                refine j_icmp_eq C0 (pc := 79) (tgt := 89) dX12_worked_79 (by decide) (fun hc => ?_) (fun hc => ?_)
                · replace h := (X_if h).1 hc
                  exact j_J.wq (hk89 v1 v2 v3 v4 v27 M h) (And.intro rfl (And.intro rfl (And.intro rfl (And.intro rfl (And.intro rfl (trivial))))))
                · replace h := (X_if h).2 hc
                  refine j_iload C0 (pc := 82) dX12_worked_82 rfl ?_
                  refine j_bipush C0 (pc := 84) dX12_worked_84 (v := (21 : Int32)) (by decide) ?_
                  refine j_icmp_ne C0 (pc := 86) (tgt := 105) dX12_worked_86 (by decide) (fun hc => ?_) (fun hc => ?_)
                  · replace h := (X_if h).2 hc
                    refine j_iload C0 (pc := 105) dX12_worked_105 rfl ?_
                    refine j_bipush C0 (pc := 107) dX12_worked_107 (v := (22 : Int32)) (by decide) ?_
                    refine j_icmp_ne C0 (pc := 109) (tgt := 123) dX12_worked_109 (by decide) (fun hc => ?_) (fun hc => ?_)
                    · replace h := (X_if h).2 hc
                      refine X_join (fun (kj : Nat → Int32 → Int32 → Int32 → Int32 → m_M → Option (Int32 × m_M)) => ∀ (p0 : Nat) (p1 : Int32) (p2 : Int32) (p3 : Int32) (p4 : Int32) (M : m_M), m_ok e_I Φ (kj p0 p1 p2 p3 p4 M) → j_J X 6 137 [some (.ref p0), some (.int p1), some (.int p2), some (.int p3), some (.int p4), none] [] (0, 0) M) h (fun v34 v35 v36 v37 v38 M9 h => ?_) (fun k137 hk137 h => ?_)
                      · refine j_aload_n C0 (pc := 137) dX12_worked_137 rfl ?_
                        refine j_iload_n C0 (pc := 138) dX12_worked_138 rfl ?_
                        refine X_cV C0 (pc := 139) (e' := e_V) (as := [.int v36]) (rest := []) (s' := fun _ => []) (g' := (0, 0)) v_OM_250_10 (fun Ψ hΨ => K_X12_sums v34 v36 M9 Ψ hΨ) rfl rfl (fun _ => rfl) (by decide) (by decide) rfl (Nat.le_of_ble_eq_true rfl) dX12_worked_139 h (fun _ M10 h => ?_)
                        refine j_aload_n C0 (pc := 142) dX12_worked_142 rfl ?_
                        refine X_gN C0 (pc := 143) f_OM_60_10 rfl dX12_worked_143 h (fun v39 h => ?_)
                        refine j_iload_n C0 (pc := 146) dX12_worked_146 rfl ?_
                        refine j_aload_n C0 (pc := 147) dX12_worked_147 rfl ?_
                        refine X_gN C0 (pc := 148) f_OM_66_10 rfl dX12_worked_148 h (fun v40 h => ?_)
                        refine j_iload_n C0 (pc := 151) dX12_worked_151 rfl ?_
                        refine X_iald C0 (pc := 152) dX12_worked_152 h (fun v41 h => ?_)
                        refine X_iast C0 (pc := 153) dX12_worked_153 h (fun M11 h => ?_)
                        refine j_aload_n C0 (pc := 154) dX12_worked_154 rfl ?_
                        refine X_gN C0 (pc := 155) f_OM_63_10 rfl dX12_worked_155 h (fun v42 h => ?_)
                        refine j_iload_n C0 (pc := 158) dX12_worked_158 rfl ?_
                        refine j_iload C0 (pc := 159) dX12_worked_159 rfl ?_
                        refine X_iast C0 (pc := 161) dX12_worked_161 h (fun M12 h => ?_)
                        refine j_aload_n C0 (pc := 162) dX12_worked_162 rfl ?_
                        refine X_gN C0 (pc := 163) f_OM_66_10 rfl dX12_worked_163 h (fun v43 h => ?_)
                        refine j_iload_n C0 (pc := 166) dX12_worked_166 rfl ?_
                        refine j_iconst C0 (pc := 167) dX12_worked_167 (v := (0 : Int32)) (by decide) ?_
                        refine X_iast C0 (pc := 168) dX12_worked_168 h (fun M13 h => ?_)
                        refine j_aload_n C0 (pc := 169) dX12_worked_169 rfl ?_
                        refine X_gN C0 (pc := 170) f_OM_69_10 rfl dX12_worked_170 h (fun v44 h => ?_)
                        refine j_iload_n C0 (pc := 173) dX12_worked_173 rfl ?_
                        refine j_bipush C0 (pc := 174) dX12_worked_174 (v := (20 : Int32)) (by decide) ?_
                        refine X_iast C0 (pc := 176) dX12_worked_176 h (fun M14 h => ?_)
                        refine j_goto C0 (pc := 177) (tgt := 329) dX12_worked_177 (by decide) ?_
                        exact j_J.wq (hk329 v34 v35 v36 v37 M14 h) (And.intro rfl (And.intro rfl (And.intro rfl (And.intro rfl (trivial)))))
                      · refine j_iload C0 (pc := 123) dX12_worked_123 rfl ?_
                        refine j_bipush C0 (pc := 125) dX12_worked_125 (v := (24 : Int32)) (by decide) ?_
                        refine j_icmp_eq C0 (pc := 127) (tgt := 137) dX12_worked_127 (by decide) (fun hc => ?_) (fun hc => ?_)
                        · replace h := (X_if h).1 hc
                          exact j_J.wq (hk137 v1 v2 v3 v4 v27 M h) (And.intro rfl (And.intro rfl (And.intro rfl (And.intro rfl (And.intro rfl (trivial))))))
                        · replace h := (X_if h).2 hc
                          refine j_iload C0 (pc := 130) dX12_worked_130 rfl ?_
                          refine j_bipush C0 (pc := 132) dX12_worked_132 (v := (25 : Int32)) (by decide) ?_
                          refine j_icmp_ne C0 (pc := 134) (tgt := 180) dX12_worked_134 (by decide) (fun hc => ?_) (fun hc => ?_)
                          · replace h := (X_if h).2 hc
                            refine X_join (fun (kj : Nat → Int32 → Int32 → Int32 → Int32 → m_M → Option (Int32 × m_M)) => ∀ (p0 : Nat) (p1 : Int32) (p2 : Int32) (p3 : Int32) (p4 : Int32) (M : m_M), m_ok e_I Φ (kj p0 p1 p2 p3 p4 M) → j_J X 6 194 [some (.ref p0), some (.int p1), some (.int p2), some (.int p3), some (.int p4), none] [] (0, 0) M) h (fun v45 v46 v47 v48 v49 M15 h => ?_) (fun k194 hk194 h => ?_)
                            · refine j_aload_n C0 (pc := 194) dX12_worked_194 rfl ?_
                              refine j_iload_n C0 (pc := 195) dX12_worked_195 rfl ?_
                              refine X_cV C0 (pc := 196) (e' := e_V) (as := [.int v47]) (rest := []) (s' := fun _ => []) (g' := (0, 0)) v_OM_256_10 (fun Ψ hΨ => K_X12_tests v45 v47 M15 Ψ hΨ) rfl rfl (fun _ => rfl) (by decide) (by decide) rfl (Nat.le_of_ble_eq_true rfl) dX12_worked_196 h (fun _ M16 h => ?_)
                              refine j_aload_n C0 (pc := 199) dX12_worked_199 rfl ?_
                              refine X_gN C0 (pc := 200) f_OM_57_10 rfl dX12_worked_200 h (fun v50 h => ?_)
                              refine j_iload_n C0 (pc := 203) dX12_worked_203 rfl ?_
                              refine j_iload C0 (pc := 204) dX12_worked_204 rfl ?_
                              refine X_iast C0 (pc := 206) dX12_worked_206 h (fun M17 h => ?_)
                              refine j_goto C0 (pc := 207) (tgt := 329) dX12_worked_207 (by decide) ?_
                              exact j_J.wq (hk329 v45 v46 v47 v48 M17 h) (And.intro rfl (And.intro rfl (And.intro rfl (And.intro rfl (trivial)))))
                            · refine j_iload C0 (pc := 180) dX12_worked_180 rfl ?_
                              refine j_bipush C0 (pc := 182) dX12_worked_182 (v := (26 : Int32)) (by decide) ?_
                              refine j_icmp_eq C0 (pc := 184) (tgt := 194) dX12_worked_184 (by decide) (fun hc => ?_) (fun hc => ?_)
                              · replace h := (X_if h).1 hc
                                exact j_J.wq (hk194 v1 v2 v3 v4 v27 M h) (And.intro rfl (And.intro rfl (And.intro rfl (And.intro rfl (And.intro rfl (trivial))))))
                              · replace h := (X_if h).2 hc
                                refine j_iload C0 (pc := 187) dX12_worked_187 rfl ?_
                                refine j_bipush C0 (pc := 189) dX12_worked_189 (v := (27 : Int32)) (by decide) ?_
                                refine j_icmp_ne C0 (pc := 191) (tgt := 210) dX12_worked_191 (by decide) (fun hc => ?_) (fun hc => ?_)
                                · replace h := (X_if h).2 hc
                                  refine X_join (fun (kj : Nat → Int32 → Int32 → Int32 → Int32 → Int32 → m_M → Option (Int32 × m_M)) => ∀ (p0 : Nat) (p1 : Int32) (p2 : Int32) (p3 : Int32) (p4 : Int32) (p5 : Int32) (M : m_M), m_ok e_I Φ (kj p0 p1 p2 p3 p4 p5 M) → j_J X 6 243 [some (.ref p0), some (.int p1), some (.int p2), some (.int p3), some (.int p4), none] [.int p5] (0, 0) M) h (fun v51 v52 v53 v54 v55 v56 M18 h => ?_) (fun k243 hk243 h => ?_)
                                  · refine X_join (fun (kj : Nat → Int32 → Int32 → Int32 → Int32 → m_M → Option (Int32 × m_M)) => ∀ (p0 : Nat) (p1 : Int32) (p2 : Int32) (p3 : Int32) (p4 : Int32) (M : m_M), m_ok e_I Φ (kj p0 p1 p2 p3 p4 M) → j_J X 6 268 [some (.ref p0), some (.int p1), some (.int p2), some (.int p3), none, some (.int p4)] [] (0, 0) M) h (fun v57 v58 v59 v60 v61 M19 h => ?_) (fun k268 hk268 h => ?_)
                                    · refine X_join (fun (kj : Nat → Int32 → Int32 → Int32 → Int32 → m_M → Option (Int32 × m_M)) => ∀ (p0 : Nat) (p1 : Int32) (p2 : Int32) (p3 : Int32) (p4 : Int32) (M : m_M), m_ok e_I Φ (kj p0 p1 p2 p3 p4 M) → j_J X 6 300 [some (.ref p0), some (.int p1), some (.int p2), some (.int p3), none, some (.int p4)] [] (0, 0) M) h (fun v62 v63 v64 v65 v66 M20 h => ?_) (fun k300 hk300 h => ?_)
                                      · refine X_join (fun (kj : Nat → Int32 → Int32 → Int32 → Nat → Int32 → Int32 → m_M → Option (Int32 × m_M)) => ∀ (p0 : Nat) (p1 : Int32) (p2 : Int32) (p3 : Int32) (p4 : Nat) (p5 : Int32) (p6 : Int32) (M : m_M), m_ok e_I Φ (kj p0 p1 p2 p3 p4 p5 p6 M) → j_J X 6 328 [some (.ref p0), some (.int p1), some (.int p2), some (.int p3), none, none] [.int p6, .int p5, .ref p4] (0, 0) M) h (fun v67 v68 v69 v70 v71 v72 v73 M21 h => ?_) (fun k328 hk328 h => ?_)
                                        · refine X_iast C0 (pc := 328) dX12_worked_328 h (fun M22 h => ?_)
                                          exact j_J.wq (hk329 v67 v68 v69 v70 M22 h) (And.intro rfl (And.intro rfl (And.intro rfl (And.intro rfl (trivial)))))
                                        · refine j_aload_n C0 (pc := 300) dX12_worked_300 rfl ?_
                                          refine X_gN C0 (pc := 301) f_OM_72_10 rfl dX12_worked_301 h (fun v74 h => ?_)
                                          refine j_iload_n C0 (pc := 304) dX12_worked_304 rfl ?_
                                          refine j_aload_n C0 (pc := 305) dX12_worked_305 rfl ?_
                                          refine X_gN C0 (pc := 306) f_OM_75_10 rfl dX12_worked_306 h (fun v75 h => ?_)
                                          refine j_iload_n C0 (pc := 309) dX12_worked_309 rfl ?_
                                          refine X_iald C0 (pc := 310) dX12_worked_310 h (fun v76 h => ?_)
                                          refine j_if_ne C0 (pc := 311) (tgt := 319) dX12_worked_311 (by decide) (fun hc => ?_) (fun hc => ?_)
                                          · replace h := (X_if h).2 hc
                                            refine j_aload_n C0 (pc := 319) dX12_worked_319 rfl ?_
                                            refine X_gN C0 (pc := 320) f_OM_72_10 rfl dX12_worked_320 h (fun v77 h => ?_)
                                            refine j_iload_n C0 (pc := 323) dX12_worked_323 rfl ?_
                                            refine X_iald C0 (pc := 324) dX12_worked_324 h (fun v78 h => ?_)
                                            refine j_iload C0 (pc := 325) dX12_worked_325 rfl ?_
                                            refine j_imul C0 (pc := 327) dX12_worked_327 ?_
                                            exact j_J.wq (hk328 v62 v63 v64 v65 v74 v64 (v78 * v66) M20 h) (And.intro rfl (And.intro rfl (And.intro rfl (And.intro rfl (trivial)))))
                                          · replace h := (X_if h).1 hc
                                            refine j_iload C0 (pc := 314) dX12_worked_314 rfl ?_
                                            refine j_goto C0 (pc := 316) (tgt := 328) dX12_worked_316 (by decide) ?_
                                            exact j_J.wq (hk328 v62 v63 v64 v65 v74 v64 v66 M20 h) (And.intro rfl (And.intro rfl (And.intro rfl (And.intro rfl (trivial)))))
                                      · exact j_J.wq (L_X12_worked_268 C hk300 m_FU v57 v58 v59 v60 v61 M19 h) (And.intro rfl (And.intro rfl (And.intro rfl (And.intro rfl (And.intro rfl (trivial))))))
                                    · refine j_istore C0 (pc := 243) dX12_worked_243 (Nat.le_of_ble_eq_true rfl) ?_
                                      show j_J X 6 245 [some (.ref v51), some (.int v52), some (.int v53), some (.int v54), some (.int v55), some (.int v56)] [] (0, 0) M18
                                      refine j_iload C0 (pc := 245) dX12_worked_245 rfl ?_
                                      refine j_bipush C0 (pc := 247) dX12_worked_247 (v := (29 : Int32)) (by decide) ?_
                                      refine j_icmp_ne C0 (pc := 249) (tgt := 268) dX12_worked_249 (by decide) (fun hc => ?_) (fun hc => ?_)
                                      · replace h := (X_if h).2 hc
                                        exact j_J.wq (hk268 v51 v52 v53 v54 v56 M18 h) (And.intro rfl (And.intro rfl (And.intro rfl (And.intro rfl (And.intro rfl (trivial))))))
                                      · replace h := (X_if h).1 hc
                                        refine j_aload_n C0 (pc := 252) dX12_worked_252 rfl ?_
                                        refine j_iload_n C0 (pc := 253) dX12_worked_253 rfl ?_
                                        refine X_cV C0 (pc := 254) (e' := e_V) (as := [.int v53]) (rest := []) (s' := fun _ => []) (g' := (0, 0)) v_OM_256_10 (fun Ψ hΨ => K_X12_tests v51 v53 M18 Ψ hΨ) rfl rfl (fun _ => rfl) (by decide) (by decide) rfl (Nat.le_of_ble_eq_true rfl) dX12_worked_254 h (fun _ M23 h => ?_)
                                        refine j_aload_n C0 (pc := 257) dX12_worked_257 rfl ?_
                                        refine X_gN C0 (pc := 258) f_OM_54_10 rfl dX12_worked_258 h (fun v79 h => ?_)
                                        refine j_iload_n C0 (pc := 261) dX12_worked_261 rfl ?_
                                        refine X_iald C0 (pc := 262) dX12_worked_262 h (fun v80 h => ?_)
                                        refine j_istore C0 (pc := 263) dX12_worked_263 (Nat.le_of_ble_eq_true rfl) ?_
                                        show j_J X 6 265 [some (.ref v51), some (.int v52), some (.int v53), some (.int v54), some (.int v55), some (.int v80)] [] (0, 0) M23
                                        refine j_iinc C0 (pc := 265) dX12_worked_265 (v := v53 + (-1 : Int32)) rfl (Nat.le_of_ble_eq_true rfl) (by rfl) ?_
                                        refine X_let (G := fun w => j_J X 6 268 [some (.ref v51), some (.int v52), some (.int w), some (.int v54), some (.int v55), some (.int v80)] [] (0, 0) M23) h (fun v81 h => ?_)
                                        exact j_J.wq (hk268 v51 v52 v81 v54 v80 M23 h) (And.intro rfl (And.intro rfl (And.intro rfl (And.intro rfl (And.intro rfl (trivial))))))
                                  · refine j_iload C0 (pc := 210) dX12_worked_210 rfl ?_
                                    refine j_bipush C0 (pc := 212) dX12_worked_212 (v := (100 : Int32)) (by decide) ?_
                                    refine j_icmp_lt C0 (pc := 214) (tgt := 225) dX12_worked_214 (by decide) (fun hc => ?_) (fun hc => ?_)
                                    · replace h := (X_if h).1 hc
                                      refine j_iload C0 (pc := 225) dX12_worked_225 rfl ?_
                                      refine j_bipush C0 (pc := 227) dX12_worked_227 (v := (20 : Int32)) (by decide) ?_
                                      refine j_icmp_ge C0 (pc := 229) (tgt := 242) dX12_worked_229 (by decide) (fun hc => ?_) (fun hc => ?_)
                                      · replace h := (X_if h).1 hc
                                        refine j_iconst C0 (pc := 242) dX12_worked_242 (v := (0 : Int32)) (by decide) ?_
                                        exact j_J.wq (hk243 v1 v2 v3 v4 v27 (0 : Int32) M h) (And.intro rfl (And.intro rfl (And.intro rfl (And.intro rfl (And.intro rfl (trivial))))))
                                      · replace h := (X_if h).2 hc
                                        refine j_aload_n C0 (pc := 232) dX12_worked_232 rfl ?_
                                        refine X_gN C0 (pc := 233) f_OM_81_10 rfl dX12_worked_233 h (fun v82 h => ?_)
                                        refine j_iload C0 (pc := 236) dX12_worked_236 rfl ?_
                                        refine X_iald C0 (pc := 238) dX12_worked_238 h (fun v83 h => ?_)
                                        refine j_goto C0 (pc := 239) (tgt := 243) dX12_worked_239 (by decide) ?_
                                        exact j_J.wq (hk243 v1 v2 v3 v4 v27 v83 M h) (And.intro rfl (And.intro rfl (And.intro rfl (And.intro rfl (And.intro rfl (trivial))))))
                                    · replace h := (X_if h).2 hc
                                      refine j_iload C0 (pc := 217) dX12_worked_217 rfl ?_
                                      refine j_bipush C0 (pc := 219) dX12_worked_219 (v := (100 : Int32)) (by decide) ?_
                                      refine j_isub C0 (pc := 221) dX12_worked_221 ?_
                                      refine j_goto C0 (pc := 222) (tgt := 243) dX12_worked_222 (by decide) ?_
                                      exact j_J.wq (hk243 v1 v2 v3 v4 v27 (v27 - (100 : Int32)) M h) (And.intro rfl (And.intro rfl (And.intro rfl (And.intro rfl (And.intro rfl (trivial))))))
                                · replace h := (X_if h).1 hc
                                  exact j_J.wq (hk194 v1 v2 v3 v4 v27 M h) (And.intro rfl (And.intro rfl (And.intro rfl (And.intro rfl (And.intro rfl (trivial))))))
                          · replace h := (X_if h).1 hc
                            exact j_J.wq (hk137 v1 v2 v3 v4 v27 M h) (And.intro rfl (And.intro rfl (And.intro rfl (And.intro rfl (And.intro rfl (trivial))))))
                    · replace h := (X_if h).1 hc
                      refine j_aload_n C0 (pc := 112) dX12_worked_112 rfl ?_
                      refine X_gN C0 (pc := 113) f_OM_75_10 rfl dX12_worked_113 h (fun v84 h => ?_)
                      refine j_iload_n C0 (pc := 116) dX12_worked_116 rfl ?_
                      refine j_iload C0 (pc := 117) dX12_worked_117 rfl ?_
                      refine X_iast C0 (pc := 119) dX12_worked_119 h (fun M24 h => ?_)
                      refine j_goto C0 (pc := 120) (tgt := 329) dX12_worked_120 (by decide) ?_
                      exact j_J.wq (hk329 v1 v2 v3 v4 M24 h) (And.intro rfl (And.intro rfl (And.intro rfl (And.intro rfl (trivial)))))
                  · replace h := (X_if h).1 hc
                    exact j_J.wq (hk89 v1 v2 v3 v4 v27 M h) (And.intro rfl (And.intro rfl (And.intro rfl (And.intro rfl (And.intro rfl (trivial))))))
            · replace h := (X_if h).1 hc
              exact j_J.wq (hk46 v1 v2 v3 v4 v27 M h) (And.intro rfl (And.intro rfl (And.intro rfl (And.intro rfl (And.intro rfl (trivial))))))
set_option maxHeartbeats 4000000 in
theorem K_X12_worked (a0 : Nat) (a1 : Int32) (M : m_M) (Φ : Option Value → m_M → Prop) (h : m_ok e_I Φ (F_X12_worked a0 a1 M)) : j_Ct yX12_worked cX12_worked 6 (some .int) 3 0 0 [.ref a0, .int a1] M Φ := by
  refine j_Ct.of (by decide +kernel) (Nat.le_of_ble_eq_true rfl) fun X C => ?_
  have C0 := C.1
  show j_J X 6 0 [some (.ref a0), some (.int a1), none, none, none, none] [] (0, 0) M
  unfold F_X12_worked at h
  refine j_iconst C0 (pc := 0) dX12_worked_0 (v := (0 : Int32)) (by decide) ?_
  refine j_istore_n C0 (pc := 1) dX12_worked_1 (Nat.le_of_ble_eq_true rfl) ?_
  show j_J X 6 2 [some (.ref a0), some (.int a1), some (.int (0 : Int32)), none, none, none] [] (0, 0) M
  refine j_aload_n C0 (pc := 2) dX12_worked_2 rfl ?_
  refine j_iconst C0 (pc := 3) dX12_worked_3 (v := (0 : Int32)) (by decide) ?_
  refine X_cV C0 (pc := 4) (e' := e_V) (as := [.int (0 : Int32)]) (rest := []) (s' := fun _ => []) (g' := (0, 0)) v_OM_253_10 (fun Ψ hΨ => K_X12_opens a0 (0 : Int32) M Ψ hΨ) rfl rfl (fun _ => rfl) (by decide) (by decide) rfl (Nat.le_of_ble_eq_true rfl) dX12_worked_4 h (fun _ M1 h => ?_)
  refine j_aload_n C0 (pc := 7) dX12_worked_7 rfl ?_
  refine X_gN C0 (pc := 8) f_OM_38_10 rfl dX12_worked_8 h (fun v1 h => ?_)
  refine j_iload_n C0 (pc := 11) dX12_worked_11 rfl ?_
  refine X_iald C0 (pc := 12) dX12_worked_12 h (fun v2 h => ?_)
  refine j_istore_n C0 (pc := 13) dX12_worked_13 (Nat.le_of_ble_eq_true rfl) ?_
  show j_J X 6 14 [some (.ref a0), some (.int a1), some (.int (0 : Int32)), some (.int v2), none, none] [] (0, 0) M1
  refine X_join (fun (kj : Nat → m_M → Option (Int32 × m_M)) => ∀ (p0 : Nat) (M : m_M), m_ok e_I Φ (kj p0 M) → j_J X 6 335 [some (.ref p0), none, none, none, none, none] [] (0, 0) M) h (fun v3 M2 h => ?_) (fun k335 hk335 h => ?_)
  · refine j_aload_n C0 (pc := 335) dX12_worked_335 rfl ?_
    refine j_iconst C0 (pc := 336) dX12_worked_336 (v := (0 : Int32)) (by decide) ?_
    refine X_cV C0 (pc := 337) (e' := e_V) (as := [.int (0 : Int32)]) (rest := []) (s' := fun _ => []) (g' := (0, 0)) v_OM_256_10 (fun Ψ hΨ => K_X12_tests v3 (0 : Int32) M2 Ψ hΨ) rfl rfl (fun _ => rfl) (by decide) (by decide) rfl (Nat.le_of_ble_eq_true rfl) dX12_worked_337 h (fun _ M3 h => ?_)
    refine j_aload_n C0 (pc := 340) dX12_worked_340 rfl ?_
    refine X_gN C0 (pc := 341) f_OM_54_10 rfl dX12_worked_341 h (fun v4 h => ?_)
    refine j_iconst C0 (pc := 344) dX12_worked_344 (v := (0 : Int32)) (by decide) ?_
    refine X_iald C0 (pc := 345) dX12_worked_345 h (fun v5 h => ?_)
    exact j_iret C rfl h dX12_worked_346 (by decide)
  · exact j_J.wq (L_X12_worked_14 C hk335 m_FU a0 a1 (0 : Int32) v2 M1 h) (And.intro rfl (And.intro rfl (And.intro rfl (And.intro rfl (trivial)))))
theorem dX12_bent_0 : decode cX12_bent 0 = .ok (.aload_n 0, 1) := by decide +kernel
theorem dX12_bent_1 : decode cX12_bent 1 = .ok (.getfield 81, 3) := by decide +kernel
theorem dX12_bent_4 : decode cX12_bent 4 = .ok (.bipush 6, 2) := by decide +kernel
theorem dX12_bent_6 : decode cX12_bent 6 = .ok (.iload_n 2, 1) := by decide +kernel
theorem dX12_bent_7 : decode cX12_bent 7 = .ok (.iastore, 1) := by decide +kernel
theorem dX12_bent_8 : decode cX12_bent 8 = .ok (.aload_n 0, 1) := by decide +kernel
theorem dX12_bent_9 : decode cX12_bent 9 = .ok (.getfield 81, 3) := by decide +kernel
theorem dX12_bent_12 : decode cX12_bent 12 = .ok (.bipush 7, 2) := by decide +kernel
theorem dX12_bent_14 : decode cX12_bent 14 = .ok (.aload_n 0, 1) := by decide +kernel
theorem dX12_bent_15 : decode cX12_bent 15 = .ok (.getfield 29, 3) := by decide +kernel
theorem dX12_bent_18 : decode cX12_bent 18 = .ok (.iload_n 3, 1) := by decide +kernel
theorem dX12_bent_19 : decode cX12_bent 19 = .ok (.iaload, 1) := by decide +kernel
theorem dX12_bent_20 : decode cX12_bent 20 = .ok (.iastore, 1) := by decide +kernel
theorem dX12_bent_21 : decode cX12_bent 21 = .ok (.aload_n 0, 1) := by decide +kernel
theorem dX12_bent_22 : decode cX12_bent 22 = .ok (.getfield 13, 3) := by decide +kernel
theorem dX12_bent_25 : decode cX12_bent 25 = .ok (.iconst 0, 1) := by decide +kernel
theorem dX12_bent_26 : decode cX12_bent 26 = .ok (.iaload, 1) := by decide +kernel
theorem dX12_bent_27 : decode cX12_bent 27 = .ok (.istore 4, 2) := by decide +kernel
theorem dX12_bent_29 : decode cX12_bent 29 = .ok (.aload_n 0, 1) := by decide +kernel
theorem dX12_bent_30 : decode cX12_bent 30 = .ok (.iload_n 1, 1) := by decide +kernel
theorem dX12_bent_31 : decode cX12_bent 31 = .ok (.invokevirtual 389, 3) := by decide +kernel
theorem dX12_bent_34 : decode cX12_bent 34 = .ok (.iload 4, 2) := by decide +kernel
theorem dX12_bent_36 : decode cX12_bent 36 = .ok (.irem, 1) := by decide +kernel
theorem dX12_bent_37 : decode cX12_bent 37 = .ok (.iload 4, 2) := by decide +kernel
theorem dX12_bent_39 : decode cX12_bent 39 = .ok (.iadd, 1) := by decide +kernel
theorem dX12_bent_40 : decode cX12_bent 40 = .ok (.iload 4, 2) := by decide +kernel
theorem dX12_bent_42 : decode cX12_bent 42 = .ok (.irem, 1) := by decide +kernel
theorem dX12_bent_43 : decode cX12_bent 43 = .ok (.ireturn, 1) := by decide +kernel
noncomputable def F_X12_bent (a0 : Nat) (a1 : Int32) (a2 : Int32) (a3 : Int32) (M : m_M) : Option (Int32 × m_M) :=
  x_gN 10 M a0 36 fun v1 =>
  x_sI 12 M v1 (6 : Int32) a2 fun M1 =>
  x_gN 10 M1 a0 36 fun v2 =>
  x_gN 10 M1 a0 15 fun v3 =>
  x_aI 12 M1 v3 a3 fun v4 =>
  x_sI 12 M1 v2 (7 : Int32) v4 fun M2 =>
  x_gN 10 M2 a0 10 fun v5 =>
  x_aI 12 M2 v5 (0 : Int32) fun v6 =>
  x_cV 10 M2 a0 (F_X12_worked a0 a1 M2) fun v7 M3 =>
  x_nz v6 <|
  x_nz v6 <|
  some (((v7 - v7 / v6 * v6) + v6) - ((v7 - v7 / v6 * v6) + v6) / v6 * v6, M3)
set_option maxHeartbeats 4000000 in
theorem K_X12_bent (a0 : Nat) (a1 : Int32) (a2 : Int32) (a3 : Int32) (M : m_M) (Φ : Option Value → m_M → Prop) (h : m_ok e_I Φ (F_X12_bent a0 a1 a2 a3 M)) : j_Ct yX12_bent cX12_bent 5 (some .int) 4 0 0 [.ref a0, .int a1, .int a2, .int a3] M Φ := by
  refine j_Ct.of (by decide +kernel) (Nat.le_of_ble_eq_true rfl) fun X C => ?_
  have C0 := C.1
  show j_J X 5 0 [some (.ref a0), some (.int a1), some (.int a2), some (.int a3), none] [] (0, 0) M
  unfold F_X12_bent at h
  refine j_aload_n C0 (pc := 0) dX12_bent_0 rfl ?_
  refine X_gN C0 (pc := 1) f_OM_81_10 rfl dX12_bent_1 h (fun v1 h => ?_)
  refine j_bipush C0 (pc := 4) dX12_bent_4 (v := (6 : Int32)) (by decide) ?_
  refine j_iload_n C0 (pc := 6) dX12_bent_6 rfl ?_
  refine X_iast C0 (pc := 7) dX12_bent_7 h (fun M1 h => ?_)
  refine j_aload_n C0 (pc := 8) dX12_bent_8 rfl ?_
  refine X_gN C0 (pc := 9) f_OM_81_10 rfl dX12_bent_9 h (fun v2 h => ?_)
  refine j_bipush C0 (pc := 12) dX12_bent_12 (v := (7 : Int32)) (by decide) ?_
  refine j_aload_n C0 (pc := 14) dX12_bent_14 rfl ?_
  refine X_gN C0 (pc := 15) f_OM_29_10 rfl dX12_bent_15 h (fun v3 h => ?_)
  refine j_iload_n C0 (pc := 18) dX12_bent_18 rfl ?_
  refine X_iald C0 (pc := 19) dX12_bent_19 h (fun v4 h => ?_)
  refine X_iast C0 (pc := 20) dX12_bent_20 h (fun M2 h => ?_)
  refine j_aload_n C0 (pc := 21) dX12_bent_21 rfl ?_
  refine X_gN C0 (pc := 22) f_OM_13_10 rfl dX12_bent_22 h (fun v5 h => ?_)
  refine j_iconst C0 (pc := 25) dX12_bent_25 (v := (0 : Int32)) (by decide) ?_
  refine X_iald C0 (pc := 26) dX12_bent_26 h (fun v6 h => ?_)
  refine j_istore C0 (pc := 27) dX12_bent_27 (Nat.le_of_ble_eq_true rfl) ?_
  show j_J X 5 29 [some (.ref a0), some (.int a1), some (.int a2), some (.int a3), some (.int v6)] [] (0, 0) M2
  refine j_aload_n C0 (pc := 29) dX12_bent_29 rfl ?_
  refine j_iload_n C0 (pc := 30) dX12_bent_30 rfl ?_
  refine X_cV C0 (pc := 31) (e' := e_I) (as := [.int a1]) (rest := []) (s' := fun w => .int w :: []) (g' := (0, 0)) v_OM_389_10 (fun Ψ hΨ => K_X12_worked a0 a1 M2 Ψ hΨ) rfl rfl (fun _ => rfl) (by decide) (by decide) rfl (Nat.le_of_ble_eq_true rfl) dX12_bent_31 h (fun v7 M3 h => ?_)
  refine j_iload C0 (pc := 34) dX12_bent_34 rfl ?_
  refine X_irem C0 (pc := 36) dX12_bent_36 h (fun h => ?_)
  refine j_iload C0 (pc := 37) dX12_bent_37 rfl ?_
  refine j_iadd C0 (pc := 39) dX12_bent_39 ?_
  refine j_iload C0 (pc := 40) dX12_bent_40 rfl ?_
  refine X_irem C0 (pc := 42) dX12_bent_42 h (fun h => ?_)
  exact j_iret C rfl h dX12_bent_43 (by decide)
theorem dX12_placeOf_0 : decode cX12_placeOf 0 = .ok (.iload_n 1, 1) := by decide +kernel
theorem dX12_placeOf_1 : decode cX12_placeOf 1 = .ok (.bipush 8, 2) := by decide +kernel
theorem dX12_placeOf_3 : decode cX12_placeOf 3 = .ok (.irem, 1) := by decide +kernel
theorem dX12_placeOf_4 : decode cX12_placeOf 4 = .ok (.istore_n 2, 1) := by decide +kernel
theorem dX12_placeOf_5 : decode cX12_placeOf 5 = .ok (.aload_n 0, 1) := by decide +kernel
theorem dX12_placeOf_6 : decode cX12_placeOf 6 = .ok (.getfield 87, 3) := by decide +kernel
theorem dX12_placeOf_9 : decode cX12_placeOf 9 = .ok (.iload_n 2, 1) := by decide +kernel
theorem dX12_placeOf_10 : decode cX12_placeOf 10 = .ok (.iaload, 1) := by decide +kernel
theorem dX12_placeOf_11 : decode cX12_placeOf 11 = .ok (.istore_n 3, 1) := by decide +kernel
theorem dX12_placeOf_12 : decode cX12_placeOf 12 = .ok (.iload_n 1, 1) := by decide +kernel
theorem dX12_placeOf_13 : decode cX12_placeOf 13 = .ok (.bipush 8, 2) := by decide +kernel
theorem dX12_placeOf_15 : decode cX12_placeOf 15 = .ok (.idiv, 1) := by decide +kernel
theorem dX12_placeOf_16 : decode cX12_placeOf 16 = .ok (.iconst 4, 1) := by decide +kernel
theorem dX12_placeOf_17 : decode cX12_placeOf 17 = .ok (.irem, 1) := by decide +kernel
theorem dX12_placeOf_18 : decode cX12_placeOf 18 = .ok (.istore 4, 2) := by decide +kernel
theorem dX12_placeOf_20 : decode cX12_placeOf 20 = .ok (.iload_n 1, 1) := by decide +kernel
theorem dX12_placeOf_21 : decode cX12_placeOf 21 = .ok (.bipush 32, 2) := by decide +kernel
theorem dX12_placeOf_23 : decode cX12_placeOf 23 = .ok (.idiv, 1) := by decide +kernel
theorem dX12_placeOf_24 : decode cX12_placeOf 24 = .ok (.istore 5, 2) := by decide +kernel
theorem dX12_placeOf_26 : decode cX12_placeOf 26 = .ok (.iload 4, 2) := by decide +kernel
theorem dX12_placeOf_28 : decode cX12_placeOf 28 = .ok (.ifCond .le 14, 3) := by decide +kernel
theorem dX12_placeOf_31 : decode cX12_placeOf 31 = .ok (.aload_n 0, 1) := by decide +kernel
theorem dX12_placeOf_32 : decode cX12_placeOf 32 = .ok (.iload 4, 2) := by decide +kernel
theorem dX12_placeOf_34 : decode cX12_placeOf 34 = .ok (.iconst 1, 1) := by decide +kernel
theorem dX12_placeOf_35 : decode cX12_placeOf 35 = .ok (.isub, 1) := by decide +kernel
theorem dX12_placeOf_36 : decode cX12_placeOf 36 = .ok (.iload_n 3, 1) := by decide +kernel
theorem dX12_placeOf_37 : decode cX12_placeOf 37 = .ok (.iload_n 2, 1) := by decide +kernel
theorem dX12_placeOf_38 : decode cX12_placeOf 38 = .ok (.invokevirtual 392, 3) := by decide +kernel
theorem dX12_placeOf_41 : decode cX12_placeOf 41 = .ok (.istore_n 3, 1) := by decide +kernel
theorem dX12_placeOf_42 : decode cX12_placeOf 42 = .ok (.iload 5, 2) := by decide +kernel
theorem dX12_placeOf_44 : decode cX12_placeOf 44 = .ok (.ifCond .le 16, 3) := by decide +kernel
theorem dX12_placeOf_47 : decode cX12_placeOf 47 = .ok (.aload_n 0, 1) := by decide +kernel
theorem dX12_placeOf_48 : decode cX12_placeOf 48 = .ok (.iload 5, 2) := by decide +kernel
theorem dX12_placeOf_50 : decode cX12_placeOf 50 = .ok (.iconst 1, 1) := by decide +kernel
theorem dX12_placeOf_51 : decode cX12_placeOf 51 = .ok (.isub, 1) := by decide +kernel
theorem dX12_placeOf_52 : decode cX12_placeOf 52 = .ok (.iload_n 3, 1) := by decide +kernel
theorem dX12_placeOf_53 : decode cX12_placeOf 53 = .ok (.iload_n 2, 1) := by decide +kernel
theorem dX12_placeOf_54 : decode cX12_placeOf 54 = .ok (.invokevirtual 392, 3) := by decide +kernel
theorem dX12_placeOf_57 : decode cX12_placeOf 57 = .ok (.goto 4, 3) := by decide +kernel
theorem dX12_placeOf_60 : decode cX12_placeOf 60 = .ok (.iload_n 3, 1) := by decide +kernel
theorem dX12_placeOf_61 : decode cX12_placeOf 61 = .ok (.ireturn, 1) := by decide +kernel
noncomputable def F_X12_placeOf (a0 : Nat) (a1 : Int32) (M : m_M) : Option (Int32 × m_M) :=
  m_let (fun (v1 : Nat) (v2 : Int32) (v3 : Int32) (v4 : Int32) (M1 : m_M) =>
    if v4 ≤ 0 then (
      some (v3, M1)
    ) else
    x_cV 10 M1 v1 (F_X12_bent v1 (v4 - (1 : Int32)) v3 v2 M1) fun v5 M2 =>
    some (v5, M2)
  ) fun (k42 : Nat → Int32 → Int32 → Int32 → m_M → Option (Int32 × m_M)) =>
  x_nz (8 : Int32) <|
  m_let (a1 - a1 / (8 : Int32) * (8 : Int32)) fun v6 =>
  x_gN 10 M a0 44 fun v7 =>
  x_aI 12 M v7 v6 fun v8 =>
  x_nz (8 : Int32) <|
  x_nz (4 : Int32) <|
  m_let ((a1 / (8 : Int32)) - (a1 / (8 : Int32)) / (4 : Int32) * (4 : Int32)) fun v9 =>
  x_nz (32 : Int32) <|
  m_let (a1 / (32 : Int32)) fun v10 =>
  if v9 ≤ 0 then (
    k42 a0 v6 v8 v10 M
  ) else
  x_cV 10 M a0 (F_X12_bent a0 (v9 - (1 : Int32)) v8 v6 M) fun v11 M3 =>
  k42 a0 v6 v11 v10 M3
set_option maxHeartbeats 4000000 in
theorem K_X12_placeOf (a0 : Nat) (a1 : Int32) (M : m_M) (Φ : Option Value → m_M → Prop) (h : m_ok e_I Φ (F_X12_placeOf a0 a1 M)) : j_Ct yX12_placeOf cX12_placeOf 6 (some .int) 5 0 0 [.ref a0, .int a1] M Φ := by
  refine j_Ct.of (by decide +kernel) (Nat.le_of_ble_eq_true rfl) fun X C => ?_
  have C0 := C.1
  show j_J X 6 0 [some (.ref a0), some (.int a1), none, none, none, none] [] (0, 0) M
  unfold F_X12_placeOf at h
  refine X_join (fun (kj : Nat → Int32 → Int32 → Int32 → m_M → Option (Int32 × m_M)) => ∀ (p0 : Nat) (p1 : Int32) (p2 : Int32) (p3 : Int32) (M : m_M), m_ok e_I Φ (kj p0 p1 p2 p3 M) → j_J X 6 42 [some (.ref p0), none, some (.int p1), some (.int p2), none, some (.int p3)] [] (0, 0) M) h (fun v1 v2 v3 v4 M1 h => ?_) (fun k42 hk42 h => ?_)
  · refine j_iload C0 (pc := 42) dX12_placeOf_42 rfl ?_
    refine j_if_le C0 (pc := 44) (tgt := 60) dX12_placeOf_44 (by decide) (fun hc => ?_) (fun hc => ?_)
    · replace h := (X_if h).1 hc
      refine j_iload_n C0 (pc := 60) dX12_placeOf_60 rfl ?_
      exact j_iret C rfl h dX12_placeOf_61 (by decide)
    · replace h := (X_if h).2 hc
      refine j_aload_n C0 (pc := 47) dX12_placeOf_47 rfl ?_
      refine j_iload C0 (pc := 48) dX12_placeOf_48 rfl ?_
      refine j_iconst C0 (pc := 50) dX12_placeOf_50 (v := (1 : Int32)) (by decide) ?_
      refine j_isub C0 (pc := 51) dX12_placeOf_51 ?_
      refine j_iload_n C0 (pc := 52) dX12_placeOf_52 rfl ?_
      refine j_iload_n C0 (pc := 53) dX12_placeOf_53 rfl ?_
      refine X_cV C0 (pc := 54) (e' := e_I) (as := [.int (v4 - (1 : Int32)), .int v3, .int v2]) (rest := []) (s' := fun w => .int w :: []) (g' := (0, 0)) v_OM_392_10 (fun Ψ hΨ => K_X12_bent v1 (v4 - (1 : Int32)) v3 v2 M1 Ψ hΨ) rfl rfl (fun _ => rfl) (by decide) (by decide) rfl (Nat.le_of_ble_eq_true rfl) dX12_placeOf_54 h (fun v5 M2 h => ?_)
      refine j_goto C0 (pc := 57) (tgt := 61) dX12_placeOf_57 (by decide) ?_
      exact j_iret C rfl h dX12_placeOf_61 (by decide)
  · refine j_iload_n C0 (pc := 0) dX12_placeOf_0 rfl ?_
    refine j_bipush C0 (pc := 1) dX12_placeOf_1 (v := (8 : Int32)) (by decide) ?_
    refine X_irem C0 (pc := 3) dX12_placeOf_3 h (fun h => ?_)
    refine X_let (G := fun w => j_J X 6 4 [some (.ref a0), some (.int a1), none, none, none, none] (.int w :: []) (0, 0) M) h (fun v6 h => ?_)
    refine j_istore_n C0 (pc := 4) dX12_placeOf_4 (Nat.le_of_ble_eq_true rfl) ?_
    show j_J X 6 5 [some (.ref a0), some (.int a1), some (.int v6), none, none, none] [] (0, 0) M
    refine j_aload_n C0 (pc := 5) dX12_placeOf_5 rfl ?_
    refine X_gN C0 (pc := 6) f_OM_87_10 rfl dX12_placeOf_6 h (fun v7 h => ?_)
    refine j_iload_n C0 (pc := 9) dX12_placeOf_9 rfl ?_
    refine X_iald C0 (pc := 10) dX12_placeOf_10 h (fun v8 h => ?_)
    refine j_istore_n C0 (pc := 11) dX12_placeOf_11 (Nat.le_of_ble_eq_true rfl) ?_
    show j_J X 6 12 [some (.ref a0), some (.int a1), some (.int v6), some (.int v8), none, none] [] (0, 0) M
    refine j_iload_n C0 (pc := 12) dX12_placeOf_12 rfl ?_
    refine j_bipush C0 (pc := 13) dX12_placeOf_13 (v := (8 : Int32)) (by decide) ?_
    refine X_idiv C0 (pc := 15) dX12_placeOf_15 h (fun h => ?_)
    refine j_iconst C0 (pc := 16) dX12_placeOf_16 (v := (4 : Int32)) (by decide) ?_
    refine X_irem C0 (pc := 17) dX12_placeOf_17 h (fun h => ?_)
    refine X_let (G := fun w => j_J X 6 18 [some (.ref a0), some (.int a1), some (.int v6), some (.int v8), none, none] (.int w :: []) (0, 0) M) h (fun v9 h => ?_)
    refine j_istore C0 (pc := 18) dX12_placeOf_18 (Nat.le_of_ble_eq_true rfl) ?_
    show j_J X 6 20 [some (.ref a0), some (.int a1), some (.int v6), some (.int v8), some (.int v9), none] [] (0, 0) M
    refine j_iload_n C0 (pc := 20) dX12_placeOf_20 rfl ?_
    refine j_bipush C0 (pc := 21) dX12_placeOf_21 (v := (32 : Int32)) (by decide) ?_
    refine X_idiv C0 (pc := 23) dX12_placeOf_23 h (fun h => ?_)
    refine X_let (G := fun w => j_J X 6 24 [some (.ref a0), some (.int a1), some (.int v6), some (.int v8), some (.int v9), none] (.int w :: []) (0, 0) M) h (fun v10 h => ?_)
    refine j_istore C0 (pc := 24) dX12_placeOf_24 (Nat.le_of_ble_eq_true rfl) ?_
    show j_J X 6 26 [some (.ref a0), some (.int a1), some (.int v6), some (.int v8), some (.int v9), some (.int v10)] [] (0, 0) M
    refine j_iload C0 (pc := 26) dX12_placeOf_26 rfl ?_
    refine j_if_le C0 (pc := 28) (tgt := 42) dX12_placeOf_28 (by decide) (fun hc => ?_) (fun hc => ?_)
    · replace h := (X_if h).1 hc
      exact j_J.wq (hk42 a0 v6 v8 v10 M h) (And.intro rfl (And.intro rfl (And.intro rfl (And.intro rfl (trivial)))))
    · replace h := (X_if h).2 hc
      refine j_aload_n C0 (pc := 31) dX12_placeOf_31 rfl ?_
      refine j_iload C0 (pc := 32) dX12_placeOf_32 rfl ?_
      refine j_iconst C0 (pc := 34) dX12_placeOf_34 (v := (1 : Int32)) (by decide) ?_
      refine j_isub C0 (pc := 35) dX12_placeOf_35 ?_
      refine j_iload_n C0 (pc := 36) dX12_placeOf_36 rfl ?_
      refine j_iload_n C0 (pc := 37) dX12_placeOf_37 rfl ?_
      refine X_cV C0 (pc := 38) (e' := e_I) (as := [.int (v9 - (1 : Int32)), .int v8, .int v6]) (rest := []) (s' := fun w => .int w :: []) (g' := (0, 0)) v_OM_392_10 (fun Ψ hΨ => K_X12_bent a0 (v9 - (1 : Int32)) v8 v6 M Ψ hΨ) rfl rfl (fun _ => rfl) (by decide) (by decide) rfl (Nat.le_of_ble_eq_true rfl) dX12_placeOf_38 h (fun v11 M3 h => ?_)
      refine j_istore_n C0 (pc := 41) dX12_placeOf_41 (Nat.le_of_ble_eq_true rfl) ?_
      show j_J X 6 42 [some (.ref a0), some (.int a1), some (.int v6), some (.int v11), some (.int v9), some (.int v10)] [] (0, 0) M3
      exact j_J.wq (hk42 a0 v6 v11 v10 M3 h) (And.intro rfl (And.intro rfl (And.intro rfl (And.intro rfl (trivial)))))
theorem dX12_holdsBy_0 : decode cX12_holdsBy 0 = .ok (.iload_n 1, 1) := by decide +kernel
theorem dX12_holdsBy_1 : decode cX12_holdsBy 1 = .ok (.ifCond .ge 5, 3) := by decide +kernel
theorem dX12_holdsBy_4 : decode cX12_holdsBy 4 = .ok (.iconst 0, 1) := by decide +kernel
theorem dX12_holdsBy_5 : decode cX12_holdsBy 5 = .ok (.ireturn, 1) := by decide +kernel
theorem dX12_holdsBy_6 : decode cX12_holdsBy 6 = .ok (.aload_n 0, 1) := by decide +kernel
theorem dX12_holdsBy_7 : decode cX12_holdsBy 7 = .ok (.iload_n 2, 1) := by decide +kernel
theorem dX12_holdsBy_8 : decode cX12_holdsBy 8 = .ok (.invokevirtual 396, 3) := by decide +kernel
theorem dX12_holdsBy_11 : decode cX12_holdsBy 11 = .ok (.istore 4, 2) := by decide +kernel
theorem dX12_holdsBy_13 : decode cX12_holdsBy 13 = .ok (.aload_n 0, 1) := by decide +kernel
theorem dX12_holdsBy_14 : decode cX12_holdsBy 14 = .ok (.iload_n 3, 1) := by decide +kernel
theorem dX12_holdsBy_15 : decode cX12_holdsBy 15 = .ok (.invokevirtual 396, 3) := by decide +kernel
theorem dX12_holdsBy_18 : decode cX12_holdsBy 18 = .ok (.istore 5, 2) := by decide +kernel
theorem dX12_holdsBy_20 : decode cX12_holdsBy 20 = .ok (.aload_n 0, 1) := by decide +kernel
theorem dX12_holdsBy_21 : decode cX12_holdsBy 21 = .ok (.getfield 81, 3) := by decide +kernel
theorem dX12_holdsBy_24 : decode cX12_holdsBy 24 = .ok (.iconst 1, 1) := by decide +kernel
theorem dX12_holdsBy_25 : decode cX12_holdsBy 25 = .ok (.iload 4, 2) := by decide +kernel
theorem dX12_holdsBy_27 : decode cX12_holdsBy 27 = .ok (.iastore, 1) := by decide +kernel
theorem dX12_holdsBy_28 : decode cX12_holdsBy 28 = .ok (.aload_n 0, 1) := by decide +kernel
theorem dX12_holdsBy_29 : decode cX12_holdsBy 29 = .ok (.getfield 81, 3) := by decide +kernel
theorem dX12_holdsBy_32 : decode cX12_holdsBy 32 = .ok (.iconst 2, 1) := by decide +kernel
theorem dX12_holdsBy_33 : decode cX12_holdsBy 33 = .ok (.iload 5, 2) := by decide +kernel
theorem dX12_holdsBy_35 : decode cX12_holdsBy 35 = .ok (.iastore, 1) := by decide +kernel
theorem dX12_holdsBy_36 : decode cX12_holdsBy 36 = .ok (.aload_n 0, 1) := by decide +kernel
theorem dX12_holdsBy_37 : decode cX12_holdsBy 37 = .ok (.getfield 81, 3) := by decide +kernel
theorem dX12_holdsBy_40 : decode cX12_holdsBy 40 = .ok (.iconst 3, 1) := by decide +kernel
theorem dX12_holdsBy_41 : decode cX12_holdsBy 41 = .ok (.aload_n 0, 1) := by decide +kernel
theorem dX12_holdsBy_42 : decode cX12_holdsBy 42 = .ok (.getfield 29, 3) := by decide +kernel
theorem dX12_holdsBy_45 : decode cX12_holdsBy 45 = .ok (.iload_n 2, 1) := by decide +kernel
theorem dX12_holdsBy_46 : decode cX12_holdsBy 46 = .ok (.bipush 8, 2) := by decide +kernel
theorem dX12_holdsBy_48 : decode cX12_holdsBy 48 = .ok (.irem, 1) := by decide +kernel
theorem dX12_holdsBy_49 : decode cX12_holdsBy 49 = .ok (.iaload, 1) := by decide +kernel
theorem dX12_holdsBy_50 : decode cX12_holdsBy 50 = .ok (.iastore, 1) := by decide +kernel
theorem dX12_holdsBy_51 : decode cX12_holdsBy 51 = .ok (.aload_n 0, 1) := by decide +kernel
theorem dX12_holdsBy_52 : decode cX12_holdsBy 52 = .ok (.getfield 81, 3) := by decide +kernel
theorem dX12_holdsBy_55 : decode cX12_holdsBy 55 = .ok (.iconst 4, 1) := by decide +kernel
theorem dX12_holdsBy_56 : decode cX12_holdsBy 56 = .ok (.aload_n 0, 1) := by decide +kernel
theorem dX12_holdsBy_57 : decode cX12_holdsBy 57 = .ok (.getfield 29, 3) := by decide +kernel
theorem dX12_holdsBy_60 : decode cX12_holdsBy 60 = .ok (.iload_n 3, 1) := by decide +kernel
theorem dX12_holdsBy_61 : decode cX12_holdsBy 61 = .ok (.bipush 8, 2) := by decide +kernel
theorem dX12_holdsBy_63 : decode cX12_holdsBy 63 = .ok (.irem, 1) := by decide +kernel
theorem dX12_holdsBy_64 : decode cX12_holdsBy 64 = .ok (.iaload, 1) := by decide +kernel
theorem dX12_holdsBy_65 : decode cX12_holdsBy 65 = .ok (.iastore, 1) := by decide +kernel
theorem dX12_holdsBy_66 : decode cX12_holdsBy 66 = .ok (.aload_n 0, 1) := by decide +kernel
theorem dX12_holdsBy_67 : decode cX12_holdsBy 67 = .ok (.getfield 81, 3) := by decide +kernel
theorem dX12_holdsBy_70 : decode cX12_holdsBy 70 = .ok (.iconst 5, 1) := by decide +kernel
theorem dX12_holdsBy_71 : decode cX12_holdsBy 71 = .ok (.iload_n 2, 1) := by decide +kernel
theorem dX12_holdsBy_72 : decode cX12_holdsBy 72 = .ok (.bipush 8, 2) := by decide +kernel
theorem dX12_holdsBy_74 : decode cX12_holdsBy 74 = .ok (.irem, 1) := by decide +kernel
theorem dX12_holdsBy_75 : decode cX12_holdsBy 75 = .ok (.iload_n 3, 1) := by decide +kernel
theorem dX12_holdsBy_76 : decode cX12_holdsBy 76 = .ok (.bipush 8, 2) := by decide +kernel
theorem dX12_holdsBy_78 : decode cX12_holdsBy 78 = .ok (.irem, 1) := by decide +kernel
theorem dX12_holdsBy_79 : decode cX12_holdsBy 79 = .ok (.if_icmp .ne 7, 3) := by decide +kernel
theorem dX12_holdsBy_82 : decode cX12_holdsBy 82 = .ok (.iconst 1, 1) := by decide +kernel
theorem dX12_holdsBy_83 : decode cX12_holdsBy 83 = .ok (.goto 4, 3) := by decide +kernel
theorem dX12_holdsBy_86 : decode cX12_holdsBy 86 = .ok (.iconst 0, 1) := by decide +kernel
theorem dX12_holdsBy_87 : decode cX12_holdsBy 87 = .ok (.iastore, 1) := by decide +kernel
theorem dX12_holdsBy_88 : decode cX12_holdsBy 88 = .ok (.aload_n 0, 1) := by decide +kernel
theorem dX12_holdsBy_89 : decode cX12_holdsBy 89 = .ok (.iconst 3, 1) := by decide +kernel
theorem dX12_holdsBy_90 : decode cX12_holdsBy 90 = .ok (.iload_n 1, 1) := by decide +kernel
theorem dX12_holdsBy_91 : decode cX12_holdsBy 91 = .ok (.iadd, 1) := by decide +kernel
theorem dX12_holdsBy_92 : decode cX12_holdsBy 92 = .ok (.invokevirtual 389, 3) := by decide +kernel
theorem dX12_holdsBy_95 : decode cX12_holdsBy 95 = .ok (.ifCond .eq 7, 3) := by decide +kernel
theorem dX12_holdsBy_98 : decode cX12_holdsBy 98 = .ok (.iconst 1, 1) := by decide +kernel
theorem dX12_holdsBy_99 : decode cX12_holdsBy 99 = .ok (.goto 4, 3) := by decide +kernel
theorem dX12_holdsBy_102 : decode cX12_holdsBy 102 = .ok (.iconst 0, 1) := by decide +kernel
theorem dX12_holdsBy_103 : decode cX12_holdsBy 103 = .ok (.ireturn, 1) := by decide +kernel
noncomputable def F_X12_holdsBy (a0 : Nat) (a1 : Int32) (a2 : Int32) (a3 : Int32) (M : m_M) : Option (Int32 × m_M) :=
  if 0 ≤ a1 then (
    m_let (fun (v1 : Nat) (v2 : Int32) (v3 : Nat) (v4 : Int32) (v5 : Int32) (M1 : m_M) =>
      x_sI 12 M1 v3 v4 v5 fun M2 =>
      x_cV 10 M2 v1 (F_X12_worked v1 ((3 : Int32) + v2) M2) fun v6 M3 =>
      if v6 = 0 then (
        some ((0 : Int32), M3)
      ) else
      some ((1 : Int32), M3)
    ) fun (k87 : Nat → Int32 → Nat → Int32 → Int32 → m_M → Option (Int32 × m_M)) =>
    x_cV 10 M a0 (F_X12_placeOf a0 a2 M) fun v7 M4 =>
    x_cV 10 M4 a0 (F_X12_placeOf a0 a3 M4) fun v8 M5 =>
    x_gN 10 M5 a0 36 fun v9 =>
    x_sI 12 M5 v9 (1 : Int32) v7 fun M6 =>
    x_gN 10 M6 a0 36 fun v10 =>
    x_sI 12 M6 v10 (2 : Int32) v8 fun M7 =>
    x_gN 10 M7 a0 36 fun v11 =>
    x_gN 10 M7 a0 15 fun v12 =>
    x_nz (8 : Int32) <|
    x_aI 12 M7 v12 (a2 - a2 / (8 : Int32) * (8 : Int32)) fun v13 =>
    x_sI 12 M7 v11 (3 : Int32) v13 fun M8 =>
    x_gN 10 M8 a0 36 fun v14 =>
    x_gN 10 M8 a0 15 fun v15 =>
    x_nz (8 : Int32) <|
    x_aI 12 M8 v15 (a3 - a3 / (8 : Int32) * (8 : Int32)) fun v16 =>
    x_sI 12 M8 v14 (4 : Int32) v16 fun M9 =>
    x_gN 10 M9 a0 36 fun v17 =>
    x_nz (8 : Int32) <|
    x_nz (8 : Int32) <|
    if (a2 - a2 / (8 : Int32) * (8 : Int32)) = (a3 - a3 / (8 : Int32) * (8 : Int32)) then (
      k87 a0 a1 v17 (5 : Int32) (1 : Int32) M9
    ) else
    k87 a0 a1 v17 (5 : Int32) (0 : Int32) M9
  ) else
  some ((0 : Int32), M)
set_option maxHeartbeats 4000000 in
theorem K_X12_holdsBy (a0 : Nat) (a1 : Int32) (a2 : Int32) (a3 : Int32) (M : m_M) (Φ : Option Value → m_M → Prop) (h : m_ok e_I Φ (F_X12_holdsBy a0 a1 a2 a3 M)) : j_Ct yX12_holdsBy cX12_holdsBy 6 (some .boolean) 6 0 0 [.ref a0, .int a1, .int a2, .int a3] M Φ := by
  refine j_Ct.of (by decide +kernel) (Nat.le_of_ble_eq_true rfl) fun X C => ?_
  have C0 := C.1
  show j_J X 6 0 [some (.ref a0), some (.int a1), some (.int a2), some (.int a3), none, none] [] (0, 0) M
  unfold F_X12_holdsBy at h
  refine j_iload_n C0 (pc := 0) dX12_holdsBy_0 rfl ?_
  refine j_if_ge C0 (pc := 1) (tgt := 6) dX12_holdsBy_1 (by decide) (fun hc => ?_) (fun hc => ?_)
  · replace h := (X_if h).1 hc
    refine X_join (fun (kj : Nat → Int32 → Nat → Int32 → Int32 → m_M → Option (Int32 × m_M)) => ∀ (p0 : Nat) (p1 : Int32) (p2 : Nat) (p3 : Int32) (p4 : Int32) (M : m_M), m_ok e_I Φ (kj p0 p1 p2 p3 p4 M) → j_J X 6 87 [some (.ref p0), some (.int p1), none, none, none, none] [.int p4, .int p3, .ref p2] (0, 0) M) h (fun v1 v2 v3 v4 v5 M1 h => ?_) (fun k87 hk87 h => ?_)
    · refine X_iast C0 (pc := 87) dX12_holdsBy_87 h (fun M2 h => ?_)
      refine j_aload_n C0 (pc := 88) dX12_holdsBy_88 rfl ?_
      refine j_iconst C0 (pc := 89) dX12_holdsBy_89 (v := (3 : Int32)) (by decide) ?_
      refine j_iload_n C0 (pc := 90) dX12_holdsBy_90 rfl ?_
      refine j_iadd C0 (pc := 91) dX12_holdsBy_91 ?_
      refine X_cV C0 (pc := 92) (e' := e_I) (as := [.int ((3 : Int32) + v2)]) (rest := []) (s' := fun w => .int w :: []) (g' := (0, 0)) v_OM_389_10 (fun Ψ hΨ => K_X12_worked v1 ((3 : Int32) + v2) M2 Ψ hΨ) rfl rfl (fun _ => rfl) (by decide) (by decide) rfl (Nat.le_of_ble_eq_true rfl) dX12_holdsBy_92 h (fun v6 M3 h => ?_)
      refine j_if_eq C0 (pc := 95) (tgt := 102) dX12_holdsBy_95 (by decide) (fun hc => ?_) (fun hc => ?_)
      · replace h := (X_if h).1 hc
        refine j_iconst C0 (pc := 102) dX12_holdsBy_102 (v := (0 : Int32)) (by decide) ?_
        exact j_zret C rfl (by decide) h dX12_holdsBy_103 (by decide)
      · replace h := (X_if h).2 hc
        refine j_iconst C0 (pc := 98) dX12_holdsBy_98 (v := (1 : Int32)) (by decide) ?_
        refine j_goto C0 (pc := 99) (tgt := 103) dX12_holdsBy_99 (by decide) ?_
        exact j_zret C rfl (by decide) h dX12_holdsBy_103 (by decide)
    · refine j_aload_n C0 (pc := 6) dX12_holdsBy_6 rfl ?_
      refine j_iload_n C0 (pc := 7) dX12_holdsBy_7 rfl ?_
      refine X_cV C0 (pc := 8) (e' := e_I) (as := [.int a2]) (rest := []) (s' := fun w => .int w :: []) (g' := (0, 0)) v_OM_396_10 (fun Ψ hΨ => K_X12_placeOf a0 a2 M Ψ hΨ) rfl rfl (fun _ => rfl) (by decide) (by decide) rfl (Nat.le_of_ble_eq_true rfl) dX12_holdsBy_8 h (fun v7 M4 h => ?_)
      refine j_istore C0 (pc := 11) dX12_holdsBy_11 (Nat.le_of_ble_eq_true rfl) ?_
      show j_J X 6 13 [some (.ref a0), some (.int a1), some (.int a2), some (.int a3), some (.int v7), none] [] (0, 0) M4
      refine j_aload_n C0 (pc := 13) dX12_holdsBy_13 rfl ?_
      refine j_iload_n C0 (pc := 14) dX12_holdsBy_14 rfl ?_
      refine X_cV C0 (pc := 15) (e' := e_I) (as := [.int a3]) (rest := []) (s' := fun w => .int w :: []) (g' := (0, 0)) v_OM_396_10 (fun Ψ hΨ => K_X12_placeOf a0 a3 M4 Ψ hΨ) rfl rfl (fun _ => rfl) (by decide) (by decide) rfl (Nat.le_of_ble_eq_true rfl) dX12_holdsBy_15 h (fun v8 M5 h => ?_)
      refine j_istore C0 (pc := 18) dX12_holdsBy_18 (Nat.le_of_ble_eq_true rfl) ?_
      show j_J X 6 20 [some (.ref a0), some (.int a1), some (.int a2), some (.int a3), some (.int v7), some (.int v8)] [] (0, 0) M5
      refine j_aload_n C0 (pc := 20) dX12_holdsBy_20 rfl ?_
      refine X_gN C0 (pc := 21) f_OM_81_10 rfl dX12_holdsBy_21 h (fun v9 h => ?_)
      refine j_iconst C0 (pc := 24) dX12_holdsBy_24 (v := (1 : Int32)) (by decide) ?_
      refine j_iload C0 (pc := 25) dX12_holdsBy_25 rfl ?_
      refine X_iast C0 (pc := 27) dX12_holdsBy_27 h (fun M6 h => ?_)
      refine j_aload_n C0 (pc := 28) dX12_holdsBy_28 rfl ?_
      refine X_gN C0 (pc := 29) f_OM_81_10 rfl dX12_holdsBy_29 h (fun v10 h => ?_)
      refine j_iconst C0 (pc := 32) dX12_holdsBy_32 (v := (2 : Int32)) (by decide) ?_
      refine j_iload C0 (pc := 33) dX12_holdsBy_33 rfl ?_
      refine X_iast C0 (pc := 35) dX12_holdsBy_35 h (fun M7 h => ?_)
      refine j_aload_n C0 (pc := 36) dX12_holdsBy_36 rfl ?_
      refine X_gN C0 (pc := 37) f_OM_81_10 rfl dX12_holdsBy_37 h (fun v11 h => ?_)
      refine j_iconst C0 (pc := 40) dX12_holdsBy_40 (v := (3 : Int32)) (by decide) ?_
      refine j_aload_n C0 (pc := 41) dX12_holdsBy_41 rfl ?_
      refine X_gN C0 (pc := 42) f_OM_29_10 rfl dX12_holdsBy_42 h (fun v12 h => ?_)
      refine j_iload_n C0 (pc := 45) dX12_holdsBy_45 rfl ?_
      refine j_bipush C0 (pc := 46) dX12_holdsBy_46 (v := (8 : Int32)) (by decide) ?_
      refine X_irem C0 (pc := 48) dX12_holdsBy_48 h (fun h => ?_)
      refine X_iald C0 (pc := 49) dX12_holdsBy_49 h (fun v13 h => ?_)
      refine X_iast C0 (pc := 50) dX12_holdsBy_50 h (fun M8 h => ?_)
      refine j_aload_n C0 (pc := 51) dX12_holdsBy_51 rfl ?_
      refine X_gN C0 (pc := 52) f_OM_81_10 rfl dX12_holdsBy_52 h (fun v14 h => ?_)
      refine j_iconst C0 (pc := 55) dX12_holdsBy_55 (v := (4 : Int32)) (by decide) ?_
      refine j_aload_n C0 (pc := 56) dX12_holdsBy_56 rfl ?_
      refine X_gN C0 (pc := 57) f_OM_29_10 rfl dX12_holdsBy_57 h (fun v15 h => ?_)
      refine j_iload_n C0 (pc := 60) dX12_holdsBy_60 rfl ?_
      refine j_bipush C0 (pc := 61) dX12_holdsBy_61 (v := (8 : Int32)) (by decide) ?_
      refine X_irem C0 (pc := 63) dX12_holdsBy_63 h (fun h => ?_)
      refine X_iald C0 (pc := 64) dX12_holdsBy_64 h (fun v16 h => ?_)
      refine X_iast C0 (pc := 65) dX12_holdsBy_65 h (fun M9 h => ?_)
      refine j_aload_n C0 (pc := 66) dX12_holdsBy_66 rfl ?_
      refine X_gN C0 (pc := 67) f_OM_81_10 rfl dX12_holdsBy_67 h (fun v17 h => ?_)
      refine j_iconst C0 (pc := 70) dX12_holdsBy_70 (v := (5 : Int32)) (by decide) ?_
      refine j_iload_n C0 (pc := 71) dX12_holdsBy_71 rfl ?_
      refine j_bipush C0 (pc := 72) dX12_holdsBy_72 (v := (8 : Int32)) (by decide) ?_
      refine X_irem C0 (pc := 74) dX12_holdsBy_74 h (fun h => ?_)
      refine j_iload_n C0 (pc := 75) dX12_holdsBy_75 rfl ?_
      refine j_bipush C0 (pc := 76) dX12_holdsBy_76 (v := (8 : Int32)) (by decide) ?_
      refine X_irem C0 (pc := 78) dX12_holdsBy_78 h (fun h => ?_)
      refine j_icmp_ne C0 (pc := 79) (tgt := 86) dX12_holdsBy_79 (by decide) (fun hc => ?_) (fun hc => ?_)
      · replace h := (X_if h).2 hc
        refine j_iconst C0 (pc := 86) dX12_holdsBy_86 (v := (0 : Int32)) (by decide) ?_
        exact j_J.wq (hk87 a0 a1 v17 (5 : Int32) (0 : Int32) M9 h) (And.intro rfl (And.intro rfl (trivial)))
      · replace h := (X_if h).1 hc
        refine j_iconst C0 (pc := 82) dX12_holdsBy_82 (v := (1 : Int32)) (by decide) ?_
        refine j_goto C0 (pc := 83) (tgt := 87) dX12_holdsBy_83 (by decide) ?_
        exact j_J.wq (hk87 a0 a1 v17 (5 : Int32) (1 : Int32) M9 h) (And.intro rfl (And.intro rfl (trivial)))
  · replace h := (X_if h).2 hc
    refine j_iconst C0 (pc := 4) dX12_holdsBy_4 (v := (0 : Int32)) (by decide) ?_
    exact j_zret C rfl (by decide) h dX12_holdsBy_5 (by decide)
theorem dX12_means_0 : decode cX12_means 0 = .ok (.iconst 0, 1) := by decide +kernel
theorem dX12_means_1 : decode cX12_means 1 = .ok (.istore_n 2, 1) := by decide +kernel
theorem dX12_means_2 : decode cX12_means 2 = .ok (.iconst 0, 1) := by decide +kernel
theorem dX12_means_3 : decode cX12_means 3 = .ok (.istore_n 3, 1) := by decide +kernel
theorem dX12_means_4 : decode cX12_means 4 = .ok (.iload_n 3, 1) := by decide +kernel
theorem dX12_means_5 : decode cX12_means 5 = .ok (.aload_n 0, 1) := by decide +kernel
theorem dX12_means_6 : decode cX12_means 6 = .ok (.getfield 356, 3) := by decide +kernel
theorem dX12_means_9 : decode cX12_means 9 = .ok (.if_icmp .ge 160, 3) := by decide +kernel
theorem dX12_means_12 : decode cX12_means 12 = .ok (.aload_n 0, 1) := by decide +kernel
theorem dX12_means_13 : decode cX12_means 13 = .ok (.getfield 84, 3) := by decide +kernel
theorem dX12_means_16 : decode cX12_means 16 = .ok (.iload_n 3, 1) := by decide +kernel
theorem dX12_means_17 : decode cX12_means 17 = .ok (.iaload, 1) := by decide +kernel
theorem dX12_means_18 : decode cX12_means 18 = .ok (.istore 4, 2) := by decide +kernel
theorem dX12_means_20 : decode cX12_means 20 = .ok (.iload 4, 2) := by decide +kernel
theorem dX12_means_22 : decode cX12_means 22 = .ok (.ifCond .ne 30, 3) := by decide +kernel
theorem dX12_means_25 : decode cX12_means 25 = .ok (.aload_n 0, 1) := by decide +kernel
theorem dX12_means_26 : decode cX12_means 26 = .ok (.getfield 90, 3) := by decide +kernel
theorem dX12_means_29 : decode cX12_means 29 = .ok (.iload_n 2, 1) := by decide +kernel
theorem dX12_means_30 : decode cX12_means 30 = .ok (.iconst 1, 1) := by decide +kernel
theorem dX12_means_31 : decode cX12_means 31 = .ok (.isub, 1) := by decide +kernel
theorem dX12_means_32 : decode cX12_means 32 = .ok (.aload_n 0, 1) := by decide +kernel
theorem dX12_means_33 : decode cX12_means 33 = .ok (.getfield 90, 3) := by decide +kernel
theorem dX12_means_36 : decode cX12_means 36 = .ok (.iload_n 2, 1) := by decide +kernel
theorem dX12_means_37 : decode cX12_means 37 = .ok (.iconst 1, 1) := by decide +kernel
theorem dX12_means_38 : decode cX12_means 38 = .ok (.isub, 1) := by decide +kernel
theorem dX12_means_39 : decode cX12_means 39 = .ok (.baload, 1) := by decide +kernel
theorem dX12_means_40 : decode cX12_means 40 = .ok (.ifCond .ne 7, 3) := by decide +kernel
theorem dX12_means_43 : decode cX12_means 43 = .ok (.iconst 1, 1) := by decide +kernel
theorem dX12_means_44 : decode cX12_means 44 = .ok (.goto 4, 3) := by decide +kernel
theorem dX12_means_47 : decode cX12_means 47 = .ok (.iconst 0, 1) := by decide +kernel
theorem dX12_means_48 : decode cX12_means 48 = .ok (.bastore, 1) := by decide +kernel
theorem dX12_means_49 : decode cX12_means 49 = .ok (.goto 114, 3) := by decide +kernel
theorem dX12_means_52 : decode cX12_means 52 = .ok (.iload 4, 2) := by decide +kernel
theorem dX12_means_54 : decode cX12_means 54 = .ok (.iconst 3, 1) := by decide +kernel
theorem dX12_means_55 : decode cX12_means 55 = .ok (.if_icmp .ge 76, 3) := by decide +kernel
theorem dX12_means_58 : decode cX12_means 58 = .ok (.iinc 2 (-1), 3) := by decide +kernel
theorem dX12_means_61 : decode cX12_means 61 = .ok (.aload_n 0, 1) := by decide +kernel
theorem dX12_means_62 : decode cX12_means 62 = .ok (.getfield 90, 3) := by decide +kernel
theorem dX12_means_65 : decode cX12_means 65 = .ok (.iload_n 2, 1) := by decide +kernel
theorem dX12_means_66 : decode cX12_means 66 = .ok (.iconst 1, 1) := by decide +kernel
theorem dX12_means_67 : decode cX12_means 67 = .ok (.isub, 1) := by decide +kernel
theorem dX12_means_68 : decode cX12_means 68 = .ok (.iload 4, 2) := by decide +kernel
theorem dX12_means_70 : decode cX12_means 70 = .ok (.iconst 1, 1) := by decide +kernel
theorem dX12_means_71 : decode cX12_means 71 = .ok (.if_icmp .ne 31, 3) := by decide +kernel
theorem dX12_means_74 : decode cX12_means 74 = .ok (.aload_n 0, 1) := by decide +kernel
theorem dX12_means_75 : decode cX12_means 75 = .ok (.getfield 90, 3) := by decide +kernel
theorem dX12_means_78 : decode cX12_means 78 = .ok (.iload_n 2, 1) := by decide +kernel
theorem dX12_means_79 : decode cX12_means 79 = .ok (.iconst 1, 1) := by decide +kernel
theorem dX12_means_80 : decode cX12_means 80 = .ok (.isub, 1) := by decide +kernel
theorem dX12_means_81 : decode cX12_means 81 = .ok (.baload, 1) := by decide +kernel
theorem dX12_means_82 : decode cX12_means 82 = .ok (.ifCond .eq 16, 3) := by decide +kernel
theorem dX12_means_85 : decode cX12_means 85 = .ok (.aload_n 0, 1) := by decide +kernel
theorem dX12_means_86 : decode cX12_means 86 = .ok (.getfield 90, 3) := by decide +kernel
theorem dX12_means_89 : decode cX12_means 89 = .ok (.iload_n 2, 1) := by decide +kernel
theorem dX12_means_90 : decode cX12_means 90 = .ok (.baload, 1) := by decide +kernel
theorem dX12_means_91 : decode cX12_means 91 = .ok (.ifCond .eq 7, 3) := by decide +kernel
theorem dX12_means_94 : decode cX12_means 94 = .ok (.iconst 1, 1) := by decide +kernel
theorem dX12_means_95 : decode cX12_means 95 = .ok (.goto 32, 3) := by decide +kernel
theorem dX12_means_98 : decode cX12_means 98 = .ok (.iconst 0, 1) := by decide +kernel
theorem dX12_means_99 : decode cX12_means 99 = .ok (.goto 28, 3) := by decide +kernel
theorem dX12_means_102 : decode cX12_means 102 = .ok (.aload_n 0, 1) := by decide +kernel
theorem dX12_means_103 : decode cX12_means 103 = .ok (.getfield 90, 3) := by decide +kernel
theorem dX12_means_106 : decode cX12_means 106 = .ok (.iload_n 2, 1) := by decide +kernel
theorem dX12_means_107 : decode cX12_means 107 = .ok (.iconst 1, 1) := by decide +kernel
theorem dX12_means_108 : decode cX12_means 108 = .ok (.isub, 1) := by decide +kernel
theorem dX12_means_109 : decode cX12_means 109 = .ok (.baload, 1) := by decide +kernel
theorem dX12_means_110 : decode cX12_means 110 = .ok (.ifCond .ne 12, 3) := by decide +kernel
theorem dX12_means_113 : decode cX12_means 113 = .ok (.aload_n 0, 1) := by decide +kernel
theorem dX12_means_114 : decode cX12_means 114 = .ok (.getfield 90, 3) := by decide +kernel
theorem dX12_means_117 : decode cX12_means 117 = .ok (.iload_n 2, 1) := by decide +kernel
theorem dX12_means_118 : decode cX12_means 118 = .ok (.baload, 1) := by decide +kernel
theorem dX12_means_119 : decode cX12_means 119 = .ok (.ifCond .eq 7, 3) := by decide +kernel
theorem dX12_means_122 : decode cX12_means 122 = .ok (.iconst 1, 1) := by decide +kernel
theorem dX12_means_123 : decode cX12_means 123 = .ok (.goto 4, 3) := by decide +kernel
theorem dX12_means_126 : decode cX12_means 126 = .ok (.iconst 0, 1) := by decide +kernel
theorem dX12_means_127 : decode cX12_means 127 = .ok (.bastore, 1) := by decide +kernel
theorem dX12_means_128 : decode cX12_means 128 = .ok (.goto 35, 3) := by decide +kernel
theorem dX12_means_131 : decode cX12_means 131 = .ok (.aload_n 0, 1) := by decide +kernel
theorem dX12_means_132 : decode cX12_means 132 = .ok (.getfield 90, 3) := by decide +kernel
theorem dX12_means_135 : decode cX12_means 135 = .ok (.iload_n 2, 1) := by decide +kernel
theorem dX12_means_136 : decode cX12_means 136 = .ok (.aload_n 0, 1) := by decide +kernel
theorem dX12_means_137 : decode cX12_means 137 = .ok (.iload_n 1, 1) := by decide +kernel
theorem dX12_means_138 : decode cX12_means 138 = .ok (.iload 4, 2) := by decide +kernel
theorem dX12_means_140 : decode cX12_means 140 = .ok (.bipush 100, 2) := by decide +kernel
theorem dX12_means_142 : decode cX12_means 142 = .ok (.isub, 1) := by decide +kernel
theorem dX12_means_143 : decode cX12_means 143 = .ok (.sipush 128, 3) := by decide +kernel
theorem dX12_means_146 : decode cX12_means 146 = .ok (.idiv, 1) := by decide +kernel
theorem dX12_means_147 : decode cX12_means 147 = .ok (.iload 4, 2) := by decide +kernel
theorem dX12_means_149 : decode cX12_means 149 = .ok (.bipush 100, 2) := by decide +kernel
theorem dX12_means_151 : decode cX12_means 151 = .ok (.isub, 1) := by decide +kernel
theorem dX12_means_152 : decode cX12_means 152 = .ok (.sipush 128, 3) := by decide +kernel
theorem dX12_means_155 : decode cX12_means 155 = .ok (.irem, 1) := by decide +kernel
theorem dX12_means_156 : decode cX12_means 156 = .ok (.invokevirtual 399, 3) := by decide +kernel
theorem dX12_means_159 : decode cX12_means 159 = .ok (.bastore, 1) := by decide +kernel
theorem dX12_means_160 : decode cX12_means 160 = .ok (.iinc 2 1, 3) := by decide +kernel
theorem dX12_means_163 : decode cX12_means 163 = .ok (.iinc 3 1, 3) := by decide +kernel
theorem dX12_means_166 : decode cX12_means 166 = .ok (.goto (-162), 3) := by decide +kernel
theorem dX12_means_169 : decode cX12_means 169 = .ok (.aload_n 0, 1) := by decide +kernel
theorem dX12_means_170 : decode cX12_means 170 = .ok (.getfield 90, 3) := by decide +kernel
theorem dX12_means_173 : decode cX12_means 173 = .ok (.iconst 0, 1) := by decide +kernel
theorem dX12_means_174 : decode cX12_means 174 = .ok (.baload, 1) := by decide +kernel
theorem dX12_means_175 : decode cX12_means 175 = .ok (.ireturn, 1) := by decide +kernel
noncomputable def F_X12_means_4 (k169 : Nat → m_M → Option (Int32 × m_M)) : Nat → Nat → Int32 → Int32 → Int32 → m_M → Option (Int32 × m_M)
  | 0, _, _, _, _, _ => none
  | n + 1, v1, v2, v3, v4, M =>
    x_gI 10 M v1 39 fun v5 =>
    if v5 ≤ v4 then (
      k169 v1 M
    ) else
    m_let (fun (v6 : Nat) (v7 : Int32) (v8 : Int32) (v9 : Int32) (M1 : m_M) =>
      m_let (v9 + (1 : Int32)) fun v10 =>
      F_X12_means_4 k169 n v6 v7 v8 v10 M1
    ) fun (k163 : Nat → Int32 → Int32 → Int32 → m_M → Option (Int32 × m_M)) =>
    x_gN 10 M v1 38 fun v11 =>
    x_aI 12 M v11 v4 fun v12 =>
    if v12 = 0 then (
      m_let (fun (v45 : Nat) (v46 : Int32) (v47 : Int32) (v48 : Int32) (v49 : Nat) (v50 : Int32) (v51 : Int32) (M8 : m_M) =>
        x_sI 14 M8 v49 v50 (vp_nar .boolean v51) fun M9 =>
        k163 v45 v46 v47 v48 M9
      ) fun (k48 : Nat → Int32 → Int32 → Int32 → Nat → Int32 → Int32 → m_M → Option (Int32 × m_M)) =>
      x_gN 10 M v1 45 fun v52 =>
      x_gN 10 M v1 45 fun v53 =>
      x_aI 14 M v53 (v3 - (1 : Int32)) fun v54 =>
      if v54 = 0 then (
        k48 v1 v2 v3 v4 v52 (v3 - (1 : Int32)) (1 : Int32) M
      ) else
      k48 v1 v2 v3 v4 v52 (v3 - (1 : Int32)) (0 : Int32) M
    ) else
    if (3 : Int32) ≤ v12 then (
      x_gN 10 M v1 45 fun v13 =>
      x_nz (128 : Int32) <|
      x_nz (128 : Int32) <|
      x_cV 10 M v1 (F_X12_holdsBy v1 v2 ((v12 - (100 : Int32)) / (128 : Int32)) ((v12 - (100 : Int32)) - (v12 - (100 : Int32)) / (128 : Int32) * (128 : Int32)) M) fun v14 M2 =>
      x_sI 14 M2 v13 v3 (vp_nar .boolean v14) fun M3 =>
      m_let (v3 + (1 : Int32)) fun v15 =>
      k163 v1 v2 v15 v4 M3
    ) else
    m_let (fun (v16 : Nat) (v17 : Int32) (v18 : Int32) (v19 : Int32) (v20 : Nat) (v21 : Int32) (v22 : Int32) (M4 : m_M) =>
      x_sI 14 M4 v20 v21 (vp_nar .boolean v22) fun M5 =>
      k163 v16 v17 v18 v19 M5
    ) fun (k127 : Nat → Int32 → Int32 → Int32 → Nat → Int32 → Int32 → m_M → Option (Int32 × m_M)) =>
    m_let (v3 + (-1 : Int32)) fun v23 =>
    x_gN 10 M v1 45 fun v24 =>
    if v12 = (1 : Int32) then (
      m_let (fun (v35 : Nat) (v36 : Int32) (v37 : Int32) (v38 : Int32) (v39 : Nat) (v40 : Int32) (M7 : m_M) =>
        k127 v35 v36 v37 v38 v39 v40 (0 : Int32) M7
      ) fun (k98 : Nat → Int32 → Int32 → Int32 → Nat → Int32 → m_M → Option (Int32 × m_M)) =>
      x_gN 10 M v1 45 fun v41 =>
      x_aI 14 M v41 (v23 - (1 : Int32)) fun v42 =>
      if v42 = 0 then (
        k98 v1 v2 v23 v4 v24 (v23 - (1 : Int32)) M
      ) else
      x_gN 10 M v1 45 fun v43 =>
      x_aI 14 M v43 v23 fun v44 =>
      if v44 = 0 then (
        k98 v1 v2 v23 v4 v24 (v23 - (1 : Int32)) M
      ) else
      k127 v1 v2 v23 v4 v24 (v23 - (1 : Int32)) (1 : Int32) M
    ) else
    m_let (fun (v25 : Nat) (v26 : Int32) (v27 : Int32) (v28 : Int32) (v29 : Nat) (v30 : Int32) (M6 : m_M) =>
      k127 v25 v26 v27 v28 v29 v30 (1 : Int32) M6
    ) fun (k122 : Nat → Int32 → Int32 → Int32 → Nat → Int32 → m_M → Option (Int32 × m_M)) =>
    x_gN 10 M v1 45 fun v31 =>
    x_aI 14 M v31 (v23 - (1 : Int32)) fun v32 =>
    if v32 = 0 then (
      x_gN 10 M v1 45 fun v33 =>
      x_aI 14 M v33 v23 fun v34 =>
      if v34 = 0 then (
        k127 v1 v2 v23 v4 v24 (v23 - (1 : Int32)) (0 : Int32) M
      ) else
      k122 v1 v2 v23 v4 v24 (v23 - (1 : Int32)) M
    ) else
    k122 v1 v2 v23 v4 v24 (v23 - (1 : Int32)) M
noncomputable def F_X12_means (a0 : Nat) (a1 : Int32) (M : m_M) : Option (Int32 × m_M) :=
  m_let (fun (v1 : Nat) (M1 : m_M) =>
    x_gN 10 M1 v1 45 fun v2 =>
    x_aI 14 M1 v2 (0 : Int32) fun v3 =>
    x_b v3 <| some (v3, M1)
  ) fun (k169 : Nat → m_M → Option (Int32 × m_M)) =>
  F_X12_means_4 k169 m_FU a0 a1 (0 : Int32) (0 : Int32) M
set_option maxHeartbeats 4000000 in
theorem L_X12_means_4 {X : j_X} {Φ : Option Value → m_M → Prop} (C : j_C X yX12_means cX12_means 5 (some .boolean) 7 0 0 Φ) {k169 : Nat → m_M → Option (Int32 × m_M)} (hk169 : ∀ (p0 : Nat) (M : m_M), m_ok e_I Φ (k169 p0 M) → j_J X 5 169 [some (.ref p0), none, none, none, none] [] (0, 0) M) : ∀ (n : Nat) (v1 : Nat) (v2 : Int32) (v3 : Int32) (v4 : Int32) (M : m_M), m_ok e_I Φ (F_X12_means_4 k169 n v1 v2 v3 v4 M) → j_J X 5 4 [some (.ref v1), some (.int v2), some (.int v3), some (.int v4), none] [] (0, 0) M := by
  have C0 := C.1
  intro n
  induction n with
  | zero => intro v1 v2 v3 v4 M h; exact False.elim h
  | succ n ih =>
    intro v1 v2 v3 v4 M h
    rw [F_X12_means_4] at h
    refine j_iload_n C0 (pc := 4) dX12_means_4 rfl ?_
    refine j_aload_n C0 (pc := 5) dX12_means_5 rfl ?_
    refine X_gI C0 (pc := 6) f_OM_356_10 rfl dX12_means_6 h (fun v5 h => ?_)
    refine j_icmp_ge C0 (pc := 9) (tgt := 169) dX12_means_9 (by decide) (fun hc => ?_) (fun hc => ?_)
    · replace h := (X_if h).1 hc
      exact j_J.wq (hk169 v1 M h) (And.intro rfl (trivial))
    · replace h := (X_if h).2 hc
      refine X_join (fun (kj : Nat → Int32 → Int32 → Int32 → m_M → Option (Int32 × m_M)) => ∀ (p0 : Nat) (p1 : Int32) (p2 : Int32) (p3 : Int32) (M : m_M), m_ok e_I Φ (kj p0 p1 p2 p3 M) → j_J X 5 163 [some (.ref p0), some (.int p1), some (.int p2), some (.int p3), none] [] (0, 0) M) h (fun v6 v7 v8 v9 M1 h => ?_) (fun k163 hk163 h => ?_)
      · refine j_iinc C0 (pc := 163) dX12_means_163 (v := v9 + (1 : Int32)) rfl (Nat.le_of_ble_eq_true rfl) (by rfl) ?_
        refine X_let (G := fun w => j_J X 5 166 [some (.ref v6), some (.int v7), some (.int v8), some (.int w), none] [] (0, 0) M1) h (fun v10 h => ?_)
        refine j_goto C0 (pc := 166) (tgt := 4) dX12_means_166 (by decide) ?_
        exact j_J.wq (ih v6 v7 v8 v10 M1 h) (And.intro rfl (And.intro rfl (And.intro rfl (And.intro rfl (trivial)))))
      · refine j_aload_n C0 (pc := 12) dX12_means_12 rfl ?_
        refine X_gN C0 (pc := 13) f_OM_84_10 rfl dX12_means_13 h (fun v11 h => ?_)
        refine j_iload_n C0 (pc := 16) dX12_means_16 rfl ?_
        refine X_iald C0 (pc := 17) dX12_means_17 h (fun v12 h => ?_)
        refine j_istore C0 (pc := 18) dX12_means_18 (Nat.le_of_ble_eq_true rfl) ?_
        show j_J X 5 20 [some (.ref v1), some (.int v2), some (.int v3), some (.int v4), some (.int v12)] [] (0, 0) M
        refine j_iload C0 (pc := 20) dX12_means_20 rfl ?_
        refine j_if_ne C0 (pc := 22) (tgt := 52) dX12_means_22 (by decide) (fun hc => ?_) (fun hc => ?_)
        · replace h := (X_if h).2 hc
          refine j_iload C0 (pc := 52) dX12_means_52 rfl ?_
          refine j_iconst C0 (pc := 54) dX12_means_54 (v := (3 : Int32)) (by decide) ?_
          refine j_icmp_ge C0 (pc := 55) (tgt := 131) dX12_means_55 (by decide) (fun hc => ?_) (fun hc => ?_)
          · replace h := (X_if h).1 hc
            refine j_aload_n C0 (pc := 131) dX12_means_131 rfl ?_
            refine X_gN C0 (pc := 132) f_OM_90_10 rfl dX12_means_132 h (fun v13 h => ?_)
            refine j_iload_n C0 (pc := 135) dX12_means_135 rfl ?_
            refine j_aload_n C0 (pc := 136) dX12_means_136 rfl ?_
            refine j_iload_n C0 (pc := 137) dX12_means_137 rfl ?_
            refine j_iload C0 (pc := 138) dX12_means_138 rfl ?_
            refine j_bipush C0 (pc := 140) dX12_means_140 (v := (100 : Int32)) (by decide) ?_
            refine j_isub C0 (pc := 142) dX12_means_142 ?_
            refine j_sipush C0 (pc := 143) dX12_means_143 (v := (128 : Int32)) (by decide) ?_
            refine X_idiv C0 (pc := 146) dX12_means_146 h (fun h => ?_)
            refine j_iload C0 (pc := 147) dX12_means_147 rfl ?_
            refine j_bipush C0 (pc := 149) dX12_means_149 (v := (100 : Int32)) (by decide) ?_
            refine j_isub C0 (pc := 151) dX12_means_151 ?_
            refine j_sipush C0 (pc := 152) dX12_means_152 (v := (128 : Int32)) (by decide) ?_
            refine X_irem C0 (pc := 155) dX12_means_155 h (fun h => ?_)
            refine X_cV C0 (pc := 156) (e' := e_I) (as := [.int v2, .int ((v12 - (100 : Int32)) / (128 : Int32)), .int ((v12 - (100 : Int32)) - (v12 - (100 : Int32)) / (128 : Int32) * (128 : Int32))]) (rest := [.int v3, .ref v13]) (s' := fun w => .int w :: [.int v3, .ref v13]) (g' := (0, 0)) v_OM_399_10 (fun Ψ hΨ => K_X12_holdsBy v1 v2 ((v12 - (100 : Int32)) / (128 : Int32)) ((v12 - (100 : Int32)) - (v12 - (100 : Int32)) / (128 : Int32) * (128 : Int32)) M Ψ hΨ) rfl rfl (fun _ => rfl) (by decide) (by decide) rfl (Nat.le_of_ble_eq_true rfl) dX12_means_156 h (fun v14 M2 h => ?_)
            refine X_zast C0 (pc := 159) dX12_means_159 h (fun M3 h => ?_)
            refine j_iinc C0 (pc := 160) dX12_means_160 (v := v3 + (1 : Int32)) rfl (Nat.le_of_ble_eq_true rfl) (by rfl) ?_
            refine X_let (G := fun w => j_J X 5 163 [some (.ref v1), some (.int v2), some (.int w), some (.int v4), some (.int v12)] [] (0, 0) M3) h (fun v15 h => ?_)
            exact j_J.wq (hk163 v1 v2 v15 v4 M3 h) (And.intro rfl (And.intro rfl (And.intro rfl (And.intro rfl (trivial)))))
          · replace h := (X_if h).2 hc
            refine X_join (fun (kj : Nat → Int32 → Int32 → Int32 → Nat → Int32 → Int32 → m_M → Option (Int32 × m_M)) => ∀ (p0 : Nat) (p1 : Int32) (p2 : Int32) (p3 : Int32) (p4 : Nat) (p5 : Int32) (p6 : Int32) (M : m_M), m_ok e_I Φ (kj p0 p1 p2 p3 p4 p5 p6 M) → j_J X 5 127 [some (.ref p0), some (.int p1), some (.int p2), some (.int p3), none] [.int p6, .int p5, .ref p4] (0, 0) M) h (fun v16 v17 v18 v19 v20 v21 v22 M4 h => ?_) (fun k127 hk127 h => ?_)
            · refine X_zast C0 (pc := 127) dX12_means_127 h (fun M5 h => ?_)
              refine j_goto C0 (pc := 128) (tgt := 163) dX12_means_128 (by decide) ?_
              exact j_J.wq (hk163 v16 v17 v18 v19 M5 h) (And.intro rfl (And.intro rfl (And.intro rfl (And.intro rfl (trivial)))))
            · refine j_iinc C0 (pc := 58) dX12_means_58 (v := v3 + (-1 : Int32)) rfl (Nat.le_of_ble_eq_true rfl) (by rfl) ?_
              refine X_let (G := fun w => j_J X 5 61 [some (.ref v1), some (.int v2), some (.int w), some (.int v4), some (.int v12)] [] (0, 0) M) h (fun v23 h => ?_)
              refine j_aload_n C0 (pc := 61) dX12_means_61 rfl ?_
              refine X_gN C0 (pc := 62) f_OM_90_10 rfl dX12_means_62 h (fun v24 h => ?_)
              refine j_iload_n C0 (pc := 65) dX12_means_65 rfl ?_
              refine j_iconst C0 (pc := 66) dX12_means_66 (v := (1 : Int32)) (by decide) ?_
              refine j_isub C0 (pc := 67) dX12_means_67 ?_
              refine j_iload C0 (pc := 68) dX12_means_68 rfl ?_
              refine j_iconst C0 (pc := 70) dX12_means_70 (v := (1 : Int32)) (by decide) ?_
              refine j_icmp_ne C0 (pc := 71) (tgt := 102) dX12_means_71 (by decide) (fun hc => ?_) (fun hc => ?_)
              · replace h := (X_if h).2 hc
                refine X_join (fun (kj : Nat → Int32 → Int32 → Int32 → Nat → Int32 → m_M → Option (Int32 × m_M)) => ∀ (p0 : Nat) (p1 : Int32) (p2 : Int32) (p3 : Int32) (p4 : Nat) (p5 : Int32) (M : m_M), m_ok e_I Φ (kj p0 p1 p2 p3 p4 p5 M) → j_J X 5 122 [some (.ref p0), some (.int p1), some (.int p2), some (.int p3), none] [.int p5, .ref p4] (0, 0) M) h (fun v25 v26 v27 v28 v29 v30 M6 h => ?_) (fun k122 hk122 h => ?_)
                · refine j_iconst C0 (pc := 122) dX12_means_122 (v := (1 : Int32)) (by decide) ?_
                  refine j_goto C0 (pc := 123) (tgt := 127) dX12_means_123 (by decide) ?_
                  exact j_J.wq (hk127 v25 v26 v27 v28 v29 v30 (1 : Int32) M6 h) (And.intro rfl (And.intro rfl (And.intro rfl (And.intro rfl (trivial)))))
                · refine j_aload_n C0 (pc := 102) dX12_means_102 rfl ?_
                  refine X_gN C0 (pc := 103) f_OM_90_10 rfl dX12_means_103 h (fun v31 h => ?_)
                  refine j_iload_n C0 (pc := 106) dX12_means_106 rfl ?_
                  refine j_iconst C0 (pc := 107) dX12_means_107 (v := (1 : Int32)) (by decide) ?_
                  refine j_isub C0 (pc := 108) dX12_means_108 ?_
                  refine X_zald C0 (pc := 109) dX12_means_109 h (fun v32 h => ?_)
                  refine j_if_ne C0 (pc := 110) (tgt := 122) dX12_means_110 (by decide) (fun hc => ?_) (fun hc => ?_)
                  · replace h := (X_if h).2 hc
                    exact j_J.wq (hk122 v1 v2 v23 v4 v24 (v23 - (1 : Int32)) M h) (And.intro rfl (And.intro rfl (And.intro rfl (And.intro rfl (trivial)))))
                  · replace h := (X_if h).1 hc
                    refine j_aload_n C0 (pc := 113) dX12_means_113 rfl ?_
                    refine X_gN C0 (pc := 114) f_OM_90_10 rfl dX12_means_114 h (fun v33 h => ?_)
                    refine j_iload_n C0 (pc := 117) dX12_means_117 rfl ?_
                    refine X_zald C0 (pc := 118) dX12_means_118 h (fun v34 h => ?_)
                    refine j_if_eq C0 (pc := 119) (tgt := 126) dX12_means_119 (by decide) (fun hc => ?_) (fun hc => ?_)
                    · replace h := (X_if h).1 hc
                      refine j_iconst C0 (pc := 126) dX12_means_126 (v := (0 : Int32)) (by decide) ?_
                      exact j_J.wq (hk127 v1 v2 v23 v4 v24 (v23 - (1 : Int32)) (0 : Int32) M h) (And.intro rfl (And.intro rfl (And.intro rfl (And.intro rfl (trivial)))))
                    · replace h := (X_if h).2 hc
                      exact j_J.wq (hk122 v1 v2 v23 v4 v24 (v23 - (1 : Int32)) M h) (And.intro rfl (And.intro rfl (And.intro rfl (And.intro rfl (trivial)))))
              · replace h := (X_if h).1 hc
                refine X_join (fun (kj : Nat → Int32 → Int32 → Int32 → Nat → Int32 → m_M → Option (Int32 × m_M)) => ∀ (p0 : Nat) (p1 : Int32) (p2 : Int32) (p3 : Int32) (p4 : Nat) (p5 : Int32) (M : m_M), m_ok e_I Φ (kj p0 p1 p2 p3 p4 p5 M) → j_J X 5 98 [some (.ref p0), some (.int p1), some (.int p2), some (.int p3), none] [.int p5, .ref p4] (0, 0) M) h (fun v35 v36 v37 v38 v39 v40 M7 h => ?_) (fun k98 hk98 h => ?_)
                · refine j_iconst C0 (pc := 98) dX12_means_98 (v := (0 : Int32)) (by decide) ?_
                  refine j_goto C0 (pc := 99) (tgt := 127) dX12_means_99 (by decide) ?_
                  exact j_J.wq (hk127 v35 v36 v37 v38 v39 v40 (0 : Int32) M7 h) (And.intro rfl (And.intro rfl (And.intro rfl (And.intro rfl (trivial)))))
                · refine j_aload_n C0 (pc := 74) dX12_means_74 rfl ?_
                  refine X_gN C0 (pc := 75) f_OM_90_10 rfl dX12_means_75 h (fun v41 h => ?_)
                  refine j_iload_n C0 (pc := 78) dX12_means_78 rfl ?_
                  refine j_iconst C0 (pc := 79) dX12_means_79 (v := (1 : Int32)) (by decide) ?_
                  refine j_isub C0 (pc := 80) dX12_means_80 ?_
                  refine X_zald C0 (pc := 81) dX12_means_81 h (fun v42 h => ?_)
                  refine j_if_eq C0 (pc := 82) (tgt := 98) dX12_means_82 (by decide) (fun hc => ?_) (fun hc => ?_)
                  · replace h := (X_if h).1 hc
                    exact j_J.wq (hk98 v1 v2 v23 v4 v24 (v23 - (1 : Int32)) M h) (And.intro rfl (And.intro rfl (And.intro rfl (And.intro rfl (trivial)))))
                  · replace h := (X_if h).2 hc
                    refine j_aload_n C0 (pc := 85) dX12_means_85 rfl ?_
                    refine X_gN C0 (pc := 86) f_OM_90_10 rfl dX12_means_86 h (fun v43 h => ?_)
                    refine j_iload_n C0 (pc := 89) dX12_means_89 rfl ?_
                    refine X_zald C0 (pc := 90) dX12_means_90 h (fun v44 h => ?_)
                    refine j_if_eq C0 (pc := 91) (tgt := 98) dX12_means_91 (by decide) (fun hc => ?_) (fun hc => ?_)
                    · replace h := (X_if h).1 hc
                      exact j_J.wq (hk98 v1 v2 v23 v4 v24 (v23 - (1 : Int32)) M h) (And.intro rfl (And.intro rfl (And.intro rfl (And.intro rfl (trivial)))))
                    · replace h := (X_if h).2 hc
                      refine j_iconst C0 (pc := 94) dX12_means_94 (v := (1 : Int32)) (by decide) ?_
                      refine j_goto C0 (pc := 95) (tgt := 127) dX12_means_95 (by decide) ?_
                      exact j_J.wq (hk127 v1 v2 v23 v4 v24 (v23 - (1 : Int32)) (1 : Int32) M h) (And.intro rfl (And.intro rfl (And.intro rfl (And.intro rfl (trivial)))))
        · replace h := (X_if h).1 hc
          refine X_join (fun (kj : Nat → Int32 → Int32 → Int32 → Nat → Int32 → Int32 → m_M → Option (Int32 × m_M)) => ∀ (p0 : Nat) (p1 : Int32) (p2 : Int32) (p3 : Int32) (p4 : Nat) (p5 : Int32) (p6 : Int32) (M : m_M), m_ok e_I Φ (kj p0 p1 p2 p3 p4 p5 p6 M) → j_J X 5 48 [some (.ref p0), some (.int p1), some (.int p2), some (.int p3), none] [.int p6, .int p5, .ref p4] (0, 0) M) h (fun v45 v46 v47 v48 v49 v50 v51 M8 h => ?_) (fun k48 hk48 h => ?_)
          · refine X_zast C0 (pc := 48) dX12_means_48 h (fun M9 h => ?_)
            refine j_goto C0 (pc := 49) (tgt := 163) dX12_means_49 (by decide) ?_
            exact j_J.wq (hk163 v45 v46 v47 v48 M9 h) (And.intro rfl (And.intro rfl (And.intro rfl (And.intro rfl (trivial)))))
          · refine j_aload_n C0 (pc := 25) dX12_means_25 rfl ?_
            refine X_gN C0 (pc := 26) f_OM_90_10 rfl dX12_means_26 h (fun v52 h => ?_)
            refine j_iload_n C0 (pc := 29) dX12_means_29 rfl ?_
            refine j_iconst C0 (pc := 30) dX12_means_30 (v := (1 : Int32)) (by decide) ?_
            refine j_isub C0 (pc := 31) dX12_means_31 ?_
            refine j_aload_n C0 (pc := 32) dX12_means_32 rfl ?_
            refine X_gN C0 (pc := 33) f_OM_90_10 rfl dX12_means_33 h (fun v53 h => ?_)
            refine j_iload_n C0 (pc := 36) dX12_means_36 rfl ?_
            refine j_iconst C0 (pc := 37) dX12_means_37 (v := (1 : Int32)) (by decide) ?_
            refine j_isub C0 (pc := 38) dX12_means_38 ?_
            refine X_zald C0 (pc := 39) dX12_means_39 h (fun v54 h => ?_)
            refine j_if_ne C0 (pc := 40) (tgt := 47) dX12_means_40 (by decide) (fun hc => ?_) (fun hc => ?_)
            · replace h := (X_if h).2 hc
              refine j_iconst C0 (pc := 47) dX12_means_47 (v := (0 : Int32)) (by decide) ?_
              exact j_J.wq (hk48 v1 v2 v3 v4 v52 (v3 - (1 : Int32)) (0 : Int32) M h) (And.intro rfl (And.intro rfl (And.intro rfl (And.intro rfl (trivial)))))
            · replace h := (X_if h).1 hc
              refine j_iconst C0 (pc := 43) dX12_means_43 (v := (1 : Int32)) (by decide) ?_
              refine j_goto C0 (pc := 44) (tgt := 48) dX12_means_44 (by decide) ?_
              exact j_J.wq (hk48 v1 v2 v3 v4 v52 (v3 - (1 : Int32)) (1 : Int32) M h) (And.intro rfl (And.intro rfl (And.intro rfl (And.intro rfl (trivial)))))
set_option maxHeartbeats 4000000 in
theorem K_X12_means (a0 : Nat) (a1 : Int32) (M : m_M) (Φ : Option Value → m_M → Prop) (h : m_ok e_I Φ (F_X12_means a0 a1 M)) : j_Ct yX12_means cX12_means 5 (some .boolean) 7 0 0 [.ref a0, .int a1] M Φ := by
  refine j_Ct.of (by decide +kernel) (Nat.le_of_ble_eq_true rfl) fun X C => ?_
  have C0 := C.1
  show j_J X 5 0 [some (.ref a0), some (.int a1), none, none, none] [] (0, 0) M
  unfold F_X12_means at h
  refine j_iconst C0 (pc := 0) dX12_means_0 (v := (0 : Int32)) (by decide) ?_
  refine j_istore_n C0 (pc := 1) dX12_means_1 (Nat.le_of_ble_eq_true rfl) ?_
  show j_J X 5 2 [some (.ref a0), some (.int a1), some (.int (0 : Int32)), none, none] [] (0, 0) M
  refine j_iconst C0 (pc := 2) dX12_means_2 (v := (0 : Int32)) (by decide) ?_
  refine j_istore_n C0 (pc := 3) dX12_means_3 (Nat.le_of_ble_eq_true rfl) ?_
  show j_J X 5 4 [some (.ref a0), some (.int a1), some (.int (0 : Int32)), some (.int (0 : Int32)), none] [] (0, 0) M
  refine X_join (fun (kj : Nat → m_M → Option (Int32 × m_M)) => ∀ (p0 : Nat) (M : m_M), m_ok e_I Φ (kj p0 M) → j_J X 5 169 [some (.ref p0), none, none, none, none] [] (0, 0) M) h (fun v1 M1 h => ?_) (fun k169 hk169 h => ?_)
  · refine j_aload_n C0 (pc := 169) dX12_means_169 rfl ?_
    refine X_gN C0 (pc := 170) f_OM_90_10 rfl dX12_means_170 h (fun v2 h => ?_)
    refine j_iconst C0 (pc := 173) dX12_means_173 (v := (0 : Int32)) (by decide) ?_
    refine X_zald C0 (pc := 174) dX12_means_174 h (fun v3 h => ?_)
    exact j_zret C rfl (by rcases (X_gd h).1 with q | q <;> (rw [q]; rfl)) (X_gd h).2 dX12_means_175 (by decide)
  · exact j_J.wq (L_X12_means_4 C hk169 m_FU a0 a1 (0 : Int32) (0 : Int32) M h) (And.intro rfl (And.intro rfl (And.intro rfl (And.intro rfl (trivial)))))
theorem dX12_laysMeant_0 : decode cX12_laysMeant 0 = .ok (.iconst 0, 1) := by decide +kernel
theorem dX12_laysMeant_1 : decode cX12_laysMeant 1 = .ok (.istore 4, 2) := by decide +kernel
theorem dX12_laysMeant_3 : decode cX12_laysMeant 3 = .ok (.iload 4, 2) := by decide +kernel
theorem dX12_laysMeant_5 : decode cX12_laysMeant 5 = .ok (.bipush 16, 2) := by decide +kernel
theorem dX12_laysMeant_7 : decode cX12_laysMeant 7 = .ok (.if_icmp .ge 16, 3) := by decide +kernel
theorem dX12_laysMeant_10 : decode cX12_laysMeant 10 = .ok (.aload_n 2, 1) := by decide +kernel
theorem dX12_laysMeant_11 : decode cX12_laysMeant 11 = .ok (.iload_n 3, 1) := by decide +kernel
theorem dX12_laysMeant_12 : decode cX12_laysMeant 12 = .ok (.iload 4, 2) := by decide +kernel
theorem dX12_laysMeant_14 : decode cX12_laysMeant 14 = .ok (.iadd, 1) := by decide +kernel
theorem dX12_laysMeant_15 : decode cX12_laysMeant 15 = .ok (.lconst 0, 1) := by decide +kernel
theorem dX12_laysMeant_16 : decode cX12_laysMeant 16 = .ok (.lastore, 1) := by decide +kernel
theorem dX12_laysMeant_17 : decode cX12_laysMeant 17 = .ok (.iinc 4 1, 3) := by decide +kernel
theorem dX12_laysMeant_20 : decode cX12_laysMeant 20 = .ok (.goto (-17), 3) := by decide +kernel
theorem dX12_laysMeant_23 : decode cX12_laysMeant 23 = .ok (.iconst 0, 1) := by decide +kernel
theorem dX12_laysMeant_24 : decode cX12_laysMeant 24 = .ok (.istore 4, 2) := by decide +kernel
theorem dX12_laysMeant_26 : decode cX12_laysMeant 26 = .ok (.iload 4, 2) := by decide +kernel
theorem dX12_laysMeant_28 : decode cX12_laysMeant 28 = .ok (.aload_n 0, 1) := by decide +kernel
theorem dX12_laysMeant_29 : decode cX12_laysMeant 29 = .ok (.getfield 383, 3) := by decide +kernel
theorem dX12_laysMeant_32 : decode cX12_laysMeant 32 = .ok (.if_icmp .ge 42, 3) := by decide +kernel
theorem dX12_laysMeant_35 : decode cX12_laysMeant 35 = .ok (.aload_n 0, 1) := by decide +kernel
theorem dX12_laysMeant_36 : decode cX12_laysMeant 36 = .ok (.iload 4, 2) := by decide +kernel
theorem dX12_laysMeant_38 : decode cX12_laysMeant 38 = .ok (.invokevirtual 402, 3) := by decide +kernel
theorem dX12_laysMeant_41 : decode cX12_laysMeant 41 = .ok (.aload_n 0, 1) := by decide +kernel
theorem dX12_laysMeant_42 : decode cX12_laysMeant 42 = .ok (.iload_n 1, 1) := by decide +kernel
theorem dX12_laysMeant_43 : decode cX12_laysMeant 43 = .ok (.invokevirtual 405, 3) := by decide +kernel
theorem dX12_laysMeant_46 : decode cX12_laysMeant 46 = .ok (.ifCond .eq 22, 3) := by decide +kernel
theorem dX12_laysMeant_49 : decode cX12_laysMeant 49 = .ok (.aload_n 2, 1) := by decide +kernel
theorem dX12_laysMeant_50 : decode cX12_laysMeant 50 = .ok (.iload_n 3, 1) := by decide +kernel
theorem dX12_laysMeant_51 : decode cX12_laysMeant 51 = .ok (.iload 4, 2) := by decide +kernel
theorem dX12_laysMeant_53 : decode cX12_laysMeant 53 = .ok (.bipush 64, 2) := by decide +kernel
theorem dX12_laysMeant_55 : decode cX12_laysMeant 55 = .ok (.idiv, 1) := by decide +kernel
theorem dX12_laysMeant_56 : decode cX12_laysMeant 56 = .ok (.iadd, 1) := by decide +kernel
theorem dX12_laysMeant_57 : decode cX12_laysMeant 57 = .ok (.dup2, 1) := by decide +kernel
theorem dX12_laysMeant_58 : decode cX12_laysMeant 58 = .ok (.laload, 1) := by decide +kernel
theorem dX12_laysMeant_59 : decode cX12_laysMeant 59 = .ok (.lconst 1, 1) := by decide +kernel
theorem dX12_laysMeant_60 : decode cX12_laysMeant 60 = .ok (.iload 4, 2) := by decide +kernel
theorem dX12_laysMeant_62 : decode cX12_laysMeant 62 = .ok (.bipush 64, 2) := by decide +kernel
theorem dX12_laysMeant_64 : decode cX12_laysMeant 64 = .ok (.irem, 1) := by decide +kernel
theorem dX12_laysMeant_65 : decode cX12_laysMeant 65 = .ok (.lshl, 1) := by decide +kernel
theorem dX12_laysMeant_66 : decode cX12_laysMeant 66 = .ok (.lor, 1) := by decide +kernel
theorem dX12_laysMeant_67 : decode cX12_laysMeant 67 = .ok (.lastore, 1) := by decide +kernel
theorem dX12_laysMeant_68 : decode cX12_laysMeant 68 = .ok (.iinc 4 1, 3) := by decide +kernel
theorem dX12_laysMeant_71 : decode cX12_laysMeant 71 = .ok (.goto (-45), 3) := by decide +kernel
theorem dX12_laysMeant_74 : decode cX12_laysMeant 74 = .ok (.return_, 1) := by decide +kernel
noncomputable def F_X12_laysMeant_26 : Nat → Nat → Int32 → Nat → Int32 → Int32 → m_M → Option (Unit × m_M)
  | 0, _, _, _, _, _, _ => none
  | n + 1, v1, v2, v3, v4, v5, M =>
    x_gI 10 M v1 42 fun v6 =>
    if v6 ≤ v5 then (
      some ((), M)
    ) else
    m_let (fun (v7 : Nat) (v8 : Int32) (v9 : Nat) (v10 : Int32) (v11 : Int32) (M1 : m_M) =>
      m_let (v11 + (1 : Int32)) fun v12 =>
      F_X12_laysMeant_26 n v7 v8 v9 v10 v12 M1
    ) fun (k68 : Nat → Int32 → Nat → Int32 → Int32 → m_M → Option (Unit × m_M)) =>
    x_cV 10 M v1 (F_X12_shows v1 v5 M) fun _ M2 =>
    x_cV 10 M2 v1 (F_X12_means v1 v2 M2) fun v13 M3 =>
    if v13 = 0 then (
      k68 v1 v2 v3 v4 v5 M3
    ) else
    x_nz (64 : Int32) <|
    x_aL M3 v3 (v4 + (v5 / (64 : Int32))) fun v14 =>
    x_nz (64 : Int32) <|
    x_sL M3 v3 (v4 + (v5 / (64 : Int32))) (v14 ||| ((1 : Int64) <<< ((v5 - v5 / (64 : Int32) * (64 : Int32)).toInt64 &&& 63))) fun M4 =>
    k68 v1 v2 v3 v4 v5 M4
noncomputable def F_X12_laysMeant_3 (k23 : Nat → Int32 → Nat → Int32 → m_M → Option (Unit × m_M)) : Nat → Nat → Int32 → Nat → Int32 → Int32 → m_M → Option (Unit × m_M)
  | 0, _, _, _, _, _, _ => none
  | n + 1, v1, v2, v3, v4, v5, M =>
    if (16 : Int32) ≤ v5 then (
      k23 v1 v2 v3 v4 M
    ) else
    x_sL M v3 (v4 + v5) (0 : Int64) fun M1 =>
    m_let (v5 + (1 : Int32)) fun v6 =>
    F_X12_laysMeant_3 k23 n v1 v2 v3 v4 v6 M1
noncomputable def F_X12_laysMeant (a0 : Nat) (a1 : Int32) (a2 : Nat) (a3 : Int32) (M : m_M) : Option (Unit × m_M) :=
  m_let (fun (v1 : Nat) (v2 : Int32) (v3 : Nat) (v4 : Int32) (M1 : m_M) =>
    F_X12_laysMeant_26 m_FU v1 v2 v3 v4 (0 : Int32) M1
  ) fun (k23 : Nat → Int32 → Nat → Int32 → m_M → Option (Unit × m_M)) =>
  F_X12_laysMeant_3 k23 m_FU a0 a1 a2 a3 (0 : Int32) M
set_option maxHeartbeats 4000000 in
theorem L_X12_laysMeant_26 {X : j_X} {Φ : Option Value → m_M → Prop} (C : j_C X yX12_laysMeant cX12_laysMeant 5 none 8 0 0 Φ) : ∀ (n : Nat) (v1 : Nat) (v2 : Int32) (v3 : Nat) (v4 : Int32) (v5 : Int32) (M : m_M), m_ok e_V Φ (F_X12_laysMeant_26 n v1 v2 v3 v4 v5 M) → j_J X 5 26 [some (.ref v1), some (.int v2), some (.ref v3), some (.int v4), some (.int v5)] [] (0, 0) M := by
  have C0 := C.1
  intro n
  induction n with
  | zero => intro v1 v2 v3 v4 v5 M h; exact False.elim h
  | succ n ih =>
    intro v1 v2 v3 v4 v5 M h
    rw [F_X12_laysMeant_26] at h
    refine j_iload C0 (pc := 26) dX12_laysMeant_26 rfl ?_
    refine j_aload_n C0 (pc := 28) dX12_laysMeant_28 rfl ?_
    refine X_gI C0 (pc := 29) f_OM_383_10 rfl dX12_laysMeant_29 h (fun v6 h => ?_)
    refine j_icmp_ge C0 (pc := 32) (tgt := 74) dX12_laysMeant_32 (by decide) (fun hc => ?_) (fun hc => ?_)
    · replace h := (X_if h).1 hc
      exact j_vret C rfl h dX12_laysMeant_74 (by decide)
    · replace h := (X_if h).2 hc
      refine X_join (fun (kj : Nat → Int32 → Nat → Int32 → Int32 → m_M → Option (Unit × m_M)) => ∀ (p0 : Nat) (p1 : Int32) (p2 : Nat) (p3 : Int32) (p4 : Int32) (M : m_M), m_ok e_V Φ (kj p0 p1 p2 p3 p4 M) → j_J X 5 68 [some (.ref p0), some (.int p1), some (.ref p2), some (.int p3), some (.int p4)] [] (0, 0) M) h (fun v7 v8 v9 v10 v11 M1 h => ?_) (fun k68 hk68 h => ?_)
      · refine j_iinc C0 (pc := 68) dX12_laysMeant_68 (v := v11 + (1 : Int32)) rfl (Nat.le_of_ble_eq_true rfl) (by rfl) ?_
        refine X_let (G := fun w => j_J X 5 71 [some (.ref v7), some (.int v8), some (.ref v9), some (.int v10), some (.int w)] [] (0, 0) M1) h (fun v12 h => ?_)
        refine j_goto C0 (pc := 71) (tgt := 26) dX12_laysMeant_71 (by decide) ?_
        exact j_J.wq (ih v7 v8 v9 v10 v12 M1 h) (And.intro rfl (And.intro rfl (And.intro rfl (And.intro rfl (And.intro rfl (trivial))))))
      · refine j_aload_n C0 (pc := 35) dX12_laysMeant_35 rfl ?_
        refine j_iload C0 (pc := 36) dX12_laysMeant_36 rfl ?_
        refine X_cV C0 (pc := 38) (e' := e_V) (as := [.int v5]) (rest := []) (s' := fun _ => []) (g' := (0, 0)) v_OM_402_10 (fun Ψ hΨ => K_X12_shows v1 v5 M Ψ hΨ) rfl rfl (fun _ => rfl) (by decide) (by decide) rfl (Nat.le_of_ble_eq_true rfl) dX12_laysMeant_38 h (fun _ M2 h => ?_)
        refine j_aload_n C0 (pc := 41) dX12_laysMeant_41 rfl ?_
        refine j_iload_n C0 (pc := 42) dX12_laysMeant_42 rfl ?_
        refine X_cV C0 (pc := 43) (e' := e_I) (as := [.int v2]) (rest := []) (s' := fun w => .int w :: []) (g' := (0, 0)) v_OM_405_10 (fun Ψ hΨ => K_X12_means v1 v2 M2 Ψ hΨ) rfl rfl (fun _ => rfl) (by decide) (by decide) rfl (Nat.le_of_ble_eq_true rfl) dX12_laysMeant_43 h (fun v13 M3 h => ?_)
        refine j_if_eq C0 (pc := 46) (tgt := 68) dX12_laysMeant_46 (by decide) (fun hc => ?_) (fun hc => ?_)
        · replace h := (X_if h).1 hc
          exact j_J.wq (hk68 v1 v2 v3 v4 v5 M3 h) (And.intro rfl (And.intro rfl (And.intro rfl (And.intro rfl (And.intro rfl (trivial))))))
        · replace h := (X_if h).2 hc
          refine j_aload_n C0 (pc := 49) dX12_laysMeant_49 rfl ?_
          refine j_iload_n C0 (pc := 50) dX12_laysMeant_50 rfl ?_
          refine j_iload C0 (pc := 51) dX12_laysMeant_51 rfl ?_
          refine j_bipush C0 (pc := 53) dX12_laysMeant_53 (v := (64 : Int32)) (by decide) ?_
          refine X_idiv C0 (pc := 55) dX12_laysMeant_55 h (fun h => ?_)
          refine j_iadd C0 (pc := 56) dX12_laysMeant_56 ?_
          refine j_dup2 C0 (pc := 57) dX12_laysMeant_57 rfl rfl ?_
          refine X_lald C0 (pc := 58) dX12_laysMeant_58 h (fun v14 h => ?_)
          refine j_lconst C0 (pc := 59) dX12_laysMeant_59 (v := (1 : Int64)) (by decide) ?_
          refine j_iload C0 (pc := 60) dX12_laysMeant_60 rfl ?_
          refine j_bipush C0 (pc := 62) dX12_laysMeant_62 (v := (64 : Int32)) (by decide) ?_
          refine X_irem C0 (pc := 64) dX12_laysMeant_64 h (fun h => ?_)
          refine j_lshl C0 (pc := 65) dX12_laysMeant_65 (v := (1 : Int64) <<< ((v5 - v5 / (64 : Int32) * (64 : Int32)).toInt64 &&& 63)) rfl ?_
          refine j_lor C0 (pc := 66) dX12_laysMeant_66 ?_
          refine X_last C0 (pc := 67) dX12_laysMeant_67 h (fun M4 h => ?_)
          exact j_J.wq (hk68 v1 v2 v3 v4 v5 M4 h) (And.intro rfl (And.intro rfl (And.intro rfl (And.intro rfl (And.intro rfl (trivial))))))
set_option maxHeartbeats 4000000 in
theorem L_X12_laysMeant_3 {X : j_X} {Φ : Option Value → m_M → Prop} (C : j_C X yX12_laysMeant cX12_laysMeant 5 none 8 0 0 Φ) {k23 : Nat → Int32 → Nat → Int32 → m_M → Option (Unit × m_M)} (hk23 : ∀ (p0 : Nat) (p1 : Int32) (p2 : Nat) (p3 : Int32) (M : m_M), m_ok e_V Φ (k23 p0 p1 p2 p3 M) → j_J X 5 23 [some (.ref p0), some (.int p1), some (.ref p2), some (.int p3), none] [] (0, 0) M) : ∀ (n : Nat) (v1 : Nat) (v2 : Int32) (v3 : Nat) (v4 : Int32) (v5 : Int32) (M : m_M), m_ok e_V Φ (F_X12_laysMeant_3 k23 n v1 v2 v3 v4 v5 M) → j_J X 5 3 [some (.ref v1), some (.int v2), some (.ref v3), some (.int v4), some (.int v5)] [] (0, 0) M := by
  have C0 := C.1
  intro n
  induction n with
  | zero => intro v1 v2 v3 v4 v5 M h; exact False.elim h
  | succ n ih =>
    intro v1 v2 v3 v4 v5 M h
    rw [F_X12_laysMeant_3] at h
    refine j_iload C0 (pc := 3) dX12_laysMeant_3 rfl ?_
    refine j_bipush C0 (pc := 5) dX12_laysMeant_5 (v := (16 : Int32)) (by decide) ?_
    refine j_icmp_ge C0 (pc := 7) (tgt := 23) dX12_laysMeant_7 (by decide) (fun hc => ?_) (fun hc => ?_)
    · replace h := (X_if h).1 hc
      exact j_J.wq (hk23 v1 v2 v3 v4 M h) (And.intro rfl (And.intro rfl (And.intro rfl (And.intro rfl (trivial)))))
    · replace h := (X_if h).2 hc
      refine j_aload_n C0 (pc := 10) dX12_laysMeant_10 rfl ?_
      refine j_iload_n C0 (pc := 11) dX12_laysMeant_11 rfl ?_
      refine j_iload C0 (pc := 12) dX12_laysMeant_12 rfl ?_
      refine j_iadd C0 (pc := 14) dX12_laysMeant_14 ?_
      refine j_lconst C0 (pc := 15) dX12_laysMeant_15 (v := (0 : Int64)) (by decide) ?_
      refine X_last C0 (pc := 16) dX12_laysMeant_16 h (fun M1 h => ?_)
      refine j_iinc C0 (pc := 17) dX12_laysMeant_17 (v := v5 + (1 : Int32)) rfl (Nat.le_of_ble_eq_true rfl) (by rfl) ?_
      refine X_let (G := fun w => j_J X 5 20 [some (.ref v1), some (.int v2), some (.ref v3), some (.int v4), some (.int w)] [] (0, 0) M1) h (fun v6 h => ?_)
      refine j_goto C0 (pc := 20) (tgt := 3) dX12_laysMeant_20 (by decide) ?_
      exact j_J.wq (ih v1 v2 v3 v4 v6 M1 h) (And.intro rfl (And.intro rfl (And.intro rfl (And.intro rfl (And.intro rfl (trivial))))))
set_option maxHeartbeats 4000000 in
theorem K_X12_laysMeant (a0 : Nat) (a1 : Int32) (a2 : Nat) (a3 : Int32) (M : m_M) (Φ : Option Value → m_M → Prop) (h : m_ok e_V Φ (F_X12_laysMeant a0 a1 a2 a3 M)) : j_Ct yX12_laysMeant cX12_laysMeant 5 none 8 0 0 [.ref a0, .int a1, .ref a2, .int a3] M Φ := by
  refine j_Ct.of (by decide +kernel) (Nat.le_of_ble_eq_true rfl) fun X C => ?_
  have C0 := C.1
  show j_J X 5 0 [some (.ref a0), some (.int a1), some (.ref a2), some (.int a3), none] [] (0, 0) M
  unfold F_X12_laysMeant at h
  refine j_iconst C0 (pc := 0) dX12_laysMeant_0 (v := (0 : Int32)) (by decide) ?_
  refine j_istore C0 (pc := 1) dX12_laysMeant_1 (Nat.le_of_ble_eq_true rfl) ?_
  show j_J X 5 3 [some (.ref a0), some (.int a1), some (.ref a2), some (.int a3), some (.int (0 : Int32))] [] (0, 0) M
  refine X_join (fun (kj : Nat → Int32 → Nat → Int32 → m_M → Option (Unit × m_M)) => ∀ (p0 : Nat) (p1 : Int32) (p2 : Nat) (p3 : Int32) (M : m_M), m_ok e_V Φ (kj p0 p1 p2 p3 M) → j_J X 5 23 [some (.ref p0), some (.int p1), some (.ref p2), some (.int p3), none] [] (0, 0) M) h (fun v1 v2 v3 v4 M1 h => ?_) (fun k23 hk23 h => ?_)
  · refine j_iconst C0 (pc := 23) dX12_laysMeant_23 (v := (0 : Int32)) (by decide) ?_
    refine j_istore C0 (pc := 24) dX12_laysMeant_24 (Nat.le_of_ble_eq_true rfl) ?_
    show j_J X 5 26 [some (.ref v1), some (.int v2), some (.ref v3), some (.int v4), some (.int (0 : Int32))] [] (0, 0) M1
    exact j_J.wq (L_X12_laysMeant_26 C m_FU v1 v2 v3 v4 (0 : Int32) M1 h) (And.intro rfl (And.intro rfl (And.intro rfl (And.intro rfl (And.intro rfl (trivial))))))
  · exact j_J.wq (L_X12_laysMeant_3 C hk23 m_FU a0 a1 a2 a3 (0 : Int32) M h) (And.intro rfl (And.intro rfl (And.intro rfl (And.intro rfl (And.intro rfl (trivial))))))
theorem dX12_ask_0 : decode cX12_ask 0 = .ok (.aload_n 0, 1) := by decide +kernel
theorem dX12_ask_1 : decode cX12_ask 1 = .ok (.iconst 0, 1) := by decide +kernel
theorem dX12_ask_2 : decode cX12_ask 2 = .ok (.putfield 163, 3) := by decide +kernel
theorem dX12_ask_5 : decode cX12_ask 5 = .ok (.aload_n 0, 1) := by decide +kernel
theorem dX12_ask_6 : decode cX12_ask 6 = .ok (.invokevirtual 439, 3) := by decide +kernel
theorem dX12_ask_9 : decode cX12_ask 9 = .ok (.ifCond .ne 8, 3) := by decide +kernel
theorem dX12_ask_12 : decode cX12_ask 12 = .ok (.aload_n 0, 1) := by decide +kernel
theorem dX12_ask_13 : decode cX12_ask 13 = .ok (.getfield 199, 3) := by decide +kernel
theorem dX12_ask_16 : decode cX12_ask 16 = .ok (.ireturn, 1) := by decide +kernel
theorem dX12_ask_17 : decode cX12_ask 17 = .ok (.iconst 0, 1) := by decide +kernel
theorem dX12_ask_18 : decode cX12_ask 18 = .ok (.istore_n 1, 1) := by decide +kernel
theorem dX12_ask_19 : decode cX12_ask 19 = .ok (.iload_n 1, 1) := by decide +kernel
theorem dX12_ask_20 : decode cX12_ask 20 = .ok (.aload_n 0, 1) := by decide +kernel
theorem dX12_ask_21 : decode cX12_ask 21 = .ok (.getfield 13, 3) := by decide +kernel
theorem dX12_ask_24 : decode cX12_ask 24 = .ok (.iconst 3, 1) := by decide +kernel
theorem dX12_ask_25 : decode cX12_ask 25 = .ok (.iaload, 1) := by decide +kernel
theorem dX12_ask_26 : decode cX12_ask 26 = .ok (.if_icmp .ge 22, 3) := by decide +kernel
theorem dX12_ask_29 : decode cX12_ask 29 = .ok (.aload_n 0, 1) := by decide +kernel
theorem dX12_ask_30 : decode cX12_ask 30 = .ok (.iload_n 1, 1) := by decide +kernel
theorem dX12_ask_31 : decode cX12_ask 31 = .ok (.aload_n 0, 1) := by decide +kernel
theorem dX12_ask_32 : decode cX12_ask 32 = .ok (.getfield 111, 3) := by decide +kernel
theorem dX12_ask_35 : decode cX12_ask 35 = .ok (.bipush 16, 2) := by decide +kernel
theorem dX12_ask_37 : decode cX12_ask 37 = .ok (.iload_n 1, 1) := by decide +kernel
theorem dX12_ask_38 : decode cX12_ask 38 = .ok (.imul, 1) := by decide +kernel
theorem dX12_ask_39 : decode cX12_ask 39 = .ok (.invokevirtual 445, 3) := by decide +kernel
theorem dX12_ask_42 : decode cX12_ask 42 = .ok (.iinc 1 1, 3) := by decide +kernel
theorem dX12_ask_45 : decode cX12_ask 45 = .ok (.goto (-26), 3) := by decide +kernel
theorem dX12_ask_48 : decode cX12_ask 48 = .ok (.aload_n 0, 1) := by decide +kernel
theorem dX12_ask_49 : decode cX12_ask 49 = .ok (.iconst (-1), 1) := by decide +kernel
theorem dX12_ask_50 : decode cX12_ask 50 = .ok (.aload_n 0, 1) := by decide +kernel
theorem dX12_ask_51 : decode cX12_ask 51 = .ok (.getfield 111, 3) := by decide +kernel
theorem dX12_ask_54 : decode cX12_ask 54 = .ok (.bipush 96, 2) := by decide +kernel
theorem dX12_ask_56 : decode cX12_ask 56 = .ok (.invokevirtual 445, 3) := by decide +kernel
theorem dX12_ask_59 : decode cX12_ask 59 = .ok (.aload_n 0, 1) := by decide +kernel
theorem dX12_ask_60 : decode cX12_ask 60 = .ok (.getfield 114, 3) := by decide +kernel
theorem dX12_ask_63 : decode cX12_ask 63 = .ok (.iconst 0, 1) := by decide +kernel
theorem dX12_ask_64 : decode cX12_ask 64 = .ok (.iconst 1, 1) := by decide +kernel
theorem dX12_ask_65 : decode cX12_ask 65 = .ok (.bastore, 1) := by decide +kernel
theorem dX12_ask_66 : decode cX12_ask 66 = .ok (.iconst 0, 1) := by decide +kernel
theorem dX12_ask_67 : decode cX12_ask 67 = .ok (.ireturn, 1) := by decide +kernel
noncomputable def F_X12_ask_19 (k48 : Nat → m_M → Option (Int32 × m_M)) : Nat → Nat → Int32 → m_M → Option (Int32 × m_M)
  | 0, _, _, _ => none
  | n + 1, v1, v2, M =>
    x_gN 10 M v1 10 fun v3 =>
    x_aI 12 M v3 (3 : Int32) fun v4 =>
    if v4 ≤ v2 then (
      k48 v1 M
    ) else
    x_gN 10 M v1 54 fun v5 =>
    x_cV 10 M v1 (F_X12_laysMeant v1 v2 v5 ((16 : Int32) * v2) M) fun _ M1 =>
    m_let (v2 + (1 : Int32)) fun v6 =>
    F_X12_ask_19 k48 n v1 v6 M1
noncomputable def F_X12_ask (a0 : Nat) (M : m_M) : Option (Int32 × m_M) :=
  x_pI 10 M a0 0 (0 : Int32) fun M1 =>
  x_cV 10 M1 a0 (F_X12_readsSaying a0 M1) fun v1 M2 =>
  if v1 = 0 then (
    x_gI 10 M2 a0 9 fun v5 =>
    some (v5, M2)
  ) else
  m_let (fun (v2 : Nat) (M3 : m_M) =>
    x_gN 10 M3 v2 54 fun v3 =>
    x_cV 10 M3 v2 (F_X12_laysMeant v2 (-1 : Int32) v3 (96 : Int32) M3) fun _ M4 =>
    x_gN 10 M4 v2 55 fun v4 =>
    x_sI 14 M4 v4 (0 : Int32) (vp_nar .boolean (1 : Int32)) fun M5 =>
    some ((0 : Int32), M5)
  ) fun (k48 : Nat → m_M → Option (Int32 × m_M)) =>
  F_X12_ask_19 k48 m_FU a0 (0 : Int32) M2
set_option maxHeartbeats 4000000 in
theorem L_X12_ask_19 {X : j_X} {Φ : Option Value → m_M → Prop} (C : j_C X yX12_ask cX12_ask 2 (some .int) 70 0 0 Φ) {k48 : Nat → m_M → Option (Int32 × m_M)} (hk48 : ∀ (p0 : Nat) (M : m_M), m_ok e_I Φ (k48 p0 M) → j_J X 2 48 [some (.ref p0), none] [] (0, 0) M) : ∀ (n : Nat) (v1 : Nat) (v2 : Int32) (M : m_M), m_ok e_I Φ (F_X12_ask_19 k48 n v1 v2 M) → j_J X 2 19 [some (.ref v1), some (.int v2)] [] (0, 0) M := by
  have C0 := C.1
  intro n
  induction n with
  | zero => intro v1 v2 M h; exact False.elim h
  | succ n ih =>
    intro v1 v2 M h
    rw [F_X12_ask_19] at h
    refine j_iload_n C0 (pc := 19) dX12_ask_19 rfl ?_
    refine j_aload_n C0 (pc := 20) dX12_ask_20 rfl ?_
    refine X_gN C0 (pc := 21) f_OM_13_10 rfl dX12_ask_21 h (fun v3 h => ?_)
    refine j_iconst C0 (pc := 24) dX12_ask_24 (v := (3 : Int32)) (by decide) ?_
    refine X_iald C0 (pc := 25) dX12_ask_25 h (fun v4 h => ?_)
    refine j_icmp_ge C0 (pc := 26) (tgt := 48) dX12_ask_26 (by decide) (fun hc => ?_) (fun hc => ?_)
    · replace h := (X_if h).1 hc
      exact j_J.wq (hk48 v1 M h) (And.intro rfl (trivial))
    · replace h := (X_if h).2 hc
      refine j_aload_n C0 (pc := 29) dX12_ask_29 rfl ?_
      refine j_iload_n C0 (pc := 30) dX12_ask_30 rfl ?_
      refine j_aload_n C0 (pc := 31) dX12_ask_31 rfl ?_
      refine X_gN C0 (pc := 32) f_OM_111_10 rfl dX12_ask_32 h (fun v5 h => ?_)
      refine j_bipush C0 (pc := 35) dX12_ask_35 (v := (16 : Int32)) (by decide) ?_
      refine j_iload_n C0 (pc := 37) dX12_ask_37 rfl ?_
      refine j_imul C0 (pc := 38) dX12_ask_38 ?_
      refine X_cV C0 (pc := 39) (e' := e_V) (as := [.int v2, .ref v5, .int ((16 : Int32) * v2)]) (rest := []) (s' := fun _ => []) (g' := (0, 0)) v_OM_445_10 (fun Ψ hΨ => K_X12_laysMeant v1 v2 v5 ((16 : Int32) * v2) M Ψ hΨ) rfl rfl (fun _ => rfl) (by decide) (by decide) rfl (Nat.le_of_ble_eq_true rfl) dX12_ask_39 h (fun _ M1 h => ?_)
      refine j_iinc C0 (pc := 42) dX12_ask_42 (v := v2 + (1 : Int32)) rfl (Nat.le_of_ble_eq_true rfl) (by rfl) ?_
      refine X_let (G := fun w => j_J X 2 45 [some (.ref v1), some (.int w)] [] (0, 0) M1) h (fun v6 h => ?_)
      refine j_goto C0 (pc := 45) (tgt := 19) dX12_ask_45 (by decide) ?_
      exact j_J.wq (ih v1 v6 M1 h) (And.intro rfl (And.intro rfl (trivial)))
set_option maxHeartbeats 4000000 in
theorem K_X12_ask (a0 : Nat) (M : m_M) (Φ : Option Value → m_M → Prop) (h : m_ok e_I Φ (F_X12_ask a0 M)) : j_Ct yX12_ask cX12_ask 2 (some .int) 70 0 0 [.ref a0] M Φ := by
  refine j_Ct.of (by decide +kernel) (Nat.le_of_ble_eq_true rfl) fun X C => ?_
  have C0 := C.1
  show j_J X 2 0 [some (.ref a0), none] [] (0, 0) M
  unfold F_X12_ask at h
  refine j_aload_n C0 (pc := 0) dX12_ask_0 rfl ?_
  refine j_iconst C0 (pc := 1) dX12_ask_1 (v := (0 : Int32)) (by decide) ?_
  refine X_pI C0 (pc := 2) f_OM_163_10 rfl rfl dX12_ask_2 h (fun M1 h => ?_)
  refine j_aload_n C0 (pc := 5) dX12_ask_5 rfl ?_
  refine X_cV C0 (pc := 6) (e' := e_I) (as := []) (rest := []) (s' := fun w => .int w :: []) (g' := (0, 0)) v_OM_439_10 (fun Ψ hΨ => K_X12_readsSaying a0 M1 Ψ hΨ) rfl rfl (fun _ => rfl) (by decide) (by decide) rfl (Nat.le_of_ble_eq_true rfl) dX12_ask_6 h (fun v1 M2 h => ?_)
  refine j_if_ne C0 (pc := 9) (tgt := 17) dX12_ask_9 (by decide) (fun hc => ?_) (fun hc => ?_)
  · replace h := (X_if h).2 hc
    refine j_iconst C0 (pc := 17) dX12_ask_17 (v := (0 : Int32)) (by decide) ?_
    refine j_istore_n C0 (pc := 18) dX12_ask_18 (Nat.le_of_ble_eq_true rfl) ?_
    show j_J X 2 19 [some (.ref a0), some (.int (0 : Int32))] [] (0, 0) M2
    refine X_join (fun (kj : Nat → m_M → Option (Int32 × m_M)) => ∀ (p0 : Nat) (M : m_M), m_ok e_I Φ (kj p0 M) → j_J X 2 48 [some (.ref p0), none] [] (0, 0) M) h (fun v2 M3 h => ?_) (fun k48 hk48 h => ?_)
    · refine j_aload_n C0 (pc := 48) dX12_ask_48 rfl ?_
      refine j_iconst C0 (pc := 49) dX12_ask_49 (v := (-1 : Int32)) (by decide) ?_
      refine j_aload_n C0 (pc := 50) dX12_ask_50 rfl ?_
      refine X_gN C0 (pc := 51) f_OM_111_10 rfl dX12_ask_51 h (fun v3 h => ?_)
      refine j_bipush C0 (pc := 54) dX12_ask_54 (v := (96 : Int32)) (by decide) ?_
      refine X_cV C0 (pc := 56) (e' := e_V) (as := [.int (-1 : Int32), .ref v3, .int (96 : Int32)]) (rest := []) (s' := fun _ => []) (g' := (0, 0)) v_OM_445_10 (fun Ψ hΨ => K_X12_laysMeant v2 (-1 : Int32) v3 (96 : Int32) M3 Ψ hΨ) rfl rfl (fun _ => rfl) (by decide) (by decide) rfl (Nat.le_of_ble_eq_true rfl) dX12_ask_56 h (fun _ M4 h => ?_)
      refine j_aload_n C0 (pc := 59) dX12_ask_59 rfl ?_
      refine X_gN C0 (pc := 60) f_OM_114_10 rfl dX12_ask_60 h (fun v4 h => ?_)
      refine j_iconst C0 (pc := 63) dX12_ask_63 (v := (0 : Int32)) (by decide) ?_
      refine j_iconst C0 (pc := 64) dX12_ask_64 (v := (1 : Int32)) (by decide) ?_
      refine X_zast C0 (pc := 65) dX12_ask_65 h (fun M5 h => ?_)
      refine j_iconst C0 (pc := 66) dX12_ask_66 (v := (0 : Int32)) (by decide) ?_
      exact j_iret C rfl h dX12_ask_67 (by decide)
    · exact j_J.wq (L_X12_ask_19 C hk48 m_FU a0 (0 : Int32) M2 h) (And.intro rfl (And.intro rfl (trivial)))
  · replace h := (X_if h).1 hc
    refine j_aload_n C0 (pc := 12) dX12_ask_12 rfl ?_
    refine X_gI C0 (pc := 13) f_OM_199_10 rfl dX12_ask_13 h (fun v5 h => ?_)
    exact j_iret C rfl h dX12_ask_16 (by decide)
theorem dX12_laysLeft_0 : decode cX12_laysLeft 0 = .ok (.iconst 0, 1) := by decide +kernel
theorem dX12_laysLeft_1 : decode cX12_laysLeft 1 = .ok (.istore 4, 2) := by decide +kernel
theorem dX12_laysLeft_3 : decode cX12_laysLeft 3 = .ok (.iload 4, 2) := by decide +kernel
theorem dX12_laysLeft_5 : decode cX12_laysLeft 5 = .ok (.bipush 16, 2) := by decide +kernel
theorem dX12_laysLeft_7 : decode cX12_laysLeft 7 = .ok (.if_icmp .ge 19, 3) := by decide +kernel
theorem dX12_laysLeft_10 : decode cX12_laysLeft 10 = .ok (.aload_n 1, 1) := by decide +kernel
theorem dX12_laysLeft_11 : decode cX12_laysLeft 11 = .ok (.iload 4, 2) := by decide +kernel
theorem dX12_laysLeft_13 : decode cX12_laysLeft 13 = .ok (.aload_n 0, 1) := by decide +kernel
theorem dX12_laysLeft_14 : decode cX12_laysLeft 14 = .ok (.iload 4, 2) := by decide +kernel
theorem dX12_laysLeft_16 : decode cX12_laysLeft 16 = .ok (.invokevirtual 449, 3) := by decide +kernel
theorem dX12_laysLeft_19 : decode cX12_laysLeft 19 = .ok (.lastore, 1) := by decide +kernel
theorem dX12_laysLeft_20 : decode cX12_laysLeft 20 = .ok (.iinc 4 1, 3) := by decide +kernel
theorem dX12_laysLeft_23 : decode cX12_laysLeft 23 = .ok (.goto (-20), 3) := by decide +kernel
theorem dX12_laysLeft_26 : decode cX12_laysLeft 26 = .ok (.iconst 0, 1) := by decide +kernel
theorem dX12_laysLeft_27 : decode cX12_laysLeft 27 = .ok (.istore 4, 2) := by decide +kernel
theorem dX12_laysLeft_29 : decode cX12_laysLeft 29 = .ok (.iload 4, 2) := by decide +kernel
theorem dX12_laysLeft_31 : decode cX12_laysLeft 31 = .ok (.aload_n 0, 1) := by decide +kernel
theorem dX12_laysLeft_32 : decode cX12_laysLeft 32 = .ok (.getfield 108, 3) := by decide +kernel
theorem dX12_laysLeft_35 : decode cX12_laysLeft 35 = .ok (.iconst 1, 1) := by decide +kernel
theorem dX12_laysLeft_36 : decode cX12_laysLeft 36 = .ok (.iaload, 1) := by decide +kernel
theorem dX12_laysLeft_37 : decode cX12_laysLeft 37 = .ok (.if_icmp .ge 56, 3) := by decide +kernel
theorem dX12_laysLeft_40 : decode cX12_laysLeft 40 = .ok (.iconst 0, 1) := by decide +kernel
theorem dX12_laysLeft_41 : decode cX12_laysLeft 41 = .ok (.istore 5, 2) := by decide +kernel
theorem dX12_laysLeft_43 : decode cX12_laysLeft 43 = .ok (.iload 5, 2) := by decide +kernel
theorem dX12_laysLeft_45 : decode cX12_laysLeft 45 = .ok (.bipush 16, 2) := by decide +kernel
theorem dX12_laysLeft_47 : decode cX12_laysLeft 47 = .ok (.if_icmp .ge 40, 3) := by decide +kernel
theorem dX12_laysLeft_50 : decode cX12_laysLeft 50 = .ok (.aload_n 0, 1) := by decide +kernel
theorem dX12_laysLeft_51 : decode cX12_laysLeft 51 = .ok (.getfield 105, 3) := by decide +kernel
theorem dX12_laysLeft_54 : decode cX12_laysLeft 54 = .ok (.iload 4, 2) := by decide +kernel
theorem dX12_laysLeft_56 : decode cX12_laysLeft 56 = .ok (.iaload, 1) := by decide +kernel
theorem dX12_laysLeft_57 : decode cX12_laysLeft 57 = .ok (.iload_n 3, 1) := by decide +kernel
theorem dX12_laysLeft_58 : decode cX12_laysLeft 58 = .ok (.if_icmp .gt 29, 3) := by decide +kernel
theorem dX12_laysLeft_61 : decode cX12_laysLeft 61 = .ok (.aload_n 1, 1) := by decide +kernel
theorem dX12_laysLeft_62 : decode cX12_laysLeft 62 = .ok (.iload 5, 2) := by decide +kernel
theorem dX12_laysLeft_64 : decode cX12_laysLeft 64 = .ok (.dup2, 1) := by decide +kernel
theorem dX12_laysLeft_65 : decode cX12_laysLeft 65 = .ok (.laload, 1) := by decide +kernel
theorem dX12_laysLeft_66 : decode cX12_laysLeft 66 = .ok (.aload_n 0, 1) := by decide +kernel
theorem dX12_laysLeft_67 : decode cX12_laysLeft 67 = .ok (.getfield 99, 3) := by decide +kernel
theorem dX12_laysLeft_70 : decode cX12_laysLeft 70 = .ok (.bipush 16, 2) := by decide +kernel
theorem dX12_laysLeft_72 : decode cX12_laysLeft 72 = .ok (.iload 4, 2) := by decide +kernel
theorem dX12_laysLeft_74 : decode cX12_laysLeft 74 = .ok (.imul, 1) := by decide +kernel
theorem dX12_laysLeft_75 : decode cX12_laysLeft 75 = .ok (.iload 5, 2) := by decide +kernel
theorem dX12_laysLeft_77 : decode cX12_laysLeft 77 = .ok (.iadd, 1) := by decide +kernel
theorem dX12_laysLeft_78 : decode cX12_laysLeft 78 = .ok (.laload, 1) := by decide +kernel
theorem dX12_laysLeft_79 : decode cX12_laysLeft 79 = .ok (.land, 1) := by decide +kernel
theorem dX12_laysLeft_80 : decode cX12_laysLeft 80 = .ok (.lastore, 1) := by decide +kernel
theorem dX12_laysLeft_81 : decode cX12_laysLeft 81 = .ok (.iinc 5 1, 3) := by decide +kernel
theorem dX12_laysLeft_84 : decode cX12_laysLeft 84 = .ok (.goto (-41), 3) := by decide +kernel
theorem dX12_laysLeft_87 : decode cX12_laysLeft 87 = .ok (.iinc 4 1, 3) := by decide +kernel
theorem dX12_laysLeft_90 : decode cX12_laysLeft 90 = .ok (.goto (-61), 3) := by decide +kernel
theorem dX12_laysLeft_93 : decode cX12_laysLeft 93 = .ok (.iconst 0, 1) := by decide +kernel
theorem dX12_laysLeft_94 : decode cX12_laysLeft 94 = .ok (.istore 4, 2) := by decide +kernel
theorem dX12_laysLeft_96 : decode cX12_laysLeft 96 = .ok (.iload 4, 2) := by decide +kernel
theorem dX12_laysLeft_98 : decode cX12_laysLeft 98 = .ok (.aload_n 0, 1) := by decide +kernel
theorem dX12_laysLeft_99 : decode cX12_laysLeft 99 = .ok (.getfield 108, 3) := by decide +kernel
theorem dX12_laysLeft_102 : decode cX12_laysLeft 102 = .ok (.iconst 0, 1) := by decide +kernel
theorem dX12_laysLeft_103 : decode cX12_laysLeft 103 = .ok (.iaload, 1) := by decide +kernel
theorem dX12_laysLeft_104 : decode cX12_laysLeft 104 = .ok (.if_icmp .ge 55, 3) := by decide +kernel
theorem dX12_laysLeft_107 : decode cX12_laysLeft 107 = .ok (.iconst 0, 1) := by decide +kernel
theorem dX12_laysLeft_108 : decode cX12_laysLeft 108 = .ok (.istore 5, 2) := by decide +kernel
theorem dX12_laysLeft_110 : decode cX12_laysLeft 110 = .ok (.iload 5, 2) := by decide +kernel
theorem dX12_laysLeft_112 : decode cX12_laysLeft 112 = .ok (.bipush 16, 2) := by decide +kernel
theorem dX12_laysLeft_114 : decode cX12_laysLeft 114 = .ok (.if_icmp .ge 39, 3) := by decide +kernel
theorem dX12_laysLeft_117 : decode cX12_laysLeft 117 = .ok (.iload_n 2, 1) := by decide +kernel
theorem dX12_laysLeft_118 : decode cX12_laysLeft 118 = .ok (.iload 4, 2) := by decide +kernel
theorem dX12_laysLeft_120 : decode cX12_laysLeft 120 = .ok (.ishr, 1) := by decide +kernel
theorem dX12_laysLeft_121 : decode cX12_laysLeft 121 = .ok (.iconst 1, 1) := by decide +kernel
theorem dX12_laysLeft_122 : decode cX12_laysLeft 122 = .ok (.iand, 1) := by decide +kernel
theorem dX12_laysLeft_123 : decode cX12_laysLeft 123 = .ok (.iconst 1, 1) := by decide +kernel
theorem dX12_laysLeft_124 : decode cX12_laysLeft 124 = .ok (.if_icmp .ne 29, 3) := by decide +kernel
theorem dX12_laysLeft_127 : decode cX12_laysLeft 127 = .ok (.aload_n 1, 1) := by decide +kernel
theorem dX12_laysLeft_128 : decode cX12_laysLeft 128 = .ok (.iload 5, 2) := by decide +kernel
theorem dX12_laysLeft_130 : decode cX12_laysLeft 130 = .ok (.dup2, 1) := by decide +kernel
theorem dX12_laysLeft_131 : decode cX12_laysLeft 131 = .ok (.laload, 1) := by decide +kernel
theorem dX12_laysLeft_132 : decode cX12_laysLeft 132 = .ok (.aload_n 0, 1) := by decide +kernel
theorem dX12_laysLeft_133 : decode cX12_laysLeft 133 = .ok (.getfield 93, 3) := by decide +kernel
theorem dX12_laysLeft_136 : decode cX12_laysLeft 136 = .ok (.bipush 16, 2) := by decide +kernel
theorem dX12_laysLeft_138 : decode cX12_laysLeft 138 = .ok (.iload 4, 2) := by decide +kernel
theorem dX12_laysLeft_140 : decode cX12_laysLeft 140 = .ok (.imul, 1) := by decide +kernel
theorem dX12_laysLeft_141 : decode cX12_laysLeft 141 = .ok (.iload 5, 2) := by decide +kernel
theorem dX12_laysLeft_143 : decode cX12_laysLeft 143 = .ok (.iadd, 1) := by decide +kernel
theorem dX12_laysLeft_144 : decode cX12_laysLeft 144 = .ok (.laload, 1) := by decide +kernel
theorem dX12_laysLeft_145 : decode cX12_laysLeft 145 = .ok (.land, 1) := by decide +kernel
theorem dX12_laysLeft_146 : decode cX12_laysLeft 146 = .ok (.lastore, 1) := by decide +kernel
theorem dX12_laysLeft_147 : decode cX12_laysLeft 147 = .ok (.iinc 5 1, 3) := by decide +kernel
theorem dX12_laysLeft_150 : decode cX12_laysLeft 150 = .ok (.goto (-40), 3) := by decide +kernel
theorem dX12_laysLeft_153 : decode cX12_laysLeft 153 = .ok (.iinc 4 1, 3) := by decide +kernel
theorem dX12_laysLeft_156 : decode cX12_laysLeft 156 = .ok (.goto (-60), 3) := by decide +kernel
theorem dX12_laysLeft_159 : decode cX12_laysLeft 159 = .ok (.return_, 1) := by decide +kernel
noncomputable def F_X12_laysLeft_110 (k153 : Nat → Nat → Int32 → Int32 → m_M → Option (Unit × m_M)) : Nat → Nat → Nat → Int32 → Int32 → Int32 → m_M → Option (Unit × m_M)
  | 0, _, _, _, _, _, _ => none
  | n + 1, v1, v2, v3, v4, v5, M =>
    if (16 : Int32) ≤ v5 then (
      k153 v1 v2 v3 v4 M
    ) else
    if ((v3 >>> (v4 &&& 31)) &&& (1 : Int32)) = (1 : Int32) then (
      x_aL M v2 v5 fun v6 =>
      x_gN 10 M v1 46 fun v7 =>
      x_aL M v7 (((16 : Int32) * v4) + v5) fun v8 =>
      x_sL M v2 v5 (v6 &&& v8) fun M1 =>
      m_let (v5 + (1 : Int32)) fun v9 =>
      F_X12_laysLeft_110 k153 n v1 v2 v3 v4 v9 M1
    ) else
    k153 v1 v2 v3 v4 M
noncomputable def F_X12_laysLeft_96 : Nat → Nat → Nat → Int32 → Int32 → m_M → Option (Unit × m_M)
  | 0, _, _, _, _, _ => none
  | n + 1, v1, v2, v3, v4, M =>
    x_gN 10 M v1 51 fun v5 =>
    x_aI 12 M v5 (0 : Int32) fun v6 =>
    if v6 ≤ v4 then (
      some ((), M)
    ) else
    m_let (fun (v7 : Nat) (v8 : Nat) (v9 : Int32) (v10 : Int32) (M1 : m_M) =>
      m_let (v10 + (1 : Int32)) fun v11 =>
      F_X12_laysLeft_96 n v7 v8 v9 v11 M1
    ) fun (k153 : Nat → Nat → Int32 → Int32 → m_M → Option (Unit × m_M)) =>
    F_X12_laysLeft_110 k153 m_FU v1 v2 v3 v4 (0 : Int32) M
noncomputable def F_X12_laysLeft_43 (k87 : Nat → Nat → Int32 → Int32 → Int32 → m_M → Option (Unit × m_M)) : Nat → Nat → Nat → Int32 → Int32 → Int32 → Int32 → m_M → Option (Unit × m_M)
  | 0, _, _, _, _, _, _, _ => none
  | n + 1, v1, v2, v3, v4, v5, v6, M =>
    if (16 : Int32) ≤ v6 then (
      k87 v1 v2 v3 v4 v5 M
    ) else
    x_gN 10 M v1 50 fun v7 =>
    x_aI 12 M v7 v5 fun v8 =>
    if v4 < v8 then (
      k87 v1 v2 v3 v4 v5 M
    ) else
    x_aL M v2 v6 fun v9 =>
    x_gN 10 M v1 48 fun v10 =>
    x_aL M v10 (((16 : Int32) * v5) + v6) fun v11 =>
    x_sL M v2 v6 (v9 &&& v11) fun M1 =>
    m_let (v6 + (1 : Int32)) fun v12 =>
    F_X12_laysLeft_43 k87 n v1 v2 v3 v4 v5 v12 M1
noncomputable def F_X12_laysLeft_29 (k93 : Nat → Nat → Int32 → m_M → Option (Unit × m_M)) : Nat → Nat → Nat → Int32 → Int32 → Int32 → m_M → Option (Unit × m_M)
  | 0, _, _, _, _, _, _ => none
  | n + 1, v1, v2, v3, v4, v5, M =>
    x_gN 10 M v1 51 fun v6 =>
    x_aI 12 M v6 (1 : Int32) fun v7 =>
    if v7 ≤ v5 then (
      k93 v1 v2 v3 M
    ) else
    m_let (fun (v8 : Nat) (v9 : Nat) (v10 : Int32) (v11 : Int32) (v12 : Int32) (M1 : m_M) =>
      m_let (v12 + (1 : Int32)) fun v13 =>
      F_X12_laysLeft_29 k93 n v8 v9 v10 v11 v13 M1
    ) fun (k87 : Nat → Nat → Int32 → Int32 → Int32 → m_M → Option (Unit × m_M)) =>
    F_X12_laysLeft_43 k87 m_FU v1 v2 v3 v4 v5 (0 : Int32) M
noncomputable def F_X12_laysLeft_3 (k26 : Nat → Nat → Int32 → Int32 → m_M → Option (Unit × m_M)) : Nat → Nat → Nat → Int32 → Int32 → Int32 → m_M → Option (Unit × m_M)
  | 0, _, _, _, _, _, _ => none
  | n + 1, v1, v2, v3, v4, v5, M =>
    if (16 : Int32) ≤ v5 then (
      k26 v1 v2 v3 v4 M
    ) else
    x_cV 10 M v1 (F_X12_allOf v1 v5 M) fun v6 M1 =>
    x_sL M1 v2 v5 v6 fun M2 =>
    m_let (v5 + (1 : Int32)) fun v7 =>
    F_X12_laysLeft_3 k26 n v1 v2 v3 v4 v7 M2
noncomputable def F_X12_laysLeft (a0 : Nat) (a1 : Nat) (a2 : Int32) (a3 : Int32) (M : m_M) : Option (Unit × m_M) :=
  m_let (fun (v1 : Nat) (v2 : Nat) (v3 : Int32) (v4 : Int32) (M1 : m_M) =>
    m_let (fun (v5 : Nat) (v6 : Nat) (v7 : Int32) (M2 : m_M) =>
      F_X12_laysLeft_96 m_FU v5 v6 v7 (0 : Int32) M2
    ) fun (k93 : Nat → Nat → Int32 → m_M → Option (Unit × m_M)) =>
    F_X12_laysLeft_29 k93 m_FU v1 v2 v3 v4 (0 : Int32) M1
  ) fun (k26 : Nat → Nat → Int32 → Int32 → m_M → Option (Unit × m_M)) =>
  F_X12_laysLeft_3 k26 m_FU a0 a1 a2 a3 (0 : Int32) M
set_option maxHeartbeats 4000000 in
theorem L_X12_laysLeft_110 {X : j_X} {Φ : Option Value → m_M → Prop} (C : j_C X yX12_laysLeft cX12_laysLeft 6 none 2 0 0 Φ) {k153 : Nat → Nat → Int32 → Int32 → m_M → Option (Unit × m_M)} (hk153 : ∀ (p0 : Nat) (p1 : Nat) (p2 : Int32) (p3 : Int32) (M : m_M), m_ok e_V Φ (k153 p0 p1 p2 p3 M) → j_J X 6 153 [some (.ref p0), some (.ref p1), some (.int p2), none, some (.int p3), none] [] (0, 0) M) : ∀ (n : Nat) (v1 : Nat) (v2 : Nat) (v3 : Int32) (v4 : Int32) (v5 : Int32) (M : m_M), m_ok e_V Φ (F_X12_laysLeft_110 k153 n v1 v2 v3 v4 v5 M) → j_J X 6 110 [some (.ref v1), some (.ref v2), some (.int v3), none, some (.int v4), some (.int v5)] [] (0, 0) M := by
  have C0 := C.1
  intro n
  induction n with
  | zero => intro v1 v2 v3 v4 v5 M h; exact False.elim h
  | succ n ih =>
    intro v1 v2 v3 v4 v5 M h
    rw [F_X12_laysLeft_110] at h
    refine j_iload C0 (pc := 110) dX12_laysLeft_110 rfl ?_
    refine j_bipush C0 (pc := 112) dX12_laysLeft_112 (v := (16 : Int32)) (by decide) ?_
    refine j_icmp_ge C0 (pc := 114) (tgt := 153) dX12_laysLeft_114 (by decide) (fun hc => ?_) (fun hc => ?_)
    · replace h := (X_if h).1 hc
      exact j_J.wq (hk153 v1 v2 v3 v4 M h) (And.intro rfl (And.intro rfl (And.intro rfl (And.intro rfl (trivial)))))
    · replace h := (X_if h).2 hc
      refine j_iload_n C0 (pc := 117) dX12_laysLeft_117 rfl ?_
      refine j_iload C0 (pc := 118) dX12_laysLeft_118 rfl ?_
      refine j_ishr C0 (pc := 120) dX12_laysLeft_120 ?_
      refine j_iconst C0 (pc := 121) dX12_laysLeft_121 (v := (1 : Int32)) (by decide) ?_
      refine j_iand C0 (pc := 122) dX12_laysLeft_122 ?_
      refine j_iconst C0 (pc := 123) dX12_laysLeft_123 (v := (1 : Int32)) (by decide) ?_
      refine j_icmp_ne C0 (pc := 124) (tgt := 153) dX12_laysLeft_124 (by decide) (fun hc => ?_) (fun hc => ?_)
      · replace h := (X_if h).2 hc
        exact j_J.wq (hk153 v1 v2 v3 v4 M h) (And.intro rfl (And.intro rfl (And.intro rfl (And.intro rfl (trivial)))))
      · replace h := (X_if h).1 hc
        refine j_aload_n C0 (pc := 127) dX12_laysLeft_127 rfl ?_
        refine j_iload C0 (pc := 128) dX12_laysLeft_128 rfl ?_
        refine j_dup2 C0 (pc := 130) dX12_laysLeft_130 rfl rfl ?_
        refine X_lald C0 (pc := 131) dX12_laysLeft_131 h (fun v6 h => ?_)
        refine j_aload_n C0 (pc := 132) dX12_laysLeft_132 rfl ?_
        refine X_gN C0 (pc := 133) f_OM_93_10 rfl dX12_laysLeft_133 h (fun v7 h => ?_)
        refine j_bipush C0 (pc := 136) dX12_laysLeft_136 (v := (16 : Int32)) (by decide) ?_
        refine j_iload C0 (pc := 138) dX12_laysLeft_138 rfl ?_
        refine j_imul C0 (pc := 140) dX12_laysLeft_140 ?_
        refine j_iload C0 (pc := 141) dX12_laysLeft_141 rfl ?_
        refine j_iadd C0 (pc := 143) dX12_laysLeft_143 ?_
        refine X_lald C0 (pc := 144) dX12_laysLeft_144 h (fun v8 h => ?_)
        refine j_land C0 (pc := 145) dX12_laysLeft_145 ?_
        refine X_last C0 (pc := 146) dX12_laysLeft_146 h (fun M1 h => ?_)
        refine j_iinc C0 (pc := 147) dX12_laysLeft_147 (v := v5 + (1 : Int32)) rfl (Nat.le_of_ble_eq_true rfl) (by rfl) ?_
        refine X_let (G := fun w => j_J X 6 150 [some (.ref v1), some (.ref v2), some (.int v3), none, some (.int v4), some (.int w)] [] (0, 0) M1) h (fun v9 h => ?_)
        refine j_goto C0 (pc := 150) (tgt := 110) dX12_laysLeft_150 (by decide) ?_
        exact j_J.wq (ih v1 v2 v3 v4 v9 M1 h) (And.intro rfl (And.intro rfl (And.intro rfl (And.intro rfl (And.intro rfl (trivial))))))
set_option maxHeartbeats 4000000 in
theorem L_X12_laysLeft_96 {X : j_X} {Φ : Option Value → m_M → Prop} (C : j_C X yX12_laysLeft cX12_laysLeft 6 none 2 0 0 Φ) : ∀ (n : Nat) (v1 : Nat) (v2 : Nat) (v3 : Int32) (v4 : Int32) (M : m_M), m_ok e_V Φ (F_X12_laysLeft_96 n v1 v2 v3 v4 M) → j_J X 6 96 [some (.ref v1), some (.ref v2), some (.int v3), none, some (.int v4), none] [] (0, 0) M := by
  have C0 := C.1
  intro n
  induction n with
  | zero => intro v1 v2 v3 v4 M h; exact False.elim h
  | succ n ih =>
    intro v1 v2 v3 v4 M h
    rw [F_X12_laysLeft_96] at h
    refine j_iload C0 (pc := 96) dX12_laysLeft_96 rfl ?_
    refine j_aload_n C0 (pc := 98) dX12_laysLeft_98 rfl ?_
    refine X_gN C0 (pc := 99) f_OM_108_10 rfl dX12_laysLeft_99 h (fun v5 h => ?_)
    refine j_iconst C0 (pc := 102) dX12_laysLeft_102 (v := (0 : Int32)) (by decide) ?_
    refine X_iald C0 (pc := 103) dX12_laysLeft_103 h (fun v6 h => ?_)
    refine j_icmp_ge C0 (pc := 104) (tgt := 159) dX12_laysLeft_104 (by decide) (fun hc => ?_) (fun hc => ?_)
    · replace h := (X_if h).1 hc
      exact j_vret C rfl h dX12_laysLeft_159 (by decide)
    · replace h := (X_if h).2 hc
      refine j_iconst C0 (pc := 107) dX12_laysLeft_107 (v := (0 : Int32)) (by decide) ?_
      refine j_istore C0 (pc := 108) dX12_laysLeft_108 (Nat.le_of_ble_eq_true rfl) ?_
      show j_J X 6 110 [some (.ref v1), some (.ref v2), some (.int v3), none, some (.int v4), some (.int (0 : Int32))] [] (0, 0) M
      refine X_join (fun (kj : Nat → Nat → Int32 → Int32 → m_M → Option (Unit × m_M)) => ∀ (p0 : Nat) (p1 : Nat) (p2 : Int32) (p3 : Int32) (M : m_M), m_ok e_V Φ (kj p0 p1 p2 p3 M) → j_J X 6 153 [some (.ref p0), some (.ref p1), some (.int p2), none, some (.int p3), none] [] (0, 0) M) h (fun v7 v8 v9 v10 M1 h => ?_) (fun k153 hk153 h => ?_)
      · refine j_iinc C0 (pc := 153) dX12_laysLeft_153 (v := v10 + (1 : Int32)) rfl (Nat.le_of_ble_eq_true rfl) (by rfl) ?_
        refine X_let (G := fun w => j_J X 6 156 [some (.ref v7), some (.ref v8), some (.int v9), none, some (.int w), none] [] (0, 0) M1) h (fun v11 h => ?_)
        refine j_goto C0 (pc := 156) (tgt := 96) dX12_laysLeft_156 (by decide) ?_
        exact j_J.wq (ih v7 v8 v9 v11 M1 h) (And.intro rfl (And.intro rfl (And.intro rfl (And.intro rfl (trivial)))))
      · exact j_J.wq (L_X12_laysLeft_110 C hk153 m_FU v1 v2 v3 v4 (0 : Int32) M h) (And.intro rfl (And.intro rfl (And.intro rfl (And.intro rfl (And.intro rfl (trivial))))))
set_option maxHeartbeats 4000000 in
theorem L_X12_laysLeft_43 {X : j_X} {Φ : Option Value → m_M → Prop} (C : j_C X yX12_laysLeft cX12_laysLeft 6 none 2 0 0 Φ) {k87 : Nat → Nat → Int32 → Int32 → Int32 → m_M → Option (Unit × m_M)} (hk87 : ∀ (p0 : Nat) (p1 : Nat) (p2 : Int32) (p3 : Int32) (p4 : Int32) (M : m_M), m_ok e_V Φ (k87 p0 p1 p2 p3 p4 M) → j_J X 6 87 [some (.ref p0), some (.ref p1), some (.int p2), some (.int p3), some (.int p4), none] [] (0, 0) M) : ∀ (n : Nat) (v1 : Nat) (v2 : Nat) (v3 : Int32) (v4 : Int32) (v5 : Int32) (v6 : Int32) (M : m_M), m_ok e_V Φ (F_X12_laysLeft_43 k87 n v1 v2 v3 v4 v5 v6 M) → j_J X 6 43 [some (.ref v1), some (.ref v2), some (.int v3), some (.int v4), some (.int v5), some (.int v6)] [] (0, 0) M := by
  have C0 := C.1
  intro n
  induction n with
  | zero => intro v1 v2 v3 v4 v5 v6 M h; exact False.elim h
  | succ n ih =>
    intro v1 v2 v3 v4 v5 v6 M h
    rw [F_X12_laysLeft_43] at h
    refine j_iload C0 (pc := 43) dX12_laysLeft_43 rfl ?_
    refine j_bipush C0 (pc := 45) dX12_laysLeft_45 (v := (16 : Int32)) (by decide) ?_
    refine j_icmp_ge C0 (pc := 47) (tgt := 87) dX12_laysLeft_47 (by decide) (fun hc => ?_) (fun hc => ?_)
    · replace h := (X_if h).1 hc
      exact j_J.wq (hk87 v1 v2 v3 v4 v5 M h) (And.intro rfl (And.intro rfl (And.intro rfl (And.intro rfl (And.intro rfl (trivial))))))
    · replace h := (X_if h).2 hc
      refine j_aload_n C0 (pc := 50) dX12_laysLeft_50 rfl ?_
      refine X_gN C0 (pc := 51) f_OM_105_10 rfl dX12_laysLeft_51 h (fun v7 h => ?_)
      refine j_iload C0 (pc := 54) dX12_laysLeft_54 rfl ?_
      refine X_iald C0 (pc := 56) dX12_laysLeft_56 h (fun v8 h => ?_)
      refine j_iload_n C0 (pc := 57) dX12_laysLeft_57 rfl ?_
      refine j_icmp_gt C0 (pc := 58) (tgt := 87) dX12_laysLeft_58 (by decide) (fun hc => ?_) (fun hc => ?_)
      · replace h := (X_if h).1 hc
        exact j_J.wq (hk87 v1 v2 v3 v4 v5 M h) (And.intro rfl (And.intro rfl (And.intro rfl (And.intro rfl (And.intro rfl (trivial))))))
      · replace h := (X_if h).2 hc
        refine j_aload_n C0 (pc := 61) dX12_laysLeft_61 rfl ?_
        refine j_iload C0 (pc := 62) dX12_laysLeft_62 rfl ?_
        refine j_dup2 C0 (pc := 64) dX12_laysLeft_64 rfl rfl ?_
        refine X_lald C0 (pc := 65) dX12_laysLeft_65 h (fun v9 h => ?_)
        refine j_aload_n C0 (pc := 66) dX12_laysLeft_66 rfl ?_
        refine X_gN C0 (pc := 67) f_OM_99_10 rfl dX12_laysLeft_67 h (fun v10 h => ?_)
        refine j_bipush C0 (pc := 70) dX12_laysLeft_70 (v := (16 : Int32)) (by decide) ?_
        refine j_iload C0 (pc := 72) dX12_laysLeft_72 rfl ?_
        refine j_imul C0 (pc := 74) dX12_laysLeft_74 ?_
        refine j_iload C0 (pc := 75) dX12_laysLeft_75 rfl ?_
        refine j_iadd C0 (pc := 77) dX12_laysLeft_77 ?_
        refine X_lald C0 (pc := 78) dX12_laysLeft_78 h (fun v11 h => ?_)
        refine j_land C0 (pc := 79) dX12_laysLeft_79 ?_
        refine X_last C0 (pc := 80) dX12_laysLeft_80 h (fun M1 h => ?_)
        refine j_iinc C0 (pc := 81) dX12_laysLeft_81 (v := v6 + (1 : Int32)) rfl (Nat.le_of_ble_eq_true rfl) (by rfl) ?_
        refine X_let (G := fun w => j_J X 6 84 [some (.ref v1), some (.ref v2), some (.int v3), some (.int v4), some (.int v5), some (.int w)] [] (0, 0) M1) h (fun v12 h => ?_)
        refine j_goto C0 (pc := 84) (tgt := 43) dX12_laysLeft_84 (by decide) ?_
        exact j_J.wq (ih v1 v2 v3 v4 v5 v12 M1 h) (And.intro rfl (And.intro rfl (And.intro rfl (And.intro rfl (And.intro rfl (And.intro rfl (trivial)))))))
set_option maxHeartbeats 4000000 in
theorem L_X12_laysLeft_29 {X : j_X} {Φ : Option Value → m_M → Prop} (C : j_C X yX12_laysLeft cX12_laysLeft 6 none 2 0 0 Φ) {k93 : Nat → Nat → Int32 → m_M → Option (Unit × m_M)} (hk93 : ∀ (p0 : Nat) (p1 : Nat) (p2 : Int32) (M : m_M), m_ok e_V Φ (k93 p0 p1 p2 M) → j_J X 6 93 [some (.ref p0), some (.ref p1), some (.int p2), none, none, none] [] (0, 0) M) : ∀ (n : Nat) (v1 : Nat) (v2 : Nat) (v3 : Int32) (v4 : Int32) (v5 : Int32) (M : m_M), m_ok e_V Φ (F_X12_laysLeft_29 k93 n v1 v2 v3 v4 v5 M) → j_J X 6 29 [some (.ref v1), some (.ref v2), some (.int v3), some (.int v4), some (.int v5), none] [] (0, 0) M := by
  have C0 := C.1
  intro n
  induction n with
  | zero => intro v1 v2 v3 v4 v5 M h; exact False.elim h
  | succ n ih =>
    intro v1 v2 v3 v4 v5 M h
    rw [F_X12_laysLeft_29] at h
    refine j_iload C0 (pc := 29) dX12_laysLeft_29 rfl ?_
    refine j_aload_n C0 (pc := 31) dX12_laysLeft_31 rfl ?_
    refine X_gN C0 (pc := 32) f_OM_108_10 rfl dX12_laysLeft_32 h (fun v6 h => ?_)
    refine j_iconst C0 (pc := 35) dX12_laysLeft_35 (v := (1 : Int32)) (by decide) ?_
    refine X_iald C0 (pc := 36) dX12_laysLeft_36 h (fun v7 h => ?_)
    refine j_icmp_ge C0 (pc := 37) (tgt := 93) dX12_laysLeft_37 (by decide) (fun hc => ?_) (fun hc => ?_)
    · replace h := (X_if h).1 hc
      exact j_J.wq (hk93 v1 v2 v3 M h) (And.intro rfl (And.intro rfl (And.intro rfl (trivial))))
    · replace h := (X_if h).2 hc
      refine j_iconst C0 (pc := 40) dX12_laysLeft_40 (v := (0 : Int32)) (by decide) ?_
      refine j_istore C0 (pc := 41) dX12_laysLeft_41 (Nat.le_of_ble_eq_true rfl) ?_
      show j_J X 6 43 [some (.ref v1), some (.ref v2), some (.int v3), some (.int v4), some (.int v5), some (.int (0 : Int32))] [] (0, 0) M
      refine X_join (fun (kj : Nat → Nat → Int32 → Int32 → Int32 → m_M → Option (Unit × m_M)) => ∀ (p0 : Nat) (p1 : Nat) (p2 : Int32) (p3 : Int32) (p4 : Int32) (M : m_M), m_ok e_V Φ (kj p0 p1 p2 p3 p4 M) → j_J X 6 87 [some (.ref p0), some (.ref p1), some (.int p2), some (.int p3), some (.int p4), none] [] (0, 0) M) h (fun v8 v9 v10 v11 v12 M1 h => ?_) (fun k87 hk87 h => ?_)
      · refine j_iinc C0 (pc := 87) dX12_laysLeft_87 (v := v12 + (1 : Int32)) rfl (Nat.le_of_ble_eq_true rfl) (by rfl) ?_
        refine X_let (G := fun w => j_J X 6 90 [some (.ref v8), some (.ref v9), some (.int v10), some (.int v11), some (.int w), none] [] (0, 0) M1) h (fun v13 h => ?_)
        refine j_goto C0 (pc := 90) (tgt := 29) dX12_laysLeft_90 (by decide) ?_
        exact j_J.wq (ih v8 v9 v10 v11 v13 M1 h) (And.intro rfl (And.intro rfl (And.intro rfl (And.intro rfl (And.intro rfl (trivial))))))
      · exact j_J.wq (L_X12_laysLeft_43 C hk87 m_FU v1 v2 v3 v4 v5 (0 : Int32) M h) (And.intro rfl (And.intro rfl (And.intro rfl (And.intro rfl (And.intro rfl (And.intro rfl (trivial)))))))
set_option maxHeartbeats 4000000 in
theorem L_X12_laysLeft_3 {X : j_X} {Φ : Option Value → m_M → Prop} (C : j_C X yX12_laysLeft cX12_laysLeft 6 none 2 0 0 Φ) {k26 : Nat → Nat → Int32 → Int32 → m_M → Option (Unit × m_M)} (hk26 : ∀ (p0 : Nat) (p1 : Nat) (p2 : Int32) (p3 : Int32) (M : m_M), m_ok e_V Φ (k26 p0 p1 p2 p3 M) → j_J X 6 26 [some (.ref p0), some (.ref p1), some (.int p2), some (.int p3), none, none] [] (0, 0) M) : ∀ (n : Nat) (v1 : Nat) (v2 : Nat) (v3 : Int32) (v4 : Int32) (v5 : Int32) (M : m_M), m_ok e_V Φ (F_X12_laysLeft_3 k26 n v1 v2 v3 v4 v5 M) → j_J X 6 3 [some (.ref v1), some (.ref v2), some (.int v3), some (.int v4), some (.int v5), none] [] (0, 0) M := by
  have C0 := C.1
  intro n
  induction n with
  | zero => intro v1 v2 v3 v4 v5 M h; exact False.elim h
  | succ n ih =>
    intro v1 v2 v3 v4 v5 M h
    rw [F_X12_laysLeft_3] at h
    refine j_iload C0 (pc := 3) dX12_laysLeft_3 rfl ?_
    refine j_bipush C0 (pc := 5) dX12_laysLeft_5 (v := (16 : Int32)) (by decide) ?_
    refine j_icmp_ge C0 (pc := 7) (tgt := 26) dX12_laysLeft_7 (by decide) (fun hc => ?_) (fun hc => ?_)
    · replace h := (X_if h).1 hc
      exact j_J.wq (hk26 v1 v2 v3 v4 M h) (And.intro rfl (And.intro rfl (And.intro rfl (And.intro rfl (trivial)))))
    · replace h := (X_if h).2 hc
      refine j_aload_n C0 (pc := 10) dX12_laysLeft_10 rfl ?_
      refine j_iload C0 (pc := 11) dX12_laysLeft_11 rfl ?_
      refine j_aload_n C0 (pc := 13) dX12_laysLeft_13 rfl ?_
      refine j_iload C0 (pc := 14) dX12_laysLeft_14 rfl ?_
      refine X_cV C0 (pc := 16) (e' := e_L) (as := [.int v5]) (rest := [.int v5, .ref v2]) (s' := fun w => .long w :: [.int v5, .ref v2]) (g' := (0, 0)) v_OM_449_10 (fun Ψ hΨ => K_X12_allOf v1 v5 M Ψ hΨ) rfl rfl (fun _ => rfl) (by decide) (by decide) rfl (Nat.le_of_ble_eq_true rfl) dX12_laysLeft_16 h (fun v6 M1 h => ?_)
      refine X_last C0 (pc := 19) dX12_laysLeft_19 h (fun M2 h => ?_)
      refine j_iinc C0 (pc := 20) dX12_laysLeft_20 (v := v5 + (1 : Int32)) rfl (Nat.le_of_ble_eq_true rfl) (by rfl) ?_
      refine X_let (G := fun w => j_J X 6 23 [some (.ref v1), some (.ref v2), some (.int v3), some (.int v4), some (.int w), none] [] (0, 0) M2) h (fun v7 h => ?_)
      refine j_goto C0 (pc := 23) (tgt := 3) dX12_laysLeft_23 (by decide) ?_
      exact j_J.wq (ih v1 v2 v3 v4 v7 M2 h) (And.intro rfl (And.intro rfl (And.intro rfl (And.intro rfl (And.intro rfl (trivial))))))
set_option maxHeartbeats 4000000 in
theorem K_X12_laysLeft (a0 : Nat) (a1 : Nat) (a2 : Int32) (a3 : Int32) (M : m_M) (Φ : Option Value → m_M → Prop) (h : m_ok e_V Φ (F_X12_laysLeft a0 a1 a2 a3 M)) : j_Ct yX12_laysLeft cX12_laysLeft 6 none 2 0 0 [.ref a0, .ref a1, .int a2, .int a3] M Φ := by
  refine j_Ct.of (by decide +kernel) (Nat.le_of_ble_eq_true rfl) fun X C => ?_
  have C0 := C.1
  show j_J X 6 0 [some (.ref a0), some (.ref a1), some (.int a2), some (.int a3), none, none] [] (0, 0) M
  unfold F_X12_laysLeft at h
  refine j_iconst C0 (pc := 0) dX12_laysLeft_0 (v := (0 : Int32)) (by decide) ?_
  refine j_istore C0 (pc := 1) dX12_laysLeft_1 (Nat.le_of_ble_eq_true rfl) ?_
  show j_J X 6 3 [some (.ref a0), some (.ref a1), some (.int a2), some (.int a3), some (.int (0 : Int32)), none] [] (0, 0) M
  refine X_join (fun (kj : Nat → Nat → Int32 → Int32 → m_M → Option (Unit × m_M)) => ∀ (p0 : Nat) (p1 : Nat) (p2 : Int32) (p3 : Int32) (M : m_M), m_ok e_V Φ (kj p0 p1 p2 p3 M) → j_J X 6 26 [some (.ref p0), some (.ref p1), some (.int p2), some (.int p3), none, none] [] (0, 0) M) h (fun v1 v2 v3 v4 M1 h => ?_) (fun k26 hk26 h => ?_)
  · refine j_iconst C0 (pc := 26) dX12_laysLeft_26 (v := (0 : Int32)) (by decide) ?_
    refine j_istore C0 (pc := 27) dX12_laysLeft_27 (Nat.le_of_ble_eq_true rfl) ?_
    show j_J X 6 29 [some (.ref v1), some (.ref v2), some (.int v3), some (.int v4), some (.int (0 : Int32)), none] [] (0, 0) M1
    refine X_join (fun (kj : Nat → Nat → Int32 → m_M → Option (Unit × m_M)) => ∀ (p0 : Nat) (p1 : Nat) (p2 : Int32) (M : m_M), m_ok e_V Φ (kj p0 p1 p2 M) → j_J X 6 93 [some (.ref p0), some (.ref p1), some (.int p2), none, none, none] [] (0, 0) M) h (fun v5 v6 v7 M2 h => ?_) (fun k93 hk93 h => ?_)
    · refine j_iconst C0 (pc := 93) dX12_laysLeft_93 (v := (0 : Int32)) (by decide) ?_
      refine j_istore C0 (pc := 94) dX12_laysLeft_94 (Nat.le_of_ble_eq_true rfl) ?_
      show j_J X 6 96 [some (.ref v5), some (.ref v6), some (.int v7), none, some (.int (0 : Int32)), none] [] (0, 0) M2
      exact j_J.wq (L_X12_laysLeft_96 C m_FU v5 v6 v7 (0 : Int32) M2 h) (And.intro rfl (And.intro rfl (And.intro rfl (And.intro rfl (trivial)))))
    · exact j_J.wq (L_X12_laysLeft_29 C hk93 m_FU v1 v2 v3 v4 (0 : Int32) M1 h) (And.intro rfl (And.intro rfl (And.intro rfl (And.intro rfl (And.intro rfl (trivial))))))
  · exact j_J.wq (L_X12_laysLeft_3 C hk26 m_FU a0 a1 a2 a3 (0 : Int32) M h) (And.intro rfl (And.intro rfl (And.intro rfl (And.intro rfl (And.intro rfl (trivial))))))
theorem dX12_leaves_0 : decode cX12_leaves 0 = .ok (.aload_n 0, 1) := by decide +kernel
theorem dX12_leaves_1 : decode cX12_leaves 1 = .ok (.aload_n 0, 1) := by decide +kernel
theorem dX12_leaves_2 : decode cX12_leaves 2 = .ok (.getfield 135, 3) := by decide +kernel
theorem dX12_leaves_5 : decode cX12_leaves 5 = .ok (.sipush 4095, 3) := by decide +kernel
theorem dX12_leaves_8 : decode cX12_leaves 8 = .ok (.aload_n 0, 1) := by decide +kernel
theorem dX12_leaves_9 : decode cX12_leaves 9 = .ok (.getfield 433, 3) := by decide +kernel
theorem dX12_leaves_12 : decode cX12_leaves 12 = .ok (.invokevirtual 459, 3) := by decide +kernel
theorem dX12_leaves_15 : decode cX12_leaves 15 = .ok (.return_, 1) := by decide +kernel
noncomputable def F_X12_leaves (a0 : Nat) (M : m_M) : Option (Unit × m_M) :=
  x_gN 10 M a0 62 fun v1 =>
  x_gI 10 M a0 53 fun v2 =>
  x_cV 10 M a0 (F_X12_laysLeft a0 v1 (4095 : Int32) v2 M) fun _ M1 =>
  some ((), M1)
set_option maxHeartbeats 4000000 in
theorem K_X12_leaves (a0 : Nat) (M : m_M) (Φ : Option Value → m_M → Prop) (h : m_ok e_V Φ (F_X12_leaves a0 M)) : j_Ct yX12_leaves cX12_leaves 1 none 3 0 0 [.ref a0] M Φ := by
  refine j_Ct.of (by decide +kernel) (Nat.le_of_ble_eq_true rfl) fun X C => ?_
  have C0 := C.1
  show j_J X 1 0 [some (.ref a0)] [] (0, 0) M
  unfold F_X12_leaves at h
  refine j_aload_n C0 (pc := 0) dX12_leaves_0 rfl ?_
  refine j_aload_n C0 (pc := 1) dX12_leaves_1 rfl ?_
  refine X_gN C0 (pc := 2) f_OM_135_10 rfl dX12_leaves_2 h (fun v1 h => ?_)
  refine j_sipush C0 (pc := 5) dX12_leaves_5 (v := (4095 : Int32)) (by decide) ?_
  refine j_aload_n C0 (pc := 8) dX12_leaves_8 rfl ?_
  refine X_gI C0 (pc := 9) f_OM_433_10 rfl dX12_leaves_9 h (fun v2 h => ?_)
  refine X_cV C0 (pc := 12) (e' := e_V) (as := [.ref v1, .int (4095 : Int32), .int v2]) (rest := []) (s' := fun _ => []) (g' := (0, 0)) v_OM_459_10 (fun Ψ hΨ => K_X12_laysLeft a0 v1 (4095 : Int32) v2 M Ψ hΨ) rfl rfl (fun _ => rfl) (by decide) (by decide) rfl (Nat.le_of_ble_eq_true rfl) dX12_leaves_12 h (fun _ M1 h => ?_)
  exact j_vret C rfl h dX12_leaves_15 (by decide)
theorem dX12_verbOf_0 : decode cX12_verbOf 0 = .ok (.aload_n 0, 1) := by decide +kernel
theorem dX12_verbOf_1 : decode cX12_verbOf 1 = .ok (.getfield 13, 3) := by decide +kernel
theorem dX12_verbOf_4 : decode cX12_verbOf 4 = .ok (.iconst 3, 1) := by decide +kernel
theorem dX12_verbOf_5 : decode cX12_verbOf 5 = .ok (.iaload, 1) := by decide +kernel
theorem dX12_verbOf_6 : decode cX12_verbOf 6 = .ok (.ifCond .ne 5, 3) := by decide +kernel
theorem dX12_verbOf_9 : decode cX12_verbOf 9 = .ok (.iconst (-1), 1) := by decide +kernel
theorem dX12_verbOf_10 : decode cX12_verbOf 10 = .ok (.ireturn, 1) := by decide +kernel
theorem dX12_verbOf_11 : decode cX12_verbOf 11 = .ok (.aload_n 0, 1) := by decide +kernel
theorem dX12_verbOf_12 : decode cX12_verbOf 12 = .ok (.getfield 13, 3) := by decide +kernel
theorem dX12_verbOf_15 : decode cX12_verbOf 15 = .ok (.iconst 5, 1) := by decide +kernel
theorem dX12_verbOf_16 : decode cX12_verbOf 16 = .ok (.iaload, 1) := by decide +kernel
theorem dX12_verbOf_17 : decode cX12_verbOf 17 = .ok (.ifCond .le 19, 3) := by decide +kernel
theorem dX12_verbOf_20 : decode cX12_verbOf 20 = .ok (.aload_n 0, 1) := by decide +kernel
theorem dX12_verbOf_21 : decode cX12_verbOf 21 = .ok (.getfield 32, 3) := by decide +kernel
theorem dX12_verbOf_24 : decode cX12_verbOf 24 = .ok (.iload_n 1, 1) := by decide +kernel
theorem dX12_verbOf_25 : decode cX12_verbOf 25 = .ok (.aload_n 0, 1) := by decide +kernel
theorem dX12_verbOf_26 : decode cX12_verbOf 26 = .ok (.getfield 13, 3) := by decide +kernel
theorem dX12_verbOf_29 : decode cX12_verbOf 29 = .ok (.iconst 5, 1) := by decide +kernel
theorem dX12_verbOf_30 : decode cX12_verbOf 30 = .ok (.iaload, 1) := by decide +kernel
theorem dX12_verbOf_31 : decode cX12_verbOf 31 = .ok (.irem, 1) := by decide +kernel
theorem dX12_verbOf_32 : decode cX12_verbOf 32 = .ok (.iaload, 1) := by decide +kernel
theorem dX12_verbOf_33 : decode cX12_verbOf 33 = .ok (.goto 11, 3) := by decide +kernel
theorem dX12_verbOf_36 : decode cX12_verbOf 36 = .ok (.iload_n 1, 1) := by decide +kernel
theorem dX12_verbOf_37 : decode cX12_verbOf 37 = .ok (.aload_n 0, 1) := by decide +kernel
theorem dX12_verbOf_38 : decode cX12_verbOf 38 = .ok (.getfield 13, 3) := by decide +kernel
theorem dX12_verbOf_41 : decode cX12_verbOf 41 = .ok (.iconst 3, 1) := by decide +kernel
theorem dX12_verbOf_42 : decode cX12_verbOf 42 = .ok (.iaload, 1) := by decide +kernel
theorem dX12_verbOf_43 : decode cX12_verbOf 43 = .ok (.irem, 1) := by decide +kernel
theorem dX12_verbOf_44 : decode cX12_verbOf 44 = .ok (.ireturn, 1) := by decide +kernel
noncomputable def F_X12_verbOf (a0 : Nat) (a1 : Int32) (M : m_M) : Option (Int32 × m_M) :=
  x_gN 10 M a0 10 fun v1 =>
  x_aI 12 M v1 (3 : Int32) fun v2 =>
  if v2 = 0 then (
    some ((-1 : Int32), M)
  ) else
  x_gN 10 M a0 10 fun v3 =>
  x_aI 12 M v3 (5 : Int32) fun v4 =>
  if v4 ≤ 0 then (
    x_gN 10 M a0 10 fun v5 =>
    x_aI 12 M v5 (3 : Int32) fun v6 =>
    x_nz v6 <|
    some (a1 - a1 / v6 * v6, M)
  ) else
  x_gN 10 M a0 16 fun v7 =>
  x_gN 10 M a0 10 fun v8 =>
  x_aI 12 M v8 (5 : Int32) fun v9 =>
  x_nz v9 <|
  x_aI 12 M v7 (a1 - a1 / v9 * v9) fun v10 =>
  some (v10, M)
set_option maxHeartbeats 4000000 in
theorem K_X12_verbOf (a0 : Nat) (a1 : Int32) (M : m_M) (Φ : Option Value → m_M → Prop) (h : m_ok e_I Φ (F_X12_verbOf a0 a1 M)) : j_Ct yX12_verbOf cX12_verbOf 2 (some .int) 1 0 0 [.ref a0, .int a1] M Φ := by
  refine j_Ct.of (by decide +kernel) (Nat.le_of_ble_eq_true rfl) fun X C => ?_
  have C0 := C.1
  show j_J X 2 0 [some (.ref a0), some (.int a1)] [] (0, 0) M
  unfold F_X12_verbOf at h
  refine j_aload_n C0 (pc := 0) dX12_verbOf_0 rfl ?_
  refine X_gN C0 (pc := 1) f_OM_13_10 rfl dX12_verbOf_1 h (fun v1 h => ?_)
  refine j_iconst C0 (pc := 4) dX12_verbOf_4 (v := (3 : Int32)) (by decide) ?_
  refine X_iald C0 (pc := 5) dX12_verbOf_5 h (fun v2 h => ?_)
  refine j_if_ne C0 (pc := 6) (tgt := 11) dX12_verbOf_6 (by decide) (fun hc => ?_) (fun hc => ?_)
  · replace h := (X_if h).2 hc
    refine j_aload_n C0 (pc := 11) dX12_verbOf_11 rfl ?_
    refine X_gN C0 (pc := 12) f_OM_13_10 rfl dX12_verbOf_12 h (fun v3 h => ?_)
    refine j_iconst C0 (pc := 15) dX12_verbOf_15 (v := (5 : Int32)) (by decide) ?_
    refine X_iald C0 (pc := 16) dX12_verbOf_16 h (fun v4 h => ?_)
    refine j_if_le C0 (pc := 17) (tgt := 36) dX12_verbOf_17 (by decide) (fun hc => ?_) (fun hc => ?_)
    · replace h := (X_if h).1 hc
      refine j_iload_n C0 (pc := 36) dX12_verbOf_36 rfl ?_
      refine j_aload_n C0 (pc := 37) dX12_verbOf_37 rfl ?_
      refine X_gN C0 (pc := 38) f_OM_13_10 rfl dX12_verbOf_38 h (fun v5 h => ?_)
      refine j_iconst C0 (pc := 41) dX12_verbOf_41 (v := (3 : Int32)) (by decide) ?_
      refine X_iald C0 (pc := 42) dX12_verbOf_42 h (fun v6 h => ?_)
      refine X_irem C0 (pc := 43) dX12_verbOf_43 h (fun h => ?_)
      exact j_iret C rfl h dX12_verbOf_44 (by decide)
    · replace h := (X_if h).2 hc
      refine j_aload_n C0 (pc := 20) dX12_verbOf_20 rfl ?_
      refine X_gN C0 (pc := 21) f_OM_32_10 rfl dX12_verbOf_21 h (fun v7 h => ?_)
      refine j_iload_n C0 (pc := 24) dX12_verbOf_24 rfl ?_
      refine j_aload_n C0 (pc := 25) dX12_verbOf_25 rfl ?_
      refine X_gN C0 (pc := 26) f_OM_13_10 rfl dX12_verbOf_26 h (fun v8 h => ?_)
      refine j_iconst C0 (pc := 29) dX12_verbOf_29 (v := (5 : Int32)) (by decide) ?_
      refine X_iald C0 (pc := 30) dX12_verbOf_30 h (fun v9 h => ?_)
      refine X_irem C0 (pc := 31) dX12_verbOf_31 h (fun h => ?_)
      refine X_iald C0 (pc := 32) dX12_verbOf_32 h (fun v10 h => ?_)
      refine j_goto C0 (pc := 33) (tgt := 44) dX12_verbOf_33 (by decide) ?_
      exact j_iret C rfl h dX12_verbOf_44 (by decide)
  · replace h := (X_if h).1 hc
    refine j_iconst C0 (pc := 9) dX12_verbOf_9 (v := (-1 : Int32)) (by decide) ?_
    exact j_iret C rfl h dX12_verbOf_10 (by decide)
theorem dX12_askedAt_0 : decode cX12_askedAt 0 = .ok (.iload_n 0, 1) := by decide +kernel
theorem dX12_askedAt_1 : decode cX12_askedAt 1 = .ok (.ifCond .ge 8, 3) := by decide +kernel
theorem dX12_askedAt_4 : decode cX12_askedAt 4 = .ok (.bipush 96, 2) := by decide +kernel
theorem dX12_askedAt_6 : decode cX12_askedAt 6 = .ok (.goto 7, 3) := by decide +kernel
theorem dX12_askedAt_9 : decode cX12_askedAt 9 = .ok (.bipush 16, 2) := by decide +kernel
theorem dX12_askedAt_11 : decode cX12_askedAt 11 = .ok (.iload_n 0, 1) := by decide +kernel
theorem dX12_askedAt_12 : decode cX12_askedAt 12 = .ok (.imul, 1) := by decide +kernel
theorem dX12_askedAt_13 : decode cX12_askedAt 13 = .ok (.ireturn, 1) := by decide +kernel
noncomputable def F_X12_askedAt (a1 : Int32) (M : m_M) : Option (Int32 × m_M) :=
  if 0 ≤ a1 then (
    some ((16 : Int32) * a1, M)
  ) else
  some ((96 : Int32), M)
set_option maxHeartbeats 4000000 in
theorem K_X12_askedAt (a1 : Int32) (M : m_M) (Φ : Option Value → m_M → Prop) (h : m_ok e_I Φ (F_X12_askedAt a1 M)) : j_Ct yX12_askedAt cX12_askedAt 1 (some .int) 1 0 0 [.int a1] M Φ := by
  refine j_Ct.of (by decide +kernel) (Nat.le_of_ble_eq_true rfl) fun X C => ?_
  have C0 := C.1
  show j_J X 1 0 [some (.int a1)] [] (0, 0) M
  unfold F_X12_askedAt at h
  refine j_iload_n C0 (pc := 0) dX12_askedAt_0 rfl ?_
  refine j_if_ge C0 (pc := 1) (tgt := 9) dX12_askedAt_1 (by decide) (fun hc => ?_) (fun hc => ?_)
  · replace h := (X_if h).1 hc
    refine j_bipush C0 (pc := 9) dX12_askedAt_9 (v := (16 : Int32)) (by decide) ?_
    refine j_iload_n C0 (pc := 11) dX12_askedAt_11 rfl ?_
    refine j_imul C0 (pc := 12) dX12_askedAt_12 ?_
    exact j_iret C rfl h dX12_askedAt_13 (by decide)
  · replace h := (X_if h).2 hc
    refine j_bipush C0 (pc := 4) dX12_askedAt_4 (v := (96 : Int32)) (by decide) ?_
    refine j_goto C0 (pc := 6) (tgt := 13) dX12_askedAt_6 (by decide) ?_
    exact j_iret C rfl h dX12_askedAt_13 (by decide)
theorem dX12_ones_0 : decode cX12_ones 0 = .ok (.iconst 0, 1) := by decide +kernel
theorem dX12_ones_1 : decode cX12_ones 1 = .ok (.istore_n 2, 1) := by decide +kernel
theorem dX12_ones_2 : decode cX12_ones 2 = .ok (.lload_n 0, 1) := by decide +kernel
theorem dX12_ones_3 : decode cX12_ones 3 = .ok (.lstore_n 3, 1) := by decide +kernel
theorem dX12_ones_4 : decode cX12_ones 4 = .ok (.lload_n 3, 1) := by decide +kernel
theorem dX12_ones_5 : decode cX12_ones 5 = .ok (.lconst 0, 1) := by decide +kernel
theorem dX12_ones_6 : decode cX12_ones 6 = .ok (.lcmp, 1) := by decide +kernel
theorem dX12_ones_7 : decode cX12_ones 7 = .ok (.ifCond .eq 15, 3) := by decide +kernel
theorem dX12_ones_10 : decode cX12_ones 10 = .ok (.lload_n 3, 1) := by decide +kernel
theorem dX12_ones_11 : decode cX12_ones 11 = .ok (.lload_n 3, 1) := by decide +kernel
theorem dX12_ones_12 : decode cX12_ones 12 = .ok (.lconst 1, 1) := by decide +kernel
theorem dX12_ones_13 : decode cX12_ones 13 = .ok (.lsub, 1) := by decide +kernel
theorem dX12_ones_14 : decode cX12_ones 14 = .ok (.land, 1) := by decide +kernel
theorem dX12_ones_15 : decode cX12_ones 15 = .ok (.lstore_n 3, 1) := by decide +kernel
theorem dX12_ones_16 : decode cX12_ones 16 = .ok (.iinc 2 1, 3) := by decide +kernel
theorem dX12_ones_19 : decode cX12_ones 19 = .ok (.goto (-15), 3) := by decide +kernel
theorem dX12_ones_22 : decode cX12_ones 22 = .ok (.iload_n 2, 1) := by decide +kernel
theorem dX12_ones_23 : decode cX12_ones 23 = .ok (.ireturn, 1) := by decide +kernel
noncomputable def F_X12_ones_4 : Nat → Int32 → Int64 → m_M → Option (Int32 × m_M)
  | 0, _, _, _ => none
  | n + 1, v1, v2, M =>
    if (lg_cmp v2 (0 : Int64)) = 0 then (
      some (v1, M)
    ) else
    m_let (v2 &&& (v2 - (1 : Int64))) fun v3 =>
    m_let (v1 + (1 : Int32)) fun v4 =>
    F_X12_ones_4 n v4 v3 M
noncomputable def F_X12_ones (a1 : Int64) (M : m_M) : Option (Int32 × m_M) :=
  F_X12_ones_4 m_FU (0 : Int32) a1 M
set_option maxHeartbeats 4000000 in
theorem L_X12_ones_4 {X : j_X} {Φ : Option Value → m_M → Prop} (C : j_C X yX12_ones cX12_ones 5 (some .int) 1 0 0 Φ) : ∀ (n : Nat) (v1 : Int32) (v2 : Int64) (M : m_M), m_ok e_I Φ (F_X12_ones_4 n v1 v2 M) → j_J X 5 4 [none, none, some (.int v1), some (.long v2), none] [] (0, 0) M := by
  have C0 := C.1
  intro n
  induction n with
  | zero => intro v1 v2 M h; exact False.elim h
  | succ n ih =>
    intro v1 v2 M h
    rw [F_X12_ones_4] at h
    refine j_lload_n C0 (pc := 4) dX12_ones_4 rfl ?_
    refine j_lconst C0 (pc := 5) dX12_ones_5 (v := (0 : Int64)) (by decide) ?_
    refine j_lcmp C0 (pc := 6) dX12_ones_6 ?_
    refine j_if_eq C0 (pc := 7) (tgt := 22) dX12_ones_7 (by decide) (fun hc => ?_) (fun hc => ?_)
    · replace h := (X_if h).1 hc
      refine j_iload_n C0 (pc := 22) dX12_ones_22 rfl ?_
      exact j_iret C rfl h dX12_ones_23 (by decide)
    · replace h := (X_if h).2 hc
      refine j_lload_n C0 (pc := 10) dX12_ones_10 rfl ?_
      refine j_lload_n C0 (pc := 11) dX12_ones_11 rfl ?_
      refine j_lconst C0 (pc := 12) dX12_ones_12 (v := (1 : Int64)) (by decide) ?_
      refine j_lsub C0 (pc := 13) dX12_ones_13 ?_
      refine j_land C0 (pc := 14) dX12_ones_14 ?_
      refine X_let (G := fun w => j_J X 5 15 [none, none, some (.int v1), some (.long v2), none] (.long w :: []) (0, 0) M) h (fun v3 h => ?_)
      refine j_lstore_n C0 (pc := 15) dX12_ones_15 (Nat.le_of_ble_eq_true rfl) ?_
      show j_J X 5 16 [none, none, some (.int v1), some (.long v3), none] [] (0, 0) M
      refine j_iinc C0 (pc := 16) dX12_ones_16 (v := v1 + (1 : Int32)) rfl (Nat.le_of_ble_eq_true rfl) (by rfl) ?_
      refine X_let (G := fun w => j_J X 5 19 [none, none, some (.int w), some (.long v3), none] [] (0, 0) M) h (fun v4 h => ?_)
      refine j_goto C0 (pc := 19) (tgt := 4) dX12_ones_19 (by decide) ?_
      exact j_J.wq (ih v4 v3 M h) (And.intro rfl (And.intro rfl (trivial)))
set_option maxHeartbeats 4000000 in
theorem K_X12_ones (a1 : Int64) (M : m_M) (Φ : Option Value → m_M → Prop) (h : m_ok e_I Φ (F_X12_ones a1 M)) : j_Ct yX12_ones cX12_ones 5 (some .int) 1 0 0 [.long a1] M Φ := by
  refine j_Ct.of (by decide +kernel) (Nat.le_of_ble_eq_true rfl) fun X C => ?_
  have C0 := C.1
  show j_J X 5 0 [some (.long a1), none, none, none, none] [] (0, 0) M
  unfold F_X12_ones at h
  refine j_iconst C0 (pc := 0) dX12_ones_0 (v := (0 : Int32)) (by decide) ?_
  refine j_istore_n C0 (pc := 1) dX12_ones_1 (Nat.le_of_ble_eq_true rfl) ?_
  show j_J X 5 2 [some (.long a1), none, some (.int (0 : Int32)), none, none] [] (0, 0) M
  refine j_lload_n C0 (pc := 2) dX12_ones_2 rfl ?_
  refine j_lstore_n C0 (pc := 3) dX12_ones_3 (Nat.le_of_ble_eq_true rfl) ?_
  show j_J X 5 4 [some (.long a1), none, some (.int (0 : Int32)), some (.long a1), none] [] (0, 0) M
  exact j_J.wq (L_X12_ones_4 C m_FU (0 : Int32) a1 M h) (And.intro rfl (And.intro rfl (trivial)))
theorem dX12_asked_0 : decode cX12_asked 0 = .ok (.aload_n 0, 1) := by decide +kernel
theorem dX12_asked_1 : decode cX12_asked 1 = .ok (.iconst 0, 1) := by decide +kernel
theorem dX12_asked_2 : decode cX12_asked 2 = .ok (.putfield 163, 3) := by decide +kernel
theorem dX12_asked_5 : decode cX12_asked 5 = .ok (.aload_n 0, 1) := by decide +kernel
theorem dX12_asked_6 : decode cX12_asked 6 = .ok (.getfield 114, 3) := by decide +kernel
theorem dX12_asked_9 : decode cX12_asked 9 = .ok (.iconst 0, 1) := by decide +kernel
theorem dX12_asked_10 : decode cX12_asked 10 = .ok (.baload, 1) := by decide +kernel
theorem dX12_asked_11 : decode cX12_asked 11 = .ok (.ifCond .ne 5, 3) := by decide +kernel
theorem dX12_asked_14 : decode cX12_asked 14 = .ok (.iconst (-1), 1) := by decide +kernel
theorem dX12_asked_15 : decode cX12_asked 15 = .ok (.ireturn, 1) := by decide +kernel
theorem dX12_asked_16 : decode cX12_asked 16 = .ok (.aload_n 0, 1) := by decide +kernel
theorem dX12_asked_17 : decode cX12_asked 17 = .ok (.invokevirtual 463, 3) := by decide +kernel
theorem dX12_asked_20 : decode cX12_asked 20 = .ok (.iconst 0, 1) := by decide +kernel
theorem dX12_asked_21 : decode cX12_asked 21 = .ok (.istore_n 1, 1) := by decide +kernel
theorem dX12_asked_22 : decode cX12_asked 22 = .ok (.iconst 0, 1) := by decide +kernel
theorem dX12_asked_23 : decode cX12_asked 23 = .ok (.istore_n 2, 1) := by decide +kernel
theorem dX12_asked_24 : decode cX12_asked 24 = .ok (.iload_n 2, 1) := by decide +kernel
theorem dX12_asked_25 : decode cX12_asked 25 = .ok (.aload_n 0, 1) := by decide +kernel
theorem dX12_asked_26 : decode cX12_asked 26 = .ok (.getfield 386, 3) := by decide +kernel
theorem dX12_asked_29 : decode cX12_asked 29 = .ok (.if_icmp .ge 40, 3) := by decide +kernel
theorem dX12_asked_32 : decode cX12_asked 32 = .ok (.iload_n 1, 1) := by decide +kernel
theorem dX12_asked_33 : decode cX12_asked 33 = .ok (.aload_n 0, 1) := by decide +kernel
theorem dX12_asked_34 : decode cX12_asked 34 = .ok (.getfield 135, 3) := by decide +kernel
theorem dX12_asked_37 : decode cX12_asked 37 = .ok (.iload_n 2, 1) := by decide +kernel
theorem dX12_asked_38 : decode cX12_asked 38 = .ok (.laload, 1) := by decide +kernel
theorem dX12_asked_39 : decode cX12_asked 39 = .ok (.aload_n 0, 1) := by decide +kernel
theorem dX12_asked_40 : decode cX12_asked 40 = .ok (.getfield 111, 3) := by decide +kernel
theorem dX12_asked_43 : decode cX12_asked 43 = .ok (.aload_n 0, 1) := by decide +kernel
theorem dX12_asked_44 : decode cX12_asked 44 = .ok (.aload_n 0, 1) := by decide +kernel
theorem dX12_asked_45 : decode cX12_asked 45 = .ok (.getfield 433, 3) := by decide +kernel
theorem dX12_asked_48 : decode cX12_asked 48 = .ok (.invokevirtual 436, 3) := by decide +kernel
theorem dX12_asked_51 : decode cX12_asked 51 = .ok (.invokestatic 481, 3) := by decide +kernel
theorem dX12_asked_54 : decode cX12_asked 54 = .ok (.iload_n 2, 1) := by decide +kernel
theorem dX12_asked_55 : decode cX12_asked 55 = .ok (.iadd, 1) := by decide +kernel
theorem dX12_asked_56 : decode cX12_asked 56 = .ok (.laload, 1) := by decide +kernel
theorem dX12_asked_57 : decode cX12_asked 57 = .ok (.land, 1) := by decide +kernel
theorem dX12_asked_58 : decode cX12_asked 58 = .ok (.invokestatic 408, 3) := by decide +kernel
theorem dX12_asked_61 : decode cX12_asked 61 = .ok (.iadd, 1) := by decide +kernel
theorem dX12_asked_62 : decode cX12_asked 62 = .ok (.istore_n 1, 1) := by decide +kernel
theorem dX12_asked_63 : decode cX12_asked 63 = .ok (.iinc 2 1, 3) := by decide +kernel
theorem dX12_asked_66 : decode cX12_asked 66 = .ok (.goto (-42), 3) := by decide +kernel
theorem dX12_asked_69 : decode cX12_asked 69 = .ok (.iload_n 1, 1) := by decide +kernel
theorem dX12_asked_70 : decode cX12_asked 70 = .ok (.ireturn, 1) := by decide +kernel
noncomputable def F_X12_asked_24 : Nat → Nat → Int32 → Int32 → m_M → Option (Int32 × m_M)
  | 0, _, _, _, _ => none
  | n + 1, v1, v2, v3, M =>
    x_gI 10 M v1 43 fun v4 =>
    if v4 ≤ v3 then (
      some (v2, M)
    ) else
    x_gN 10 M v1 62 fun v5 =>
    x_aL M v5 v3 fun v6 =>
    x_gN 10 M v1 54 fun v7 =>
    x_gI 10 M v1 53 fun v8 =>
    x_cV 10 M v1 (F_X12_verbOf v1 v8 M) fun v9 M1 =>
    x_bd (F_X12_askedAt v9 M1) fun v10 M2 =>
    x_aL M2 v7 (v10 + v3) fun v11 =>
    x_bd (F_X12_ones (v6 &&& v11) M2) fun v12 M3 =>
    m_let (v2 + v12) fun v13 =>
    m_let (v3 + (1 : Int32)) fun v14 =>
    F_X12_asked_24 n v1 v13 v14 M3
noncomputable def F_X12_asked (a0 : Nat) (M : m_M) : Option (Int32 × m_M) :=
  x_pI 10 M a0 0 (0 : Int32) fun M1 =>
  x_gN 10 M1 a0 55 fun v1 =>
  x_aI 14 M1 v1 (0 : Int32) fun v2 =>
  if v2 = 0 then (
    some ((-1 : Int32), M1)
  ) else
  x_cV 10 M1 a0 (F_X12_leaves a0 M1) fun _ M2 =>
  F_X12_asked_24 m_FU a0 (0 : Int32) (0 : Int32) M2
set_option maxHeartbeats 4000000 in
theorem L_X12_asked_24 {X : j_X} {Φ : Option Value → m_M → Prop} (C : j_C X yX12_asked cX12_asked 3 (some .int) 4 0 0 Φ) : ∀ (n : Nat) (v1 : Nat) (v2 : Int32) (v3 : Int32) (M : m_M), m_ok e_I Φ (F_X12_asked_24 n v1 v2 v3 M) → j_J X 3 24 [some (.ref v1), some (.int v2), some (.int v3)] [] (0, 0) M := by
  have C0 := C.1
  intro n
  induction n with
  | zero => intro v1 v2 v3 M h; exact False.elim h
  | succ n ih =>
    intro v1 v2 v3 M h
    rw [F_X12_asked_24] at h
    refine j_iload_n C0 (pc := 24) dX12_asked_24 rfl ?_
    refine j_aload_n C0 (pc := 25) dX12_asked_25 rfl ?_
    refine X_gI C0 (pc := 26) f_OM_386_10 rfl dX12_asked_26 h (fun v4 h => ?_)
    refine j_icmp_ge C0 (pc := 29) (tgt := 69) dX12_asked_29 (by decide) (fun hc => ?_) (fun hc => ?_)
    · replace h := (X_if h).1 hc
      refine j_iload_n C0 (pc := 69) dX12_asked_69 rfl ?_
      exact j_iret C rfl h dX12_asked_70 (by decide)
    · replace h := (X_if h).2 hc
      refine j_iload_n C0 (pc := 32) dX12_asked_32 rfl ?_
      refine j_aload_n C0 (pc := 33) dX12_asked_33 rfl ?_
      refine X_gN C0 (pc := 34) f_OM_135_10 rfl dX12_asked_34 h (fun v5 h => ?_)
      refine j_iload_n C0 (pc := 37) dX12_asked_37 rfl ?_
      refine X_lald C0 (pc := 38) dX12_asked_38 h (fun v6 h => ?_)
      refine j_aload_n C0 (pc := 39) dX12_asked_39 rfl ?_
      refine X_gN C0 (pc := 40) f_OM_111_10 rfl dX12_asked_40 h (fun v7 h => ?_)
      refine j_aload_n C0 (pc := 43) dX12_asked_43 rfl ?_
      refine j_aload_n C0 (pc := 44) dX12_asked_44 rfl ?_
      refine X_gI C0 (pc := 45) f_OM_433_10 rfl dX12_asked_45 h (fun v8 h => ?_)
      refine X_cV C0 (pc := 48) (e' := e_I) (as := [.int v8]) (rest := [.ref v7, .long v6, .int v2]) (s' := fun w => .int w :: [.ref v7, .long v6, .int v2]) (g' := (0, 0)) v_OM_436_10 (fun Ψ hΨ => K_X12_verbOf v1 v8 M Ψ hΨ) rfl rfl (fun _ => rfl) (by decide) (by decide) rfl (Nat.le_of_ble_eq_true rfl) dX12_asked_48 h (fun v9 M1 h => ?_)
      refine X_cS C0 (pc := 51) (e' := e_I) (as := [.int v9]) (rest := [.ref v7, .long v6, .int v2]) (s' := fun w => .int w :: [.ref v7, .long v6, .int v2]) (g' := (0, 0)) s_OM_481 (fun Ψ hΨ => K_X12_askedAt v9 M1 Ψ hΨ) rfl rfl (fun _ => rfl) (by decide) (by decide) rfl (Nat.le_of_ble_eq_true rfl) dX12_asked_51 h (fun v10 M2 h => ?_)
      refine j_iload_n C0 (pc := 54) dX12_asked_54 rfl ?_
      refine j_iadd C0 (pc := 55) dX12_asked_55 ?_
      refine X_lald C0 (pc := 56) dX12_asked_56 h (fun v11 h => ?_)
      refine j_land C0 (pc := 57) dX12_asked_57 ?_
      refine X_cS C0 (pc := 58) (e' := e_I) (as := [.long (v6 &&& v11)]) (rest := [.int v2]) (s' := fun w => .int w :: [.int v2]) (g' := (0, 0)) s_OM_408 (fun Ψ hΨ => K_X12_ones (v6 &&& v11) M2 Ψ hΨ) rfl rfl (fun _ => rfl) (by decide) (by decide) rfl (Nat.le_of_ble_eq_true rfl) dX12_asked_58 h (fun v12 M3 h => ?_)
      refine j_iadd C0 (pc := 61) dX12_asked_61 ?_
      refine X_let (G := fun w => j_J X 3 62 [some (.ref v1), some (.int v2), some (.int v3)] (.int w :: []) (0, 0) M3) h (fun v13 h => ?_)
      refine j_istore_n C0 (pc := 62) dX12_asked_62 (Nat.le_of_ble_eq_true rfl) ?_
      show j_J X 3 63 [some (.ref v1), some (.int v13), some (.int v3)] [] (0, 0) M3
      refine j_iinc C0 (pc := 63) dX12_asked_63 (v := v3 + (1 : Int32)) rfl (Nat.le_of_ble_eq_true rfl) (by rfl) ?_
      refine X_let (G := fun w => j_J X 3 66 [some (.ref v1), some (.int v13), some (.int w)] [] (0, 0) M3) h (fun v14 h => ?_)
      refine j_goto C0 (pc := 66) (tgt := 24) dX12_asked_66 (by decide) ?_
      exact j_J.wq (ih v1 v13 v14 M3 h) (And.intro rfl (And.intro rfl (And.intro rfl (trivial))))
set_option maxHeartbeats 4000000 in
theorem K_X12_asked (a0 : Nat) (M : m_M) (Φ : Option Value → m_M → Prop) (h : m_ok e_I Φ (F_X12_asked a0 M)) : j_Ct yX12_asked cX12_asked 3 (some .int) 4 0 0 [.ref a0] M Φ := by
  refine j_Ct.of (by decide +kernel) (Nat.le_of_ble_eq_true rfl) fun X C => ?_
  have C0 := C.1
  show j_J X 3 0 [some (.ref a0), none, none] [] (0, 0) M
  unfold F_X12_asked at h
  refine j_aload_n C0 (pc := 0) dX12_asked_0 rfl ?_
  refine j_iconst C0 (pc := 1) dX12_asked_1 (v := (0 : Int32)) (by decide) ?_
  refine X_pI C0 (pc := 2) f_OM_163_10 rfl rfl dX12_asked_2 h (fun M1 h => ?_)
  refine j_aload_n C0 (pc := 5) dX12_asked_5 rfl ?_
  refine X_gN C0 (pc := 6) f_OM_114_10 rfl dX12_asked_6 h (fun v1 h => ?_)
  refine j_iconst C0 (pc := 9) dX12_asked_9 (v := (0 : Int32)) (by decide) ?_
  refine X_zald C0 (pc := 10) dX12_asked_10 h (fun v2 h => ?_)
  refine j_if_ne C0 (pc := 11) (tgt := 16) dX12_asked_11 (by decide) (fun hc => ?_) (fun hc => ?_)
  · replace h := (X_if h).2 hc
    refine j_aload_n C0 (pc := 16) dX12_asked_16 rfl ?_
    refine X_cV C0 (pc := 17) (e' := e_V) (as := []) (rest := []) (s' := fun _ => []) (g' := (0, 0)) v_OM_463_10 (fun Ψ hΨ => K_X12_leaves a0 M1 Ψ hΨ) rfl rfl (fun _ => rfl) (by decide) (by decide) rfl (Nat.le_of_ble_eq_true rfl) dX12_asked_17 h (fun _ M2 h => ?_)
    refine j_iconst C0 (pc := 20) dX12_asked_20 (v := (0 : Int32)) (by decide) ?_
    refine j_istore_n C0 (pc := 21) dX12_asked_21 (Nat.le_of_ble_eq_true rfl) ?_
    show j_J X 3 22 [some (.ref a0), some (.int (0 : Int32)), none] [] (0, 0) M2
    refine j_iconst C0 (pc := 22) dX12_asked_22 (v := (0 : Int32)) (by decide) ?_
    refine j_istore_n C0 (pc := 23) dX12_asked_23 (Nat.le_of_ble_eq_true rfl) ?_
    show j_J X 3 24 [some (.ref a0), some (.int (0 : Int32)), some (.int (0 : Int32))] [] (0, 0) M2
    exact j_J.wq (L_X12_asked_24 C m_FU a0 (0 : Int32) (0 : Int32) M2 h) (And.intro rfl (And.intro rfl (And.intro rfl (trivial))))
  · replace h := (X_if h).1 hc
    refine j_iconst C0 (pc := 14) dX12_asked_14 (v := (-1 : Int32)) (by decide) ?_
    exact j_iret C rfl h dX12_asked_15 (by decide)
theorem dX12_bell_0 : decode cX12_bell 0 = .ok (.iconst 0, 1) := by decide +kernel
theorem dX12_bell_1 : decode cX12_bell 1 = .ok (.istore_n 1, 1) := by decide +kernel
theorem dX12_bell_2 : decode cX12_bell 2 = .ok (.iload_n 1, 1) := by decide +kernel
theorem dX12_bell_3 : decode cX12_bell 3 = .ok (.bipush 6, 2) := by decide +kernel
theorem dX12_bell_5 : decode cX12_bell 5 = .ok (.if_icmp .ge 16, 3) := by decide +kernel
theorem dX12_bell_8 : decode cX12_bell 8 = .ok (.aload_n 0, 1) := by decide +kernel
theorem dX12_bell_9 : decode cX12_bell 9 = .ok (.getfield 150, 3) := by decide +kernel
theorem dX12_bell_12 : decode cX12_bell 12 = .ok (.iload_n 1, 1) := by decide +kernel
theorem dX12_bell_13 : decode cX12_bell 13 = .ok (.iconst 0, 1) := by decide +kernel
theorem dX12_bell_14 : decode cX12_bell 14 = .ok (.iastore, 1) := by decide +kernel
theorem dX12_bell_15 : decode cX12_bell 15 = .ok (.iinc 1 1, 3) := by decide +kernel
theorem dX12_bell_18 : decode cX12_bell 18 = .ok (.goto (-16), 3) := by decide +kernel
theorem dX12_bell_21 : decode cX12_bell 21 = .ok (.iconst 0, 1) := by decide +kernel
theorem dX12_bell_22 : decode cX12_bell 22 = .ok (.istore_n 1, 1) := by decide +kernel
theorem dX12_bell_23 : decode cX12_bell 23 = .ok (.iload_n 1, 1) := by decide +kernel
theorem dX12_bell_24 : decode cX12_bell 24 = .ok (.aload_n 0, 1) := by decide +kernel
theorem dX12_bell_25 : decode cX12_bell 25 = .ok (.getfield 13, 3) := by decide +kernel
theorem dX12_bell_28 : decode cX12_bell 28 = .ok (.iconst 4, 1) := by decide +kernel
theorem dX12_bell_29 : decode cX12_bell 29 = .ok (.iaload, 1) := by decide +kernel
theorem dX12_bell_30 : decode cX12_bell 30 = .ok (.if_icmp .ge 35, 3) := by decide +kernel
theorem dX12_bell_33 : decode cX12_bell 33 = .ok (.aload_n 0, 1) := by decide +kernel
theorem dX12_bell_34 : decode cX12_bell 34 = .ok (.getfield 147, 3) := by decide +kernel
theorem dX12_bell_37 : decode cX12_bell 37 = .ok (.iload_n 1, 1) := by decide +kernel
theorem dX12_bell_38 : decode cX12_bell 38 = .ok (.iaload, 1) := by decide +kernel
theorem dX12_bell_39 : decode cX12_bell 39 = .ok (.ifCond .le 20, 3) := by decide +kernel
theorem dX12_bell_42 : decode cX12_bell 42 = .ok (.aload_n 0, 1) := by decide +kernel
theorem dX12_bell_43 : decode cX12_bell 43 = .ok (.getfield 150, 3) := by decide +kernel
theorem dX12_bell_46 : decode cX12_bell 46 = .ok (.aload_n 0, 1) := by decide +kernel
theorem dX12_bell_47 : decode cX12_bell 47 = .ok (.getfield 147, 3) := by decide +kernel
theorem dX12_bell_50 : decode cX12_bell 50 = .ok (.iload_n 1, 1) := by decide +kernel
theorem dX12_bell_51 : decode cX12_bell 51 = .ok (.iaload, 1) := by decide +kernel
theorem dX12_bell_52 : decode cX12_bell 52 = .ok (.iconst 1, 1) := by decide +kernel
theorem dX12_bell_53 : decode cX12_bell 53 = .ok (.isub, 1) := by decide +kernel
theorem dX12_bell_54 : decode cX12_bell 54 = .ok (.dup2, 1) := by decide +kernel
theorem dX12_bell_55 : decode cX12_bell 55 = .ok (.iaload, 1) := by decide +kernel
theorem dX12_bell_56 : decode cX12_bell 56 = .ok (.iconst 1, 1) := by decide +kernel
theorem dX12_bell_57 : decode cX12_bell 57 = .ok (.iadd, 1) := by decide +kernel
theorem dX12_bell_58 : decode cX12_bell 58 = .ok (.iastore, 1) := by decide +kernel
theorem dX12_bell_59 : decode cX12_bell 59 = .ok (.iinc 1 1, 3) := by decide +kernel
theorem dX12_bell_62 : decode cX12_bell 62 = .ok (.goto (-39), 3) := by decide +kernel
theorem dX12_bell_65 : decode cX12_bell 65 = .ok (.iconst 0, 1) := by decide +kernel
theorem dX12_bell_66 : decode cX12_bell 66 = .ok (.istore_n 1, 1) := by decide +kernel
theorem dX12_bell_67 : decode cX12_bell 67 = .ok (.iconst 1, 1) := by decide +kernel
theorem dX12_bell_68 : decode cX12_bell 68 = .ok (.istore_n 2, 1) := by decide +kernel
theorem dX12_bell_69 : decode cX12_bell 69 = .ok (.iload_n 2, 1) := by decide +kernel
theorem dX12_bell_70 : decode cX12_bell 70 = .ok (.bipush 6, 2) := by decide +kernel
theorem dX12_bell_72 : decode cX12_bell 72 = .ok (.if_icmp .ge 30, 3) := by decide +kernel
theorem dX12_bell_75 : decode cX12_bell 75 = .ok (.aload_n 0, 1) := by decide +kernel
theorem dX12_bell_76 : decode cX12_bell 76 = .ok (.getfield 150, 3) := by decide +kernel
theorem dX12_bell_79 : decode cX12_bell 79 = .ok (.iload_n 2, 1) := by decide +kernel
theorem dX12_bell_80 : decode cX12_bell 80 = .ok (.iaload, 1) := by decide +kernel
theorem dX12_bell_81 : decode cX12_bell 81 = .ok (.aload_n 0, 1) := by decide +kernel
theorem dX12_bell_82 : decode cX12_bell 82 = .ok (.getfield 150, 3) := by decide +kernel
theorem dX12_bell_85 : decode cX12_bell 85 = .ok (.iload_n 1, 1) := by decide +kernel
theorem dX12_bell_86 : decode cX12_bell 86 = .ok (.iaload, 1) := by decide +kernel
theorem dX12_bell_87 : decode cX12_bell 87 = .ok (.if_icmp .le 7, 3) := by decide +kernel
theorem dX12_bell_90 : decode cX12_bell 90 = .ok (.iload_n 2, 1) := by decide +kernel
theorem dX12_bell_91 : decode cX12_bell 91 = .ok (.goto 4, 3) := by decide +kernel
theorem dX12_bell_94 : decode cX12_bell 94 = .ok (.iload_n 1, 1) := by decide +kernel
theorem dX12_bell_95 : decode cX12_bell 95 = .ok (.istore_n 1, 1) := by decide +kernel
theorem dX12_bell_96 : decode cX12_bell 96 = .ok (.iinc 2 1, 3) := by decide +kernel
theorem dX12_bell_99 : decode cX12_bell 99 = .ok (.goto (-30), 3) := by decide +kernel
theorem dX12_bell_102 : decode cX12_bell 102 = .ok (.aload_n 0, 1) := by decide +kernel
theorem dX12_bell_103 : decode cX12_bell 103 = .ok (.getfield 150, 3) := by decide +kernel
theorem dX12_bell_106 : decode cX12_bell 106 = .ok (.iload_n 1, 1) := by decide +kernel
theorem dX12_bell_107 : decode cX12_bell 107 = .ok (.iaload, 1) := by decide +kernel
theorem dX12_bell_108 : decode cX12_bell 108 = .ok (.ifCond .le 7, 3) := by decide +kernel
theorem dX12_bell_111 : decode cX12_bell 111 = .ok (.iload_n 1, 1) := by decide +kernel
theorem dX12_bell_112 : decode cX12_bell 112 = .ok (.goto 13, 3) := by decide +kernel
theorem dX12_bell_115 : decode cX12_bell 115 = .ok (.aload_n 0, 1) := by decide +kernel
theorem dX12_bell_116 : decode cX12_bell 116 = .ok (.aload_n 0, 1) := by decide +kernel
theorem dX12_bell_117 : decode cX12_bell 117 = .ok (.getfield 433, 3) := by decide +kernel
theorem dX12_bell_120 : decode cX12_bell 120 = .ok (.iconst 1, 1) := by decide +kernel
theorem dX12_bell_121 : decode cX12_bell 121 = .ok (.iadd, 1) := by decide +kernel
theorem dX12_bell_122 : decode cX12_bell 122 = .ok (.invokevirtual 436, 3) := by decide +kernel
theorem dX12_bell_125 : decode cX12_bell 125 = .ok (.ireturn, 1) := by decide +kernel
noncomputable def F_X12_bell_69 (k102 : Nat → Int32 → m_M → Option (Int32 × m_M)) : Nat → Nat → Int32 → Int32 → m_M → Option (Int32 × m_M)
  | 0, _, _, _, _ => none
  | n + 1, v1, v2, v3, M =>
    if (6 : Int32) ≤ v3 then (
      k102 v1 v2 M
    ) else
    m_let (fun (v4 : Nat) (v5 : Int32) (v6 : Int32) (M1 : m_M) =>
      m_let (v5 + (1 : Int32)) fun v7 =>
      F_X12_bell_69 k102 n v4 v6 v7 M1
    ) fun (k95 : Nat → Int32 → Int32 → m_M → Option (Int32 × m_M)) =>
    x_gN 10 M v1 71 fun v8 =>
    x_aI 12 M v8 v3 fun v9 =>
    x_gN 10 M v1 71 fun v10 =>
    x_aI 12 M v10 v2 fun v11 =>
    if v9 ≤ v11 then (
      k95 v1 v3 v2 M
    ) else
    k95 v1 v3 v3 M
noncomputable def F_X12_bell_23 (k65 : Nat → m_M → Option (Int32 × m_M)) : Nat → Nat → Int32 → m_M → Option (Int32 × m_M)
  | 0, _, _, _ => none
  | n + 1, v1, v2, M =>
    x_gN 10 M v1 10 fun v3 =>
    x_aI 12 M v3 (4 : Int32) fun v4 =>
    if v4 ≤ v2 then (
      k65 v1 M
    ) else
    m_let (fun (v5 : Nat) (v6 : Int32) (M1 : m_M) =>
      m_let (v6 + (1 : Int32)) fun v7 =>
      F_X12_bell_23 k65 n v5 v7 M1
    ) fun (k59 : Nat → Int32 → m_M → Option (Int32 × m_M)) =>
    x_gN 10 M v1 70 fun v8 =>
    x_aI 12 M v8 v2 fun v9 =>
    if v9 ≤ 0 then (
      k59 v1 v2 M
    ) else
    x_gN 10 M v1 71 fun v10 =>
    x_gN 10 M v1 70 fun v11 =>
    x_aI 12 M v11 v2 fun v12 =>
    x_aI 12 M v10 (v12 - (1 : Int32)) fun v13 =>
    x_sI 12 M v10 (v12 - (1 : Int32)) (v13 + (1 : Int32)) fun M2 =>
    k59 v1 v2 M2
noncomputable def F_X12_bell_2 (k21 : Nat → m_M → Option (Int32 × m_M)) : Nat → Nat → Int32 → m_M → Option (Int32 × m_M)
  | 0, _, _, _ => none
  | n + 1, v1, v2, M =>
    if (6 : Int32) ≤ v2 then (
      k21 v1 M
    ) else
    x_gN 10 M v1 71 fun v3 =>
    x_sI 12 M v3 v2 (0 : Int32) fun M1 =>
    m_let (v2 + (1 : Int32)) fun v4 =>
    F_X12_bell_2 k21 n v1 v4 M1
noncomputable def F_X12_bell (a0 : Nat) (M : m_M) : Option (Int32 × m_M) :=
  m_let (fun (v1 : Nat) (M1 : m_M) =>
    m_let (fun (v2 : Nat) (M2 : m_M) =>
      m_let (fun (v3 : Nat) (v4 : Int32) (M3 : m_M) =>
        x_gN 10 M3 v3 71 fun v5 =>
        x_aI 12 M3 v5 v4 fun v6 =>
        if v6 ≤ 0 then (
          x_gI 10 M3 v3 53 fun v7 =>
          x_cV 10 M3 v3 (F_X12_verbOf v3 (v7 + (1 : Int32)) M3) fun v8 M4 =>
          some (v8, M4)
        ) else
        some (v4, M3)
      ) fun (k102 : Nat → Int32 → m_M → Option (Int32 × m_M)) =>
      F_X12_bell_69 k102 m_FU v2 (0 : Int32) (1 : Int32) M2
    ) fun (k65 : Nat → m_M → Option (Int32 × m_M)) =>
    F_X12_bell_23 k65 m_FU v1 (0 : Int32) M1
  ) fun (k21 : Nat → m_M → Option (Int32 × m_M)) =>
  F_X12_bell_2 k21 m_FU a0 (0 : Int32) M
set_option maxHeartbeats 4000000 in
theorem L_X12_bell_69 {X : j_X} {Φ : Option Value → m_M → Prop} (C : j_C X yX12_bell cX12_bell 3 (some .int) 2 0 0 Φ) {k102 : Nat → Int32 → m_M → Option (Int32 × m_M)} (hk102 : ∀ (p0 : Nat) (p1 : Int32) (M : m_M), m_ok e_I Φ (k102 p0 p1 M) → j_J X 3 102 [some (.ref p0), some (.int p1), none] [] (0, 0) M) : ∀ (n : Nat) (v1 : Nat) (v2 : Int32) (v3 : Int32) (M : m_M), m_ok e_I Φ (F_X12_bell_69 k102 n v1 v2 v3 M) → j_J X 3 69 [some (.ref v1), some (.int v2), some (.int v3)] [] (0, 0) M := by
  have C0 := C.1
  intro n
  induction n with
  | zero => intro v1 v2 v3 M h; exact False.elim h
  | succ n ih =>
    intro v1 v2 v3 M h
    rw [F_X12_bell_69] at h
    refine j_iload_n C0 (pc := 69) dX12_bell_69 rfl ?_
    refine j_bipush C0 (pc := 70) dX12_bell_70 (v := (6 : Int32)) (by decide) ?_
    refine j_icmp_ge C0 (pc := 72) (tgt := 102) dX12_bell_72 (by decide) (fun hc => ?_) (fun hc => ?_)
    · replace h := (X_if h).1 hc
      exact j_J.wq (hk102 v1 v2 M h) (And.intro rfl (And.intro rfl (trivial)))
    · replace h := (X_if h).2 hc
      refine X_join (fun (kj : Nat → Int32 → Int32 → m_M → Option (Int32 × m_M)) => ∀ (p0 : Nat) (p1 : Int32) (p2 : Int32) (M : m_M), m_ok e_I Φ (kj p0 p1 p2 M) → j_J X 3 95 [some (.ref p0), none, some (.int p1)] [.int p2] (0, 0) M) h (fun v4 v5 v6 M1 h => ?_) (fun k95 hk95 h => ?_)
      · refine j_istore_n C0 (pc := 95) dX12_bell_95 (Nat.le_of_ble_eq_true rfl) ?_
        show j_J X 3 96 [some (.ref v4), some (.int v6), some (.int v5)] [] (0, 0) M1
        refine j_iinc C0 (pc := 96) dX12_bell_96 (v := v5 + (1 : Int32)) rfl (Nat.le_of_ble_eq_true rfl) (by rfl) ?_
        refine X_let (G := fun w => j_J X 3 99 [some (.ref v4), some (.int v6), some (.int w)] [] (0, 0) M1) h (fun v7 h => ?_)
        refine j_goto C0 (pc := 99) (tgt := 69) dX12_bell_99 (by decide) ?_
        exact j_J.wq (ih v4 v6 v7 M1 h) (And.intro rfl (And.intro rfl (And.intro rfl (trivial))))
      · refine j_aload_n C0 (pc := 75) dX12_bell_75 rfl ?_
        refine X_gN C0 (pc := 76) f_OM_150_10 rfl dX12_bell_76 h (fun v8 h => ?_)
        refine j_iload_n C0 (pc := 79) dX12_bell_79 rfl ?_
        refine X_iald C0 (pc := 80) dX12_bell_80 h (fun v9 h => ?_)
        refine j_aload_n C0 (pc := 81) dX12_bell_81 rfl ?_
        refine X_gN C0 (pc := 82) f_OM_150_10 rfl dX12_bell_82 h (fun v10 h => ?_)
        refine j_iload_n C0 (pc := 85) dX12_bell_85 rfl ?_
        refine X_iald C0 (pc := 86) dX12_bell_86 h (fun v11 h => ?_)
        refine j_icmp_le C0 (pc := 87) (tgt := 94) dX12_bell_87 (by decide) (fun hc => ?_) (fun hc => ?_)
        · replace h := (X_if h).1 hc
          refine j_iload_n C0 (pc := 94) dX12_bell_94 rfl ?_
          exact j_J.wq (hk95 v1 v3 v2 M h) (And.intro rfl (And.intro rfl (trivial)))
        · replace h := (X_if h).2 hc
          refine j_iload_n C0 (pc := 90) dX12_bell_90 rfl ?_
          refine j_goto C0 (pc := 91) (tgt := 95) dX12_bell_91 (by decide) ?_
          exact j_J.wq (hk95 v1 v3 v3 M h) (And.intro rfl (And.intro rfl (trivial)))
set_option maxHeartbeats 4000000 in
theorem L_X12_bell_23 {X : j_X} {Φ : Option Value → m_M → Prop} (C : j_C X yX12_bell cX12_bell 3 (some .int) 2 0 0 Φ) {k65 : Nat → m_M → Option (Int32 × m_M)} (hk65 : ∀ (p0 : Nat) (M : m_M), m_ok e_I Φ (k65 p0 M) → j_J X 3 65 [some (.ref p0), none, none] [] (0, 0) M) : ∀ (n : Nat) (v1 : Nat) (v2 : Int32) (M : m_M), m_ok e_I Φ (F_X12_bell_23 k65 n v1 v2 M) → j_J X 3 23 [some (.ref v1), some (.int v2), none] [] (0, 0) M := by
  have C0 := C.1
  intro n
  induction n with
  | zero => intro v1 v2 M h; exact False.elim h
  | succ n ih =>
    intro v1 v2 M h
    rw [F_X12_bell_23] at h
    refine j_iload_n C0 (pc := 23) dX12_bell_23 rfl ?_
    refine j_aload_n C0 (pc := 24) dX12_bell_24 rfl ?_
    refine X_gN C0 (pc := 25) f_OM_13_10 rfl dX12_bell_25 h (fun v3 h => ?_)
    refine j_iconst C0 (pc := 28) dX12_bell_28 (v := (4 : Int32)) (by decide) ?_
    refine X_iald C0 (pc := 29) dX12_bell_29 h (fun v4 h => ?_)
    refine j_icmp_ge C0 (pc := 30) (tgt := 65) dX12_bell_30 (by decide) (fun hc => ?_) (fun hc => ?_)
    · replace h := (X_if h).1 hc
      exact j_J.wq (hk65 v1 M h) (And.intro rfl (trivial))
    · replace h := (X_if h).2 hc
      refine X_join (fun (kj : Nat → Int32 → m_M → Option (Int32 × m_M)) => ∀ (p0 : Nat) (p1 : Int32) (M : m_M), m_ok e_I Φ (kj p0 p1 M) → j_J X 3 59 [some (.ref p0), some (.int p1), none] [] (0, 0) M) h (fun v5 v6 M1 h => ?_) (fun k59 hk59 h => ?_)
      · refine j_iinc C0 (pc := 59) dX12_bell_59 (v := v6 + (1 : Int32)) rfl (Nat.le_of_ble_eq_true rfl) (by rfl) ?_
        refine X_let (G := fun w => j_J X 3 62 [some (.ref v5), some (.int w), none] [] (0, 0) M1) h (fun v7 h => ?_)
        refine j_goto C0 (pc := 62) (tgt := 23) dX12_bell_62 (by decide) ?_
        exact j_J.wq (ih v5 v7 M1 h) (And.intro rfl (And.intro rfl (trivial)))
      · refine j_aload_n C0 (pc := 33) dX12_bell_33 rfl ?_
        refine X_gN C0 (pc := 34) f_OM_147_10 rfl dX12_bell_34 h (fun v8 h => ?_)
        refine j_iload_n C0 (pc := 37) dX12_bell_37 rfl ?_
        refine X_iald C0 (pc := 38) dX12_bell_38 h (fun v9 h => ?_)
        refine j_if_le C0 (pc := 39) (tgt := 59) dX12_bell_39 (by decide) (fun hc => ?_) (fun hc => ?_)
        · replace h := (X_if h).1 hc
          exact j_J.wq (hk59 v1 v2 M h) (And.intro rfl (And.intro rfl (trivial)))
        · replace h := (X_if h).2 hc
          refine j_aload_n C0 (pc := 42) dX12_bell_42 rfl ?_
          refine X_gN C0 (pc := 43) f_OM_150_10 rfl dX12_bell_43 h (fun v10 h => ?_)
          refine j_aload_n C0 (pc := 46) dX12_bell_46 rfl ?_
          refine X_gN C0 (pc := 47) f_OM_147_10 rfl dX12_bell_47 h (fun v11 h => ?_)
          refine j_iload_n C0 (pc := 50) dX12_bell_50 rfl ?_
          refine X_iald C0 (pc := 51) dX12_bell_51 h (fun v12 h => ?_)
          refine j_iconst C0 (pc := 52) dX12_bell_52 (v := (1 : Int32)) (by decide) ?_
          refine j_isub C0 (pc := 53) dX12_bell_53 ?_
          refine j_dup2 C0 (pc := 54) dX12_bell_54 rfl rfl ?_
          refine X_iald C0 (pc := 55) dX12_bell_55 h (fun v13 h => ?_)
          refine j_iconst C0 (pc := 56) dX12_bell_56 (v := (1 : Int32)) (by decide) ?_
          refine j_iadd C0 (pc := 57) dX12_bell_57 ?_
          refine X_iast C0 (pc := 58) dX12_bell_58 h (fun M2 h => ?_)
          exact j_J.wq (hk59 v1 v2 M2 h) (And.intro rfl (And.intro rfl (trivial)))
set_option maxHeartbeats 4000000 in
theorem L_X12_bell_2 {X : j_X} {Φ : Option Value → m_M → Prop} (C : j_C X yX12_bell cX12_bell 3 (some .int) 2 0 0 Φ) {k21 : Nat → m_M → Option (Int32 × m_M)} (hk21 : ∀ (p0 : Nat) (M : m_M), m_ok e_I Φ (k21 p0 M) → j_J X 3 21 [some (.ref p0), none, none] [] (0, 0) M) : ∀ (n : Nat) (v1 : Nat) (v2 : Int32) (M : m_M), m_ok e_I Φ (F_X12_bell_2 k21 n v1 v2 M) → j_J X 3 2 [some (.ref v1), some (.int v2), none] [] (0, 0) M := by
  have C0 := C.1
  intro n
  induction n with
  | zero => intro v1 v2 M h; exact False.elim h
  | succ n ih =>
    intro v1 v2 M h
    rw [F_X12_bell_2] at h
    refine j_iload_n C0 (pc := 2) dX12_bell_2 rfl ?_
    refine j_bipush C0 (pc := 3) dX12_bell_3 (v := (6 : Int32)) (by decide) ?_
    refine j_icmp_ge C0 (pc := 5) (tgt := 21) dX12_bell_5 (by decide) (fun hc => ?_) (fun hc => ?_)
    · replace h := (X_if h).1 hc
      exact j_J.wq (hk21 v1 M h) (And.intro rfl (trivial))
    · replace h := (X_if h).2 hc
      refine j_aload_n C0 (pc := 8) dX12_bell_8 rfl ?_
      refine X_gN C0 (pc := 9) f_OM_150_10 rfl dX12_bell_9 h (fun v3 h => ?_)
      refine j_iload_n C0 (pc := 12) dX12_bell_12 rfl ?_
      refine j_iconst C0 (pc := 13) dX12_bell_13 (v := (0 : Int32)) (by decide) ?_
      refine X_iast C0 (pc := 14) dX12_bell_14 h (fun M1 h => ?_)
      refine j_iinc C0 (pc := 15) dX12_bell_15 (v := v2 + (1 : Int32)) rfl (Nat.le_of_ble_eq_true rfl) (by rfl) ?_
      refine X_let (G := fun w => j_J X 3 18 [some (.ref v1), some (.int w), none] [] (0, 0) M1) h (fun v4 h => ?_)
      refine j_goto C0 (pc := 18) (tgt := 2) dX12_bell_18 (by decide) ?_
      exact j_J.wq (ih v1 v4 M1 h) (And.intro rfl (And.intro rfl (trivial)))
set_option maxHeartbeats 4000000 in
theorem K_X12_bell (a0 : Nat) (M : m_M) (Φ : Option Value → m_M → Prop) (h : m_ok e_I Φ (F_X12_bell a0 M)) : j_Ct yX12_bell cX12_bell 3 (some .int) 2 0 0 [.ref a0] M Φ := by
  refine j_Ct.of (by decide +kernel) (Nat.le_of_ble_eq_true rfl) fun X C => ?_
  have C0 := C.1
  show j_J X 3 0 [some (.ref a0), none, none] [] (0, 0) M
  unfold F_X12_bell at h
  refine j_iconst C0 (pc := 0) dX12_bell_0 (v := (0 : Int32)) (by decide) ?_
  refine j_istore_n C0 (pc := 1) dX12_bell_1 (Nat.le_of_ble_eq_true rfl) ?_
  show j_J X 3 2 [some (.ref a0), some (.int (0 : Int32)), none] [] (0, 0) M
  refine X_join (fun (kj : Nat → m_M → Option (Int32 × m_M)) => ∀ (p0 : Nat) (M : m_M), m_ok e_I Φ (kj p0 M) → j_J X 3 21 [some (.ref p0), none, none] [] (0, 0) M) h (fun v1 M1 h => ?_) (fun k21 hk21 h => ?_)
  · refine j_iconst C0 (pc := 21) dX12_bell_21 (v := (0 : Int32)) (by decide) ?_
    refine j_istore_n C0 (pc := 22) dX12_bell_22 (Nat.le_of_ble_eq_true rfl) ?_
    show j_J X 3 23 [some (.ref v1), some (.int (0 : Int32)), none] [] (0, 0) M1
    refine X_join (fun (kj : Nat → m_M → Option (Int32 × m_M)) => ∀ (p0 : Nat) (M : m_M), m_ok e_I Φ (kj p0 M) → j_J X 3 65 [some (.ref p0), none, none] [] (0, 0) M) h (fun v2 M2 h => ?_) (fun k65 hk65 h => ?_)
    · refine j_iconst C0 (pc := 65) dX12_bell_65 (v := (0 : Int32)) (by decide) ?_
      refine j_istore_n C0 (pc := 66) dX12_bell_66 (Nat.le_of_ble_eq_true rfl) ?_
      show j_J X 3 67 [some (.ref v2), some (.int (0 : Int32)), none] [] (0, 0) M2
      refine j_iconst C0 (pc := 67) dX12_bell_67 (v := (1 : Int32)) (by decide) ?_
      refine j_istore_n C0 (pc := 68) dX12_bell_68 (Nat.le_of_ble_eq_true rfl) ?_
      show j_J X 3 69 [some (.ref v2), some (.int (0 : Int32)), some (.int (1 : Int32))] [] (0, 0) M2
      refine X_join (fun (kj : Nat → Int32 → m_M → Option (Int32 × m_M)) => ∀ (p0 : Nat) (p1 : Int32) (M : m_M), m_ok e_I Φ (kj p0 p1 M) → j_J X 3 102 [some (.ref p0), some (.int p1), none] [] (0, 0) M) h (fun v3 v4 M3 h => ?_) (fun k102 hk102 h => ?_)
      · refine j_aload_n C0 (pc := 102) dX12_bell_102 rfl ?_
        refine X_gN C0 (pc := 103) f_OM_150_10 rfl dX12_bell_103 h (fun v5 h => ?_)
        refine j_iload_n C0 (pc := 106) dX12_bell_106 rfl ?_
        refine X_iald C0 (pc := 107) dX12_bell_107 h (fun v6 h => ?_)
        refine j_if_le C0 (pc := 108) (tgt := 115) dX12_bell_108 (by decide) (fun hc => ?_) (fun hc => ?_)
        · replace h := (X_if h).1 hc
          refine j_aload_n C0 (pc := 115) dX12_bell_115 rfl ?_
          refine j_aload_n C0 (pc := 116) dX12_bell_116 rfl ?_
          refine X_gI C0 (pc := 117) f_OM_433_10 rfl dX12_bell_117 h (fun v7 h => ?_)
          refine j_iconst C0 (pc := 120) dX12_bell_120 (v := (1 : Int32)) (by decide) ?_
          refine j_iadd C0 (pc := 121) dX12_bell_121 ?_
          refine X_cV C0 (pc := 122) (e' := e_I) (as := [.int (v7 + (1 : Int32))]) (rest := []) (s' := fun w => .int w :: []) (g' := (0, 0)) v_OM_436_10 (fun Ψ hΨ => K_X12_verbOf v3 (v7 + (1 : Int32)) M3 Ψ hΨ) rfl rfl (fun _ => rfl) (by decide) (by decide) rfl (Nat.le_of_ble_eq_true rfl) dX12_bell_122 h (fun v8 M4 h => ?_)
          exact j_iret C rfl h dX12_bell_125 (by decide)
        · replace h := (X_if h).2 hc
          refine j_iload_n C0 (pc := 111) dX12_bell_111 rfl ?_
          refine j_goto C0 (pc := 112) (tgt := 125) dX12_bell_112 (by decide) ?_
          exact j_iret C rfl h dX12_bell_125 (by decide)
      · exact j_J.wq (L_X12_bell_69 C hk102 m_FU v2 (0 : Int32) (1 : Int32) M2 h) (And.intro rfl (And.intro rfl (And.intro rfl (trivial))))
    · exact j_J.wq (L_X12_bell_23 C hk65 m_FU v1 (0 : Int32) M1 h) (And.intro rfl (And.intro rfl (trivial)))
  · exact j_J.wq (L_X12_bell_2 C hk21 m_FU a0 (0 : Int32) M h) (And.intro rfl (And.intro rfl (trivial)))
theorem dX12_bits_0 : decode cX12_bits 0 = .ok (.iconst 0, 1) := by decide +kernel
theorem dX12_bits_1 : decode cX12_bits 1 = .ok (.istore_n 1, 1) := by decide +kernel
theorem dX12_bits_2 : decode cX12_bits 2 = .ok (.iconst 0, 1) := by decide +kernel
theorem dX12_bits_3 : decode cX12_bits 3 = .ok (.istore_n 2, 1) := by decide +kernel
theorem dX12_bits_4 : decode cX12_bits 4 = .ok (.iload_n 2, 1) := by decide +kernel
theorem dX12_bits_5 : decode cX12_bits 5 = .ok (.bipush 12, 2) := by decide +kernel
theorem dX12_bits_7 : decode cX12_bits 7 = .ok (.if_icmp .ge 17, 3) := by decide +kernel
theorem dX12_bits_10 : decode cX12_bits 10 = .ok (.iload_n 1, 1) := by decide +kernel
theorem dX12_bits_11 : decode cX12_bits 11 = .ok (.iload_n 0, 1) := by decide +kernel
theorem dX12_bits_12 : decode cX12_bits 12 = .ok (.iload_n 2, 1) := by decide +kernel
theorem dX12_bits_13 : decode cX12_bits 13 = .ok (.ishr, 1) := by decide +kernel
theorem dX12_bits_14 : decode cX12_bits 14 = .ok (.iconst 1, 1) := by decide +kernel
theorem dX12_bits_15 : decode cX12_bits 15 = .ok (.iand, 1) := by decide +kernel
theorem dX12_bits_16 : decode cX12_bits 16 = .ok (.iadd, 1) := by decide +kernel
theorem dX12_bits_17 : decode cX12_bits 17 = .ok (.istore_n 1, 1) := by decide +kernel
theorem dX12_bits_18 : decode cX12_bits 18 = .ok (.iinc 2 1, 3) := by decide +kernel
theorem dX12_bits_21 : decode cX12_bits 21 = .ok (.goto (-17), 3) := by decide +kernel
theorem dX12_bits_24 : decode cX12_bits 24 = .ok (.iload_n 1, 1) := by decide +kernel
theorem dX12_bits_25 : decode cX12_bits 25 = .ok (.ireturn, 1) := by decide +kernel
noncomputable def F_X12_bits_4 : Nat → Int32 → Int32 → Int32 → m_M → Option (Int32 × m_M)
  | 0, _, _, _, _ => none
  | n + 1, v1, v2, v3, M =>
    if (12 : Int32) ≤ v3 then (
      some (v2, M)
    ) else
    m_let (v2 + ((v1 >>> (v3 &&& 31)) &&& (1 : Int32))) fun v4 =>
    m_let (v3 + (1 : Int32)) fun v5 =>
    F_X12_bits_4 n v1 v4 v5 M
noncomputable def F_X12_bits (a1 : Int32) (M : m_M) : Option (Int32 × m_M) :=
  F_X12_bits_4 m_FU a1 (0 : Int32) (0 : Int32) M
set_option maxHeartbeats 4000000 in
theorem L_X12_bits_4 {X : j_X} {Φ : Option Value → m_M → Prop} (C : j_C X yX12_bits cX12_bits 3 (some .int) 1 0 0 Φ) : ∀ (n : Nat) (v1 : Int32) (v2 : Int32) (v3 : Int32) (M : m_M), m_ok e_I Φ (F_X12_bits_4 n v1 v2 v3 M) → j_J X 3 4 [some (.int v1), some (.int v2), some (.int v3)] [] (0, 0) M := by
  have C0 := C.1
  intro n
  induction n with
  | zero => intro v1 v2 v3 M h; exact False.elim h
  | succ n ih =>
    intro v1 v2 v3 M h
    rw [F_X12_bits_4] at h
    refine j_iload_n C0 (pc := 4) dX12_bits_4 rfl ?_
    refine j_bipush C0 (pc := 5) dX12_bits_5 (v := (12 : Int32)) (by decide) ?_
    refine j_icmp_ge C0 (pc := 7) (tgt := 24) dX12_bits_7 (by decide) (fun hc => ?_) (fun hc => ?_)
    · replace h := (X_if h).1 hc
      refine j_iload_n C0 (pc := 24) dX12_bits_24 rfl ?_
      exact j_iret C rfl h dX12_bits_25 (by decide)
    · replace h := (X_if h).2 hc
      refine j_iload_n C0 (pc := 10) dX12_bits_10 rfl ?_
      refine j_iload_n C0 (pc := 11) dX12_bits_11 rfl ?_
      refine j_iload_n C0 (pc := 12) dX12_bits_12 rfl ?_
      refine j_ishr C0 (pc := 13) dX12_bits_13 ?_
      refine j_iconst C0 (pc := 14) dX12_bits_14 (v := (1 : Int32)) (by decide) ?_
      refine j_iand C0 (pc := 15) dX12_bits_15 ?_
      refine j_iadd C0 (pc := 16) dX12_bits_16 ?_
      refine X_let (G := fun w => j_J X 3 17 [some (.int v1), some (.int v2), some (.int v3)] (.int w :: []) (0, 0) M) h (fun v4 h => ?_)
      refine j_istore_n C0 (pc := 17) dX12_bits_17 (Nat.le_of_ble_eq_true rfl) ?_
      show j_J X 3 18 [some (.int v1), some (.int v4), some (.int v3)] [] (0, 0) M
      refine j_iinc C0 (pc := 18) dX12_bits_18 (v := v3 + (1 : Int32)) rfl (Nat.le_of_ble_eq_true rfl) (by rfl) ?_
      refine X_let (G := fun w => j_J X 3 21 [some (.int v1), some (.int v4), some (.int w)] [] (0, 0) M) h (fun v5 h => ?_)
      refine j_goto C0 (pc := 21) (tgt := 4) dX12_bits_21 (by decide) ?_
      exact j_J.wq (ih v1 v4 v5 M h) (And.intro rfl (And.intro rfl (And.intro rfl (trivial))))
set_option maxHeartbeats 4000000 in
theorem K_X12_bits (a1 : Int32) (M : m_M) (Φ : Option Value → m_M → Prop) (h : m_ok e_I Φ (F_X12_bits a1 M)) : j_Ct yX12_bits cX12_bits 3 (some .int) 1 0 0 [.int a1] M Φ := by
  refine j_Ct.of (by decide +kernel) (Nat.le_of_ble_eq_true rfl) fun X C => ?_
  have C0 := C.1
  show j_J X 3 0 [some (.int a1), none, none] [] (0, 0) M
  unfold F_X12_bits at h
  refine j_iconst C0 (pc := 0) dX12_bits_0 (v := (0 : Int32)) (by decide) ?_
  refine j_istore_n C0 (pc := 1) dX12_bits_1 (Nat.le_of_ble_eq_true rfl) ?_
  show j_J X 3 2 [some (.int a1), some (.int (0 : Int32)), none] [] (0, 0) M
  refine j_iconst C0 (pc := 2) dX12_bits_2 (v := (0 : Int32)) (by decide) ?_
  refine j_istore_n C0 (pc := 3) dX12_bits_3 (Nat.le_of_ble_eq_true rfl) ?_
  show j_J X 3 4 [some (.int a1), some (.int (0 : Int32)), some (.int (0 : Int32))] [] (0, 0) M
  exact j_J.wq (L_X12_bits_4 C m_FU a1 (0 : Int32) (0 : Int32) M h) (And.intro rfl (And.intro rfl (And.intro rfl (trivial))))
theorem dX12_isAny_0 : decode cX12_isAny 0 = .ok (.iconst 0, 1) := by decide +kernel
theorem dX12_isAny_1 : decode cX12_isAny 1 = .ok (.istore_n 2, 1) := by decide +kernel
theorem dX12_isAny_2 : decode cX12_isAny 2 = .ok (.iload_n 2, 1) := by decide +kernel
theorem dX12_isAny_3 : decode cX12_isAny 3 = .ok (.aload_n 0, 1) := by decide +kernel
theorem dX12_isAny_4 : decode cX12_isAny 4 = .ok (.getfield 386, 3) := by decide +kernel
theorem dX12_isAny_7 : decode cX12_isAny 7 = .ok (.if_icmp .ge 19, 3) := by decide +kernel
theorem dX12_isAny_10 : decode cX12_isAny 10 = .ok (.aload_n 1, 1) := by decide +kernel
theorem dX12_isAny_11 : decode cX12_isAny 11 = .ok (.iload_n 2, 1) := by decide +kernel
theorem dX12_isAny_12 : decode cX12_isAny 12 = .ok (.laload, 1) := by decide +kernel
theorem dX12_isAny_13 : decode cX12_isAny 13 = .ok (.lconst 0, 1) := by decide +kernel
theorem dX12_isAny_14 : decode cX12_isAny 14 = .ok (.lcmp, 1) := by decide +kernel
theorem dX12_isAny_15 : decode cX12_isAny 15 = .ok (.ifCond .eq 5, 3) := by decide +kernel
theorem dX12_isAny_18 : decode cX12_isAny 18 = .ok (.iconst 1, 1) := by decide +kernel
theorem dX12_isAny_19 : decode cX12_isAny 19 = .ok (.ireturn, 1) := by decide +kernel
theorem dX12_isAny_20 : decode cX12_isAny 20 = .ok (.iinc 2 1, 3) := by decide +kernel
theorem dX12_isAny_23 : decode cX12_isAny 23 = .ok (.goto (-21), 3) := by decide +kernel
theorem dX12_isAny_26 : decode cX12_isAny 26 = .ok (.iconst 0, 1) := by decide +kernel
theorem dX12_isAny_27 : decode cX12_isAny 27 = .ok (.ireturn, 1) := by decide +kernel
noncomputable def F_X12_isAny_2 : Nat → Nat → Nat → Int32 → m_M → Option (Int32 × m_M)
  | 0, _, _, _, _ => none
  | n + 1, v1, v2, v3, M =>
    x_gI 10 M v1 43 fun v4 =>
    if v4 ≤ v3 then (
      some ((0 : Int32), M)
    ) else
    x_aL M v2 v3 fun v5 =>
    if (lg_cmp v5 (0 : Int64)) = 0 then (
      m_let (v3 + (1 : Int32)) fun v6 =>
      F_X12_isAny_2 n v1 v2 v6 M
    ) else
    some ((1 : Int32), M)
noncomputable def F_X12_isAny (a0 : Nat) (a1 : Nat) (M : m_M) : Option (Int32 × m_M) :=
  F_X12_isAny_2 m_FU a0 a1 (0 : Int32) M
set_option maxHeartbeats 4000000 in
theorem L_X12_isAny_2 {X : j_X} {Φ : Option Value → m_M → Prop} (C : j_C X yX12_isAny cX12_isAny 3 (some .boolean) 1 0 0 Φ) : ∀ (n : Nat) (v1 : Nat) (v2 : Nat) (v3 : Int32) (M : m_M), m_ok e_I Φ (F_X12_isAny_2 n v1 v2 v3 M) → j_J X 3 2 [some (.ref v1), some (.ref v2), some (.int v3)] [] (0, 0) M := by
  have C0 := C.1
  intro n
  induction n with
  | zero => intro v1 v2 v3 M h; exact False.elim h
  | succ n ih =>
    intro v1 v2 v3 M h
    rw [F_X12_isAny_2] at h
    refine j_iload_n C0 (pc := 2) dX12_isAny_2 rfl ?_
    refine j_aload_n C0 (pc := 3) dX12_isAny_3 rfl ?_
    refine X_gI C0 (pc := 4) f_OM_386_10 rfl dX12_isAny_4 h (fun v4 h => ?_)
    refine j_icmp_ge C0 (pc := 7) (tgt := 26) dX12_isAny_7 (by decide) (fun hc => ?_) (fun hc => ?_)
    · replace h := (X_if h).1 hc
      refine j_iconst C0 (pc := 26) dX12_isAny_26 (v := (0 : Int32)) (by decide) ?_
      exact j_zret C rfl (by decide) h dX12_isAny_27 (by decide)
    · replace h := (X_if h).2 hc
      refine j_aload_n C0 (pc := 10) dX12_isAny_10 rfl ?_
      refine j_iload_n C0 (pc := 11) dX12_isAny_11 rfl ?_
      refine X_lald C0 (pc := 12) dX12_isAny_12 h (fun v5 h => ?_)
      refine j_lconst C0 (pc := 13) dX12_isAny_13 (v := (0 : Int64)) (by decide) ?_
      refine j_lcmp C0 (pc := 14) dX12_isAny_14 ?_
      refine j_if_eq C0 (pc := 15) (tgt := 20) dX12_isAny_15 (by decide) (fun hc => ?_) (fun hc => ?_)
      · replace h := (X_if h).1 hc
        refine j_iinc C0 (pc := 20) dX12_isAny_20 (v := v3 + (1 : Int32)) rfl (Nat.le_of_ble_eq_true rfl) (by rfl) ?_
        refine X_let (G := fun w => j_J X 3 23 [some (.ref v1), some (.ref v2), some (.int w)] [] (0, 0) M) h (fun v6 h => ?_)
        refine j_goto C0 (pc := 23) (tgt := 2) dX12_isAny_23 (by decide) ?_
        exact j_J.wq (ih v1 v2 v6 M h) (And.intro rfl (And.intro rfl (And.intro rfl (trivial))))
      · replace h := (X_if h).2 hc
        refine j_iconst C0 (pc := 18) dX12_isAny_18 (v := (1 : Int32)) (by decide) ?_
        exact j_zret C rfl (by decide) h dX12_isAny_19 (by decide)
set_option maxHeartbeats 4000000 in
theorem K_X12_isAny (a0 : Nat) (a1 : Nat) (M : m_M) (Φ : Option Value → m_M → Prop) (h : m_ok e_I Φ (F_X12_isAny a0 a1 M)) : j_Ct yX12_isAny cX12_isAny 3 (some .boolean) 1 0 0 [.ref a0, .ref a1] M Φ := by
  refine j_Ct.of (by decide +kernel) (Nat.le_of_ble_eq_true rfl) fun X C => ?_
  have C0 := C.1
  show j_J X 3 0 [some (.ref a0), some (.ref a1), none] [] (0, 0) M
  unfold F_X12_isAny at h
  refine j_iconst C0 (pc := 0) dX12_isAny_0 (v := (0 : Int32)) (by decide) ?_
  refine j_istore_n C0 (pc := 1) dX12_isAny_1 (Nat.le_of_ble_eq_true rfl) ?_
  show j_J X 3 2 [some (.ref a0), some (.ref a1), some (.int (0 : Int32))] [] (0, 0) M
  exact j_J.wq (L_X12_isAny_2 C m_FU a0 a1 (0 : Int32) M h) (And.intro rfl (And.intro rfl (And.intro rfl (trivial))))
theorem dX12_clash_0 : decode cX12_clash 0 = .ok (.aload_n 0, 1) := by decide +kernel
theorem dX12_clash_1 : decode cX12_clash 1 = .ok (.iconst 0, 1) := by decide +kernel
theorem dX12_clash_2 : decode cX12_clash 2 = .ok (.putfield 163, 3) := by decide +kernel
theorem dX12_clash_5 : decode cX12_clash 5 = .ok (.aload_n 0, 1) := by decide +kernel
theorem dX12_clash_6 : decode cX12_clash 6 = .ok (.invokevirtual 463, 3) := by decide +kernel
theorem dX12_clash_9 : decode cX12_clash 9 = .ok (.aload_n 0, 1) := by decide +kernel
theorem dX12_clash_10 : decode cX12_clash 10 = .ok (.aload_n 0, 1) := by decide +kernel
theorem dX12_clash_11 : decode cX12_clash 11 = .ok (.getfield 135, 3) := by decide +kernel
theorem dX12_clash_14 : decode cX12_clash 14 = .ok (.invokevirtual 491, 3) := by decide +kernel
theorem dX12_clash_17 : decode cX12_clash 17 = .ok (.ifCond .eq 5, 3) := by decide +kernel
theorem dX12_clash_20 : decode cX12_clash 20 = .ok (.iconst (-1), 1) := by decide +kernel
theorem dX12_clash_21 : decode cX12_clash 21 = .ok (.ireturn, 1) := by decide +kernel
theorem dX12_clash_22 : decode cX12_clash 22 = .ok (.iconst (-1), 1) := by decide +kernel
theorem dX12_clash_23 : decode cX12_clash 23 = .ok (.istore_n 1, 1) := by decide +kernel
theorem dX12_clash_24 : decode cX12_clash 24 = .ok (.iconst 0, 1) := by decide +kernel
theorem dX12_clash_25 : decode cX12_clash 25 = .ok (.istore_n 2, 1) := by decide +kernel
theorem dX12_clash_26 : decode cX12_clash 26 = .ok (.iload_n 2, 1) := by decide +kernel
theorem dX12_clash_27 : decode cX12_clash 27 = .ok (.iconst 1, 1) := by decide +kernel
theorem dX12_clash_28 : decode cX12_clash 28 = .ok (.aload_n 0, 1) := by decide +kernel
theorem dX12_clash_29 : decode cX12_clash 29 = .ok (.getfield 108, 3) := by decide +kernel
theorem dX12_clash_32 : decode cX12_clash 32 = .ok (.iconst 0, 1) := by decide +kernel
theorem dX12_clash_33 : decode cX12_clash 33 = .ok (.iaload, 1) := by decide +kernel
theorem dX12_clash_34 : decode cX12_clash 34 = .ok (.ishl, 1) := by decide +kernel
theorem dX12_clash_35 : decode cX12_clash 35 = .ok (.if_icmp .ge 53, 3) := by decide +kernel
theorem dX12_clash_38 : decode cX12_clash 38 = .ok (.iload_n 1, 1) := by decide +kernel
theorem dX12_clash_39 : decode cX12_clash 39 = .ok (.ifCond .lt 17, 3) := by decide +kernel
theorem dX12_clash_42 : decode cX12_clash 42 = .ok (.iload_n 2, 1) := by decide +kernel
theorem dX12_clash_43 : decode cX12_clash 43 = .ok (.invokestatic 495, 3) := by decide +kernel
theorem dX12_clash_46 : decode cX12_clash 46 = .ok (.iload_n 1, 1) := by decide +kernel
theorem dX12_clash_47 : decode cX12_clash 47 = .ok (.invokestatic 495, 3) := by decide +kernel
theorem dX12_clash_50 : decode cX12_clash 50 = .ok (.if_icmp .lt 6, 3) := by decide +kernel
theorem dX12_clash_53 : decode cX12_clash 53 = .ok (.goto 29, 3) := by decide +kernel
theorem dX12_clash_56 : decode cX12_clash 56 = .ok (.aload_n 0, 1) := by decide +kernel
theorem dX12_clash_57 : decode cX12_clash 57 = .ok (.aload_n 0, 1) := by decide +kernel
theorem dX12_clash_58 : decode cX12_clash 58 = .ok (.getfield 138, 3) := by decide +kernel
theorem dX12_clash_61 : decode cX12_clash 61 = .ok (.iload_n 2, 1) := by decide +kernel
theorem dX12_clash_62 : decode cX12_clash 62 = .ok (.aload_n 0, 1) := by decide +kernel
theorem dX12_clash_63 : decode cX12_clash 63 = .ok (.getfield 433, 3) := by decide +kernel
theorem dX12_clash_66 : decode cX12_clash 66 = .ok (.invokevirtual 459, 3) := by decide +kernel
theorem dX12_clash_69 : decode cX12_clash 69 = .ok (.aload_n 0, 1) := by decide +kernel
theorem dX12_clash_70 : decode cX12_clash 70 = .ok (.aload_n 0, 1) := by decide +kernel
theorem dX12_clash_71 : decode cX12_clash 71 = .ok (.getfield 138, 3) := by decide +kernel
theorem dX12_clash_74 : decode cX12_clash 74 = .ok (.invokevirtual 491, 3) := by decide +kernel
theorem dX12_clash_77 : decode cX12_clash 77 = .ok (.ifCond .ne 5, 3) := by decide +kernel
theorem dX12_clash_80 : decode cX12_clash 80 = .ok (.iload_n 2, 1) := by decide +kernel
theorem dX12_clash_81 : decode cX12_clash 81 = .ok (.istore_n 1, 1) := by decide +kernel
theorem dX12_clash_82 : decode cX12_clash 82 = .ok (.iinc 2 1, 3) := by decide +kernel
theorem dX12_clash_85 : decode cX12_clash 85 = .ok (.goto (-59), 3) := by decide +kernel
theorem dX12_clash_88 : decode cX12_clash 88 = .ok (.iload_n 1, 1) := by decide +kernel
theorem dX12_clash_89 : decode cX12_clash 89 = .ok (.ireturn, 1) := by decide +kernel
noncomputable def F_X12_clash_26 : Nat → Nat → Int32 → Int32 → m_M → Option (Int32 × m_M)
  | 0, _, _, _, _ => none
  | n + 1, v1, v2, v3, M =>
    x_gN 10 M v1 51 fun v4 =>
    x_aI 12 M v4 (0 : Int32) fun v5 =>
    if ((1 : Int32) <<< (v5 &&& 31)) ≤ v3 then (
      some (v2, M)
    ) else
    m_let (fun (v6 : Nat) (v7 : Int32) (v8 : Int32) (M1 : m_M) =>
      m_let (v8 + (1 : Int32)) fun v9 =>
      F_X12_clash_26 n v6 v7 v9 M1
    ) fun (k82 : Nat → Int32 → Int32 → m_M → Option (Int32 × m_M)) =>
    m_let (fun (v10 : Nat) (v11 : Int32) (v12 : Int32) (M2 : m_M) =>
      x_gN 10 M2 v10 63 fun v13 =>
      x_gI 10 M2 v10 53 fun v14 =>
      x_cV 10 M2 v10 (F_X12_laysLeft v10 v13 v12 v14 M2) fun _ M3 =>
      x_gN 10 M3 v10 63 fun v15 =>
      x_cV 10 M3 v10 (F_X12_isAny v10 v15 M3) fun v16 M4 =>
      if v16 = 0 then (
        k82 v10 v12 v12 M4
      ) else
      k82 v10 v11 v12 M4
    ) fun (k56 : Nat → Int32 → Int32 → m_M → Option (Int32 × m_M)) =>
    if v2 < 0 then (
      k56 v1 v2 v3 M
    ) else
    x_bd (F_X12_bits v3 M) fun v17 M5 =>
    x_bd (F_X12_bits v2 M5) fun v18 M6 =>
    if v17 < v18 then (
      k56 v1 v2 v3 M6
    ) else
    k82 v1 v2 v3 M6
noncomputable def F_X12_clash (a0 : Nat) (M : m_M) : Option (Int32 × m_M) :=
  x_pI 10 M a0 0 (0 : Int32) fun M1 =>
  x_cV 10 M1 a0 (F_X12_leaves a0 M1) fun _ M2 =>
  x_gN 10 M2 a0 62 fun v1 =>
  x_cV 10 M2 a0 (F_X12_isAny a0 v1 M2) fun v2 M3 =>
  if v2 = 0 then (
    F_X12_clash_26 m_FU a0 (-1 : Int32) (0 : Int32) M3
  ) else
  some ((-1 : Int32), M3)
set_option maxHeartbeats 4000000 in
theorem L_X12_clash_26 {X : j_X} {Φ : Option Value → m_M → Prop} (C : j_C X yX12_clash cX12_clash 3 (some .int) 4 0 0 Φ) : ∀ (n : Nat) (v1 : Nat) (v2 : Int32) (v3 : Int32) (M : m_M), m_ok e_I Φ (F_X12_clash_26 n v1 v2 v3 M) → j_J X 3 26 [some (.ref v1), some (.int v2), some (.int v3)] [] (0, 0) M := by
  have C0 := C.1
  intro n
  induction n with
  | zero => intro v1 v2 v3 M h; exact False.elim h
  | succ n ih =>
    intro v1 v2 v3 M h
    rw [F_X12_clash_26] at h
    refine j_iload_n C0 (pc := 26) dX12_clash_26 rfl ?_
    refine j_iconst C0 (pc := 27) dX12_clash_27 (v := (1 : Int32)) (by decide) ?_
    refine j_aload_n C0 (pc := 28) dX12_clash_28 rfl ?_
    refine X_gN C0 (pc := 29) f_OM_108_10 rfl dX12_clash_29 h (fun v4 h => ?_)
    refine j_iconst C0 (pc := 32) dX12_clash_32 (v := (0 : Int32)) (by decide) ?_
    refine X_iald C0 (pc := 33) dX12_clash_33 h (fun v5 h => ?_)
    refine j_ishl C0 (pc := 34) dX12_clash_34 ?_
    refine j_icmp_ge C0 (pc := 35) (tgt := 88) dX12_clash_35 (by decide) (fun hc => ?_) (fun hc => ?_)
    · replace h := (X_if h).1 hc
      refine j_iload_n C0 (pc := 88) dX12_clash_88 rfl ?_
      exact j_iret C rfl h dX12_clash_89 (by decide)
    · replace h := (X_if h).2 hc
      refine X_join (fun (kj : Nat → Int32 → Int32 → m_M → Option (Int32 × m_M)) => ∀ (p0 : Nat) (p1 : Int32) (p2 : Int32) (M : m_M), m_ok e_I Φ (kj p0 p1 p2 M) → j_J X 3 82 [some (.ref p0), some (.int p1), some (.int p2)] [] (0, 0) M) h (fun v6 v7 v8 M1 h => ?_) (fun k82 hk82 h => ?_)
      · refine j_iinc C0 (pc := 82) dX12_clash_82 (v := v8 + (1 : Int32)) rfl (Nat.le_of_ble_eq_true rfl) (by rfl) ?_
        refine X_let (G := fun w => j_J X 3 85 [some (.ref v6), some (.int v7), some (.int w)] [] (0, 0) M1) h (fun v9 h => ?_)
        refine j_goto C0 (pc := 85) (tgt := 26) dX12_clash_85 (by decide) ?_
        exact j_J.wq (ih v6 v7 v9 M1 h) (And.intro rfl (And.intro rfl (And.intro rfl (trivial))))
      · refine X_join (fun (kj : Nat → Int32 → Int32 → m_M → Option (Int32 × m_M)) => ∀ (p0 : Nat) (p1 : Int32) (p2 : Int32) (M : m_M), m_ok e_I Φ (kj p0 p1 p2 M) → j_J X 3 56 [some (.ref p0), some (.int p1), some (.int p2)] [] (0, 0) M) h (fun v10 v11 v12 M2 h => ?_) (fun k56 hk56 h => ?_)
        · refine j_aload_n C0 (pc := 56) dX12_clash_56 rfl ?_
          refine j_aload_n C0 (pc := 57) dX12_clash_57 rfl ?_
          refine X_gN C0 (pc := 58) f_OM_138_10 rfl dX12_clash_58 h (fun v13 h => ?_)
          refine j_iload_n C0 (pc := 61) dX12_clash_61 rfl ?_
          refine j_aload_n C0 (pc := 62) dX12_clash_62 rfl ?_
          refine X_gI C0 (pc := 63) f_OM_433_10 rfl dX12_clash_63 h (fun v14 h => ?_)
          refine X_cV C0 (pc := 66) (e' := e_V) (as := [.ref v13, .int v12, .int v14]) (rest := []) (s' := fun _ => []) (g' := (0, 0)) v_OM_459_10 (fun Ψ hΨ => K_X12_laysLeft v10 v13 v12 v14 M2 Ψ hΨ) rfl rfl (fun _ => rfl) (by decide) (by decide) rfl (Nat.le_of_ble_eq_true rfl) dX12_clash_66 h (fun _ M3 h => ?_)
          refine j_aload_n C0 (pc := 69) dX12_clash_69 rfl ?_
          refine j_aload_n C0 (pc := 70) dX12_clash_70 rfl ?_
          refine X_gN C0 (pc := 71) f_OM_138_10 rfl dX12_clash_71 h (fun v15 h => ?_)
          refine X_cV C0 (pc := 74) (e' := e_I) (as := [.ref v15]) (rest := []) (s' := fun w => .int w :: []) (g' := (0, 0)) v_OM_491_10 (fun Ψ hΨ => K_X12_isAny v10 v15 M3 Ψ hΨ) rfl rfl (fun _ => rfl) (by decide) (by decide) rfl (Nat.le_of_ble_eq_true rfl) dX12_clash_74 h (fun v16 M4 h => ?_)
          refine j_if_ne C0 (pc := 77) (tgt := 82) dX12_clash_77 (by decide) (fun hc => ?_) (fun hc => ?_)
          · replace h := (X_if h).2 hc
            exact j_J.wq (hk82 v10 v11 v12 M4 h) (And.intro rfl (And.intro rfl (And.intro rfl (trivial))))
          · replace h := (X_if h).1 hc
            refine j_iload_n C0 (pc := 80) dX12_clash_80 rfl ?_
            refine j_istore_n C0 (pc := 81) dX12_clash_81 (Nat.le_of_ble_eq_true rfl) ?_
            show j_J X 3 82 [some (.ref v10), some (.int v12), some (.int v12)] [] (0, 0) M4
            exact j_J.wq (hk82 v10 v12 v12 M4 h) (And.intro rfl (And.intro rfl (And.intro rfl (trivial))))
        · refine j_iload_n C0 (pc := 38) dX12_clash_38 rfl ?_
          refine j_if_lt C0 (pc := 39) (tgt := 56) dX12_clash_39 (by decide) (fun hc => ?_) (fun hc => ?_)
          · replace h := (X_if h).1 hc
            exact j_J.wq (hk56 v1 v2 v3 M h) (And.intro rfl (And.intro rfl (And.intro rfl (trivial))))
          · replace h := (X_if h).2 hc
            refine j_iload_n C0 (pc := 42) dX12_clash_42 rfl ?_
            refine X_cS C0 (pc := 43) (e' := e_I) (as := [.int v3]) (rest := []) (s' := fun w => .int w :: []) (g' := (0, 0)) s_OM_495 (fun Ψ hΨ => K_X12_bits v3 M Ψ hΨ) rfl rfl (fun _ => rfl) (by decide) (by decide) rfl (Nat.le_of_ble_eq_true rfl) dX12_clash_43 h (fun v17 M5 h => ?_)
            refine j_iload_n C0 (pc := 46) dX12_clash_46 rfl ?_
            refine X_cS C0 (pc := 47) (e' := e_I) (as := [.int v2]) (rest := [.int v17]) (s' := fun w => .int w :: [.int v17]) (g' := (0, 0)) s_OM_495 (fun Ψ hΨ => K_X12_bits v2 M5 Ψ hΨ) rfl rfl (fun _ => rfl) (by decide) (by decide) rfl (Nat.le_of_ble_eq_true rfl) dX12_clash_47 h (fun v18 M6 h => ?_)
            refine j_icmp_lt C0 (pc := 50) (tgt := 56) dX12_clash_50 (by decide) (fun hc => ?_) (fun hc => ?_)
            · replace h := (X_if h).1 hc
              exact j_J.wq (hk56 v1 v2 v3 M6 h) (And.intro rfl (And.intro rfl (And.intro rfl (trivial))))
            · replace h := (X_if h).2 hc
              refine j_goto C0 (pc := 53) (tgt := 82) dX12_clash_53 (by decide) ?_
              exact j_J.wq (hk82 v1 v2 v3 M6 h) (And.intro rfl (And.intro rfl (And.intro rfl (trivial))))
set_option maxHeartbeats 4000000 in
theorem K_X12_clash (a0 : Nat) (M : m_M) (Φ : Option Value → m_M → Prop) (h : m_ok e_I Φ (F_X12_clash a0 M)) : j_Ct yX12_clash cX12_clash 3 (some .int) 4 0 0 [.ref a0] M Φ := by
  refine j_Ct.of (by decide +kernel) (Nat.le_of_ble_eq_true rfl) fun X C => ?_
  have C0 := C.1
  show j_J X 3 0 [some (.ref a0), none, none] [] (0, 0) M
  unfold F_X12_clash at h
  refine j_aload_n C0 (pc := 0) dX12_clash_0 rfl ?_
  refine j_iconst C0 (pc := 1) dX12_clash_1 (v := (0 : Int32)) (by decide) ?_
  refine X_pI C0 (pc := 2) f_OM_163_10 rfl rfl dX12_clash_2 h (fun M1 h => ?_)
  refine j_aload_n C0 (pc := 5) dX12_clash_5 rfl ?_
  refine X_cV C0 (pc := 6) (e' := e_V) (as := []) (rest := []) (s' := fun _ => []) (g' := (0, 0)) v_OM_463_10 (fun Ψ hΨ => K_X12_leaves a0 M1 Ψ hΨ) rfl rfl (fun _ => rfl) (by decide) (by decide) rfl (Nat.le_of_ble_eq_true rfl) dX12_clash_6 h (fun _ M2 h => ?_)
  refine j_aload_n C0 (pc := 9) dX12_clash_9 rfl ?_
  refine j_aload_n C0 (pc := 10) dX12_clash_10 rfl ?_
  refine X_gN C0 (pc := 11) f_OM_135_10 rfl dX12_clash_11 h (fun v1 h => ?_)
  refine X_cV C0 (pc := 14) (e' := e_I) (as := [.ref v1]) (rest := []) (s' := fun w => .int w :: []) (g' := (0, 0)) v_OM_491_10 (fun Ψ hΨ => K_X12_isAny a0 v1 M2 Ψ hΨ) rfl rfl (fun _ => rfl) (by decide) (by decide) rfl (Nat.le_of_ble_eq_true rfl) dX12_clash_14 h (fun v2 M3 h => ?_)
  refine j_if_eq C0 (pc := 17) (tgt := 22) dX12_clash_17 (by decide) (fun hc => ?_) (fun hc => ?_)
  · replace h := (X_if h).1 hc
    refine j_iconst C0 (pc := 22) dX12_clash_22 (v := (-1 : Int32)) (by decide) ?_
    refine j_istore_n C0 (pc := 23) dX12_clash_23 (Nat.le_of_ble_eq_true rfl) ?_
    show j_J X 3 24 [some (.ref a0), some (.int (-1 : Int32)), none] [] (0, 0) M3
    refine j_iconst C0 (pc := 24) dX12_clash_24 (v := (0 : Int32)) (by decide) ?_
    refine j_istore_n C0 (pc := 25) dX12_clash_25 (Nat.le_of_ble_eq_true rfl) ?_
    show j_J X 3 26 [some (.ref a0), some (.int (-1 : Int32)), some (.int (0 : Int32))] [] (0, 0) M3
    exact j_J.wq (L_X12_clash_26 C m_FU a0 (-1 : Int32) (0 : Int32) M3 h) (And.intro rfl (And.intro rfl (And.intro rfl (trivial))))
  · replace h := (X_if h).2 hc
    refine j_iconst C0 (pc := 20) dX12_clash_20 (v := (-1 : Int32)) (by decide) ?_
    exact j_iret C rfl h dX12_clash_21 (by decide)
theorem dX12_partOf_0 : decode cX12_partOf 0 = .ok (.iload_n 0, 1) := by decide +kernel
theorem dX12_partOf_1 : decode cX12_partOf 1 = .ok (.iconst 4, 1) := by decide +kernel
theorem dX12_partOf_2 : decode cX12_partOf 2 = .ok (.idiv, 1) := by decide +kernel
theorem dX12_partOf_3 : decode cX12_partOf 3 = .ok (.bipush 8, 2) := by decide +kernel
theorem dX12_partOf_5 : decode cX12_partOf 5 = .ok (.iload_n 0, 1) := by decide +kernel
theorem dX12_partOf_6 : decode cX12_partOf 6 = .ok (.iconst 4, 1) := by decide +kernel
theorem dX12_partOf_7 : decode cX12_partOf 7 = .ok (.irem, 1) := by decide +kernel
theorem dX12_partOf_8 : decode cX12_partOf 8 = .ok (.imul, 1) := by decide +kernel
theorem dX12_partOf_9 : decode cX12_partOf 9 = .ok (.iadd, 1) := by decide +kernel
theorem dX12_partOf_10 : decode cX12_partOf 10 = .ok (.ireturn, 1) := by decide +kernel
noncomputable def F_X12_partOf (a1 : Int32) (M : m_M) : Option (Int32 × m_M) :=
  x_nz (4 : Int32) <|
  x_nz (4 : Int32) <|
  some ((a1 / (4 : Int32)) + ((8 : Int32) * (a1 - a1 / (4 : Int32) * (4 : Int32))), M)
set_option maxHeartbeats 4000000 in
theorem K_X12_partOf (a1 : Int32) (M : m_M) (Φ : Option Value → m_M → Prop) (h : m_ok e_I Φ (F_X12_partOf a1 M)) : j_Ct yX12_partOf cX12_partOf 1 (some .int) 1 0 0 [.int a1] M Φ := by
  refine j_Ct.of (by decide +kernel) (Nat.le_of_ble_eq_true rfl) fun X C => ?_
  have C0 := C.1
  show j_J X 1 0 [some (.int a1)] [] (0, 0) M
  unfold F_X12_partOf at h
  refine j_iload_n C0 (pc := 0) dX12_partOf_0 rfl ?_
  refine j_iconst C0 (pc := 1) dX12_partOf_1 (v := (4 : Int32)) (by decide) ?_
  refine X_idiv C0 (pc := 2) dX12_partOf_2 h (fun h => ?_)
  refine j_bipush C0 (pc := 3) dX12_partOf_3 (v := (8 : Int32)) (by decide) ?_
  refine j_iload_n C0 (pc := 5) dX12_partOf_5 rfl ?_
  refine j_iconst C0 (pc := 6) dX12_partOf_6 (v := (4 : Int32)) (by decide) ?_
  refine X_irem C0 (pc := 7) dX12_partOf_7 h (fun h => ?_)
  refine j_imul C0 (pc := 8) dX12_partOf_8 ?_
  refine j_iadd C0 (pc := 9) dX12_partOf_9 ?_
  exact j_iret C rfl h dX12_partOf_10 (by decide)
theorem dX12_clauseHolds_0 : decode cX12_clauseHolds 0 = .ok (.aload_n 0, 1) := by decide +kernel
theorem dX12_clauseHolds_1 : decode cX12_clauseHolds 1 = .ok (.iload_n 2, 1) := by decide +kernel
theorem dX12_clauseHolds_2 : decode cX12_clauseHolds 2 = .ok (.iload_n 1, 1) := by decide +kernel
theorem dX12_clauseHolds_3 : decode cX12_clauseHolds 3 = .ok (.bipush 20, 2) := by decide +kernel
theorem dX12_clauseHolds_5 : decode cX12_clauseHolds 5 = .ok (.idiv, 1) := by decide +kernel
theorem dX12_clauseHolds_6 : decode cX12_clauseHolds 6 = .ok (.invokestatic 472, 3) := by decide +kernel
theorem dX12_clauseHolds_9 : decode cX12_clauseHolds 9 = .ok (.iload_n 1, 1) := by decide +kernel
theorem dX12_clauseHolds_10 : decode cX12_clauseHolds 10 = .ok (.bipush 20, 2) := by decide +kernel
theorem dX12_clauseHolds_12 : decode cX12_clauseHolds 12 = .ok (.irem, 1) := by decide +kernel
theorem dX12_clauseHolds_13 : decode cX12_clauseHolds 13 = .ok (.invokestatic 472, 3) := by decide +kernel
theorem dX12_clauseHolds_16 : decode cX12_clauseHolds 16 = .ok (.invokevirtual 399, 3) := by decide +kernel
theorem dX12_clauseHolds_19 : decode cX12_clauseHolds 19 = .ok (.ireturn, 1) := by decide +kernel
noncomputable def F_X12_clauseHolds (a0 : Nat) (a1 : Int32) (a2 : Int32) (M : m_M) : Option (Int32 × m_M) :=
  x_nz (20 : Int32) <|
  x_bd (F_X12_partOf (a1 / (20 : Int32)) M) fun v1 M1 =>
  x_nz (20 : Int32) <|
  x_bd (F_X12_partOf (a1 - a1 / (20 : Int32) * (20 : Int32)) M1) fun v2 M2 =>
  x_cV 10 M2 a0 (F_X12_holdsBy a0 a2 v1 v2 M2) fun v3 M3 =>
  x_b v3 <| some (v3, M3)
set_option maxHeartbeats 4000000 in
theorem K_X12_clauseHolds (a0 : Nat) (a1 : Int32) (a2 : Int32) (M : m_M) (Φ : Option Value → m_M → Prop) (h : m_ok e_I Φ (F_X12_clauseHolds a0 a1 a2 M)) : j_Ct yX12_clauseHolds cX12_clauseHolds 3 (some .boolean) 7 0 0 [.ref a0, .int a1, .int a2] M Φ := by
  refine j_Ct.of (by decide +kernel) (Nat.le_of_ble_eq_true rfl) fun X C => ?_
  have C0 := C.1
  show j_J X 3 0 [some (.ref a0), some (.int a1), some (.int a2)] [] (0, 0) M
  unfold F_X12_clauseHolds at h
  refine j_aload_n C0 (pc := 0) dX12_clauseHolds_0 rfl ?_
  refine j_iload_n C0 (pc := 1) dX12_clauseHolds_1 rfl ?_
  refine j_iload_n C0 (pc := 2) dX12_clauseHolds_2 rfl ?_
  refine j_bipush C0 (pc := 3) dX12_clauseHolds_3 (v := (20 : Int32)) (by decide) ?_
  refine X_idiv C0 (pc := 5) dX12_clauseHolds_5 h (fun h => ?_)
  refine X_cS C0 (pc := 6) (e' := e_I) (as := [.int (a1 / (20 : Int32))]) (rest := [.int a2, .ref a0]) (s' := fun w => .int w :: [.int a2, .ref a0]) (g' := (0, 0)) s_OM_472 (fun Ψ hΨ => K_X12_partOf (a1 / (20 : Int32)) M Ψ hΨ) rfl rfl (fun _ => rfl) (by decide) (by decide) rfl (Nat.le_of_ble_eq_true rfl) dX12_clauseHolds_6 h (fun v1 M1 h => ?_)
  refine j_iload_n C0 (pc := 9) dX12_clauseHolds_9 rfl ?_
  refine j_bipush C0 (pc := 10) dX12_clauseHolds_10 (v := (20 : Int32)) (by decide) ?_
  refine X_irem C0 (pc := 12) dX12_clauseHolds_12 h (fun h => ?_)
  refine X_cS C0 (pc := 13) (e' := e_I) (as := [.int (a1 - a1 / (20 : Int32) * (20 : Int32))]) (rest := [.int v1, .int a2, .ref a0]) (s' := fun w => .int w :: [.int v1, .int a2, .ref a0]) (g' := (0, 0)) s_OM_472 (fun Ψ hΨ => K_X12_partOf (a1 - a1 / (20 : Int32) * (20 : Int32)) M1 Ψ hΨ) rfl rfl (fun _ => rfl) (by decide) (by decide) rfl (Nat.le_of_ble_eq_true rfl) dX12_clauseHolds_13 h (fun v2 M2 h => ?_)
  refine X_cV C0 (pc := 16) (e' := e_I) (as := [.int a2, .int v1, .int v2]) (rest := []) (s' := fun w => .int w :: []) (g' := (0, 0)) v_OM_399_10 (fun Ψ hΨ => K_X12_holdsBy a0 a2 v1 v2 M2 Ψ hΨ) rfl rfl (fun _ => rfl) (by decide) (by decide) rfl (Nat.le_of_ble_eq_true rfl) dX12_clauseHolds_16 h (fun v3 M3 h => ?_)
  exact j_zret C rfl (by rcases (X_gd h).1 with q | q <;> (rw [q]; rfl)) (X_gd h).2 dX12_clauseHolds_19 (by decide)
theorem dX12_within_0 : decode cX12_within 0 = .ok (.iload_n 0, 1) := by decide +kernel
theorem dX12_within_1 : decode cX12_within 1 = .ok (.iload_n 1, 1) := by decide +kernel
theorem dX12_within_2 : decode cX12_within 2 = .ok (.if_icmp .lt 12, 3) := by decide +kernel
theorem dX12_within_5 : decode cX12_within 5 = .ok (.iload_n 0, 1) := by decide +kernel
theorem dX12_within_6 : decode cX12_within 6 = .ok (.iload_n 2, 1) := by decide +kernel
theorem dX12_within_7 : decode cX12_within 7 = .ok (.if_icmp .gt 7, 3) := by decide +kernel
theorem dX12_within_10 : decode cX12_within 10 = .ok (.iconst 1, 1) := by decide +kernel
theorem dX12_within_11 : decode cX12_within 11 = .ok (.goto 4, 3) := by decide +kernel
theorem dX12_within_14 : decode cX12_within 14 = .ok (.iconst 0, 1) := by decide +kernel
theorem dX12_within_15 : decode cX12_within 15 = .ok (.ireturn, 1) := by decide +kernel
noncomputable def F_X12_within (a1 : Int32) (a2 : Int32) (a3 : Int32) (M : m_M) : Option (Int32 × m_M) :=
  m_let (fun  (M1 : m_M) =>
    some ((0 : Int32), M1)
  ) fun (k14 : m_M → Option (Int32 × m_M)) =>
  if a1 < a2 then (
    k14 M
  ) else
  if a3 < a1 then (
    k14 M
  ) else
  some ((1 : Int32), M)
set_option maxHeartbeats 4000000 in
theorem K_X12_within (a1 : Int32) (a2 : Int32) (a3 : Int32) (M : m_M) (Φ : Option Value → m_M → Prop) (h : m_ok e_I Φ (F_X12_within a1 a2 a3 M)) : j_Ct yX12_within cX12_within 3 (some .boolean) 1 0 0 [.int a1, .int a2, .int a3] M Φ := by
  refine j_Ct.of (by decide +kernel) (Nat.le_of_ble_eq_true rfl) fun X C => ?_
  have C0 := C.1
  show j_J X 3 0 [some (.int a1), some (.int a2), some (.int a3)] [] (0, 0) M
  unfold F_X12_within at h
  refine X_join (fun (kj : m_M → Option (Int32 × m_M)) => ∀  (M : m_M), m_ok e_I Φ (kj M) → j_J X 3 14 [none, none, none] [] (0, 0) M) h (fun M1 h => ?_) (fun k14 hk14 h => ?_)
  · refine j_iconst C0 (pc := 14) dX12_within_14 (v := (0 : Int32)) (by decide) ?_
    exact j_zret C rfl (by decide) h dX12_within_15 (by decide)
  · refine j_iload_n C0 (pc := 0) dX12_within_0 rfl ?_
    refine j_iload_n C0 (pc := 1) dX12_within_1 rfl ?_
    refine j_icmp_lt C0 (pc := 2) (tgt := 14) dX12_within_2 (by decide) (fun hc => ?_) (fun hc => ?_)
    · replace h := (X_if h).1 hc
      exact j_J.wq (hk14 M h) (trivial)
    · replace h := (X_if h).2 hc
      refine j_iload_n C0 (pc := 5) dX12_within_5 rfl ?_
      refine j_iload_n C0 (pc := 6) dX12_within_6 rfl ?_
      refine j_icmp_gt C0 (pc := 7) (tgt := 14) dX12_within_7 (by decide) (fun hc => ?_) (fun hc => ?_)
      · replace h := (X_if h).1 hc
        exact j_J.wq (hk14 M h) (trivial)
      · replace h := (X_if h).2 hc
        refine j_iconst C0 (pc := 10) dX12_within_10 (v := (1 : Int32)) (by decide) ?_
        refine j_goto C0 (pc := 11) (tgt := 15) dX12_within_11 (by decide) ?_
        exact j_zret C rfl (by decide) h dX12_within_15 (by decide)
theorem dX12_count_0 : decode cX12_count 0 = .ok (.aload_n 0, 1) := by decide +kernel
theorem dX12_count_1 : decode cX12_count 1 = .ok (.iconst 0, 1) := by decide +kernel
theorem dX12_count_2 : decode cX12_count 2 = .ok (.putfield 163, 3) := by decide +kernel
theorem dX12_count_5 : decode cX12_count 5 = .ok (.iload_n 1, 1) := by decide +kernel
theorem dX12_count_6 : decode cX12_count 6 = .ok (.iconst 0, 1) := by decide +kernel
theorem dX12_count_7 : decode cX12_count 7 = .ok (.bipush 13, 2) := by decide +kernel
theorem dX12_count_9 : decode cX12_count 9 = .ok (.invokestatic 279, 3) := by decide +kernel
theorem dX12_count_12 : decode cX12_count 12 = .ok (.ifCond .ne 5, 3) := by decide +kernel
theorem dX12_count_15 : decode cX12_count 15 = .ok (.iconst (-1), 1) := by decide +kernel
theorem dX12_count_16 : decode cX12_count 16 = .ok (.ireturn, 1) := by decide +kernel
theorem dX12_count_17 : decode cX12_count 17 = .ok (.iload_n 1, 1) := by decide +kernel
theorem dX12_count_18 : decode cX12_count 18 = .ok (.bipush 6, 2) := by decide +kernel
theorem dX12_count_20 : decode cX12_count 20 = .ok (.if_icmp .ge 10, 3) := by decide +kernel
theorem dX12_count_23 : decode cX12_count 23 = .ok (.aload_n 0, 1) := by decide +kernel
theorem dX12_count_24 : decode cX12_count 24 = .ok (.getfield 13, 3) := by decide +kernel
theorem dX12_count_27 : decode cX12_count 27 = .ok (.iload_n 1, 1) := by decide +kernel
theorem dX12_count_28 : decode cX12_count 28 = .ok (.iaload, 1) := by decide +kernel
theorem dX12_count_29 : decode cX12_count 29 = .ok (.ireturn, 1) := by decide +kernel
theorem dX12_count_30 : decode cX12_count 30 = .ok (.iload_n 1, 1) := by decide +kernel
theorem dX12_count_31 : decode cX12_count 31 = .ok (.bipush 6, 2) := by decide +kernel
theorem dX12_count_33 : decode cX12_count 33 = .ok (.if_icmp .ne 8, 3) := by decide +kernel
theorem dX12_count_36 : decode cX12_count 36 = .ok (.aload_n 0, 1) := by decide +kernel
theorem dX12_count_37 : decode cX12_count 37 = .ok (.getfield 433, 3) := by decide +kernel
theorem dX12_count_40 : decode cX12_count 40 = .ok (.ireturn, 1) := by decide +kernel
theorem dX12_count_41 : decode cX12_count 41 = .ok (.iload_n 1, 1) := by decide +kernel
theorem dX12_count_42 : decode cX12_count 42 = .ok (.bipush 9, 2) := by decide +kernel
theorem dX12_count_44 : decode cX12_count 44 = .ok (.if_icmp .ge 13, 3) := by decide +kernel
theorem dX12_count_47 : decode cX12_count 47 = .ok (.aload_n 0, 1) := by decide +kernel
theorem dX12_count_48 : decode cX12_count 48 = .ok (.getfield 108, 3) := by decide +kernel
theorem dX12_count_51 : decode cX12_count 51 = .ok (.iload_n 1, 1) := by decide +kernel
theorem dX12_count_52 : decode cX12_count 52 = .ok (.bipush 7, 2) := by decide +kernel
theorem dX12_count_54 : decode cX12_count 54 = .ok (.isub, 1) := by decide +kernel
theorem dX12_count_55 : decode cX12_count 55 = .ok (.iaload, 1) := by decide +kernel
theorem dX12_count_56 : decode cX12_count 56 = .ok (.ireturn, 1) := by decide +kernel
theorem dX12_count_57 : decode cX12_count 57 = .ok (.iload_n 1, 1) := by decide +kernel
theorem dX12_count_58 : decode cX12_count 58 = .ok (.bipush 9, 2) := by decide +kernel
theorem dX12_count_60 : decode cX12_count 60 = .ok (.if_icmp .ne 20, 3) := by decide +kernel
theorem dX12_count_63 : decode cX12_count 63 = .ok (.aload_n 0, 1) := by decide +kernel
theorem dX12_count_64 : decode cX12_count 64 = .ok (.getfield 114, 3) := by decide +kernel
theorem dX12_count_67 : decode cX12_count 67 = .ok (.iconst 0, 1) := by decide +kernel
theorem dX12_count_68 : decode cX12_count 68 = .ok (.baload, 1) := by decide +kernel
theorem dX12_count_69 : decode cX12_count 69 = .ok (.ifCond .eq 7, 3) := by decide +kernel
theorem dX12_count_72 : decode cX12_count 72 = .ok (.iconst 1, 1) := by decide +kernel
theorem dX12_count_73 : decode cX12_count 73 = .ok (.goto 55, 3) := by decide +kernel
theorem dX12_count_76 : decode cX12_count 76 = .ok (.iconst 0, 1) := by decide +kernel
theorem dX12_count_77 : decode cX12_count 77 = .ok (.goto 51, 3) := by decide +kernel
theorem dX12_count_80 : decode cX12_count 80 = .ok (.iload_n 1, 1) := by decide +kernel
theorem dX12_count_81 : decode cX12_count 81 = .ok (.bipush 10, 2) := by decide +kernel
theorem dX12_count_83 : decode cX12_count 83 = .ok (.if_icmp .ne 12, 3) := by decide +kernel
theorem dX12_count_86 : decode cX12_count 86 = .ok (.aload_n 0, 1) := by decide +kernel
theorem dX12_count_87 : decode cX12_count 87 = .ok (.getfield 126, 3) := by decide +kernel
theorem dX12_count_90 : decode cX12_count 90 = .ok (.iconst 0, 1) := by decide +kernel
theorem dX12_count_91 : decode cX12_count 91 = .ok (.iaload, 1) := by decide +kernel
theorem dX12_count_92 : decode cX12_count 92 = .ok (.goto 36, 3) := by decide +kernel
theorem dX12_count_95 : decode cX12_count 95 = .ok (.iload_n 1, 1) := by decide +kernel
theorem dX12_count_96 : decode cX12_count 96 = .ok (.bipush 11, 2) := by decide +kernel
theorem dX12_count_98 : decode cX12_count 98 = .ok (.if_icmp .ne 10, 3) := by decide +kernel
theorem dX12_count_101 : decode cX12_count 101 = .ok (.aload_n 0, 1) := by decide +kernel
theorem dX12_count_102 : decode cX12_count 102 = .ok (.getfield 420, 3) := by decide +kernel
theorem dX12_count_105 : decode cX12_count 105 = .ok (.goto 23, 3) := by decide +kernel
theorem dX12_count_108 : decode cX12_count 108 = .ok (.iload_n 1, 1) := by decide +kernel
theorem dX12_count_109 : decode cX12_count 109 = .ok (.bipush 12, 2) := by decide +kernel
theorem dX12_count_111 : decode cX12_count 111 = .ok (.if_icmp .ne 13, 3) := by decide +kernel
theorem dX12_count_114 : decode cX12_count 114 = .ok (.aload_n 0, 1) := by decide +kernel
theorem dX12_count_115 : decode cX12_count 115 = .ok (.getfield 13, 3) := by decide +kernel
theorem dX12_count_118 : decode cX12_count 118 = .ok (.bipush 6, 2) := by decide +kernel
theorem dX12_count_120 : decode cX12_count 120 = .ok (.iaload, 1) := by decide +kernel
theorem dX12_count_121 : decode cX12_count 121 = .ok (.goto 7, 3) := by decide +kernel
theorem dX12_count_124 : decode cX12_count 124 = .ok (.aload_n 0, 1) := by decide +kernel
theorem dX12_count_125 : decode cX12_count 125 = .ok (.getfield 169, 3) := by decide +kernel
theorem dX12_count_128 : decode cX12_count 128 = .ok (.ireturn, 1) := by decide +kernel
noncomputable def F_X12_count (a0 : Nat) (a1 : Int32) (M : m_M) : Option (Int32 × m_M) :=
  x_pI 10 M a0 0 (0 : Int32) fun M1 =>
  x_bd (F_X12_within a1 (0 : Int32) (13 : Int32) M1) fun v1 M2 =>
  if v1 = 0 then (
    some ((-1 : Int32), M2)
  ) else
  if (6 : Int32) ≤ a1 then (
    if a1 = (6 : Int32) then (
      x_gI 10 M2 a0 53 fun v12 =>
      some (v12, M2)
    ) else
    if (9 : Int32) ≤ a1 then (
      if a1 = (9 : Int32) then (
        x_gN 10 M2 a0 55 fun v8 =>
        x_aI 14 M2 v8 (0 : Int32) fun v9 =>
        if v9 = 0 then (
          some ((0 : Int32), M2)
        ) else
        some ((1 : Int32), M2)
      ) else
      if a1 = (10 : Int32) then (
        x_gN 10 M2 a0 59 fun v6 =>
        x_aI 12 M2 v6 (0 : Int32) fun v7 =>
        some (v7, M2)
      ) else
      if a1 = (11 : Int32) then (
        x_gI 10 M2 a0 52 fun v5 =>
        some (v5, M2)
      ) else
      if a1 = (12 : Int32) then (
        x_gN 10 M2 a0 10 fun v3 =>
        x_aI 12 M2 v3 (6 : Int32) fun v4 =>
        some (v4, M2)
      ) else
      x_gI 10 M2 a0 1 fun v2 =>
      some (v2, M2)
    ) else
    x_gN 10 M2 a0 51 fun v10 =>
    x_aI 12 M2 v10 (a1 - (7 : Int32)) fun v11 =>
    some (v11, M2)
  ) else
  x_gN 10 M2 a0 10 fun v13 =>
  x_aI 12 M2 v13 a1 fun v14 =>
  some (v14, M2)
set_option maxHeartbeats 4000000 in
theorem K_X12_count (a0 : Nat) (a1 : Int32) (M : m_M) (Φ : Option Value → m_M → Prop) (h : m_ok e_I Φ (F_X12_count a0 a1 M)) : j_Ct yX12_count cX12_count 2 (some .int) 2 0 0 [.ref a0, .int a1] M Φ := by
  refine j_Ct.of (by decide +kernel) (Nat.le_of_ble_eq_true rfl) fun X C => ?_
  have C0 := C.1
  show j_J X 2 0 [some (.ref a0), some (.int a1)] [] (0, 0) M
  unfold F_X12_count at h
  refine j_aload_n C0 (pc := 0) dX12_count_0 rfl ?_
  refine j_iconst C0 (pc := 1) dX12_count_1 (v := (0 : Int32)) (by decide) ?_
  refine X_pI C0 (pc := 2) f_OM_163_10 rfl rfl dX12_count_2 h (fun M1 h => ?_)
  refine j_iload_n C0 (pc := 5) dX12_count_5 rfl ?_
  refine j_iconst C0 (pc := 6) dX12_count_6 (v := (0 : Int32)) (by decide) ?_
  refine j_bipush C0 (pc := 7) dX12_count_7 (v := (13 : Int32)) (by decide) ?_
  refine X_cS C0 (pc := 9) (e' := e_I) (as := [.int a1, .int (0 : Int32), .int (13 : Int32)]) (rest := []) (s' := fun w => .int w :: []) (g' := (0, 0)) s_OM_279 (fun Ψ hΨ => K_X12_within a1 (0 : Int32) (13 : Int32) M1 Ψ hΨ) rfl rfl (fun _ => rfl) (by decide) (by decide) rfl (Nat.le_of_ble_eq_true rfl) dX12_count_9 h (fun v1 M2 h => ?_)
  refine j_if_ne C0 (pc := 12) (tgt := 17) dX12_count_12 (by decide) (fun hc => ?_) (fun hc => ?_)
  · replace h := (X_if h).2 hc
    refine j_iload_n C0 (pc := 17) dX12_count_17 rfl ?_
    refine j_bipush C0 (pc := 18) dX12_count_18 (v := (6 : Int32)) (by decide) ?_
    refine j_icmp_ge C0 (pc := 20) (tgt := 30) dX12_count_20 (by decide) (fun hc => ?_) (fun hc => ?_)
    · replace h := (X_if h).1 hc
      refine j_iload_n C0 (pc := 30) dX12_count_30 rfl ?_
      refine j_bipush C0 (pc := 31) dX12_count_31 (v := (6 : Int32)) (by decide) ?_
      refine j_icmp_ne C0 (pc := 33) (tgt := 41) dX12_count_33 (by decide) (fun hc => ?_) (fun hc => ?_)
      · replace h := (X_if h).2 hc
        refine j_iload_n C0 (pc := 41) dX12_count_41 rfl ?_
        refine j_bipush C0 (pc := 42) dX12_count_42 (v := (9 : Int32)) (by decide) ?_
        refine j_icmp_ge C0 (pc := 44) (tgt := 57) dX12_count_44 (by decide) (fun hc => ?_) (fun hc => ?_)
        · replace h := (X_if h).1 hc
          refine j_iload_n C0 (pc := 57) dX12_count_57 rfl ?_
          refine j_bipush C0 (pc := 58) dX12_count_58 (v := (9 : Int32)) (by decide) ?_
          refine j_icmp_ne C0 (pc := 60) (tgt := 80) dX12_count_60 (by decide) (fun hc => ?_) (fun hc => ?_)
          · replace h := (X_if h).2 hc
            refine j_iload_n C0 (pc := 80) dX12_count_80 rfl ?_
            refine j_bipush C0 (pc := 81) dX12_count_81 (v := (10 : Int32)) (by decide) ?_
            refine j_icmp_ne C0 (pc := 83) (tgt := 95) dX12_count_83 (by decide) (fun hc => ?_) (fun hc => ?_)
            · replace h := (X_if h).2 hc
              refine j_iload_n C0 (pc := 95) dX12_count_95 rfl ?_
              refine j_bipush C0 (pc := 96) dX12_count_96 (v := (11 : Int32)) (by decide) ?_
              refine j_icmp_ne C0 (pc := 98) (tgt := 108) dX12_count_98 (by decide) (fun hc => ?_) (fun hc => ?_)
              · replace h := (X_if h).2 hc
                refine j_iload_n C0 (pc := 108) dX12_count_108 rfl ?_
                refine j_bipush C0 (pc := 109) dX12_count_109 (v := (12 : Int32)) (by decide) ?_
                refine j_icmp_ne C0 (pc := 111) (tgt := 124) dX12_count_111 (by decide) (fun hc => ?_) (fun hc => ?_)
                · replace h := (X_if h).2 hc
                  refine j_aload_n C0 (pc := 124) dX12_count_124 rfl ?_
                  refine X_gI C0 (pc := 125) f_OM_169_10 rfl dX12_count_125 h (fun v2 h => ?_)
                  exact j_iret C rfl h dX12_count_128 (by decide)
                · replace h := (X_if h).1 hc
                  refine j_aload_n C0 (pc := 114) dX12_count_114 rfl ?_
                  refine X_gN C0 (pc := 115) f_OM_13_10 rfl dX12_count_115 h (fun v3 h => ?_)
                  refine j_bipush C0 (pc := 118) dX12_count_118 (v := (6 : Int32)) (by decide) ?_
                  refine X_iald C0 (pc := 120) dX12_count_120 h (fun v4 h => ?_)
                  refine j_goto C0 (pc := 121) (tgt := 128) dX12_count_121 (by decide) ?_
                  exact j_iret C rfl h dX12_count_128 (by decide)
              · replace h := (X_if h).1 hc
                refine j_aload_n C0 (pc := 101) dX12_count_101 rfl ?_
                refine X_gI C0 (pc := 102) f_OM_420_10 rfl dX12_count_102 h (fun v5 h => ?_)
                refine j_goto C0 (pc := 105) (tgt := 128) dX12_count_105 (by decide) ?_
                exact j_iret C rfl h dX12_count_128 (by decide)
            · replace h := (X_if h).1 hc
              refine j_aload_n C0 (pc := 86) dX12_count_86 rfl ?_
              refine X_gN C0 (pc := 87) f_OM_126_10 rfl dX12_count_87 h (fun v6 h => ?_)
              refine j_iconst C0 (pc := 90) dX12_count_90 (v := (0 : Int32)) (by decide) ?_
              refine X_iald C0 (pc := 91) dX12_count_91 h (fun v7 h => ?_)
              refine j_goto C0 (pc := 92) (tgt := 128) dX12_count_92 (by decide) ?_
              exact j_iret C rfl h dX12_count_128 (by decide)
          · replace h := (X_if h).1 hc
            refine j_aload_n C0 (pc := 63) dX12_count_63 rfl ?_
            refine X_gN C0 (pc := 64) f_OM_114_10 rfl dX12_count_64 h (fun v8 h => ?_)
            refine j_iconst C0 (pc := 67) dX12_count_67 (v := (0 : Int32)) (by decide) ?_
            refine X_zald C0 (pc := 68) dX12_count_68 h (fun v9 h => ?_)
            refine j_if_eq C0 (pc := 69) (tgt := 76) dX12_count_69 (by decide) (fun hc => ?_) (fun hc => ?_)
            · replace h := (X_if h).1 hc
              refine j_iconst C0 (pc := 76) dX12_count_76 (v := (0 : Int32)) (by decide) ?_
              refine j_goto C0 (pc := 77) (tgt := 128) dX12_count_77 (by decide) ?_
              exact j_iret C rfl h dX12_count_128 (by decide)
            · replace h := (X_if h).2 hc
              refine j_iconst C0 (pc := 72) dX12_count_72 (v := (1 : Int32)) (by decide) ?_
              refine j_goto C0 (pc := 73) (tgt := 128) dX12_count_73 (by decide) ?_
              exact j_iret C rfl h dX12_count_128 (by decide)
        · replace h := (X_if h).2 hc
          refine j_aload_n C0 (pc := 47) dX12_count_47 rfl ?_
          refine X_gN C0 (pc := 48) f_OM_108_10 rfl dX12_count_48 h (fun v10 h => ?_)
          refine j_iload_n C0 (pc := 51) dX12_count_51 rfl ?_
          refine j_bipush C0 (pc := 52) dX12_count_52 (v := (7 : Int32)) (by decide) ?_
          refine j_isub C0 (pc := 54) dX12_count_54 ?_
          refine X_iald C0 (pc := 55) dX12_count_55 h (fun v11 h => ?_)
          exact j_iret C rfl h dX12_count_56 (by decide)
      · replace h := (X_if h).1 hc
        refine j_aload_n C0 (pc := 36) dX12_count_36 rfl ?_
        refine X_gI C0 (pc := 37) f_OM_433_10 rfl dX12_count_37 h (fun v12 h => ?_)
        exact j_iret C rfl h dX12_count_40 (by decide)
    · replace h := (X_if h).2 hc
      refine j_aload_n C0 (pc := 23) dX12_count_23 rfl ?_
      refine X_gN C0 (pc := 24) f_OM_13_10 rfl dX12_count_24 h (fun v13 h => ?_)
      refine j_iload_n C0 (pc := 27) dX12_count_27 rfl ?_
      refine X_iald C0 (pc := 28) dX12_count_28 h (fun v14 h => ?_)
      exact j_iret C rfl h dX12_count_29 (by decide)
  · replace h := (X_if h).1 hc
    refine j_iconst C0 (pc := 15) dX12_count_15 (v := (-1 : Int32)) (by decide) ?_
    exact j_iret C rfl h dX12_count_16 (by decide)
theorem dX12_countOf_0 : decode cX12_countOf 0 = .ok (.iconst 0, 1) := by decide +kernel
theorem dX12_countOf_1 : decode cX12_countOf 1 = .ok (.istore_n 3, 1) := by decide +kernel
theorem dX12_countOf_2 : decode cX12_countOf 2 = .ok (.iconst 0, 1) := by decide +kernel
theorem dX12_countOf_3 : decode cX12_countOf 3 = .ok (.istore 4, 2) := by decide +kernel
theorem dX12_countOf_5 : decode cX12_countOf 5 = .ok (.iload 4, 2) := by decide +kernel
theorem dX12_countOf_7 : decode cX12_countOf 7 = .ok (.aload_n 0, 1) := by decide +kernel
theorem dX12_countOf_8 : decode cX12_countOf 8 = .ok (.getfield 386, 3) := by decide +kernel
theorem dX12_countOf_11 : decode cX12_countOf 11 = .ok (.if_icmp .ge 21, 3) := by decide +kernel
theorem dX12_countOf_14 : decode cX12_countOf 14 = .ok (.iload_n 3, 1) := by decide +kernel
theorem dX12_countOf_15 : decode cX12_countOf 15 = .ok (.aload_n 1, 1) := by decide +kernel
theorem dX12_countOf_16 : decode cX12_countOf 16 = .ok (.iload_n 2, 1) := by decide +kernel
theorem dX12_countOf_17 : decode cX12_countOf 17 = .ok (.iload 4, 2) := by decide +kernel
theorem dX12_countOf_19 : decode cX12_countOf 19 = .ok (.iadd, 1) := by decide +kernel
theorem dX12_countOf_20 : decode cX12_countOf 20 = .ok (.laload, 1) := by decide +kernel
theorem dX12_countOf_21 : decode cX12_countOf 21 = .ok (.invokestatic 408, 3) := by decide +kernel
theorem dX12_countOf_24 : decode cX12_countOf 24 = .ok (.iadd, 1) := by decide +kernel
theorem dX12_countOf_25 : decode cX12_countOf 25 = .ok (.istore_n 3, 1) := by decide +kernel
theorem dX12_countOf_26 : decode cX12_countOf 26 = .ok (.iinc 4 1, 3) := by decide +kernel
theorem dX12_countOf_29 : decode cX12_countOf 29 = .ok (.goto (-24), 3) := by decide +kernel
theorem dX12_countOf_32 : decode cX12_countOf 32 = .ok (.iload_n 3, 1) := by decide +kernel
theorem dX12_countOf_33 : decode cX12_countOf 33 = .ok (.ireturn, 1) := by decide +kernel
noncomputable def F_X12_countOf_5 : Nat → Nat → Nat → Int32 → Int32 → Int32 → m_M → Option (Int32 × m_M)
  | 0, _, _, _, _, _, _ => none
  | n + 1, v1, v2, v3, v4, v5, M =>
    x_gI 10 M v1 43 fun v6 =>
    if v6 ≤ v5 then (
      some (v4, M)
    ) else
    x_aL M v2 (v3 + v5) fun v7 =>
    x_bd (F_X12_ones v7 M) fun v8 M1 =>
    m_let (v4 + v8) fun v9 =>
    m_let (v5 + (1 : Int32)) fun v10 =>
    F_X12_countOf_5 n v1 v2 v3 v9 v10 M1
noncomputable def F_X12_countOf (a0 : Nat) (a1 : Nat) (a2 : Int32) (M : m_M) : Option (Int32 × m_M) :=
  F_X12_countOf_5 m_FU a0 a1 a2 (0 : Int32) (0 : Int32) M
set_option maxHeartbeats 4000000 in
theorem L_X12_countOf_5 {X : j_X} {Φ : Option Value → m_M → Prop} (C : j_C X yX12_countOf cX12_countOf 5 (some .int) 2 0 0 Φ) : ∀ (n : Nat) (v1 : Nat) (v2 : Nat) (v3 : Int32) (v4 : Int32) (v5 : Int32) (M : m_M), m_ok e_I Φ (F_X12_countOf_5 n v1 v2 v3 v4 v5 M) → j_J X 5 5 [some (.ref v1), some (.ref v2), some (.int v3), some (.int v4), some (.int v5)] [] (0, 0) M := by
  have C0 := C.1
  intro n
  induction n with
  | zero => intro v1 v2 v3 v4 v5 M h; exact False.elim h
  | succ n ih =>
    intro v1 v2 v3 v4 v5 M h
    rw [F_X12_countOf_5] at h
    refine j_iload C0 (pc := 5) dX12_countOf_5 rfl ?_
    refine j_aload_n C0 (pc := 7) dX12_countOf_7 rfl ?_
    refine X_gI C0 (pc := 8) f_OM_386_10 rfl dX12_countOf_8 h (fun v6 h => ?_)
    refine j_icmp_ge C0 (pc := 11) (tgt := 32) dX12_countOf_11 (by decide) (fun hc => ?_) (fun hc => ?_)
    · replace h := (X_if h).1 hc
      refine j_iload_n C0 (pc := 32) dX12_countOf_32 rfl ?_
      exact j_iret C rfl h dX12_countOf_33 (by decide)
    · replace h := (X_if h).2 hc
      refine j_iload_n C0 (pc := 14) dX12_countOf_14 rfl ?_
      refine j_aload_n C0 (pc := 15) dX12_countOf_15 rfl ?_
      refine j_iload_n C0 (pc := 16) dX12_countOf_16 rfl ?_
      refine j_iload C0 (pc := 17) dX12_countOf_17 rfl ?_
      refine j_iadd C0 (pc := 19) dX12_countOf_19 ?_
      refine X_lald C0 (pc := 20) dX12_countOf_20 h (fun v7 h => ?_)
      refine X_cS C0 (pc := 21) (e' := e_I) (as := [.long v7]) (rest := [.int v4]) (s' := fun w => .int w :: [.int v4]) (g' := (0, 0)) s_OM_408 (fun Ψ hΨ => K_X12_ones v7 M Ψ hΨ) rfl rfl (fun _ => rfl) (by decide) (by decide) rfl (Nat.le_of_ble_eq_true rfl) dX12_countOf_21 h (fun v8 M1 h => ?_)
      refine j_iadd C0 (pc := 24) dX12_countOf_24 ?_
      refine X_let (G := fun w => j_J X 5 25 [some (.ref v1), some (.ref v2), some (.int v3), some (.int v4), some (.int v5)] (.int w :: []) (0, 0) M1) h (fun v9 h => ?_)
      refine j_istore_n C0 (pc := 25) dX12_countOf_25 (Nat.le_of_ble_eq_true rfl) ?_
      show j_J X 5 26 [some (.ref v1), some (.ref v2), some (.int v3), some (.int v9), some (.int v5)] [] (0, 0) M1
      refine j_iinc C0 (pc := 26) dX12_countOf_26 (v := v5 + (1 : Int32)) rfl (Nat.le_of_ble_eq_true rfl) (by rfl) ?_
      refine X_let (G := fun w => j_J X 5 29 [some (.ref v1), some (.ref v2), some (.int v3), some (.int v9), some (.int w)] [] (0, 0) M1) h (fun v10 h => ?_)
      refine j_goto C0 (pc := 29) (tgt := 5) dX12_countOf_29 (by decide) ?_
      exact j_J.wq (ih v1 v2 v3 v9 v10 M1 h) (And.intro rfl (And.intro rfl (And.intro rfl (And.intro rfl (And.intro rfl (trivial))))))
set_option maxHeartbeats 4000000 in
theorem K_X12_countOf (a0 : Nat) (a1 : Nat) (a2 : Int32) (M : m_M) (Φ : Option Value → m_M → Prop) (h : m_ok e_I Φ (F_X12_countOf a0 a1 a2 M)) : j_Ct yX12_countOf cX12_countOf 5 (some .int) 2 0 0 [.ref a0, .ref a1, .int a2] M Φ := by
  refine j_Ct.of (by decide +kernel) (Nat.le_of_ble_eq_true rfl) fun X C => ?_
  have C0 := C.1
  show j_J X 5 0 [some (.ref a0), some (.ref a1), some (.int a2), none, none] [] (0, 0) M
  unfold F_X12_countOf at h
  refine j_iconst C0 (pc := 0) dX12_countOf_0 (v := (0 : Int32)) (by decide) ?_
  refine j_istore_n C0 (pc := 1) dX12_countOf_1 (Nat.le_of_ble_eq_true rfl) ?_
  show j_J X 5 2 [some (.ref a0), some (.ref a1), some (.int a2), some (.int (0 : Int32)), none] [] (0, 0) M
  refine j_iconst C0 (pc := 2) dX12_countOf_2 (v := (0 : Int32)) (by decide) ?_
  refine j_istore C0 (pc := 3) dX12_countOf_3 (Nat.le_of_ble_eq_true rfl) ?_
  show j_J X 5 5 [some (.ref a0), some (.ref a1), some (.int a2), some (.int (0 : Int32)), some (.int (0 : Int32))] [] (0, 0) M
  exact j_J.wq (L_X12_countOf_5 C m_FU a0 a1 a2 (0 : Int32) (0 : Int32) M h) (And.intro rfl (And.intro rfl (And.intro rfl (And.intro rfl (And.intro rfl (trivial))))))
theorem dX12_isNoun_0 : decode cX12_isNoun 0 = .ok (.iload_n 1, 1) := by decide +kernel
theorem dX12_isNoun_1 : decode cX12_isNoun 1 = .ok (.iconst 4, 1) := by decide +kernel
theorem dX12_isNoun_2 : decode cX12_isNoun 2 = .ok (.idiv, 1) := by decide +kernel
theorem dX12_isNoun_3 : decode cX12_isNoun 3 = .ok (.aload_n 0, 1) := by decide +kernel
theorem dX12_isNoun_4 : decode cX12_isNoun 4 = .ok (.getfield 13, 3) := by decide +kernel
theorem dX12_isNoun_7 : decode cX12_isNoun 7 = .ok (.iconst 1, 1) := by decide +kernel
theorem dX12_isNoun_8 : decode cX12_isNoun 8 = .ok (.iaload, 1) := by decide +kernel
theorem dX12_isNoun_9 : decode cX12_isNoun 9 = .ok (.if_icmp .ge 19, 3) := by decide +kernel
theorem dX12_isNoun_12 : decode cX12_isNoun 12 = .ok (.iload_n 1, 1) := by decide +kernel
theorem dX12_isNoun_13 : decode cX12_isNoun 13 = .ok (.iconst 4, 1) := by decide +kernel
theorem dX12_isNoun_14 : decode cX12_isNoun 14 = .ok (.irem, 1) := by decide +kernel
theorem dX12_isNoun_15 : decode cX12_isNoun 15 = .ok (.aload_n 0, 1) := by decide +kernel
theorem dX12_isNoun_16 : decode cX12_isNoun 16 = .ok (.getfield 13, 3) := by decide +kernel
theorem dX12_isNoun_19 : decode cX12_isNoun 19 = .ok (.iconst 2, 1) := by decide +kernel
theorem dX12_isNoun_20 : decode cX12_isNoun 20 = .ok (.iaload, 1) := by decide +kernel
theorem dX12_isNoun_21 : decode cX12_isNoun 21 = .ok (.if_icmp .gt 7, 3) := by decide +kernel
theorem dX12_isNoun_24 : decode cX12_isNoun 24 = .ok (.iconst 1, 1) := by decide +kernel
theorem dX12_isNoun_25 : decode cX12_isNoun 25 = .ok (.goto 4, 3) := by decide +kernel
theorem dX12_isNoun_28 : decode cX12_isNoun 28 = .ok (.iconst 0, 1) := by decide +kernel
theorem dX12_isNoun_29 : decode cX12_isNoun 29 = .ok (.ireturn, 1) := by decide +kernel
noncomputable def F_X12_isNoun (a0 : Nat) (a1 : Int32) (M : m_M) : Option (Int32 × m_M) :=
  m_let (fun  (M1 : m_M) =>
    some ((0 : Int32), M1)
  ) fun (k28 : m_M → Option (Int32 × m_M)) =>
  x_nz (4 : Int32) <|
  x_gN 10 M a0 10 fun v1 =>
  x_aI 12 M v1 (1 : Int32) fun v2 =>
  if v2 ≤ (a1 / (4 : Int32)) then (
    k28 M
  ) else
  x_nz (4 : Int32) <|
  x_gN 10 M a0 10 fun v3 =>
  x_aI 12 M v3 (2 : Int32) fun v4 =>
  if v4 < (a1 - a1 / (4 : Int32) * (4 : Int32)) then (
    k28 M
  ) else
  some ((1 : Int32), M)
set_option maxHeartbeats 4000000 in
theorem K_X12_isNoun (a0 : Nat) (a1 : Int32) (M : m_M) (Φ : Option Value → m_M → Prop) (h : m_ok e_I Φ (F_X12_isNoun a0 a1 M)) : j_Ct yX12_isNoun cX12_isNoun 2 (some .boolean) 1 0 0 [.ref a0, .int a1] M Φ := by
  refine j_Ct.of (by decide +kernel) (Nat.le_of_ble_eq_true rfl) fun X C => ?_
  have C0 := C.1
  show j_J X 2 0 [some (.ref a0), some (.int a1)] [] (0, 0) M
  unfold F_X12_isNoun at h
  refine X_join (fun (kj : m_M → Option (Int32 × m_M)) => ∀  (M : m_M), m_ok e_I Φ (kj M) → j_J X 2 28 [none, none] [] (0, 0) M) h (fun M1 h => ?_) (fun k28 hk28 h => ?_)
  · refine j_iconst C0 (pc := 28) dX12_isNoun_28 (v := (0 : Int32)) (by decide) ?_
    exact j_zret C rfl (by decide) h dX12_isNoun_29 (by decide)
  · refine j_iload_n C0 (pc := 0) dX12_isNoun_0 rfl ?_
    refine j_iconst C0 (pc := 1) dX12_isNoun_1 (v := (4 : Int32)) (by decide) ?_
    refine X_idiv C0 (pc := 2) dX12_isNoun_2 h (fun h => ?_)
    refine j_aload_n C0 (pc := 3) dX12_isNoun_3 rfl ?_
    refine X_gN C0 (pc := 4) f_OM_13_10 rfl dX12_isNoun_4 h (fun v1 h => ?_)
    refine j_iconst C0 (pc := 7) dX12_isNoun_7 (v := (1 : Int32)) (by decide) ?_
    refine X_iald C0 (pc := 8) dX12_isNoun_8 h (fun v2 h => ?_)
    refine j_icmp_ge C0 (pc := 9) (tgt := 28) dX12_isNoun_9 (by decide) (fun hc => ?_) (fun hc => ?_)
    · replace h := (X_if h).1 hc
      exact j_J.wq (hk28 M h) (trivial)
    · replace h := (X_if h).2 hc
      refine j_iload_n C0 (pc := 12) dX12_isNoun_12 rfl ?_
      refine j_iconst C0 (pc := 13) dX12_isNoun_13 (v := (4 : Int32)) (by decide) ?_
      refine X_irem C0 (pc := 14) dX12_isNoun_14 h (fun h => ?_)
      refine j_aload_n C0 (pc := 15) dX12_isNoun_15 rfl ?_
      refine X_gN C0 (pc := 16) f_OM_13_10 rfl dX12_isNoun_16 h (fun v3 h => ?_)
      refine j_iconst C0 (pc := 19) dX12_isNoun_19 (v := (2 : Int32)) (by decide) ?_
      refine X_iald C0 (pc := 20) dX12_isNoun_20 h (fun v4 h => ?_)
      refine j_icmp_gt C0 (pc := 21) (tgt := 28) dX12_isNoun_21 (by decide) (fun hc => ?_) (fun hc => ?_)
      · replace h := (X_if h).1 hc
        exact j_J.wq (hk28 M h) (trivial)
      · replace h := (X_if h).2 hc
        refine j_iconst C0 (pc := 24) dX12_isNoun_24 (v := (1 : Int32)) (by decide) ?_
        refine j_goto C0 (pc := 25) (tgt := 29) dX12_isNoun_25 (by decide) ?_
        exact j_zret C rfl (by decide) h dX12_isNoun_29 (by decide)
