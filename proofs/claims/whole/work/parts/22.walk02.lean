theorem dX11_drawVerb_0 : decode cX11_drawVerb 0 = .ok (.aload_n 0, 1) := by decide +kernel
theorem dX11_drawVerb_1 : decode cX11_drawVerb 1 = .ok (.bipush 10, 2) := by decide +kernel
theorem dX11_drawVerb_3 : decode cX11_drawVerb 3 = .ok (.invokevirtual 381, 3) := by decide +kernel
theorem dX11_drawVerb_6 : decode cX11_drawVerb 6 = .ok (.lookupswitch 42 #[(0, 26), (1, 28)], 26) := by decide +kernel
theorem dX11_drawVerb_32 : decode cX11_drawVerb 32 = .ok (.iconst (-1), 1) := by decide +kernel
theorem dX11_drawVerb_33 : decode cX11_drawVerb 33 = .ok (.ireturn, 1) := by decide +kernel
theorem dX11_drawVerb_34 : decode cX11_drawVerb 34 = .ok (.aload_n 0, 1) := by decide +kernel
theorem dX11_drawVerb_35 : decode cX11_drawVerb 35 = .ok (.aload_n 0, 1) := by decide +kernel
theorem dX11_drawVerb_36 : decode cX11_drawVerb 36 = .ok (.getfield 16, 3) := by decide +kernel
theorem dX11_drawVerb_39 : decode cX11_drawVerb 39 = .ok (.getfield 279, 3) := by decide +kernel
theorem dX11_drawVerb_42 : decode cX11_drawVerb 42 = .ok (.iconst 2, 1) := by decide +kernel
theorem dX11_drawVerb_43 : decode cX11_drawVerb 43 = .ok (.iaload, 1) := by decide +kernel
theorem dX11_drawVerb_44 : decode cX11_drawVerb 44 = .ok (.invokevirtual 381, 3) := by decide +kernel
theorem dX11_drawVerb_47 : decode cX11_drawVerb 47 = .ok (.ireturn, 1) := by decide +kernel
theorem dX11_drawVerb_48 : decode cX11_drawVerb 48 = .ok (.aload_n 0, 1) := by decide +kernel
theorem dX11_drawVerb_49 : decode cX11_drawVerb 49 = .ok (.getfield 16, 3) := by decide +kernel
theorem dX11_drawVerb_52 : decode cX11_drawVerb 52 = .ok (.iload_n 1, 1) := by decide +kernel
theorem dX11_drawVerb_53 : decode cX11_drawVerb 53 = .ok (.invokevirtual 162, 3) := by decide +kernel
theorem dX11_drawVerb_56 : decode cX11_drawVerb 56 = .ok (.ireturn, 1) := by decide +kernel
noncomputable def F_X11_drawVerb (a0 : Nat) (a1 : Int32) (M : m_M) : Option (Int32 × m_M) :=
  x_cV 9 M a0 (F_X11_drawBelow a0 (10 : Int32) M) fun v1 M1 =>
  if v1 = (0 : Int32) then (
    some ((-1 : Int32), M1)
  ) else
  if v1 = (1 : Int32) then (
    x_gN 9 M1 a0 2 fun v2 =>
    x_gN 3 M1 v2 6 fun v3 =>
    x_aI 12 M1 v3 (2 : Int32) fun v4 =>
    x_cV 9 M1 a0 (F_X11_drawBelow a0 v4 M1) fun v5 M2 =>
    some (v5, M2)
  ) else
  x_gN 9 M1 a0 2 fun v6 =>
  x_cV 3 M1 v6 (F_X3_verbOf v6 a1 M1) fun v7 M3 =>
  some (v7, M3)
set_option maxHeartbeats 4000000 in
theorem K_X11_drawVerb (a0 : Nat) (a1 : Int32) (M : m_M) (Φ : Option Value → m_M → Prop) (h : m_ok e_I Φ (F_X11_drawVerb a0 a1 M)) : j_Ct yX11_drawVerb cX11_drawVerb 2 (some .int) 2 0 0 [.ref a0, .int a1] M Φ := by
  refine j_Ct.of (by decide +kernel) (Nat.le_of_ble_eq_true rfl) fun X C => ?_
  have C0 := C.1
  show j_J X 2 0 [some (.ref a0), some (.int a1)] [] (0, 0) M
  unfold F_X11_drawVerb at h
  refine j_aload_n C0 (pc := 0) dX11_drawVerb_0 rfl ?_
  refine j_bipush C0 (pc := 1) dX11_drawVerb_1 (v := (10 : Int32)) (by decide) ?_
  refine X_cV C0 (pc := 3) (e' := e_I) (as := [.int (10 : Int32)]) (rest := []) (s' := fun w => .int w :: []) (g' := (0, 0)) v_OV_381_9 (fun Ψ hΨ => K_X11_drawBelow a0 (10 : Int32) M Ψ hΨ) rfl rfl (fun _ => rfl) (by decide) (by decide) rfl (Nat.le_of_ble_eq_true rfl) dX11_drawVerb_3 h (fun v1 M1 h => ?_)
  by_cases hc : v1 = (0 : Int32)
  · replace h := (X_if h).1 hc
    refine j_lookup C0 (pc := 6) (off := 26) (tgt := 32) dX11_drawVerb_6 (by decide) (by rw [hc]; decide) (by decide) ?_
    refine j_iconst C0 (pc := 32) dX11_drawVerb_32 (v := (-1 : Int32)) (by decide) ?_
    exact j_iret C rfl h dX11_drawVerb_33 (by decide)
  · replace h := (X_if h).2 hc
    have hn0 : ¬ v1 = Int32.ofInt (0) := hc
    by_cases hc : v1 = (1 : Int32)
    · replace h := (X_if h).1 hc
      refine j_lookup C0 (pc := 6) (off := 28) (tgt := 34) dX11_drawVerb_6 (by decide) (by rw [hc]; decide) (by decide) ?_
      refine j_aload_n C0 (pc := 34) dX11_drawVerb_34 rfl ?_
      refine j_aload_n C0 (pc := 35) dX11_drawVerb_35 rfl ?_
      refine X_gN C0 (pc := 36) f_OV_16_9 rfl dX11_drawVerb_36 h (fun v2 h => ?_)
      refine X_gN C0 (pc := 39) f_OV_279_3 rfl dX11_drawVerb_39 h (fun v3 h => ?_)
      refine j_iconst C0 (pc := 42) dX11_drawVerb_42 (v := (2 : Int32)) (by decide) ?_
      refine X_iald C0 (pc := 43) dX11_drawVerb_43 h (fun v4 h => ?_)
      refine X_cV C0 (pc := 44) (e' := e_I) (as := [.int v4]) (rest := []) (s' := fun w => .int w :: []) (g' := (0, 0)) v_OV_381_9 (fun Ψ hΨ => K_X11_drawBelow a0 v4 M1 Ψ hΨ) rfl rfl (fun _ => rfl) (by decide) (by decide) rfl (Nat.le_of_ble_eq_true rfl) dX11_drawVerb_44 h (fun v5 M2 h => ?_)
      exact j_iret C rfl h dX11_drawVerb_47 (by decide)
    · replace h := (X_if h).2 hc
      have hn1 : ¬ v1 = Int32.ofInt (1) := hc
      refine j_lookup C0 (pc := 6) (tgt := 48) dX11_drawVerb_6 (by decide) (m_lk2 (m_sw (k := 0) hn0) (m_sw (k := 1) hn1)) (by decide) ?_
      refine j_aload_n C0 (pc := 48) dX11_drawVerb_48 rfl ?_
      refine X_gN C0 (pc := 49) f_OV_16_9 rfl dX11_drawVerb_49 h (fun v6 h => ?_)
      refine j_iload_n C0 (pc := 52) dX11_drawVerb_52 rfl ?_
      refine X_cV C0 (pc := 53) (e' := e_I) (as := [.int a1]) (rest := []) (s' := fun w => .int w :: []) (g' := (0, 0)) v_OV_162_3 (fun Ψ hΨ => K_X3_verbOf v6 a1 M1 Ψ hΨ) rfl rfl (fun _ => rfl) (by decide) (by decide) rfl (Nat.le_of_ble_eq_true rfl) dX11_drawVerb_53 h (fun v7 M3 h => ?_)
      exact j_iret C rfl h dX11_drawVerb_56 (by decide)
theorem dX3_placeIn_0 : decode cX3_placeIn 0 = .ok (.iload_n 1, 1) := by decide +kernel
theorem dX3_placeIn_1 : decode cX3_placeIn 1 = .ok (.istore_n 3, 1) := by decide +kernel
theorem dX3_placeIn_2 : decode cX3_placeIn 2 = .ok (.aload_n 0, 1) := by decide +kernel
theorem dX3_placeIn_3 : decode cX3_placeIn 3 = .ok (.getfield 9, 3) := by decide +kernel
theorem dX3_placeIn_6 : decode cX3_placeIn 6 = .ok (.iconst 0, 1) := by decide +kernel
theorem dX3_placeIn_7 : decode cX3_placeIn 7 = .ok (.iaload, 1) := by decide +kernel
theorem dX3_placeIn_8 : decode cX3_placeIn 8 = .ok (.iconst 1, 1) := by decide +kernel
theorem dX3_placeIn_9 : decode cX3_placeIn 9 = .ok (.isub, 1) := by decide +kernel
theorem dX3_placeIn_10 : decode cX3_placeIn 10 = .ok (.istore 4, 2) := by decide +kernel
theorem dX3_placeIn_12 : decode cX3_placeIn 12 = .ok (.iload 4, 2) := by decide +kernel
theorem dX3_placeIn_14 : decode cX3_placeIn 14 = .ok (.iload_n 2, 1) := by decide +kernel
theorem dX3_placeIn_15 : decode cX3_placeIn 15 = .ok (.if_icmp .le 27, 3) := by decide +kernel
theorem dX3_placeIn_18 : decode cX3_placeIn 18 = .ok (.aload_n 0, 1) := by decide +kernel
theorem dX3_placeIn_19 : decode cX3_placeIn 19 = .ok (.getfield 58, 3) := by decide +kernel
theorem dX3_placeIn_22 : decode cX3_placeIn 22 = .ok (.ifCond .le 12, 3) := by decide +kernel
theorem dX3_placeIn_25 : decode cX3_placeIn 25 = .ok (.iload_n 3, 1) := by decide +kernel
theorem dX3_placeIn_26 : decode cX3_placeIn 26 = .ok (.aload_n 0, 1) := by decide +kernel
theorem dX3_placeIn_27 : decode cX3_placeIn 27 = .ok (.getfield 58, 3) := by decide +kernel
theorem dX3_placeIn_30 : decode cX3_placeIn 30 = .ok (.idiv, 1) := by decide +kernel
theorem dX3_placeIn_31 : decode cX3_placeIn 31 = .ok (.goto 4, 3) := by decide +kernel
theorem dX3_placeIn_34 : decode cX3_placeIn 34 = .ok (.iconst 0, 1) := by decide +kernel
theorem dX3_placeIn_35 : decode cX3_placeIn 35 = .ok (.istore_n 3, 1) := by decide +kernel
theorem dX3_placeIn_36 : decode cX3_placeIn 36 = .ok (.iinc 4 (-1), 3) := by decide +kernel
theorem dX3_placeIn_39 : decode cX3_placeIn 39 = .ok (.goto (-27), 3) := by decide +kernel
theorem dX3_placeIn_42 : decode cX3_placeIn 42 = .ok (.aload_n 0, 1) := by decide +kernel
theorem dX3_placeIn_43 : decode cX3_placeIn 43 = .ok (.getfield 58, 3) := by decide +kernel
theorem dX3_placeIn_46 : decode cX3_placeIn 46 = .ok (.ifCond .le 12, 3) := by decide +kernel
theorem dX3_placeIn_49 : decode cX3_placeIn 49 = .ok (.iload_n 3, 1) := by decide +kernel
theorem dX3_placeIn_50 : decode cX3_placeIn 50 = .ok (.aload_n 0, 1) := by decide +kernel
theorem dX3_placeIn_51 : decode cX3_placeIn 51 = .ok (.getfield 58, 3) := by decide +kernel
theorem dX3_placeIn_54 : decode cX3_placeIn 54 = .ok (.irem, 1) := by decide +kernel
theorem dX3_placeIn_55 : decode cX3_placeIn 55 = .ok (.goto 4, 3) := by decide +kernel
theorem dX3_placeIn_58 : decode cX3_placeIn 58 = .ok (.iconst 0, 1) := by decide +kernel
theorem dX3_placeIn_59 : decode cX3_placeIn 59 = .ok (.ireturn, 1) := by decide +kernel
noncomputable def F_X3_placeIn_12 (k42 : Nat → Int32 → m_M → Option (Int32 × m_M)) : Nat → Nat → Int32 → Int32 → Int32 → m_M → Option (Int32 × m_M)
  | 0, _, _, _, _, _ => none
  | n + 1, v1, v2, v3, v4, M =>
    if v4 ≤ v2 then (
      k42 v1 v3 M
    ) else
    m_let (fun (v5 : Nat) (v6 : Int32) (v7 : Int32) (v8 : Int32) (M1 : m_M) =>
      m_let (v7 + (-1 : Int32)) fun v9 =>
      F_X3_placeIn_12 k42 n v5 v6 v8 v9 M1
    ) fun (k35 : Nat → Int32 → Int32 → Int32 → m_M → Option (Int32 × m_M)) =>
    x_gI 3 M v1 0 fun v10 =>
    if v10 ≤ 0 then (
      k35 v1 v2 v4 (0 : Int32) M
    ) else
    x_gI 3 M v1 0 fun v11 =>
    x_nz v11 <|
    k35 v1 v2 v4 (v3 / v11) M
noncomputable def F_X3_placeIn (a0 : Nat) (a1 : Int32) (a2 : Int32) (M : m_M) : Option (Int32 × m_M) :=
  x_gN 3 M a0 6 fun v1 =>
  x_aI 12 M v1 (0 : Int32) fun v2 =>
  m_let (v2 - (1 : Int32)) fun v3 =>
  m_let (fun (v4 : Nat) (v5 : Int32) (M1 : m_M) =>
    x_gI 3 M1 v4 0 fun v6 =>
    if v6 ≤ 0 then (
      some ((0 : Int32), M1)
    ) else
    x_gI 3 M1 v4 0 fun v7 =>
    x_nz v7 <|
    some (v5 - v5 / v7 * v7, M1)
  ) fun (k42 : Nat → Int32 → m_M → Option (Int32 × m_M)) =>
  F_X3_placeIn_12 k42 m_FU a0 a2 a1 v3 M
set_option maxHeartbeats 4000000 in
theorem L_X3_placeIn_12 {X : j_X} {Φ : Option Value → m_M → Prop} (C : j_C X yX3_placeIn cX3_placeIn 5 (some .int) 1 0 0 Φ) {k42 : Nat → Int32 → m_M → Option (Int32 × m_M)} (hk42 : ∀ (p0 : Nat) (p1 : Int32) (M : m_M), m_ok e_I Φ (k42 p0 p1 M) → j_J X 5 42 [some (.ref p0), none, none, some (.int p1), none] [] (0, 0) M) : ∀ (n : Nat) (v1 : Nat) (v2 : Int32) (v3 : Int32) (v4 : Int32) (M : m_M), m_ok e_I Φ (F_X3_placeIn_12 k42 n v1 v2 v3 v4 M) → j_J X 5 12 [some (.ref v1), none, some (.int v2), some (.int v3), some (.int v4)] [] (0, 0) M := by
  have C0 := C.1
  intro n
  induction n with
  | zero => intro v1 v2 v3 v4 M h; exact False.elim h
  | succ n ih =>
    intro v1 v2 v3 v4 M h
    rw [F_X3_placeIn_12] at h
    refine j_iload C0 (pc := 12) dX3_placeIn_12 rfl ?_
    refine j_iload_n C0 (pc := 14) dX3_placeIn_14 rfl ?_
    refine j_icmp_le C0 (pc := 15) (tgt := 42) dX3_placeIn_15 (by decide) (fun hc => ?_) (fun hc => ?_)
    · replace h := (X_if h).1 hc
      exact j_J.wq (hk42 v1 v3 M h) (And.intro rfl (And.intro rfl (trivial)))
    · replace h := (X_if h).2 hc
      refine X_join (fun (kj : Nat → Int32 → Int32 → Int32 → m_M → Option (Int32 × m_M)) => ∀ (p0 : Nat) (p1 : Int32) (p2 : Int32) (p3 : Int32) (M : m_M), m_ok e_I Φ (kj p0 p1 p2 p3 M) → j_J X 5 35 [some (.ref p0), none, some (.int p1), none, some (.int p2)] [.int p3] (0, 0) M) h (fun v5 v6 v7 v8 M1 h => ?_) (fun k35 hk35 h => ?_)
      · refine j_istore_n C0 (pc := 35) dX3_placeIn_35 (Nat.le_of_ble_eq_true rfl) ?_
        show j_J X 5 36 [some (.ref v5), none, some (.int v6), some (.int v8), some (.int v7)] [] (0, 0) M1
        refine j_iinc C0 (pc := 36) dX3_placeIn_36 (v := v7 + (-1 : Int32)) rfl (Nat.le_of_ble_eq_true rfl) (by rfl) ?_
        refine X_let (G := fun w => j_J X 5 39 [some (.ref v5), none, some (.int v6), some (.int v8), some (.int w)] [] (0, 0) M1) h (fun v9 h => ?_)
        refine j_goto C0 (pc := 39) (tgt := 12) dX3_placeIn_39 (by decide) ?_
        exact j_J.wq (ih v5 v6 v8 v9 M1 h) (And.intro rfl (And.intro rfl (And.intro rfl (And.intro rfl (trivial)))))
      · refine j_aload_n C0 (pc := 18) dX3_placeIn_18 rfl ?_
        refine X_gI C0 (pc := 19) f_Land_58_3 rfl dX3_placeIn_19 h (fun v10 h => ?_)
        refine j_if_le C0 (pc := 22) (tgt := 34) dX3_placeIn_22 (by decide) (fun hc => ?_) (fun hc => ?_)
        · replace h := (X_if h).1 hc
          refine j_iconst C0 (pc := 34) dX3_placeIn_34 (v := (0 : Int32)) (by decide) ?_
          exact j_J.wq (hk35 v1 v2 v4 (0 : Int32) M h) (And.intro rfl (And.intro rfl (And.intro rfl (trivial))))
        · replace h := (X_if h).2 hc
          refine j_iload_n C0 (pc := 25) dX3_placeIn_25 rfl ?_
          refine j_aload_n C0 (pc := 26) dX3_placeIn_26 rfl ?_
          refine X_gI C0 (pc := 27) f_Land_58_3 rfl dX3_placeIn_27 h (fun v11 h => ?_)
          refine X_idiv C0 (pc := 30) dX3_placeIn_30 h (fun h => ?_)
          refine j_goto C0 (pc := 31) (tgt := 35) dX3_placeIn_31 (by decide) ?_
          exact j_J.wq (hk35 v1 v2 v4 (v3 / v11) M h) (And.intro rfl (And.intro rfl (And.intro rfl (trivial))))
set_option maxHeartbeats 4000000 in
theorem K_X3_placeIn (a0 : Nat) (a1 : Int32) (a2 : Int32) (M : m_M) (Φ : Option Value → m_M → Prop) (h : m_ok e_I Φ (F_X3_placeIn a0 a1 a2 M)) : j_Ct yX3_placeIn cX3_placeIn 5 (some .int) 1 0 0 [.ref a0, .int a1, .int a2] M Φ := by
  refine j_Ct.of (by decide +kernel) (Nat.le_of_ble_eq_true rfl) fun X C => ?_
  have C0 := C.1
  show j_J X 5 0 [some (.ref a0), some (.int a1), some (.int a2), none, none] [] (0, 0) M
  unfold F_X3_placeIn at h
  refine j_iload_n C0 (pc := 0) dX3_placeIn_0 rfl ?_
  refine j_istore_n C0 (pc := 1) dX3_placeIn_1 (Nat.le_of_ble_eq_true rfl) ?_
  show j_J X 5 2 [some (.ref a0), some (.int a1), some (.int a2), some (.int a1), none] [] (0, 0) M
  refine j_aload_n C0 (pc := 2) dX3_placeIn_2 rfl ?_
  refine X_gN C0 (pc := 3) f_Land_9_3 rfl dX3_placeIn_3 h (fun v1 h => ?_)
  refine j_iconst C0 (pc := 6) dX3_placeIn_6 (v := (0 : Int32)) (by decide) ?_
  refine X_iald C0 (pc := 7) dX3_placeIn_7 h (fun v2 h => ?_)
  refine j_iconst C0 (pc := 8) dX3_placeIn_8 (v := (1 : Int32)) (by decide) ?_
  refine j_isub C0 (pc := 9) dX3_placeIn_9 ?_
  refine X_let (G := fun w => j_J X 5 10 [some (.ref a0), some (.int a1), some (.int a2), some (.int a1), none] (.int w :: []) (0, 0) M) h (fun v3 h => ?_)
  refine j_istore C0 (pc := 10) dX3_placeIn_10 (Nat.le_of_ble_eq_true rfl) ?_
  show j_J X 5 12 [some (.ref a0), some (.int a1), some (.int a2), some (.int a1), some (.int v3)] [] (0, 0) M
  refine X_join (fun (kj : Nat → Int32 → m_M → Option (Int32 × m_M)) => ∀ (p0 : Nat) (p1 : Int32) (M : m_M), m_ok e_I Φ (kj p0 p1 M) → j_J X 5 42 [some (.ref p0), none, none, some (.int p1), none] [] (0, 0) M) h (fun v4 v5 M1 h => ?_) (fun k42 hk42 h => ?_)
  · refine j_aload_n C0 (pc := 42) dX3_placeIn_42 rfl ?_
    refine X_gI C0 (pc := 43) f_Land_58_3 rfl dX3_placeIn_43 h (fun v6 h => ?_)
    refine j_if_le C0 (pc := 46) (tgt := 58) dX3_placeIn_46 (by decide) (fun hc => ?_) (fun hc => ?_)
    · replace h := (X_if h).1 hc
      refine j_iconst C0 (pc := 58) dX3_placeIn_58 (v := (0 : Int32)) (by decide) ?_
      exact j_iret C rfl h dX3_placeIn_59 (by decide)
    · replace h := (X_if h).2 hc
      refine j_iload_n C0 (pc := 49) dX3_placeIn_49 rfl ?_
      refine j_aload_n C0 (pc := 50) dX3_placeIn_50 rfl ?_
      refine X_gI C0 (pc := 51) f_Land_58_3 rfl dX3_placeIn_51 h (fun v7 h => ?_)
      refine X_irem C0 (pc := 54) dX3_placeIn_54 h (fun h => ?_)
      refine j_goto C0 (pc := 55) (tgt := 59) dX3_placeIn_55 (by decide) ?_
      exact j_iret C rfl h dX3_placeIn_59 (by decide)
  · exact j_J.wq (L_X3_placeIn_12 C hk42 m_FU a0 a2 a1 v3 M h) (And.intro rfl (And.intro rfl (And.intro rfl (And.intro rfl (trivial)))))
theorem dX3_clauseHolds_0 : decode cX3_clauseHolds 0 = .ok (.aload_n 0, 1) := by decide +kernel
theorem dX3_clauseHolds_1 : decode cX3_clauseHolds 1 = .ok (.iload_n 1, 1) := by decide +kernel
theorem dX3_clauseHolds_2 : decode cX3_clauseHolds 2 = .ok (.bipush 20, 2) := by decide +kernel
theorem dX3_clauseHolds_4 : decode cX3_clauseHolds 4 = .ok (.idiv, 1) := by decide +kernel
theorem dX3_clauseHolds_5 : decode cX3_clauseHolds 5 = .ok (.invokevirtual 90, 3) := by decide +kernel
theorem dX3_clauseHolds_8 : decode cX3_clauseHolds 8 = .ok (.istore 4, 2) := by decide +kernel
theorem dX3_clauseHolds_10 : decode cX3_clauseHolds 10 = .ok (.aload_n 0, 1) := by decide +kernel
theorem dX3_clauseHolds_11 : decode cX3_clauseHolds 11 = .ok (.iload_n 1, 1) := by decide +kernel
theorem dX3_clauseHolds_12 : decode cX3_clauseHolds 12 = .ok (.bipush 20, 2) := by decide +kernel
theorem dX3_clauseHolds_14 : decode cX3_clauseHolds 14 = .ok (.irem, 1) := by decide +kernel
theorem dX3_clauseHolds_15 : decode cX3_clauseHolds 15 = .ok (.invokevirtual 90, 3) := by decide +kernel
theorem dX3_clauseHolds_18 : decode cX3_clauseHolds 18 = .ok (.istore 5, 2) := by decide +kernel
theorem dX3_clauseHolds_20 : decode cX3_clauseHolds 20 = .ok (.iload 4, 2) := by decide +kernel
theorem dX3_clauseHolds_22 : decode cX3_clauseHolds 22 = .ok (.aload_n 0, 1) := by decide +kernel
theorem dX3_clauseHolds_23 : decode cX3_clauseHolds 23 = .ok (.iload_n 3, 1) := by decide +kernel
theorem dX3_clauseHolds_24 : decode cX3_clauseHolds 24 = .ok (.iload 4, 2) := by decide +kernel
theorem dX3_clauseHolds_26 : decode cX3_clauseHolds 26 = .ok (.invokestatic 145, 3) := by decide +kernel
theorem dX3_clauseHolds_29 : decode cX3_clauseHolds 29 = .ok (.invokevirtual 157, 3) := by decide +kernel
theorem dX3_clauseHolds_32 : decode cX3_clauseHolds 32 = .ok (.invokestatic 151, 3) := by decide +kernel
theorem dX3_clauseHolds_35 : decode cX3_clauseHolds 35 = .ok (.istore 6, 2) := by decide +kernel
theorem dX3_clauseHolds_37 : decode cX3_clauseHolds 37 = .ok (.iload 5, 2) := by decide +kernel
theorem dX3_clauseHolds_39 : decode cX3_clauseHolds 39 = .ok (.aload_n 0, 1) := by decide +kernel
theorem dX3_clauseHolds_40 : decode cX3_clauseHolds 40 = .ok (.iload_n 3, 1) := by decide +kernel
theorem dX3_clauseHolds_41 : decode cX3_clauseHolds 41 = .ok (.iload 5, 2) := by decide +kernel
theorem dX3_clauseHolds_43 : decode cX3_clauseHolds 43 = .ok (.invokestatic 145, 3) := by decide +kernel
theorem dX3_clauseHolds_46 : decode cX3_clauseHolds 46 = .ok (.invokevirtual 157, 3) := by decide +kernel
theorem dX3_clauseHolds_49 : decode cX3_clauseHolds 49 = .ok (.invokestatic 151, 3) := by decide +kernel
theorem dX3_clauseHolds_52 : decode cX3_clauseHolds 52 = .ok (.istore 7, 2) := by decide +kernel
theorem dX3_clauseHolds_54 : decode cX3_clauseHolds 54 = .ok (.aload_n 0, 1) := by decide +kernel
theorem dX3_clauseHolds_55 : decode cX3_clauseHolds 55 = .ok (.iload 4, 2) := by decide +kernel
theorem dX3_clauseHolds_57 : decode cX3_clauseHolds 57 = .ok (.iload 5, 2) := by decide +kernel
theorem dX3_clauseHolds_59 : decode cX3_clauseHolds 59 = .ok (.iload_n 2, 1) := by decide +kernel
theorem dX3_clauseHolds_60 : decode cX3_clauseHolds 60 = .ok (.invokevirtual 148, 3) := by decide +kernel
theorem dX3_clauseHolds_63 : decode cX3_clauseHolds 63 = .ok (.iload 6, 2) := by decide +kernel
theorem dX3_clauseHolds_65 : decode cX3_clauseHolds 65 = .ok (.iconst 4, 1) := by decide +kernel
theorem dX3_clauseHolds_66 : decode cX3_clauseHolds 66 = .ok (.imul, 1) := by decide +kernel
theorem dX3_clauseHolds_67 : decode cX3_clauseHolds 67 = .ok (.iload 7, 2) := by decide +kernel
theorem dX3_clauseHolds_69 : decode cX3_clauseHolds 69 = .ok (.iadd, 1) := by decide +kernel
theorem dX3_clauseHolds_70 : decode cX3_clauseHolds 70 = .ok (.ishr, 1) := by decide +kernel
theorem dX3_clauseHolds_71 : decode cX3_clauseHolds 71 = .ok (.iconst 1, 1) := by decide +kernel
theorem dX3_clauseHolds_72 : decode cX3_clauseHolds 72 = .ok (.iand, 1) := by decide +kernel
theorem dX3_clauseHolds_73 : decode cX3_clauseHolds 73 = .ok (.ifCond .eq 7, 3) := by decide +kernel
theorem dX3_clauseHolds_76 : decode cX3_clauseHolds 76 = .ok (.iconst 1, 1) := by decide +kernel
theorem dX3_clauseHolds_77 : decode cX3_clauseHolds 77 = .ok (.goto 4, 3) := by decide +kernel
theorem dX3_clauseHolds_80 : decode cX3_clauseHolds 80 = .ok (.iconst 0, 1) := by decide +kernel
theorem dX3_clauseHolds_81 : decode cX3_clauseHolds 81 = .ok (.ireturn, 1) := by decide +kernel
noncomputable def F_X3_clauseHolds (a0 : Nat) (a1 : Int32) (a2 : Int32) (a3 : Int32) (M : m_M) : Option (Int32 × m_M) :=
  x_nz (20 : Int32) <|
  x_cV 3 M a0 (F_X3_nounOf a0 (a1 / (20 : Int32)) M) fun v1 M1 =>
  x_nz (20 : Int32) <|
  x_cV 3 M1 a0 (F_X3_nounOf a0 (a1 - a1 / (20 : Int32) * (20 : Int32)) M1) fun v2 M2 =>
  x_bd (F_X3_thingOf v1 M2) fun v3 M3 =>
  x_cV 3 M3 a0 (F_X3_placeIn a0 a3 v3 M3) fun v4 M4 =>
  x_bd (F_X3_placeOf v1 v4 M4) fun v5 M5 =>
  x_bd (F_X3_thingOf v2 M5) fun v6 M6 =>
  x_cV 3 M6 a0 (F_X3_placeIn a0 a3 v6 M6) fun v7 M7 =>
  x_bd (F_X3_placeOf v2 v7 M7) fun v8 M8 =>
  x_cV 3 M8 a0 (F_X3_lawOn a0 v1 v2 a2 M8) fun v9 M9 =>
  if ((v9 >>> (((v5 * (4 : Int32)) + v8) &&& 31)) &&& (1 : Int32)) = 0 then (
    some ((0 : Int32), M9)
  ) else
  some ((1 : Int32), M9)
set_option maxHeartbeats 4000000 in
theorem K_X3_clauseHolds (a0 : Nat) (a1 : Int32) (a2 : Int32) (a3 : Int32) (M : m_M) (Φ : Option Value → m_M → Prop) (h : m_ok e_I Φ (F_X3_clauseHolds a0 a1 a2 a3 M)) : j_Ct yX3_clauseHolds cX3_clauseHolds 8 (some .boolean) 4 0 0 [.ref a0, .int a1, .int a2, .int a3] M Φ := by
  refine j_Ct.of (by decide +kernel) (Nat.le_of_ble_eq_true rfl) fun X C => ?_
  have C0 := C.1
  show j_J X 8 0 [some (.ref a0), some (.int a1), some (.int a2), some (.int a3), none, none, none, none] [] (0, 0) M
  unfold F_X3_clauseHolds at h
  refine j_aload_n C0 (pc := 0) dX3_clauseHolds_0 rfl ?_
  refine j_iload_n C0 (pc := 1) dX3_clauseHolds_1 rfl ?_
  refine j_bipush C0 (pc := 2) dX3_clauseHolds_2 (v := (20 : Int32)) (by decide) ?_
  refine X_idiv C0 (pc := 4) dX3_clauseHolds_4 h (fun h => ?_)
  refine X_cV C0 (pc := 5) (e' := e_I) (as := [.int (a1 / (20 : Int32))]) (rest := []) (s' := fun w => .int w :: []) (g' := (0, 0)) v_Land_90_3 (fun Ψ hΨ => K_X3_nounOf a0 (a1 / (20 : Int32)) M Ψ hΨ) rfl rfl (fun _ => rfl) (by decide) (by decide) rfl (Nat.le_of_ble_eq_true rfl) dX3_clauseHolds_5 h (fun v1 M1 h => ?_)
  refine j_istore C0 (pc := 8) dX3_clauseHolds_8 (Nat.le_of_ble_eq_true rfl) ?_
  show j_J X 8 10 [some (.ref a0), some (.int a1), some (.int a2), some (.int a3), some (.int v1), none, none, none] [] (0, 0) M1
  refine j_aload_n C0 (pc := 10) dX3_clauseHolds_10 rfl ?_
  refine j_iload_n C0 (pc := 11) dX3_clauseHolds_11 rfl ?_
  refine j_bipush C0 (pc := 12) dX3_clauseHolds_12 (v := (20 : Int32)) (by decide) ?_
  refine X_irem C0 (pc := 14) dX3_clauseHolds_14 h (fun h => ?_)
  refine X_cV C0 (pc := 15) (e' := e_I) (as := [.int (a1 - a1 / (20 : Int32) * (20 : Int32))]) (rest := []) (s' := fun w => .int w :: []) (g' := (0, 0)) v_Land_90_3 (fun Ψ hΨ => K_X3_nounOf a0 (a1 - a1 / (20 : Int32) * (20 : Int32)) M1 Ψ hΨ) rfl rfl (fun _ => rfl) (by decide) (by decide) rfl (Nat.le_of_ble_eq_true rfl) dX3_clauseHolds_15 h (fun v2 M2 h => ?_)
  refine j_istore C0 (pc := 18) dX3_clauseHolds_18 (Nat.le_of_ble_eq_true rfl) ?_
  show j_J X 8 20 [some (.ref a0), some (.int a1), some (.int a2), some (.int a3), some (.int v1), some (.int v2), none, none] [] (0, 0) M2
  refine j_iload C0 (pc := 20) dX3_clauseHolds_20 rfl ?_
  refine j_aload_n C0 (pc := 22) dX3_clauseHolds_22 rfl ?_
  refine j_iload_n C0 (pc := 23) dX3_clauseHolds_23 rfl ?_
  refine j_iload C0 (pc := 24) dX3_clauseHolds_24 rfl ?_
  refine X_cS C0 (pc := 26) (e' := e_I) (as := [.int v1]) (rest := [.int a3, .ref a0, .int v1]) (s' := fun w => .int w :: [.int a3, .ref a0, .int v1]) (g' := (0, 0)) s_Land_145 (fun Ψ hΨ => K_X3_thingOf v1 M2 Ψ hΨ) rfl rfl (fun _ => rfl) (by decide) (by decide) rfl (Nat.le_of_ble_eq_true rfl) dX3_clauseHolds_26 h (fun v3 M3 h => ?_)
  refine X_cV C0 (pc := 29) (e' := e_I) (as := [.int a3, .int v3]) (rest := [.int v1]) (s' := fun w => .int w :: [.int v1]) (g' := (0, 0)) v_Land_157_3 (fun Ψ hΨ => K_X3_placeIn a0 a3 v3 M3 Ψ hΨ) rfl rfl (fun _ => rfl) (by decide) (by decide) rfl (Nat.le_of_ble_eq_true rfl) dX3_clauseHolds_29 h (fun v4 M4 h => ?_)
  refine X_cS C0 (pc := 32) (e' := e_I) (as := [.int v1, .int v4]) (rest := []) (s' := fun w => .int w :: []) (g' := (0, 0)) s_Land_151 (fun Ψ hΨ => K_X3_placeOf v1 v4 M4 Ψ hΨ) rfl rfl (fun _ => rfl) (by decide) (by decide) rfl (Nat.le_of_ble_eq_true rfl) dX3_clauseHolds_32 h (fun v5 M5 h => ?_)
  refine j_istore C0 (pc := 35) dX3_clauseHolds_35 (Nat.le_of_ble_eq_true rfl) ?_
  show j_J X 8 37 [some (.ref a0), some (.int a1), some (.int a2), some (.int a3), some (.int v1), some (.int v2), some (.int v5), none] [] (0, 0) M5
  refine j_iload C0 (pc := 37) dX3_clauseHolds_37 rfl ?_
  refine j_aload_n C0 (pc := 39) dX3_clauseHolds_39 rfl ?_
  refine j_iload_n C0 (pc := 40) dX3_clauseHolds_40 rfl ?_
  refine j_iload C0 (pc := 41) dX3_clauseHolds_41 rfl ?_
  refine X_cS C0 (pc := 43) (e' := e_I) (as := [.int v2]) (rest := [.int a3, .ref a0, .int v2]) (s' := fun w => .int w :: [.int a3, .ref a0, .int v2]) (g' := (0, 0)) s_Land_145 (fun Ψ hΨ => K_X3_thingOf v2 M5 Ψ hΨ) rfl rfl (fun _ => rfl) (by decide) (by decide) rfl (Nat.le_of_ble_eq_true rfl) dX3_clauseHolds_43 h (fun v6 M6 h => ?_)
  refine X_cV C0 (pc := 46) (e' := e_I) (as := [.int a3, .int v6]) (rest := [.int v2]) (s' := fun w => .int w :: [.int v2]) (g' := (0, 0)) v_Land_157_3 (fun Ψ hΨ => K_X3_placeIn a0 a3 v6 M6 Ψ hΨ) rfl rfl (fun _ => rfl) (by decide) (by decide) rfl (Nat.le_of_ble_eq_true rfl) dX3_clauseHolds_46 h (fun v7 M7 h => ?_)
  refine X_cS C0 (pc := 49) (e' := e_I) (as := [.int v2, .int v7]) (rest := []) (s' := fun w => .int w :: []) (g' := (0, 0)) s_Land_151 (fun Ψ hΨ => K_X3_placeOf v2 v7 M7 Ψ hΨ) rfl rfl (fun _ => rfl) (by decide) (by decide) rfl (Nat.le_of_ble_eq_true rfl) dX3_clauseHolds_49 h (fun v8 M8 h => ?_)
  refine j_istore C0 (pc := 52) dX3_clauseHolds_52 (Nat.le_of_ble_eq_true rfl) ?_
  show j_J X 8 54 [some (.ref a0), some (.int a1), some (.int a2), some (.int a3), some (.int v1), some (.int v2), some (.int v5), some (.int v8)] [] (0, 0) M8
  refine j_aload_n C0 (pc := 54) dX3_clauseHolds_54 rfl ?_
  refine j_iload C0 (pc := 55) dX3_clauseHolds_55 rfl ?_
  refine j_iload C0 (pc := 57) dX3_clauseHolds_57 rfl ?_
  refine j_iload_n C0 (pc := 59) dX3_clauseHolds_59 rfl ?_
  refine X_cV C0 (pc := 60) (e' := e_I) (as := [.int v1, .int v2, .int a2]) (rest := []) (s' := fun w => .int w :: []) (g' := (0, 0)) v_Land_148_3 (fun Ψ hΨ => K_X3_lawOn a0 v1 v2 a2 M8 Ψ hΨ) rfl rfl (fun _ => rfl) (by decide) (by decide) rfl (Nat.le_of_ble_eq_true rfl) dX3_clauseHolds_60 h (fun v9 M9 h => ?_)
  refine j_iload C0 (pc := 63) dX3_clauseHolds_63 rfl ?_
  refine j_iconst C0 (pc := 65) dX3_clauseHolds_65 (v := (4 : Int32)) (by decide) ?_
  refine j_imul C0 (pc := 66) dX3_clauseHolds_66 ?_
  refine j_iload C0 (pc := 67) dX3_clauseHolds_67 rfl ?_
  refine j_iadd C0 (pc := 69) dX3_clauseHolds_69 ?_
  refine j_ishr C0 (pc := 70) dX3_clauseHolds_70 ?_
  refine j_iconst C0 (pc := 71) dX3_clauseHolds_71 (v := (1 : Int32)) (by decide) ?_
  refine j_iand C0 (pc := 72) dX3_clauseHolds_72 ?_
  refine j_if_eq C0 (pc := 73) (tgt := 80) dX3_clauseHolds_73 (by decide) (fun hc => ?_) (fun hc => ?_)
  · replace h := (X_if h).1 hc
    refine j_iconst C0 (pc := 80) dX3_clauseHolds_80 (v := (0 : Int32)) (by decide) ?_
    exact j_zret C rfl (by decide) h dX3_clauseHolds_81 (by decide)
  · replace h := (X_if h).2 hc
    refine j_iconst C0 (pc := 76) dX3_clauseHolds_76 (v := (1 : Int32)) (by decide) ?_
    refine j_goto C0 (pc := 77) (tgt := 81) dX3_clauseHolds_77 (by decide) ?_
    exact j_zret C rfl (by decide) h dX3_clauseHolds_81 (by decide)
theorem dX11_evennessOf_0 : decode cX11_evennessOf 0 = .ok (.iconst 0, 1) := by decide +kernel
theorem dX11_evennessOf_1 : decode cX11_evennessOf 1 = .ok (.istore 4, 2) := by decide +kernel
theorem dX11_evennessOf_3 : decode cX11_evennessOf 3 = .ok (.iconst 0, 1) := by decide +kernel
theorem dX11_evennessOf_4 : decode cX11_evennessOf 4 = .ok (.istore 5, 2) := by decide +kernel
theorem dX11_evennessOf_6 : decode cX11_evennessOf 6 = .ok (.iload 5, 2) := by decide +kernel
theorem dX11_evennessOf_8 : decode cX11_evennessOf 8 = .ok (.aload_n 0, 1) := by decide +kernel
theorem dX11_evennessOf_9 : decode cX11_evennessOf 9 = .ok (.getfield 16, 3) := by decide +kernel
theorem dX11_evennessOf_12 : decode cX11_evennessOf 12 = .ok (.getfield 279, 3) := by decide +kernel
theorem dX11_evennessOf_15 : decode cX11_evennessOf 15 = .ok (.iconst 2, 1) := by decide +kernel
theorem dX11_evennessOf_16 : decode cX11_evennessOf 16 = .ok (.iaload, 1) := by decide +kernel
theorem dX11_evennessOf_17 : decode cX11_evennessOf 17 = .ok (.if_icmp .ge 35, 3) := by decide +kernel
theorem dX11_evennessOf_20 : decode cX11_evennessOf 20 = .ok (.iload_n 3, 1) := by decide +kernel
theorem dX11_evennessOf_21 : decode cX11_evennessOf 21 = .ok (.iload 5, 2) := by decide +kernel
theorem dX11_evennessOf_23 : decode cX11_evennessOf 23 = .ok (.ishr, 1) := by decide +kernel
theorem dX11_evennessOf_24 : decode cX11_evennessOf 24 = .ok (.iconst 1, 1) := by decide +kernel
theorem dX11_evennessOf_25 : decode cX11_evennessOf 25 = .ok (.iand, 1) := by decide +kernel
theorem dX11_evennessOf_26 : decode cX11_evennessOf 26 = .ok (.ifCond .eq 20, 3) := by decide +kernel
theorem dX11_evennessOf_29 : decode cX11_evennessOf 29 = .ok (.aload_n 0, 1) := by decide +kernel
theorem dX11_evennessOf_30 : decode cX11_evennessOf 30 = .ok (.getfield 16, 3) := by decide +kernel
theorem dX11_evennessOf_33 : decode cX11_evennessOf 33 = .ok (.iload_n 1, 1) := by decide +kernel
theorem dX11_evennessOf_34 : decode cX11_evennessOf 34 = .ok (.iload 5, 2) := by decide +kernel
theorem dX11_evennessOf_36 : decode cX11_evennessOf 36 = .ok (.iload_n 2, 1) := by decide +kernel
theorem dX11_evennessOf_37 : decode cX11_evennessOf 37 = .ok (.invokevirtual 201, 3) := by decide +kernel
theorem dX11_evennessOf_40 : decode cX11_evennessOf 40 = .ok (.ifCond .eq 6, 3) := by decide +kernel
theorem dX11_evennessOf_43 : decode cX11_evennessOf 43 = .ok (.iinc 4 1, 3) := by decide +kernel
theorem dX11_evennessOf_46 : decode cX11_evennessOf 46 = .ok (.iinc 5 1, 3) := by decide +kernel
theorem dX11_evennessOf_49 : decode cX11_evennessOf 49 = .ok (.goto (-43), 3) := by decide +kernel
theorem dX11_evennessOf_52 : decode cX11_evennessOf 52 = .ok (.iload 4, 2) := by decide +kernel
theorem dX11_evennessOf_54 : decode cX11_evennessOf 54 = .ok (.iload_n 3, 1) := by decide +kernel
theorem dX11_evennessOf_55 : decode cX11_evennessOf 55 = .ok (.invokestatic 233, 3) := by decide +kernel
theorem dX11_evennessOf_58 : decode cX11_evennessOf 58 = .ok (.iload 4, 2) := by decide +kernel
theorem dX11_evennessOf_60 : decode cX11_evennessOf 60 = .ok (.isub, 1) := by decide +kernel
theorem dX11_evennessOf_61 : decode cX11_evennessOf 61 = .ok (.invokestatic 368, 3) := by decide +kernel
theorem dX11_evennessOf_64 : decode cX11_evennessOf 64 = .ok (.ireturn, 1) := by decide +kernel
noncomputable def F_X11_evennessOf_6 (k52 : Int32 → Int32 → m_M → Option (Int32 × m_M)) : Nat → Nat → Int32 → Int32 → Int32 → Int32 → Int32 → m_M → Option (Int32 × m_M)
  | 0, _, _, _, _, _, _, _ => none
  | n + 1, v1, v2, v3, v4, v5, v6, M =>
    x_gN 9 M v1 2 fun v7 =>
    x_gN 3 M v7 6 fun v8 =>
    x_aI 12 M v8 (2 : Int32) fun v9 =>
    if v9 ≤ v6 then (
      k52 v4 v5 M
    ) else
    m_let (fun (v10 : Nat) (v11 : Int32) (v12 : Int32) (v13 : Int32) (v14 : Int32) (v15 : Int32) (M1 : m_M) =>
      m_let (v15 + (1 : Int32)) fun v16 =>
      F_X11_evennessOf_6 k52 n v10 v11 v12 v13 v14 v16 M1
    ) fun (k46 : Nat → Int32 → Int32 → Int32 → Int32 → Int32 → m_M → Option (Int32 × m_M)) =>
    if ((v4 >>> (v6 &&& 31)) &&& (1 : Int32)) = 0 then (
      k46 v1 v2 v3 v4 v5 v6 M
    ) else
    x_gN 9 M v1 2 fun v17 =>
    x_cV 3 M v17 (F_X3_clauseHolds v17 v2 v6 v3 M) fun v18 M2 =>
    if v18 = 0 then (
      k46 v1 v2 v3 v4 v5 v6 M2
    ) else
    m_let (v5 + (1 : Int32)) fun v19 =>
    k46 v1 v2 v3 v4 v19 v6 M2
noncomputable def F_X11_evennessOf (a0 : Nat) (a1 : Int32) (a2 : Int32) (a3 : Int32) (M : m_M) : Option (Int32 × m_M) :=
  m_let (fun (v1 : Int32) (v2 : Int32) (M1 : m_M) =>
    x_bd (F_J6_bitCount_0f7a4 v1 M1) fun v3 M2 =>
    x_bd (F_J9_min_7cf53 v2 (v3 - v2) M2) fun v4 M3 =>
    some (v4, M3)
  ) fun (k52 : Int32 → Int32 → m_M → Option (Int32 × m_M)) =>
  F_X11_evennessOf_6 k52 m_FU a0 a1 a2 a3 (0 : Int32) (0 : Int32) M
set_option maxHeartbeats 4000000 in
theorem L_X11_evennessOf_6 {X : j_X} {Φ : Option Value → m_M → Prop} (C : j_C X yX11_evennessOf cX11_evennessOf 6 (some .int) 5 0 0 Φ) {k52 : Int32 → Int32 → m_M → Option (Int32 × m_M)} (hk52 : ∀ (p0 : Int32) (p1 : Int32) (M : m_M), m_ok e_I Φ (k52 p0 p1 M) → j_J X 6 52 [none, none, none, some (.int p0), some (.int p1), none] [] (0, 0) M) : ∀ (n : Nat) (v1 : Nat) (v2 : Int32) (v3 : Int32) (v4 : Int32) (v5 : Int32) (v6 : Int32) (M : m_M), m_ok e_I Φ (F_X11_evennessOf_6 k52 n v1 v2 v3 v4 v5 v6 M) → j_J X 6 6 [some (.ref v1), some (.int v2), some (.int v3), some (.int v4), some (.int v5), some (.int v6)] [] (0, 0) M := by
  have C0 := C.1
  intro n
  induction n with
  | zero => intro v1 v2 v3 v4 v5 v6 M h; exact False.elim h
  | succ n ih =>
    intro v1 v2 v3 v4 v5 v6 M h
    rw [F_X11_evennessOf_6] at h
    refine j_iload C0 (pc := 6) dX11_evennessOf_6 rfl ?_
    refine j_aload_n C0 (pc := 8) dX11_evennessOf_8 rfl ?_
    refine X_gN C0 (pc := 9) f_OV_16_9 rfl dX11_evennessOf_9 h (fun v7 h => ?_)
    refine X_gN C0 (pc := 12) f_OV_279_3 rfl dX11_evennessOf_12 h (fun v8 h => ?_)
    refine j_iconst C0 (pc := 15) dX11_evennessOf_15 (v := (2 : Int32)) (by decide) ?_
    refine X_iald C0 (pc := 16) dX11_evennessOf_16 h (fun v9 h => ?_)
    refine j_icmp_ge C0 (pc := 17) (tgt := 52) dX11_evennessOf_17 (by decide) (fun hc => ?_) (fun hc => ?_)
    · replace h := (X_if h).1 hc
      exact j_J.wq (hk52 v4 v5 M h) (And.intro rfl (And.intro rfl (trivial)))
    · replace h := (X_if h).2 hc
      refine X_join (fun (kj : Nat → Int32 → Int32 → Int32 → Int32 → Int32 → m_M → Option (Int32 × m_M)) => ∀ (p0 : Nat) (p1 : Int32) (p2 : Int32) (p3 : Int32) (p4 : Int32) (p5 : Int32) (M : m_M), m_ok e_I Φ (kj p0 p1 p2 p3 p4 p5 M) → j_J X 6 46 [some (.ref p0), some (.int p1), some (.int p2), some (.int p3), some (.int p4), some (.int p5)] [] (0, 0) M) h (fun v10 v11 v12 v13 v14 v15 M1 h => ?_) (fun k46 hk46 h => ?_)
      · refine j_iinc C0 (pc := 46) dX11_evennessOf_46 (v := v15 + (1 : Int32)) rfl (Nat.le_of_ble_eq_true rfl) (by rfl) ?_
        refine X_let (G := fun w => j_J X 6 49 [some (.ref v10), some (.int v11), some (.int v12), some (.int v13), some (.int v14), some (.int w)] [] (0, 0) M1) h (fun v16 h => ?_)
        refine j_goto C0 (pc := 49) (tgt := 6) dX11_evennessOf_49 (by decide) ?_
        exact j_J.wq (ih v10 v11 v12 v13 v14 v16 M1 h) (And.intro rfl (And.intro rfl (And.intro rfl (And.intro rfl (And.intro rfl (And.intro rfl (trivial)))))))
      · refine j_iload_n C0 (pc := 20) dX11_evennessOf_20 rfl ?_
        refine j_iload C0 (pc := 21) dX11_evennessOf_21 rfl ?_
        refine j_ishr C0 (pc := 23) dX11_evennessOf_23 ?_
        refine j_iconst C0 (pc := 24) dX11_evennessOf_24 (v := (1 : Int32)) (by decide) ?_
        refine j_iand C0 (pc := 25) dX11_evennessOf_25 ?_
        refine j_if_eq C0 (pc := 26) (tgt := 46) dX11_evennessOf_26 (by decide) (fun hc => ?_) (fun hc => ?_)
        · replace h := (X_if h).1 hc
          exact j_J.wq (hk46 v1 v2 v3 v4 v5 v6 M h) (And.intro rfl (And.intro rfl (And.intro rfl (And.intro rfl (And.intro rfl (And.intro rfl (trivial)))))))
        · replace h := (X_if h).2 hc
          refine j_aload_n C0 (pc := 29) dX11_evennessOf_29 rfl ?_
          refine X_gN C0 (pc := 30) f_OV_16_9 rfl dX11_evennessOf_30 h (fun v17 h => ?_)
          refine j_iload_n C0 (pc := 33) dX11_evennessOf_33 rfl ?_
          refine j_iload C0 (pc := 34) dX11_evennessOf_34 rfl ?_
          refine j_iload_n C0 (pc := 36) dX11_evennessOf_36 rfl ?_
          refine X_cV C0 (pc := 37) (e' := e_I) (as := [.int v2, .int v6, .int v3]) (rest := []) (s' := fun w => .int w :: []) (g' := (0, 0)) v_OV_201_3 (fun Ψ hΨ => K_X3_clauseHolds v17 v2 v6 v3 M Ψ hΨ) rfl rfl (fun _ => rfl) (by decide) (by decide) rfl (Nat.le_of_ble_eq_true rfl) dX11_evennessOf_37 h (fun v18 M2 h => ?_)
          refine j_if_eq C0 (pc := 40) (tgt := 46) dX11_evennessOf_40 (by decide) (fun hc => ?_) (fun hc => ?_)
          · replace h := (X_if h).1 hc
            exact j_J.wq (hk46 v1 v2 v3 v4 v5 v6 M2 h) (And.intro rfl (And.intro rfl (And.intro rfl (And.intro rfl (And.intro rfl (And.intro rfl (trivial)))))))
          · replace h := (X_if h).2 hc
            refine j_iinc C0 (pc := 43) dX11_evennessOf_43 (v := v5 + (1 : Int32)) rfl (Nat.le_of_ble_eq_true rfl) (by rfl) ?_
            refine X_let (G := fun w => j_J X 6 46 [some (.ref v1), some (.int v2), some (.int v3), some (.int v4), some (.int w), some (.int v6)] [] (0, 0) M2) h (fun v19 h => ?_)
            exact j_J.wq (hk46 v1 v2 v3 v4 v19 v6 M2 h) (And.intro rfl (And.intro rfl (And.intro rfl (And.intro rfl (And.intro rfl (And.intro rfl (trivial)))))))
set_option maxHeartbeats 4000000 in
theorem K_X11_evennessOf (a0 : Nat) (a1 : Int32) (a2 : Int32) (a3 : Int32) (M : m_M) (Φ : Option Value → m_M → Prop) (h : m_ok e_I Φ (F_X11_evennessOf a0 a1 a2 a3 M)) : j_Ct yX11_evennessOf cX11_evennessOf 6 (some .int) 5 0 0 [.ref a0, .int a1, .int a2, .int a3] M Φ := by
  refine j_Ct.of (by decide +kernel) (Nat.le_of_ble_eq_true rfl) fun X C => ?_
  have C0 := C.1
  show j_J X 6 0 [some (.ref a0), some (.int a1), some (.int a2), some (.int a3), none, none] [] (0, 0) M
  unfold F_X11_evennessOf at h
  refine j_iconst C0 (pc := 0) dX11_evennessOf_0 (v := (0 : Int32)) (by decide) ?_
  refine j_istore C0 (pc := 1) dX11_evennessOf_1 (Nat.le_of_ble_eq_true rfl) ?_
  show j_J X 6 3 [some (.ref a0), some (.int a1), some (.int a2), some (.int a3), some (.int (0 : Int32)), none] [] (0, 0) M
  refine j_iconst C0 (pc := 3) dX11_evennessOf_3 (v := (0 : Int32)) (by decide) ?_
  refine j_istore C0 (pc := 4) dX11_evennessOf_4 (Nat.le_of_ble_eq_true rfl) ?_
  show j_J X 6 6 [some (.ref a0), some (.int a1), some (.int a2), some (.int a3), some (.int (0 : Int32)), some (.int (0 : Int32))] [] (0, 0) M
  refine X_join (fun (kj : Int32 → Int32 → m_M → Option (Int32 × m_M)) => ∀ (p0 : Int32) (p1 : Int32) (M : m_M), m_ok e_I Φ (kj p0 p1 M) → j_J X 6 52 [none, none, none, some (.int p0), some (.int p1), none] [] (0, 0) M) h (fun v1 v2 M1 h => ?_) (fun k52 hk52 h => ?_)
  · refine j_iload C0 (pc := 52) dX11_evennessOf_52 rfl ?_
    refine j_iload_n C0 (pc := 54) dX11_evennessOf_54 rfl ?_
    refine X_cS C0 (pc := 55) (e' := e_I) (as := [.int v1]) (rest := [.int v2]) (s' := fun w => .int w :: [.int v2]) (g' := (0, 0)) s_OV_233 (fun Ψ hΨ => K_J6_bitCount_0f7a4 v1 M1 Ψ hΨ) rfl rfl (fun _ => rfl) (by decide) (by decide) rfl (Nat.le_of_ble_eq_true rfl) dX11_evennessOf_55 h (fun v3 M2 h => ?_)
    refine j_iload C0 (pc := 58) dX11_evennessOf_58 rfl ?_
    refine j_isub C0 (pc := 60) dX11_evennessOf_60 ?_
    refine X_cS C0 (pc := 61) (e' := e_I) (as := [.int v2, .int (v3 - v2)]) (rest := []) (s' := fun w => .int w :: []) (g' := (0, 0)) s_OV_368 (fun Ψ hΨ => K_J9_min_7cf53 v2 (v3 - v2) M2 Ψ hΨ) rfl rfl (fun _ => rfl) (by decide) (by decide) rfl (Nat.le_of_ble_eq_true rfl) dX11_evennessOf_61 h (fun v4 M3 h => ?_)
    exact j_iret C rfl h dX11_evennessOf_64 (by decide)
  · exact j_J.wq (L_X11_evennessOf_6 C hk52 m_FU a0 a1 a2 a3 (0 : Int32) (0 : Int32) M h) (And.intro rfl (And.intro rfl (And.intro rfl (And.intro rfl (And.intro rfl (And.intro rfl (trivial)))))))
theorem dX11_feedBytes_0 : decode cX11_feedBytes 0 = .ok (.bipush 56, 2) := by decide +kernel
theorem dX11_feedBytes_2 : decode cX11_feedBytes 2 = .ok (.istore_n 3, 1) := by decide +kernel
theorem dX11_feedBytes_3 : decode cX11_feedBytes 3 = .ok (.iload_n 3, 1) := by decide +kernel
theorem dX11_feedBytes_4 : decode cX11_feedBytes 4 = .ok (.ifCond .lt 84, 3) := by decide +kernel
theorem dX11_feedBytes_7 : decode cX11_feedBytes 7 = .ok (.lload_n 1, 1) := by decide +kernel
theorem dX11_feedBytes_8 : decode cX11_feedBytes 8 = .ok (.iload_n 3, 1) := by decide +kernel
theorem dX11_feedBytes_9 : decode cX11_feedBytes 9 = .ok (.lshr, 1) := by decide +kernel
theorem dX11_feedBytes_10 : decode cX11_feedBytes 10 = .ok (.ldc2_w 340, 3) := by decide +kernel
theorem dX11_feedBytes_13 : decode cX11_feedBytes 13 = .ok (.land, 1) := by decide +kernel
theorem dX11_feedBytes_14 : decode cX11_feedBytes 14 = .ok (.l2i, 1) := by decide +kernel
theorem dX11_feedBytes_15 : decode cX11_feedBytes 15 = .ok (.istore 4, 2) := by decide +kernel
theorem dX11_feedBytes_17 : decode cX11_feedBytes 17 = .ok (.iload 4, 2) := by decide +kernel
theorem dX11_feedBytes_19 : decode cX11_feedBytes 19 = .ok (.bipush 10, 2) := by decide +kernel
theorem dX11_feedBytes_21 : decode cX11_feedBytes 21 = .ok (.if_icmp .eq 17, 3) := by decide +kernel
theorem dX11_feedBytes_24 : decode cX11_feedBytes 24 = .ok (.iload 4, 2) := by decide +kernel
theorem dX11_feedBytes_26 : decode cX11_feedBytes 26 = .ok (.bipush 32, 2) := by decide +kernel
theorem dX11_feedBytes_28 : decode cX11_feedBytes 28 = .ok (.if_icmp .lt 14, 3) := by decide +kernel
theorem dX11_feedBytes_31 : decode cX11_feedBytes 31 = .ok (.iload 4, 2) := by decide +kernel
theorem dX11_feedBytes_33 : decode cX11_feedBytes 33 = .ok (.bipush 126, 2) := by decide +kernel
theorem dX11_feedBytes_35 : decode cX11_feedBytes 35 = .ok (.if_icmp .gt 7, 3) := by decide +kernel
theorem dX11_feedBytes_38 : decode cX11_feedBytes 38 = .ok (.iconst 1, 1) := by decide +kernel
theorem dX11_feedBytes_39 : decode cX11_feedBytes 39 = .ok (.goto 4, 3) := by decide +kernel
theorem dX11_feedBytes_42 : decode cX11_feedBytes 42 = .ok (.iconst 0, 1) := by decide +kernel
theorem dX11_feedBytes_43 : decode cX11_feedBytes 43 = .ok (.istore 5, 2) := by decide +kernel
theorem dX11_feedBytes_45 : decode cX11_feedBytes 45 = .ok (.iload 5, 2) := by decide +kernel
theorem dX11_feedBytes_47 : decode cX11_feedBytes 47 = .ok (.ifCond .eq 35, 3) := by decide +kernel
theorem dX11_feedBytes_50 : decode cX11_feedBytes 50 = .ok (.aload_n 0, 1) := by decide +kernel
theorem dX11_feedBytes_51 : decode cX11_feedBytes 51 = .ok (.getfield 94, 3) := by decide +kernel
theorem dX11_feedBytes_54 : decode cX11_feedBytes 54 = .ok (.sipush 1000, 3) := by decide +kernel
theorem dX11_feedBytes_57 : decode cX11_feedBytes 57 = .ok (.if_icmp .ge 25, 3) := by decide +kernel
theorem dX11_feedBytes_60 : decode cX11_feedBytes 60 = .ok (.aload_n 0, 1) := by decide +kernel
theorem dX11_feedBytes_61 : decode cX11_feedBytes 61 = .ok (.getfield 9, 3) := by decide +kernel
theorem dX11_feedBytes_64 : decode cX11_feedBytes 64 = .ok (.aload_n 0, 1) := by decide +kernel
theorem dX11_feedBytes_65 : decode cX11_feedBytes 65 = .ok (.getfield 94, 3) := by decide +kernel
theorem dX11_feedBytes_68 : decode cX11_feedBytes 68 = .ok (.iload 4, 2) := by decide +kernel
theorem dX11_feedBytes_70 : decode cX11_feedBytes 70 = .ok (.i2c, 1) := by decide +kernel
theorem dX11_feedBytes_71 : decode cX11_feedBytes 71 = .ok (.castore, 1) := by decide +kernel
theorem dX11_feedBytes_72 : decode cX11_feedBytes 72 = .ok (.aload_n 0, 1) := by decide +kernel
theorem dX11_feedBytes_73 : decode cX11_feedBytes 73 = .ok (.dup, 1) := by decide +kernel
theorem dX11_feedBytes_74 : decode cX11_feedBytes 74 = .ok (.getfield 94, 3) := by decide +kernel
theorem dX11_feedBytes_77 : decode cX11_feedBytes 77 = .ok (.iconst 1, 1) := by decide +kernel
theorem dX11_feedBytes_78 : decode cX11_feedBytes 78 = .ok (.iadd, 1) := by decide +kernel
theorem dX11_feedBytes_79 : decode cX11_feedBytes 79 = .ok (.putfield 94, 3) := by decide +kernel
theorem dX11_feedBytes_82 : decode cX11_feedBytes 82 = .ok (.iinc 3 (-8), 3) := by decide +kernel
theorem dX11_feedBytes_85 : decode cX11_feedBytes 85 = .ok (.goto (-82), 3) := by decide +kernel
theorem dX11_feedBytes_88 : decode cX11_feedBytes 88 = .ok (.return_, 1) := by decide +kernel
noncomputable def F_X11_feedBytes_3 : Nat → Nat → Int64 → Int32 → m_M → Option (Unit × m_M)
  | 0, _, _, _, _ => none
  | n + 1, v1, v2, v3, M =>
    if v3 < 0 then (
      some ((), M)
    ) else
    m_let (fun (v4 : Nat) (v5 : Int64) (v6 : Int32) (v7 : Int32) (v8 : Int32) (M1 : m_M) =>
      m_let (fun (v9 : Nat) (v10 : Int64) (v11 : Int32) (M2 : m_M) =>
        m_let (v11 + (-8 : Int32)) fun v12 =>
        F_X11_feedBytes_3 n v9 v10 v12 M2
      ) fun (k82 : Nat → Int64 → Int32 → m_M → Option (Unit × m_M)) =>
      if v8 = 0 then (
        k82 v4 v5 v6 M1
      ) else
      x_gI 9 M1 v4 1 fun v13 =>
      if (1000 : Int32) ≤ v13 then (
        k82 v4 v5 v6 M1
      ) else
      x_gN 9 M1 v4 0 fun v14 =>
      x_gI 9 M1 v4 1 fun v15 =>
      x_sI 11 M1 v14 v15 (vp_nar .char ((v7.toUInt32 % 65536).toInt32)) fun M3 =>
      x_gI 9 M3 v4 1 fun v16 =>
      x_pI 9 M3 v4 1 (v16 + (1 : Int32)) fun M4 =>
      k82 v4 v5 v6 M4
    ) fun (k43 : Nat → Int64 → Int32 → Int32 → Int32 → m_M → Option (Unit × m_M)) =>
    m_let (fun (v17 : Nat) (v18 : Int64) (v19 : Int32) (v20 : Int32) (M5 : m_M) =>
      k43 v17 v18 v19 v20 (1 : Int32) M5
    ) fun (k38 : Nat → Int64 → Int32 → Int32 → m_M → Option (Unit × m_M)) =>
    m_let (((v2 >>> (v3.toInt64 &&& 63)) &&& (255 : Int64)).toInt32) fun v21 =>
    if v21 = (10 : Int32) then (
      k38 v1 v2 v3 v21 M
    ) else
    m_let (fun (v22 : Nat) (v23 : Int64) (v24 : Int32) (v25 : Int32) (M6 : m_M) =>
      k43 v22 v23 v24 v25 (0 : Int32) M6
    ) fun (k42 : Nat → Int64 → Int32 → Int32 → m_M → Option (Unit × m_M)) =>
    if v21 < (32 : Int32) then (
      k42 v1 v2 v3 v21 M
    ) else
    if (126 : Int32) < v21 then (
      k42 v1 v2 v3 v21 M
    ) else
    k38 v1 v2 v3 v21 M
noncomputable def F_X11_feedBytes (a0 : Nat) (a1 : Int64) (M : m_M) : Option (Unit × m_M) :=
  F_X11_feedBytes_3 m_FU a0 a1 (56 : Int32) M
set_option maxHeartbeats 4000000 in
theorem L_X11_feedBytes_3 {X : j_X} {Φ : Option Value → m_M → Prop} (C : j_C X yX11_feedBytes cX11_feedBytes 6 none 1 0 0 Φ) : ∀ (n : Nat) (v1 : Nat) (v2 : Int64) (v3 : Int32) (M : m_M), m_ok e_V Φ (F_X11_feedBytes_3 n v1 v2 v3 M) → j_J X 6 3 [some (.ref v1), some (.long v2), none, some (.int v3), none, none] [] (0, 0) M := by
  have C0 := C.1
  intro n
  induction n with
  | zero => intro v1 v2 v3 M h; exact False.elim h
  | succ n ih =>
    intro v1 v2 v3 M h
    rw [F_X11_feedBytes_3] at h
    refine j_iload_n C0 (pc := 3) dX11_feedBytes_3 rfl ?_
    refine j_if_lt C0 (pc := 4) (tgt := 88) dX11_feedBytes_4 (by decide) (fun hc => ?_) (fun hc => ?_)
    · replace h := (X_if h).1 hc
      exact j_vret C rfl h dX11_feedBytes_88 (by decide)
    · replace h := (X_if h).2 hc
      refine X_join (fun (kj : Nat → Int64 → Int32 → Int32 → Int32 → m_M → Option (Unit × m_M)) => ∀ (p0 : Nat) (p1 : Int64) (p2 : Int32) (p3 : Int32) (p4 : Int32) (M : m_M), m_ok e_V Φ (kj p0 p1 p2 p3 p4 M) → j_J X 6 43 [some (.ref p0), some (.long p1), none, some (.int p2), some (.int p3), none] [.int p4] (0, 0) M) h (fun v4 v5 v6 v7 v8 M1 h => ?_) (fun k43 hk43 h => ?_)
      · refine X_join (fun (kj : Nat → Int64 → Int32 → m_M → Option (Unit × m_M)) => ∀ (p0 : Nat) (p1 : Int64) (p2 : Int32) (M : m_M), m_ok e_V Φ (kj p0 p1 p2 M) → j_J X 6 82 [some (.ref p0), some (.long p1), none, some (.int p2), none, none] [] (0, 0) M) h (fun v9 v10 v11 M2 h => ?_) (fun k82 hk82 h => ?_)
        · refine j_iinc C0 (pc := 82) dX11_feedBytes_82 (v := v11 + (-8 : Int32)) rfl (Nat.le_of_ble_eq_true rfl) (by rfl) ?_
          refine X_let (G := fun w => j_J X 6 85 [some (.ref v9), some (.long v10), none, some (.int w), none, none] [] (0, 0) M2) h (fun v12 h => ?_)
          refine j_goto C0 (pc := 85) (tgt := 3) dX11_feedBytes_85 (by decide) ?_
          exact j_J.wq (ih v9 v10 v12 M2 h) (And.intro rfl (And.intro rfl (And.intro rfl (trivial))))
        · refine j_istore C0 (pc := 43) dX11_feedBytes_43 (Nat.le_of_ble_eq_true rfl) ?_
          show j_J X 6 45 [some (.ref v4), some (.long v5), none, some (.int v6), some (.int v7), some (.int v8)] [] (0, 0) M1
          refine j_iload C0 (pc := 45) dX11_feedBytes_45 rfl ?_
          refine j_if_eq C0 (pc := 47) (tgt := 82) dX11_feedBytes_47 (by decide) (fun hc => ?_) (fun hc => ?_)
          · replace h := (X_if h).1 hc
            exact j_J.wq (hk82 v4 v5 v6 M1 h) (And.intro rfl (And.intro rfl (And.intro rfl (trivial))))
          · replace h := (X_if h).2 hc
            refine j_aload_n C0 (pc := 50) dX11_feedBytes_50 rfl ?_
            refine X_gI C0 (pc := 51) f_OV_94_9 rfl dX11_feedBytes_51 h (fun v13 h => ?_)
            refine j_sipush C0 (pc := 54) dX11_feedBytes_54 (v := (1000 : Int32)) (by decide) ?_
            refine j_icmp_ge C0 (pc := 57) (tgt := 82) dX11_feedBytes_57 (by decide) (fun hc => ?_) (fun hc => ?_)
            · replace h := (X_if h).1 hc
              exact j_J.wq (hk82 v4 v5 v6 M1 h) (And.intro rfl (And.intro rfl (And.intro rfl (trivial))))
            · replace h := (X_if h).2 hc
              refine j_aload_n C0 (pc := 60) dX11_feedBytes_60 rfl ?_
              refine X_gN C0 (pc := 61) f_OV_9_9 rfl dX11_feedBytes_61 h (fun v14 h => ?_)
              refine j_aload_n C0 (pc := 64) dX11_feedBytes_64 rfl ?_
              refine X_gI C0 (pc := 65) f_OV_94_9 rfl dX11_feedBytes_65 h (fun v15 h => ?_)
              refine j_iload C0 (pc := 68) dX11_feedBytes_68 rfl ?_
              refine j_i2c C0 (pc := 70) dX11_feedBytes_70 (v := (v7.toUInt32 % 65536).toInt32) rfl ?_
              refine X_cast C0 (pc := 71) dX11_feedBytes_71 h (fun M3 h => ?_)
              refine j_aload_n C0 (pc := 72) dX11_feedBytes_72 rfl ?_
              refine j_dup C0 (pc := 73) dX11_feedBytes_73 rfl ?_
              refine X_gI C0 (pc := 74) f_OV_94_9 rfl dX11_feedBytes_74 h (fun v16 h => ?_)
              refine j_iconst C0 (pc := 77) dX11_feedBytes_77 (v := (1 : Int32)) (by decide) ?_
              refine j_iadd C0 (pc := 78) dX11_feedBytes_78 ?_
              refine X_pI C0 (pc := 79) f_OV_94_9 rfl rfl dX11_feedBytes_79 h (fun M4 h => ?_)
              exact j_J.wq (hk82 v4 v5 v6 M4 h) (And.intro rfl (And.intro rfl (And.intro rfl (trivial))))
      · refine X_join (fun (kj : Nat → Int64 → Int32 → Int32 → m_M → Option (Unit × m_M)) => ∀ (p0 : Nat) (p1 : Int64) (p2 : Int32) (p3 : Int32) (M : m_M), m_ok e_V Φ (kj p0 p1 p2 p3 M) → j_J X 6 38 [some (.ref p0), some (.long p1), none, some (.int p2), some (.int p3), none] [] (0, 0) M) h (fun v17 v18 v19 v20 M5 h => ?_) (fun k38 hk38 h => ?_)
        · refine j_iconst C0 (pc := 38) dX11_feedBytes_38 (v := (1 : Int32)) (by decide) ?_
          refine j_goto C0 (pc := 39) (tgt := 43) dX11_feedBytes_39 (by decide) ?_
          exact j_J.wq (hk43 v17 v18 v19 v20 (1 : Int32) M5 h) (And.intro rfl (And.intro rfl (And.intro rfl (And.intro rfl (trivial)))))
        · refine j_lload_n C0 (pc := 7) dX11_feedBytes_7 rfl ?_
          refine j_iload_n C0 (pc := 8) dX11_feedBytes_8 rfl ?_
          refine j_lshr C0 (pc := 9) dX11_feedBytes_9 (v := v2 >>> (v3.toInt64 &&& 63)) rfl ?_
          refine j_ldc2 C0 (pc := 10) (v := (255 : Int64)) (j_c2 230 (by decide +kernel)) dX11_feedBytes_10 ?_
          refine j_land C0 (pc := 13) dX11_feedBytes_13 ?_
          refine j_l2i C0 (pc := 14) dX11_feedBytes_14 (v := ((v2 >>> (v3.toInt64 &&& 63)) &&& (255 : Int64)).toInt32) rfl ?_
          refine X_let (G := fun w => j_J X 6 15 [some (.ref v1), some (.long v2), none, some (.int v3), none, none] (.int w :: []) (0, 0) M) h (fun v21 h => ?_)
          refine j_istore C0 (pc := 15) dX11_feedBytes_15 (Nat.le_of_ble_eq_true rfl) ?_
          show j_J X 6 17 [some (.ref v1), some (.long v2), none, some (.int v3), some (.int v21), none] [] (0, 0) M
          refine j_iload C0 (pc := 17) dX11_feedBytes_17 rfl ?_
          refine j_bipush C0 (pc := 19) dX11_feedBytes_19 (v := (10 : Int32)) (by decide) ?_
          refine j_icmp_eq C0 (pc := 21) (tgt := 38) dX11_feedBytes_21 (by decide) (fun hc => ?_) (fun hc => ?_)
          · replace h := (X_if h).1 hc
            exact j_J.wq (hk38 v1 v2 v3 v21 M h) (And.intro rfl (And.intro rfl (And.intro rfl (And.intro rfl (trivial)))))
          · replace h := (X_if h).2 hc
            refine X_join (fun (kj : Nat → Int64 → Int32 → Int32 → m_M → Option (Unit × m_M)) => ∀ (p0 : Nat) (p1 : Int64) (p2 : Int32) (p3 : Int32) (M : m_M), m_ok e_V Φ (kj p0 p1 p2 p3 M) → j_J X 6 42 [some (.ref p0), some (.long p1), none, some (.int p2), some (.int p3), none] [] (0, 0) M) h (fun v22 v23 v24 v25 M6 h => ?_) (fun k42 hk42 h => ?_)
            · refine j_iconst C0 (pc := 42) dX11_feedBytes_42 (v := (0 : Int32)) (by decide) ?_
              exact j_J.wq (hk43 v22 v23 v24 v25 (0 : Int32) M6 h) (And.intro rfl (And.intro rfl (And.intro rfl (And.intro rfl (trivial)))))
            · refine j_iload C0 (pc := 24) dX11_feedBytes_24 rfl ?_
              refine j_bipush C0 (pc := 26) dX11_feedBytes_26 (v := (32 : Int32)) (by decide) ?_
              refine j_icmp_lt C0 (pc := 28) (tgt := 42) dX11_feedBytes_28 (by decide) (fun hc => ?_) (fun hc => ?_)
              · replace h := (X_if h).1 hc
                exact j_J.wq (hk42 v1 v2 v3 v21 M h) (And.intro rfl (And.intro rfl (And.intro rfl (And.intro rfl (trivial)))))
              · replace h := (X_if h).2 hc
                refine j_iload C0 (pc := 31) dX11_feedBytes_31 rfl ?_
                refine j_bipush C0 (pc := 33) dX11_feedBytes_33 (v := (126 : Int32)) (by decide) ?_
                refine j_icmp_gt C0 (pc := 35) (tgt := 42) dX11_feedBytes_35 (by decide) (fun hc => ?_) (fun hc => ?_)
                · replace h := (X_if h).1 hc
                  exact j_J.wq (hk42 v1 v2 v3 v21 M h) (And.intro rfl (And.intro rfl (And.intro rfl (And.intro rfl (trivial)))))
                · replace h := (X_if h).2 hc
                  exact j_J.wq (hk38 v1 v2 v3 v21 M h) (And.intro rfl (And.intro rfl (And.intro rfl (And.intro rfl (trivial)))))
set_option maxHeartbeats 4000000 in
theorem K_X11_feedBytes (a0 : Nat) (a1 : Int64) (M : m_M) (Φ : Option Value → m_M → Prop) (h : m_ok e_V Φ (F_X11_feedBytes a0 a1 M)) : j_Ct yX11_feedBytes cX11_feedBytes 6 none 1 0 0 [.ref a0, .long a1] M Φ := by
  refine j_Ct.of (by decide +kernel) (Nat.le_of_ble_eq_true rfl) fun X C => ?_
  have C0 := C.1
  show j_J X 6 0 [some (.ref a0), some (.long a1), none, none, none, none] [] (0, 0) M
  unfold F_X11_feedBytes at h
  refine j_bipush C0 (pc := 0) dX11_feedBytes_0 (v := (56 : Int32)) (by decide) ?_
  refine j_istore_n C0 (pc := 2) dX11_feedBytes_2 (Nat.le_of_ble_eq_true rfl) ?_
  show j_J X 6 3 [some (.ref a0), some (.long a1), none, some (.int (56 : Int32)), none, none] [] (0, 0) M
  exact j_J.wq (L_X11_feedBytes_3 C m_FU a0 a1 (56 : Int32) M h) (And.intro rfl (And.intro rfl (And.intro rfl (trivial))))
theorem dX11_feed_0 : decode cX11_feed 0 = .ok (.aload_n 0, 1) := by decide +kernel
theorem dX11_feed_1 : decode cX11_feed 1 = .ok (.lload_n 1, 1) := by decide +kernel
theorem dX11_feed_2 : decode cX11_feed 2 = .ok (.invokevirtual 90, 3) := by decide +kernel
theorem dX11_feed_5 : decode cX11_feed 5 = .ok (.aload_n 0, 1) := by decide +kernel
theorem dX11_feed_6 : decode cX11_feed 6 = .ok (.lload_n 3, 1) := by decide +kernel
theorem dX11_feed_7 : decode cX11_feed 7 = .ok (.invokevirtual 90, 3) := by decide +kernel
theorem dX11_feed_10 : decode cX11_feed 10 = .ok (.aload_n 0, 1) := by decide +kernel
theorem dX11_feed_11 : decode cX11_feed 11 = .ok (.lload 5, 2) := by decide +kernel
theorem dX11_feed_13 : decode cX11_feed 13 = .ok (.invokevirtual 90, 3) := by decide +kernel
theorem dX11_feed_16 : decode cX11_feed 16 = .ok (.aload_n 0, 1) := by decide +kernel
theorem dX11_feed_17 : decode cX11_feed 17 = .ok (.getfield 94, 3) := by decide +kernel
theorem dX11_feed_20 : decode cX11_feed 20 = .ok (.ireturn, 1) := by decide +kernel
noncomputable def F_X11_feed (a0 : Nat) (a1 : Int64) (a2 : Int64) (a3 : Int64) (M : m_M) : Option (Int32 × m_M) :=
  x_cV 9 M a0 (F_X11_feedBytes a0 a1 M) fun _ M1 =>
  x_cV 9 M1 a0 (F_X11_feedBytes a0 a2 M1) fun _ M2 =>
  x_cV 9 M2 a0 (F_X11_feedBytes a0 a3 M2) fun _ M3 =>
  x_gI 9 M3 a0 1 fun v1 =>
  some (v1, M3)
set_option maxHeartbeats 4000000 in
theorem K_X11_feed (a0 : Nat) (a1 : Int64) (a2 : Int64) (a3 : Int64) (M : m_M) (Φ : Option Value → m_M → Prop) (h : m_ok e_I Φ (F_X11_feed a0 a1 a2 a3 M)) : j_Ct yX11_feed cX11_feed 7 (some .int) 2 0 0 [.ref a0, .long a1, .long a2, .long a3] M Φ := by
  refine j_Ct.of (by decide +kernel) (Nat.le_of_ble_eq_true rfl) fun X C => ?_
  have C0 := C.1
  show j_J X 7 0 [some (.ref a0), some (.long a1), none, some (.long a2), none, some (.long a3), none] [] (0, 0) M
  unfold F_X11_feed at h
  refine j_aload_n C0 (pc := 0) dX11_feed_0 rfl ?_
  refine j_lload_n C0 (pc := 1) dX11_feed_1 rfl ?_
  refine X_cV C0 (pc := 2) (e' := e_V) (as := [.long a1]) (rest := []) (s' := fun _ => []) (g' := (0, 0)) v_OV_90_9 (fun Ψ hΨ => K_X11_feedBytes a0 a1 M Ψ hΨ) rfl rfl (fun _ => rfl) (by decide) (by decide) rfl (Nat.le_of_ble_eq_true rfl) dX11_feed_2 h (fun _ M1 h => ?_)
  refine j_aload_n C0 (pc := 5) dX11_feed_5 rfl ?_
  refine j_lload_n C0 (pc := 6) dX11_feed_6 rfl ?_
  refine X_cV C0 (pc := 7) (e' := e_V) (as := [.long a2]) (rest := []) (s' := fun _ => []) (g' := (0, 0)) v_OV_90_9 (fun Ψ hΨ => K_X11_feedBytes a0 a2 M1 Ψ hΨ) rfl rfl (fun _ => rfl) (by decide) (by decide) rfl (Nat.le_of_ble_eq_true rfl) dX11_feed_7 h (fun _ M2 h => ?_)
  refine j_aload_n C0 (pc := 10) dX11_feed_10 rfl ?_
  refine j_lload C0 (pc := 11) dX11_feed_11 rfl ?_
  refine X_cV C0 (pc := 13) (e' := e_V) (as := [.long a3]) (rest := []) (s' := fun _ => []) (g' := (0, 0)) v_OV_90_9 (fun Ψ hΨ => K_X11_feedBytes a0 a3 M2 Ψ hΨ) rfl rfl (fun _ => rfl) (by decide) (by decide) rfl (Nat.le_of_ble_eq_true rfl) dX11_feed_13 h (fun _ M3 h => ?_)
  refine j_aload_n C0 (pc := 16) dX11_feed_16 rfl ?_
  refine X_gI C0 (pc := 17) f_OV_94_9 rfl dX11_feed_17 h (fun v1 h => ?_)
  exact j_iret C rfl h dX11_feed_20 (by decide)
theorem dX10_drop_0 : decode cX10_drop 0 = .ok (.iconst 0, 1) := by decide +kernel
theorem dX10_drop_1 : decode cX10_drop 1 = .ok (.istore_n 2, 1) := by decide +kernel
theorem dX10_drop_2 : decode cX10_drop 2 = .ok (.iload_n 2, 1) := by decide +kernel
theorem dX10_drop_3 : decode cX10_drop 3 = .ok (.bipush 16, 2) := by decide +kernel
theorem dX10_drop_5 : decode cX10_drop 5 = .ok (.if_icmp .ge 28, 3) := by decide +kernel
theorem dX10_drop_8 : decode cX10_drop 8 = .ok (.aload_n 0, 1) := by decide +kernel
theorem dX10_drop_9 : decode cX10_drop 9 = .ok (.getfield 9, 3) := by decide +kernel
theorem dX10_drop_12 : decode cX10_drop 12 = .ok (.iload_n 2, 1) := by decide +kernel
theorem dX10_drop_13 : decode cX10_drop 13 = .ok (.dup2, 1) := by decide +kernel
theorem dX10_drop_14 : decode cX10_drop 14 = .ok (.laload, 1) := by decide +kernel
theorem dX10_drop_15 : decode cX10_drop 15 = .ok (.aload_n 1, 1) := by decide +kernel
theorem dX10_drop_16 : decode cX10_drop 16 = .ok (.getfield 9, 3) := by decide +kernel
theorem dX10_drop_19 : decode cX10_drop 19 = .ok (.iload_n 2, 1) := by decide +kernel
theorem dX10_drop_20 : decode cX10_drop 20 = .ok (.laload, 1) := by decide +kernel
theorem dX10_drop_21 : decode cX10_drop 21 = .ok (.ldc2_w 15, 3) := by decide +kernel
theorem dX10_drop_24 : decode cX10_drop 24 = .ok (.lxor, 1) := by decide +kernel
theorem dX10_drop_25 : decode cX10_drop 25 = .ok (.land, 1) := by decide +kernel
theorem dX10_drop_26 : decode cX10_drop 26 = .ok (.lastore, 1) := by decide +kernel
theorem dX10_drop_27 : decode cX10_drop 27 = .ok (.iinc 2 1, 3) := by decide +kernel
theorem dX10_drop_30 : decode cX10_drop 30 = .ok (.goto (-28), 3) := by decide +kernel
theorem dX10_drop_33 : decode cX10_drop 33 = .ok (.return_, 1) := by decide +kernel
noncomputable def F_X10_drop_2 : Nat → Nat → Nat → Int32 → m_M → Option (Unit × m_M)
  | 0, _, _, _, _ => none
  | n + 1, v1, v2, v3, M =>
    if (16 : Int32) ≤ v3 then (
      some ((), M)
    ) else
    x_gN 8 M v1 0 fun v4 =>
    x_aL M v4 v3 fun v5 =>
    x_gN 8 M v2 0 fun v6 =>
    x_aL M v6 v3 fun v7 =>
    x_sL M v4 v3 (v5 &&& (v7 ^^^ (-1 : Int64))) fun M1 =>
    m_let (v3 + (1 : Int32)) fun v8 =>
    F_X10_drop_2 n v1 v2 v8 M1
noncomputable def F_X10_drop (a0 : Nat) (a1 : Nat) (M : m_M) : Option (Unit × m_M) :=
  F_X10_drop_2 m_FU a0 a1 (0 : Int32) M
set_option maxHeartbeats 4000000 in
theorem L_X10_drop_2 {X : j_X} {Φ : Option Value → m_M → Prop} (C : j_C X yX10_drop cX10_drop 3 none 1 0 0 Φ) : ∀ (n : Nat) (v1 : Nat) (v2 : Nat) (v3 : Int32) (M : m_M), m_ok e_V Φ (F_X10_drop_2 n v1 v2 v3 M) → j_J X 3 2 [some (.ref v1), some (.ref v2), some (.int v3)] [] (0, 0) M := by
  have C0 := C.1
  intro n
  induction n with
  | zero => intro v1 v2 v3 M h; exact False.elim h
  | succ n ih =>
    intro v1 v2 v3 M h
    rw [F_X10_drop_2] at h
    refine j_iload_n C0 (pc := 2) dX10_drop_2 rfl ?_
    refine j_bipush C0 (pc := 3) dX10_drop_3 (v := (16 : Int32)) (by decide) ?_
    refine j_icmp_ge C0 (pc := 5) (tgt := 33) dX10_drop_5 (by decide) (fun hc => ?_) (fun hc => ?_)
    · replace h := (X_if h).1 hc
      exact j_vret C rfl h dX10_drop_33 (by decide)
    · replace h := (X_if h).2 hc
      refine j_aload_n C0 (pc := 8) dX10_drop_8 rfl ?_
      refine X_gN C0 (pc := 9) f_WS_9_8 rfl dX10_drop_9 h (fun v4 h => ?_)
      refine j_iload_n C0 (pc := 12) dX10_drop_12 rfl ?_
      refine j_dup2 C0 (pc := 13) dX10_drop_13 rfl rfl ?_
      refine X_lald C0 (pc := 14) dX10_drop_14 h (fun v5 h => ?_)
      refine j_aload_n C0 (pc := 15) dX10_drop_15 rfl ?_
      refine X_gN C0 (pc := 16) f_WS_9_8 rfl dX10_drop_16 h (fun v6 h => ?_)
      refine j_iload_n C0 (pc := 19) dX10_drop_19 rfl ?_
      refine X_lald C0 (pc := 20) dX10_drop_20 h (fun v7 h => ?_)
      refine j_ldc2 C0 (pc := 21) (v := (-1 : Int64)) (j_c4 208 (by decide +kernel)) dX10_drop_21 ?_
      refine j_lxor C0 (pc := 24) dX10_drop_24 ?_
      refine j_land C0 (pc := 25) dX10_drop_25 ?_
      refine X_last C0 (pc := 26) dX10_drop_26 h (fun M1 h => ?_)
      refine j_iinc C0 (pc := 27) dX10_drop_27 (v := v3 + (1 : Int32)) rfl (Nat.le_of_ble_eq_true rfl) (by rfl) ?_
      refine X_let (G := fun w => j_J X 3 30 [some (.ref v1), some (.ref v2), some (.int w)] [] (0, 0) M1) h (fun v8 h => ?_)
      refine j_goto C0 (pc := 30) (tgt := 2) dX10_drop_30 (by decide) ?_
      exact j_J.wq (ih v1 v2 v8 M1 h) (And.intro rfl (And.intro rfl (And.intro rfl (trivial))))
set_option maxHeartbeats 4000000 in
theorem K_X10_drop (a0 : Nat) (a1 : Nat) (M : m_M) (Φ : Option Value → m_M → Prop) (h : m_ok e_V Φ (F_X10_drop a0 a1 M)) : j_Ct yX10_drop cX10_drop 3 none 1 0 0 [.ref a0, .ref a1] M Φ := by
  refine j_Ct.of (by decide +kernel) (Nat.le_of_ble_eq_true rfl) fun X C => ?_
  have C0 := C.1
  show j_J X 3 0 [some (.ref a0), some (.ref a1), none] [] (0, 0) M
  unfold F_X10_drop at h
  refine j_iconst C0 (pc := 0) dX10_drop_0 (v := (0 : Int32)) (by decide) ?_
  refine j_istore_n C0 (pc := 1) dX10_drop_1 (Nat.le_of_ble_eq_true rfl) ?_
  show j_J X 3 2 [some (.ref a0), some (.ref a1), some (.int (0 : Int32))] [] (0, 0) M
  exact j_J.wq (L_X10_drop_2 C m_FU a0 a1 (0 : Int32) M h) (And.intro rfl (And.intro rfl (And.intro rfl (trivial))))
theorem dX11_findLoopholes_0 : decode cX11_findLoopholes 0 = .ok (.aload_n 0, 1) := by decide +kernel
theorem dX11_findLoopholes_1 : decode cX11_findLoopholes 1 = .ok (.getfield 44, 3) := by decide +kernel
theorem dX11_findLoopholes_4 : decode cX11_findLoopholes 4 = .ok (.aload_n 1, 1) := by decide +kernel
theorem dX11_findLoopholes_5 : decode cX11_findLoopholes 5 = .ok (.getfield 348, 3) := by decide +kernel
theorem dX11_findLoopholes_8 : decode cX11_findLoopholes 8 = .ok (.aload_n 0, 1) := by decide +kernel
theorem dX11_findLoopholes_9 : decode cX11_findLoopholes 9 = .ok (.getfield 16, 3) := by decide +kernel
theorem dX11_findLoopholes_12 : decode cX11_findLoopholes 12 = .ok (.aload_n 1, 1) := by decide +kernel
theorem dX11_findLoopholes_13 : decode cX11_findLoopholes 13 = .ok (.getfield 350, 3) := by decide +kernel
theorem dX11_findLoopholes_16 : decode cX11_findLoopholes 16 = .ok (.invokevirtual 162, 3) := by decide +kernel
theorem dX11_findLoopholes_19 : decode cX11_findLoopholes 19 = .ok (.aload_n 0, 1) := by decide +kernel
theorem dX11_findLoopholes_20 : decode cX11_findLoopholes 20 = .ok (.getfield 87, 3) := by decide +kernel
theorem dX11_findLoopholes_23 : decode cX11_findLoopholes 23 = .ok (.invokevirtual 208, 3) := by decide +kernel
theorem dX11_findLoopholes_26 : decode cX11_findLoopholes 26 = .ok (.aload_n 0, 1) := by decide +kernel
theorem dX11_findLoopholes_27 : decode cX11_findLoopholes 27 = .ok (.getfield 84, 3) := by decide +kernel
theorem dX11_findLoopholes_30 : decode cX11_findLoopholes 30 = .ok (.aload_n 1, 1) := by decide +kernel
theorem dX11_findLoopholes_31 : decode cX11_findLoopholes 31 = .ok (.getfield 171, 3) := by decide +kernel
theorem dX11_findLoopholes_34 : decode cX11_findLoopholes 34 = .ok (.invokevirtual 353, 3) := by decide +kernel
theorem dX11_findLoopholes_37 : decode cX11_findLoopholes 37 = .ok (.aload_n 0, 1) := by decide +kernel
theorem dX11_findLoopholes_38 : decode cX11_findLoopholes 38 = .ok (.getfield 84, 3) := by decide +kernel
theorem dX11_findLoopholes_41 : decode cX11_findLoopholes 41 = .ok (.aload_n 0, 1) := by decide +kernel
theorem dX11_findLoopholes_42 : decode cX11_findLoopholes 42 = .ok (.getfield 87, 3) := by decide +kernel
theorem dX11_findLoopholes_45 : decode cX11_findLoopholes 45 = .ok (.invokevirtual 356, 3) := by decide +kernel
theorem dX11_findLoopholes_48 : decode cX11_findLoopholes 48 = .ok (.return_, 1) := by decide +kernel
noncomputable def F_X11_findLoopholes (a0 : Nat) (a1 : Nat) (M : m_M) : Option (Unit × m_M) :=
  x_gN 9 M a0 6 fun v1 =>
  x_gN 6 M a1 0 fun v2 =>
  x_gN 9 M a0 2 fun v3 =>
  x_gI 6 M a1 1 fun v4 =>
  x_cV 3 M v3 (F_X3_verbOf v3 v4 M) fun v5 M1 =>
  x_gN 9 M1 a0 14 fun v6 =>
  x_cV 5 M1 v1 (F_X5_find v1 v2 v5 v6 M1) fun _ M2 =>
  x_gN 9 M2 a0 13 fun v7 =>
  x_gN 6 M2 a1 3 fun v8 =>
  x_cV 8 M2 v7 (F_X10_take v7 v8 M2) fun _ M3 =>
  x_gN 9 M3 a0 13 fun v9 =>
  x_gN 9 M3 a0 14 fun v10 =>
  x_cV 8 M3 v9 (F_X10_drop v9 v10 M3) fun _ M4 =>
  some ((), M4)
set_option maxHeartbeats 4000000 in
theorem K_X11_findLoopholes (a0 : Nat) (a1 : Nat) (M : m_M) (Φ : Option Value → m_M → Prop) (h : m_ok e_V Φ (F_X11_findLoopholes a0 a1 M)) : j_Ct yX11_findLoopholes cX11_findLoopholes 2 none 7 0 0 [.ref a0, .ref a1] M Φ := by
  refine j_Ct.of (by decide +kernel) (Nat.le_of_ble_eq_true rfl) fun X C => ?_
  have C0 := C.1
  show j_J X 2 0 [some (.ref a0), some (.ref a1)] [] (0, 0) M
  unfold F_X11_findLoopholes at h
  refine j_aload_n C0 (pc := 0) dX11_findLoopholes_0 rfl ?_
  refine X_gN C0 (pc := 1) f_OV_44_9 rfl dX11_findLoopholes_1 h (fun v1 h => ?_)
  refine j_aload_n C0 (pc := 4) dX11_findLoopholes_4 rfl ?_
  refine X_gN C0 (pc := 5) f_OV_348_6 rfl dX11_findLoopholes_5 h (fun v2 h => ?_)
  refine j_aload_n C0 (pc := 8) dX11_findLoopholes_8 rfl ?_
  refine X_gN C0 (pc := 9) f_OV_16_9 rfl dX11_findLoopholes_9 h (fun v3 h => ?_)
  refine j_aload_n C0 (pc := 12) dX11_findLoopholes_12 rfl ?_
  refine X_gI C0 (pc := 13) f_OV_350_6 rfl dX11_findLoopholes_13 h (fun v4 h => ?_)
  refine X_cV C0 (pc := 16) (e' := e_I) (as := [.int v4]) (rest := [.ref v2, .ref v1]) (s' := fun w => .int w :: [.ref v2, .ref v1]) (g' := (0, 0)) v_OV_162_3 (fun Ψ hΨ => K_X3_verbOf v3 v4 M Ψ hΨ) rfl rfl (fun _ => rfl) (by decide) (by decide) rfl (Nat.le_of_ble_eq_true rfl) dX11_findLoopholes_16 h (fun v5 M1 h => ?_)
  refine j_aload_n C0 (pc := 19) dX11_findLoopholes_19 rfl ?_
  refine X_gN C0 (pc := 20) f_OV_87_9 rfl dX11_findLoopholes_20 h (fun v6 h => ?_)
  refine X_cV C0 (pc := 23) (e' := e_V) (as := [.ref v2, .int v5, .ref v6]) (rest := []) (s' := fun _ => []) (g' := (0, 0)) v_OV_208_5 (fun Ψ hΨ => K_X5_find v1 v2 v5 v6 M1 Ψ hΨ) rfl rfl (fun _ => rfl) (by decide) (by decide) rfl (Nat.le_of_ble_eq_true rfl) dX11_findLoopholes_23 h (fun _ M2 h => ?_)
  refine j_aload_n C0 (pc := 26) dX11_findLoopholes_26 rfl ?_
  refine X_gN C0 (pc := 27) f_OV_84_9 rfl dX11_findLoopholes_27 h (fun v7 h => ?_)
  refine j_aload_n C0 (pc := 30) dX11_findLoopholes_30 rfl ?_
  refine X_gN C0 (pc := 31) f_OV_171_6 rfl dX11_findLoopholes_31 h (fun v8 h => ?_)
  refine X_cV C0 (pc := 34) (e' := e_V) (as := [.ref v8]) (rest := []) (s' := fun _ => []) (g' := (0, 0)) v_OV_353_8 (fun Ψ hΨ => K_X10_take v7 v8 M2 Ψ hΨ) rfl rfl (fun _ => rfl) (by decide) (by decide) rfl (Nat.le_of_ble_eq_true rfl) dX11_findLoopholes_34 h (fun _ M3 h => ?_)
  refine j_aload_n C0 (pc := 37) dX11_findLoopholes_37 rfl ?_
  refine X_gN C0 (pc := 38) f_OV_84_9 rfl dX11_findLoopholes_38 h (fun v9 h => ?_)
  refine j_aload_n C0 (pc := 41) dX11_findLoopholes_41 rfl ?_
  refine X_gN C0 (pc := 42) f_OV_87_9 rfl dX11_findLoopholes_42 h (fun v10 h => ?_)
  refine X_cV C0 (pc := 45) (e' := e_V) (as := [.ref v10]) (rest := []) (s' := fun _ => []) (g' := (0, 0)) v_OV_356_8 (fun Ψ hΨ => K_X10_drop v9 v10 M3 Ψ hΨ) rfl rfl (fun _ => rfl) (by decide) (by decide) rfl (Nat.le_of_ble_eq_true rfl) dX11_findLoopholes_45 h (fun _ M4 h => ?_)
  exact j_vret C rfl h dX11_findLoopholes_48 (by decide)
theorem dX1_seenClause_0 : decode cX1_seenClause 0 = .ok (.aload_n 0, 1) := by decide +kernel
theorem dX1_seenClause_1 : decode cX1_seenClause 1 = .ok (.getfield 27, 3) := by decide +kernel
theorem dX1_seenClause_4 : decode cX1_seenClause 4 = .ok (.iload_n 1, 1) := by decide +kernel
theorem dX1_seenClause_5 : decode cX1_seenClause 5 = .ok (.iaload, 1) := by decide +kernel
theorem dX1_seenClause_6 : decode cX1_seenClause 6 = .ok (.iconst 2, 1) := by decide +kernel
theorem dX1_seenClause_7 : decode cX1_seenClause 7 = .ok (.idiv, 1) := by decide +kernel
theorem dX1_seenClause_8 : decode cX1_seenClause 8 = .ok (.sipush 1024, 3) := by decide +kernel
theorem dX1_seenClause_11 : decode cX1_seenClause 11 = .ok (.idiv, 1) := by decide +kernel
theorem dX1_seenClause_12 : decode cX1_seenClause 12 = .ok (.ireturn, 1) := by decide +kernel
noncomputable def F_X1_seenClause (a0 : Nat) (a1 : Int32) (M : m_M) : Option (Int32 × m_M) :=
  x_gN 1 M a0 9 fun v1 =>
  x_aI 12 M v1 a1 fun v2 =>
  x_nz (2 : Int32) <|
  x_nz (1024 : Int32) <|
  some ((v2 / (2 : Int32)) / (1024 : Int32), M)
set_option maxHeartbeats 4000000 in
theorem K_X1_seenClause (a0 : Nat) (a1 : Int32) (M : m_M) (Φ : Option Value → m_M → Prop) (h : m_ok e_I Φ (F_X1_seenClause a0 a1 M)) : j_Ct yX1_seenClause cX1_seenClause 2 (some .int) 1 0 0 [.ref a0, .int a1] M Φ := by
  refine j_Ct.of (by decide +kernel) (Nat.le_of_ble_eq_true rfl) fun X C => ?_
  have C0 := C.1
  show j_J X 2 0 [some (.ref a0), some (.int a1)] [] (0, 0) M
  unfold F_X1_seenClause at h
  refine j_aload_n C0 (pc := 0) dX1_seenClause_0 rfl ?_
  refine X_gN C0 (pc := 1) f_Book_27_1 rfl dX1_seenClause_1 h (fun v1 h => ?_)
  refine j_iload_n C0 (pc := 4) dX1_seenClause_4 rfl ?_
  refine X_iald C0 (pc := 5) dX1_seenClause_5 h (fun v2 h => ?_)
  refine j_iconst C0 (pc := 6) dX1_seenClause_6 (v := (2 : Int32)) (by decide) ?_
  refine X_idiv C0 (pc := 7) dX1_seenClause_7 h (fun h => ?_)
  refine j_sipush C0 (pc := 8) dX1_seenClause_8 (v := (1024 : Int32)) (by decide) ?_
  refine X_idiv C0 (pc := 11) dX1_seenClause_11 h (fun h => ?_)
  exact j_iret C rfl h dX1_seenClause_12 (by decide)
theorem dX1_seenWorld_0 : decode cX1_seenWorld 0 = .ok (.aload_n 0, 1) := by decide +kernel
theorem dX1_seenWorld_1 : decode cX1_seenWorld 1 = .ok (.getfield 27, 3) := by decide +kernel
theorem dX1_seenWorld_4 : decode cX1_seenWorld 4 = .ok (.iload_n 1, 1) := by decide +kernel
theorem dX1_seenWorld_5 : decode cX1_seenWorld 5 = .ok (.iaload, 1) := by decide +kernel
theorem dX1_seenWorld_6 : decode cX1_seenWorld 6 = .ok (.iconst 2, 1) := by decide +kernel
theorem dX1_seenWorld_7 : decode cX1_seenWorld 7 = .ok (.idiv, 1) := by decide +kernel
theorem dX1_seenWorld_8 : decode cX1_seenWorld 8 = .ok (.sipush 1024, 3) := by decide +kernel
theorem dX1_seenWorld_11 : decode cX1_seenWorld 11 = .ok (.irem, 1) := by decide +kernel
theorem dX1_seenWorld_12 : decode cX1_seenWorld 12 = .ok (.ireturn, 1) := by decide +kernel
noncomputable def F_X1_seenWorld (a0 : Nat) (a1 : Int32) (M : m_M) : Option (Int32 × m_M) :=
  x_gN 1 M a0 9 fun v1 =>
  x_aI 12 M v1 a1 fun v2 =>
  x_nz (2 : Int32) <|
  x_nz (1024 : Int32) <|
  some ((v2 / (2 : Int32)) - (v2 / (2 : Int32)) / (1024 : Int32) * (1024 : Int32), M)
set_option maxHeartbeats 4000000 in
theorem K_X1_seenWorld (a0 : Nat) (a1 : Int32) (M : m_M) (Φ : Option Value → m_M → Prop) (h : m_ok e_I Φ (F_X1_seenWorld a0 a1 M)) : j_Ct yX1_seenWorld cX1_seenWorld 2 (some .int) 1 0 0 [.ref a0, .int a1] M Φ := by
  refine j_Ct.of (by decide +kernel) (Nat.le_of_ble_eq_true rfl) fun X C => ?_
  have C0 := C.1
  show j_J X 2 0 [some (.ref a0), some (.int a1)] [] (0, 0) M
  unfold F_X1_seenWorld at h
  refine j_aload_n C0 (pc := 0) dX1_seenWorld_0 rfl ?_
  refine X_gN C0 (pc := 1) f_Book_27_1 rfl dX1_seenWorld_1 h (fun v1 h => ?_)
  refine j_iload_n C0 (pc := 4) dX1_seenWorld_4 rfl ?_
  refine X_iald C0 (pc := 5) dX1_seenWorld_5 h (fun v2 h => ?_)
  refine j_iconst C0 (pc := 6) dX1_seenWorld_6 (v := (2 : Int32)) (by decide) ?_
  refine X_idiv C0 (pc := 7) dX1_seenWorld_7 h (fun h => ?_)
  refine j_sipush C0 (pc := 8) dX1_seenWorld_8 (v := (1024 : Int32)) (by decide) ?_
  refine X_irem C0 (pc := 11) dX1_seenWorld_11 h (fun h => ?_)
  exact j_iret C rfl h dX1_seenWorld_12 (by decide)
theorem dX1_seenTrue_0 : decode cX1_seenTrue 0 = .ok (.aload_n 0, 1) := by decide +kernel
theorem dX1_seenTrue_1 : decode cX1_seenTrue 1 = .ok (.getfield 27, 3) := by decide +kernel
theorem dX1_seenTrue_4 : decode cX1_seenTrue 4 = .ok (.iload_n 1, 1) := by decide +kernel
theorem dX1_seenTrue_5 : decode cX1_seenTrue 5 = .ok (.iaload, 1) := by decide +kernel
theorem dX1_seenTrue_6 : decode cX1_seenTrue 6 = .ok (.iconst 2, 1) := by decide +kernel
theorem dX1_seenTrue_7 : decode cX1_seenTrue 7 = .ok (.irem, 1) := by decide +kernel
theorem dX1_seenTrue_8 : decode cX1_seenTrue 8 = .ok (.ifCond .eq 7, 3) := by decide +kernel
theorem dX1_seenTrue_11 : decode cX1_seenTrue 11 = .ok (.iconst 1, 1) := by decide +kernel
theorem dX1_seenTrue_12 : decode cX1_seenTrue 12 = .ok (.goto 4, 3) := by decide +kernel
theorem dX1_seenTrue_15 : decode cX1_seenTrue 15 = .ok (.iconst 0, 1) := by decide +kernel
theorem dX1_seenTrue_16 : decode cX1_seenTrue 16 = .ok (.ireturn, 1) := by decide +kernel
noncomputable def F_X1_seenTrue (a0 : Nat) (a1 : Int32) (M : m_M) : Option (Int32 × m_M) :=
  x_gN 1 M a0 9 fun v1 =>
  x_aI 12 M v1 a1 fun v2 =>
  x_nz (2 : Int32) <|
  if (v2 - v2 / (2 : Int32) * (2 : Int32)) = 0 then (
    some ((0 : Int32), M)
  ) else
  some ((1 : Int32), M)
set_option maxHeartbeats 4000000 in
theorem K_X1_seenTrue (a0 : Nat) (a1 : Int32) (M : m_M) (Φ : Option Value → m_M → Prop) (h : m_ok e_I Φ (F_X1_seenTrue a0 a1 M)) : j_Ct yX1_seenTrue cX1_seenTrue 2 (some .boolean) 1 0 0 [.ref a0, .int a1] M Φ := by
  refine j_Ct.of (by decide +kernel) (Nat.le_of_ble_eq_true rfl) fun X C => ?_
  have C0 := C.1
  show j_J X 2 0 [some (.ref a0), some (.int a1)] [] (0, 0) M
  unfold F_X1_seenTrue at h
  refine j_aload_n C0 (pc := 0) dX1_seenTrue_0 rfl ?_
  refine X_gN C0 (pc := 1) f_Book_27_1 rfl dX1_seenTrue_1 h (fun v1 h => ?_)
  refine j_iload_n C0 (pc := 4) dX1_seenTrue_4 rfl ?_
  refine X_iald C0 (pc := 5) dX1_seenTrue_5 h (fun v2 h => ?_)
  refine j_iconst C0 (pc := 6) dX1_seenTrue_6 (v := (2 : Int32)) (by decide) ?_
  refine X_irem C0 (pc := 7) dX1_seenTrue_7 h (fun h => ?_)
  refine j_if_eq C0 (pc := 8) (tgt := 15) dX1_seenTrue_8 (by decide) (fun hc => ?_) (fun hc => ?_)
  · replace h := (X_if h).1 hc
    refine j_iconst C0 (pc := 15) dX1_seenTrue_15 (v := (0 : Int32)) (by decide) ?_
    exact j_zret C rfl (by decide) h dX1_seenTrue_16 (by decide)
  · replace h := (X_if h).2 hc
    refine j_iconst C0 (pc := 11) dX1_seenTrue_11 (v := (1 : Int32)) (by decide) ?_
    refine j_goto C0 (pc := 12) (tgt := 16) dX1_seenTrue_12 (by decide) ?_
    exact j_zret C rfl (by decide) h dX1_seenTrue_16 (by decide)
theorem dX11_fitsSeen_0 : decode cX11_fitsSeen 0 = .ok (.iconst 0, 1) := by decide +kernel
theorem dX11_fitsSeen_1 : decode cX11_fitsSeen 1 = .ok (.istore_n 2, 1) := by decide +kernel
theorem dX11_fitsSeen_2 : decode cX11_fitsSeen 2 = .ok (.iload_n 2, 1) := by decide +kernel
theorem dX11_fitsSeen_3 : decode cX11_fitsSeen 3 = .ok (.aload_n 0, 1) := by decide +kernel
theorem dX11_fitsSeen_4 : decode cX11_fitsSeen 4 = .ok (.getfield 65, 3) := by decide +kernel
theorem dX11_fitsSeen_7 : decode cX11_fitsSeen 7 = .ok (.getfield 331, 3) := by decide +kernel
theorem dX11_fitsSeen_10 : decode cX11_fitsSeen 10 = .ok (.if_icmp .ge 46, 3) := by decide +kernel
theorem dX11_fitsSeen_13 : decode cX11_fitsSeen 13 = .ok (.aload_n 0, 1) := by decide +kernel
theorem dX11_fitsSeen_14 : decode cX11_fitsSeen 14 = .ok (.getfield 16, 3) := by decide +kernel
theorem dX11_fitsSeen_17 : decode cX11_fitsSeen 17 = .ok (.aload_n 0, 1) := by decide +kernel
theorem dX11_fitsSeen_18 : decode cX11_fitsSeen 18 = .ok (.getfield 65, 3) := by decide +kernel
theorem dX11_fitsSeen_21 : decode cX11_fitsSeen 21 = .ok (.iload_n 2, 1) := by decide +kernel
theorem dX11_fitsSeen_22 : decode cX11_fitsSeen 22 = .ok (.invokevirtual 359, 3) := by decide +kernel
theorem dX11_fitsSeen_25 : decode cX11_fitsSeen 25 = .ok (.iload_n 1, 1) := by decide +kernel
theorem dX11_fitsSeen_26 : decode cX11_fitsSeen 26 = .ok (.aload_n 0, 1) := by decide +kernel
theorem dX11_fitsSeen_27 : decode cX11_fitsSeen 27 = .ok (.getfield 65, 3) := by decide +kernel
theorem dX11_fitsSeen_30 : decode cX11_fitsSeen 30 = .ok (.iload_n 2, 1) := by decide +kernel
theorem dX11_fitsSeen_31 : decode cX11_fitsSeen 31 = .ok (.invokevirtual 362, 3) := by decide +kernel
theorem dX11_fitsSeen_34 : decode cX11_fitsSeen 34 = .ok (.invokevirtual 201, 3) := by decide +kernel
theorem dX11_fitsSeen_37 : decode cX11_fitsSeen 37 = .ok (.aload_n 0, 1) := by decide +kernel
theorem dX11_fitsSeen_38 : decode cX11_fitsSeen 38 = .ok (.getfield 65, 3) := by decide +kernel
theorem dX11_fitsSeen_41 : decode cX11_fitsSeen 41 = .ok (.iload_n 2, 1) := by decide +kernel
theorem dX11_fitsSeen_42 : decode cX11_fitsSeen 42 = .ok (.invokevirtual 365, 3) := by decide +kernel
theorem dX11_fitsSeen_45 : decode cX11_fitsSeen 45 = .ok (.if_icmp .eq 5, 3) := by decide +kernel
theorem dX11_fitsSeen_48 : decode cX11_fitsSeen 48 = .ok (.iconst 0, 1) := by decide +kernel
theorem dX11_fitsSeen_49 : decode cX11_fitsSeen 49 = .ok (.ireturn, 1) := by decide +kernel
theorem dX11_fitsSeen_50 : decode cX11_fitsSeen 50 = .ok (.iinc 2 1, 3) := by decide +kernel
theorem dX11_fitsSeen_53 : decode cX11_fitsSeen 53 = .ok (.goto (-51), 3) := by decide +kernel
theorem dX11_fitsSeen_56 : decode cX11_fitsSeen 56 = .ok (.iconst 1, 1) := by decide +kernel
theorem dX11_fitsSeen_57 : decode cX11_fitsSeen 57 = .ok (.ireturn, 1) := by decide +kernel
noncomputable def F_X11_fitsSeen_2 : Nat → Nat → Int32 → Int32 → m_M → Option (Int32 × m_M)
  | 0, _, _, _, _ => none
  | n + 1, v1, v2, v3, M =>
    x_gN 9 M v1 9 fun v4 =>
    x_gI 1 M v4 3 fun v5 =>
    if v5 ≤ v3 then (
      some ((1 : Int32), M)
    ) else
    x_gN 9 M v1 2 fun v6 =>
    x_gN 9 M v1 9 fun v7 =>
    x_cV 1 M v7 (F_X1_seenClause v7 v3 M) fun v8 M1 =>
    x_gN 9 M1 v1 9 fun v9 =>
    x_cV 1 M1 v9 (F_X1_seenWorld v9 v3 M1) fun v10 M2 =>
    x_cV 3 M2 v6 (F_X3_clauseHolds v6 v8 v2 v10 M2) fun v11 M3 =>
    x_gN 9 M3 v1 9 fun v12 =>
    x_cV 1 M3 v12 (F_X1_seenTrue v12 v3 M3) fun v13 M4 =>
    if v11 = v13 then (
      m_let (v3 + (1 : Int32)) fun v14 =>
      F_X11_fitsSeen_2 n v1 v2 v14 M4
    ) else
    some ((0 : Int32), M4)
noncomputable def F_X11_fitsSeen (a0 : Nat) (a1 : Int32) (M : m_M) : Option (Int32 × m_M) :=
  F_X11_fitsSeen_2 m_FU a0 a1 (0 : Int32) M
set_option maxHeartbeats 4000000 in
theorem L_X11_fitsSeen_2 {X : j_X} {Φ : Option Value → m_M → Prop} (C : j_C X yX11_fitsSeen cX11_fitsSeen 3 (some .boolean) 5 0 0 Φ) : ∀ (n : Nat) (v1 : Nat) (v2 : Int32) (v3 : Int32) (M : m_M), m_ok e_I Φ (F_X11_fitsSeen_2 n v1 v2 v3 M) → j_J X 3 2 [some (.ref v1), some (.int v2), some (.int v3)] [] (0, 0) M := by
  have C0 := C.1
  intro n
  induction n with
  | zero => intro v1 v2 v3 M h; exact False.elim h
  | succ n ih =>
    intro v1 v2 v3 M h
    rw [F_X11_fitsSeen_2] at h
    refine j_iload_n C0 (pc := 2) dX11_fitsSeen_2 rfl ?_
    refine j_aload_n C0 (pc := 3) dX11_fitsSeen_3 rfl ?_
    refine X_gN C0 (pc := 4) f_OV_65_9 rfl dX11_fitsSeen_4 h (fun v4 h => ?_)
    refine X_gI C0 (pc := 7) f_OV_331_1 rfl dX11_fitsSeen_7 h (fun v5 h => ?_)
    refine j_icmp_ge C0 (pc := 10) (tgt := 56) dX11_fitsSeen_10 (by decide) (fun hc => ?_) (fun hc => ?_)
    · replace h := (X_if h).1 hc
      refine j_iconst C0 (pc := 56) dX11_fitsSeen_56 (v := (1 : Int32)) (by decide) ?_
      exact j_zret C rfl (by decide) h dX11_fitsSeen_57 (by decide)
    · replace h := (X_if h).2 hc
      refine j_aload_n C0 (pc := 13) dX11_fitsSeen_13 rfl ?_
      refine X_gN C0 (pc := 14) f_OV_16_9 rfl dX11_fitsSeen_14 h (fun v6 h => ?_)
      refine j_aload_n C0 (pc := 17) dX11_fitsSeen_17 rfl ?_
      refine X_gN C0 (pc := 18) f_OV_65_9 rfl dX11_fitsSeen_18 h (fun v7 h => ?_)
      refine j_iload_n C0 (pc := 21) dX11_fitsSeen_21 rfl ?_
      refine X_cV C0 (pc := 22) (e' := e_I) (as := [.int v3]) (rest := [.ref v6]) (s' := fun w => .int w :: [.ref v6]) (g' := (0, 0)) v_OV_359_1 (fun Ψ hΨ => K_X1_seenClause v7 v3 M Ψ hΨ) rfl rfl (fun _ => rfl) (by decide) (by decide) rfl (Nat.le_of_ble_eq_true rfl) dX11_fitsSeen_22 h (fun v8 M1 h => ?_)
      refine j_iload_n C0 (pc := 25) dX11_fitsSeen_25 rfl ?_
      refine j_aload_n C0 (pc := 26) dX11_fitsSeen_26 rfl ?_
      refine X_gN C0 (pc := 27) f_OV_65_9 rfl dX11_fitsSeen_27 h (fun v9 h => ?_)
      refine j_iload_n C0 (pc := 30) dX11_fitsSeen_30 rfl ?_
      refine X_cV C0 (pc := 31) (e' := e_I) (as := [.int v3]) (rest := [.int v2, .int v8, .ref v6]) (s' := fun w => .int w :: [.int v2, .int v8, .ref v6]) (g' := (0, 0)) v_OV_362_1 (fun Ψ hΨ => K_X1_seenWorld v9 v3 M1 Ψ hΨ) rfl rfl (fun _ => rfl) (by decide) (by decide) rfl (Nat.le_of_ble_eq_true rfl) dX11_fitsSeen_31 h (fun v10 M2 h => ?_)
      refine X_cV C0 (pc := 34) (e' := e_I) (as := [.int v8, .int v2, .int v10]) (rest := []) (s' := fun w => .int w :: []) (g' := (0, 0)) v_OV_201_3 (fun Ψ hΨ => K_X3_clauseHolds v6 v8 v2 v10 M2 Ψ hΨ) rfl rfl (fun _ => rfl) (by decide) (by decide) rfl (Nat.le_of_ble_eq_true rfl) dX11_fitsSeen_34 h (fun v11 M3 h => ?_)
      refine j_aload_n C0 (pc := 37) dX11_fitsSeen_37 rfl ?_
      refine X_gN C0 (pc := 38) f_OV_65_9 rfl dX11_fitsSeen_38 h (fun v12 h => ?_)
      refine j_iload_n C0 (pc := 41) dX11_fitsSeen_41 rfl ?_
      refine X_cV C0 (pc := 42) (e' := e_I) (as := [.int v3]) (rest := [.int v11]) (s' := fun w => .int w :: [.int v11]) (g' := (0, 0)) v_OV_365_1 (fun Ψ hΨ => K_X1_seenTrue v12 v3 M3 Ψ hΨ) rfl rfl (fun _ => rfl) (by decide) (by decide) rfl (Nat.le_of_ble_eq_true rfl) dX11_fitsSeen_42 h (fun v13 M4 h => ?_)
      refine j_icmp_eq C0 (pc := 45) (tgt := 50) dX11_fitsSeen_45 (by decide) (fun hc => ?_) (fun hc => ?_)
      · replace h := (X_if h).1 hc
        refine j_iinc C0 (pc := 50) dX11_fitsSeen_50 (v := v3 + (1 : Int32)) rfl (Nat.le_of_ble_eq_true rfl) (by rfl) ?_
        refine X_let (G := fun w => j_J X 3 53 [some (.ref v1), some (.int v2), some (.int w)] [] (0, 0) M4) h (fun v14 h => ?_)
        refine j_goto C0 (pc := 53) (tgt := 2) dX11_fitsSeen_53 (by decide) ?_
        exact j_J.wq (ih v1 v2 v14 M4 h) (And.intro rfl (And.intro rfl (And.intro rfl (trivial))))
      · replace h := (X_if h).2 hc
        refine j_iconst C0 (pc := 48) dX11_fitsSeen_48 (v := (0 : Int32)) (by decide) ?_
        exact j_zret C rfl (by decide) h dX11_fitsSeen_49 (by decide)
set_option maxHeartbeats 4000000 in
theorem K_X11_fitsSeen (a0 : Nat) (a1 : Int32) (M : m_M) (Φ : Option Value → m_M → Prop) (h : m_ok e_I Φ (F_X11_fitsSeen a0 a1 M)) : j_Ct yX11_fitsSeen cX11_fitsSeen 3 (some .boolean) 5 0 0 [.ref a0, .int a1] M Φ := by
  refine j_Ct.of (by decide +kernel) (Nat.le_of_ble_eq_true rfl) fun X C => ?_
  have C0 := C.1
  show j_J X 3 0 [some (.ref a0), some (.int a1), none] [] (0, 0) M
  unfold F_X11_fitsSeen at h
  refine j_iconst C0 (pc := 0) dX11_fitsSeen_0 (v := (0 : Int32)) (by decide) ?_
  refine j_istore_n C0 (pc := 1) dX11_fitsSeen_1 (Nat.le_of_ble_eq_true rfl) ?_
  show j_J X 3 2 [some (.ref a0), some (.int a1), some (.int (0 : Int32))] [] (0, 0) M
  exact j_J.wq (L_X11_fitsSeen_2 C m_FU a0 a1 (0 : Int32) M h) (And.intro rfl (And.intro rfl (And.intro rfl (trivial))))
theorem dX3_isWorld_0 : decode cX3_isWorld 0 = .ok (.iload_n 1, 1) := by decide +kernel
theorem dX3_isWorld_1 : decode cX3_isWorld 1 = .ok (.ifCond .lt 15, 3) := by decide +kernel
theorem dX3_isWorld_4 : decode cX3_isWorld 4 = .ok (.iload_n 1, 1) := by decide +kernel
theorem dX3_isWorld_5 : decode cX3_isWorld 5 = .ok (.aload_n 0, 1) := by decide +kernel
theorem dX3_isWorld_6 : decode cX3_isWorld 6 = .ok (.getfield 87, 3) := by decide +kernel
theorem dX3_isWorld_9 : decode cX3_isWorld 9 = .ok (.if_icmp .ge 7, 3) := by decide +kernel
theorem dX3_isWorld_12 : decode cX3_isWorld 12 = .ok (.iconst 1, 1) := by decide +kernel
theorem dX3_isWorld_13 : decode cX3_isWorld 13 = .ok (.goto 4, 3) := by decide +kernel
theorem dX3_isWorld_16 : decode cX3_isWorld 16 = .ok (.iconst 0, 1) := by decide +kernel
theorem dX3_isWorld_17 : decode cX3_isWorld 17 = .ok (.ireturn, 1) := by decide +kernel
noncomputable def F_X3_isWorld (a0 : Nat) (a1 : Int32) (M : m_M) : Option (Int32 × m_M) :=
  m_let (fun  (M1 : m_M) =>
    some ((0 : Int32), M1)
  ) fun (k16 : m_M → Option (Int32 × m_M)) =>
  if a1 < 0 then (
    k16 M
  ) else
  x_gI 3 M a0 3 fun v1 =>
  if v1 ≤ a1 then (
    k16 M
  ) else
  some ((1 : Int32), M)
set_option maxHeartbeats 4000000 in
theorem K_X3_isWorld (a0 : Nat) (a1 : Int32) (M : m_M) (Φ : Option Value → m_M → Prop) (h : m_ok e_I Φ (F_X3_isWorld a0 a1 M)) : j_Ct yX3_isWorld cX3_isWorld 2 (some .boolean) 1 0 0 [.ref a0, .int a1] M Φ := by
  refine j_Ct.of (by decide +kernel) (Nat.le_of_ble_eq_true rfl) fun X C => ?_
  have C0 := C.1
  show j_J X 2 0 [some (.ref a0), some (.int a1)] [] (0, 0) M
  unfold F_X3_isWorld at h
  refine X_join (fun (kj : m_M → Option (Int32 × m_M)) => ∀  (M : m_M), m_ok e_I Φ (kj M) → j_J X 2 16 [none, none] [] (0, 0) M) h (fun M1 h => ?_) (fun k16 hk16 h => ?_)
  · refine j_iconst C0 (pc := 16) dX3_isWorld_16 (v := (0 : Int32)) (by decide) ?_
    exact j_zret C rfl (by decide) h dX3_isWorld_17 (by decide)
  · refine j_iload_n C0 (pc := 0) dX3_isWorld_0 rfl ?_
    refine j_if_lt C0 (pc := 1) (tgt := 16) dX3_isWorld_1 (by decide) (fun hc => ?_) (fun hc => ?_)
    · replace h := (X_if h).1 hc
      exact j_J.wq (hk16 M h) (trivial)
    · replace h := (X_if h).2 hc
      refine j_iload_n C0 (pc := 4) dX3_isWorld_4 rfl ?_
      refine j_aload_n C0 (pc := 5) dX3_isWorld_5 rfl ?_
      refine X_gI C0 (pc := 6) f_Land_87_3 rfl dX3_isWorld_6 h (fun v1 h => ?_)
      refine j_icmp_ge C0 (pc := 9) (tgt := 16) dX3_isWorld_9 (by decide) (fun hc => ?_) (fun hc => ?_)
      · replace h := (X_if h).1 hc
        exact j_J.wq (hk16 M h) (trivial)
      · replace h := (X_if h).2 hc
        refine j_iconst C0 (pc := 12) dX3_isWorld_12 (v := (1 : Int32)) (by decide) ?_
        refine j_goto C0 (pc := 13) (tgt := 17) dX3_isWorld_13 (by decide) ?_
        exact j_zret C rfl (by decide) h dX3_isWorld_17 (by decide)
theorem dX11_holds_0 : decode cX11_holds 0 = .ok (.aload_n 0, 1) := by decide +kernel
theorem dX11_holds_1 : decode cX11_holds 1 = .ok (.getfield 16, 3) := by decide +kernel
theorem dX11_holds_4 : decode cX11_holds 4 = .ok (.iload_n 1, 1) := by decide +kernel
theorem dX11_holds_5 : decode cX11_holds 5 = .ok (.invokevirtual 198, 3) := by decide +kernel
theorem dX11_holds_8 : decode cX11_holds 8 = .ok (.ifCond .eq 18, 3) := by decide +kernel
theorem dX11_holds_11 : decode cX11_holds 11 = .ok (.iload_n 2, 1) := by decide +kernel
theorem dX11_holds_12 : decode cX11_holds 12 = .ok (.ifCond .lt 14, 3) := by decide +kernel
theorem dX11_holds_15 : decode cX11_holds 15 = .ok (.aload_n 0, 1) := by decide +kernel
theorem dX11_holds_16 : decode cX11_holds 16 = .ok (.getfield 16, 3) := by decide +kernel
theorem dX11_holds_19 : decode cX11_holds 19 = .ok (.iload_n 3, 1) := by decide +kernel
theorem dX11_holds_20 : decode cX11_holds 20 = .ok (.invokevirtual 192, 3) := by decide +kernel
theorem dX11_holds_23 : decode cX11_holds 23 = .ok (.ifCond .ne 5, 3) := by decide +kernel
theorem dX11_holds_26 : decode cX11_holds 26 = .ok (.iconst (-1), 1) := by decide +kernel
theorem dX11_holds_27 : decode cX11_holds 27 = .ok (.ireturn, 1) := by decide +kernel
theorem dX11_holds_28 : decode cX11_holds 28 = .ok (.aload_n 0, 1) := by decide +kernel
theorem dX11_holds_29 : decode cX11_holds 29 = .ok (.getfield 16, 3) := by decide +kernel
theorem dX11_holds_32 : decode cX11_holds 32 = .ok (.iload_n 1, 1) := by decide +kernel
theorem dX11_holds_33 : decode cX11_holds 33 = .ok (.aload_n 0, 1) := by decide +kernel
theorem dX11_holds_34 : decode cX11_holds 34 = .ok (.getfield 16, 3) := by decide +kernel
theorem dX11_holds_37 : decode cX11_holds 37 = .ok (.iload_n 2, 1) := by decide +kernel
theorem dX11_holds_38 : decode cX11_holds 38 = .ok (.invokevirtual 162, 3) := by decide +kernel
theorem dX11_holds_41 : decode cX11_holds 41 = .ok (.iload_n 3, 1) := by decide +kernel
theorem dX11_holds_42 : decode cX11_holds 42 = .ok (.invokevirtual 201, 3) := by decide +kernel
theorem dX11_holds_45 : decode cX11_holds 45 = .ok (.ifCond .eq 7, 3) := by decide +kernel
theorem dX11_holds_48 : decode cX11_holds 48 = .ok (.iconst 1, 1) := by decide +kernel
theorem dX11_holds_49 : decode cX11_holds 49 = .ok (.goto 4, 3) := by decide +kernel
theorem dX11_holds_52 : decode cX11_holds 52 = .ok (.iconst 0, 1) := by decide +kernel
theorem dX11_holds_53 : decode cX11_holds 53 = .ok (.ireturn, 1) := by decide +kernel
noncomputable def F_X11_holds (a0 : Nat) (a1 : Int32) (a2 : Int32) (a3 : Int32) (M : m_M) : Option (Int32 × m_M) :=
  x_gN 9 M a0 2 fun v1 =>
  x_cV 3 M v1 (F_X3_isClause v1 a1 M) fun v2 M1 =>
  if v2 = 0 then (
    some ((-1 : Int32), M1)
  ) else
  if a2 < 0 then (
    some ((-1 : Int32), M1)
  ) else
  x_gN 9 M1 a0 2 fun v3 =>
  x_cV 3 M1 v3 (F_X3_isWorld v3 a3 M1) fun v4 M2 =>
  if v4 = 0 then (
    some ((-1 : Int32), M2)
  ) else
  x_gN 9 M2 a0 2 fun v5 =>
  x_gN 9 M2 a0 2 fun v6 =>
  x_cV 3 M2 v6 (F_X3_verbOf v6 a2 M2) fun v7 M3 =>
  x_cV 3 M3 v5 (F_X3_clauseHolds v5 a1 v7 a3 M3) fun v8 M4 =>
  if v8 = 0 then (
    some ((0 : Int32), M4)
  ) else
  some ((1 : Int32), M4)
set_option maxHeartbeats 4000000 in
theorem K_X11_holds (a0 : Nat) (a1 : Int32) (a2 : Int32) (a3 : Int32) (M : m_M) (Φ : Option Value → m_M → Prop) (h : m_ok e_I Φ (F_X11_holds a0 a1 a2 a3 M)) : j_Ct yX11_holds cX11_holds 4 (some .int) 5 0 0 [.ref a0, .int a1, .int a2, .int a3] M Φ := by
  refine j_Ct.of (by decide +kernel) (Nat.le_of_ble_eq_true rfl) fun X C => ?_
  have C0 := C.1
  show j_J X 4 0 [some (.ref a0), some (.int a1), some (.int a2), some (.int a3)] [] (0, 0) M
  unfold F_X11_holds at h
  refine j_aload_n C0 (pc := 0) dX11_holds_0 rfl ?_
  refine X_gN C0 (pc := 1) f_OV_16_9 rfl dX11_holds_1 h (fun v1 h => ?_)
  refine j_iload_n C0 (pc := 4) dX11_holds_4 rfl ?_
  refine X_cV C0 (pc := 5) (e' := e_I) (as := [.int a1]) (rest := []) (s' := fun w => .int w :: []) (g' := (0, 0)) v_OV_198_3 (fun Ψ hΨ => K_X3_isClause v1 a1 M Ψ hΨ) rfl rfl (fun _ => rfl) (by decide) (by decide) rfl (Nat.le_of_ble_eq_true rfl) dX11_holds_5 h (fun v2 M1 h => ?_)
  refine j_if_eq C0 (pc := 8) (tgt := 26) dX11_holds_8 (by decide) (fun hc => ?_) (fun hc => ?_)
  · replace h := (X_if h).1 hc
    refine j_iconst C0 (pc := 26) dX11_holds_26 (v := (-1 : Int32)) (by decide) ?_
    exact j_iret C rfl h dX11_holds_27 (by decide)
  · replace h := (X_if h).2 hc
    refine j_iload_n C0 (pc := 11) dX11_holds_11 rfl ?_
    refine j_if_lt C0 (pc := 12) (tgt := 26) dX11_holds_12 (by decide) (fun hc => ?_) (fun hc => ?_)
    · replace h := (X_if h).1 hc
      refine j_iconst C0 (pc := 26) dX11_holds_26 (v := (-1 : Int32)) (by decide) ?_
      exact j_iret C rfl h dX11_holds_27 (by decide)
    · replace h := (X_if h).2 hc
      refine j_aload_n C0 (pc := 15) dX11_holds_15 rfl ?_
      refine X_gN C0 (pc := 16) f_OV_16_9 rfl dX11_holds_16 h (fun v3 h => ?_)
      refine j_iload_n C0 (pc := 19) dX11_holds_19 rfl ?_
      refine X_cV C0 (pc := 20) (e' := e_I) (as := [.int a3]) (rest := []) (s' := fun w => .int w :: []) (g' := (0, 0)) v_OV_192_3 (fun Ψ hΨ => K_X3_isWorld v3 a3 M1 Ψ hΨ) rfl rfl (fun _ => rfl) (by decide) (by decide) rfl (Nat.le_of_ble_eq_true rfl) dX11_holds_20 h (fun v4 M2 h => ?_)
      refine j_if_ne C0 (pc := 23) (tgt := 28) dX11_holds_23 (by decide) (fun hc => ?_) (fun hc => ?_)
      · replace h := (X_if h).2 hc
        refine j_aload_n C0 (pc := 28) dX11_holds_28 rfl ?_
        refine X_gN C0 (pc := 29) f_OV_16_9 rfl dX11_holds_29 h (fun v5 h => ?_)
        refine j_iload_n C0 (pc := 32) dX11_holds_32 rfl ?_
        refine j_aload_n C0 (pc := 33) dX11_holds_33 rfl ?_
        refine X_gN C0 (pc := 34) f_OV_16_9 rfl dX11_holds_34 h (fun v6 h => ?_)
        refine j_iload_n C0 (pc := 37) dX11_holds_37 rfl ?_
        refine X_cV C0 (pc := 38) (e' := e_I) (as := [.int a2]) (rest := [.int a1, .ref v5]) (s' := fun w => .int w :: [.int a1, .ref v5]) (g' := (0, 0)) v_OV_162_3 (fun Ψ hΨ => K_X3_verbOf v6 a2 M2 Ψ hΨ) rfl rfl (fun _ => rfl) (by decide) (by decide) rfl (Nat.le_of_ble_eq_true rfl) dX11_holds_38 h (fun v7 M3 h => ?_)
        refine j_iload_n C0 (pc := 41) dX11_holds_41 rfl ?_
        refine X_cV C0 (pc := 42) (e' := e_I) (as := [.int a1, .int v7, .int a3]) (rest := []) (s' := fun w => .int w :: []) (g' := (0, 0)) v_OV_201_3 (fun Ψ hΨ => K_X3_clauseHolds v5 a1 v7 a3 M3 Ψ hΨ) rfl rfl (fun _ => rfl) (by decide) (by decide) rfl (Nat.le_of_ble_eq_true rfl) dX11_holds_42 h (fun v8 M4 h => ?_)
        refine j_if_eq C0 (pc := 45) (tgt := 52) dX11_holds_45 (by decide) (fun hc => ?_) (fun hc => ?_)
        · replace h := (X_if h).1 hc
          refine j_iconst C0 (pc := 52) dX11_holds_52 (v := (0 : Int32)) (by decide) ?_
          exact j_iret C rfl h dX11_holds_53 (by decide)
        · replace h := (X_if h).2 hc
          refine j_iconst C0 (pc := 48) dX11_holds_48 (v := (1 : Int32)) (by decide) ?_
          refine j_goto C0 (pc := 49) (tgt := 53) dX11_holds_49 (by decide) ?_
          exact j_iret C rfl h dX11_holds_53 (by decide)
      · replace h := (X_if h).1 hc
        refine j_iconst C0 (pc := 26) dX11_holds_26 (v := (-1 : Int32)) (by decide) ?_
        exact j_iret C rfl h dX11_holds_27 (by decide)
theorem dX3_empty_0 : decode cX3_empty 0 = .ok (.aload_n 0, 1) := by decide +kernel
theorem dX3_empty_1 : decode cX3_empty 1 = .ok (.iconst 2, 1) := by decide +kernel
theorem dX3_empty_2 : decode cX3_empty 2 = .ok (.putfield 58, 3) := by decide +kernel
theorem dX3_empty_5 : decode cX3_empty 5 = .ok (.aload_n 0, 1) := by decide +kernel
theorem dX3_empty_6 : decode cX3_empty 6 = .ok (.iconst 1, 1) := by decide +kernel
theorem dX3_empty_7 : decode cX3_empty 7 = .ok (.putfield 62, 3) := by decide +kernel
theorem dX3_empty_10 : decode cX3_empty 10 = .ok (.aload_n 0, 1) := by decide +kernel
theorem dX3_empty_11 : decode cX3_empty 11 = .ok (.iconst 0, 1) := by decide +kernel
theorem dX3_empty_12 : decode cX3_empty 12 = .ok (.putfield 65, 3) := by decide +kernel
theorem dX3_empty_15 : decode cX3_empty 15 = .ok (.aload_n 0, 1) := by decide +kernel
theorem dX3_empty_16 : decode cX3_empty 16 = .ok (.iconst 0, 1) := by decide +kernel
theorem dX3_empty_17 : decode cX3_empty 17 = .ok (.putfield 68, 3) := by decide +kernel
theorem dX3_empty_20 : decode cX3_empty 20 = .ok (.aload_n 0, 1) := by decide +kernel
theorem dX3_empty_21 : decode cX3_empty 21 = .ok (.getfield 9, 3) := by decide +kernel
theorem dX3_empty_24 : decode cX3_empty 24 = .ok (.iconst 0, 1) := by decide +kernel
theorem dX3_empty_25 : decode cX3_empty 25 = .ok (.invokestatic 71, 3) := by decide +kernel
theorem dX3_empty_28 : decode cX3_empty 28 = .ok (.aload_n 0, 1) := by decide +kernel
theorem dX3_empty_29 : decode cX3_empty 29 = .ok (.getfield 21, 3) := by decide +kernel
theorem dX3_empty_32 : decode cX3_empty 32 = .ok (.iconst 0, 1) := by decide +kernel
theorem dX3_empty_33 : decode cX3_empty 33 = .ok (.invokestatic 71, 3) := by decide +kernel
theorem dX3_empty_36 : decode cX3_empty 36 = .ok (.return_, 1) := by decide +kernel
noncomputable def F_X3_empty (a0 : Nat) (M : m_M) : Option (Unit × m_M) :=
  x_pI 3 M a0 0 (2 : Int32) fun M1 =>
  x_pI 3 M1 a0 1 (1 : Int32) fun M2 =>
  x_pI 3 M2 a0 2 (0 : Int32) fun M3 =>
  x_pI 3 M3 a0 5 (0 : Int32) fun M4 =>
  x_gN 3 M4 a0 6 fun v1 =>
  x_bd (F_J7_fill_53178 v1 (0 : Int32) M4) fun _ M5 =>
  x_gN 3 M5 a0 9 fun v2 =>
  x_bd (F_J7_fill_53178 v2 (0 : Int32) M5) fun _ M6 =>
  some ((), M6)
set_option maxHeartbeats 4000000 in
theorem K_X3_empty (a0 : Nat) (M : m_M) (Φ : Option Value → m_M → Prop) (h : m_ok e_V Φ (F_X3_empty a0 M)) : j_Ct yX3_empty cX3_empty 1 none 2 0 0 [.ref a0] M Φ := by
  refine j_Ct.of (by decide +kernel) (Nat.le_of_ble_eq_true rfl) fun X C => ?_
  have C0 := C.1
  show j_J X 1 0 [some (.ref a0)] [] (0, 0) M
  unfold F_X3_empty at h
  refine j_aload_n C0 (pc := 0) dX3_empty_0 rfl ?_
  refine j_iconst C0 (pc := 1) dX3_empty_1 (v := (2 : Int32)) (by decide) ?_
  refine X_pI C0 (pc := 2) f_Land_58_3 rfl rfl dX3_empty_2 h (fun M1 h => ?_)
  refine j_aload_n C0 (pc := 5) dX3_empty_5 rfl ?_
  refine j_iconst C0 (pc := 6) dX3_empty_6 (v := (1 : Int32)) (by decide) ?_
  refine X_pI C0 (pc := 7) f_Land_62_3 rfl rfl dX3_empty_7 h (fun M2 h => ?_)
  refine j_aload_n C0 (pc := 10) dX3_empty_10 rfl ?_
  refine j_iconst C0 (pc := 11) dX3_empty_11 (v := (0 : Int32)) (by decide) ?_
  refine X_pI C0 (pc := 12) f_Land_65_3 rfl rfl dX3_empty_12 h (fun M3 h => ?_)
  refine j_aload_n C0 (pc := 15) dX3_empty_15 rfl ?_
  refine j_iconst C0 (pc := 16) dX3_empty_16 (v := (0 : Int32)) (by decide) ?_
  refine X_pI C0 (pc := 17) f_Land_68_3 rfl rfl dX3_empty_17 h (fun M4 h => ?_)
  refine j_aload_n C0 (pc := 20) dX3_empty_20 rfl ?_
  refine X_gN C0 (pc := 21) f_Land_9_3 rfl dX3_empty_21 h (fun v1 h => ?_)
  refine j_iconst C0 (pc := 24) dX3_empty_24 (v := (0 : Int32)) (by decide) ?_
  refine X_cS C0 (pc := 25) (e' := e_V) (as := [.ref v1, .int (0 : Int32)]) (rest := []) (s' := fun _ => []) (g' := (0, 0)) s_Land_71 (fun Ψ hΨ => K_J7_fill_53178 v1 (0 : Int32) M4 Ψ hΨ) rfl rfl (fun _ => rfl) (by decide) (by decide) rfl (Nat.le_of_ble_eq_true rfl) dX3_empty_25 h (fun _ M5 h => ?_)
  refine j_aload_n C0 (pc := 28) dX3_empty_28 rfl ?_
  refine X_gN C0 (pc := 29) f_Land_21_3 rfl dX3_empty_29 h (fun v2 h => ?_)
  refine j_iconst C0 (pc := 32) dX3_empty_32 (v := (0 : Int32)) (by decide) ?_
  refine X_cS C0 (pc := 33) (e' := e_V) (as := [.ref v2, .int (0 : Int32)]) (rest := []) (s' := fun _ => []) (g' := (0, 0)) s_Land_71 (fun Ψ hΨ => K_J7_fill_53178 v2 (0 : Int32) M5 Ψ hΨ) rfl rfl (fun _ => rfl) (by decide) (by decide) rfl (Nat.le_of_ble_eq_true rfl) dX3_empty_33 h (fun _ M6 h => ?_)
  exact j_vret C rfl h dX3_empty_36 (by decide)
theorem dX3_settleWorlds_0 : decode cX3_settleWorlds 0 = .ok (.aload_n 0, 1) := by decide +kernel
theorem dX3_settleWorlds_1 : decode cX3_settleWorlds 1 = .ok (.iconst 1, 1) := by decide +kernel
theorem dX3_settleWorlds_2 : decode cX3_settleWorlds 2 = .ok (.putfield 87, 3) := by decide +kernel
theorem dX3_settleWorlds_5 : decode cX3_settleWorlds 5 = .ok (.iconst 0, 1) := by decide +kernel
theorem dX3_settleWorlds_6 : decode cX3_settleWorlds 6 = .ok (.istore_n 1, 1) := by decide +kernel
theorem dX3_settleWorlds_7 : decode cX3_settleWorlds 7 = .ok (.iload_n 1, 1) := by decide +kernel
theorem dX3_settleWorlds_8 : decode cX3_settleWorlds 8 = .ok (.aload_n 0, 1) := by decide +kernel
theorem dX3_settleWorlds_9 : decode cX3_settleWorlds 9 = .ok (.getfield 9, 3) := by decide +kernel
theorem dX3_settleWorlds_12 : decode cX3_settleWorlds 12 = .ok (.iconst 0, 1) := by decide +kernel
theorem dX3_settleWorlds_13 : decode cX3_settleWorlds 13 = .ok (.iaload, 1) := by decide +kernel
theorem dX3_settleWorlds_14 : decode cX3_settleWorlds 14 = .ok (.if_icmp .ge 22, 3) := by decide +kernel
theorem dX3_settleWorlds_17 : decode cX3_settleWorlds 17 = .ok (.aload_n 0, 1) := by decide +kernel
theorem dX3_settleWorlds_18 : decode cX3_settleWorlds 18 = .ok (.dup, 1) := by decide +kernel
theorem dX3_settleWorlds_19 : decode cX3_settleWorlds 19 = .ok (.getfield 87, 3) := by decide +kernel
theorem dX3_settleWorlds_22 : decode cX3_settleWorlds 22 = .ok (.aload_n 0, 1) := by decide +kernel
theorem dX3_settleWorlds_23 : decode cX3_settleWorlds 23 = .ok (.getfield 58, 3) := by decide +kernel
theorem dX3_settleWorlds_26 : decode cX3_settleWorlds 26 = .ok (.imul, 1) := by decide +kernel
theorem dX3_settleWorlds_27 : decode cX3_settleWorlds 27 = .ok (.putfield 87, 3) := by decide +kernel
theorem dX3_settleWorlds_30 : decode cX3_settleWorlds 30 = .ok (.iinc 1 1, 3) := by decide +kernel
theorem dX3_settleWorlds_33 : decode cX3_settleWorlds 33 = .ok (.goto (-26), 3) := by decide +kernel
theorem dX3_settleWorlds_36 : decode cX3_settleWorlds 36 = .ok (.aload_n 0, 1) := by decide +kernel
theorem dX3_settleWorlds_37 : decode cX3_settleWorlds 37 = .ok (.aload_n 0, 1) := by decide +kernel
theorem dX3_settleWorlds_38 : decode cX3_settleWorlds 38 = .ok (.getfield 87, 3) := by decide +kernel
theorem dX3_settleWorlds_41 : decode cX3_settleWorlds 41 = .ok (.bipush 63, 2) := by decide +kernel
theorem dX3_settleWorlds_43 : decode cX3_settleWorlds 43 = .ok (.iadd, 1) := by decide +kernel
theorem dX3_settleWorlds_44 : decode cX3_settleWorlds 44 = .ok (.bipush 64, 2) := by decide +kernel
theorem dX3_settleWorlds_46 : decode cX3_settleWorlds 46 = .ok (.idiv, 1) := by decide +kernel
theorem dX3_settleWorlds_47 : decode cX3_settleWorlds 47 = .ok (.putfield 112, 3) := by decide +kernel
theorem dX3_settleWorlds_50 : decode cX3_settleWorlds 50 = .ok (.aload_n 0, 1) := by decide +kernel
theorem dX3_settleWorlds_51 : decode cX3_settleWorlds 51 = .ok (.getfield 43, 3) := by decide +kernel
theorem dX3_settleWorlds_54 : decode cX3_settleWorlds 54 = .ok (.lconst 0, 1) := by decide +kernel
theorem dX3_settleWorlds_55 : decode cX3_settleWorlds 55 = .ok (.invokestatic 115, 3) := by decide +kernel
theorem dX3_settleWorlds_58 : decode cX3_settleWorlds 58 = .ok (.iconst 0, 1) := by decide +kernel
theorem dX3_settleWorlds_59 : decode cX3_settleWorlds 59 = .ok (.istore_n 1, 1) := by decide +kernel
theorem dX3_settleWorlds_60 : decode cX3_settleWorlds 60 = .ok (.iload_n 1, 1) := by decide +kernel
theorem dX3_settleWorlds_61 : decode cX3_settleWorlds 61 = .ok (.aload_n 0, 1) := by decide +kernel
theorem dX3_settleWorlds_62 : decode cX3_settleWorlds 62 = .ok (.getfield 87, 3) := by decide +kernel
theorem dX3_settleWorlds_65 : decode cX3_settleWorlds 65 = .ok (.if_icmp .ge 91, 3) := by decide +kernel
theorem dX3_settleWorlds_68 : decode cX3_settleWorlds 68 = .ok (.iload_n 1, 1) := by decide +kernel
theorem dX3_settleWorlds_69 : decode cX3_settleWorlds 69 = .ok (.istore_n 2, 1) := by decide +kernel
theorem dX3_settleWorlds_70 : decode cX3_settleWorlds 70 = .ok (.aload_n 0, 1) := by decide +kernel
theorem dX3_settleWorlds_71 : decode cX3_settleWorlds 71 = .ok (.getfield 9, 3) := by decide +kernel
theorem dX3_settleWorlds_74 : decode cX3_settleWorlds 74 = .ok (.iconst 0, 1) := by decide +kernel
theorem dX3_settleWorlds_75 : decode cX3_settleWorlds 75 = .ok (.iaload, 1) := by decide +kernel
theorem dX3_settleWorlds_76 : decode cX3_settleWorlds 76 = .ok (.iconst 1, 1) := by decide +kernel
theorem dX3_settleWorlds_77 : decode cX3_settleWorlds 77 = .ok (.isub, 1) := by decide +kernel
theorem dX3_settleWorlds_78 : decode cX3_settleWorlds 78 = .ok (.istore_n 3, 1) := by decide +kernel
theorem dX3_settleWorlds_79 : decode cX3_settleWorlds 79 = .ok (.iload_n 3, 1) := by decide +kernel
theorem dX3_settleWorlds_80 : decode cX3_settleWorlds 80 = .ok (.ifCond .lt 70, 3) := by decide +kernel
theorem dX3_settleWorlds_83 : decode cX3_settleWorlds 83 = .ok (.aload_n 0, 1) := by decide +kernel
theorem dX3_settleWorlds_84 : decode cX3_settleWorlds 84 = .ok (.getfield 58, 3) := by decide +kernel
theorem dX3_settleWorlds_87 : decode cX3_settleWorlds 87 = .ok (.ifCond .le 12, 3) := by decide +kernel
theorem dX3_settleWorlds_90 : decode cX3_settleWorlds 90 = .ok (.iload_n 2, 1) := by decide +kernel
theorem dX3_settleWorlds_91 : decode cX3_settleWorlds 91 = .ok (.aload_n 0, 1) := by decide +kernel
theorem dX3_settleWorlds_92 : decode cX3_settleWorlds 92 = .ok (.getfield 58, 3) := by decide +kernel
theorem dX3_settleWorlds_95 : decode cX3_settleWorlds 95 = .ok (.irem, 1) := by decide +kernel
theorem dX3_settleWorlds_96 : decode cX3_settleWorlds 96 = .ok (.goto 4, 3) := by decide +kernel
theorem dX3_settleWorlds_99 : decode cX3_settleWorlds 99 = .ok (.iconst 0, 1) := by decide +kernel
theorem dX3_settleWorlds_100 : decode cX3_settleWorlds 100 = .ok (.istore 4, 2) := by decide +kernel
theorem dX3_settleWorlds_102 : decode cX3_settleWorlds 102 = .ok (.aload_n 0, 1) := by decide +kernel
theorem dX3_settleWorlds_103 : decode cX3_settleWorlds 103 = .ok (.getfield 58, 3) := by decide +kernel
theorem dX3_settleWorlds_106 : decode cX3_settleWorlds 106 = .ok (.ifCond .le 12, 3) := by decide +kernel
theorem dX3_settleWorlds_109 : decode cX3_settleWorlds 109 = .ok (.iload_n 2, 1) := by decide +kernel
theorem dX3_settleWorlds_110 : decode cX3_settleWorlds 110 = .ok (.aload_n 0, 1) := by decide +kernel
theorem dX3_settleWorlds_111 : decode cX3_settleWorlds 111 = .ok (.getfield 58, 3) := by decide +kernel
theorem dX3_settleWorlds_114 : decode cX3_settleWorlds 114 = .ok (.idiv, 1) := by decide +kernel
theorem dX3_settleWorlds_115 : decode cX3_settleWorlds 115 = .ok (.goto 4, 3) := by decide +kernel
theorem dX3_settleWorlds_118 : decode cX3_settleWorlds 118 = .ok (.iconst 0, 1) := by decide +kernel
theorem dX3_settleWorlds_119 : decode cX3_settleWorlds 119 = .ok (.istore_n 2, 1) := by decide +kernel
theorem dX3_settleWorlds_120 : decode cX3_settleWorlds 120 = .ok (.aload_n 0, 1) := by decide +kernel
theorem dX3_settleWorlds_121 : decode cX3_settleWorlds 121 = .ok (.getfield 43, 3) := by decide +kernel
theorem dX3_settleWorlds_124 : decode cX3_settleWorlds 124 = .ok (.iload_n 3, 1) := by decide +kernel
theorem dX3_settleWorlds_125 : decode cX3_settleWorlds 125 = .ok (.iload 4, 2) := by decide +kernel
theorem dX3_settleWorlds_127 : decode cX3_settleWorlds 127 = .ok (.iload_n 1, 1) := by decide +kernel
theorem dX3_settleWorlds_128 : decode cX3_settleWorlds 128 = .ok (.bipush 64, 2) := by decide +kernel
theorem dX3_settleWorlds_130 : decode cX3_settleWorlds 130 = .ok (.idiv, 1) := by decide +kernel
theorem dX3_settleWorlds_131 : decode cX3_settleWorlds 131 = .ok (.invokestatic 118, 3) := by decide +kernel
theorem dX3_settleWorlds_134 : decode cX3_settleWorlds 134 = .ok (.dup2, 1) := by decide +kernel
theorem dX3_settleWorlds_135 : decode cX3_settleWorlds 135 = .ok (.laload, 1) := by decide +kernel
theorem dX3_settleWorlds_136 : decode cX3_settleWorlds 136 = .ok (.lconst 1, 1) := by decide +kernel
theorem dX3_settleWorlds_137 : decode cX3_settleWorlds 137 = .ok (.iload_n 1, 1) := by decide +kernel
theorem dX3_settleWorlds_138 : decode cX3_settleWorlds 138 = .ok (.bipush 64, 2) := by decide +kernel
theorem dX3_settleWorlds_140 : decode cX3_settleWorlds 140 = .ok (.irem, 1) := by decide +kernel
theorem dX3_settleWorlds_141 : decode cX3_settleWorlds 141 = .ok (.lshl, 1) := by decide +kernel
theorem dX3_settleWorlds_142 : decode cX3_settleWorlds 142 = .ok (.lor, 1) := by decide +kernel
theorem dX3_settleWorlds_143 : decode cX3_settleWorlds 143 = .ok (.lastore, 1) := by decide +kernel
theorem dX3_settleWorlds_144 : decode cX3_settleWorlds 144 = .ok (.iinc 3 (-1), 3) := by decide +kernel
theorem dX3_settleWorlds_147 : decode cX3_settleWorlds 147 = .ok (.goto (-68), 3) := by decide +kernel
theorem dX3_settleWorlds_150 : decode cX3_settleWorlds 150 = .ok (.iinc 1 1, 3) := by decide +kernel
theorem dX3_settleWorlds_153 : decode cX3_settleWorlds 153 = .ok (.goto (-93), 3) := by decide +kernel
theorem dX3_settleWorlds_156 : decode cX3_settleWorlds 156 = .ok (.return_, 1) := by decide +kernel
noncomputable def F_X3_settleWorlds_79 (k150 : Nat → Int32 → m_M → Option (Unit × m_M)) : Nat → Nat → Int32 → Int32 → Int32 → m_M → Option (Unit × m_M)
  | 0, _, _, _, _, _ => none
  | n + 1, v1, v2, v3, v4, M =>
    if v4 < 0 then (
      k150 v1 v2 M
    ) else
    m_let (fun (v5 : Nat) (v6 : Int32) (v7 : Int32) (v8 : Int32) (v9 : Int32) (M1 : m_M) =>
      m_let (fun (v10 : Nat) (v11 : Int32) (v12 : Int32) (v13 : Int32) (v14 : Int32) (M2 : m_M) =>
        x_gN 3 M2 v10 16 fun v15 =>
        x_nz (64 : Int32) <|
        x_bd (F_X3_spotIndex v12 v13 (v11 / (64 : Int32)) M2) fun v16 M3 =>
        x_aL M3 v15 v16 fun v17 =>
        x_nz (64 : Int32) <|
        x_sL M3 v15 v16 (v17 ||| ((1 : Int64) <<< ((v11 - v11 / (64 : Int32) * (64 : Int32)).toInt64 &&& 63))) fun M4 =>
        m_let (v12 + (-1 : Int32)) fun v18 =>
        F_X3_settleWorlds_79 k150 n v10 v11 v14 v18 M4
      ) fun (k119 : Nat → Int32 → Int32 → Int32 → Int32 → m_M → Option (Unit × m_M)) =>
      x_gI 3 M1 v5 0 fun v19 =>
      if v19 ≤ 0 then (
        k119 v5 v6 v8 v9 (0 : Int32) M1
      ) else
      x_gI 3 M1 v5 0 fun v20 =>
      x_nz v20 <|
      k119 v5 v6 v8 v9 (v7 / v20) M1
    ) fun (k100 : Nat → Int32 → Int32 → Int32 → Int32 → m_M → Option (Unit × m_M)) =>
    x_gI 3 M v1 0 fun v21 =>
    if v21 ≤ 0 then (
      k100 v1 v2 v3 v4 (0 : Int32) M
    ) else
    x_gI 3 M v1 0 fun v22 =>
    x_nz v22 <|
    k100 v1 v2 v3 v4 (v3 - v3 / v22 * v22) M
noncomputable def F_X3_settleWorlds_60 : Nat → Nat → Int32 → m_M → Option (Unit × m_M)
  | 0, _, _, _ => none
  | n + 1, v1, v2, M =>
    x_gI 3 M v1 3 fun v3 =>
    if v3 ≤ v2 then (
      some ((), M)
    ) else
    x_gN 3 M v1 6 fun v4 =>
    x_aI 12 M v4 (0 : Int32) fun v5 =>
    m_let (v5 - (1 : Int32)) fun v6 =>
    m_let (fun (v7 : Nat) (v8 : Int32) (M1 : m_M) =>
      m_let (v8 + (1 : Int32)) fun v9 =>
      F_X3_settleWorlds_60 n v7 v9 M1
    ) fun (k150 : Nat → Int32 → m_M → Option (Unit × m_M)) =>
    F_X3_settleWorlds_79 k150 m_FU v1 v2 v2 v6 M
noncomputable def F_X3_settleWorlds_7 (k36 : Nat → m_M → Option (Unit × m_M)) : Nat → Nat → Int32 → m_M → Option (Unit × m_M)
  | 0, _, _, _ => none
  | n + 1, v1, v2, M =>
    x_gN 3 M v1 6 fun v3 =>
    x_aI 12 M v3 (0 : Int32) fun v4 =>
    if v4 ≤ v2 then (
      k36 v1 M
    ) else
    x_gI 3 M v1 3 fun v5 =>
    x_gI 3 M v1 0 fun v6 =>
    x_pI 3 M v1 3 (v5 * v6) fun M1 =>
    m_let (v2 + (1 : Int32)) fun v7 =>
    F_X3_settleWorlds_7 k36 n v1 v7 M1
noncomputable def F_X3_settleWorlds (a0 : Nat) (M : m_M) : Option (Unit × m_M) :=
  x_pI 3 M a0 3 (1 : Int32) fun M1 =>
  m_let (fun (v1 : Nat) (M2 : m_M) =>
    x_gI 3 M2 v1 3 fun v2 =>
    x_nz (64 : Int32) <|
    x_pI 3 M2 v1 4 ((v2 + (63 : Int32)) / (64 : Int32)) fun M3 =>
    x_gN 3 M3 v1 16 fun v3 =>
    x_bd (F_J7_fill_d0a16 v3 (0 : Int64) M3) fun _ M4 =>
    F_X3_settleWorlds_60 m_FU v1 (0 : Int32) M4
  ) fun (k36 : Nat → m_M → Option (Unit × m_M)) =>
  F_X3_settleWorlds_7 k36 m_FU a0 (0 : Int32) M1
set_option maxHeartbeats 4000000 in
theorem L_X3_settleWorlds_79 {X : j_X} {Φ : Option Value → m_M → Prop} (C : j_C X yX3_settleWorlds cX3_settleWorlds 5 none 2 0 0 Φ) {k150 : Nat → Int32 → m_M → Option (Unit × m_M)} (hk150 : ∀ (p0 : Nat) (p1 : Int32) (M : m_M), m_ok e_V Φ (k150 p0 p1 M) → j_J X 5 150 [some (.ref p0), some (.int p1), none, none, none] [] (0, 0) M) : ∀ (n : Nat) (v1 : Nat) (v2 : Int32) (v3 : Int32) (v4 : Int32) (M : m_M), m_ok e_V Φ (F_X3_settleWorlds_79 k150 n v1 v2 v3 v4 M) → j_J X 5 79 [some (.ref v1), some (.int v2), some (.int v3), some (.int v4), none] [] (0, 0) M := by
  have C0 := C.1
  intro n
  induction n with
  | zero => intro v1 v2 v3 v4 M h; exact False.elim h
  | succ n ih =>
    intro v1 v2 v3 v4 M h
    rw [F_X3_settleWorlds_79] at h
    refine j_iload_n C0 (pc := 79) dX3_settleWorlds_79 rfl ?_
    refine j_if_lt C0 (pc := 80) (tgt := 150) dX3_settleWorlds_80 (by decide) (fun hc => ?_) (fun hc => ?_)
    · replace h := (X_if h).1 hc
      exact j_J.wq (hk150 v1 v2 M h) (And.intro rfl (And.intro rfl (trivial)))
    · replace h := (X_if h).2 hc
      refine X_join (fun (kj : Nat → Int32 → Int32 → Int32 → Int32 → m_M → Option (Unit × m_M)) => ∀ (p0 : Nat) (p1 : Int32) (p2 : Int32) (p3 : Int32) (p4 : Int32) (M : m_M), m_ok e_V Φ (kj p0 p1 p2 p3 p4 M) → j_J X 5 100 [some (.ref p0), some (.int p1), some (.int p2), some (.int p3), none] [.int p4] (0, 0) M) h (fun v5 v6 v7 v8 v9 M1 h => ?_) (fun k100 hk100 h => ?_)
      · refine X_join (fun (kj : Nat → Int32 → Int32 → Int32 → Int32 → m_M → Option (Unit × m_M)) => ∀ (p0 : Nat) (p1 : Int32) (p2 : Int32) (p3 : Int32) (p4 : Int32) (M : m_M), m_ok e_V Φ (kj p0 p1 p2 p3 p4 M) → j_J X 5 119 [some (.ref p0), some (.int p1), none, some (.int p2), some (.int p3)] [.int p4] (0, 0) M) h (fun v10 v11 v12 v13 v14 M2 h => ?_) (fun k119 hk119 h => ?_)
        · refine j_istore_n C0 (pc := 119) dX3_settleWorlds_119 (Nat.le_of_ble_eq_true rfl) ?_
          show j_J X 5 120 [some (.ref v10), some (.int v11), some (.int v14), some (.int v12), some (.int v13)] [] (0, 0) M2
          refine j_aload_n C0 (pc := 120) dX3_settleWorlds_120 rfl ?_
          refine X_gN C0 (pc := 121) f_Land_43_3 rfl dX3_settleWorlds_121 h (fun v15 h => ?_)
          refine j_iload_n C0 (pc := 124) dX3_settleWorlds_124 rfl ?_
          refine j_iload C0 (pc := 125) dX3_settleWorlds_125 rfl ?_
          refine j_iload_n C0 (pc := 127) dX3_settleWorlds_127 rfl ?_
          refine j_bipush C0 (pc := 128) dX3_settleWorlds_128 (v := (64 : Int32)) (by decide) ?_
          refine X_idiv C0 (pc := 130) dX3_settleWorlds_130 h (fun h => ?_)
          refine X_cS C0 (pc := 131) (e' := e_I) (as := [.int v12, .int v13, .int (v11 / (64 : Int32))]) (rest := [.ref v15]) (s' := fun w => .int w :: [.ref v15]) (g' := (0, 0)) s_Land_118 (fun Ψ hΨ => K_X3_spotIndex v12 v13 (v11 / (64 : Int32)) M2 Ψ hΨ) rfl rfl (fun _ => rfl) (by decide) (by decide) rfl (Nat.le_of_ble_eq_true rfl) dX3_settleWorlds_131 h (fun v16 M3 h => ?_)
          refine j_dup2 C0 (pc := 134) dX3_settleWorlds_134 rfl rfl ?_
          refine X_lald C0 (pc := 135) dX3_settleWorlds_135 h (fun v17 h => ?_)
          refine j_lconst C0 (pc := 136) dX3_settleWorlds_136 (v := (1 : Int64)) (by decide) ?_
          refine j_iload_n C0 (pc := 137) dX3_settleWorlds_137 rfl ?_
          refine j_bipush C0 (pc := 138) dX3_settleWorlds_138 (v := (64 : Int32)) (by decide) ?_
          refine X_irem C0 (pc := 140) dX3_settleWorlds_140 h (fun h => ?_)
          refine j_lshl C0 (pc := 141) dX3_settleWorlds_141 (v := (1 : Int64) <<< ((v11 - v11 / (64 : Int32) * (64 : Int32)).toInt64 &&& 63)) rfl ?_
          refine j_lor C0 (pc := 142) dX3_settleWorlds_142 ?_
          refine X_last C0 (pc := 143) dX3_settleWorlds_143 h (fun M4 h => ?_)
          refine j_iinc C0 (pc := 144) dX3_settleWorlds_144 (v := v12 + (-1 : Int32)) rfl (Nat.le_of_ble_eq_true rfl) (by rfl) ?_
          refine X_let (G := fun w => j_J X 5 147 [some (.ref v10), some (.int v11), some (.int v14), some (.int w), some (.int v13)] [] (0, 0) M4) h (fun v18 h => ?_)
          refine j_goto C0 (pc := 147) (tgt := 79) dX3_settleWorlds_147 (by decide) ?_
          exact j_J.wq (ih v10 v11 v14 v18 M4 h) (And.intro rfl (And.intro rfl (And.intro rfl (And.intro rfl (trivial)))))
        · refine j_istore C0 (pc := 100) dX3_settleWorlds_100 (Nat.le_of_ble_eq_true rfl) ?_
          show j_J X 5 102 [some (.ref v5), some (.int v6), some (.int v7), some (.int v8), some (.int v9)] [] (0, 0) M1
          refine j_aload_n C0 (pc := 102) dX3_settleWorlds_102 rfl ?_
          refine X_gI C0 (pc := 103) f_Land_58_3 rfl dX3_settleWorlds_103 h (fun v19 h => ?_)
          refine j_if_le C0 (pc := 106) (tgt := 118) dX3_settleWorlds_106 (by decide) (fun hc => ?_) (fun hc => ?_)
          · replace h := (X_if h).1 hc
            refine j_iconst C0 (pc := 118) dX3_settleWorlds_118 (v := (0 : Int32)) (by decide) ?_
            exact j_J.wq (hk119 v5 v6 v8 v9 (0 : Int32) M1 h) (And.intro rfl (And.intro rfl (And.intro rfl (And.intro rfl (trivial)))))
          · replace h := (X_if h).2 hc
            refine j_iload_n C0 (pc := 109) dX3_settleWorlds_109 rfl ?_
            refine j_aload_n C0 (pc := 110) dX3_settleWorlds_110 rfl ?_
            refine X_gI C0 (pc := 111) f_Land_58_3 rfl dX3_settleWorlds_111 h (fun v20 h => ?_)
            refine X_idiv C0 (pc := 114) dX3_settleWorlds_114 h (fun h => ?_)
            refine j_goto C0 (pc := 115) (tgt := 119) dX3_settleWorlds_115 (by decide) ?_
            exact j_J.wq (hk119 v5 v6 v8 v9 (v7 / v20) M1 h) (And.intro rfl (And.intro rfl (And.intro rfl (And.intro rfl (trivial)))))
      · refine j_aload_n C0 (pc := 83) dX3_settleWorlds_83 rfl ?_
        refine X_gI C0 (pc := 84) f_Land_58_3 rfl dX3_settleWorlds_84 h (fun v21 h => ?_)
        refine j_if_le C0 (pc := 87) (tgt := 99) dX3_settleWorlds_87 (by decide) (fun hc => ?_) (fun hc => ?_)
        · replace h := (X_if h).1 hc
          refine j_iconst C0 (pc := 99) dX3_settleWorlds_99 (v := (0 : Int32)) (by decide) ?_
          exact j_J.wq (hk100 v1 v2 v3 v4 (0 : Int32) M h) (And.intro rfl (And.intro rfl (And.intro rfl (And.intro rfl (trivial)))))
        · replace h := (X_if h).2 hc
          refine j_iload_n C0 (pc := 90) dX3_settleWorlds_90 rfl ?_
          refine j_aload_n C0 (pc := 91) dX3_settleWorlds_91 rfl ?_
          refine X_gI C0 (pc := 92) f_Land_58_3 rfl dX3_settleWorlds_92 h (fun v22 h => ?_)
          refine X_irem C0 (pc := 95) dX3_settleWorlds_95 h (fun h => ?_)
          refine j_goto C0 (pc := 96) (tgt := 100) dX3_settleWorlds_96 (by decide) ?_
          exact j_J.wq (hk100 v1 v2 v3 v4 (v3 - v3 / v22 * v22) M h) (And.intro rfl (And.intro rfl (And.intro rfl (And.intro rfl (trivial)))))
set_option maxHeartbeats 4000000 in
theorem L_X3_settleWorlds_60 {X : j_X} {Φ : Option Value → m_M → Prop} (C : j_C X yX3_settleWorlds cX3_settleWorlds 5 none 2 0 0 Φ) : ∀ (n : Nat) (v1 : Nat) (v2 : Int32) (M : m_M), m_ok e_V Φ (F_X3_settleWorlds_60 n v1 v2 M) → j_J X 5 60 [some (.ref v1), some (.int v2), none, none, none] [] (0, 0) M := by
  have C0 := C.1
  intro n
  induction n with
  | zero => intro v1 v2 M h; exact False.elim h
  | succ n ih =>
    intro v1 v2 M h
    rw [F_X3_settleWorlds_60] at h
    refine j_iload_n C0 (pc := 60) dX3_settleWorlds_60 rfl ?_
    refine j_aload_n C0 (pc := 61) dX3_settleWorlds_61 rfl ?_
    refine X_gI C0 (pc := 62) f_Land_87_3 rfl dX3_settleWorlds_62 h (fun v3 h => ?_)
    refine j_icmp_ge C0 (pc := 65) (tgt := 156) dX3_settleWorlds_65 (by decide) (fun hc => ?_) (fun hc => ?_)
    · replace h := (X_if h).1 hc
      exact j_vret C rfl h dX3_settleWorlds_156 (by decide)
    · replace h := (X_if h).2 hc
      refine j_iload_n C0 (pc := 68) dX3_settleWorlds_68 rfl ?_
      refine j_istore_n C0 (pc := 69) dX3_settleWorlds_69 (Nat.le_of_ble_eq_true rfl) ?_
      show j_J X 5 70 [some (.ref v1), some (.int v2), some (.int v2), none, none] [] (0, 0) M
      refine j_aload_n C0 (pc := 70) dX3_settleWorlds_70 rfl ?_
      refine X_gN C0 (pc := 71) f_Land_9_3 rfl dX3_settleWorlds_71 h (fun v4 h => ?_)
      refine j_iconst C0 (pc := 74) dX3_settleWorlds_74 (v := (0 : Int32)) (by decide) ?_
      refine X_iald C0 (pc := 75) dX3_settleWorlds_75 h (fun v5 h => ?_)
      refine j_iconst C0 (pc := 76) dX3_settleWorlds_76 (v := (1 : Int32)) (by decide) ?_
      refine j_isub C0 (pc := 77) dX3_settleWorlds_77 ?_
      refine X_let (G := fun w => j_J X 5 78 [some (.ref v1), some (.int v2), some (.int v2), none, none] (.int w :: []) (0, 0) M) h (fun v6 h => ?_)
      refine j_istore_n C0 (pc := 78) dX3_settleWorlds_78 (Nat.le_of_ble_eq_true rfl) ?_
      show j_J X 5 79 [some (.ref v1), some (.int v2), some (.int v2), some (.int v6), none] [] (0, 0) M
      refine X_join (fun (kj : Nat → Int32 → m_M → Option (Unit × m_M)) => ∀ (p0 : Nat) (p1 : Int32) (M : m_M), m_ok e_V Φ (kj p0 p1 M) → j_J X 5 150 [some (.ref p0), some (.int p1), none, none, none] [] (0, 0) M) h (fun v7 v8 M1 h => ?_) (fun k150 hk150 h => ?_)
      · refine j_iinc C0 (pc := 150) dX3_settleWorlds_150 (v := v8 + (1 : Int32)) rfl (Nat.le_of_ble_eq_true rfl) (by rfl) ?_
        refine X_let (G := fun w => j_J X 5 153 [some (.ref v7), some (.int w), none, none, none] [] (0, 0) M1) h (fun v9 h => ?_)
        refine j_goto C0 (pc := 153) (tgt := 60) dX3_settleWorlds_153 (by decide) ?_
        exact j_J.wq (ih v7 v9 M1 h) (And.intro rfl (And.intro rfl (trivial)))
      · exact j_J.wq (L_X3_settleWorlds_79 C hk150 m_FU v1 v2 v2 v6 M h) (And.intro rfl (And.intro rfl (And.intro rfl (And.intro rfl (trivial)))))
set_option maxHeartbeats 4000000 in
theorem L_X3_settleWorlds_7 {X : j_X} {Φ : Option Value → m_M → Prop} (C : j_C X yX3_settleWorlds cX3_settleWorlds 5 none 2 0 0 Φ) {k36 : Nat → m_M → Option (Unit × m_M)} (hk36 : ∀ (p0 : Nat) (M : m_M), m_ok e_V Φ (k36 p0 M) → j_J X 5 36 [some (.ref p0), none, none, none, none] [] (0, 0) M) : ∀ (n : Nat) (v1 : Nat) (v2 : Int32) (M : m_M), m_ok e_V Φ (F_X3_settleWorlds_7 k36 n v1 v2 M) → j_J X 5 7 [some (.ref v1), some (.int v2), none, none, none] [] (0, 0) M := by
  have C0 := C.1
  intro n
  induction n with
  | zero => intro v1 v2 M h; exact False.elim h
  | succ n ih =>
    intro v1 v2 M h
    rw [F_X3_settleWorlds_7] at h
    refine j_iload_n C0 (pc := 7) dX3_settleWorlds_7 rfl ?_
    refine j_aload_n C0 (pc := 8) dX3_settleWorlds_8 rfl ?_
    refine X_gN C0 (pc := 9) f_Land_9_3 rfl dX3_settleWorlds_9 h (fun v3 h => ?_)
    refine j_iconst C0 (pc := 12) dX3_settleWorlds_12 (v := (0 : Int32)) (by decide) ?_
    refine X_iald C0 (pc := 13) dX3_settleWorlds_13 h (fun v4 h => ?_)
    refine j_icmp_ge C0 (pc := 14) (tgt := 36) dX3_settleWorlds_14 (by decide) (fun hc => ?_) (fun hc => ?_)
    · replace h := (X_if h).1 hc
      exact j_J.wq (hk36 v1 M h) (And.intro rfl (trivial))
    · replace h := (X_if h).2 hc
      refine j_aload_n C0 (pc := 17) dX3_settleWorlds_17 rfl ?_
      refine j_dup C0 (pc := 18) dX3_settleWorlds_18 rfl ?_
      refine X_gI C0 (pc := 19) f_Land_87_3 rfl dX3_settleWorlds_19 h (fun v5 h => ?_)
      refine j_aload_n C0 (pc := 22) dX3_settleWorlds_22 rfl ?_
      refine X_gI C0 (pc := 23) f_Land_58_3 rfl dX3_settleWorlds_23 h (fun v6 h => ?_)
      refine j_imul C0 (pc := 26) dX3_settleWorlds_26 ?_
      refine X_pI C0 (pc := 27) f_Land_87_3 rfl rfl dX3_settleWorlds_27 h (fun M1 h => ?_)
      refine j_iinc C0 (pc := 30) dX3_settleWorlds_30 (v := v2 + (1 : Int32)) rfl (Nat.le_of_ble_eq_true rfl) (by rfl) ?_
      refine X_let (G := fun w => j_J X 5 33 [some (.ref v1), some (.int w), none, none, none] [] (0, 0) M1) h (fun v7 h => ?_)
      refine j_goto C0 (pc := 33) (tgt := 7) dX3_settleWorlds_33 (by decide) ?_
      exact j_J.wq (ih v1 v7 M1 h) (And.intro rfl (And.intro rfl (trivial)))
set_option maxHeartbeats 4000000 in
theorem K_X3_settleWorlds (a0 : Nat) (M : m_M) (Φ : Option Value → m_M → Prop) (h : m_ok e_V Φ (F_X3_settleWorlds a0 M)) : j_Ct yX3_settleWorlds cX3_settleWorlds 5 none 2 0 0 [.ref a0] M Φ := by
  refine j_Ct.of (by decide +kernel) (Nat.le_of_ble_eq_true rfl) fun X C => ?_
  have C0 := C.1
  show j_J X 5 0 [some (.ref a0), none, none, none, none] [] (0, 0) M
  unfold F_X3_settleWorlds at h
  refine j_aload_n C0 (pc := 0) dX3_settleWorlds_0 rfl ?_
  refine j_iconst C0 (pc := 1) dX3_settleWorlds_1 (v := (1 : Int32)) (by decide) ?_
  refine X_pI C0 (pc := 2) f_Land_87_3 rfl rfl dX3_settleWorlds_2 h (fun M1 h => ?_)
  refine j_iconst C0 (pc := 5) dX3_settleWorlds_5 (v := (0 : Int32)) (by decide) ?_
  refine j_istore_n C0 (pc := 6) dX3_settleWorlds_6 (Nat.le_of_ble_eq_true rfl) ?_
  show j_J X 5 7 [some (.ref a0), some (.int (0 : Int32)), none, none, none] [] (0, 0) M1
  refine X_join (fun (kj : Nat → m_M → Option (Unit × m_M)) => ∀ (p0 : Nat) (M : m_M), m_ok e_V Φ (kj p0 M) → j_J X 5 36 [some (.ref p0), none, none, none, none] [] (0, 0) M) h (fun v1 M2 h => ?_) (fun k36 hk36 h => ?_)
  · refine j_aload_n C0 (pc := 36) dX3_settleWorlds_36 rfl ?_
    refine j_aload_n C0 (pc := 37) dX3_settleWorlds_37 rfl ?_
    refine X_gI C0 (pc := 38) f_Land_87_3 rfl dX3_settleWorlds_38 h (fun v2 h => ?_)
    refine j_bipush C0 (pc := 41) dX3_settleWorlds_41 (v := (63 : Int32)) (by decide) ?_
    refine j_iadd C0 (pc := 43) dX3_settleWorlds_43 ?_
    refine j_bipush C0 (pc := 44) dX3_settleWorlds_44 (v := (64 : Int32)) (by decide) ?_
    refine X_idiv C0 (pc := 46) dX3_settleWorlds_46 h (fun h => ?_)
    refine X_pI C0 (pc := 47) f_Land_112_3 rfl rfl dX3_settleWorlds_47 h (fun M3 h => ?_)
    refine j_aload_n C0 (pc := 50) dX3_settleWorlds_50 rfl ?_
    refine X_gN C0 (pc := 51) f_Land_43_3 rfl dX3_settleWorlds_51 h (fun v3 h => ?_)
    refine j_lconst C0 (pc := 54) dX3_settleWorlds_54 (v := (0 : Int64)) (by decide) ?_
    refine X_cS C0 (pc := 55) (e' := e_V) (as := [.ref v3, .long (0 : Int64)]) (rest := []) (s' := fun _ => []) (g' := (0, 0)) s_Land_115 (fun Ψ hΨ => K_J7_fill_d0a16 v3 (0 : Int64) M3 Ψ hΨ) rfl rfl (fun _ => rfl) (by decide) (by decide) rfl (Nat.le_of_ble_eq_true rfl) dX3_settleWorlds_55 h (fun _ M4 h => ?_)
    refine j_iconst C0 (pc := 58) dX3_settleWorlds_58 (v := (0 : Int32)) (by decide) ?_
    refine j_istore_n C0 (pc := 59) dX3_settleWorlds_59 (Nat.le_of_ble_eq_true rfl) ?_
    show j_J X 5 60 [some (.ref v1), some (.int (0 : Int32)), none, none, none] [] (0, 0) M4
    exact j_J.wq (L_X3_settleWorlds_60 C m_FU v1 (0 : Int32) M4 h) (And.intro rfl (And.intro rfl (trivial)))
  · exact j_J.wq (L_X3_settleWorlds_7 C hk36 m_FU a0 (0 : Int32) M1 h) (And.intro rfl (And.intro rfl (trivial)))
theorem dX3_operate_0 : decode cX3_operate 0 = .ok (.iload_n 0, 1) := by decide +kernel
theorem dX3_operate_1 : decode cX3_operate 1 = .ok (.tableswitch 97 (-17) (-12) #[93, 89, 78, 67, 53, 39], 39) := by decide +kernel
theorem dX3_operate_40 : decode cX3_operate 40 = .ok (.iload_n 1, 1) := by decide +kernel
theorem dX3_operate_41 : decode cX3_operate 41 = .ok (.ifCond .eq 11, 3) := by decide +kernel
theorem dX3_operate_44 : decode cX3_operate 44 = .ok (.iload_n 2, 1) := by decide +kernel
theorem dX3_operate_45 : decode cX3_operate 45 = .ok (.ifCond .eq 7, 3) := by decide +kernel
theorem dX3_operate_48 : decode cX3_operate 48 = .ok (.iconst 1, 1) := by decide +kernel
theorem dX3_operate_49 : decode cX3_operate 49 = .ok (.goto 4, 3) := by decide +kernel
theorem dX3_operate_52 : decode cX3_operate 52 = .ok (.iconst 0, 1) := by decide +kernel
theorem dX3_operate_53 : decode cX3_operate 53 = .ok (.ireturn, 1) := by decide +kernel
theorem dX3_operate_54 : decode cX3_operate 54 = .ok (.iload_n 1, 1) := by decide +kernel
theorem dX3_operate_55 : decode cX3_operate 55 = .ok (.ifCond .ne 7, 3) := by decide +kernel
theorem dX3_operate_58 : decode cX3_operate 58 = .ok (.iload_n 2, 1) := by decide +kernel
theorem dX3_operate_59 : decode cX3_operate 59 = .ok (.ifCond .eq 7, 3) := by decide +kernel
theorem dX3_operate_62 : decode cX3_operate 62 = .ok (.iconst 1, 1) := by decide +kernel
theorem dX3_operate_63 : decode cX3_operate 63 = .ok (.goto 4, 3) := by decide +kernel
theorem dX3_operate_66 : decode cX3_operate 66 = .ok (.iconst 0, 1) := by decide +kernel
theorem dX3_operate_67 : decode cX3_operate 67 = .ok (.ireturn, 1) := by decide +kernel
theorem dX3_operate_68 : decode cX3_operate 68 = .ok (.iload_n 1, 1) := by decide +kernel
theorem dX3_operate_69 : decode cX3_operate 69 = .ok (.iload_n 2, 1) := by decide +kernel
theorem dX3_operate_70 : decode cX3_operate 70 = .ok (.if_icmp .ge 7, 3) := by decide +kernel
theorem dX3_operate_73 : decode cX3_operate 73 = .ok (.iconst 1, 1) := by decide +kernel
theorem dX3_operate_74 : decode cX3_operate 74 = .ok (.goto 4, 3) := by decide +kernel
theorem dX3_operate_77 : decode cX3_operate 77 = .ok (.iconst 0, 1) := by decide +kernel
theorem dX3_operate_78 : decode cX3_operate 78 = .ok (.ireturn, 1) := by decide +kernel
theorem dX3_operate_79 : decode cX3_operate 79 = .ok (.iload_n 1, 1) := by decide +kernel
theorem dX3_operate_80 : decode cX3_operate 80 = .ok (.iload_n 2, 1) := by decide +kernel
theorem dX3_operate_81 : decode cX3_operate 81 = .ok (.if_icmp .ne 7, 3) := by decide +kernel
theorem dX3_operate_84 : decode cX3_operate 84 = .ok (.iconst 1, 1) := by decide +kernel
theorem dX3_operate_85 : decode cX3_operate 85 = .ok (.goto 4, 3) := by decide +kernel
theorem dX3_operate_88 : decode cX3_operate 88 = .ok (.iconst 0, 1) := by decide +kernel
theorem dX3_operate_89 : decode cX3_operate 89 = .ok (.ireturn, 1) := by decide +kernel
theorem dX3_operate_90 : decode cX3_operate 90 = .ok (.iload_n 1, 1) := by decide +kernel
theorem dX3_operate_91 : decode cX3_operate 91 = .ok (.iload_n 2, 1) := by decide +kernel
theorem dX3_operate_92 : decode cX3_operate 92 = .ok (.iadd, 1) := by decide +kernel
theorem dX3_operate_93 : decode cX3_operate 93 = .ok (.ireturn, 1) := by decide +kernel
theorem dX3_operate_94 : decode cX3_operate 94 = .ok (.iload_n 1, 1) := by decide +kernel
theorem dX3_operate_95 : decode cX3_operate 95 = .ok (.iload_n 2, 1) := by decide +kernel
theorem dX3_operate_96 : decode cX3_operate 96 = .ok (.isub, 1) := by decide +kernel
theorem dX3_operate_97 : decode cX3_operate 97 = .ok (.ireturn, 1) := by decide +kernel
theorem dX3_operate_98 : decode cX3_operate 98 = .ok (.iload_n 1, 1) := by decide +kernel
theorem dX3_operate_99 : decode cX3_operate 99 = .ok (.iload_n 2, 1) := by decide +kernel
theorem dX3_operate_100 : decode cX3_operate 100 = .ok (.imul, 1) := by decide +kernel
theorem dX3_operate_101 : decode cX3_operate 101 = .ok (.ireturn, 1) := by decide +kernel
noncomputable def F_X3_operate (a1 : Int32) (a2 : Int32) (a3 : Int32) (M : m_M) : Option (Int32 × m_M) :=
  if a1 = (-17 : Int32) then (
    some (a2 - a3, M)
  ) else
  if a1 = (-16 : Int32) then (
    some (a2 + a3, M)
  ) else
  if a1 = (-15 : Int32) then (
    if a2 = a3 then (
      some ((1 : Int32), M)
    ) else
    some ((0 : Int32), M)
  ) else
  if a1 = (-14 : Int32) then (
    if a3 ≤ a2 then (
      some ((0 : Int32), M)
    ) else
    some ((1 : Int32), M)
  ) else
  if a1 = (-13 : Int32) then (
    m_let (fun  (M1 : m_M) =>
      some ((1 : Int32), M1)
    ) fun (k62 : m_M → Option (Int32 × m_M)) =>
    if a2 = 0 then (
      if a3 = 0 then (
        some ((0 : Int32), M)
      ) else
      k62 M
    ) else
    k62 M
  ) else
  if a1 = (-12 : Int32) then (
    m_let (fun  (M2 : m_M) =>
      some ((0 : Int32), M2)
    ) fun (k52 : m_M → Option (Int32 × m_M)) =>
    if a2 = 0 then (
      k52 M
    ) else
    if a3 = 0 then (
      k52 M
    ) else
    some ((1 : Int32), M)
  ) else
  some (a2 * a3, M)
set_option maxHeartbeats 4000000 in
theorem K_X3_operate (a1 : Int32) (a2 : Int32) (a3 : Int32) (M : m_M) (Φ : Option Value → m_M → Prop) (h : m_ok e_I Φ (F_X3_operate a1 a2 a3 M)) : j_Ct yX3_operate cX3_operate 3 (some .int) 1 0 0 [.int a1, .int a2, .int a3] M Φ := by
  refine j_Ct.of (by decide +kernel) (Nat.le_of_ble_eq_true rfl) fun X C => ?_
  have C0 := C.1
  show j_J X 3 0 [some (.int a1), some (.int a2), some (.int a3)] [] (0, 0) M
  unfold F_X3_operate at h
  refine j_iload_n C0 (pc := 0) dX3_operate_0 rfl ?_
  by_cases hc : a1 = (-17 : Int32)
  · replace h := (X_if h).1 hc
    refine j_tableIn C0 (pc := 1) (off := 93) (tgt := 94) dX3_operate_1 (by rw [hc]; decide) (by rw [hc]; decide) (by rw [hc]; decide) (by decide) ?_
    refine j_iload_n C0 (pc := 94) dX3_operate_94 rfl ?_
    refine j_iload_n C0 (pc := 95) dX3_operate_95 rfl ?_
    refine j_isub C0 (pc := 96) dX3_operate_96 ?_
    exact j_iret C rfl h dX3_operate_97 (by decide)
  · replace h := (X_if h).2 hc
    have hn0 : ¬ a1 = Int32.ofInt (-17) := hc
    by_cases hc : a1 = (-16 : Int32)
    · replace h := (X_if h).1 hc
      refine j_tableIn C0 (pc := 1) (off := 89) (tgt := 90) dX3_operate_1 (by rw [hc]; decide) (by rw [hc]; decide) (by rw [hc]; decide) (by decide) ?_
      refine j_iload_n C0 (pc := 90) dX3_operate_90 rfl ?_
      refine j_iload_n C0 (pc := 91) dX3_operate_91 rfl ?_
      refine j_iadd C0 (pc := 92) dX3_operate_92 ?_
      exact j_iret C rfl h dX3_operate_93 (by decide)
    · replace h := (X_if h).2 hc
      have hn1 : ¬ a1 = Int32.ofInt (-16) := hc
      by_cases hc : a1 = (-15 : Int32)
      · replace h := (X_if h).1 hc
        refine j_tableIn C0 (pc := 1) (off := 78) (tgt := 79) dX3_operate_1 (by rw [hc]; decide) (by rw [hc]; decide) (by rw [hc]; decide) (by decide) ?_
        refine j_iload_n C0 (pc := 79) dX3_operate_79 rfl ?_
        refine j_iload_n C0 (pc := 80) dX3_operate_80 rfl ?_
        refine j_icmp_ne C0 (pc := 81) (tgt := 88) dX3_operate_81 (by decide) (fun hc => ?_) (fun hc => ?_)
        · replace h := (X_if h).2 hc
          refine j_iconst C0 (pc := 88) dX3_operate_88 (v := (0 : Int32)) (by decide) ?_
          exact j_iret C rfl h dX3_operate_89 (by decide)
        · replace h := (X_if h).1 hc
          refine j_iconst C0 (pc := 84) dX3_operate_84 (v := (1 : Int32)) (by decide) ?_
          refine j_goto C0 (pc := 85) (tgt := 89) dX3_operate_85 (by decide) ?_
          exact j_iret C rfl h dX3_operate_89 (by decide)
      · replace h := (X_if h).2 hc
        have hn2 : ¬ a1 = Int32.ofInt (-15) := hc
        by_cases hc : a1 = (-14 : Int32)
        · replace h := (X_if h).1 hc
          refine j_tableIn C0 (pc := 1) (off := 67) (tgt := 68) dX3_operate_1 (by rw [hc]; decide) (by rw [hc]; decide) (by rw [hc]; decide) (by decide) ?_
          refine j_iload_n C0 (pc := 68) dX3_operate_68 rfl ?_
          refine j_iload_n C0 (pc := 69) dX3_operate_69 rfl ?_
          refine j_icmp_ge C0 (pc := 70) (tgt := 77) dX3_operate_70 (by decide) (fun hc => ?_) (fun hc => ?_)
          · replace h := (X_if h).1 hc
            refine j_iconst C0 (pc := 77) dX3_operate_77 (v := (0 : Int32)) (by decide) ?_
            exact j_iret C rfl h dX3_operate_78 (by decide)
          · replace h := (X_if h).2 hc
            refine j_iconst C0 (pc := 73) dX3_operate_73 (v := (1 : Int32)) (by decide) ?_
            refine j_goto C0 (pc := 74) (tgt := 78) dX3_operate_74 (by decide) ?_
            exact j_iret C rfl h dX3_operate_78 (by decide)
        · replace h := (X_if h).2 hc
          have hn3 : ¬ a1 = Int32.ofInt (-14) := hc
          by_cases hc : a1 = (-13 : Int32)
          · replace h := (X_if h).1 hc
            refine j_tableIn C0 (pc := 1) (off := 53) (tgt := 54) dX3_operate_1 (by rw [hc]; decide) (by rw [hc]; decide) (by rw [hc]; decide) (by decide) ?_
            refine X_join (fun (kj : m_M → Option (Int32 × m_M)) => ∀  (M : m_M), m_ok e_I Φ (kj M) → j_J X 3 62 [none, none, none] [] (0, 0) M) h (fun M1 h => ?_) (fun k62 hk62 h => ?_)
            · refine j_iconst C0 (pc := 62) dX3_operate_62 (v := (1 : Int32)) (by decide) ?_
              refine j_goto C0 (pc := 63) (tgt := 67) dX3_operate_63 (by decide) ?_
              exact j_iret C rfl h dX3_operate_67 (by decide)
            · refine j_iload_n C0 (pc := 54) dX3_operate_54 rfl ?_
              refine j_if_ne C0 (pc := 55) (tgt := 62) dX3_operate_55 (by decide) (fun hc => ?_) (fun hc => ?_)
              · replace h := (X_if h).2 hc
                exact j_J.wq (hk62 M h) (trivial)
              · replace h := (X_if h).1 hc
                refine j_iload_n C0 (pc := 58) dX3_operate_58 rfl ?_
                refine j_if_eq C0 (pc := 59) (tgt := 66) dX3_operate_59 (by decide) (fun hc => ?_) (fun hc => ?_)
                · replace h := (X_if h).1 hc
                  refine j_iconst C0 (pc := 66) dX3_operate_66 (v := (0 : Int32)) (by decide) ?_
                  exact j_iret C rfl h dX3_operate_67 (by decide)
                · replace h := (X_if h).2 hc
                  exact j_J.wq (hk62 M h) (trivial)
          · replace h := (X_if h).2 hc
            have hn4 : ¬ a1 = Int32.ofInt (-13) := hc
            by_cases hc : a1 = (-12 : Int32)
            · replace h := (X_if h).1 hc
              refine j_tableIn C0 (pc := 1) (off := 39) (tgt := 40) dX3_operate_1 (by rw [hc]; decide) (by rw [hc]; decide) (by rw [hc]; decide) (by decide) ?_
              refine X_join (fun (kj : m_M → Option (Int32 × m_M)) => ∀  (M : m_M), m_ok e_I Φ (kj M) → j_J X 3 52 [none, none, none] [] (0, 0) M) h (fun M2 h => ?_) (fun k52 hk52 h => ?_)
              · refine j_iconst C0 (pc := 52) dX3_operate_52 (v := (0 : Int32)) (by decide) ?_
                exact j_iret C rfl h dX3_operate_53 (by decide)
              · refine j_iload_n C0 (pc := 40) dX3_operate_40 rfl ?_
                refine j_if_eq C0 (pc := 41) (tgt := 52) dX3_operate_41 (by decide) (fun hc => ?_) (fun hc => ?_)
                · replace h := (X_if h).1 hc
                  exact j_J.wq (hk52 M h) (trivial)
                · replace h := (X_if h).2 hc
                  refine j_iload_n C0 (pc := 44) dX3_operate_44 rfl ?_
                  refine j_if_eq C0 (pc := 45) (tgt := 52) dX3_operate_45 (by decide) (fun hc => ?_) (fun hc => ?_)
                  · replace h := (X_if h).1 hc
                    exact j_J.wq (hk52 M h) (trivial)
                  · replace h := (X_if h).2 hc
                    refine j_iconst C0 (pc := 48) dX3_operate_48 (v := (1 : Int32)) (by decide) ?_
                    refine j_goto C0 (pc := 49) (tgt := 53) dX3_operate_49 (by decide) ?_
                    exact j_iret C rfl h dX3_operate_53 (by decide)
            · replace h := (X_if h).2 hc
              have hn5 : ¬ a1 = Int32.ofInt (-12) := hc
              have q0 := m_sw (k := -17) hn0
              have q1 := m_sw (k := -16) hn1
              have q2 := m_sw (k := -15) hn2
              have q3 := m_sw (k := -14) hn3
              have q4 := m_sw (k := -13) hn4
              have q5 := m_sw (k := -12) hn5
              refine j_tableOut C0 (pc := 1) (tgt := 98) dX3_operate_1 (by omega) (by decide) ?_
              refine j_iload_n C0 (pc := 98) dX3_operate_98 rfl ?_
              refine j_iload_n C0 (pc := 99) dX3_operate_99 rfl ?_
              refine j_imul C0 (pc := 100) dX3_operate_100 ?_
              exact j_iret C rfl h dX3_operate_101 (by decide)
theorem dX3_reckon_0 : decode cX3_reckon 0 = .ok (.iconst 0, 1) := by decide +kernel
theorem dX3_reckon_1 : decode cX3_reckon 1 = .ok (.istore_n 3, 1) := by decide +kernel
theorem dX3_reckon_2 : decode cX3_reckon 2 = .ok (.aload_n 0, 1) := by decide +kernel
theorem dX3_reckon_3 : decode cX3_reckon 3 = .ok (.getfield 34, 3) := by decide +kernel
theorem dX3_reckon_6 : decode cX3_reckon 6 = .ok (.iload_n 1, 1) := by decide +kernel
theorem dX3_reckon_7 : decode cX3_reckon 7 = .ok (.bipush 8, 2) := by decide +kernel
theorem dX3_reckon_9 : decode cX3_reckon 9 = .ok (.imul, 1) := by decide +kernel
theorem dX3_reckon_10 : decode cX3_reckon 10 = .ok (.iload_n 2, 1) := by decide +kernel
theorem dX3_reckon_11 : decode cX3_reckon 11 = .ok (.iadd, 1) := by decide +kernel
theorem dX3_reckon_12 : decode cX3_reckon 12 = .ok (.iaload, 1) := by decide +kernel
theorem dX3_reckon_13 : decode cX3_reckon 13 = .ok (.aload_n 0, 1) := by decide +kernel
theorem dX3_reckon_14 : decode cX3_reckon 14 = .ok (.getfield 68, 3) := by decide +kernel
theorem dX3_reckon_17 : decode cX3_reckon 17 = .ok (.invokestatic 132, 3) := by decide +kernel
theorem dX3_reckon_20 : decode cX3_reckon 20 = .ok (.istore 4, 2) := by decide +kernel
theorem dX3_reckon_22 : decode cX3_reckon 22 = .ok (.aload_n 0, 1) := by decide +kernel
theorem dX3_reckon_23 : decode cX3_reckon 23 = .ok (.getfield 31, 3) := by decide +kernel
theorem dX3_reckon_26 : decode cX3_reckon 26 = .ok (.iload_n 1, 1) := by decide +kernel
theorem dX3_reckon_27 : decode cX3_reckon 27 = .ok (.bipush 8, 2) := by decide +kernel
theorem dX3_reckon_29 : decode cX3_reckon 29 = .ok (.imul, 1) := by decide +kernel
theorem dX3_reckon_30 : decode cX3_reckon 30 = .ok (.iload_n 2, 1) := by decide +kernel
theorem dX3_reckon_31 : decode cX3_reckon 31 = .ok (.iadd, 1) := by decide +kernel
theorem dX3_reckon_32 : decode cX3_reckon 32 = .ok (.iaload, 1) := by decide +kernel
theorem dX3_reckon_33 : decode cX3_reckon 33 = .ok (.istore 5, 2) := by decide +kernel
theorem dX3_reckon_35 : decode cX3_reckon 35 = .ok (.iload 5, 2) := by decide +kernel
theorem dX3_reckon_37 : decode cX3_reckon 37 = .ok (.iload 4, 2) := by decide +kernel
theorem dX3_reckon_39 : decode cX3_reckon 39 = .ok (.if_icmp .ge 142, 3) := by decide +kernel
theorem dX3_reckon_42 : decode cX3_reckon 42 = .ok (.aload_n 0, 1) := by decide +kernel
theorem dX3_reckon_43 : decode cX3_reckon 43 = .ok (.getfield 28, 3) := by decide +kernel
theorem dX3_reckon_46 : decode cX3_reckon 46 = .ok (.iload 5, 2) := by decide +kernel
theorem dX3_reckon_48 : decode cX3_reckon 48 = .ok (.iaload, 1) := by decide +kernel
theorem dX3_reckon_49 : decode cX3_reckon 49 = .ok (.istore 6, 2) := by decide +kernel
theorem dX3_reckon_51 : decode cX3_reckon 51 = .ok (.iload 6, 2) := by decide +kernel
theorem dX3_reckon_53 : decode cX3_reckon 53 = .ok (.bipush (-11), 2) := by decide +kernel
theorem dX3_reckon_55 : decode cX3_reckon 55 = .ok (.if_icmp .ne 34, 3) := by decide +kernel
theorem dX3_reckon_58 : decode cX3_reckon 58 = .ok (.iload_n 3, 1) := by decide +kernel
theorem dX3_reckon_59 : decode cX3_reckon 59 = .ok (.ifCond .le 30, 3) := by decide +kernel
theorem dX3_reckon_62 : decode cX3_reckon 62 = .ok (.aload_n 0, 1) := by decide +kernel
theorem dX3_reckon_63 : decode cX3_reckon 63 = .ok (.getfield 49, 3) := by decide +kernel
theorem dX3_reckon_66 : decode cX3_reckon 66 = .ok (.iload_n 3, 1) := by decide +kernel
theorem dX3_reckon_67 : decode cX3_reckon 67 = .ok (.iconst 1, 1) := by decide +kernel
theorem dX3_reckon_68 : decode cX3_reckon 68 = .ok (.isub, 1) := by decide +kernel
theorem dX3_reckon_69 : decode cX3_reckon 69 = .ok (.aload_n 0, 1) := by decide +kernel
theorem dX3_reckon_70 : decode cX3_reckon 70 = .ok (.getfield 49, 3) := by decide +kernel
theorem dX3_reckon_73 : decode cX3_reckon 73 = .ok (.iload_n 3, 1) := by decide +kernel
theorem dX3_reckon_74 : decode cX3_reckon 74 = .ok (.iconst 1, 1) := by decide +kernel
theorem dX3_reckon_75 : decode cX3_reckon 75 = .ok (.isub, 1) := by decide +kernel
theorem dX3_reckon_76 : decode cX3_reckon 76 = .ok (.iaload, 1) := by decide +kernel
theorem dX3_reckon_77 : decode cX3_reckon 77 = .ok (.ifCond .ne 7, 3) := by decide +kernel
theorem dX3_reckon_80 : decode cX3_reckon 80 = .ok (.iconst 1, 1) := by decide +kernel
theorem dX3_reckon_81 : decode cX3_reckon 81 = .ok (.goto 4, 3) := by decide +kernel
theorem dX3_reckon_84 : decode cX3_reckon 84 = .ok (.iconst 0, 1) := by decide +kernel
theorem dX3_reckon_85 : decode cX3_reckon 85 = .ok (.iastore, 1) := by decide +kernel
theorem dX3_reckon_86 : decode cX3_reckon 86 = .ok (.goto 89, 3) := by decide +kernel
theorem dX3_reckon_89 : decode cX3_reckon 89 = .ok (.iload 6, 2) := by decide +kernel
theorem dX3_reckon_91 : decode cX3_reckon 91 = .ok (.bipush (-11), 2) := by decide +kernel
theorem dX3_reckon_93 : decode cX3_reckon 93 = .ok (.if_icmp .ge 41, 3) := by decide +kernel
theorem dX3_reckon_96 : decode cX3_reckon 96 = .ok (.iload_n 3, 1) := by decide +kernel
theorem dX3_reckon_97 : decode cX3_reckon 97 = .ok (.iconst 1, 1) := by decide +kernel
theorem dX3_reckon_98 : decode cX3_reckon 98 = .ok (.if_icmp .le 36, 3) := by decide +kernel
theorem dX3_reckon_101 : decode cX3_reckon 101 = .ok (.iinc 3 (-1), 3) := by decide +kernel
theorem dX3_reckon_104 : decode cX3_reckon 104 = .ok (.aload_n 0, 1) := by decide +kernel
theorem dX3_reckon_105 : decode cX3_reckon 105 = .ok (.getfield 49, 3) := by decide +kernel
theorem dX3_reckon_108 : decode cX3_reckon 108 = .ok (.iload_n 3, 1) := by decide +kernel
theorem dX3_reckon_109 : decode cX3_reckon 109 = .ok (.iconst 1, 1) := by decide +kernel
theorem dX3_reckon_110 : decode cX3_reckon 110 = .ok (.isub, 1) := by decide +kernel
theorem dX3_reckon_111 : decode cX3_reckon 111 = .ok (.iload 6, 2) := by decide +kernel
theorem dX3_reckon_113 : decode cX3_reckon 113 = .ok (.aload_n 0, 1) := by decide +kernel
theorem dX3_reckon_114 : decode cX3_reckon 114 = .ok (.getfield 49, 3) := by decide +kernel
theorem dX3_reckon_117 : decode cX3_reckon 117 = .ok (.iload_n 3, 1) := by decide +kernel
theorem dX3_reckon_118 : decode cX3_reckon 118 = .ok (.iconst 1, 1) := by decide +kernel
theorem dX3_reckon_119 : decode cX3_reckon 119 = .ok (.isub, 1) := by decide +kernel
theorem dX3_reckon_120 : decode cX3_reckon 120 = .ok (.iaload, 1) := by decide +kernel
theorem dX3_reckon_121 : decode cX3_reckon 121 = .ok (.aload_n 0, 1) := by decide +kernel
theorem dX3_reckon_122 : decode cX3_reckon 122 = .ok (.getfield 49, 3) := by decide +kernel
theorem dX3_reckon_125 : decode cX3_reckon 125 = .ok (.iload_n 3, 1) := by decide +kernel
theorem dX3_reckon_126 : decode cX3_reckon 126 = .ok (.iaload, 1) := by decide +kernel
theorem dX3_reckon_127 : decode cX3_reckon 127 = .ok (.invokestatic 135, 3) := by decide +kernel
theorem dX3_reckon_130 : decode cX3_reckon 130 = .ok (.iastore, 1) := by decide +kernel
theorem dX3_reckon_131 : decode cX3_reckon 131 = .ok (.goto 44, 3) := by decide +kernel
theorem dX3_reckon_134 : decode cX3_reckon 134 = .ok (.iload 6, 2) := by decide +kernel
theorem dX3_reckon_136 : decode cX3_reckon 136 = .ok (.bipush (-5), 2) := by decide +kernel
theorem dX3_reckon_138 : decode cX3_reckon 138 = .ok (.if_icmp .lt 37, 3) := by decide +kernel
theorem dX3_reckon_141 : decode cX3_reckon 141 = .ok (.iload_n 3, 1) := by decide +kernel
theorem dX3_reckon_142 : decode cX3_reckon 142 = .ok (.bipush 64, 2) := by decide +kernel
theorem dX3_reckon_144 : decode cX3_reckon 144 = .ok (.if_icmp .ge 31, 3) := by decide +kernel
theorem dX3_reckon_147 : decode cX3_reckon 147 = .ok (.aload_n 0, 1) := by decide +kernel
theorem dX3_reckon_148 : decode cX3_reckon 148 = .ok (.getfield 49, 3) := by decide +kernel
theorem dX3_reckon_151 : decode cX3_reckon 151 = .ok (.iload_n 3, 1) := by decide +kernel
theorem dX3_reckon_152 : decode cX3_reckon 152 = .ok (.iload 6, 2) := by decide +kernel
theorem dX3_reckon_154 : decode cX3_reckon 154 = .ok (.ifCond .lt 8, 3) := by decide +kernel
theorem dX3_reckon_157 : decode cX3_reckon 157 = .ok (.iload 6, 2) := by decide +kernel
theorem dX3_reckon_159 : decode cX3_reckon 159 = .ok (.goto 12, 3) := by decide +kernel
theorem dX3_reckon_162 : decode cX3_reckon 162 = .ok (.aload_n 0, 1) := by decide +kernel
theorem dX3_reckon_163 : decode cX3_reckon 163 = .ok (.getfield 46, 3) := by decide +kernel
theorem dX3_reckon_166 : decode cX3_reckon 166 = .ok (.iconst (-1), 1) := by decide +kernel
theorem dX3_reckon_167 : decode cX3_reckon 167 = .ok (.iload 6, 2) := by decide +kernel
theorem dX3_reckon_169 : decode cX3_reckon 169 = .ok (.isub, 1) := by decide +kernel
theorem dX3_reckon_170 : decode cX3_reckon 170 = .ok (.iaload, 1) := by decide +kernel
theorem dX3_reckon_171 : decode cX3_reckon 171 = .ok (.iastore, 1) := by decide +kernel
theorem dX3_reckon_172 : decode cX3_reckon 172 = .ok (.iinc 3 1, 3) := by decide +kernel
theorem dX3_reckon_175 : decode cX3_reckon 175 = .ok (.iinc 5 1, 3) := by decide +kernel
theorem dX3_reckon_178 : decode cX3_reckon 178 = .ok (.goto (-143), 3) := by decide +kernel
theorem dX3_reckon_181 : decode cX3_reckon 181 = .ok (.aload_n 0, 1) := by decide +kernel
theorem dX3_reckon_182 : decode cX3_reckon 182 = .ok (.getfield 49, 3) := by decide +kernel
theorem dX3_reckon_185 : decode cX3_reckon 185 = .ok (.iconst 0, 1) := by decide +kernel
theorem dX3_reckon_186 : decode cX3_reckon 186 = .ok (.iaload, 1) := by decide +kernel
theorem dX3_reckon_187 : decode cX3_reckon 187 = .ok (.ireturn, 1) := by decide +kernel
noncomputable def F_X3_reckon_35 (k181 : Nat → m_M → Option (Int32 × m_M)) : Nat → Nat → Int32 → Int32 → Int32 → m_M → Option (Int32 × m_M)
  | 0, _, _, _, _, _ => none
  | n + 1, v1, v2, v3, v4, M =>
    if v3 ≤ v4 then (
      k181 v1 M
    ) else
    m_let (fun (v5 : Nat) (v6 : Int32) (v7 : Int32) (v8 : Int32) (M1 : m_M) =>
      m_let (v8 + (1 : Int32)) fun v9 =>
      F_X3_reckon_35 k181 n v5 v6 v7 v9 M1
    ) fun (k175 : Nat → Int32 → Int32 → Int32 → m_M → Option (Int32 × m_M)) =>
    m_let (fun (v10 : Nat) (v11 : Int32) (v12 : Int32) (v13 : Int32) (v14 : Int32) (M2 : m_M) =>
      m_let (fun (v15 : Nat) (v16 : Int32) (v17 : Int32) (v18 : Int32) (v19 : Int32) (M3 : m_M) =>
        if v19 < (-5 : Int32) then (
          k175 v15 v16 v17 v18 M3
        ) else
        if (64 : Int32) ≤ v16 then (
          k175 v15 v16 v17 v18 M3
        ) else
        m_let (fun (v20 : Nat) (v21 : Int32) (v22 : Int32) (v23 : Int32) (v24 : Nat) (v25 : Int32) (v26 : Int32) (M4 : m_M) =>
          x_sI 12 M4 v24 v25 v26 fun M5 =>
          m_let (v21 + (1 : Int32)) fun v27 =>
          k175 v20 v27 v22 v23 M5
        ) fun (k171 : Nat → Int32 → Int32 → Int32 → Nat → Int32 → Int32 → m_M → Option (Int32 × m_M)) =>
        x_gN 3 M3 v15 18 fun v28 =>
        if v19 < 0 then (
          x_gN 3 M3 v15 17 fun v29 =>
          x_aI 12 M3 v29 ((-1 : Int32) - v19) fun v30 =>
          k171 v15 v16 v17 v18 v28 v16 v30 M3
        ) else
        k171 v15 v16 v17 v18 v28 v16 v19 M3
      ) fun (k134 : Nat → Int32 → Int32 → Int32 → Int32 → m_M → Option (Int32 × m_M)) =>
      if (-11 : Int32) ≤ v14 then (
        k134 v10 v11 v12 v13 v14 M2
      ) else
      if v11 ≤ (1 : Int32) then (
        k134 v10 v11 v12 v13 v14 M2
      ) else
      m_let (v11 + (-1 : Int32)) fun v31 =>
      x_gN 3 M2 v10 18 fun v32 =>
      x_gN 3 M2 v10 18 fun v33 =>
      x_aI 12 M2 v33 (v31 - (1 : Int32)) fun v34 =>
      x_gN 3 M2 v10 18 fun v35 =>
      x_aI 12 M2 v35 v31 fun v36 =>
      x_bd (F_X3_operate v14 v34 v36 M2) fun v37 M6 =>
      x_sI 12 M6 v32 (v31 - (1 : Int32)) v37 fun M7 =>
      k175 v10 v31 v12 v13 M7
    ) fun (k89 : Nat → Int32 → Int32 → Int32 → Int32 → m_M → Option (Int32 × m_M)) =>
    x_gN 3 M v1 11 fun v38 =>
    x_aI 12 M v38 v4 fun v39 =>
    if v39 = (-11 : Int32) then (
      if v2 ≤ 0 then (
        k89 v1 v2 v3 v4 v39 M
      ) else
      m_let (fun (v40 : Nat) (v41 : Int32) (v42 : Int32) (v43 : Int32) (v44 : Nat) (v45 : Int32) (v46 : Int32) (M8 : m_M) =>
        x_sI 12 M8 v44 v45 v46 fun M9 =>
        k175 v40 v41 v42 v43 M9
      ) fun (k85 : Nat → Int32 → Int32 → Int32 → Nat → Int32 → Int32 → m_M → Option (Int32 × m_M)) =>
      x_gN 3 M v1 18 fun v47 =>
      x_gN 3 M v1 18 fun v48 =>
      x_aI 12 M v48 (v2 - (1 : Int32)) fun v49 =>
      if v49 = 0 then (
        k85 v1 v2 v3 v4 v47 (v2 - (1 : Int32)) (1 : Int32) M
      ) else
      k85 v1 v2 v3 v4 v47 (v2 - (1 : Int32)) (0 : Int32) M
    ) else
    k89 v1 v2 v3 v4 v39 M
noncomputable def F_X3_reckon (a0 : Nat) (a1 : Int32) (a2 : Int32) (M : m_M) : Option (Int32 × m_M) :=
  x_gN 3 M a0 13 fun v1 =>
  x_aI 12 M v1 ((a1 * (8 : Int32)) + a2) fun v2 =>
  x_gI 3 M a0 5 fun v3 =>
  x_bd (F_J9_min_7cf53 v2 v3 M) fun v4 M1 =>
  x_gN 3 M1 a0 12 fun v5 =>
  x_aI 12 M1 v5 ((a1 * (8 : Int32)) + a2) fun v6 =>
  m_let (fun (v7 : Nat) (M2 : m_M) =>
    x_gN 3 M2 v7 18 fun v8 =>
    x_aI 12 M2 v8 (0 : Int32) fun v9 =>
    some (v9, M2)
  ) fun (k181 : Nat → m_M → Option (Int32 × m_M)) =>
  F_X3_reckon_35 k181 m_FU a0 (0 : Int32) v4 v6 M1
set_option maxHeartbeats 4000000 in
theorem L_X3_reckon_35 {X : j_X} {Φ : Option Value → m_M → Prop} (C : j_C X yX3_reckon cX3_reckon 7 (some .int) 2 0 0 Φ) {k181 : Nat → m_M → Option (Int32 × m_M)} (hk181 : ∀ (p0 : Nat) (M : m_M), m_ok e_I Φ (k181 p0 M) → j_J X 7 181 [some (.ref p0), none, none, none, none, none, none] [] (0, 0) M) : ∀ (n : Nat) (v1 : Nat) (v2 : Int32) (v3 : Int32) (v4 : Int32) (M : m_M), m_ok e_I Φ (F_X3_reckon_35 k181 n v1 v2 v3 v4 M) → j_J X 7 35 [some (.ref v1), none, none, some (.int v2), some (.int v3), some (.int v4), none] [] (0, 0) M := by
  have C0 := C.1
  intro n
  induction n with
  | zero => intro v1 v2 v3 v4 M h; exact False.elim h
  | succ n ih =>
    intro v1 v2 v3 v4 M h
    rw [F_X3_reckon_35] at h
    refine j_iload C0 (pc := 35) dX3_reckon_35 rfl ?_
    refine j_iload C0 (pc := 37) dX3_reckon_37 rfl ?_
    refine j_icmp_ge C0 (pc := 39) (tgt := 181) dX3_reckon_39 (by decide) (fun hc => ?_) (fun hc => ?_)
    · replace h := (X_if h).1 hc
      exact j_J.wq (hk181 v1 M h) (And.intro rfl (trivial))
    · replace h := (X_if h).2 hc
      refine X_join (fun (kj : Nat → Int32 → Int32 → Int32 → m_M → Option (Int32 × m_M)) => ∀ (p0 : Nat) (p1 : Int32) (p2 : Int32) (p3 : Int32) (M : m_M), m_ok e_I Φ (kj p0 p1 p2 p3 M) → j_J X 7 175 [some (.ref p0), none, none, some (.int p1), some (.int p2), some (.int p3), none] [] (0, 0) M) h (fun v5 v6 v7 v8 M1 h => ?_) (fun k175 hk175 h => ?_)
      · refine j_iinc C0 (pc := 175) dX3_reckon_175 (v := v8 + (1 : Int32)) rfl (Nat.le_of_ble_eq_true rfl) (by rfl) ?_
        refine X_let (G := fun w => j_J X 7 178 [some (.ref v5), none, none, some (.int v6), some (.int v7), some (.int w), none] [] (0, 0) M1) h (fun v9 h => ?_)
        refine j_goto C0 (pc := 178) (tgt := 35) dX3_reckon_178 (by decide) ?_
        exact j_J.wq (ih v5 v6 v7 v9 M1 h) (And.intro rfl (And.intro rfl (And.intro rfl (And.intro rfl (trivial)))))
      · refine X_join (fun (kj : Nat → Int32 → Int32 → Int32 → Int32 → m_M → Option (Int32 × m_M)) => ∀ (p0 : Nat) (p1 : Int32) (p2 : Int32) (p3 : Int32) (p4 : Int32) (M : m_M), m_ok e_I Φ (kj p0 p1 p2 p3 p4 M) → j_J X 7 89 [some (.ref p0), none, none, some (.int p1), some (.int p2), some (.int p3), some (.int p4)] [] (0, 0) M) h (fun v10 v11 v12 v13 v14 M2 h => ?_) (fun k89 hk89 h => ?_)
        · refine X_join (fun (kj : Nat → Int32 → Int32 → Int32 → Int32 → m_M → Option (Int32 × m_M)) => ∀ (p0 : Nat) (p1 : Int32) (p2 : Int32) (p3 : Int32) (p4 : Int32) (M : m_M), m_ok e_I Φ (kj p0 p1 p2 p3 p4 M) → j_J X 7 134 [some (.ref p0), none, none, some (.int p1), some (.int p2), some (.int p3), some (.int p4)] [] (0, 0) M) h (fun v15 v16 v17 v18 v19 M3 h => ?_) (fun k134 hk134 h => ?_)
          · refine j_iload C0 (pc := 134) dX3_reckon_134 rfl ?_
            refine j_bipush C0 (pc := 136) dX3_reckon_136 (v := (-5 : Int32)) (by decide) ?_
            refine j_icmp_lt C0 (pc := 138) (tgt := 175) dX3_reckon_138 (by decide) (fun hc => ?_) (fun hc => ?_)
            · replace h := (X_if h).1 hc
              exact j_J.wq (hk175 v15 v16 v17 v18 M3 h) (And.intro rfl (And.intro rfl (And.intro rfl (And.intro rfl (trivial)))))
            · replace h := (X_if h).2 hc
              refine j_iload_n C0 (pc := 141) dX3_reckon_141 rfl ?_
              refine j_bipush C0 (pc := 142) dX3_reckon_142 (v := (64 : Int32)) (by decide) ?_
              refine j_icmp_ge C0 (pc := 144) (tgt := 175) dX3_reckon_144 (by decide) (fun hc => ?_) (fun hc => ?_)
              · replace h := (X_if h).1 hc
                exact j_J.wq (hk175 v15 v16 v17 v18 M3 h) (And.intro rfl (And.intro rfl (And.intro rfl (And.intro rfl (trivial)))))
              · replace h := (X_if h).2 hc
                refine X_join (fun (kj : Nat → Int32 → Int32 → Int32 → Nat → Int32 → Int32 → m_M → Option (Int32 × m_M)) => ∀ (p0 : Nat) (p1 : Int32) (p2 : Int32) (p3 : Int32) (p4 : Nat) (p5 : Int32) (p6 : Int32) (M : m_M), m_ok e_I Φ (kj p0 p1 p2 p3 p4 p5 p6 M) → j_J X 7 171 [some (.ref p0), none, none, some (.int p1), some (.int p2), some (.int p3), none] [.int p6, .int p5, .ref p4] (0, 0) M) h (fun v20 v21 v22 v23 v24 v25 v26 M4 h => ?_) (fun k171 hk171 h => ?_)
                · refine X_iast C0 (pc := 171) dX3_reckon_171 h (fun M5 h => ?_)
                  refine j_iinc C0 (pc := 172) dX3_reckon_172 (v := v21 + (1 : Int32)) rfl (Nat.le_of_ble_eq_true rfl) (by rfl) ?_
                  refine X_let (G := fun w => j_J X 7 175 [some (.ref v20), none, none, some (.int w), some (.int v22), some (.int v23), none] [] (0, 0) M5) h (fun v27 h => ?_)
                  exact j_J.wq (hk175 v20 v27 v22 v23 M5 h) (And.intro rfl (And.intro rfl (And.intro rfl (And.intro rfl (trivial)))))
                · refine j_aload_n C0 (pc := 147) dX3_reckon_147 rfl ?_
                  refine X_gN C0 (pc := 148) f_Land_49_3 rfl dX3_reckon_148 h (fun v28 h => ?_)
                  refine j_iload_n C0 (pc := 151) dX3_reckon_151 rfl ?_
                  refine j_iload C0 (pc := 152) dX3_reckon_152 rfl ?_
                  refine j_if_lt C0 (pc := 154) (tgt := 162) dX3_reckon_154 (by decide) (fun hc => ?_) (fun hc => ?_)
                  · replace h := (X_if h).1 hc
                    refine j_aload_n C0 (pc := 162) dX3_reckon_162 rfl ?_
                    refine X_gN C0 (pc := 163) f_Land_46_3 rfl dX3_reckon_163 h (fun v29 h => ?_)
                    refine j_iconst C0 (pc := 166) dX3_reckon_166 (v := (-1 : Int32)) (by decide) ?_
                    refine j_iload C0 (pc := 167) dX3_reckon_167 rfl ?_
                    refine j_isub C0 (pc := 169) dX3_reckon_169 ?_
                    refine X_iald C0 (pc := 170) dX3_reckon_170 h (fun v30 h => ?_)
                    exact j_J.wq (hk171 v15 v16 v17 v18 v28 v16 v30 M3 h) (And.intro rfl (And.intro rfl (And.intro rfl (And.intro rfl (trivial)))))
                  · replace h := (X_if h).2 hc
                    refine j_iload C0 (pc := 157) dX3_reckon_157 rfl ?_
                    refine j_goto C0 (pc := 159) (tgt := 171) dX3_reckon_159 (by decide) ?_
                    exact j_J.wq (hk171 v15 v16 v17 v18 v28 v16 v19 M3 h) (And.intro rfl (And.intro rfl (And.intro rfl (And.intro rfl (trivial)))))
          · refine j_iload C0 (pc := 89) dX3_reckon_89 rfl ?_
            refine j_bipush C0 (pc := 91) dX3_reckon_91 (v := (-11 : Int32)) (by decide) ?_
            refine j_icmp_ge C0 (pc := 93) (tgt := 134) dX3_reckon_93 (by decide) (fun hc => ?_) (fun hc => ?_)
            · replace h := (X_if h).1 hc
              exact j_J.wq (hk134 v10 v11 v12 v13 v14 M2 h) (And.intro rfl (And.intro rfl (And.intro rfl (And.intro rfl (And.intro rfl (trivial))))))
            · replace h := (X_if h).2 hc
              refine j_iload_n C0 (pc := 96) dX3_reckon_96 rfl ?_
              refine j_iconst C0 (pc := 97) dX3_reckon_97 (v := (1 : Int32)) (by decide) ?_
              refine j_icmp_le C0 (pc := 98) (tgt := 134) dX3_reckon_98 (by decide) (fun hc => ?_) (fun hc => ?_)
              · replace h := (X_if h).1 hc
                exact j_J.wq (hk134 v10 v11 v12 v13 v14 M2 h) (And.intro rfl (And.intro rfl (And.intro rfl (And.intro rfl (And.intro rfl (trivial))))))
              · replace h := (X_if h).2 hc
                refine j_iinc C0 (pc := 101) dX3_reckon_101 (v := v11 + (-1 : Int32)) rfl (Nat.le_of_ble_eq_true rfl) (by rfl) ?_
                refine X_let (G := fun w => j_J X 7 104 [some (.ref v10), none, none, some (.int w), some (.int v12), some (.int v13), some (.int v14)] [] (0, 0) M2) h (fun v31 h => ?_)
                refine j_aload_n C0 (pc := 104) dX3_reckon_104 rfl ?_
                refine X_gN C0 (pc := 105) f_Land_49_3 rfl dX3_reckon_105 h (fun v32 h => ?_)
                refine j_iload_n C0 (pc := 108) dX3_reckon_108 rfl ?_
                refine j_iconst C0 (pc := 109) dX3_reckon_109 (v := (1 : Int32)) (by decide) ?_
                refine j_isub C0 (pc := 110) dX3_reckon_110 ?_
                refine j_iload C0 (pc := 111) dX3_reckon_111 rfl ?_
                refine j_aload_n C0 (pc := 113) dX3_reckon_113 rfl ?_
                refine X_gN C0 (pc := 114) f_Land_49_3 rfl dX3_reckon_114 h (fun v33 h => ?_)
                refine j_iload_n C0 (pc := 117) dX3_reckon_117 rfl ?_
                refine j_iconst C0 (pc := 118) dX3_reckon_118 (v := (1 : Int32)) (by decide) ?_
                refine j_isub C0 (pc := 119) dX3_reckon_119 ?_
                refine X_iald C0 (pc := 120) dX3_reckon_120 h (fun v34 h => ?_)
                refine j_aload_n C0 (pc := 121) dX3_reckon_121 rfl ?_
                refine X_gN C0 (pc := 122) f_Land_49_3 rfl dX3_reckon_122 h (fun v35 h => ?_)
                refine j_iload_n C0 (pc := 125) dX3_reckon_125 rfl ?_
                refine X_iald C0 (pc := 126) dX3_reckon_126 h (fun v36 h => ?_)
                refine X_cS C0 (pc := 127) (e' := e_I) (as := [.int v14, .int v34, .int v36]) (rest := [.int (v31 - (1 : Int32)), .ref v32]) (s' := fun w => .int w :: [.int (v31 - (1 : Int32)), .ref v32]) (g' := (0, 0)) s_Land_135 (fun Ψ hΨ => K_X3_operate v14 v34 v36 M2 Ψ hΨ) rfl rfl (fun _ => rfl) (by decide) (by decide) rfl (Nat.le_of_ble_eq_true rfl) dX3_reckon_127 h (fun v37 M6 h => ?_)
                refine X_iast C0 (pc := 130) dX3_reckon_130 h (fun M7 h => ?_)
                refine j_goto C0 (pc := 131) (tgt := 175) dX3_reckon_131 (by decide) ?_
                exact j_J.wq (hk175 v10 v31 v12 v13 M7 h) (And.intro rfl (And.intro rfl (And.intro rfl (And.intro rfl (trivial)))))
        · refine j_aload_n C0 (pc := 42) dX3_reckon_42 rfl ?_
          refine X_gN C0 (pc := 43) f_Land_28_3 rfl dX3_reckon_43 h (fun v38 h => ?_)
          refine j_iload C0 (pc := 46) dX3_reckon_46 rfl ?_
          refine X_iald C0 (pc := 48) dX3_reckon_48 h (fun v39 h => ?_)
          refine j_istore C0 (pc := 49) dX3_reckon_49 (Nat.le_of_ble_eq_true rfl) ?_
          show j_J X 7 51 [some (.ref v1), none, none, some (.int v2), some (.int v3), some (.int v4), some (.int v39)] [] (0, 0) M
          refine j_iload C0 (pc := 51) dX3_reckon_51 rfl ?_
          refine j_bipush C0 (pc := 53) dX3_reckon_53 (v := (-11 : Int32)) (by decide) ?_
          refine j_icmp_ne C0 (pc := 55) (tgt := 89) dX3_reckon_55 (by decide) (fun hc => ?_) (fun hc => ?_)
          · replace h := (X_if h).2 hc
            exact j_J.wq (hk89 v1 v2 v3 v4 v39 M h) (And.intro rfl (And.intro rfl (And.intro rfl (And.intro rfl (And.intro rfl (trivial))))))
          · replace h := (X_if h).1 hc
            refine j_iload_n C0 (pc := 58) dX3_reckon_58 rfl ?_
            refine j_if_le C0 (pc := 59) (tgt := 89) dX3_reckon_59 (by decide) (fun hc => ?_) (fun hc => ?_)
            · replace h := (X_if h).1 hc
              exact j_J.wq (hk89 v1 v2 v3 v4 v39 M h) (And.intro rfl (And.intro rfl (And.intro rfl (And.intro rfl (And.intro rfl (trivial))))))
            · replace h := (X_if h).2 hc
              refine X_join (fun (kj : Nat → Int32 → Int32 → Int32 → Nat → Int32 → Int32 → m_M → Option (Int32 × m_M)) => ∀ (p0 : Nat) (p1 : Int32) (p2 : Int32) (p3 : Int32) (p4 : Nat) (p5 : Int32) (p6 : Int32) (M : m_M), m_ok e_I Φ (kj p0 p1 p2 p3 p4 p5 p6 M) → j_J X 7 85 [some (.ref p0), none, none, some (.int p1), some (.int p2), some (.int p3), none] [.int p6, .int p5, .ref p4] (0, 0) M) h (fun v40 v41 v42 v43 v44 v45 v46 M8 h => ?_) (fun k85 hk85 h => ?_)
              · refine X_iast C0 (pc := 85) dX3_reckon_85 h (fun M9 h => ?_)
                refine j_goto C0 (pc := 86) (tgt := 175) dX3_reckon_86 (by decide) ?_
                exact j_J.wq (hk175 v40 v41 v42 v43 M9 h) (And.intro rfl (And.intro rfl (And.intro rfl (And.intro rfl (trivial)))))
              · refine j_aload_n C0 (pc := 62) dX3_reckon_62 rfl ?_
                refine X_gN C0 (pc := 63) f_Land_49_3 rfl dX3_reckon_63 h (fun v47 h => ?_)
                refine j_iload_n C0 (pc := 66) dX3_reckon_66 rfl ?_
                refine j_iconst C0 (pc := 67) dX3_reckon_67 (v := (1 : Int32)) (by decide) ?_
                refine j_isub C0 (pc := 68) dX3_reckon_68 ?_
                refine j_aload_n C0 (pc := 69) dX3_reckon_69 rfl ?_
                refine X_gN C0 (pc := 70) f_Land_49_3 rfl dX3_reckon_70 h (fun v48 h => ?_)
                refine j_iload_n C0 (pc := 73) dX3_reckon_73 rfl ?_
                refine j_iconst C0 (pc := 74) dX3_reckon_74 (v := (1 : Int32)) (by decide) ?_
                refine j_isub C0 (pc := 75) dX3_reckon_75 ?_
                refine X_iald C0 (pc := 76) dX3_reckon_76 h (fun v49 h => ?_)
                refine j_if_ne C0 (pc := 77) (tgt := 84) dX3_reckon_77 (by decide) (fun hc => ?_) (fun hc => ?_)
                · replace h := (X_if h).2 hc
                  refine j_iconst C0 (pc := 84) dX3_reckon_84 (v := (0 : Int32)) (by decide) ?_
                  exact j_J.wq (hk85 v1 v2 v3 v4 v47 (v2 - (1 : Int32)) (0 : Int32) M h) (And.intro rfl (And.intro rfl (And.intro rfl (And.intro rfl (trivial)))))
                · replace h := (X_if h).1 hc
                  refine j_iconst C0 (pc := 80) dX3_reckon_80 (v := (1 : Int32)) (by decide) ?_
                  refine j_goto C0 (pc := 81) (tgt := 85) dX3_reckon_81 (by decide) ?_
                  exact j_J.wq (hk85 v1 v2 v3 v4 v47 (v2 - (1 : Int32)) (1 : Int32) M h) (And.intro rfl (And.intro rfl (And.intro rfl (And.intro rfl (trivial)))))
set_option maxHeartbeats 4000000 in
theorem K_X3_reckon (a0 : Nat) (a1 : Int32) (a2 : Int32) (M : m_M) (Φ : Option Value → m_M → Prop) (h : m_ok e_I Φ (F_X3_reckon a0 a1 a2 M)) : j_Ct yX3_reckon cX3_reckon 7 (some .int) 2 0 0 [.ref a0, .int a1, .int a2] M Φ := by
  refine j_Ct.of (by decide +kernel) (Nat.le_of_ble_eq_true rfl) fun X C => ?_
  have C0 := C.1
  show j_J X 7 0 [some (.ref a0), some (.int a1), some (.int a2), none, none, none, none] [] (0, 0) M
  unfold F_X3_reckon at h
  refine j_iconst C0 (pc := 0) dX3_reckon_0 (v := (0 : Int32)) (by decide) ?_
  refine j_istore_n C0 (pc := 1) dX3_reckon_1 (Nat.le_of_ble_eq_true rfl) ?_
  show j_J X 7 2 [some (.ref a0), some (.int a1), some (.int a2), some (.int (0 : Int32)), none, none, none] [] (0, 0) M
  refine j_aload_n C0 (pc := 2) dX3_reckon_2 rfl ?_
  refine X_gN C0 (pc := 3) f_Land_34_3 rfl dX3_reckon_3 h (fun v1 h => ?_)
  refine j_iload_n C0 (pc := 6) dX3_reckon_6 rfl ?_
  refine j_bipush C0 (pc := 7) dX3_reckon_7 (v := (8 : Int32)) (by decide) ?_
  refine j_imul C0 (pc := 9) dX3_reckon_9 ?_
  refine j_iload_n C0 (pc := 10) dX3_reckon_10 rfl ?_
  refine j_iadd C0 (pc := 11) dX3_reckon_11 ?_
  refine X_iald C0 (pc := 12) dX3_reckon_12 h (fun v2 h => ?_)
  refine j_aload_n C0 (pc := 13) dX3_reckon_13 rfl ?_
  refine X_gI C0 (pc := 14) f_Land_68_3 rfl dX3_reckon_14 h (fun v3 h => ?_)
  refine X_cS C0 (pc := 17) (e' := e_I) (as := [.int v2, .int v3]) (rest := []) (s' := fun w => .int w :: []) (g' := (0, 0)) s_Land_132 (fun Ψ hΨ => K_J9_min_7cf53 v2 v3 M Ψ hΨ) rfl rfl (fun _ => rfl) (by decide) (by decide) rfl (Nat.le_of_ble_eq_true rfl) dX3_reckon_17 h (fun v4 M1 h => ?_)
  refine j_istore C0 (pc := 20) dX3_reckon_20 (Nat.le_of_ble_eq_true rfl) ?_
  show j_J X 7 22 [some (.ref a0), some (.int a1), some (.int a2), some (.int (0 : Int32)), some (.int v4), none, none] [] (0, 0) M1
  refine j_aload_n C0 (pc := 22) dX3_reckon_22 rfl ?_
  refine X_gN C0 (pc := 23) f_Land_31_3 rfl dX3_reckon_23 h (fun v5 h => ?_)
  refine j_iload_n C0 (pc := 26) dX3_reckon_26 rfl ?_
  refine j_bipush C0 (pc := 27) dX3_reckon_27 (v := (8 : Int32)) (by decide) ?_
  refine j_imul C0 (pc := 29) dX3_reckon_29 ?_
  refine j_iload_n C0 (pc := 30) dX3_reckon_30 rfl ?_
  refine j_iadd C0 (pc := 31) dX3_reckon_31 ?_
  refine X_iald C0 (pc := 32) dX3_reckon_32 h (fun v6 h => ?_)
  refine j_istore C0 (pc := 33) dX3_reckon_33 (Nat.le_of_ble_eq_true rfl) ?_
  show j_J X 7 35 [some (.ref a0), some (.int a1), some (.int a2), some (.int (0 : Int32)), some (.int v4), some (.int v6), none] [] (0, 0) M1
  refine X_join (fun (kj : Nat → m_M → Option (Int32 × m_M)) => ∀ (p0 : Nat) (M : m_M), m_ok e_I Φ (kj p0 M) → j_J X 7 181 [some (.ref p0), none, none, none, none, none, none] [] (0, 0) M) h (fun v7 M2 h => ?_) (fun k181 hk181 h => ?_)
  · refine j_aload_n C0 (pc := 181) dX3_reckon_181 rfl ?_
    refine X_gN C0 (pc := 182) f_Land_49_3 rfl dX3_reckon_182 h (fun v8 h => ?_)
    refine j_iconst C0 (pc := 185) dX3_reckon_185 (v := (0 : Int32)) (by decide) ?_
    refine X_iald C0 (pc := 186) dX3_reckon_186 h (fun v9 h => ?_)
    exact j_iret C rfl h dX3_reckon_187 (by decide)
  · exact j_J.wq (L_X3_reckon_35 C hk181 m_FU a0 (0 : Int32) v4 v6 M1 h) (And.intro rfl (And.intro rfl (And.intro rfl (And.intro rfl (trivial)))))
theorem dX3_wayOf_0 : decode cX3_wayOf 0 = .ok (.iconst 0, 1) := by decide +kernel
theorem dX3_wayOf_1 : decode cX3_wayOf 1 = .ok (.istore_n 3, 1) := by decide +kernel
theorem dX3_wayOf_2 : decode cX3_wayOf 2 = .ok (.aload_n 0, 1) := by decide +kernel
theorem dX3_wayOf_3 : decode cX3_wayOf 3 = .ok (.getfield 46, 3) := by decide +kernel
theorem dX3_wayOf_6 : decode cX3_wayOf 6 = .ok (.iconst 1, 1) := by decide +kernel
theorem dX3_wayOf_7 : decode cX3_wayOf 7 = .ok (.aload_n 0, 1) := by decide +kernel
theorem dX3_wayOf_8 : decode cX3_wayOf 8 = .ok (.getfield 15, 3) := by decide +kernel
theorem dX3_wayOf_11 : decode cX3_wayOf 11 = .ok (.iload_n 2, 1) := by decide +kernel
theorem dX3_wayOf_12 : decode cX3_wayOf 12 = .ok (.iaload, 1) := by decide +kernel
theorem dX3_wayOf_13 : decode cX3_wayOf 13 = .ok (.iastore, 1) := by decide +kernel
theorem dX3_wayOf_14 : decode cX3_wayOf 14 = .ok (.iconst 0, 1) := by decide +kernel
theorem dX3_wayOf_15 : decode cX3_wayOf 15 = .ok (.istore 4, 2) := by decide +kernel
theorem dX3_wayOf_17 : decode cX3_wayOf 17 = .ok (.iload 4, 2) := by decide +kernel
theorem dX3_wayOf_19 : decode cX3_wayOf 19 = .ok (.aload_n 0, 1) := by decide +kernel
theorem dX3_wayOf_20 : decode cX3_wayOf 20 = .ok (.getfield 58, 3) := by decide +kernel
theorem dX3_wayOf_23 : decode cX3_wayOf 23 = .ok (.if_icmp .ge 42, 3) := by decide +kernel
theorem dX3_wayOf_26 : decode cX3_wayOf 26 = .ok (.aload_n 0, 1) := by decide +kernel
theorem dX3_wayOf_27 : decode cX3_wayOf 27 = .ok (.getfield 46, 3) := by decide +kernel
theorem dX3_wayOf_30 : decode cX3_wayOf 30 = .ok (.iconst 0, 1) := by decide +kernel
theorem dX3_wayOf_31 : decode cX3_wayOf 31 = .ok (.iload 4, 2) := by decide +kernel
theorem dX3_wayOf_33 : decode cX3_wayOf 33 = .ok (.iastore, 1) := by decide +kernel
theorem dX3_wayOf_34 : decode cX3_wayOf 34 = .ok (.iload_n 3, 1) := by decide +kernel
theorem dX3_wayOf_35 : decode cX3_wayOf 35 = .ok (.aload_n 0, 1) := by decide +kernel
theorem dX3_wayOf_36 : decode cX3_wayOf 36 = .ok (.iconst 1, 1) := by decide +kernel
theorem dX3_wayOf_37 : decode cX3_wayOf 37 = .ok (.iload_n 1, 1) := by decide +kernel
theorem dX3_wayOf_38 : decode cX3_wayOf 38 = .ok (.invokevirtual 121, 3) := by decide +kernel
theorem dX3_wayOf_41 : decode cX3_wayOf 41 = .ok (.aload_n 0, 1) := by decide +kernel
theorem dX3_wayOf_42 : decode cX3_wayOf 42 = .ok (.getfield 58, 3) := by decide +kernel
theorem dX3_wayOf_45 : decode cX3_wayOf 45 = .ok (.iconst 1, 1) := by decide +kernel
theorem dX3_wayOf_46 : decode cX3_wayOf 46 = .ok (.invokestatic 124, 3) := by decide +kernel
theorem dX3_wayOf_49 : decode cX3_wayOf 49 = .ok (.invokestatic 129, 3) := by decide +kernel
theorem dX3_wayOf_52 : decode cX3_wayOf 52 = .ok (.iconst 2, 1) := by decide +kernel
theorem dX3_wayOf_53 : decode cX3_wayOf 53 = .ok (.iload 4, 2) := by decide +kernel
theorem dX3_wayOf_55 : decode cX3_wayOf 55 = .ok (.imul, 1) := by decide +kernel
theorem dX3_wayOf_56 : decode cX3_wayOf 56 = .ok (.ishl, 1) := by decide +kernel
theorem dX3_wayOf_57 : decode cX3_wayOf 57 = .ok (.ior, 1) := by decide +kernel
theorem dX3_wayOf_58 : decode cX3_wayOf 58 = .ok (.istore_n 3, 1) := by decide +kernel
theorem dX3_wayOf_59 : decode cX3_wayOf 59 = .ok (.iinc 4 1, 3) := by decide +kernel
theorem dX3_wayOf_62 : decode cX3_wayOf 62 = .ok (.goto (-45), 3) := by decide +kernel
theorem dX3_wayOf_65 : decode cX3_wayOf 65 = .ok (.iload_n 3, 1) := by decide +kernel
theorem dX3_wayOf_66 : decode cX3_wayOf 66 = .ok (.ireturn, 1) := by decide +kernel
noncomputable def F_X3_wayOf_17 : Nat → Nat → Int32 → Int32 → Int32 → m_M → Option (Int32 × m_M)
  | 0, _, _, _, _, _ => none
  | n + 1, v1, v2, v3, v4, M =>
    x_gI 3 M v1 0 fun v5 =>
    if v5 ≤ v4 then (
      some (v3, M)
    ) else
    x_gN 3 M v1 17 fun v6 =>
    x_sI 12 M v6 (0 : Int32) v4 fun M1 =>
    x_cV 3 M1 v1 (F_X3_reckon v1 (1 : Int32) v2 M1) fun v7 M2 =>
    x_gI 3 M2 v1 0 fun v8 =>
    x_bd (F_J9_max_7cf53 v8 (1 : Int32) M2) fun v9 M3 =>
    x_bd (F_J9_floorMod_7cf53 v7 v9 M3) fun v10 M4 =>
    m_let (v3 ||| (v10 <<< (((2 : Int32) * v4) &&& 31))) fun v11 =>
    m_let (v4 + (1 : Int32)) fun v12 =>
    F_X3_wayOf_17 n v1 v2 v11 v12 M4
noncomputable def F_X3_wayOf (a0 : Nat) (a1 : Int32) (a2 : Int32) (M : m_M) : Option (Int32 × m_M) :=
  x_gN 3 M a0 17 fun v1 =>
  x_gN 3 M a0 7 fun v2 =>
  x_aI 12 M v2 a2 fun v3 =>
  x_sI 12 M v1 (1 : Int32) v3 fun M1 =>
  F_X3_wayOf_17 m_FU a0 a1 (0 : Int32) (0 : Int32) M1
set_option maxHeartbeats 4000000 in
theorem L_X3_wayOf_17 {X : j_X} {Φ : Option Value → m_M → Prop} (C : j_C X yX3_wayOf cX3_wayOf 5 (some .int) 3 0 0 Φ) : ∀ (n : Nat) (v1 : Nat) (v2 : Int32) (v3 : Int32) (v4 : Int32) (M : m_M), m_ok e_I Φ (F_X3_wayOf_17 n v1 v2 v3 v4 M) → j_J X 5 17 [some (.ref v1), some (.int v2), none, some (.int v3), some (.int v4)] [] (0, 0) M := by
  have C0 := C.1
  intro n
  induction n with
  | zero => intro v1 v2 v3 v4 M h; exact False.elim h
  | succ n ih =>
    intro v1 v2 v3 v4 M h
    rw [F_X3_wayOf_17] at h
    refine j_iload C0 (pc := 17) dX3_wayOf_17 rfl ?_
    refine j_aload_n C0 (pc := 19) dX3_wayOf_19 rfl ?_
    refine X_gI C0 (pc := 20) f_Land_58_3 rfl dX3_wayOf_20 h (fun v5 h => ?_)
    refine j_icmp_ge C0 (pc := 23) (tgt := 65) dX3_wayOf_23 (by decide) (fun hc => ?_) (fun hc => ?_)
    · replace h := (X_if h).1 hc
      refine j_iload_n C0 (pc := 65) dX3_wayOf_65 rfl ?_
      exact j_iret C rfl h dX3_wayOf_66 (by decide)
    · replace h := (X_if h).2 hc
      refine j_aload_n C0 (pc := 26) dX3_wayOf_26 rfl ?_
      refine X_gN C0 (pc := 27) f_Land_46_3 rfl dX3_wayOf_27 h (fun v6 h => ?_)
      refine j_iconst C0 (pc := 30) dX3_wayOf_30 (v := (0 : Int32)) (by decide) ?_
      refine j_iload C0 (pc := 31) dX3_wayOf_31 rfl ?_
      refine X_iast C0 (pc := 33) dX3_wayOf_33 h (fun M1 h => ?_)
      refine j_iload_n C0 (pc := 34) dX3_wayOf_34 rfl ?_
      refine j_aload_n C0 (pc := 35) dX3_wayOf_35 rfl ?_
      refine j_iconst C0 (pc := 36) dX3_wayOf_36 (v := (1 : Int32)) (by decide) ?_
      refine j_iload_n C0 (pc := 37) dX3_wayOf_37 rfl ?_
      refine X_cV C0 (pc := 38) (e' := e_I) (as := [.int (1 : Int32), .int v2]) (rest := [.int v3]) (s' := fun w => .int w :: [.int v3]) (g' := (0, 0)) v_Land_121_3 (fun Ψ hΨ => K_X3_reckon v1 (1 : Int32) v2 M1 Ψ hΨ) rfl rfl (fun _ => rfl) (by decide) (by decide) rfl (Nat.le_of_ble_eq_true rfl) dX3_wayOf_38 h (fun v7 M2 h => ?_)
      refine j_aload_n C0 (pc := 41) dX3_wayOf_41 rfl ?_
      refine X_gI C0 (pc := 42) f_Land_58_3 rfl dX3_wayOf_42 h (fun v8 h => ?_)
      refine j_iconst C0 (pc := 45) dX3_wayOf_45 (v := (1 : Int32)) (by decide) ?_
      refine X_cS C0 (pc := 46) (e' := e_I) (as := [.int v8, .int (1 : Int32)]) (rest := [.int v7, .int v3]) (s' := fun w => .int w :: [.int v7, .int v3]) (g' := (0, 0)) s_Land_124 (fun Ψ hΨ => K_J9_max_7cf53 v8 (1 : Int32) M2 Ψ hΨ) rfl rfl (fun _ => rfl) (by decide) (by decide) rfl (Nat.le_of_ble_eq_true rfl) dX3_wayOf_46 h (fun v9 M3 h => ?_)
      refine X_cS C0 (pc := 49) (e' := e_I) (as := [.int v7, .int v9]) (rest := [.int v3]) (s' := fun w => .int w :: [.int v3]) (g' := (0, 0)) s_Land_129 (fun Ψ hΨ => K_J9_floorMod_7cf53 v7 v9 M3 Ψ hΨ) rfl rfl (fun _ => rfl) (by decide) (by decide) rfl (Nat.le_of_ble_eq_true rfl) dX3_wayOf_49 h (fun v10 M4 h => ?_)
      refine j_iconst C0 (pc := 52) dX3_wayOf_52 (v := (2 : Int32)) (by decide) ?_
      refine j_iload C0 (pc := 53) dX3_wayOf_53 rfl ?_
      refine j_imul C0 (pc := 55) dX3_wayOf_55 ?_
      refine j_ishl C0 (pc := 56) dX3_wayOf_56 ?_
      refine j_ior C0 (pc := 57) dX3_wayOf_57 ?_
      refine X_let (G := fun w => j_J X 5 58 [some (.ref v1), some (.int v2), none, some (.int v3), some (.int v4)] (.int w :: []) (0, 0) M4) h (fun v11 h => ?_)
      refine j_istore_n C0 (pc := 58) dX3_wayOf_58 (Nat.le_of_ble_eq_true rfl) ?_
      show j_J X 5 59 [some (.ref v1), some (.int v2), none, some (.int v11), some (.int v4)] [] (0, 0) M4
      refine j_iinc C0 (pc := 59) dX3_wayOf_59 (v := v4 + (1 : Int32)) rfl (Nat.le_of_ble_eq_true rfl) (by rfl) ?_
      refine X_let (G := fun w => j_J X 5 62 [some (.ref v1), some (.int v2), none, some (.int v11), some (.int w)] [] (0, 0) M4) h (fun v12 h => ?_)
      refine j_goto C0 (pc := 62) (tgt := 17) dX3_wayOf_62 (by decide) ?_
      exact j_J.wq (ih v1 v2 v11 v12 M4 h) (And.intro rfl (And.intro rfl (And.intro rfl (And.intro rfl (trivial)))))
set_option maxHeartbeats 4000000 in
theorem K_X3_wayOf (a0 : Nat) (a1 : Int32) (a2 : Int32) (M : m_M) (Φ : Option Value → m_M → Prop) (h : m_ok e_I Φ (F_X3_wayOf a0 a1 a2 M)) : j_Ct yX3_wayOf cX3_wayOf 5 (some .int) 3 0 0 [.ref a0, .int a1, .int a2] M Φ := by
  refine j_Ct.of (by decide +kernel) (Nat.le_of_ble_eq_true rfl) fun X C => ?_
  have C0 := C.1
  show j_J X 5 0 [some (.ref a0), some (.int a1), some (.int a2), none, none] [] (0, 0) M
  unfold F_X3_wayOf at h
  refine j_iconst C0 (pc := 0) dX3_wayOf_0 (v := (0 : Int32)) (by decide) ?_
  refine j_istore_n C0 (pc := 1) dX3_wayOf_1 (Nat.le_of_ble_eq_true rfl) ?_
  show j_J X 5 2 [some (.ref a0), some (.int a1), some (.int a2), some (.int (0 : Int32)), none] [] (0, 0) M
  refine j_aload_n C0 (pc := 2) dX3_wayOf_2 rfl ?_
  refine X_gN C0 (pc := 3) f_Land_46_3 rfl dX3_wayOf_3 h (fun v1 h => ?_)
  refine j_iconst C0 (pc := 6) dX3_wayOf_6 (v := (1 : Int32)) (by decide) ?_
  refine j_aload_n C0 (pc := 7) dX3_wayOf_7 rfl ?_
  refine X_gN C0 (pc := 8) f_Land_15_3 rfl dX3_wayOf_8 h (fun v2 h => ?_)
  refine j_iload_n C0 (pc := 11) dX3_wayOf_11 rfl ?_
  refine X_iald C0 (pc := 12) dX3_wayOf_12 h (fun v3 h => ?_)
  refine X_iast C0 (pc := 13) dX3_wayOf_13 h (fun M1 h => ?_)
  refine j_iconst C0 (pc := 14) dX3_wayOf_14 (v := (0 : Int32)) (by decide) ?_
  refine j_istore C0 (pc := 15) dX3_wayOf_15 (Nat.le_of_ble_eq_true rfl) ?_
  show j_J X 5 17 [some (.ref a0), some (.int a1), some (.int a2), some (.int (0 : Int32)), some (.int (0 : Int32))] [] (0, 0) M1
  exact j_J.wq (L_X3_wayOf_17 C m_FU a0 a1 (0 : Int32) (0 : Int32) M1 h) (And.intro rfl (And.intro rfl (And.intro rfl (And.intro rfl (trivial)))))
theorem dX3_lawOf_0 : decode cX3_lawOf 0 = .ok (.iconst 0, 1) := by decide +kernel
theorem dX3_lawOf_1 : decode cX3_lawOf 1 = .ok (.istore 4, 2) := by decide +kernel
theorem dX3_lawOf_3 : decode cX3_lawOf 3 = .ok (.aload_n 0, 1) := by decide +kernel
theorem dX3_lawOf_4 : decode cX3_lawOf 4 = .ok (.getfield 46, 3) := by decide +kernel
theorem dX3_lawOf_7 : decode cX3_lawOf 7 = .ok (.iconst 2, 1) := by decide +kernel
theorem dX3_lawOf_8 : decode cX3_lawOf 8 = .ok (.aload_n 0, 1) := by decide +kernel
theorem dX3_lawOf_9 : decode cX3_lawOf 9 = .ok (.getfield 15, 3) := by decide +kernel
theorem dX3_lawOf_12 : decode cX3_lawOf 12 = .ok (.iload_n 2, 1) := by decide +kernel
theorem dX3_lawOf_13 : decode cX3_lawOf 13 = .ok (.iaload, 1) := by decide +kernel
theorem dX3_lawOf_14 : decode cX3_lawOf 14 = .ok (.iastore, 1) := by decide +kernel
theorem dX3_lawOf_15 : decode cX3_lawOf 15 = .ok (.aload_n 0, 1) := by decide +kernel
theorem dX3_lawOf_16 : decode cX3_lawOf 16 = .ok (.getfield 46, 3) := by decide +kernel
theorem dX3_lawOf_19 : decode cX3_lawOf 19 = .ok (.iconst 3, 1) := by decide +kernel
theorem dX3_lawOf_20 : decode cX3_lawOf 20 = .ok (.aload_n 0, 1) := by decide +kernel
theorem dX3_lawOf_21 : decode cX3_lawOf 21 = .ok (.getfield 15, 3) := by decide +kernel
theorem dX3_lawOf_24 : decode cX3_lawOf 24 = .ok (.iload_n 3, 1) := by decide +kernel
theorem dX3_lawOf_25 : decode cX3_lawOf 25 = .ok (.iaload, 1) := by decide +kernel
theorem dX3_lawOf_26 : decode cX3_lawOf 26 = .ok (.iastore, 1) := by decide +kernel
theorem dX3_lawOf_27 : decode cX3_lawOf 27 = .ok (.aload_n 0, 1) := by decide +kernel
theorem dX3_lawOf_28 : decode cX3_lawOf 28 = .ok (.getfield 46, 3) := by decide +kernel
theorem dX3_lawOf_31 : decode cX3_lawOf 31 = .ok (.iconst 4, 1) := by decide +kernel
theorem dX3_lawOf_32 : decode cX3_lawOf 32 = .ok (.iload_n 2, 1) := by decide +kernel
theorem dX3_lawOf_33 : decode cX3_lawOf 33 = .ok (.iload_n 3, 1) := by decide +kernel
theorem dX3_lawOf_34 : decode cX3_lawOf 34 = .ok (.if_icmp .ne 7, 3) := by decide +kernel
theorem dX3_lawOf_37 : decode cX3_lawOf 37 = .ok (.iconst 1, 1) := by decide +kernel
theorem dX3_lawOf_38 : decode cX3_lawOf 38 = .ok (.goto 4, 3) := by decide +kernel
theorem dX3_lawOf_41 : decode cX3_lawOf 41 = .ok (.iconst 0, 1) := by decide +kernel
theorem dX3_lawOf_42 : decode cX3_lawOf 42 = .ok (.iastore, 1) := by decide +kernel
theorem dX3_lawOf_43 : decode cX3_lawOf 43 = .ok (.iconst 0, 1) := by decide +kernel
theorem dX3_lawOf_44 : decode cX3_lawOf 44 = .ok (.istore 5, 2) := by decide +kernel
theorem dX3_lawOf_46 : decode cX3_lawOf 46 = .ok (.iload 5, 2) := by decide +kernel
theorem dX3_lawOf_48 : decode cX3_lawOf 48 = .ok (.aload_n 0, 1) := by decide +kernel
theorem dX3_lawOf_49 : decode cX3_lawOf 49 = .ok (.getfield 58, 3) := by decide +kernel
theorem dX3_lawOf_52 : decode cX3_lawOf 52 = .ok (.if_icmp .ge 66, 3) := by decide +kernel
theorem dX3_lawOf_55 : decode cX3_lawOf 55 = .ok (.iconst 0, 1) := by decide +kernel
theorem dX3_lawOf_56 : decode cX3_lawOf 56 = .ok (.istore 6, 2) := by decide +kernel
theorem dX3_lawOf_58 : decode cX3_lawOf 58 = .ok (.iload 6, 2) := by decide +kernel
theorem dX3_lawOf_60 : decode cX3_lawOf 60 = .ok (.aload_n 0, 1) := by decide +kernel
theorem dX3_lawOf_61 : decode cX3_lawOf 61 = .ok (.getfield 58, 3) := by decide +kernel
theorem dX3_lawOf_64 : decode cX3_lawOf 64 = .ok (.if_icmp .ge 48, 3) := by decide +kernel
theorem dX3_lawOf_67 : decode cX3_lawOf 67 = .ok (.aload_n 0, 1) := by decide +kernel
theorem dX3_lawOf_68 : decode cX3_lawOf 68 = .ok (.getfield 46, 3) := by decide +kernel
theorem dX3_lawOf_71 : decode cX3_lawOf 71 = .ok (.iconst 0, 1) := by decide +kernel
theorem dX3_lawOf_72 : decode cX3_lawOf 72 = .ok (.iload 5, 2) := by decide +kernel
theorem dX3_lawOf_74 : decode cX3_lawOf 74 = .ok (.iastore, 1) := by decide +kernel
theorem dX3_lawOf_75 : decode cX3_lawOf 75 = .ok (.aload_n 0, 1) := by decide +kernel
theorem dX3_lawOf_76 : decode cX3_lawOf 76 = .ok (.getfield 46, 3) := by decide +kernel
theorem dX3_lawOf_79 : decode cX3_lawOf 79 = .ok (.iconst 1, 1) := by decide +kernel
theorem dX3_lawOf_80 : decode cX3_lawOf 80 = .ok (.iload 6, 2) := by decide +kernel
theorem dX3_lawOf_82 : decode cX3_lawOf 82 = .ok (.iastore, 1) := by decide +kernel
theorem dX3_lawOf_83 : decode cX3_lawOf 83 = .ok (.aload_n 0, 1) := by decide +kernel
theorem dX3_lawOf_84 : decode cX3_lawOf 84 = .ok (.iconst 2, 1) := by decide +kernel
theorem dX3_lawOf_85 : decode cX3_lawOf 85 = .ok (.iload_n 1, 1) := by decide +kernel
theorem dX3_lawOf_86 : decode cX3_lawOf 86 = .ok (.invokevirtual 121, 3) := by decide +kernel
theorem dX3_lawOf_89 : decode cX3_lawOf 89 = .ok (.ifCond .eq 17, 3) := by decide +kernel
theorem dX3_lawOf_92 : decode cX3_lawOf 92 = .ok (.iload 4, 2) := by decide +kernel
theorem dX3_lawOf_94 : decode cX3_lawOf 94 = .ok (.iconst 1, 1) := by decide +kernel
theorem dX3_lawOf_95 : decode cX3_lawOf 95 = .ok (.iload 5, 2) := by decide +kernel
theorem dX3_lawOf_97 : decode cX3_lawOf 97 = .ok (.iconst 4, 1) := by decide +kernel
theorem dX3_lawOf_98 : decode cX3_lawOf 98 = .ok (.imul, 1) := by decide +kernel
theorem dX3_lawOf_99 : decode cX3_lawOf 99 = .ok (.iload 6, 2) := by decide +kernel
theorem dX3_lawOf_101 : decode cX3_lawOf 101 = .ok (.iadd, 1) := by decide +kernel
theorem dX3_lawOf_102 : decode cX3_lawOf 102 = .ok (.ishl, 1) := by decide +kernel
theorem dX3_lawOf_103 : decode cX3_lawOf 103 = .ok (.ior, 1) := by decide +kernel
theorem dX3_lawOf_104 : decode cX3_lawOf 104 = .ok (.istore 4, 2) := by decide +kernel
theorem dX3_lawOf_106 : decode cX3_lawOf 106 = .ok (.iinc 6 1, 3) := by decide +kernel
theorem dX3_lawOf_109 : decode cX3_lawOf 109 = .ok (.goto (-51), 3) := by decide +kernel
theorem dX3_lawOf_112 : decode cX3_lawOf 112 = .ok (.iinc 5 1, 3) := by decide +kernel
theorem dX3_lawOf_115 : decode cX3_lawOf 115 = .ok (.goto (-69), 3) := by decide +kernel
theorem dX3_lawOf_118 : decode cX3_lawOf 118 = .ok (.iload 4, 2) := by decide +kernel
theorem dX3_lawOf_120 : decode cX3_lawOf 120 = .ok (.ireturn, 1) := by decide +kernel
noncomputable def F_X3_lawOf_58 (k112 : Nat → Int32 → Int32 → Int32 → m_M → Option (Int32 × m_M)) : Nat → Nat → Int32 → Int32 → Int32 → Int32 → m_M → Option (Int32 × m_M)
  | 0, _, _, _, _, _, _ => none
  | n + 1, v1, v2, v3, v4, v5, M =>
    x_gI 3 M v1 0 fun v6 =>
    if v6 ≤ v5 then (
      k112 v1 v2 v3 v4 M
    ) else
    m_let (fun (v7 : Nat) (v8 : Int32) (v9 : Int32) (v10 : Int32) (v11 : Int32) (M1 : m_M) =>
      m_let (v11 + (1 : Int32)) fun v12 =>
      F_X3_lawOf_58 k112 n v7 v8 v9 v10 v12 M1
    ) fun (k106 : Nat → Int32 → Int32 → Int32 → Int32 → m_M → Option (Int32 × m_M)) =>
    x_gN 3 M v1 17 fun v13 =>
    x_sI 12 M v13 (0 : Int32) v4 fun M2 =>
    x_gN 3 M2 v1 17 fun v14 =>
    x_sI 12 M2 v14 (1 : Int32) v5 fun M3 =>
    x_cV 3 M3 v1 (F_X3_reckon v1 (2 : Int32) v2 M3) fun v15 M4 =>
    if v15 = 0 then (
      k106 v1 v2 v3 v4 v5 M4
    ) else
    m_let (v3 ||| ((1 : Int32) <<< (((v4 * (4 : Int32)) + v5) &&& 31))) fun v16 =>
    k106 v1 v2 v16 v4 v5 M4
noncomputable def F_X3_lawOf_46 : Nat → Nat → Int32 → Int32 → Int32 → m_M → Option (Int32 × m_M)
  | 0, _, _, _, _, _ => none
  | n + 1, v1, v2, v3, v4, M =>
    x_gI 3 M v1 0 fun v5 =>
    if v5 ≤ v4 then (
      some (v3, M)
    ) else
    m_let (fun (v6 : Nat) (v7 : Int32) (v8 : Int32) (v9 : Int32) (M1 : m_M) =>
      m_let (v9 + (1 : Int32)) fun v10 =>
      F_X3_lawOf_46 n v6 v7 v8 v10 M1
    ) fun (k112 : Nat → Int32 → Int32 → Int32 → m_M → Option (Int32 × m_M)) =>
    F_X3_lawOf_58 k112 m_FU v1 v2 v3 v4 (0 : Int32) M
noncomputable def F_X3_lawOf (a0 : Nat) (a1 : Int32) (a2 : Int32) (a3 : Int32) (M : m_M) : Option (Int32 × m_M) :=
  m_let (fun (v1 : Nat) (v2 : Int32) (v3 : Int32) (v4 : Nat) (v5 : Int32) (v6 : Int32) (M1 : m_M) =>
    x_sI 12 M1 v4 v5 v6 fun M2 =>
    F_X3_lawOf_46 m_FU v1 v2 v3 (0 : Int32) M2
  ) fun (k42 : Nat → Int32 → Int32 → Nat → Int32 → Int32 → m_M → Option (Int32 × m_M)) =>
  x_gN 3 M a0 17 fun v7 =>
  x_gN 3 M a0 7 fun v8 =>
  x_aI 12 M v8 a2 fun v9 =>
  x_sI 12 M v7 (2 : Int32) v9 fun M3 =>
  x_gN 3 M3 a0 17 fun v10 =>
  x_gN 3 M3 a0 7 fun v11 =>
  x_aI 12 M3 v11 a3 fun v12 =>
  x_sI 12 M3 v10 (3 : Int32) v12 fun M4 =>
  x_gN 3 M4 a0 17 fun v13 =>
  if a2 = a3 then (
    k42 a0 a1 (0 : Int32) v13 (4 : Int32) (1 : Int32) M4
  ) else
  k42 a0 a1 (0 : Int32) v13 (4 : Int32) (0 : Int32) M4
set_option maxHeartbeats 4000000 in
theorem L_X3_lawOf_58 {X : j_X} {Φ : Option Value → m_M → Prop} (C : j_C X yX3_lawOf cX3_lawOf 7 (some .int) 3 0 0 Φ) {k112 : Nat → Int32 → Int32 → Int32 → m_M → Option (Int32 × m_M)} (hk112 : ∀ (p0 : Nat) (p1 : Int32) (p2 : Int32) (p3 : Int32) (M : m_M), m_ok e_I Φ (k112 p0 p1 p2 p3 M) → j_J X 7 112 [some (.ref p0), some (.int p1), none, none, some (.int p2), some (.int p3), none] [] (0, 0) M) : ∀ (n : Nat) (v1 : Nat) (v2 : Int32) (v3 : Int32) (v4 : Int32) (v5 : Int32) (M : m_M), m_ok e_I Φ (F_X3_lawOf_58 k112 n v1 v2 v3 v4 v5 M) → j_J X 7 58 [some (.ref v1), some (.int v2), none, none, some (.int v3), some (.int v4), some (.int v5)] [] (0, 0) M := by
  have C0 := C.1
  intro n
  induction n with
  | zero => intro v1 v2 v3 v4 v5 M h; exact False.elim h
  | succ n ih =>
    intro v1 v2 v3 v4 v5 M h
    rw [F_X3_lawOf_58] at h
    refine j_iload C0 (pc := 58) dX3_lawOf_58 rfl ?_
    refine j_aload_n C0 (pc := 60) dX3_lawOf_60 rfl ?_
    refine X_gI C0 (pc := 61) f_Land_58_3 rfl dX3_lawOf_61 h (fun v6 h => ?_)
    refine j_icmp_ge C0 (pc := 64) (tgt := 112) dX3_lawOf_64 (by decide) (fun hc => ?_) (fun hc => ?_)
    · replace h := (X_if h).1 hc
      exact j_J.wq (hk112 v1 v2 v3 v4 M h) (And.intro rfl (And.intro rfl (And.intro rfl (And.intro rfl (trivial)))))
    · replace h := (X_if h).2 hc
      refine X_join (fun (kj : Nat → Int32 → Int32 → Int32 → Int32 → m_M → Option (Int32 × m_M)) => ∀ (p0 : Nat) (p1 : Int32) (p2 : Int32) (p3 : Int32) (p4 : Int32) (M : m_M), m_ok e_I Φ (kj p0 p1 p2 p3 p4 M) → j_J X 7 106 [some (.ref p0), some (.int p1), none, none, some (.int p2), some (.int p3), some (.int p4)] [] (0, 0) M) h (fun v7 v8 v9 v10 v11 M1 h => ?_) (fun k106 hk106 h => ?_)
      · refine j_iinc C0 (pc := 106) dX3_lawOf_106 (v := v11 + (1 : Int32)) rfl (Nat.le_of_ble_eq_true rfl) (by rfl) ?_
        refine X_let (G := fun w => j_J X 7 109 [some (.ref v7), some (.int v8), none, none, some (.int v9), some (.int v10), some (.int w)] [] (0, 0) M1) h (fun v12 h => ?_)
        refine j_goto C0 (pc := 109) (tgt := 58) dX3_lawOf_109 (by decide) ?_
        exact j_J.wq (ih v7 v8 v9 v10 v12 M1 h) (And.intro rfl (And.intro rfl (And.intro rfl (And.intro rfl (And.intro rfl (trivial))))))
      · refine j_aload_n C0 (pc := 67) dX3_lawOf_67 rfl ?_
        refine X_gN C0 (pc := 68) f_Land_46_3 rfl dX3_lawOf_68 h (fun v13 h => ?_)
        refine j_iconst C0 (pc := 71) dX3_lawOf_71 (v := (0 : Int32)) (by decide) ?_
        refine j_iload C0 (pc := 72) dX3_lawOf_72 rfl ?_
        refine X_iast C0 (pc := 74) dX3_lawOf_74 h (fun M2 h => ?_)
        refine j_aload_n C0 (pc := 75) dX3_lawOf_75 rfl ?_
        refine X_gN C0 (pc := 76) f_Land_46_3 rfl dX3_lawOf_76 h (fun v14 h => ?_)
        refine j_iconst C0 (pc := 79) dX3_lawOf_79 (v := (1 : Int32)) (by decide) ?_
        refine j_iload C0 (pc := 80) dX3_lawOf_80 rfl ?_
        refine X_iast C0 (pc := 82) dX3_lawOf_82 h (fun M3 h => ?_)
        refine j_aload_n C0 (pc := 83) dX3_lawOf_83 rfl ?_
        refine j_iconst C0 (pc := 84) dX3_lawOf_84 (v := (2 : Int32)) (by decide) ?_
        refine j_iload_n C0 (pc := 85) dX3_lawOf_85 rfl ?_
        refine X_cV C0 (pc := 86) (e' := e_I) (as := [.int (2 : Int32), .int v2]) (rest := []) (s' := fun w => .int w :: []) (g' := (0, 0)) v_Land_121_3 (fun Ψ hΨ => K_X3_reckon v1 (2 : Int32) v2 M3 Ψ hΨ) rfl rfl (fun _ => rfl) (by decide) (by decide) rfl (Nat.le_of_ble_eq_true rfl) dX3_lawOf_86 h (fun v15 M4 h => ?_)
        refine j_if_eq C0 (pc := 89) (tgt := 106) dX3_lawOf_89 (by decide) (fun hc => ?_) (fun hc => ?_)
        · replace h := (X_if h).1 hc
          exact j_J.wq (hk106 v1 v2 v3 v4 v5 M4 h) (And.intro rfl (And.intro rfl (And.intro rfl (And.intro rfl (And.intro rfl (trivial))))))
        · replace h := (X_if h).2 hc
          refine j_iload C0 (pc := 92) dX3_lawOf_92 rfl ?_
          refine j_iconst C0 (pc := 94) dX3_lawOf_94 (v := (1 : Int32)) (by decide) ?_
          refine j_iload C0 (pc := 95) dX3_lawOf_95 rfl ?_
          refine j_iconst C0 (pc := 97) dX3_lawOf_97 (v := (4 : Int32)) (by decide) ?_
          refine j_imul C0 (pc := 98) dX3_lawOf_98 ?_
          refine j_iload C0 (pc := 99) dX3_lawOf_99 rfl ?_
          refine j_iadd C0 (pc := 101) dX3_lawOf_101 ?_
          refine j_ishl C0 (pc := 102) dX3_lawOf_102 ?_
          refine j_ior C0 (pc := 103) dX3_lawOf_103 ?_
          refine X_let (G := fun w => j_J X 7 104 [some (.ref v1), some (.int v2), none, none, some (.int v3), some (.int v4), some (.int v5)] (.int w :: []) (0, 0) M4) h (fun v16 h => ?_)
          refine j_istore C0 (pc := 104) dX3_lawOf_104 (Nat.le_of_ble_eq_true rfl) ?_
          show j_J X 7 106 [some (.ref v1), some (.int v2), none, none, some (.int v16), some (.int v4), some (.int v5)] [] (0, 0) M4
          exact j_J.wq (hk106 v1 v2 v16 v4 v5 M4 h) (And.intro rfl (And.intro rfl (And.intro rfl (And.intro rfl (And.intro rfl (trivial))))))
set_option maxHeartbeats 4000000 in
theorem L_X3_lawOf_46 {X : j_X} {Φ : Option Value → m_M → Prop} (C : j_C X yX3_lawOf cX3_lawOf 7 (some .int) 3 0 0 Φ) : ∀ (n : Nat) (v1 : Nat) (v2 : Int32) (v3 : Int32) (v4 : Int32) (M : m_M), m_ok e_I Φ (F_X3_lawOf_46 n v1 v2 v3 v4 M) → j_J X 7 46 [some (.ref v1), some (.int v2), none, none, some (.int v3), some (.int v4), none] [] (0, 0) M := by
  have C0 := C.1
  intro n
  induction n with
  | zero => intro v1 v2 v3 v4 M h; exact False.elim h
  | succ n ih =>
    intro v1 v2 v3 v4 M h
    rw [F_X3_lawOf_46] at h
    refine j_iload C0 (pc := 46) dX3_lawOf_46 rfl ?_
    refine j_aload_n C0 (pc := 48) dX3_lawOf_48 rfl ?_
    refine X_gI C0 (pc := 49) f_Land_58_3 rfl dX3_lawOf_49 h (fun v5 h => ?_)
    refine j_icmp_ge C0 (pc := 52) (tgt := 118) dX3_lawOf_52 (by decide) (fun hc => ?_) (fun hc => ?_)
    · replace h := (X_if h).1 hc
      refine j_iload C0 (pc := 118) dX3_lawOf_118 rfl ?_
      exact j_iret C rfl h dX3_lawOf_120 (by decide)
    · replace h := (X_if h).2 hc
      refine j_iconst C0 (pc := 55) dX3_lawOf_55 (v := (0 : Int32)) (by decide) ?_
      refine j_istore C0 (pc := 56) dX3_lawOf_56 (Nat.le_of_ble_eq_true rfl) ?_
      show j_J X 7 58 [some (.ref v1), some (.int v2), none, none, some (.int v3), some (.int v4), some (.int (0 : Int32))] [] (0, 0) M
      refine X_join (fun (kj : Nat → Int32 → Int32 → Int32 → m_M → Option (Int32 × m_M)) => ∀ (p0 : Nat) (p1 : Int32) (p2 : Int32) (p3 : Int32) (M : m_M), m_ok e_I Φ (kj p0 p1 p2 p3 M) → j_J X 7 112 [some (.ref p0), some (.int p1), none, none, some (.int p2), some (.int p3), none] [] (0, 0) M) h (fun v6 v7 v8 v9 M1 h => ?_) (fun k112 hk112 h => ?_)
      · refine j_iinc C0 (pc := 112) dX3_lawOf_112 (v := v9 + (1 : Int32)) rfl (Nat.le_of_ble_eq_true rfl) (by rfl) ?_
        refine X_let (G := fun w => j_J X 7 115 [some (.ref v6), some (.int v7), none, none, some (.int v8), some (.int w), none] [] (0, 0) M1) h (fun v10 h => ?_)
        refine j_goto C0 (pc := 115) (tgt := 46) dX3_lawOf_115 (by decide) ?_
        exact j_J.wq (ih v6 v7 v8 v10 M1 h) (And.intro rfl (And.intro rfl (And.intro rfl (And.intro rfl (trivial)))))
      · exact j_J.wq (L_X3_lawOf_58 C hk112 m_FU v1 v2 v3 v4 (0 : Int32) M h) (And.intro rfl (And.intro rfl (And.intro rfl (And.intro rfl (And.intro rfl (trivial))))))
set_option maxHeartbeats 4000000 in
theorem K_X3_lawOf (a0 : Nat) (a1 : Int32) (a2 : Int32) (a3 : Int32) (M : m_M) (Φ : Option Value → m_M → Prop) (h : m_ok e_I Φ (F_X3_lawOf a0 a1 a2 a3 M)) : j_Ct yX3_lawOf cX3_lawOf 7 (some .int) 3 0 0 [.ref a0, .int a1, .int a2, .int a3] M Φ := by
  refine j_Ct.of (by decide +kernel) (Nat.le_of_ble_eq_true rfl) fun X C => ?_
  have C0 := C.1
  show j_J X 7 0 [some (.ref a0), some (.int a1), some (.int a2), some (.int a3), none, none, none] [] (0, 0) M
  unfold F_X3_lawOf at h
  refine X_join (fun (kj : Nat → Int32 → Int32 → Nat → Int32 → Int32 → m_M → Option (Int32 × m_M)) => ∀ (p0 : Nat) (p1 : Int32) (p2 : Int32) (p3 : Nat) (p4 : Int32) (p5 : Int32) (M : m_M), m_ok e_I Φ (kj p0 p1 p2 p3 p4 p5 M) → j_J X 7 42 [some (.ref p0), some (.int p1), none, none, some (.int p2), none, none] [.int p5, .int p4, .ref p3] (0, 0) M) h (fun v1 v2 v3 v4 v5 v6 M1 h => ?_) (fun k42 hk42 h => ?_)
  · refine X_iast C0 (pc := 42) dX3_lawOf_42 h (fun M2 h => ?_)
    refine j_iconst C0 (pc := 43) dX3_lawOf_43 (v := (0 : Int32)) (by decide) ?_
    refine j_istore C0 (pc := 44) dX3_lawOf_44 (Nat.le_of_ble_eq_true rfl) ?_
    show j_J X 7 46 [some (.ref v1), some (.int v2), none, none, some (.int v3), some (.int (0 : Int32)), none] [] (0, 0) M2
    exact j_J.wq (L_X3_lawOf_46 C m_FU v1 v2 v3 (0 : Int32) M2 h) (And.intro rfl (And.intro rfl (And.intro rfl (And.intro rfl (trivial)))))
  · refine j_iconst C0 (pc := 0) dX3_lawOf_0 (v := (0 : Int32)) (by decide) ?_
    refine j_istore C0 (pc := 1) dX3_lawOf_1 (Nat.le_of_ble_eq_true rfl) ?_
    show j_J X 7 3 [some (.ref a0), some (.int a1), some (.int a2), some (.int a3), some (.int (0 : Int32)), none, none] [] (0, 0) M
    refine j_aload_n C0 (pc := 3) dX3_lawOf_3 rfl ?_
    refine X_gN C0 (pc := 4) f_Land_46_3 rfl dX3_lawOf_4 h (fun v7 h => ?_)
    refine j_iconst C0 (pc := 7) dX3_lawOf_7 (v := (2 : Int32)) (by decide) ?_
    refine j_aload_n C0 (pc := 8) dX3_lawOf_8 rfl ?_
    refine X_gN C0 (pc := 9) f_Land_15_3 rfl dX3_lawOf_9 h (fun v8 h => ?_)
    refine j_iload_n C0 (pc := 12) dX3_lawOf_12 rfl ?_
    refine X_iald C0 (pc := 13) dX3_lawOf_13 h (fun v9 h => ?_)
    refine X_iast C0 (pc := 14) dX3_lawOf_14 h (fun M3 h => ?_)
    refine j_aload_n C0 (pc := 15) dX3_lawOf_15 rfl ?_
    refine X_gN C0 (pc := 16) f_Land_46_3 rfl dX3_lawOf_16 h (fun v10 h => ?_)
    refine j_iconst C0 (pc := 19) dX3_lawOf_19 (v := (3 : Int32)) (by decide) ?_
    refine j_aload_n C0 (pc := 20) dX3_lawOf_20 rfl ?_
    refine X_gN C0 (pc := 21) f_Land_15_3 rfl dX3_lawOf_21 h (fun v11 h => ?_)
    refine j_iload_n C0 (pc := 24) dX3_lawOf_24 rfl ?_
    refine X_iald C0 (pc := 25) dX3_lawOf_25 h (fun v12 h => ?_)
    refine X_iast C0 (pc := 26) dX3_lawOf_26 h (fun M4 h => ?_)
    refine j_aload_n C0 (pc := 27) dX3_lawOf_27 rfl ?_
    refine X_gN C0 (pc := 28) f_Land_46_3 rfl dX3_lawOf_28 h (fun v13 h => ?_)
    refine j_iconst C0 (pc := 31) dX3_lawOf_31 (v := (4 : Int32)) (by decide) ?_
    refine j_iload_n C0 (pc := 32) dX3_lawOf_32 rfl ?_
    refine j_iload_n C0 (pc := 33) dX3_lawOf_33 rfl ?_
    refine j_icmp_ne C0 (pc := 34) (tgt := 41) dX3_lawOf_34 (by decide) (fun hc => ?_) (fun hc => ?_)
    · replace h := (X_if h).2 hc
      refine j_iconst C0 (pc := 41) dX3_lawOf_41 (v := (0 : Int32)) (by decide) ?_
      exact j_J.wq (hk42 a0 a1 (0 : Int32) v13 (4 : Int32) (0 : Int32) M4 h) (And.intro rfl (And.intro rfl (And.intro rfl (trivial))))
    · replace h := (X_if h).1 hc
      refine j_iconst C0 (pc := 37) dX3_lawOf_37 (v := (1 : Int32)) (by decide) ?_
      refine j_goto C0 (pc := 38) (tgt := 42) dX3_lawOf_38 (by decide) ?_
      exact j_J.wq (hk42 a0 a1 (0 : Int32) v13 (4 : Int32) (1 : Int32) M4 h) (And.intro rfl (And.intro rfl (And.intro rfl (trivial))))
theorem dX3_settleLaws_0 : decode cX3_settleLaws 0 = .ok (.iconst 0, 1) := by decide +kernel
theorem dX3_settleLaws_1 : decode cX3_settleLaws 1 = .ok (.istore_n 2, 1) := by decide +kernel
theorem dX3_settleLaws_2 : decode cX3_settleLaws 2 = .ok (.iload_n 2, 1) := by decide +kernel
theorem dX3_settleLaws_3 : decode cX3_settleLaws 3 = .ok (.aload_n 0, 1) := by decide +kernel
theorem dX3_settleLaws_4 : decode cX3_settleLaws 4 = .ok (.getfield 9, 3) := by decide +kernel
theorem dX3_settleLaws_7 : decode cX3_settleLaws 7 = .ok (.iconst 0, 1) := by decide +kernel
theorem dX3_settleLaws_8 : decode cX3_settleLaws 8 = .ok (.iaload, 1) := by decide +kernel
theorem dX3_settleLaws_9 : decode cX3_settleLaws 9 = .ok (.if_icmp .ge 45, 3) := by decide +kernel
theorem dX3_settleLaws_12 : decode cX3_settleLaws 12 = .ok (.iconst 0, 1) := by decide +kernel
theorem dX3_settleLaws_13 : decode cX3_settleLaws 13 = .ok (.istore_n 3, 1) := by decide +kernel
theorem dX3_settleLaws_14 : decode cX3_settleLaws 14 = .ok (.iload_n 3, 1) := by decide +kernel
theorem dX3_settleLaws_15 : decode cX3_settleLaws 15 = .ok (.aload_n 0, 1) := by decide +kernel
theorem dX3_settleLaws_16 : decode cX3_settleLaws 16 = .ok (.getfield 9, 3) := by decide +kernel
theorem dX3_settleLaws_19 : decode cX3_settleLaws 19 = .ok (.iconst 0, 1) := by decide +kernel
theorem dX3_settleLaws_20 : decode cX3_settleLaws 20 = .ok (.iaload, 1) := by decide +kernel
theorem dX3_settleLaws_21 : decode cX3_settleLaws 21 = .ok (.if_icmp .ge 27, 3) := by decide +kernel
theorem dX3_settleLaws_24 : decode cX3_settleLaws 24 = .ok (.aload_n 0, 1) := by decide +kernel
theorem dX3_settleLaws_25 : decode cX3_settleLaws 25 = .ok (.getfield 40, 3) := by decide +kernel
theorem dX3_settleLaws_28 : decode cX3_settleLaws 28 = .ok (.iload_n 1, 1) := by decide +kernel
theorem dX3_settleLaws_29 : decode cX3_settleLaws 29 = .ok (.iload_n 2, 1) := by decide +kernel
theorem dX3_settleLaws_30 : decode cX3_settleLaws 30 = .ok (.iload_n 3, 1) := by decide +kernel
theorem dX3_settleLaws_31 : decode cX3_settleLaws 31 = .ok (.invokestatic 105, 3) := by decide +kernel
theorem dX3_settleLaws_34 : decode cX3_settleLaws 34 = .ok (.aload_n 0, 1) := by decide +kernel
theorem dX3_settleLaws_35 : decode cX3_settleLaws 35 = .ok (.iload_n 1, 1) := by decide +kernel
theorem dX3_settleLaws_36 : decode cX3_settleLaws 36 = .ok (.iload_n 2, 1) := by decide +kernel
theorem dX3_settleLaws_37 : decode cX3_settleLaws 37 = .ok (.iload_n 3, 1) := by decide +kernel
theorem dX3_settleLaws_38 : decode cX3_settleLaws 38 = .ok (.invokevirtual 109, 3) := by decide +kernel
theorem dX3_settleLaws_41 : decode cX3_settleLaws 41 = .ok (.iastore, 1) := by decide +kernel
theorem dX3_settleLaws_42 : decode cX3_settleLaws 42 = .ok (.iinc 3 1, 3) := by decide +kernel
theorem dX3_settleLaws_45 : decode cX3_settleLaws 45 = .ok (.goto (-31), 3) := by decide +kernel
theorem dX3_settleLaws_48 : decode cX3_settleLaws 48 = .ok (.iinc 2 1, 3) := by decide +kernel
theorem dX3_settleLaws_51 : decode cX3_settleLaws 51 = .ok (.goto (-49), 3) := by decide +kernel
theorem dX3_settleLaws_54 : decode cX3_settleLaws 54 = .ok (.return_, 1) := by decide +kernel
noncomputable def F_X3_settleLaws_14 (k48 : Nat → Int32 → Int32 → m_M → Option (Unit × m_M)) : Nat → Nat → Int32 → Int32 → Int32 → m_M → Option (Unit × m_M)
  | 0, _, _, _, _, _ => none
  | n + 1, v1, v2, v3, v4, M =>
    x_gN 3 M v1 6 fun v5 =>
    x_aI 12 M v5 (0 : Int32) fun v6 =>
    if v6 ≤ v4 then (
      k48 v1 v2 v3 M
    ) else
    x_gN 3 M v1 15 fun v7 =>
    x_bd (F_X3_lawIndex v2 v3 v4 M) fun v8 M1 =>
    x_cV 3 M1 v1 (F_X3_lawOf v1 v2 v3 v4 M1) fun v9 M2 =>
    x_sI 12 M2 v7 v8 v9 fun M3 =>
    m_let (v4 + (1 : Int32)) fun v10 =>
    F_X3_settleLaws_14 k48 n v1 v2 v3 v10 M3
noncomputable def F_X3_settleLaws_2 : Nat → Nat → Int32 → Int32 → m_M → Option (Unit × m_M)
  | 0, _, _, _, _ => none
  | n + 1, v1, v2, v3, M =>
    x_gN 3 M v1 6 fun v4 =>
    x_aI 12 M v4 (0 : Int32) fun v5 =>
    if v5 ≤ v3 then (
      some ((), M)
    ) else
    m_let (fun (v6 : Nat) (v7 : Int32) (v8 : Int32) (M1 : m_M) =>
      m_let (v8 + (1 : Int32)) fun v9 =>
      F_X3_settleLaws_2 n v6 v7 v9 M1
    ) fun (k48 : Nat → Int32 → Int32 → m_M → Option (Unit × m_M)) =>
    F_X3_settleLaws_14 k48 m_FU v1 v2 v3 (0 : Int32) M
noncomputable def F_X3_settleLaws (a0 : Nat) (a1 : Int32) (M : m_M) : Option (Unit × m_M) :=
  F_X3_settleLaws_2 m_FU a0 a1 (0 : Int32) M
set_option maxHeartbeats 4000000 in
theorem L_X3_settleLaws_14 {X : j_X} {Φ : Option Value → m_M → Prop} (C : j_C X yX3_settleLaws cX3_settleLaws 4 none 4 0 0 Φ) {k48 : Nat → Int32 → Int32 → m_M → Option (Unit × m_M)} (hk48 : ∀ (p0 : Nat) (p1 : Int32) (p2 : Int32) (M : m_M), m_ok e_V Φ (k48 p0 p1 p2 M) → j_J X 4 48 [some (.ref p0), some (.int p1), some (.int p2), none] [] (0, 0) M) : ∀ (n : Nat) (v1 : Nat) (v2 : Int32) (v3 : Int32) (v4 : Int32) (M : m_M), m_ok e_V Φ (F_X3_settleLaws_14 k48 n v1 v2 v3 v4 M) → j_J X 4 14 [some (.ref v1), some (.int v2), some (.int v3), some (.int v4)] [] (0, 0) M := by
  have C0 := C.1
  intro n
  induction n with
  | zero => intro v1 v2 v3 v4 M h; exact False.elim h
  | succ n ih =>
    intro v1 v2 v3 v4 M h
    rw [F_X3_settleLaws_14] at h
    refine j_iload_n C0 (pc := 14) dX3_settleLaws_14 rfl ?_
    refine j_aload_n C0 (pc := 15) dX3_settleLaws_15 rfl ?_
    refine X_gN C0 (pc := 16) f_Land_9_3 rfl dX3_settleLaws_16 h (fun v5 h => ?_)
    refine j_iconst C0 (pc := 19) dX3_settleLaws_19 (v := (0 : Int32)) (by decide) ?_
    refine X_iald C0 (pc := 20) dX3_settleLaws_20 h (fun v6 h => ?_)
    refine j_icmp_ge C0 (pc := 21) (tgt := 48) dX3_settleLaws_21 (by decide) (fun hc => ?_) (fun hc => ?_)
    · replace h := (X_if h).1 hc
      exact j_J.wq (hk48 v1 v2 v3 M h) (And.intro rfl (And.intro rfl (And.intro rfl (trivial))))
    · replace h := (X_if h).2 hc
      refine j_aload_n C0 (pc := 24) dX3_settleLaws_24 rfl ?_
      refine X_gN C0 (pc := 25) f_Land_40_3 rfl dX3_settleLaws_25 h (fun v7 h => ?_)
      refine j_iload_n C0 (pc := 28) dX3_settleLaws_28 rfl ?_
      refine j_iload_n C0 (pc := 29) dX3_settleLaws_29 rfl ?_
      refine j_iload_n C0 (pc := 30) dX3_settleLaws_30 rfl ?_
      refine X_cS C0 (pc := 31) (e' := e_I) (as := [.int v2, .int v3, .int v4]) (rest := [.ref v7]) (s' := fun w => .int w :: [.ref v7]) (g' := (0, 0)) s_Land_105 (fun Ψ hΨ => K_X3_lawIndex v2 v3 v4 M Ψ hΨ) rfl rfl (fun _ => rfl) (by decide) (by decide) rfl (Nat.le_of_ble_eq_true rfl) dX3_settleLaws_31 h (fun v8 M1 h => ?_)
      refine j_aload_n C0 (pc := 34) dX3_settleLaws_34 rfl ?_
      refine j_iload_n C0 (pc := 35) dX3_settleLaws_35 rfl ?_
      refine j_iload_n C0 (pc := 36) dX3_settleLaws_36 rfl ?_
      refine j_iload_n C0 (pc := 37) dX3_settleLaws_37 rfl ?_
      refine X_cV C0 (pc := 38) (e' := e_I) (as := [.int v2, .int v3, .int v4]) (rest := [.int v8, .ref v7]) (s' := fun w => .int w :: [.int v8, .ref v7]) (g' := (0, 0)) v_Land_109_3 (fun Ψ hΨ => K_X3_lawOf v1 v2 v3 v4 M1 Ψ hΨ) rfl rfl (fun _ => rfl) (by decide) (by decide) rfl (Nat.le_of_ble_eq_true rfl) dX3_settleLaws_38 h (fun v9 M2 h => ?_)
      refine X_iast C0 (pc := 41) dX3_settleLaws_41 h (fun M3 h => ?_)
      refine j_iinc C0 (pc := 42) dX3_settleLaws_42 (v := v4 + (1 : Int32)) rfl (Nat.le_of_ble_eq_true rfl) (by rfl) ?_
      refine X_let (G := fun w => j_J X 4 45 [some (.ref v1), some (.int v2), some (.int v3), some (.int w)] [] (0, 0) M3) h (fun v10 h => ?_)
      refine j_goto C0 (pc := 45) (tgt := 14) dX3_settleLaws_45 (by decide) ?_
      exact j_J.wq (ih v1 v2 v3 v10 M3 h) (And.intro rfl (And.intro rfl (And.intro rfl (And.intro rfl (trivial)))))
set_option maxHeartbeats 4000000 in
theorem L_X3_settleLaws_2 {X : j_X} {Φ : Option Value → m_M → Prop} (C : j_C X yX3_settleLaws cX3_settleLaws 4 none 4 0 0 Φ) : ∀ (n : Nat) (v1 : Nat) (v2 : Int32) (v3 : Int32) (M : m_M), m_ok e_V Φ (F_X3_settleLaws_2 n v1 v2 v3 M) → j_J X 4 2 [some (.ref v1), some (.int v2), some (.int v3), none] [] (0, 0) M := by
  have C0 := C.1
  intro n
  induction n with
  | zero => intro v1 v2 v3 M h; exact False.elim h
  | succ n ih =>
    intro v1 v2 v3 M h
    rw [F_X3_settleLaws_2] at h
    refine j_iload_n C0 (pc := 2) dX3_settleLaws_2 rfl ?_
    refine j_aload_n C0 (pc := 3) dX3_settleLaws_3 rfl ?_
    refine X_gN C0 (pc := 4) f_Land_9_3 rfl dX3_settleLaws_4 h (fun v4 h => ?_)
    refine j_iconst C0 (pc := 7) dX3_settleLaws_7 (v := (0 : Int32)) (by decide) ?_
    refine X_iald C0 (pc := 8) dX3_settleLaws_8 h (fun v5 h => ?_)
    refine j_icmp_ge C0 (pc := 9) (tgt := 54) dX3_settleLaws_9 (by decide) (fun hc => ?_) (fun hc => ?_)
    · replace h := (X_if h).1 hc
      exact j_vret C rfl h dX3_settleLaws_54 (by decide)
    · replace h := (X_if h).2 hc
      refine j_iconst C0 (pc := 12) dX3_settleLaws_12 (v := (0 : Int32)) (by decide) ?_
      refine j_istore_n C0 (pc := 13) dX3_settleLaws_13 (Nat.le_of_ble_eq_true rfl) ?_
      show j_J X 4 14 [some (.ref v1), some (.int v2), some (.int v3), some (.int (0 : Int32))] [] (0, 0) M
      refine X_join (fun (kj : Nat → Int32 → Int32 → m_M → Option (Unit × m_M)) => ∀ (p0 : Nat) (p1 : Int32) (p2 : Int32) (M : m_M), m_ok e_V Φ (kj p0 p1 p2 M) → j_J X 4 48 [some (.ref p0), some (.int p1), some (.int p2), none] [] (0, 0) M) h (fun v6 v7 v8 M1 h => ?_) (fun k48 hk48 h => ?_)
      · refine j_iinc C0 (pc := 48) dX3_settleLaws_48 (v := v8 + (1 : Int32)) rfl (Nat.le_of_ble_eq_true rfl) (by rfl) ?_
        refine X_let (G := fun w => j_J X 4 51 [some (.ref v6), some (.int v7), some (.int w), none] [] (0, 0) M1) h (fun v9 h => ?_)
        refine j_goto C0 (pc := 51) (tgt := 2) dX3_settleLaws_51 (by decide) ?_
        exact j_J.wq (ih v6 v7 v9 M1 h) (And.intro rfl (And.intro rfl (And.intro rfl (trivial))))
      · exact j_J.wq (L_X3_settleLaws_14 C hk48 m_FU v1 v2 v3 (0 : Int32) M h) (And.intro rfl (And.intro rfl (And.intro rfl (And.intro rfl (trivial)))))
set_option maxHeartbeats 4000000 in
theorem K_X3_settleLaws (a0 : Nat) (a1 : Int32) (M : m_M) (Φ : Option Value → m_M → Prop) (h : m_ok e_V Φ (F_X3_settleLaws a0 a1 M)) : j_Ct yX3_settleLaws cX3_settleLaws 4 none 4 0 0 [.ref a0, .int a1] M Φ := by
  refine j_Ct.of (by decide +kernel) (Nat.le_of_ble_eq_true rfl) fun X C => ?_
  have C0 := C.1
  show j_J X 4 0 [some (.ref a0), some (.int a1), none, none] [] (0, 0) M
  unfold F_X3_settleLaws at h
  refine j_iconst C0 (pc := 0) dX3_settleLaws_0 (v := (0 : Int32)) (by decide) ?_
  refine j_istore_n C0 (pc := 1) dX3_settleLaws_1 (Nat.le_of_ble_eq_true rfl) ?_
  show j_J X 4 2 [some (.ref a0), some (.int a1), some (.int (0 : Int32)), none] [] (0, 0) M
  exact j_J.wq (L_X3_settleLaws_2 C m_FU a0 a1 (0 : Int32) M h) (And.intro rfl (And.intro rfl (And.intro rfl (trivial))))
theorem dX3_settle_0 : decode cX3_settle 0 = .ok (.aload_n 0, 1) := by decide +kernel
theorem dX3_settle_1 : decode cX3_settle 1 = .ok (.invokevirtual 94, 3) := by decide +kernel
theorem dX3_settle_4 : decode cX3_settle 4 = .ok (.iconst 0, 1) := by decide +kernel
theorem dX3_settle_5 : decode cX3_settle 5 = .ok (.istore_n 1, 1) := by decide +kernel
theorem dX3_settle_6 : decode cX3_settle 6 = .ok (.iload_n 1, 1) := by decide +kernel
theorem dX3_settle_7 : decode cX3_settle 7 = .ok (.aload_n 0, 1) := by decide +kernel
theorem dX3_settle_8 : decode cX3_settle 8 = .ok (.getfield 9, 3) := by decide +kernel
theorem dX3_settle_11 : decode cX3_settle 11 = .ok (.iconst 1, 1) := by decide +kernel
theorem dX3_settle_12 : decode cX3_settle 12 = .ok (.iaload, 1) := by decide +kernel
theorem dX3_settle_13 : decode cX3_settle 13 = .ok (.if_icmp .ge 43, 3) := by decide +kernel
theorem dX3_settle_16 : decode cX3_settle 16 = .ok (.iconst 0, 1) := by decide +kernel
theorem dX3_settle_17 : decode cX3_settle 17 = .ok (.istore_n 2, 1) := by decide +kernel
theorem dX3_settle_18 : decode cX3_settle 18 = .ok (.iload_n 2, 1) := by decide +kernel
theorem dX3_settle_19 : decode cX3_settle 19 = .ok (.aload_n 0, 1) := by decide +kernel
theorem dX3_settle_20 : decode cX3_settle 20 = .ok (.getfield 9, 3) := by decide +kernel
theorem dX3_settle_23 : decode cX3_settle 23 = .ok (.iconst 0, 1) := by decide +kernel
theorem dX3_settle_24 : decode cX3_settle 24 = .ok (.iaload, 1) := by decide +kernel
theorem dX3_settle_25 : decode cX3_settle 25 = .ok (.if_icmp .ge 25, 3) := by decide +kernel
theorem dX3_settle_28 : decode cX3_settle 28 = .ok (.aload_n 0, 1) := by decide +kernel
theorem dX3_settle_29 : decode cX3_settle 29 = .ok (.getfield 37, 3) := by decide +kernel
theorem dX3_settle_32 : decode cX3_settle 32 = .ok (.iload_n 1, 1) := by decide +kernel
theorem dX3_settle_33 : decode cX3_settle 33 = .ok (.iconst 5, 1) := by decide +kernel
theorem dX3_settle_34 : decode cX3_settle 34 = .ok (.imul, 1) := by decide +kernel
theorem dX3_settle_35 : decode cX3_settle 35 = .ok (.iload_n 2, 1) := by decide +kernel
theorem dX3_settle_36 : decode cX3_settle 36 = .ok (.iadd, 1) := by decide +kernel
theorem dX3_settle_37 : decode cX3_settle 37 = .ok (.aload_n 0, 1) := by decide +kernel
theorem dX3_settle_38 : decode cX3_settle 38 = .ok (.iload_n 1, 1) := by decide +kernel
theorem dX3_settle_39 : decode cX3_settle 39 = .ok (.iload_n 2, 1) := by decide +kernel
theorem dX3_settle_40 : decode cX3_settle 40 = .ok (.invokevirtual 97, 3) := by decide +kernel
theorem dX3_settle_43 : decode cX3_settle 43 = .ok (.iastore, 1) := by decide +kernel
theorem dX3_settle_44 : decode cX3_settle 44 = .ok (.iinc 2 1, 3) := by decide +kernel
theorem dX3_settle_47 : decode cX3_settle 47 = .ok (.goto (-29), 3) := by decide +kernel
theorem dX3_settle_50 : decode cX3_settle 50 = .ok (.iinc 1 1, 3) := by decide +kernel
theorem dX3_settle_53 : decode cX3_settle 53 = .ok (.goto (-47), 3) := by decide +kernel
theorem dX3_settle_56 : decode cX3_settle 56 = .ok (.iconst 0, 1) := by decide +kernel
theorem dX3_settle_57 : decode cX3_settle 57 = .ok (.istore_n 1, 1) := by decide +kernel
theorem dX3_settle_58 : decode cX3_settle 58 = .ok (.iload_n 1, 1) := by decide +kernel
theorem dX3_settle_59 : decode cX3_settle 59 = .ok (.aload_n 0, 1) := by decide +kernel
theorem dX3_settle_60 : decode cX3_settle 60 = .ok (.getfield 9, 3) := by decide +kernel
theorem dX3_settle_63 : decode cX3_settle 63 = .ok (.iconst 2, 1) := by decide +kernel
theorem dX3_settle_64 : decode cX3_settle 64 = .ok (.iaload, 1) := by decide +kernel
theorem dX3_settle_65 : decode cX3_settle 65 = .ok (.if_icmp .ge 14, 3) := by decide +kernel
theorem dX3_settle_68 : decode cX3_settle 68 = .ok (.aload_n 0, 1) := by decide +kernel
theorem dX3_settle_69 : decode cX3_settle 69 = .ok (.iload_n 1, 1) := by decide +kernel
theorem dX3_settle_70 : decode cX3_settle 70 = .ok (.invokevirtual 101, 3) := by decide +kernel
theorem dX3_settle_73 : decode cX3_settle 73 = .ok (.iinc 1 1, 3) := by decide +kernel
theorem dX3_settle_76 : decode cX3_settle 76 = .ok (.goto (-18), 3) := by decide +kernel
theorem dX3_settle_79 : decode cX3_settle 79 = .ok (.return_, 1) := by decide +kernel
noncomputable def F_X3_settle_58 : Nat → Nat → Int32 → m_M → Option (Unit × m_M)
  | 0, _, _, _ => none
  | n + 1, v1, v2, M =>
    x_gN 3 M v1 6 fun v3 =>
    x_aI 12 M v3 (2 : Int32) fun v4 =>
    if v4 ≤ v2 then (
      some ((), M)
    ) else
    x_cV 3 M v1 (F_X3_settleLaws v1 v2 M) fun _ M1 =>
    m_let (v2 + (1 : Int32)) fun v5 =>
    F_X3_settle_58 n v1 v5 M1
noncomputable def F_X3_settle_18 (k50 : Nat → Int32 → m_M → Option (Unit × m_M)) : Nat → Nat → Int32 → Int32 → m_M → Option (Unit × m_M)
  | 0, _, _, _, _ => none
  | n + 1, v1, v2, v3, M =>
    x_gN 3 M v1 6 fun v4 =>
    x_aI 12 M v4 (0 : Int32) fun v5 =>
    if v5 ≤ v3 then (
      k50 v1 v2 M
    ) else
    x_gN 3 M v1 14 fun v6 =>
    x_cV 3 M v1 (F_X3_wayOf v1 v2 v3 M) fun v7 M1 =>
    x_sI 12 M1 v6 ((v2 * (5 : Int32)) + v3) v7 fun M2 =>
    m_let (v3 + (1 : Int32)) fun v8 =>
    F_X3_settle_18 k50 n v1 v2 v8 M2
noncomputable def F_X3_settle_6 (k56 : Nat → m_M → Option (Unit × m_M)) : Nat → Nat → Int32 → m_M → Option (Unit × m_M)
  | 0, _, _, _ => none
  | n + 1, v1, v2, M =>
    x_gN 3 M v1 6 fun v3 =>
    x_aI 12 M v3 (1 : Int32) fun v4 =>
    if v4 ≤ v2 then (
      k56 v1 M
    ) else
    m_let (fun (v5 : Nat) (v6 : Int32) (M1 : m_M) =>
      m_let (v6 + (1 : Int32)) fun v7 =>
      F_X3_settle_6 k56 n v5 v7 M1
    ) fun (k50 : Nat → Int32 → m_M → Option (Unit × m_M)) =>
    F_X3_settle_18 k50 m_FU v1 v2 (0 : Int32) M
noncomputable def F_X3_settle (a0 : Nat) (M : m_M) : Option (Unit × m_M) :=
  x_cV 3 M a0 (F_X3_settleWorlds a0 M) fun _ M1 =>
  m_let (fun (v1 : Nat) (M2 : m_M) =>
    F_X3_settle_58 m_FU v1 (0 : Int32) M2
  ) fun (k56 : Nat → m_M → Option (Unit × m_M)) =>
  F_X3_settle_6 k56 m_FU a0 (0 : Int32) M1
set_option maxHeartbeats 4000000 in
theorem L_X3_settle_58 {X : j_X} {Φ : Option Value → m_M → Prop} (C : j_C X yX3_settle cX3_settle 3 none 5 0 0 Φ) : ∀ (n : Nat) (v1 : Nat) (v2 : Int32) (M : m_M), m_ok e_V Φ (F_X3_settle_58 n v1 v2 M) → j_J X 3 58 [some (.ref v1), some (.int v2), none] [] (0, 0) M := by
  have C0 := C.1
  intro n
  induction n with
  | zero => intro v1 v2 M h; exact False.elim h
  | succ n ih =>
    intro v1 v2 M h
    rw [F_X3_settle_58] at h
    refine j_iload_n C0 (pc := 58) dX3_settle_58 rfl ?_
    refine j_aload_n C0 (pc := 59) dX3_settle_59 rfl ?_
    refine X_gN C0 (pc := 60) f_Land_9_3 rfl dX3_settle_60 h (fun v3 h => ?_)
    refine j_iconst C0 (pc := 63) dX3_settle_63 (v := (2 : Int32)) (by decide) ?_
    refine X_iald C0 (pc := 64) dX3_settle_64 h (fun v4 h => ?_)
    refine j_icmp_ge C0 (pc := 65) (tgt := 79) dX3_settle_65 (by decide) (fun hc => ?_) (fun hc => ?_)
    · replace h := (X_if h).1 hc
      exact j_vret C rfl h dX3_settle_79 (by decide)
    · replace h := (X_if h).2 hc
      refine j_aload_n C0 (pc := 68) dX3_settle_68 rfl ?_
      refine j_iload_n C0 (pc := 69) dX3_settle_69 rfl ?_
      refine X_cV C0 (pc := 70) (e' := e_V) (as := [.int v2]) (rest := []) (s' := fun _ => []) (g' := (0, 0)) v_Land_101_3 (fun Ψ hΨ => K_X3_settleLaws v1 v2 M Ψ hΨ) rfl rfl (fun _ => rfl) (by decide) (by decide) rfl (Nat.le_of_ble_eq_true rfl) dX3_settle_70 h (fun _ M1 h => ?_)
      refine j_iinc C0 (pc := 73) dX3_settle_73 (v := v2 + (1 : Int32)) rfl (Nat.le_of_ble_eq_true rfl) (by rfl) ?_
      refine X_let (G := fun w => j_J X 3 76 [some (.ref v1), some (.int w), none] [] (0, 0) M1) h (fun v5 h => ?_)
      refine j_goto C0 (pc := 76) (tgt := 58) dX3_settle_76 (by decide) ?_
      exact j_J.wq (ih v1 v5 M1 h) (And.intro rfl (And.intro rfl (trivial)))
set_option maxHeartbeats 4000000 in
theorem L_X3_settle_18 {X : j_X} {Φ : Option Value → m_M → Prop} (C : j_C X yX3_settle cX3_settle 3 none 5 0 0 Φ) {k50 : Nat → Int32 → m_M → Option (Unit × m_M)} (hk50 : ∀ (p0 : Nat) (p1 : Int32) (M : m_M), m_ok e_V Φ (k50 p0 p1 M) → j_J X 3 50 [some (.ref p0), some (.int p1), none] [] (0, 0) M) : ∀ (n : Nat) (v1 : Nat) (v2 : Int32) (v3 : Int32) (M : m_M), m_ok e_V Φ (F_X3_settle_18 k50 n v1 v2 v3 M) → j_J X 3 18 [some (.ref v1), some (.int v2), some (.int v3)] [] (0, 0) M := by
  have C0 := C.1
  intro n
  induction n with
  | zero => intro v1 v2 v3 M h; exact False.elim h
  | succ n ih =>
    intro v1 v2 v3 M h
    rw [F_X3_settle_18] at h
    refine j_iload_n C0 (pc := 18) dX3_settle_18 rfl ?_
    refine j_aload_n C0 (pc := 19) dX3_settle_19 rfl ?_
    refine X_gN C0 (pc := 20) f_Land_9_3 rfl dX3_settle_20 h (fun v4 h => ?_)
    refine j_iconst C0 (pc := 23) dX3_settle_23 (v := (0 : Int32)) (by decide) ?_
    refine X_iald C0 (pc := 24) dX3_settle_24 h (fun v5 h => ?_)
    refine j_icmp_ge C0 (pc := 25) (tgt := 50) dX3_settle_25 (by decide) (fun hc => ?_) (fun hc => ?_)
    · replace h := (X_if h).1 hc
      exact j_J.wq (hk50 v1 v2 M h) (And.intro rfl (And.intro rfl (trivial)))
    · replace h := (X_if h).2 hc
      refine j_aload_n C0 (pc := 28) dX3_settle_28 rfl ?_
      refine X_gN C0 (pc := 29) f_Land_37_3 rfl dX3_settle_29 h (fun v6 h => ?_)
      refine j_iload_n C0 (pc := 32) dX3_settle_32 rfl ?_
      refine j_iconst C0 (pc := 33) dX3_settle_33 (v := (5 : Int32)) (by decide) ?_
      refine j_imul C0 (pc := 34) dX3_settle_34 ?_
      refine j_iload_n C0 (pc := 35) dX3_settle_35 rfl ?_
      refine j_iadd C0 (pc := 36) dX3_settle_36 ?_
      refine j_aload_n C0 (pc := 37) dX3_settle_37 rfl ?_
      refine j_iload_n C0 (pc := 38) dX3_settle_38 rfl ?_
      refine j_iload_n C0 (pc := 39) dX3_settle_39 rfl ?_
      refine X_cV C0 (pc := 40) (e' := e_I) (as := [.int v2, .int v3]) (rest := [.int ((v2 * (5 : Int32)) + v3), .ref v6]) (s' := fun w => .int w :: [.int ((v2 * (5 : Int32)) + v3), .ref v6]) (g' := (0, 0)) v_Land_97_3 (fun Ψ hΨ => K_X3_wayOf v1 v2 v3 M Ψ hΨ) rfl rfl (fun _ => rfl) (by decide) (by decide) rfl (Nat.le_of_ble_eq_true rfl) dX3_settle_40 h (fun v7 M1 h => ?_)
      refine X_iast C0 (pc := 43) dX3_settle_43 h (fun M2 h => ?_)
      refine j_iinc C0 (pc := 44) dX3_settle_44 (v := v3 + (1 : Int32)) rfl (Nat.le_of_ble_eq_true rfl) (by rfl) ?_
      refine X_let (G := fun w => j_J X 3 47 [some (.ref v1), some (.int v2), some (.int w)] [] (0, 0) M2) h (fun v8 h => ?_)
      refine j_goto C0 (pc := 47) (tgt := 18) dX3_settle_47 (by decide) ?_
      exact j_J.wq (ih v1 v2 v8 M2 h) (And.intro rfl (And.intro rfl (And.intro rfl (trivial))))
set_option maxHeartbeats 4000000 in
theorem L_X3_settle_6 {X : j_X} {Φ : Option Value → m_M → Prop} (C : j_C X yX3_settle cX3_settle 3 none 5 0 0 Φ) {k56 : Nat → m_M → Option (Unit × m_M)} (hk56 : ∀ (p0 : Nat) (M : m_M), m_ok e_V Φ (k56 p0 M) → j_J X 3 56 [some (.ref p0), none, none] [] (0, 0) M) : ∀ (n : Nat) (v1 : Nat) (v2 : Int32) (M : m_M), m_ok e_V Φ (F_X3_settle_6 k56 n v1 v2 M) → j_J X 3 6 [some (.ref v1), some (.int v2), none] [] (0, 0) M := by
  have C0 := C.1
  intro n
  induction n with
  | zero => intro v1 v2 M h; exact False.elim h
  | succ n ih =>
    intro v1 v2 M h
    rw [F_X3_settle_6] at h
    refine j_iload_n C0 (pc := 6) dX3_settle_6 rfl ?_
    refine j_aload_n C0 (pc := 7) dX3_settle_7 rfl ?_
    refine X_gN C0 (pc := 8) f_Land_9_3 rfl dX3_settle_8 h (fun v3 h => ?_)
    refine j_iconst C0 (pc := 11) dX3_settle_11 (v := (1 : Int32)) (by decide) ?_
    refine X_iald C0 (pc := 12) dX3_settle_12 h (fun v4 h => ?_)
    refine j_icmp_ge C0 (pc := 13) (tgt := 56) dX3_settle_13 (by decide) (fun hc => ?_) (fun hc => ?_)
    · replace h := (X_if h).1 hc
      exact j_J.wq (hk56 v1 M h) (And.intro rfl (trivial))
    · replace h := (X_if h).2 hc
      refine j_iconst C0 (pc := 16) dX3_settle_16 (v := (0 : Int32)) (by decide) ?_
      refine j_istore_n C0 (pc := 17) dX3_settle_17 (Nat.le_of_ble_eq_true rfl) ?_
      show j_J X 3 18 [some (.ref v1), some (.int v2), some (.int (0 : Int32))] [] (0, 0) M
      refine X_join (fun (kj : Nat → Int32 → m_M → Option (Unit × m_M)) => ∀ (p0 : Nat) (p1 : Int32) (M : m_M), m_ok e_V Φ (kj p0 p1 M) → j_J X 3 50 [some (.ref p0), some (.int p1), none] [] (0, 0) M) h (fun v5 v6 M1 h => ?_) (fun k50 hk50 h => ?_)
      · refine j_iinc C0 (pc := 50) dX3_settle_50 (v := v6 + (1 : Int32)) rfl (Nat.le_of_ble_eq_true rfl) (by rfl) ?_
        refine X_let (G := fun w => j_J X 3 53 [some (.ref v5), some (.int w), none] [] (0, 0) M1) h (fun v7 h => ?_)
        refine j_goto C0 (pc := 53) (tgt := 6) dX3_settle_53 (by decide) ?_
        exact j_J.wq (ih v5 v7 M1 h) (And.intro rfl (And.intro rfl (trivial)))
      · exact j_J.wq (L_X3_settle_18 C hk50 m_FU v1 v2 (0 : Int32) M h) (And.intro rfl (And.intro rfl (And.intro rfl (trivial))))
set_option maxHeartbeats 4000000 in
theorem K_X3_settle (a0 : Nat) (M : m_M) (Φ : Option Value → m_M → Prop) (h : m_ok e_V Φ (F_X3_settle a0 M)) : j_Ct yX3_settle cX3_settle 3 none 5 0 0 [.ref a0] M Φ := by
  refine j_Ct.of (by decide +kernel) (Nat.le_of_ble_eq_true rfl) fun X C => ?_
  have C0 := C.1
  show j_J X 3 0 [some (.ref a0), none, none] [] (0, 0) M
  unfold F_X3_settle at h
  refine j_aload_n C0 (pc := 0) dX3_settle_0 rfl ?_
  refine X_cV C0 (pc := 1) (e' := e_V) (as := []) (rest := []) (s' := fun _ => []) (g' := (0, 0)) v_Land_94_3 (fun Ψ hΨ => K_X3_settleWorlds a0 M Ψ hΨ) rfl rfl (fun _ => rfl) (by decide) (by decide) rfl (Nat.le_of_ble_eq_true rfl) dX3_settle_1 h (fun _ M1 h => ?_)
  refine j_iconst C0 (pc := 4) dX3_settle_4 (v := (0 : Int32)) (by decide) ?_
  refine j_istore_n C0 (pc := 5) dX3_settle_5 (Nat.le_of_ble_eq_true rfl) ?_
  show j_J X 3 6 [some (.ref a0), some (.int (0 : Int32)), none] [] (0, 0) M1
  refine X_join (fun (kj : Nat → m_M → Option (Unit × m_M)) => ∀ (p0 : Nat) (M : m_M), m_ok e_V Φ (kj p0 M) → j_J X 3 56 [some (.ref p0), none, none] [] (0, 0) M) h (fun v1 M2 h => ?_) (fun k56 hk56 h => ?_)
  · refine j_iconst C0 (pc := 56) dX3_settle_56 (v := (0 : Int32)) (by decide) ?_
    refine j_istore_n C0 (pc := 57) dX3_settle_57 (Nat.le_of_ble_eq_true rfl) ?_
    show j_J X 3 58 [some (.ref v1), some (.int (0 : Int32)), none] [] (0, 0) M2
    exact j_J.wq (L_X3_settle_58 C m_FU v1 (0 : Int32) M2 h) (And.intro rfl (And.intro rfl (trivial)))
  · exact j_J.wq (L_X3_settle_6 C hk56 m_FU a0 (0 : Int32) M1 h) (And.intro rfl (And.intro rfl (trivial)))
theorem dX3_init_0 : decode cX3_init 0 = .ok (.aload_n 0, 1) := by decide +kernel
theorem dX3_init_1 : decode cX3_init 1 = .ok (.invokespecial 3, 3) := by decide +kernel
theorem dX3_init_4 : decode cX3_init 4 = .ok (.aload_n 0, 1) := by decide +kernel
theorem dX3_init_5 : decode cX3_init 5 = .ok (.iconst 4, 1) := by decide +kernel
theorem dX3_init_6 : decode cX3_init 6 = .ok (.newarray .int, 2) := by decide +kernel
theorem dX3_init_8 : decode cX3_init 8 = .ok (.putfield 9, 3) := by decide +kernel
theorem dX3_init_11 : decode cX3_init 11 = .ok (.aload_n 0, 1) := by decide +kernel
theorem dX3_init_12 : decode cX3_init 12 = .ok (.iconst 5, 1) := by decide +kernel
theorem dX3_init_13 : decode cX3_init 13 = .ok (.newarray .int, 2) := by decide +kernel
theorem dX3_init_15 : decode cX3_init 15 = .ok (.putfield 15, 3) := by decide +kernel
theorem dX3_init_18 : decode cX3_init 18 = .ok (.aload_n 0, 1) := by decide +kernel
theorem dX3_init_19 : decode cX3_init 19 = .ok (.bipush 7, 2) := by decide +kernel
theorem dX3_init_21 : decode cX3_init 21 = .ok (.newarray .int, 2) := by decide +kernel
theorem dX3_init_23 : decode cX3_init 23 = .ok (.putfield 18, 3) := by decide +kernel
theorem dX3_init_26 : decode cX3_init 26 = .ok (.aload_n 0, 1) := by decide +kernel
theorem dX3_init_27 : decode cX3_init 27 = .ok (.bipush 18, 2) := by decide +kernel
theorem dX3_init_29 : decode cX3_init 29 = .ok (.newarray .int, 2) := by decide +kernel
theorem dX3_init_31 : decode cX3_init 31 = .ok (.putfield 21, 3) := by decide +kernel
theorem dX3_init_34 : decode cX3_init 34 = .ok (.aload_n 0, 1) := by decide +kernel
theorem dX3_init_35 : decode cX3_init 35 = .ok (.bipush 32, 2) := by decide +kernel
theorem dX3_init_37 : decode cX3_init 37 = .ok (.newarray .long, 2) := by decide +kernel
theorem dX3_init_39 : decode cX3_init 39 = .ok (.putfield 24, 3) := by decide +kernel
theorem dX3_init_42 : decode cX3_init 42 = .ok (.aload_n 0, 1) := by decide +kernel
theorem dX3_init_43 : decode cX3_init 43 = .ok (.sipush 1000, 3) := by decide +kernel
theorem dX3_init_46 : decode cX3_init 46 = .ok (.newarray .int, 2) := by decide +kernel
theorem dX3_init_48 : decode cX3_init 48 = .ok (.putfield 28, 3) := by decide +kernel
theorem dX3_init_51 : decode cX3_init 51 = .ok (.aload_n 0, 1) := by decide +kernel
theorem dX3_init_52 : decode cX3_init 52 = .ok (.bipush 32, 2) := by decide +kernel
theorem dX3_init_54 : decode cX3_init 54 = .ok (.newarray .int, 2) := by decide +kernel
theorem dX3_init_56 : decode cX3_init 56 = .ok (.putfield 31, 3) := by decide +kernel
theorem dX3_init_59 : decode cX3_init 59 = .ok (.aload_n 0, 1) := by decide +kernel
theorem dX3_init_60 : decode cX3_init 60 = .ok (.bipush 32, 2) := by decide +kernel
theorem dX3_init_62 : decode cX3_init 62 = .ok (.newarray .int, 2) := by decide +kernel
theorem dX3_init_64 : decode cX3_init 64 = .ok (.putfield 34, 3) := by decide +kernel
theorem dX3_init_67 : decode cX3_init 67 = .ok (.aload_n 0, 1) := by decide +kernel
theorem dX3_init_68 : decode cX3_init 68 = .ok (.bipush 15, 2) := by decide +kernel
theorem dX3_init_70 : decode cX3_init 70 = .ok (.newarray .int, 2) := by decide +kernel
theorem dX3_init_72 : decode cX3_init 72 = .ok (.putfield 37, 3) := by decide +kernel
theorem dX3_init_75 : decode cX3_init 75 = .ok (.aload_n 0, 1) := by decide +kernel
theorem dX3_init_76 : decode cX3_init 76 = .ok (.sipush 150, 3) := by decide +kernel
theorem dX3_init_79 : decode cX3_init 79 = .ok (.newarray .int, 2) := by decide +kernel
theorem dX3_init_81 : decode cX3_init 81 = .ok (.putfield 40, 3) := by decide +kernel
theorem dX3_init_84 : decode cX3_init 84 = .ok (.aload_n 0, 1) := by decide +kernel
theorem dX3_init_85 : decode cX3_init 85 = .ok (.sipush 320, 3) := by decide +kernel
theorem dX3_init_88 : decode cX3_init 88 = .ok (.newarray .long, 2) := by decide +kernel
theorem dX3_init_90 : decode cX3_init 90 = .ok (.putfield 43, 3) := by decide +kernel
theorem dX3_init_93 : decode cX3_init 93 = .ok (.aload_n 0, 1) := by decide +kernel
theorem dX3_init_94 : decode cX3_init 94 = .ok (.iconst 5, 1) := by decide +kernel
theorem dX3_init_95 : decode cX3_init 95 = .ok (.newarray .int, 2) := by decide +kernel
theorem dX3_init_97 : decode cX3_init 97 = .ok (.putfield 46, 3) := by decide +kernel
theorem dX3_init_100 : decode cX3_init 100 = .ok (.aload_n 0, 1) := by decide +kernel
theorem dX3_init_101 : decode cX3_init 101 = .ok (.bipush 64, 2) := by decide +kernel
theorem dX3_init_103 : decode cX3_init 103 = .ok (.newarray .int, 2) := by decide +kernel
theorem dX3_init_105 : decode cX3_init 105 = .ok (.putfield 49, 3) := by decide +kernel
theorem dX3_init_108 : decode cX3_init 108 = .ok (.aload_n 0, 1) := by decide +kernel
theorem dX3_init_109 : decode cX3_init 109 = .ok (.invokevirtual 52, 3) := by decide +kernel
theorem dX3_init_112 : decode cX3_init 112 = .ok (.aload_n 0, 1) := by decide +kernel
theorem dX3_init_113 : decode cX3_init 113 = .ok (.invokevirtual 55, 3) := by decide +kernel
theorem dX3_init_116 : decode cX3_init 116 = .ok (.return_, 1) := by decide +kernel
noncomputable def F_X3_init (a0 : Nat) (M : m_M) : Option (Unit × m_M) :=
  x_newA 12 4 M (4 : Int32) fun v1 M1 =>
  x_pR 3 M1 a0 6 (some v1) fun M2 =>
  x_newA 12 5 M2 (5 : Int32) fun v2 M3 =>
  x_pR 3 M3 a0 7 (some v2) fun M4 =>
  x_newA 12 7 M4 (7 : Int32) fun v3 M5 =>
  x_pR 3 M5 a0 8 (some v3) fun M6 =>
  x_newA 12 18 M6 (18 : Int32) fun v4 M7 =>
  x_pR 3 M7 a0 9 (some v4) fun M8 =>
  x_newA 13 32 M8 (32 : Int32) fun v5 M9 =>
  x_pR 3 M9 a0 10 (some v5) fun M10 =>
  x_newA 12 1000 M10 (1000 : Int32) fun v6 M11 =>
  x_pR 3 M11 a0 11 (some v6) fun M12 =>
  x_newA 12 32 M12 (32 : Int32) fun v7 M13 =>
  x_pR 3 M13 a0 12 (some v7) fun M14 =>
  x_newA 12 32 M14 (32 : Int32) fun v8 M15 =>
  x_pR 3 M15 a0 13 (some v8) fun M16 =>
  x_newA 12 15 M16 (15 : Int32) fun v9 M17 =>
  x_pR 3 M17 a0 14 (some v9) fun M18 =>
  x_newA 12 150 M18 (150 : Int32) fun v10 M19 =>
  x_pR 3 M19 a0 15 (some v10) fun M20 =>
  x_newA 13 320 M20 (320 : Int32) fun v11 M21 =>
  x_pR 3 M21 a0 16 (some v11) fun M22 =>
  x_newA 12 5 M22 (5 : Int32) fun v12 M23 =>
  x_pR 3 M23 a0 17 (some v12) fun M24 =>
  x_newA 12 64 M24 (64 : Int32) fun v13 M25 =>
  x_pR 3 M25 a0 18 (some v13) fun M26 =>
  x_cV 3 M26 a0 (F_X3_empty a0 M26) fun _ M27 =>
  x_cV 3 M27 a0 (F_X3_settle a0 M27) fun _ M28 =>
  some ((), M28)
set_option maxHeartbeats 4000000 in
theorem K_X3_init (a0 : Nat) (M : m_M) (Φ : Option Value → m_M → Prop) (h : m_ok e_V Φ (F_X3_init a0 M)) : j_Ct yX3_init cX3_init 1 none 6 13 1684 [.ref a0] M Φ := by
  refine j_Ct.of (by decide +kernel) (Nat.le_of_ble_eq_true rfl) fun X C => ?_
  have C0 := C.1
  show j_J X 1 0 [some (.ref a0)] [] (0, 0) M
  unfold F_X3_init at h
  refine j_aload_n C0 (pc := 0) dX3_init_0 rfl ?_
  refine j_objInit C0 (pc := 1) (j_c1 42 (by decide +kernel)) (j_c1 35 (by decide +kernel)) (j_c1 36 (by decide +kernel)) (by decide) (Nat.le_of_ble_eq_true rfl) dX3_init_1 ?_
  refine j_aload_n C0 (pc := 4) dX3_init_4 rfl ?_
  refine j_iconst C0 (pc := 5) dX3_init_5 (v := (4 : Int32)) (by decide) ?_
  refine X_newI C0 (pc := 6) (cap := 4) (g' := (1, 4)) (j_c1 172 (by decide +kernel)) (by decide) (by decide) rfl dX3_init_6 h (fun v1 M1 h => ?_)
  refine X_pNF C0 (pc := 8) f_Land_9_3 rfl ⟨_, rfl, rfl⟩ (Or.inr ⟨_, rfl⟩) rfl dX3_init_8 h (fun M2 h => ?_)
  refine j_aload_n C0 (pc := 11) dX3_init_11 rfl ?_
  refine j_iconst C0 (pc := 12) dX3_init_12 (v := (5 : Int32)) (by decide) ?_
  refine X_newI C0 (pc := 13) (cap := 5) (g' := (2, 9)) (j_c1 172 (by decide +kernel)) (by decide) (by decide) rfl dX3_init_13 h (fun v2 M3 h => ?_)
  refine X_pNF C0 (pc := 15) f_Land_15_3 rfl ⟨_, rfl, rfl⟩ (Or.inr ⟨_, rfl⟩) rfl dX3_init_15 h (fun M4 h => ?_)
  refine j_aload_n C0 (pc := 18) dX3_init_18 rfl ?_
  refine j_bipush C0 (pc := 19) dX3_init_19 (v := (7 : Int32)) (by decide) ?_
  refine X_newI C0 (pc := 21) (cap := 7) (g' := (3, 16)) (j_c1 172 (by decide +kernel)) (by decide) (by decide) rfl dX3_init_21 h (fun v3 M5 h => ?_)
  refine X_pNF C0 (pc := 23) f_Land_18_3 rfl ⟨_, rfl, rfl⟩ (Or.inr ⟨_, rfl⟩) rfl dX3_init_23 h (fun M6 h => ?_)
  refine j_aload_n C0 (pc := 26) dX3_init_26 rfl ?_
  refine j_bipush C0 (pc := 27) dX3_init_27 (v := (18 : Int32)) (by decide) ?_
  refine X_newI C0 (pc := 29) (cap := 18) (g' := (4, 34)) (j_c1 172 (by decide +kernel)) (by decide) (by decide) rfl dX3_init_29 h (fun v4 M7 h => ?_)
  refine X_pNF C0 (pc := 31) f_Land_21_3 rfl ⟨_, rfl, rfl⟩ (Or.inr ⟨_, rfl⟩) rfl dX3_init_31 h (fun M8 h => ?_)
  refine j_aload_n C0 (pc := 34) dX3_init_34 rfl ?_
  refine j_bipush C0 (pc := 35) dX3_init_35 (v := (32 : Int32)) (by decide) ?_
  refine X_newJ C0 (pc := 37) (cap := 32) (g' := (5, 66)) (j_c1 173 (by decide +kernel)) (by decide) (by decide) rfl dX3_init_37 h (fun v5 M9 h => ?_)
  refine X_pNF C0 (pc := 39) f_Land_24_3 rfl ⟨_, rfl, rfl⟩ (Or.inr ⟨_, rfl⟩) rfl dX3_init_39 h (fun M10 h => ?_)
  refine j_aload_n C0 (pc := 42) dX3_init_42 rfl ?_
  refine j_sipush C0 (pc := 43) dX3_init_43 (v := (1000 : Int32)) (by decide) ?_
  refine X_newI C0 (pc := 46) (cap := 1000) (g' := (6, 1066)) (j_c1 172 (by decide +kernel)) (by decide) (by decide) rfl dX3_init_46 h (fun v6 M11 h => ?_)
  refine X_pNF C0 (pc := 48) f_Land_28_3 rfl ⟨_, rfl, rfl⟩ (Or.inr ⟨_, rfl⟩) rfl dX3_init_48 h (fun M12 h => ?_)
  refine j_aload_n C0 (pc := 51) dX3_init_51 rfl ?_
  refine j_bipush C0 (pc := 52) dX3_init_52 (v := (32 : Int32)) (by decide) ?_
  refine X_newI C0 (pc := 54) (cap := 32) (g' := (7, 1098)) (j_c1 172 (by decide +kernel)) (by decide) (by decide) rfl dX3_init_54 h (fun v7 M13 h => ?_)
  refine X_pNF C0 (pc := 56) f_Land_31_3 rfl ⟨_, rfl, rfl⟩ (Or.inr ⟨_, rfl⟩) rfl dX3_init_56 h (fun M14 h => ?_)
  refine j_aload_n C0 (pc := 59) dX3_init_59 rfl ?_
  refine j_bipush C0 (pc := 60) dX3_init_60 (v := (32 : Int32)) (by decide) ?_
  refine X_newI C0 (pc := 62) (cap := 32) (g' := (8, 1130)) (j_c1 172 (by decide +kernel)) (by decide) (by decide) rfl dX3_init_62 h (fun v8 M15 h => ?_)
  refine X_pNF C0 (pc := 64) f_Land_34_3 rfl ⟨_, rfl, rfl⟩ (Or.inr ⟨_, rfl⟩) rfl dX3_init_64 h (fun M16 h => ?_)
  refine j_aload_n C0 (pc := 67) dX3_init_67 rfl ?_
  refine j_bipush C0 (pc := 68) dX3_init_68 (v := (15 : Int32)) (by decide) ?_
  refine X_newI C0 (pc := 70) (cap := 15) (g' := (9, 1145)) (j_c1 172 (by decide +kernel)) (by decide) (by decide) rfl dX3_init_70 h (fun v9 M17 h => ?_)
  refine X_pNF C0 (pc := 72) f_Land_37_3 rfl ⟨_, rfl, rfl⟩ (Or.inr ⟨_, rfl⟩) rfl dX3_init_72 h (fun M18 h => ?_)
  refine j_aload_n C0 (pc := 75) dX3_init_75 rfl ?_
  refine j_sipush C0 (pc := 76) dX3_init_76 (v := (150 : Int32)) (by decide) ?_
  refine X_newI C0 (pc := 79) (cap := 150) (g' := (10, 1295)) (j_c1 172 (by decide +kernel)) (by decide) (by decide) rfl dX3_init_79 h (fun v10 M19 h => ?_)
  refine X_pNF C0 (pc := 81) f_Land_40_3 rfl ⟨_, rfl, rfl⟩ (Or.inr ⟨_, rfl⟩) rfl dX3_init_81 h (fun M20 h => ?_)
  refine j_aload_n C0 (pc := 84) dX3_init_84 rfl ?_
  refine j_sipush C0 (pc := 85) dX3_init_85 (v := (320 : Int32)) (by decide) ?_
  refine X_newJ C0 (pc := 88) (cap := 320) (g' := (11, 1615)) (j_c1 173 (by decide +kernel)) (by decide) (by decide) rfl dX3_init_88 h (fun v11 M21 h => ?_)
  refine X_pNF C0 (pc := 90) f_Land_43_3 rfl ⟨_, rfl, rfl⟩ (Or.inr ⟨_, rfl⟩) rfl dX3_init_90 h (fun M22 h => ?_)
  refine j_aload_n C0 (pc := 93) dX3_init_93 rfl ?_
  refine j_iconst C0 (pc := 94) dX3_init_94 (v := (5 : Int32)) (by decide) ?_
  refine X_newI C0 (pc := 95) (cap := 5) (g' := (12, 1620)) (j_c1 172 (by decide +kernel)) (by decide) (by decide) rfl dX3_init_95 h (fun v12 M23 h => ?_)
  refine X_pNF C0 (pc := 97) f_Land_46_3 rfl ⟨_, rfl, rfl⟩ (Or.inr ⟨_, rfl⟩) rfl dX3_init_97 h (fun M24 h => ?_)
  refine j_aload_n C0 (pc := 100) dX3_init_100 rfl ?_
  refine j_bipush C0 (pc := 101) dX3_init_101 (v := (64 : Int32)) (by decide) ?_
  refine X_newI C0 (pc := 103) (cap := 64) (g' := (13, 1684)) (j_c1 172 (by decide +kernel)) (by decide) (by decide) rfl dX3_init_103 h (fun v13 M25 h => ?_)
  refine X_pNF C0 (pc := 105) f_Land_49_3 rfl ⟨_, rfl, rfl⟩ (Or.inr ⟨_, rfl⟩) rfl dX3_init_105 h (fun M26 h => ?_)
  refine j_aload_n C0 (pc := 108) dX3_init_108 rfl ?_
  refine X_cV C0 (pc := 109) (e' := e_V) (as := []) (rest := []) (s' := fun _ => []) (g' := (13, 1684)) v_Land_52_3 (fun Ψ hΨ => K_X3_empty a0 M26 Ψ hΨ) rfl rfl (fun _ => rfl) (by decide) (by decide) rfl (Nat.le_of_ble_eq_true rfl) dX3_init_109 h (fun _ M27 h => ?_)
  refine j_aload_n C0 (pc := 112) dX3_init_112 rfl ?_
  refine X_cV C0 (pc := 113) (e' := e_V) (as := []) (rest := []) (s' := fun _ => []) (g' := (13, 1684)) v_Land_55_3 (fun Ψ hΨ => K_X3_settle a0 M27 Ψ hΨ) rfl rfl (fun _ => rfl) (by decide) (by decide) rfl (Nat.le_of_ble_eq_true rfl) dX3_init_113 h (fun _ M28 h => ?_)
  exact j_vret C rfl h dX3_init_116 (by decide)
theorem dX8_init_0 : decode cX8_init 0 = .ok (.aload_n 0, 1) := by decide +kernel
theorem dX8_init_1 : decode cX8_init 1 = .ok (.invokespecial 3, 3) := by decide +kernel
theorem dX8_init_4 : decode cX8_init 4 = .ok (.aload_n 0, 1) := by decide +kernel
theorem dX8_init_5 : decode cX8_init 5 = .ok (.aload_n 1, 1) := by decide +kernel
theorem dX8_init_6 : decode cX8_init 6 = .ok (.putfield 9, 3) := by decide +kernel
theorem dX8_init_9 : decode cX8_init 9 = .ok (.return_, 1) := by decide +kernel
noncomputable def F_X8_init (kd : Nat) (a0 : Nat) (a1 : Nat) (M : m_M) : Option (Unit × m_M) :=
  x_pR kd M a0 0 (some a1) fun M1 =>
  some ((), M1)
set_option maxHeartbeats 4000000 in
theorem K_X8_init_4 (a0 : Nat) (a1 : Nat) (M : m_M) (Φ : Option Value → m_M → Prop) (h : m_ok e_V Φ (F_X8_init 4 a0 a1 M)) : j_Ct yX8_init cX8_init 2 none 1 0 0 [.ref a0, .ref a1] M Φ := by
  refine j_Ct.of (by decide +kernel) (Nat.le_of_ble_eq_true rfl) fun X C => ?_
  have C0 := C.1
  show j_J X 2 0 [some (.ref a0), some (.ref a1)] [] (0, 0) M
  unfold F_X8_init at h
  refine j_aload_n C0 (pc := 0) dX8_init_0 rfl ?_
  refine j_objInit C0 (pc := 1) (j_c1 182 (by decide +kernel)) (j_c1 35 (by decide +kernel)) (j_c1 36 (by decide +kernel)) (by decide) (Nat.le_of_ble_eq_true rfl) dX8_init_1 ?_
  refine j_aload_n C0 (pc := 4) dX8_init_4 rfl ?_
  refine j_aload_n C0 (pc := 5) dX8_init_5 rfl ?_
  refine X_pNF C0 (pc := 6) f_Tok_9_4 rfl ⟨_, rfl, rfl⟩ (Or.inr ⟨_, rfl⟩) rfl dX8_init_6 h (fun M1 h => ?_)
  exact j_vret C rfl h dX8_init_9 (by decide)
set_option maxHeartbeats 4000000 in
theorem K_X8_init_7 (a0 : Nat) (a1 : Nat) (M : m_M) (Φ : Option Value → m_M → Prop) (h : m_ok e_V Φ (F_X8_init 7 a0 a1 M)) : j_Ct yX8_init cX8_init 2 none 1 0 0 [.ref a0, .ref a1] M Φ := by
  refine j_Ct.of (by decide +kernel) (Nat.le_of_ble_eq_true rfl) fun X C => ?_
  have C0 := C.1
  show j_J X 2 0 [some (.ref a0), some (.ref a1)] [] (0, 0) M
  unfold F_X8_init at h
  refine j_aload_n C0 (pc := 0) dX8_init_0 rfl ?_
  refine j_objInit C0 (pc := 1) (j_c1 182 (by decide +kernel)) (j_c1 35 (by decide +kernel)) (j_c1 36 (by decide +kernel)) (by decide) (Nat.le_of_ble_eq_true rfl) dX8_init_1 ?_
  refine j_aload_n C0 (pc := 4) dX8_init_4 rfl ?_
  refine j_aload_n C0 (pc := 5) dX8_init_5 rfl ?_
  refine X_pNF C0 (pc := 6) f_Tok_9_7 rfl ⟨_, rfl, rfl⟩ (Or.inr ⟨_, rfl⟩) rfl dX8_init_6 h (fun M1 h => ?_)
  exact j_vret C rfl h dX8_init_9 (by decide)
theorem dX4_init_0 : decode cX4_init 0 = .ok (.aload_n 0, 1) := by decide +kernel
theorem dX4_init_1 : decode cX4_init 1 = .ok (.aload_n 1, 1) := by decide +kernel
theorem dX4_init_2 : decode cX4_init 2 = .ok (.invokespecial 3, 3) := by decide +kernel
theorem dX4_init_5 : decode cX4_init 5 = .ok (.aload_n 0, 1) := by decide +kernel
theorem dX4_init_6 : decode cX4_init 6 = .ok (.aload_n 2, 1) := by decide +kernel
theorem dX4_init_7 : decode cX4_init 7 = .ok (.putfield 9, 3) := by decide +kernel
theorem dX4_init_10 : decode cX4_init 10 = .ok (.return_, 1) := by decide +kernel
noncomputable def F_X4_init (a0 : Nat) (a1 : Nat) (a2 : Nat) (M : m_M) : Option (Unit × m_M) :=
  x_bd (F_X8_init 4 a0 a1 M) fun _ M1 =>
  x_pR 4 M1 a0 10 (some a2) fun M2 =>
  some ((), M2)
set_option maxHeartbeats 4000000 in
theorem K_X4_init (a0 : Nat) (a1 : Nat) (a2 : Nat) (M : m_M) (Φ : Option Value → m_M → Prop) (h : m_ok e_V Φ (F_X4_init a0 a1 a2 M)) : j_Ct yX4_init cX4_init 3 none 2 0 0 [.ref a0, .ref a1, .ref a2] M Φ := by
  refine j_Ct.of (by decide +kernel) (Nat.le_of_ble_eq_true rfl) fun X C => ?_
  have C0 := C.1
  show j_J X 3 0 [some (.ref a0), some (.ref a1), some (.ref a2)] [] (0, 0) M
  unfold F_X4_init at h
  refine j_aload_n C0 (pc := 0) dX4_init_0 rfl ?_
  refine j_aload_n C0 (pc := 1) dX4_init_1 rfl ?_
  refine X_cI C0 (pc := 2) (e' := e_V) (as := [.ref a1]) (rest := []) (s' := fun _ => []) (g' := (0, 0)) i_LR_3 (fun Ψ hΨ => K_X8_init_4 a0 a1 M Ψ hΨ) rfl rfl (fun _ => rfl) (by decide) (by decide) rfl (Nat.le_of_ble_eq_true rfl) dX4_init_2 h (fun _ M1 h => ?_)
  refine j_aload_n C0 (pc := 5) dX4_init_5 rfl ?_
  refine j_aload_n C0 (pc := 6) dX4_init_6 rfl ?_
  refine X_pNF C0 (pc := 7) f_LR_9_4 rfl ⟨_, rfl, rfl⟩ (Or.inl ⟨_, rfl⟩) rfl dX4_init_7 h (fun M2 h => ?_)
  exact j_vret C rfl h dX4_init_10 (by decide)
theorem dX7_init_0 : decode cX7_init 0 = .ok (.aload_n 0, 1) := by decide +kernel
theorem dX7_init_1 : decode cX7_init 1 = .ok (.aload_n 1, 1) := by decide +kernel
theorem dX7_init_2 : decode cX7_init 2 = .ok (.invokespecial 3, 3) := by decide +kernel
theorem dX7_init_5 : decode cX7_init 5 = .ok (.aload_n 0, 1) := by decide +kernel
theorem dX7_init_6 : decode cX7_init 6 = .ok (.sipush 1000, 3) := by decide +kernel
theorem dX7_init_9 : decode cX7_init 9 = .ok (.newarray .int, 2) := by decide +kernel
theorem dX7_init_11 : decode cX7_init 11 = .ok (.putfield 9, 3) := by decide +kernel
theorem dX7_init_14 : decode cX7_init 14 = .ok (.aload_n 0, 1) := by decide +kernel
theorem dX7_init_15 : decode cX7_init 15 = .ok (.aload_n 2, 1) := by decide +kernel
theorem dX7_init_16 : decode cX7_init 16 = .ok (.putfield 15, 3) := by decide +kernel
theorem dX7_init_19 : decode cX7_init 19 = .ok (.return_, 1) := by decide +kernel
noncomputable def F_X7_init (a0 : Nat) (a1 : Nat) (a2 : Nat) (M : m_M) : Option (Unit × m_M) :=
  x_bd (F_X8_init 7 a0 a1 M) fun _ M1 =>
  x_newA 12 1000 M1 (1000 : Int32) fun v1 M2 =>
  x_pR 7 M2 a0 11 (some v1) fun M3 =>
  x_pR 7 M3 a0 10 (some a2) fun M4 =>
  some ((), M4)
set_option maxHeartbeats 4000000 in
theorem K_X7_init (a0 : Nat) (a1 : Nat) (a2 : Nat) (M : m_M) (Φ : Option Value → m_M → Prop) (h : m_ok e_V Φ (F_X7_init a0 a1 a2 M)) : j_Ct yX7_init cX7_init 3 none 2 1 1000 [.ref a0, .ref a1, .ref a2] M Φ := by
  refine j_Ct.of (by decide +kernel) (Nat.le_of_ble_eq_true rfl) fun X C => ?_
  have C0 := C.1
  show j_J X 3 0 [some (.ref a0), some (.ref a1), some (.ref a2)] [] (0, 0) M
  unfold F_X7_init at h
  refine j_aload_n C0 (pc := 0) dX7_init_0 rfl ?_
  refine j_aload_n C0 (pc := 1) dX7_init_1 rfl ?_
  refine X_cI C0 (pc := 2) (e' := e_V) (as := [.ref a1]) (rest := []) (s' := fun _ => []) (g' := (0, 0)) i_SR_3 (fun Ψ hΨ => K_X8_init_7 a0 a1 M Ψ hΨ) rfl rfl (fun _ => rfl) (by decide) (by decide) rfl (Nat.le_of_ble_eq_true rfl) dX7_init_2 h (fun _ M1 h => ?_)
  refine j_aload_n C0 (pc := 5) dX7_init_5 rfl ?_
  refine j_sipush C0 (pc := 6) dX7_init_6 (v := (1000 : Int32)) (by decide) ?_
  refine X_newI C0 (pc := 9) (cap := 1000) (g' := (1, 1000)) (j_c1 172 (by decide +kernel)) (by decide) (by decide) rfl dX7_init_9 h (fun v1 M2 h => ?_)
  refine X_pNF C0 (pc := 11) f_SR_9_7 rfl ⟨_, rfl, rfl⟩ (Or.inr ⟨_, rfl⟩) rfl dX7_init_11 h (fun M3 h => ?_)
  refine j_aload_n C0 (pc := 14) dX7_init_14 rfl ?_
  refine j_aload_n C0 (pc := 15) dX7_init_15 rfl ?_
  refine X_pNF C0 (pc := 16) f_SR_15_7 rfl ⟨_, rfl, rfl⟩ (Or.inl ⟨_, rfl⟩) rfl dX7_init_16 h (fun M4 h => ?_)
  exact j_vret C rfl h dX7_init_19 (by decide)
theorem dX5_init_0 : decode cX5_init 0 = .ok (.aload_n 0, 1) := by decide +kernel
theorem dX5_init_1 : decode cX5_init 1 = .ok (.invokespecial 3, 3) := by decide +kernel
theorem dX5_init_4 : decode cX5_init 4 = .ok (.aload_n 0, 1) := by decide +kernel
theorem dX5_init_5 : decode cX5_init 5 = .ok (.bipush 16, 2) := by decide +kernel
theorem dX5_init_7 : decode cX5_init 7 = .ok (.anewarray 11, 3) := by decide +kernel
theorem dX5_init_10 : decode cX5_init 10 = .ok (.putfield 13, 3) := by decide +kernel
theorem dX5_init_13 : decode cX5_init 13 = .ok (.aload_n 0, 1) := by decide +kernel
theorem dX5_init_14 : decode cX5_init 14 = .ok (.aload_n 1, 1) := by decide +kernel
theorem dX5_init_15 : decode cX5_init 15 = .ok (.putfield 17, 3) := by decide +kernel
theorem dX5_init_18 : decode cX5_init 18 = .ok (.iconst 0, 1) := by decide +kernel
theorem dX5_init_19 : decode cX5_init 19 = .ok (.istore_n 2, 1) := by decide +kernel
theorem dX5_init_20 : decode cX5_init 20 = .ok (.iload_n 2, 1) := by decide +kernel
theorem dX5_init_21 : decode cX5_init 21 = .ok (.bipush 16, 2) := by decide +kernel
theorem dX5_init_23 : decode cX5_init 23 = .ok (.if_icmp .ge 22, 3) := by decide +kernel
theorem dX5_init_26 : decode cX5_init 26 = .ok (.aload_n 0, 1) := by decide +kernel
theorem dX5_init_27 : decode cX5_init 27 = .ok (.getfield 13, 3) := by decide +kernel
theorem dX5_init_30 : decode cX5_init 30 = .ok (.iload_n 2, 1) := by decide +kernel
theorem dX5_init_31 : decode cX5_init 31 = .ok (.new 11, 3) := by decide +kernel
theorem dX5_init_34 : decode cX5_init 34 = .ok (.dup, 1) := by decide +kernel
theorem dX5_init_35 : decode cX5_init 35 = .ok (.invokespecial 21, 3) := by decide +kernel
theorem dX5_init_38 : decode cX5_init 38 = .ok (.aastore, 1) := by decide +kernel
theorem dX5_init_39 : decode cX5_init 39 = .ok (.iinc 2 1, 3) := by decide +kernel
theorem dX5_init_42 : decode cX5_init 42 = .ok (.goto (-22), 3) := by decide +kernel
theorem dX5_init_45 : decode cX5_init 45 = .ok (.return_, 1) := by decide +kernel
noncomputable def F_X5_init (a0 : Nat) (a1 : Nat) (M : m_M) : Option (Unit × m_M) :=
  x_newA 17 16 M (16 : Int32) fun v1 M1 =>
  x_pR 5 M1 a0 1 (some v1) fun M2 =>
  x_pR 5 M2 a0 0 (some a1) fun M3 =>
  x_gN 5 M3 a0 1 fun v2 =>
  x_new 8 M3 fun v3 M4 =>
  x_bd (F_X10_init v3 M4) fun _ M5 =>
  x_sR 17 8 M5 v2 (0 : Int32) (some v3) fun M6 =>
  x_gN 5 M6 a0 1 fun v4 =>
  x_new 8 M6 fun v5 M7 =>
  x_bd (F_X10_init v5 M7) fun _ M8 =>
  x_sR 17 8 M8 v4 (1 : Int32) (some v5) fun M9 =>
  x_gN 5 M9 a0 1 fun v6 =>
  x_new 8 M9 fun v7 M10 =>
  x_bd (F_X10_init v7 M10) fun _ M11 =>
  x_sR 17 8 M11 v6 (2 : Int32) (some v7) fun M12 =>
  x_gN 5 M12 a0 1 fun v8 =>
  x_new 8 M12 fun v9 M13 =>
  x_bd (F_X10_init v9 M13) fun _ M14 =>
  x_sR 17 8 M14 v8 (3 : Int32) (some v9) fun M15 =>
  x_gN 5 M15 a0 1 fun v10 =>
  x_new 8 M15 fun v11 M16 =>
  x_bd (F_X10_init v11 M16) fun _ M17 =>
  x_sR 17 8 M17 v10 (4 : Int32) (some v11) fun M18 =>
  x_gN 5 M18 a0 1 fun v12 =>
  x_new 8 M18 fun v13 M19 =>
  x_bd (F_X10_init v13 M19) fun _ M20 =>
  x_sR 17 8 M20 v12 (5 : Int32) (some v13) fun M21 =>
  x_gN 5 M21 a0 1 fun v14 =>
  x_new 8 M21 fun v15 M22 =>
  x_bd (F_X10_init v15 M22) fun _ M23 =>
  x_sR 17 8 M23 v14 (6 : Int32) (some v15) fun M24 =>
  x_gN 5 M24 a0 1 fun v16 =>
  x_new 8 M24 fun v17 M25 =>
  x_bd (F_X10_init v17 M25) fun _ M26 =>
  x_sR 17 8 M26 v16 (7 : Int32) (some v17) fun M27 =>
  x_gN 5 M27 a0 1 fun v18 =>
  x_new 8 M27 fun v19 M28 =>
  x_bd (F_X10_init v19 M28) fun _ M29 =>
  x_sR 17 8 M29 v18 (8 : Int32) (some v19) fun M30 =>
  x_gN 5 M30 a0 1 fun v20 =>
  x_new 8 M30 fun v21 M31 =>
  x_bd (F_X10_init v21 M31) fun _ M32 =>
  x_sR 17 8 M32 v20 (9 : Int32) (some v21) fun M33 =>
  x_gN 5 M33 a0 1 fun v22 =>
  x_new 8 M33 fun v23 M34 =>
  x_bd (F_X10_init v23 M34) fun _ M35 =>
  x_sR 17 8 M35 v22 (10 : Int32) (some v23) fun M36 =>
  x_gN 5 M36 a0 1 fun v24 =>
  x_new 8 M36 fun v25 M37 =>
  x_bd (F_X10_init v25 M37) fun _ M38 =>
  x_sR 17 8 M38 v24 (11 : Int32) (some v25) fun M39 =>
  x_gN 5 M39 a0 1 fun v26 =>
  x_new 8 M39 fun v27 M40 =>
  x_bd (F_X10_init v27 M40) fun _ M41 =>
  x_sR 17 8 M41 v26 (12 : Int32) (some v27) fun M42 =>
  x_gN 5 M42 a0 1 fun v28 =>
  x_new 8 M42 fun v29 M43 =>
  x_bd (F_X10_init v29 M43) fun _ M44 =>
  x_sR 17 8 M44 v28 (13 : Int32) (some v29) fun M45 =>
  x_gN 5 M45 a0 1 fun v30 =>
  x_new 8 M45 fun v31 M46 =>
  x_bd (F_X10_init v31 M46) fun _ M47 =>
  x_sR 17 8 M47 v30 (14 : Int32) (some v31) fun M48 =>
  x_gN 5 M48 a0 1 fun v32 =>
  x_new 8 M48 fun v33 M49 =>
  x_bd (F_X10_init v33 M49) fun _ M50 =>
  x_sR 17 8 M50 v32 (15 : Int32) (some v33) fun M51 =>
  some ((), M51)
set_option maxHeartbeats 4000000 in
theorem K_X5_init (a0 : Nat) (a1 : Nat) (M : m_M) (Φ : Option Value → m_M → Prop) (h : m_ok e_V Φ (F_X5_init a0 a1 M)) : j_Ct yX5_init cX5_init 3 none 2 33 288 [.ref a0, .ref a1] M Φ := by
  refine j_Ct.of (by decide +kernel) (Nat.le_of_ble_eq_true rfl) fun X C => ?_
  have C0 := C.1
  show j_J X 3 0 [some (.ref a0), some (.ref a1), none] [] (0, 0) M
  unfold F_X5_init at h
  refine j_aload_n C0 (pc := 0) dX5_init_0 rfl ?_
  refine j_objInit C0 (pc := 1) (j_c2 27 (by decide +kernel)) (j_c1 35 (by decide +kernel)) (j_c1 36 (by decide +kernel)) (by decide) (Nat.le_of_ble_eq_true rfl) dX5_init_1 ?_
  refine j_aload_n C0 (pc := 4) dX5_init_4 rfl ?_
  refine j_bipush C0 (pc := 5) dX5_init_5 (v := (16 : Int32)) (by decide) ?_
  refine X_anew C0 (pc := 7) (cap := 16) (g' := (1, 16)) ⟨by decide, by decide, rfl⟩ (j_c2 28 (by decide +kernel)) (by decide) (by decide) rfl dX5_init_7 h (fun v1 M1 h => ?_)
  refine X_pNF C0 (pc := 10) f_Meaning_13_5 rfl ⟨_, rfl, rfl⟩ (Or.inr ⟨_, rfl⟩) rfl dX5_init_10 h (fun M2 h => ?_)
  refine j_aload_n C0 (pc := 13) dX5_init_13 rfl ?_
  refine j_aload_n C0 (pc := 14) dX5_init_14 rfl ?_
  refine X_pNF C0 (pc := 15) f_Meaning_17_5 rfl ⟨_, rfl, rfl⟩ (Or.inl ⟨_, rfl⟩) rfl dX5_init_15 h (fun M3 h => ?_)
  refine j_iconst C0 (pc := 18) dX5_init_18 (v := (0 : Int32)) (by decide) ?_
  refine j_istore_n C0 (pc := 19) dX5_init_19 (Nat.le_of_ble_eq_true rfl) ?_
  show j_J X 3 20 [some (.ref a0), some (.ref a1), some (.int (0 : Int32))] [] (1, 16) M3
  refine j_iload_n C0 (pc := 20) dX5_init_20 rfl ?_
  refine j_bipush C0 (pc := 21) dX5_init_21 (v := (16 : Int32)) (by decide) ?_
  refine j_icmp_ge C0 (pc := 23) (tgt := 45) dX5_init_23 (by decide) (fun hc => absurd hc (by decide)) (fun _ => ?_)
  refine j_aload_n C0 (pc := 26) dX5_init_26 rfl ?_
  refine X_gN C0 (pc := 27) f_Meaning_13_5 rfl dX5_init_27 h (fun v2 h => ?_)
  refine j_iload_n C0 (pc := 30) dX5_init_30 rfl ?_
  refine X_new C0 (pc := 31) (g' := (2, 17)) k_WS (j_c2 28 (by decide +kernel)) (j_c2 30 (by decide +kernel)) (j_c1 9 (by decide +kernel)) (by decide) rfl dX5_init_31 h (fun v3 M4 h => ?_)
  refine j_dup C0 (pc := 34) dX5_init_34 rfl ?_
  refine X_cIN C0 (pc := 35) (e' := e_V) (as := []) (rest := [.ref v3, .int (0 : Int32), .ref v2]) (s' := fun _ => [.ref v3, .int (0 : Int32), .ref v2]) (g' := (3, 33)) n_Meaning_21 (fun Ψ hΨ => K_X10_init v3 M4 Ψ hΨ) rfl rfl (fun _ => rfl) (by decide) (by decide) rfl (Nat.le_of_ble_eq_true rfl) dX5_init_35 h (fun _ M5 h => ?_)
  refine X_aastN C0 (pc := 38) (by decide) dX5_init_38 h (fun M6 h => ?_)
  refine j_iinc C0 (pc := 39) dX5_init_39 (v := (1 : Int32)) rfl (Nat.le_of_ble_eq_true rfl) (by decide) ?_
  show j_J X 3 42 [some (.ref a0), some (.ref a1), some (.int (1 : Int32))] [] (3, 33) M6
  refine j_goto C0 (pc := 42) (tgt := 20) dX5_init_42 (by decide) ?_
  refine j_iload_n C0 (pc := 20) dX5_init_20 rfl ?_
  refine j_bipush C0 (pc := 21) dX5_init_21 (v := (16 : Int32)) (by decide) ?_
  refine j_icmp_ge C0 (pc := 23) (tgt := 45) dX5_init_23 (by decide) (fun hc => absurd hc (by decide)) (fun _ => ?_)
  refine j_aload_n C0 (pc := 26) dX5_init_26 rfl ?_
  refine X_gN C0 (pc := 27) f_Meaning_13_5 rfl dX5_init_27 h (fun v4 h => ?_)
  refine j_iload_n C0 (pc := 30) dX5_init_30 rfl ?_
  refine X_new C0 (pc := 31) (g' := (4, 34)) k_WS (j_c2 28 (by decide +kernel)) (j_c2 30 (by decide +kernel)) (j_c1 9 (by decide +kernel)) (by decide) rfl dX5_init_31 h (fun v5 M7 h => ?_)
  refine j_dup C0 (pc := 34) dX5_init_34 rfl ?_
  refine X_cIN C0 (pc := 35) (e' := e_V) (as := []) (rest := [.ref v5, .int (1 : Int32), .ref v4]) (s' := fun _ => [.ref v5, .int (1 : Int32), .ref v4]) (g' := (5, 50)) n_Meaning_21 (fun Ψ hΨ => K_X10_init v5 M7 Ψ hΨ) rfl rfl (fun _ => rfl) (by decide) (by decide) rfl (Nat.le_of_ble_eq_true rfl) dX5_init_35 h (fun _ M8 h => ?_)
  refine X_aastN C0 (pc := 38) (by decide) dX5_init_38 h (fun M9 h => ?_)
  refine j_iinc C0 (pc := 39) dX5_init_39 (v := (2 : Int32)) rfl (Nat.le_of_ble_eq_true rfl) (by decide) ?_
  show j_J X 3 42 [some (.ref a0), some (.ref a1), some (.int (2 : Int32))] [] (5, 50) M9
  refine j_goto C0 (pc := 42) (tgt := 20) dX5_init_42 (by decide) ?_
  refine j_iload_n C0 (pc := 20) dX5_init_20 rfl ?_
  refine j_bipush C0 (pc := 21) dX5_init_21 (v := (16 : Int32)) (by decide) ?_
  refine j_icmp_ge C0 (pc := 23) (tgt := 45) dX5_init_23 (by decide) (fun hc => absurd hc (by decide)) (fun _ => ?_)
  refine j_aload_n C0 (pc := 26) dX5_init_26 rfl ?_
  refine X_gN C0 (pc := 27) f_Meaning_13_5 rfl dX5_init_27 h (fun v6 h => ?_)
  refine j_iload_n C0 (pc := 30) dX5_init_30 rfl ?_
  refine X_new C0 (pc := 31) (g' := (6, 51)) k_WS (j_c2 28 (by decide +kernel)) (j_c2 30 (by decide +kernel)) (j_c1 9 (by decide +kernel)) (by decide) rfl dX5_init_31 h (fun v7 M10 h => ?_)
  refine j_dup C0 (pc := 34) dX5_init_34 rfl ?_
  refine X_cIN C0 (pc := 35) (e' := e_V) (as := []) (rest := [.ref v7, .int (2 : Int32), .ref v6]) (s' := fun _ => [.ref v7, .int (2 : Int32), .ref v6]) (g' := (7, 67)) n_Meaning_21 (fun Ψ hΨ => K_X10_init v7 M10 Ψ hΨ) rfl rfl (fun _ => rfl) (by decide) (by decide) rfl (Nat.le_of_ble_eq_true rfl) dX5_init_35 h (fun _ M11 h => ?_)
  refine X_aastN C0 (pc := 38) (by decide) dX5_init_38 h (fun M12 h => ?_)
  refine j_iinc C0 (pc := 39) dX5_init_39 (v := (3 : Int32)) rfl (Nat.le_of_ble_eq_true rfl) (by decide) ?_
  show j_J X 3 42 [some (.ref a0), some (.ref a1), some (.int (3 : Int32))] [] (7, 67) M12
  refine j_goto C0 (pc := 42) (tgt := 20) dX5_init_42 (by decide) ?_
  refine j_iload_n C0 (pc := 20) dX5_init_20 rfl ?_
  refine j_bipush C0 (pc := 21) dX5_init_21 (v := (16 : Int32)) (by decide) ?_
  refine j_icmp_ge C0 (pc := 23) (tgt := 45) dX5_init_23 (by decide) (fun hc => absurd hc (by decide)) (fun _ => ?_)
  refine j_aload_n C0 (pc := 26) dX5_init_26 rfl ?_
  refine X_gN C0 (pc := 27) f_Meaning_13_5 rfl dX5_init_27 h (fun v8 h => ?_)
  refine j_iload_n C0 (pc := 30) dX5_init_30 rfl ?_
  refine X_new C0 (pc := 31) (g' := (8, 68)) k_WS (j_c2 28 (by decide +kernel)) (j_c2 30 (by decide +kernel)) (j_c1 9 (by decide +kernel)) (by decide) rfl dX5_init_31 h (fun v9 M13 h => ?_)
  refine j_dup C0 (pc := 34) dX5_init_34 rfl ?_
  refine X_cIN C0 (pc := 35) (e' := e_V) (as := []) (rest := [.ref v9, .int (3 : Int32), .ref v8]) (s' := fun _ => [.ref v9, .int (3 : Int32), .ref v8]) (g' := (9, 84)) n_Meaning_21 (fun Ψ hΨ => K_X10_init v9 M13 Ψ hΨ) rfl rfl (fun _ => rfl) (by decide) (by decide) rfl (Nat.le_of_ble_eq_true rfl) dX5_init_35 h (fun _ M14 h => ?_)
  refine X_aastN C0 (pc := 38) (by decide) dX5_init_38 h (fun M15 h => ?_)
  refine j_iinc C0 (pc := 39) dX5_init_39 (v := (4 : Int32)) rfl (Nat.le_of_ble_eq_true rfl) (by decide) ?_
  show j_J X 3 42 [some (.ref a0), some (.ref a1), some (.int (4 : Int32))] [] (9, 84) M15
  refine j_goto C0 (pc := 42) (tgt := 20) dX5_init_42 (by decide) ?_
  refine j_iload_n C0 (pc := 20) dX5_init_20 rfl ?_
  refine j_bipush C0 (pc := 21) dX5_init_21 (v := (16 : Int32)) (by decide) ?_
  refine j_icmp_ge C0 (pc := 23) (tgt := 45) dX5_init_23 (by decide) (fun hc => absurd hc (by decide)) (fun _ => ?_)
  refine j_aload_n C0 (pc := 26) dX5_init_26 rfl ?_
  refine X_gN C0 (pc := 27) f_Meaning_13_5 rfl dX5_init_27 h (fun v10 h => ?_)
  refine j_iload_n C0 (pc := 30) dX5_init_30 rfl ?_
  refine X_new C0 (pc := 31) (g' := (10, 85)) k_WS (j_c2 28 (by decide +kernel)) (j_c2 30 (by decide +kernel)) (j_c1 9 (by decide +kernel)) (by decide) rfl dX5_init_31 h (fun v11 M16 h => ?_)
  refine j_dup C0 (pc := 34) dX5_init_34 rfl ?_
  refine X_cIN C0 (pc := 35) (e' := e_V) (as := []) (rest := [.ref v11, .int (4 : Int32), .ref v10]) (s' := fun _ => [.ref v11, .int (4 : Int32), .ref v10]) (g' := (11, 101)) n_Meaning_21 (fun Ψ hΨ => K_X10_init v11 M16 Ψ hΨ) rfl rfl (fun _ => rfl) (by decide) (by decide) rfl (Nat.le_of_ble_eq_true rfl) dX5_init_35 h (fun _ M17 h => ?_)
  refine X_aastN C0 (pc := 38) (by decide) dX5_init_38 h (fun M18 h => ?_)
  refine j_iinc C0 (pc := 39) dX5_init_39 (v := (5 : Int32)) rfl (Nat.le_of_ble_eq_true rfl) (by decide) ?_
  show j_J X 3 42 [some (.ref a0), some (.ref a1), some (.int (5 : Int32))] [] (11, 101) M18
  refine j_goto C0 (pc := 42) (tgt := 20) dX5_init_42 (by decide) ?_
  refine j_iload_n C0 (pc := 20) dX5_init_20 rfl ?_
  refine j_bipush C0 (pc := 21) dX5_init_21 (v := (16 : Int32)) (by decide) ?_
  refine j_icmp_ge C0 (pc := 23) (tgt := 45) dX5_init_23 (by decide) (fun hc => absurd hc (by decide)) (fun _ => ?_)
  refine j_aload_n C0 (pc := 26) dX5_init_26 rfl ?_
  refine X_gN C0 (pc := 27) f_Meaning_13_5 rfl dX5_init_27 h (fun v12 h => ?_)
  refine j_iload_n C0 (pc := 30) dX5_init_30 rfl ?_
  refine X_new C0 (pc := 31) (g' := (12, 102)) k_WS (j_c2 28 (by decide +kernel)) (j_c2 30 (by decide +kernel)) (j_c1 9 (by decide +kernel)) (by decide) rfl dX5_init_31 h (fun v13 M19 h => ?_)
  refine j_dup C0 (pc := 34) dX5_init_34 rfl ?_
  refine X_cIN C0 (pc := 35) (e' := e_V) (as := []) (rest := [.ref v13, .int (5 : Int32), .ref v12]) (s' := fun _ => [.ref v13, .int (5 : Int32), .ref v12]) (g' := (13, 118)) n_Meaning_21 (fun Ψ hΨ => K_X10_init v13 M19 Ψ hΨ) rfl rfl (fun _ => rfl) (by decide) (by decide) rfl (Nat.le_of_ble_eq_true rfl) dX5_init_35 h (fun _ M20 h => ?_)
  refine X_aastN C0 (pc := 38) (by decide) dX5_init_38 h (fun M21 h => ?_)
  refine j_iinc C0 (pc := 39) dX5_init_39 (v := (6 : Int32)) rfl (Nat.le_of_ble_eq_true rfl) (by decide) ?_
  show j_J X 3 42 [some (.ref a0), some (.ref a1), some (.int (6 : Int32))] [] (13, 118) M21
  refine j_goto C0 (pc := 42) (tgt := 20) dX5_init_42 (by decide) ?_
  refine j_iload_n C0 (pc := 20) dX5_init_20 rfl ?_
  refine j_bipush C0 (pc := 21) dX5_init_21 (v := (16 : Int32)) (by decide) ?_
  refine j_icmp_ge C0 (pc := 23) (tgt := 45) dX5_init_23 (by decide) (fun hc => absurd hc (by decide)) (fun _ => ?_)
  refine j_aload_n C0 (pc := 26) dX5_init_26 rfl ?_
  refine X_gN C0 (pc := 27) f_Meaning_13_5 rfl dX5_init_27 h (fun v14 h => ?_)
  refine j_iload_n C0 (pc := 30) dX5_init_30 rfl ?_
  refine X_new C0 (pc := 31) (g' := (14, 119)) k_WS (j_c2 28 (by decide +kernel)) (j_c2 30 (by decide +kernel)) (j_c1 9 (by decide +kernel)) (by decide) rfl dX5_init_31 h (fun v15 M22 h => ?_)
  refine j_dup C0 (pc := 34) dX5_init_34 rfl ?_
  refine X_cIN C0 (pc := 35) (e' := e_V) (as := []) (rest := [.ref v15, .int (6 : Int32), .ref v14]) (s' := fun _ => [.ref v15, .int (6 : Int32), .ref v14]) (g' := (15, 135)) n_Meaning_21 (fun Ψ hΨ => K_X10_init v15 M22 Ψ hΨ) rfl rfl (fun _ => rfl) (by decide) (by decide) rfl (Nat.le_of_ble_eq_true rfl) dX5_init_35 h (fun _ M23 h => ?_)
  refine X_aastN C0 (pc := 38) (by decide) dX5_init_38 h (fun M24 h => ?_)
  refine j_iinc C0 (pc := 39) dX5_init_39 (v := (7 : Int32)) rfl (Nat.le_of_ble_eq_true rfl) (by decide) ?_
  show j_J X 3 42 [some (.ref a0), some (.ref a1), some (.int (7 : Int32))] [] (15, 135) M24
  refine j_goto C0 (pc := 42) (tgt := 20) dX5_init_42 (by decide) ?_
  refine j_iload_n C0 (pc := 20) dX5_init_20 rfl ?_
  refine j_bipush C0 (pc := 21) dX5_init_21 (v := (16 : Int32)) (by decide) ?_
  refine j_icmp_ge C0 (pc := 23) (tgt := 45) dX5_init_23 (by decide) (fun hc => absurd hc (by decide)) (fun _ => ?_)
  refine j_aload_n C0 (pc := 26) dX5_init_26 rfl ?_
  refine X_gN C0 (pc := 27) f_Meaning_13_5 rfl dX5_init_27 h (fun v16 h => ?_)
  refine j_iload_n C0 (pc := 30) dX5_init_30 rfl ?_
  refine X_new C0 (pc := 31) (g' := (16, 136)) k_WS (j_c2 28 (by decide +kernel)) (j_c2 30 (by decide +kernel)) (j_c1 9 (by decide +kernel)) (by decide) rfl dX5_init_31 h (fun v17 M25 h => ?_)
  refine j_dup C0 (pc := 34) dX5_init_34 rfl ?_
  refine X_cIN C0 (pc := 35) (e' := e_V) (as := []) (rest := [.ref v17, .int (7 : Int32), .ref v16]) (s' := fun _ => [.ref v17, .int (7 : Int32), .ref v16]) (g' := (17, 152)) n_Meaning_21 (fun Ψ hΨ => K_X10_init v17 M25 Ψ hΨ) rfl rfl (fun _ => rfl) (by decide) (by decide) rfl (Nat.le_of_ble_eq_true rfl) dX5_init_35 h (fun _ M26 h => ?_)
  refine X_aastN C0 (pc := 38) (by decide) dX5_init_38 h (fun M27 h => ?_)
  refine j_iinc C0 (pc := 39) dX5_init_39 (v := (8 : Int32)) rfl (Nat.le_of_ble_eq_true rfl) (by decide) ?_
  show j_J X 3 42 [some (.ref a0), some (.ref a1), some (.int (8 : Int32))] [] (17, 152) M27
  refine j_goto C0 (pc := 42) (tgt := 20) dX5_init_42 (by decide) ?_
  refine j_iload_n C0 (pc := 20) dX5_init_20 rfl ?_
  refine j_bipush C0 (pc := 21) dX5_init_21 (v := (16 : Int32)) (by decide) ?_
  refine j_icmp_ge C0 (pc := 23) (tgt := 45) dX5_init_23 (by decide) (fun hc => absurd hc (by decide)) (fun _ => ?_)
  refine j_aload_n C0 (pc := 26) dX5_init_26 rfl ?_
  refine X_gN C0 (pc := 27) f_Meaning_13_5 rfl dX5_init_27 h (fun v18 h => ?_)
  refine j_iload_n C0 (pc := 30) dX5_init_30 rfl ?_
  refine X_new C0 (pc := 31) (g' := (18, 153)) k_WS (j_c2 28 (by decide +kernel)) (j_c2 30 (by decide +kernel)) (j_c1 9 (by decide +kernel)) (by decide) rfl dX5_init_31 h (fun v19 M28 h => ?_)
  refine j_dup C0 (pc := 34) dX5_init_34 rfl ?_
  refine X_cIN C0 (pc := 35) (e' := e_V) (as := []) (rest := [.ref v19, .int (8 : Int32), .ref v18]) (s' := fun _ => [.ref v19, .int (8 : Int32), .ref v18]) (g' := (19, 169)) n_Meaning_21 (fun Ψ hΨ => K_X10_init v19 M28 Ψ hΨ) rfl rfl (fun _ => rfl) (by decide) (by decide) rfl (Nat.le_of_ble_eq_true rfl) dX5_init_35 h (fun _ M29 h => ?_)
  refine X_aastN C0 (pc := 38) (by decide) dX5_init_38 h (fun M30 h => ?_)
  refine j_iinc C0 (pc := 39) dX5_init_39 (v := (9 : Int32)) rfl (Nat.le_of_ble_eq_true rfl) (by decide) ?_
  show j_J X 3 42 [some (.ref a0), some (.ref a1), some (.int (9 : Int32))] [] (19, 169) M30
  refine j_goto C0 (pc := 42) (tgt := 20) dX5_init_42 (by decide) ?_
  refine j_iload_n C0 (pc := 20) dX5_init_20 rfl ?_
  refine j_bipush C0 (pc := 21) dX5_init_21 (v := (16 : Int32)) (by decide) ?_
  refine j_icmp_ge C0 (pc := 23) (tgt := 45) dX5_init_23 (by decide) (fun hc => absurd hc (by decide)) (fun _ => ?_)
  refine j_aload_n C0 (pc := 26) dX5_init_26 rfl ?_
  refine X_gN C0 (pc := 27) f_Meaning_13_5 rfl dX5_init_27 h (fun v20 h => ?_)
  refine j_iload_n C0 (pc := 30) dX5_init_30 rfl ?_
  refine X_new C0 (pc := 31) (g' := (20, 170)) k_WS (j_c2 28 (by decide +kernel)) (j_c2 30 (by decide +kernel)) (j_c1 9 (by decide +kernel)) (by decide) rfl dX5_init_31 h (fun v21 M31 h => ?_)
  refine j_dup C0 (pc := 34) dX5_init_34 rfl ?_
  refine X_cIN C0 (pc := 35) (e' := e_V) (as := []) (rest := [.ref v21, .int (9 : Int32), .ref v20]) (s' := fun _ => [.ref v21, .int (9 : Int32), .ref v20]) (g' := (21, 186)) n_Meaning_21 (fun Ψ hΨ => K_X10_init v21 M31 Ψ hΨ) rfl rfl (fun _ => rfl) (by decide) (by decide) rfl (Nat.le_of_ble_eq_true rfl) dX5_init_35 h (fun _ M32 h => ?_)
  refine X_aastN C0 (pc := 38) (by decide) dX5_init_38 h (fun M33 h => ?_)
  refine j_iinc C0 (pc := 39) dX5_init_39 (v := (10 : Int32)) rfl (Nat.le_of_ble_eq_true rfl) (by decide) ?_
  show j_J X 3 42 [some (.ref a0), some (.ref a1), some (.int (10 : Int32))] [] (21, 186) M33
  refine j_goto C0 (pc := 42) (tgt := 20) dX5_init_42 (by decide) ?_
  refine j_iload_n C0 (pc := 20) dX5_init_20 rfl ?_
  refine j_bipush C0 (pc := 21) dX5_init_21 (v := (16 : Int32)) (by decide) ?_
  refine j_icmp_ge C0 (pc := 23) (tgt := 45) dX5_init_23 (by decide) (fun hc => absurd hc (by decide)) (fun _ => ?_)
  refine j_aload_n C0 (pc := 26) dX5_init_26 rfl ?_
  refine X_gN C0 (pc := 27) f_Meaning_13_5 rfl dX5_init_27 h (fun v22 h => ?_)
  refine j_iload_n C0 (pc := 30) dX5_init_30 rfl ?_
  refine X_new C0 (pc := 31) (g' := (22, 187)) k_WS (j_c2 28 (by decide +kernel)) (j_c2 30 (by decide +kernel)) (j_c1 9 (by decide +kernel)) (by decide) rfl dX5_init_31 h (fun v23 M34 h => ?_)
  refine j_dup C0 (pc := 34) dX5_init_34 rfl ?_
  refine X_cIN C0 (pc := 35) (e' := e_V) (as := []) (rest := [.ref v23, .int (10 : Int32), .ref v22]) (s' := fun _ => [.ref v23, .int (10 : Int32), .ref v22]) (g' := (23, 203)) n_Meaning_21 (fun Ψ hΨ => K_X10_init v23 M34 Ψ hΨ) rfl rfl (fun _ => rfl) (by decide) (by decide) rfl (Nat.le_of_ble_eq_true rfl) dX5_init_35 h (fun _ M35 h => ?_)
  refine X_aastN C0 (pc := 38) (by decide) dX5_init_38 h (fun M36 h => ?_)
  refine j_iinc C0 (pc := 39) dX5_init_39 (v := (11 : Int32)) rfl (Nat.le_of_ble_eq_true rfl) (by decide) ?_
  show j_J X 3 42 [some (.ref a0), some (.ref a1), some (.int (11 : Int32))] [] (23, 203) M36
  refine j_goto C0 (pc := 42) (tgt := 20) dX5_init_42 (by decide) ?_
  refine j_iload_n C0 (pc := 20) dX5_init_20 rfl ?_
  refine j_bipush C0 (pc := 21) dX5_init_21 (v := (16 : Int32)) (by decide) ?_
  refine j_icmp_ge C0 (pc := 23) (tgt := 45) dX5_init_23 (by decide) (fun hc => absurd hc (by decide)) (fun _ => ?_)
  refine j_aload_n C0 (pc := 26) dX5_init_26 rfl ?_
  refine X_gN C0 (pc := 27) f_Meaning_13_5 rfl dX5_init_27 h (fun v24 h => ?_)
  refine j_iload_n C0 (pc := 30) dX5_init_30 rfl ?_
  refine X_new C0 (pc := 31) (g' := (24, 204)) k_WS (j_c2 28 (by decide +kernel)) (j_c2 30 (by decide +kernel)) (j_c1 9 (by decide +kernel)) (by decide) rfl dX5_init_31 h (fun v25 M37 h => ?_)
  refine j_dup C0 (pc := 34) dX5_init_34 rfl ?_
  refine X_cIN C0 (pc := 35) (e' := e_V) (as := []) (rest := [.ref v25, .int (11 : Int32), .ref v24]) (s' := fun _ => [.ref v25, .int (11 : Int32), .ref v24]) (g' := (25, 220)) n_Meaning_21 (fun Ψ hΨ => K_X10_init v25 M37 Ψ hΨ) rfl rfl (fun _ => rfl) (by decide) (by decide) rfl (Nat.le_of_ble_eq_true rfl) dX5_init_35 h (fun _ M38 h => ?_)
  refine X_aastN C0 (pc := 38) (by decide) dX5_init_38 h (fun M39 h => ?_)
  refine j_iinc C0 (pc := 39) dX5_init_39 (v := (12 : Int32)) rfl (Nat.le_of_ble_eq_true rfl) (by decide) ?_
  show j_J X 3 42 [some (.ref a0), some (.ref a1), some (.int (12 : Int32))] [] (25, 220) M39
  refine j_goto C0 (pc := 42) (tgt := 20) dX5_init_42 (by decide) ?_
  refine j_iload_n C0 (pc := 20) dX5_init_20 rfl ?_
  refine j_bipush C0 (pc := 21) dX5_init_21 (v := (16 : Int32)) (by decide) ?_
  refine j_icmp_ge C0 (pc := 23) (tgt := 45) dX5_init_23 (by decide) (fun hc => absurd hc (by decide)) (fun _ => ?_)
  refine j_aload_n C0 (pc := 26) dX5_init_26 rfl ?_
  refine X_gN C0 (pc := 27) f_Meaning_13_5 rfl dX5_init_27 h (fun v26 h => ?_)
  refine j_iload_n C0 (pc := 30) dX5_init_30 rfl ?_
  refine X_new C0 (pc := 31) (g' := (26, 221)) k_WS (j_c2 28 (by decide +kernel)) (j_c2 30 (by decide +kernel)) (j_c1 9 (by decide +kernel)) (by decide) rfl dX5_init_31 h (fun v27 M40 h => ?_)
  refine j_dup C0 (pc := 34) dX5_init_34 rfl ?_
  refine X_cIN C0 (pc := 35) (e' := e_V) (as := []) (rest := [.ref v27, .int (12 : Int32), .ref v26]) (s' := fun _ => [.ref v27, .int (12 : Int32), .ref v26]) (g' := (27, 237)) n_Meaning_21 (fun Ψ hΨ => K_X10_init v27 M40 Ψ hΨ) rfl rfl (fun _ => rfl) (by decide) (by decide) rfl (Nat.le_of_ble_eq_true rfl) dX5_init_35 h (fun _ M41 h => ?_)
  refine X_aastN C0 (pc := 38) (by decide) dX5_init_38 h (fun M42 h => ?_)
  refine j_iinc C0 (pc := 39) dX5_init_39 (v := (13 : Int32)) rfl (Nat.le_of_ble_eq_true rfl) (by decide) ?_
  show j_J X 3 42 [some (.ref a0), some (.ref a1), some (.int (13 : Int32))] [] (27, 237) M42
  refine j_goto C0 (pc := 42) (tgt := 20) dX5_init_42 (by decide) ?_
  refine j_iload_n C0 (pc := 20) dX5_init_20 rfl ?_
  refine j_bipush C0 (pc := 21) dX5_init_21 (v := (16 : Int32)) (by decide) ?_
  refine j_icmp_ge C0 (pc := 23) (tgt := 45) dX5_init_23 (by decide) (fun hc => absurd hc (by decide)) (fun _ => ?_)
  refine j_aload_n C0 (pc := 26) dX5_init_26 rfl ?_
  refine X_gN C0 (pc := 27) f_Meaning_13_5 rfl dX5_init_27 h (fun v28 h => ?_)
  refine j_iload_n C0 (pc := 30) dX5_init_30 rfl ?_
  refine X_new C0 (pc := 31) (g' := (28, 238)) k_WS (j_c2 28 (by decide +kernel)) (j_c2 30 (by decide +kernel)) (j_c1 9 (by decide +kernel)) (by decide) rfl dX5_init_31 h (fun v29 M43 h => ?_)
  refine j_dup C0 (pc := 34) dX5_init_34 rfl ?_
  refine X_cIN C0 (pc := 35) (e' := e_V) (as := []) (rest := [.ref v29, .int (13 : Int32), .ref v28]) (s' := fun _ => [.ref v29, .int (13 : Int32), .ref v28]) (g' := (29, 254)) n_Meaning_21 (fun Ψ hΨ => K_X10_init v29 M43 Ψ hΨ) rfl rfl (fun _ => rfl) (by decide) (by decide) rfl (Nat.le_of_ble_eq_true rfl) dX5_init_35 h (fun _ M44 h => ?_)
  refine X_aastN C0 (pc := 38) (by decide) dX5_init_38 h (fun M45 h => ?_)
  refine j_iinc C0 (pc := 39) dX5_init_39 (v := (14 : Int32)) rfl (Nat.le_of_ble_eq_true rfl) (by decide) ?_
  show j_J X 3 42 [some (.ref a0), some (.ref a1), some (.int (14 : Int32))] [] (29, 254) M45
  refine j_goto C0 (pc := 42) (tgt := 20) dX5_init_42 (by decide) ?_
  refine j_iload_n C0 (pc := 20) dX5_init_20 rfl ?_
  refine j_bipush C0 (pc := 21) dX5_init_21 (v := (16 : Int32)) (by decide) ?_
  refine j_icmp_ge C0 (pc := 23) (tgt := 45) dX5_init_23 (by decide) (fun hc => absurd hc (by decide)) (fun _ => ?_)
  refine j_aload_n C0 (pc := 26) dX5_init_26 rfl ?_
  refine X_gN C0 (pc := 27) f_Meaning_13_5 rfl dX5_init_27 h (fun v30 h => ?_)
  refine j_iload_n C0 (pc := 30) dX5_init_30 rfl ?_
  refine X_new C0 (pc := 31) (g' := (30, 255)) k_WS (j_c2 28 (by decide +kernel)) (j_c2 30 (by decide +kernel)) (j_c1 9 (by decide +kernel)) (by decide) rfl dX5_init_31 h (fun v31 M46 h => ?_)
  refine j_dup C0 (pc := 34) dX5_init_34 rfl ?_
  refine X_cIN C0 (pc := 35) (e' := e_V) (as := []) (rest := [.ref v31, .int (14 : Int32), .ref v30]) (s' := fun _ => [.ref v31, .int (14 : Int32), .ref v30]) (g' := (31, 271)) n_Meaning_21 (fun Ψ hΨ => K_X10_init v31 M46 Ψ hΨ) rfl rfl (fun _ => rfl) (by decide) (by decide) rfl (Nat.le_of_ble_eq_true rfl) dX5_init_35 h (fun _ M47 h => ?_)
  refine X_aastN C0 (pc := 38) (by decide) dX5_init_38 h (fun M48 h => ?_)
  refine j_iinc C0 (pc := 39) dX5_init_39 (v := (15 : Int32)) rfl (Nat.le_of_ble_eq_true rfl) (by decide) ?_
  show j_J X 3 42 [some (.ref a0), some (.ref a1), some (.int (15 : Int32))] [] (31, 271) M48
  refine j_goto C0 (pc := 42) (tgt := 20) dX5_init_42 (by decide) ?_
  refine j_iload_n C0 (pc := 20) dX5_init_20 rfl ?_
  refine j_bipush C0 (pc := 21) dX5_init_21 (v := (16 : Int32)) (by decide) ?_
  refine j_icmp_ge C0 (pc := 23) (tgt := 45) dX5_init_23 (by decide) (fun hc => absurd hc (by decide)) (fun _ => ?_)
  refine j_aload_n C0 (pc := 26) dX5_init_26 rfl ?_
  refine X_gN C0 (pc := 27) f_Meaning_13_5 rfl dX5_init_27 h (fun v32 h => ?_)
  refine j_iload_n C0 (pc := 30) dX5_init_30 rfl ?_
  refine X_new C0 (pc := 31) (g' := (32, 272)) k_WS (j_c2 28 (by decide +kernel)) (j_c2 30 (by decide +kernel)) (j_c1 9 (by decide +kernel)) (by decide) rfl dX5_init_31 h (fun v33 M49 h => ?_)
  refine j_dup C0 (pc := 34) dX5_init_34 rfl ?_
  refine X_cIN C0 (pc := 35) (e' := e_V) (as := []) (rest := [.ref v33, .int (15 : Int32), .ref v32]) (s' := fun _ => [.ref v33, .int (15 : Int32), .ref v32]) (g' := (33, 288)) n_Meaning_21 (fun Ψ hΨ => K_X10_init v33 M49 Ψ hΨ) rfl rfl (fun _ => rfl) (by decide) (by decide) rfl (Nat.le_of_ble_eq_true rfl) dX5_init_35 h (fun _ M50 h => ?_)
  refine X_aastN C0 (pc := 38) (by decide) dX5_init_38 h (fun M51 h => ?_)
  refine j_iinc C0 (pc := 39) dX5_init_39 (v := (16 : Int32)) rfl (Nat.le_of_ble_eq_true rfl) (by decide) ?_
  show j_J X 3 42 [some (.ref a0), some (.ref a1), some (.int (16 : Int32))] [] (33, 288) M51
  refine j_goto C0 (pc := 42) (tgt := 20) dX5_init_42 (by decide) ?_
  refine j_iload_n C0 (pc := 20) dX5_init_20 rfl ?_
  refine j_bipush C0 (pc := 21) dX5_init_21 (v := (16 : Int32)) (by decide) ?_
  refine j_icmp_ge C0 (pc := 23) (tgt := 45) dX5_init_23 (by decide) (fun _ => ?_) (fun hc => absurd hc (by decide))
  exact j_vret C rfl h dX5_init_45 (by decide)
theorem dX2_init_0 : decode cX2_init 0 = .ok (.aload_n 0, 1) := by decide +kernel
theorem dX2_init_1 : decode cX2_init 1 = .ok (.invokespecial 3, 3) := by decide +kernel
theorem dX2_init_4 : decode cX2_init 4 = .ok (.aload_n 0, 1) := by decide +kernel
theorem dX2_init_5 : decode cX2_init 5 = .ok (.bipush 20, 2) := by decide +kernel
theorem dX2_init_7 : decode cX2_init 7 = .ok (.newarray .int, 2) := by decide +kernel
theorem dX2_init_9 : decode cX2_init 9 = .ok (.putfield 9, 3) := by decide +kernel
theorem dX2_init_12 : decode cX2_init 12 = .ok (.aload_n 0, 1) := by decide +kernel
theorem dX2_init_13 : decode cX2_init 13 = .ok (.sipush 6400, 3) := by decide +kernel
theorem dX2_init_16 : decode cX2_init 16 = .ok (.newarray .long, 2) := by decide +kernel
theorem dX2_init_18 : decode cX2_init 18 = .ok (.putfield 15, 3) := by decide +kernel
theorem dX2_init_21 : decode cX2_init 21 = .ok (.aload_n 0, 1) := by decide +kernel
theorem dX2_init_22 : decode cX2_init 22 = .ok (.sipush 6400, 3) := by decide +kernel
theorem dX2_init_25 : decode cX2_init 25 = .ok (.newarray .long, 2) := by decide +kernel
theorem dX2_init_27 : decode cX2_init 27 = .ok (.putfield 19, 3) := by decide +kernel
theorem dX2_init_30 : decode cX2_init 30 = .ok (.aload_n 0, 1) := by decide +kernel
theorem dX2_init_31 : decode cX2_init 31 = .ok (.sipush 800, 3) := by decide +kernel
theorem dX2_init_34 : decode cX2_init 34 = .ok (.newarray .int, 2) := by decide +kernel
theorem dX2_init_36 : decode cX2_init 36 = .ok (.putfield 22, 3) := by decide +kernel
theorem dX2_init_39 : decode cX2_init 39 = .ok (.aload_n 0, 1) := by decide +kernel
theorem dX2_init_40 : decode cX2_init 40 = .ok (.sipush 800, 3) := by decide +kernel
theorem dX2_init_43 : decode cX2_init 43 = .ok (.newarray .int, 2) := by decide +kernel
theorem dX2_init_45 : decode cX2_init 45 = .ok (.putfield 25, 3) := by decide +kernel
theorem dX2_init_48 : decode cX2_init 48 = .ok (.aload_n 0, 1) := by decide +kernel
theorem dX2_init_49 : decode cX2_init 49 = .ok (.new 28, 3) := by decide +kernel
theorem dX2_init_52 : decode cX2_init 52 = .ok (.dup, 1) := by decide +kernel
theorem dX2_init_53 : decode cX2_init 53 = .ok (.invokespecial 30, 3) := by decide +kernel
theorem dX2_init_56 : decode cX2_init 56 = .ok (.putfield 31, 3) := by decide +kernel
theorem dX2_init_59 : decode cX2_init 59 = .ok (.aload_n 0, 1) := by decide +kernel
theorem dX2_init_60 : decode cX2_init 60 = .ok (.new 28, 3) := by decide +kernel
theorem dX2_init_63 : decode cX2_init 63 = .ok (.dup, 1) := by decide +kernel
theorem dX2_init_64 : decode cX2_init 64 = .ok (.invokespecial 30, 3) := by decide +kernel
theorem dX2_init_67 : decode cX2_init 67 = .ok (.putfield 35, 3) := by decide +kernel
theorem dX2_init_70 : decode cX2_init 70 = .ok (.aload_n 0, 1) := by decide +kernel
theorem dX2_init_71 : decode cX2_init 71 = .ok (.aload_n 1, 1) := by decide +kernel
theorem dX2_init_72 : decode cX2_init 72 = .ok (.putfield 38, 3) := by decide +kernel
theorem dX2_init_75 : decode cX2_init 75 = .ok (.return_, 1) := by decide +kernel
noncomputable def F_X2_init (a0 : Nat) (a1 : Nat) (M : m_M) : Option (Unit × m_M) :=
  x_newA 12 20 M (20 : Int32) fun v1 M1 =>
  x_pR 2 M1 a0 4 (some v1) fun M2 =>
  x_newA 13 6400 M2 (6400 : Int32) fun v2 M3 =>
  x_pR 2 M3 a0 6 (some v2) fun M4 =>
  x_newA 13 6400 M4 (6400 : Int32) fun v3 M5 =>
  x_pR 2 M5 a0 7 (some v3) fun M6 =>
  x_newA 12 800 M6 (800 : Int32) fun v4 M7 =>
  x_pR 2 M7 a0 8 (some v4) fun M8 =>
  x_newA 12 800 M8 (800 : Int32) fun v5 M9 =>
  x_pR 2 M9 a0 9 (some v5) fun M10 =>
  x_new 8 M10 fun v6 M11 =>
  x_bd (F_X10_init v6 M11) fun _ M12 =>
  x_pR 2 M12 a0 10 (some v6) fun M13 =>
  x_new 8 M13 fun v7 M14 =>
  x_bd (F_X10_init v7 M14) fun _ M15 =>
  x_pR 2 M15 a0 11 (some v7) fun M16 =>
  x_pR 2 M16 a0 5 (some a1) fun M17 =>
  some ((), M17)
set_option maxHeartbeats 4000000 in
theorem K_X2_init (a0 : Nat) (a1 : Nat) (M : m_M) (Φ : Option Value → m_M → Prop) (h : m_ok e_V Φ (F_X2_init a0 a1 M)) : j_Ct yX2_init cX2_init 2 none 2 9 14454 [.ref a0, .ref a1] M Φ := by
  refine j_Ct.of (by decide +kernel) (Nat.le_of_ble_eq_true rfl) fun X C => ?_
  have C0 := C.1
  show j_J X 2 0 [some (.ref a0), some (.ref a1)] [] (0, 0) M
  unfold F_X2_init at h
  refine j_aload_n C0 (pc := 0) dX2_init_0 rfl ?_
  refine j_objInit C0 (pc := 1) (j_c2 54 (by decide +kernel)) (j_c1 35 (by decide +kernel)) (j_c1 36 (by decide +kernel)) (by decide) (Nat.le_of_ble_eq_true rfl) dX2_init_1 ?_
  refine j_aload_n C0 (pc := 4) dX2_init_4 rfl ?_
  refine j_bipush C0 (pc := 5) dX2_init_5 (v := (20 : Int32)) (by decide) ?_
  refine X_newI C0 (pc := 7) (cap := 20) (g' := (1, 20)) (j_c1 172 (by decide +kernel)) (by decide) (by decide) rfl dX2_init_7 h (fun v1 M1 h => ?_)
  refine X_pNF C0 (pc := 9) f_Finder_9_2 rfl ⟨_, rfl, rfl⟩ (Or.inr ⟨_, rfl⟩) rfl dX2_init_9 h (fun M2 h => ?_)
  refine j_aload_n C0 (pc := 12) dX2_init_12 rfl ?_
  refine j_sipush C0 (pc := 13) dX2_init_13 (v := (6400 : Int32)) (by decide) ?_
  refine X_newJ C0 (pc := 16) (cap := 6400) (g' := (2, 6420)) (j_c1 173 (by decide +kernel)) (by decide) (by decide) rfl dX2_init_16 h (fun v2 M3 h => ?_)
  refine X_pNF C0 (pc := 18) f_Finder_15_2 rfl ⟨_, rfl, rfl⟩ (Or.inr ⟨_, rfl⟩) rfl dX2_init_18 h (fun M4 h => ?_)
  refine j_aload_n C0 (pc := 21) dX2_init_21 rfl ?_
  refine j_sipush C0 (pc := 22) dX2_init_22 (v := (6400 : Int32)) (by decide) ?_
  refine X_newJ C0 (pc := 25) (cap := 6400) (g' := (3, 12820)) (j_c1 173 (by decide +kernel)) (by decide) (by decide) rfl dX2_init_25 h (fun v3 M5 h => ?_)
  refine X_pNF C0 (pc := 27) f_Finder_19_2 rfl ⟨_, rfl, rfl⟩ (Or.inr ⟨_, rfl⟩) rfl dX2_init_27 h (fun M6 h => ?_)
  refine j_aload_n C0 (pc := 30) dX2_init_30 rfl ?_
  refine j_sipush C0 (pc := 31) dX2_init_31 (v := (800 : Int32)) (by decide) ?_
  refine X_newI C0 (pc := 34) (cap := 800) (g' := (4, 13620)) (j_c1 172 (by decide +kernel)) (by decide) (by decide) rfl dX2_init_34 h (fun v4 M7 h => ?_)
  refine X_pNF C0 (pc := 36) f_Finder_22_2 rfl ⟨_, rfl, rfl⟩ (Or.inr ⟨_, rfl⟩) rfl dX2_init_36 h (fun M8 h => ?_)
  refine j_aload_n C0 (pc := 39) dX2_init_39 rfl ?_
  refine j_sipush C0 (pc := 40) dX2_init_40 (v := (800 : Int32)) (by decide) ?_
  refine X_newI C0 (pc := 43) (cap := 800) (g' := (5, 14420)) (j_c1 172 (by decide +kernel)) (by decide) (by decide) rfl dX2_init_43 h (fun v5 M9 h => ?_)
  refine X_pNF C0 (pc := 45) f_Finder_25_2 rfl ⟨_, rfl, rfl⟩ (Or.inr ⟨_, rfl⟩) rfl dX2_init_45 h (fun M10 h => ?_)
  refine j_aload_n C0 (pc := 48) dX2_init_48 rfl ?_
  refine X_new C0 (pc := 49) (g' := (6, 14421)) k_WS (j_c2 55 (by decide +kernel)) (j_c2 30 (by decide +kernel)) (j_c1 9 (by decide +kernel)) (by decide) rfl dX2_init_49 h (fun v6 M11 h => ?_)
  refine j_dup C0 (pc := 52) dX2_init_52 rfl ?_
  refine X_cIN C0 (pc := 53) (e' := e_V) (as := []) (rest := [.ref v6, .ref a0]) (s' := fun _ => [.ref v6, .ref a0]) (g' := (7, 14437)) n_Finder_30 (fun Ψ hΨ => K_X10_init v6 M11 Ψ hΨ) rfl rfl (fun _ => rfl) (by decide) (by decide) rfl (Nat.le_of_ble_eq_true rfl) dX2_init_53 h (fun _ M12 h => ?_)
  refine X_pNF C0 (pc := 56) f_Finder_31_2 rfl ⟨_, rfl, rfl⟩ (Or.inl ⟨_, rfl⟩) rfl dX2_init_56 h (fun M13 h => ?_)
  refine j_aload_n C0 (pc := 59) dX2_init_59 rfl ?_
  refine X_new C0 (pc := 60) (g' := (8, 14438)) k_WS (j_c2 55 (by decide +kernel)) (j_c2 30 (by decide +kernel)) (j_c1 9 (by decide +kernel)) (by decide) rfl dX2_init_60 h (fun v7 M14 h => ?_)
  refine j_dup C0 (pc := 63) dX2_init_63 rfl ?_
  refine X_cIN C0 (pc := 64) (e' := e_V) (as := []) (rest := [.ref v7, .ref a0]) (s' := fun _ => [.ref v7, .ref a0]) (g' := (9, 14454)) n_Finder_30 (fun Ψ hΨ => K_X10_init v7 M14 Ψ hΨ) rfl rfl (fun _ => rfl) (by decide) (by decide) rfl (Nat.le_of_ble_eq_true rfl) dX2_init_64 h (fun _ M15 h => ?_)
  refine X_pNF C0 (pc := 67) f_Finder_35_2 rfl ⟨_, rfl, rfl⟩ (Or.inl ⟨_, rfl⟩) rfl dX2_init_67 h (fun M16 h => ?_)
  refine j_aload_n C0 (pc := 70) dX2_init_70 rfl ?_
  refine j_aload_n C0 (pc := 71) dX2_init_71 rfl ?_
  refine X_pNF C0 (pc := 72) f_Finder_38_2 rfl ⟨_, rfl, rfl⟩ (Or.inl ⟨_, rfl⟩) rfl dX2_init_72 h (fun M17 h => ?_)
  exact j_vret C rfl h dX2_init_75 (by decide)
theorem dX1_init_0 : decode cX1_init 0 = .ok (.aload_n 0, 1) := by decide +kernel
theorem dX1_init_1 : decode cX1_init 1 = .ok (.invokespecial 3, 3) := by decide +kernel
theorem dX1_init_4 : decode cX1_init 4 = .ok (.aload_n 0, 1) := by decide +kernel
theorem dX1_init_5 : decode cX1_init 5 = .ok (.iconst 0, 1) := by decide +kernel
theorem dX1_init_6 : decode cX1_init 6 = .ok (.newarray .int, 2) := by decide +kernel
theorem dX1_init_8 : decode cX1_init 8 = .ok (.putfield 9, 3) := by decide +kernel
theorem dX1_init_11 : decode cX1_init 11 = .ok (.aload_n 0, 1) := by decide +kernel
theorem dX1_init_12 : decode cX1_init 12 = .ok (.aload_n 0, 1) := by decide +kernel
theorem dX1_init_13 : decode cX1_init 13 = .ok (.getfield 9, 3) := by decide +kernel
theorem dX1_init_16 : decode cX1_init 16 = .ok (.putfield 15, 3) := by decide +kernel
theorem dX1_init_19 : decode cX1_init 19 = .ok (.aload_n 0, 1) := by decide +kernel
theorem dX1_init_20 : decode cX1_init 20 = .ok (.bipush 12, 2) := by decide +kernel
theorem dX1_init_22 : decode cX1_init 22 = .ok (.anewarray 18, 3) := by decide +kernel
theorem dX1_init_25 : decode cX1_init 25 = .ok (.putfield 20, 3) := by decide +kernel
theorem dX1_init_28 : decode cX1_init 28 = .ok (.aload_n 0, 1) := by decide +kernel
theorem dX1_init_29 : decode cX1_init 29 = .ok (.iconst 4, 1) := by decide +kernel
theorem dX1_init_30 : decode cX1_init 30 = .ok (.anewarray 18, 3) := by decide +kernel
theorem dX1_init_33 : decode cX1_init 33 = .ok (.putfield 24, 3) := by decide +kernel
theorem dX1_init_36 : decode cX1_init 36 = .ok (.aload_n 0, 1) := by decide +kernel
theorem dX1_init_37 : decode cX1_init 37 = .ok (.bipush 20, 2) := by decide +kernel
theorem dX1_init_39 : decode cX1_init 39 = .ok (.newarray .int, 2) := by decide +kernel
theorem dX1_init_41 : decode cX1_init 41 = .ok (.putfield 27, 3) := by decide +kernel
theorem dX1_init_44 : decode cX1_init 44 = .ok (.aload_n 0, 1) := by decide +kernel
theorem dX1_init_45 : decode cX1_init 45 = .ok (.bipush 12, 2) := by decide +kernel
theorem dX1_init_47 : decode cX1_init 47 = .ok (.newarray .int, 2) := by decide +kernel
theorem dX1_init_49 : decode cX1_init 49 = .ok (.putfield 30, 3) := by decide +kernel
theorem dX1_init_52 : decode cX1_init 52 = .ok (.aload_n 0, 1) := by decide +kernel
theorem dX1_init_53 : decode cX1_init 53 = .ok (.bipush 12, 2) := by decide +kernel
theorem dX1_init_55 : decode cX1_init 55 = .ok (.newarray .int, 2) := by decide +kernel
theorem dX1_init_57 : decode cX1_init 57 = .ok (.putfield 33, 3) := by decide +kernel
theorem dX1_init_60 : decode cX1_init 60 = .ok (.aload_n 0, 1) := by decide +kernel
theorem dX1_init_61 : decode cX1_init 61 = .ok (.bipush 12, 2) := by decide +kernel
theorem dX1_init_63 : decode cX1_init 63 = .ok (.anewarray 18, 3) := by decide +kernel
theorem dX1_init_66 : decode cX1_init 66 = .ok (.putfield 36, 3) := by decide +kernel
theorem dX1_init_69 : decode cX1_init 69 = .ok (.return_, 1) := by decide +kernel
noncomputable def F_X1_init (a0 : Nat) (M : m_M) : Option (Unit × m_M) :=
  x_newA 12 0 M (0 : Int32) fun v1 M1 =>
  x_pR 1 M1 a0 5 (some v1) fun M2 =>
  x_gN 1 M2 a0 5 fun v2 =>
  x_pR 1 M2 a0 6 (some v2) fun M3 =>
  x_newA 16 12 M3 (12 : Int32) fun v3 M4 =>
  x_pR 1 M4 a0 7 (some v3) fun M5 =>
  x_newA 16 4 M5 (4 : Int32) fun v4 M6 =>
  x_pR 1 M6 a0 8 (some v4) fun M7 =>
  x_newA 12 20 M7 (20 : Int32) fun v5 M8 =>
  x_pR 1 M8 a0 9 (some v5) fun M9 =>
  x_newA 12 12 M9 (12 : Int32) fun v6 M10 =>
  x_pR 1 M10 a0 10 (some v6) fun M11 =>
  x_newA 12 12 M11 (12 : Int32) fun v7 M12 =>
  x_pR 1 M12 a0 11 (some v7) fun M13 =>
  x_newA 16 12 M13 (12 : Int32) fun v8 M14 =>
  x_pR 1 M14 a0 12 (some v8) fun M15 =>
  some ((), M15)
set_option maxHeartbeats 4000000 in
theorem K_X1_init (a0 : Nat) (M : m_M) (Φ : Option Value → m_M → Prop) (h : m_ok e_V Φ (F_X1_init a0 M)) : j_Ct yX1_init cX1_init 1 none 1 7 72 [.ref a0] M Φ := by
  refine j_Ct.of (by decide +kernel) (Nat.le_of_ble_eq_true rfl) fun X C => ?_
  have C0 := C.1
  show j_J X 1 0 [some (.ref a0)] [] (0, 0) M
  unfold F_X1_init at h
  refine j_aload_n C0 (pc := 0) dX1_init_0 rfl ?_
  refine j_objInit C0 (pc := 1) (j_c2 120 (by decide +kernel)) (j_c1 35 (by decide +kernel)) (j_c1 36 (by decide +kernel)) (by decide) (Nat.le_of_ble_eq_true rfl) dX1_init_1 ?_
  refine j_aload_n C0 (pc := 4) dX1_init_4 rfl ?_
  refine j_iconst C0 (pc := 5) dX1_init_5 (v := (0 : Int32)) (by decide) ?_
  refine X_newI C0 (pc := 6) (cap := 0) (g' := (1, 0)) (j_c1 172 (by decide +kernel)) (by decide) (by decide) rfl dX1_init_6 h (fun v1 M1 h => ?_)
  refine X_pN C0 (pc := 8) f_Book_9_1 (Or.inr ⟨_, rfl⟩) rfl dX1_init_8 h (fun M2 h => ?_)
  refine j_aload_n C0 (pc := 11) dX1_init_11 rfl ?_
  refine j_aload_n C0 (pc := 12) dX1_init_12 rfl ?_
  refine X_gN C0 (pc := 13) f_Book_9_1 rfl dX1_init_13 h (fun v2 h => ?_)
  refine X_pNF C0 (pc := 16) f_Book_15_1 rfl ⟨_, rfl, rfl⟩ (Or.inr ⟨_, rfl⟩) rfl dX1_init_16 h (fun M3 h => ?_)
  refine j_aload_n C0 (pc := 19) dX1_init_19 rfl ?_
  refine j_bipush C0 (pc := 20) dX1_init_20 (v := (12 : Int32)) (by decide) ?_
  refine X_anew C0 (pc := 22) (cap := 12) (g' := (2, 12)) ⟨by decide, by decide, rfl⟩ (j_c2 121 (by decide +kernel)) (by decide) (by decide) rfl dX1_init_22 h (fun v3 M4 h => ?_)
  refine X_pNF C0 (pc := 25) f_Book_20_1 rfl ⟨_, rfl, rfl⟩ (Or.inr ⟨_, rfl⟩) rfl dX1_init_25 h (fun M5 h => ?_)
  refine j_aload_n C0 (pc := 28) dX1_init_28 rfl ?_
  refine j_iconst C0 (pc := 29) dX1_init_29 (v := (4 : Int32)) (by decide) ?_
  refine X_anew C0 (pc := 30) (cap := 4) (g' := (3, 16)) ⟨by decide, by decide, rfl⟩ (j_c2 121 (by decide +kernel)) (by decide) (by decide) rfl dX1_init_30 h (fun v4 M6 h => ?_)
  refine X_pNF C0 (pc := 33) f_Book_24_1 rfl ⟨_, rfl, rfl⟩ (Or.inr ⟨_, rfl⟩) rfl dX1_init_33 h (fun M7 h => ?_)
  refine j_aload_n C0 (pc := 36) dX1_init_36 rfl ?_
  refine j_bipush C0 (pc := 37) dX1_init_37 (v := (20 : Int32)) (by decide) ?_
  refine X_newI C0 (pc := 39) (cap := 20) (g' := (4, 36)) (j_c1 172 (by decide +kernel)) (by decide) (by decide) rfl dX1_init_39 h (fun v5 M8 h => ?_)
  refine X_pNF C0 (pc := 41) f_Book_27_1 rfl ⟨_, rfl, rfl⟩ (Or.inr ⟨_, rfl⟩) rfl dX1_init_41 h (fun M9 h => ?_)
  refine j_aload_n C0 (pc := 44) dX1_init_44 rfl ?_
  refine j_bipush C0 (pc := 45) dX1_init_45 (v := (12 : Int32)) (by decide) ?_
  refine X_newI C0 (pc := 47) (cap := 12) (g' := (5, 48)) (j_c1 172 (by decide +kernel)) (by decide) (by decide) rfl dX1_init_47 h (fun v6 M10 h => ?_)
  refine X_pNF C0 (pc := 49) f_Book_30_1 rfl ⟨_, rfl, rfl⟩ (Or.inr ⟨_, rfl⟩) rfl dX1_init_49 h (fun M11 h => ?_)
  refine j_aload_n C0 (pc := 52) dX1_init_52 rfl ?_
  refine j_bipush C0 (pc := 53) dX1_init_53 (v := (12 : Int32)) (by decide) ?_
  refine X_newI C0 (pc := 55) (cap := 12) (g' := (6, 60)) (j_c1 172 (by decide +kernel)) (by decide) (by decide) rfl dX1_init_55 h (fun v7 M12 h => ?_)
  refine X_pNF C0 (pc := 57) f_Book_33_1 rfl ⟨_, rfl, rfl⟩ (Or.inr ⟨_, rfl⟩) rfl dX1_init_57 h (fun M13 h => ?_)
  refine j_aload_n C0 (pc := 60) dX1_init_60 rfl ?_
  refine j_bipush C0 (pc := 61) dX1_init_61 (v := (12 : Int32)) (by decide) ?_
  refine X_anew C0 (pc := 63) (cap := 12) (g' := (7, 72)) ⟨by decide, by decide, rfl⟩ (j_c2 121 (by decide +kernel)) (by decide) (by decide) rfl dX1_init_63 h (fun v8 M14 h => ?_)
  refine X_pNF C0 (pc := 66) f_Book_36_1 rfl ⟨_, rfl, rfl⟩ (Or.inr ⟨_, rfl⟩) rfl dX1_init_66 h (fun M15 h => ?_)
  exact j_vret C rfl h dX1_init_69 (by decide)
theorem dX11_init_0 : decode cX11_init 0 = .ok (.aload_n 0, 1) := by decide +kernel
theorem dX11_init_1 : decode cX11_init 1 = .ok (.invokespecial 3, 3) := by decide +kernel
theorem dX11_init_4 : decode cX11_init 4 = .ok (.aload_n 0, 1) := by decide +kernel
theorem dX11_init_5 : decode cX11_init 5 = .ok (.sipush 1000, 3) := by decide +kernel
theorem dX11_init_8 : decode cX11_init 8 = .ok (.newarray .char, 2) := by decide +kernel
theorem dX11_init_10 : decode cX11_init 10 = .ok (.putfield 9, 3) := by decide +kernel
theorem dX11_init_13 : decode cX11_init 13 = .ok (.aload_n 0, 1) := by decide +kernel
theorem dX11_init_14 : decode cX11_init 14 = .ok (.new 13, 3) := by decide +kernel
theorem dX11_init_17 : decode cX11_init 17 = .ok (.dup, 1) := by decide +kernel
theorem dX11_init_18 : decode cX11_init 18 = .ok (.invokespecial 15, 3) := by decide +kernel
theorem dX11_init_21 : decode cX11_init 21 = .ok (.putfield 16, 3) := by decide +kernel
theorem dX11_init_24 : decode cX11_init 24 = .ok (.aload_n 0, 1) := by decide +kernel
theorem dX11_init_25 : decode cX11_init 25 = .ok (.new 13, 3) := by decide +kernel
theorem dX11_init_28 : decode cX11_init 28 = .ok (.dup, 1) := by decide +kernel
theorem dX11_init_29 : decode cX11_init 29 = .ok (.invokespecial 15, 3) := by decide +kernel
theorem dX11_init_32 : decode cX11_init 32 = .ok (.putfield 20, 3) := by decide +kernel
theorem dX11_init_35 : decode cX11_init 35 = .ok (.aload_n 0, 1) := by decide +kernel
theorem dX11_init_36 : decode cX11_init 36 = .ok (.new 23, 3) := by decide +kernel
theorem dX11_init_39 : decode cX11_init 39 = .ok (.dup, 1) := by decide +kernel
theorem dX11_init_40 : decode cX11_init 40 = .ok (.aload_n 0, 1) := by decide +kernel
theorem dX11_init_41 : decode cX11_init 41 = .ok (.getfield 9, 3) := by decide +kernel
theorem dX11_init_44 : decode cX11_init 44 = .ok (.aload_n 0, 1) := by decide +kernel
theorem dX11_init_45 : decode cX11_init 45 = .ok (.getfield 20, 3) := by decide +kernel
theorem dX11_init_48 : decode cX11_init 48 = .ok (.invokespecial 25, 3) := by decide +kernel
theorem dX11_init_51 : decode cX11_init 51 = .ok (.putfield 28, 3) := by decide +kernel
theorem dX11_init_54 : decode cX11_init 54 = .ok (.aload_n 0, 1) := by decide +kernel
theorem dX11_init_55 : decode cX11_init 55 = .ok (.new 32, 3) := by decide +kernel
theorem dX11_init_58 : decode cX11_init 58 = .ok (.dup, 1) := by decide +kernel
theorem dX11_init_59 : decode cX11_init 59 = .ok (.aload_n 0, 1) := by decide +kernel
theorem dX11_init_60 : decode cX11_init 60 = .ok (.getfield 9, 3) := by decide +kernel
theorem dX11_init_63 : decode cX11_init 63 = .ok (.aload_n 0, 1) := by decide +kernel
theorem dX11_init_64 : decode cX11_init 64 = .ok (.getfield 16, 3) := by decide +kernel
theorem dX11_init_67 : decode cX11_init 67 = .ok (.invokespecial 34, 3) := by decide +kernel
theorem dX11_init_70 : decode cX11_init 70 = .ok (.putfield 35, 3) := by decide +kernel
theorem dX11_init_73 : decode cX11_init 73 = .ok (.aload_n 0, 1) := by decide +kernel
theorem dX11_init_74 : decode cX11_init 74 = .ok (.new 39, 3) := by decide +kernel
theorem dX11_init_77 : decode cX11_init 77 = .ok (.dup, 1) := by decide +kernel
theorem dX11_init_78 : decode cX11_init 78 = .ok (.aload_n 0, 1) := by decide +kernel
theorem dX11_init_79 : decode cX11_init 79 = .ok (.getfield 16, 3) := by decide +kernel
theorem dX11_init_82 : decode cX11_init 82 = .ok (.invokespecial 41, 3) := by decide +kernel
theorem dX11_init_85 : decode cX11_init 85 = .ok (.putfield 44, 3) := by decide +kernel
theorem dX11_init_88 : decode cX11_init 88 = .ok (.aload_n 0, 1) := by decide +kernel
theorem dX11_init_89 : decode cX11_init 89 = .ok (.new 48, 3) := by decide +kernel
theorem dX11_init_92 : decode cX11_init 92 = .ok (.dup, 1) := by decide +kernel
theorem dX11_init_93 : decode cX11_init 93 = .ok (.aload_n 0, 1) := by decide +kernel
theorem dX11_init_94 : decode cX11_init 94 = .ok (.getfield 16, 3) := by decide +kernel
theorem dX11_init_97 : decode cX11_init 97 = .ok (.invokespecial 50, 3) := by decide +kernel
theorem dX11_init_100 : decode cX11_init 100 = .ok (.putfield 51, 3) := by decide +kernel
theorem dX11_init_103 : decode cX11_init 103 = .ok (.aload_n 0, 1) := by decide +kernel
theorem dX11_init_104 : decode cX11_init 104 = .ok (.new 55, 3) := by decide +kernel
theorem dX11_init_107 : decode cX11_init 107 = .ok (.dup, 1) := by decide +kernel
theorem dX11_init_108 : decode cX11_init 108 = .ok (.aload_n 0, 1) := by decide +kernel
theorem dX11_init_109 : decode cX11_init 109 = .ok (.getfield 16, 3) := by decide +kernel
theorem dX11_init_112 : decode cX11_init 112 = .ok (.invokespecial 57, 3) := by decide +kernel
theorem dX11_init_115 : decode cX11_init 115 = .ok (.putfield 58, 3) := by decide +kernel
theorem dX11_init_118 : decode cX11_init 118 = .ok (.aload_n 0, 1) := by decide +kernel
theorem dX11_init_119 : decode cX11_init 119 = .ok (.new 62, 3) := by decide +kernel
theorem dX11_init_122 : decode cX11_init 122 = .ok (.dup, 1) := by decide +kernel
theorem dX11_init_123 : decode cX11_init 123 = .ok (.invokespecial 64, 3) := by decide +kernel
theorem dX11_init_126 : decode cX11_init 126 = .ok (.putfield 65, 3) := by decide +kernel
theorem dX11_init_129 : decode cX11_init 129 = .ok (.aload_n 0, 1) := by decide +kernel
theorem dX11_init_130 : decode cX11_init 130 = .ok (.iconst 4, 1) := by decide +kernel
theorem dX11_init_131 : decode cX11_init 131 = .ok (.anewarray 62, 3) := by decide +kernel
theorem dX11_init_134 : decode cX11_init 134 = .ok (.putfield 69, 3) := by decide +kernel
theorem dX11_init_137 : decode cX11_init 137 = .ok (.aload_n 0, 1) := by decide +kernel
theorem dX11_init_138 : decode cX11_init 138 = .ok (.iconst 4, 1) := by decide +kernel
theorem dX11_init_139 : decode cX11_init 139 = .ok (.newarray .boolean, 2) := by decide +kernel
theorem dX11_init_141 : decode cX11_init 141 = .ok (.putfield 73, 3) := by decide +kernel
theorem dX11_init_144 : decode cX11_init 144 = .ok (.aload_n 0, 1) := by decide +kernel
theorem dX11_init_145 : decode cX11_init 145 = .ok (.new 77, 3) := by decide +kernel
theorem dX11_init_148 : decode cX11_init 148 = .ok (.dup, 1) := by decide +kernel
theorem dX11_init_149 : decode cX11_init 149 = .ok (.invokespecial 79, 3) := by decide +kernel
theorem dX11_init_152 : decode cX11_init 152 = .ok (.putfield 80, 3) := by decide +kernel
theorem dX11_init_155 : decode cX11_init 155 = .ok (.aload_n 0, 1) := by decide +kernel
theorem dX11_init_156 : decode cX11_init 156 = .ok (.new 77, 3) := by decide +kernel
theorem dX11_init_159 : decode cX11_init 159 = .ok (.dup, 1) := by decide +kernel
theorem dX11_init_160 : decode cX11_init 160 = .ok (.invokespecial 79, 3) := by decide +kernel
theorem dX11_init_163 : decode cX11_init 163 = .ok (.putfield 84, 3) := by decide +kernel
theorem dX11_init_166 : decode cX11_init 166 = .ok (.aload_n 0, 1) := by decide +kernel
theorem dX11_init_167 : decode cX11_init 167 = .ok (.new 77, 3) := by decide +kernel
theorem dX11_init_170 : decode cX11_init 170 = .ok (.dup, 1) := by decide +kernel
theorem dX11_init_171 : decode cX11_init 171 = .ok (.invokespecial 79, 3) := by decide +kernel
theorem dX11_init_174 : decode cX11_init 174 = .ok (.putfield 87, 3) := by decide +kernel
theorem dX11_init_177 : decode cX11_init 177 = .ok (.iconst 0, 1) := by decide +kernel
theorem dX11_init_178 : decode cX11_init 178 = .ok (.istore_n 1, 1) := by decide +kernel
theorem dX11_init_179 : decode cX11_init 179 = .ok (.iload_n 1, 1) := by decide +kernel
theorem dX11_init_180 : decode cX11_init 180 = .ok (.iconst 4, 1) := by decide +kernel
theorem dX11_init_181 : decode cX11_init 181 = .ok (.if_icmp .ge 22, 3) := by decide +kernel
theorem dX11_init_184 : decode cX11_init 184 = .ok (.aload_n 0, 1) := by decide +kernel
theorem dX11_init_185 : decode cX11_init 185 = .ok (.getfield 69, 3) := by decide +kernel
theorem dX11_init_188 : decode cX11_init 188 = .ok (.iload_n 1, 1) := by decide +kernel
theorem dX11_init_189 : decode cX11_init 189 = .ok (.new 62, 3) := by decide +kernel
theorem dX11_init_192 : decode cX11_init 192 = .ok (.dup, 1) := by decide +kernel
theorem dX11_init_193 : decode cX11_init 193 = .ok (.invokespecial 64, 3) := by decide +kernel
theorem dX11_init_196 : decode cX11_init 196 = .ok (.aastore, 1) := by decide +kernel
theorem dX11_init_197 : decode cX11_init 197 = .ok (.iinc 1 1, 3) := by decide +kernel
theorem dX11_init_200 : decode cX11_init 200 = .ok (.goto (-21), 3) := by decide +kernel
theorem dX11_init_203 : decode cX11_init 203 = .ok (.return_, 1) := by decide +kernel
noncomputable def F_X11_init (a0 : Nat) (M : m_M) : Option (Unit × m_M) :=
  x_newA 11 1000 M (1000 : Int32) fun v1 M1 =>
  x_pR 9 M1 a0 0 (some v1) fun M2 =>
  x_new 3 M2 fun v2 M3 =>
  x_bd (F_X3_init v2 M3) fun _ M4 =>
  x_pR 9 M4 a0 2 (some v2) fun M5 =>
  x_new 3 M5 fun v3 M6 =>
  x_bd (F_X3_init v3 M6) fun _ M7 =>
  x_pR 9 M7 a0 3 (some v3) fun M8 =>
  x_new 4 M8 fun v4 M9 =>
  x_gN 9 M9 a0 0 fun v5 =>
  x_gN 9 M9 a0 3 fun v6 =>
  x_bd (F_X4_init v4 v5 v6 M9) fun _ M10 =>
  x_pR 9 M10 a0 4 (some v4) fun M11 =>
  x_new 7 M11 fun v7 M12 =>
  x_gN 9 M12 a0 0 fun v8 =>
  x_gN 9 M12 a0 2 fun v9 =>
  x_bd (F_X7_init v7 v8 v9 M12) fun _ M13 =>
  x_pR 9 M13 a0 5 (some v7) fun M14 =>
  x_new 5 M14 fun v10 M15 =>
  x_gN 9 M15 a0 2 fun v11 =>
  x_bd (F_X5_init v10 v11 M15) fun _ M16 =>
  x_pR 9 M16 a0 6 (some v10) fun M17 =>
  x_new 2 M17 fun v12 M18 =>
  x_gN 9 M18 a0 2 fun v13 =>
  x_bd (F_X2_init v12 v13 M18) fun _ M19 =>
  x_pR 9 M19 a0 7 (some v12) fun M20 =>
  x_new 0 M20 fun v14 M21 =>
  x_gN 9 M21 a0 2 fun v15 =>
  x_bd (F_X0_init v14 v15 M21) fun _ M22 =>
  x_pR 9 M22 a0 8 (some v14) fun M23 =>
  x_new 1 M23 fun v16 M24 =>
  x_bd (F_X1_init v16 M24) fun _ M25 =>
  x_pR 9 M25 a0 9 (some v16) fun M26 =>
  x_newA 15 4 M26 (4 : Int32) fun v17 M27 =>
  x_pR 9 M27 a0 10 (some v17) fun M28 =>
  x_newA 14 4 M28 (4 : Int32) fun v18 M29 =>
  x_pR 9 M29 a0 11 (some v18) fun M30 =>
  x_new 8 M30 fun v19 M31 =>
  x_bd (F_X10_init v19 M31) fun _ M32 =>
  x_pR 9 M32 a0 12 (some v19) fun M33 =>
  x_new 8 M33 fun v20 M34 =>
  x_bd (F_X10_init v20 M34) fun _ M35 =>
  x_pR 9 M35 a0 13 (some v20) fun M36 =>
  x_new 8 M36 fun v21 M37 =>
  x_bd (F_X10_init v21 M37) fun _ M38 =>
  x_pR 9 M38 a0 14 (some v21) fun M39 =>
  x_gN 9 M39 a0 10 fun v22 =>
  x_new 1 M39 fun v23 M40 =>
  x_bd (F_X1_init v23 M40) fun _ M41 =>
  x_sR 15 1 M41 v22 (0 : Int32) (some v23) fun M42 =>
  x_gN 9 M42 a0 10 fun v24 =>
  x_new 1 M42 fun v25 M43 =>
  x_bd (F_X1_init v25 M43) fun _ M44 =>
  x_sR 15 1 M44 v24 (1 : Int32) (some v25) fun M45 =>
  x_gN 9 M45 a0 10 fun v26 =>
  x_new 1 M45 fun v27 M46 =>
  x_bd (F_X1_init v27 M46) fun _ M47 =>
  x_sR 15 1 M47 v26 (2 : Int32) (some v27) fun M48 =>
  x_gN 9 M48 a0 10 fun v28 =>
  x_new 1 M48 fun v29 M49 =>
  x_bd (F_X1_init v29 M49) fun _ M50 =>
  x_sR 15 1 M50 v28 (3 : Int32) (some v29) fun M51 =>
  some ((), M51)
set_option maxHeartbeats 4000000 in
theorem K_X11_init (a0 : Nat) (M : m_M) (Φ : Option Value → m_M → Prop) (h : m_ok e_V Φ (F_X11_init a0 M)) : j_Ct yX11_init cX11_init 2 none 7 127 21192 [.ref a0] M Φ := by
  refine j_Ct.of (by decide +kernel) (Nat.le_of_ble_eq_true rfl) fun X C => ?_
  have C0 := C.1
  show j_J X 2 0 [some (.ref a0), none] [] (0, 0) M
  unfold F_X11_init at h
  refine j_aload_n C0 (pc := 0) dX11_init_0 rfl ?_
  refine j_objInit C0 (pc := 1) (j_c1 34 (by decide +kernel)) (j_c1 35 (by decide +kernel)) (j_c1 36 (by decide +kernel)) (by decide) (Nat.le_of_ble_eq_true rfl) dX11_init_1 ?_
  refine j_aload_n C0 (pc := 4) dX11_init_4 rfl ?_
  refine j_sipush C0 (pc := 5) dX11_init_5 (v := (1000 : Int32)) (by decide) ?_
  refine X_newC C0 (pc := 8) (cap := 1000) (g' := (1, 1000)) (j_c1 171 (by decide +kernel)) (by decide) (by decide) rfl dX11_init_8 h (fun v1 M1 h => ?_)
  refine X_pNF C0 (pc := 10) f_OV_9_9 rfl ⟨_, rfl, rfl⟩ (Or.inr ⟨_, rfl⟩) rfl dX11_init_10 h (fun M2 h => ?_)
  refine j_aload_n C0 (pc := 13) dX11_init_13 rfl ?_
  refine X_new C0 (pc := 14) (g' := (2, 1019)) k_Land (j_c1 37 (by decide +kernel)) (j_c1 38 (by decide +kernel)) (j_c1 2 (by decide +kernel)) (by decide) rfl dX11_init_14 h (fun v2 M3 h => ?_)
  refine j_dup C0 (pc := 17) dX11_init_17 rfl ?_
  refine X_cI C0 (pc := 18) (e' := e_V) (as := []) (rest := [.ref v2, .ref a0]) (s' := fun _ => [.ref v2, .ref a0]) (g' := (15, 2703)) i_OV_15 (fun Ψ hΨ => K_X3_init v2 M3 Ψ hΨ) rfl rfl (fun _ => rfl) (by decide) (by decide) rfl (Nat.le_of_ble_eq_true rfl) dX11_init_18 h (fun _ M4 h => ?_)
  refine X_pNF C0 (pc := 21) f_OV_16_9 rfl ⟨_, rfl, rfl⟩ (Or.inl ⟨_, rfl⟩) rfl dX11_init_21 h (fun M5 h => ?_)
  refine j_aload_n C0 (pc := 24) dX11_init_24 rfl ?_
  refine X_new C0 (pc := 25) (g' := (16, 2722)) k_Land (j_c1 37 (by decide +kernel)) (j_c1 38 (by decide +kernel)) (j_c1 2 (by decide +kernel)) (by decide) rfl dX11_init_25 h (fun v3 M6 h => ?_)
  refine j_dup C0 (pc := 28) dX11_init_28 rfl ?_
  refine X_cI C0 (pc := 29) (e' := e_V) (as := []) (rest := [.ref v3, .ref a0]) (s' := fun _ => [.ref v3, .ref a0]) (g' := (29, 4406)) i_OV_15 (fun Ψ hΨ => K_X3_init v3 M6 Ψ hΨ) rfl rfl (fun _ => rfl) (by decide) (by decide) rfl (Nat.le_of_ble_eq_true rfl) dX11_init_29 h (fun _ M7 h => ?_)
  refine X_pNF C0 (pc := 32) f_OV_20_9 rfl ⟨_, rfl, rfl⟩ (Or.inl ⟨_, rfl⟩) rfl dX11_init_32 h (fun M8 h => ?_)
  refine j_aload_n C0 (pc := 35) dX11_init_35 rfl ?_
  refine X_new C0 (pc := 36) (g' := (30, 4418)) k_LR (j_c1 174 (by decide +kernel)) (j_c1 175 (by decide +kernel)) (j_c1 6 (by decide +kernel)) (by decide) rfl dX11_init_36 h (fun v4 M9 h => ?_)
  refine j_dup C0 (pc := 39) dX11_init_39 rfl ?_
  refine j_aload_n C0 (pc := 40) dX11_init_40 rfl ?_
  refine X_gN C0 (pc := 41) f_OV_9_9 rfl dX11_init_41 h (fun v5 h => ?_)
  refine j_aload_n C0 (pc := 44) dX11_init_44 rfl ?_
  refine X_gN C0 (pc := 45) f_OV_20_9 rfl dX11_init_45 h (fun v6 h => ?_)
  refine X_cI C0 (pc := 48) (e' := e_V) (as := [.ref v5, .ref v6]) (rest := [.ref v4, .ref a0]) (s' := fun _ => [.ref v4, .ref a0]) (g' := (30, 4418)) i_OV_25 (fun Ψ hΨ => K_X4_init v4 v5 v6 M9 Ψ hΨ) rfl rfl (fun _ => rfl) (by decide) (by decide) rfl (Nat.le_of_ble_eq_true rfl) dX11_init_48 h (fun _ M10 h => ?_)
  refine X_pNF C0 (pc := 51) f_OV_28_9 rfl ⟨_, rfl, rfl⟩ (Or.inl ⟨_, rfl⟩) rfl dX11_init_51 h (fun M11 h => ?_)
  refine j_aload_n C0 (pc := 54) dX11_init_54 rfl ?_
  refine X_new C0 (pc := 55) (g' := (31, 4431)) k_SR (j_c1 236 (by decide +kernel)) (j_c1 237 (by decide +kernel)) (j_c1 7 (by decide +kernel)) (by decide) rfl dX11_init_55 h (fun v7 M12 h => ?_)
  refine j_dup C0 (pc := 58) dX11_init_58 rfl ?_
  refine j_aload_n C0 (pc := 59) dX11_init_59 rfl ?_
  refine X_gN C0 (pc := 60) f_OV_9_9 rfl dX11_init_60 h (fun v8 h => ?_)
  refine j_aload_n C0 (pc := 63) dX11_init_63 rfl ?_
  refine X_gN C0 (pc := 64) f_OV_16_9 rfl dX11_init_64 h (fun v9 h => ?_)
  refine X_cI C0 (pc := 67) (e' := e_V) (as := [.ref v8, .ref v9]) (rest := [.ref v7, .ref a0]) (s' := fun _ => [.ref v7, .ref a0]) (g' := (32, 5431)) i_OV_34 (fun Ψ hΨ => K_X7_init v7 v8 v9 M12 Ψ hΨ) rfl rfl (fun _ => rfl) (by decide) (by decide) rfl (Nat.le_of_ble_eq_true rfl) dX11_init_67 h (fun _ M13 h => ?_)
  refine X_pNF C0 (pc := 70) f_OV_35_9 rfl ⟨_, rfl, rfl⟩ (Or.inl ⟨_, rfl⟩) rfl dX11_init_70 h (fun M14 h => ?_)
  refine j_aload_n C0 (pc := 73) dX11_init_73 rfl ?_
  refine X_new C0 (pc := 74) (g' := (33, 5433)) k_Meaning (j_c2 22 (by decide +kernel)) (j_c2 23 (by decide +kernel)) (j_c1 8 (by decide +kernel)) (by decide) rfl dX11_init_74 h (fun v10 M15 h => ?_)
  refine j_dup C0 (pc := 77) dX11_init_77 rfl ?_
  refine j_aload_n C0 (pc := 78) dX11_init_78 rfl ?_
  refine X_gN C0 (pc := 79) f_OV_16_9 rfl dX11_init_79 h (fun v11 h => ?_)
  refine X_cI C0 (pc := 82) (e' := e_V) (as := [.ref v11]) (rest := [.ref v10, .ref a0]) (s' := fun _ => [.ref v10, .ref a0]) (g' := (66, 5721)) i_OV_41 (fun Ψ hΨ => K_X5_init v10 v11 M15 Ψ hΨ) rfl rfl (fun _ => rfl) (by decide) (by decide) rfl (Nat.le_of_ble_eq_true rfl) dX11_init_82 h (fun _ M16 h => ?_)
  refine X_pNF C0 (pc := 85) f_OV_44_9 rfl ⟨_, rfl, rfl⟩ (Or.inl ⟨_, rfl⟩) rfl dX11_init_85 h (fun M17 h => ?_)
  refine j_aload_n C0 (pc := 88) dX11_init_88 rfl ?_
  refine X_new C0 (pc := 89) (g' := (67, 5733)) k_Finder (j_c2 49 (by decide +kernel)) (j_c2 50 (by decide +kernel)) (j_c1 10 (by decide +kernel)) (by decide) rfl dX11_init_89 h (fun v12 M18 h => ?_)
  refine j_dup C0 (pc := 92) dX11_init_92 rfl ?_
  refine j_aload_n C0 (pc := 93) dX11_init_93 rfl ?_
  refine X_gN C0 (pc := 94) f_OV_16_9 rfl dX11_init_94 h (fun v13 h => ?_)
  refine X_cI C0 (pc := 97) (e' := e_V) (as := [.ref v13]) (rest := [.ref v12, .ref a0]) (s' := fun _ => [.ref v12, .ref a0]) (g' := (76, 20187)) i_OV_50 (fun Ψ hΨ => K_X2_init v12 v13 M18 Ψ hΨ) rfl rfl (fun _ => rfl) (by decide) (by decide) rfl (Nat.le_of_ble_eq_true rfl) dX11_init_97 h (fun _ M19 h => ?_)
  refine X_pNF C0 (pc := 100) f_OV_51_9 rfl ⟨_, rfl, rfl⟩ (Or.inl ⟨_, rfl⟩) rfl dX11_init_100 h (fun M20 h => ?_)
  refine j_aload_n C0 (pc := 103) dX11_init_103 rfl ?_
  refine X_new C0 (pc := 104) (g' := (77, 20190)) k_Bell (j_c2 99 (by decide +kernel)) (j_c2 100 (by decide +kernel)) (j_c1 11 (by decide +kernel)) (by decide) rfl dX11_init_104 h (fun v14 M21 h => ?_)
  refine j_dup C0 (pc := 107) dX11_init_107 rfl ?_
  refine j_aload_n C0 (pc := 108) dX11_init_108 rfl ?_
  refine X_gN C0 (pc := 109) f_OV_16_9 rfl dX11_init_109 h (fun v15 h => ?_)
  refine X_cI C0 (pc := 112) (e' := e_V) (as := [.ref v15]) (rest := [.ref v14, .ref a0]) (s' := fun _ => [.ref v14, .ref a0]) (g' := (79, 20708)) i_OV_57 (fun Ψ hΨ => K_X0_init v14 v15 M21 Ψ hΨ) rfl rfl (fun _ => rfl) (by decide) (by decide) rfl (Nat.le_of_ble_eq_true rfl) dX11_init_112 h (fun _ M22 h => ?_)
  refine X_pNF C0 (pc := 115) f_OV_58_9 rfl ⟨_, rfl, rfl⟩ (Or.inl ⟨_, rfl⟩) rfl dX11_init_115 h (fun M23 h => ?_)
  refine j_aload_n C0 (pc := 118) dX11_init_118 rfl ?_
  refine X_new C0 (pc := 119) (g' := (80, 20721)) k_Book (j_c2 115 (by decide +kernel)) (j_c2 116 (by decide +kernel)) (j_c1 12 (by decide +kernel)) (by decide) rfl dX11_init_119 h (fun v16 M24 h => ?_)
  refine j_dup C0 (pc := 122) dX11_init_122 rfl ?_
  refine X_cIN C0 (pc := 123) (e' := e_V) (as := []) (rest := [.ref v16, .ref a0]) (s' := fun _ => [.ref v16, .ref a0]) (g' := (87, 20793)) n_OV_64 (fun Ψ hΨ => K_X1_init v16 M24 Ψ hΨ) rfl rfl (fun _ => rfl) (by decide) (by decide) rfl (Nat.le_of_ble_eq_true rfl) dX11_init_123 h (fun _ M25 h => ?_)
  refine X_pNF C0 (pc := 126) f_OV_65_9 rfl ⟨_, rfl, rfl⟩ (Or.inl ⟨_, rfl⟩) rfl dX11_init_126 h (fun M26 h => ?_)
  refine j_aload_n C0 (pc := 129) dX11_init_129 rfl ?_
  refine j_iconst C0 (pc := 130) dX11_init_130 (v := (4 : Int32)) (by decide) ?_
  refine X_anew C0 (pc := 131) (cap := 4) (g' := (88, 20797)) ⟨by decide, by decide, rfl⟩ (j_c2 115 (by decide +kernel)) (by decide) (by decide) rfl dX11_init_131 h (fun v17 M27 h => ?_)
  refine X_pNF C0 (pc := 134) f_OV_69_9 rfl ⟨_, rfl, rfl⟩ (Or.inr ⟨_, rfl⟩) rfl dX11_init_134 h (fun M28 h => ?_)
  refine j_aload_n C0 (pc := 137) dX11_init_137 rfl ?_
  refine j_iconst C0 (pc := 138) dX11_init_138 (v := (4 : Int32)) (by decide) ?_
  refine X_newZ C0 (pc := 139) (cap := 4) (g' := (89, 20801)) (j_c2 221 (by decide +kernel)) (by decide) (by decide) rfl dX11_init_139 h (fun v18 M29 h => ?_)
  refine X_pNF C0 (pc := 141) f_OV_73_9 rfl ⟨_, rfl, rfl⟩ (Or.inr ⟨_, rfl⟩) rfl dX11_init_141 h (fun M30 h => ?_)
  refine j_aload_n C0 (pc := 144) dX11_init_144 rfl ?_
  refine X_new C0 (pc := 145) (g' := (90, 20802)) k_WS (j_c2 170 (by decide +kernel)) (j_c2 30 (by decide +kernel)) (j_c1 9 (by decide +kernel)) (by decide) rfl dX11_init_145 h (fun v19 M31 h => ?_)
  refine j_dup C0 (pc := 148) dX11_init_148 rfl ?_
  refine X_cIN C0 (pc := 149) (e' := e_V) (as := []) (rest := [.ref v19, .ref a0]) (s' := fun _ => [.ref v19, .ref a0]) (g' := (91, 20818)) n_OV_79 (fun Ψ hΨ => K_X10_init v19 M31 Ψ hΨ) rfl rfl (fun _ => rfl) (by decide) (by decide) rfl (Nat.le_of_ble_eq_true rfl) dX11_init_149 h (fun _ M32 h => ?_)
  refine X_pNF C0 (pc := 152) f_OV_80_9 rfl ⟨_, rfl, rfl⟩ (Or.inl ⟨_, rfl⟩) rfl dX11_init_152 h (fun M33 h => ?_)
  refine j_aload_n C0 (pc := 155) dX11_init_155 rfl ?_
  refine X_new C0 (pc := 156) (g' := (92, 20819)) k_WS (j_c2 170 (by decide +kernel)) (j_c2 30 (by decide +kernel)) (j_c1 9 (by decide +kernel)) (by decide) rfl dX11_init_156 h (fun v20 M34 h => ?_)
  refine j_dup C0 (pc := 159) dX11_init_159 rfl ?_
  refine X_cIN C0 (pc := 160) (e' := e_V) (as := []) (rest := [.ref v20, .ref a0]) (s' := fun _ => [.ref v20, .ref a0]) (g' := (93, 20835)) n_OV_79 (fun Ψ hΨ => K_X10_init v20 M34 Ψ hΨ) rfl rfl (fun _ => rfl) (by decide) (by decide) rfl (Nat.le_of_ble_eq_true rfl) dX11_init_160 h (fun _ M35 h => ?_)
  refine X_pNF C0 (pc := 163) f_OV_84_9 rfl ⟨_, rfl, rfl⟩ (Or.inl ⟨_, rfl⟩) rfl dX11_init_163 h (fun M36 h => ?_)
  refine j_aload_n C0 (pc := 166) dX11_init_166 rfl ?_
  refine X_new C0 (pc := 167) (g' := (94, 20836)) k_WS (j_c2 170 (by decide +kernel)) (j_c2 30 (by decide +kernel)) (j_c1 9 (by decide +kernel)) (by decide) rfl dX11_init_167 h (fun v21 M37 h => ?_)
  refine j_dup C0 (pc := 170) dX11_init_170 rfl ?_
  refine X_cIN C0 (pc := 171) (e' := e_V) (as := []) (rest := [.ref v21, .ref a0]) (s' := fun _ => [.ref v21, .ref a0]) (g' := (95, 20852)) n_OV_79 (fun Ψ hΨ => K_X10_init v21 M37 Ψ hΨ) rfl rfl (fun _ => rfl) (by decide) (by decide) rfl (Nat.le_of_ble_eq_true rfl) dX11_init_171 h (fun _ M38 h => ?_)
  refine X_pNF C0 (pc := 174) f_OV_87_9 rfl ⟨_, rfl, rfl⟩ (Or.inl ⟨_, rfl⟩) rfl dX11_init_174 h (fun M39 h => ?_)
  refine j_iconst C0 (pc := 177) dX11_init_177 (v := (0 : Int32)) (by decide) ?_
  refine j_istore_n C0 (pc := 178) dX11_init_178 (Nat.le_of_ble_eq_true rfl) ?_
  show j_J X 2 179 [some (.ref a0), some (.int (0 : Int32))] [] (95, 20852) M39
  refine j_iload_n C0 (pc := 179) dX11_init_179 rfl ?_
  refine j_iconst C0 (pc := 180) dX11_init_180 (v := (4 : Int32)) (by decide) ?_
  refine j_icmp_ge C0 (pc := 181) (tgt := 203) dX11_init_181 (by decide) (fun hc => absurd hc (by decide)) (fun _ => ?_)
  refine j_aload_n C0 (pc := 184) dX11_init_184 rfl ?_
  refine X_gN C0 (pc := 185) f_OV_69_9 rfl dX11_init_185 h (fun v22 h => ?_)
  refine j_iload_n C0 (pc := 188) dX11_init_188 rfl ?_
  refine X_new C0 (pc := 189) (g' := (96, 20865)) k_Book (j_c2 115 (by decide +kernel)) (j_c2 116 (by decide +kernel)) (j_c1 12 (by decide +kernel)) (by decide) rfl dX11_init_189 h (fun v23 M40 h => ?_)
  refine j_dup C0 (pc := 192) dX11_init_192 rfl ?_
  refine X_cIN C0 (pc := 193) (e' := e_V) (as := []) (rest := [.ref v23, .int (0 : Int32), .ref v22]) (s' := fun _ => [.ref v23, .int (0 : Int32), .ref v22]) (g' := (103, 20937)) n_OV_64 (fun Ψ hΨ => K_X1_init v23 M40 Ψ hΨ) rfl rfl (fun _ => rfl) (by decide) (by decide) rfl (Nat.le_of_ble_eq_true rfl) dX11_init_193 h (fun _ M41 h => ?_)
  refine X_aastN C0 (pc := 196) (by decide) dX11_init_196 h (fun M42 h => ?_)
  refine j_iinc C0 (pc := 197) dX11_init_197 (v := (1 : Int32)) rfl (Nat.le_of_ble_eq_true rfl) (by decide) ?_
  show j_J X 2 200 [some (.ref a0), some (.int (1 : Int32))] [] (103, 20937) M42
  refine j_goto C0 (pc := 200) (tgt := 179) dX11_init_200 (by decide) ?_
  refine j_iload_n C0 (pc := 179) dX11_init_179 rfl ?_
  refine j_iconst C0 (pc := 180) dX11_init_180 (v := (4 : Int32)) (by decide) ?_
  refine j_icmp_ge C0 (pc := 181) (tgt := 203) dX11_init_181 (by decide) (fun hc => absurd hc (by decide)) (fun _ => ?_)
  refine j_aload_n C0 (pc := 184) dX11_init_184 rfl ?_
  refine X_gN C0 (pc := 185) f_OV_69_9 rfl dX11_init_185 h (fun v24 h => ?_)
  refine j_iload_n C0 (pc := 188) dX11_init_188 rfl ?_
  refine X_new C0 (pc := 189) (g' := (104, 20950)) k_Book (j_c2 115 (by decide +kernel)) (j_c2 116 (by decide +kernel)) (j_c1 12 (by decide +kernel)) (by decide) rfl dX11_init_189 h (fun v25 M43 h => ?_)
  refine j_dup C0 (pc := 192) dX11_init_192 rfl ?_
  refine X_cIN C0 (pc := 193) (e' := e_V) (as := []) (rest := [.ref v25, .int (1 : Int32), .ref v24]) (s' := fun _ => [.ref v25, .int (1 : Int32), .ref v24]) (g' := (111, 21022)) n_OV_64 (fun Ψ hΨ => K_X1_init v25 M43 Ψ hΨ) rfl rfl (fun _ => rfl) (by decide) (by decide) rfl (Nat.le_of_ble_eq_true rfl) dX11_init_193 h (fun _ M44 h => ?_)
  refine X_aastN C0 (pc := 196) (by decide) dX11_init_196 h (fun M45 h => ?_)
  refine j_iinc C0 (pc := 197) dX11_init_197 (v := (2 : Int32)) rfl (Nat.le_of_ble_eq_true rfl) (by decide) ?_
  show j_J X 2 200 [some (.ref a0), some (.int (2 : Int32))] [] (111, 21022) M45
  refine j_goto C0 (pc := 200) (tgt := 179) dX11_init_200 (by decide) ?_
  refine j_iload_n C0 (pc := 179) dX11_init_179 rfl ?_
  refine j_iconst C0 (pc := 180) dX11_init_180 (v := (4 : Int32)) (by decide) ?_
  refine j_icmp_ge C0 (pc := 181) (tgt := 203) dX11_init_181 (by decide) (fun hc => absurd hc (by decide)) (fun _ => ?_)
  refine j_aload_n C0 (pc := 184) dX11_init_184 rfl ?_
  refine X_gN C0 (pc := 185) f_OV_69_9 rfl dX11_init_185 h (fun v26 h => ?_)
  refine j_iload_n C0 (pc := 188) dX11_init_188 rfl ?_
  refine X_new C0 (pc := 189) (g' := (112, 21035)) k_Book (j_c2 115 (by decide +kernel)) (j_c2 116 (by decide +kernel)) (j_c1 12 (by decide +kernel)) (by decide) rfl dX11_init_189 h (fun v27 M46 h => ?_)
  refine j_dup C0 (pc := 192) dX11_init_192 rfl ?_
  refine X_cIN C0 (pc := 193) (e' := e_V) (as := []) (rest := [.ref v27, .int (2 : Int32), .ref v26]) (s' := fun _ => [.ref v27, .int (2 : Int32), .ref v26]) (g' := (119, 21107)) n_OV_64 (fun Ψ hΨ => K_X1_init v27 M46 Ψ hΨ) rfl rfl (fun _ => rfl) (by decide) (by decide) rfl (Nat.le_of_ble_eq_true rfl) dX11_init_193 h (fun _ M47 h => ?_)
  refine X_aastN C0 (pc := 196) (by decide) dX11_init_196 h (fun M48 h => ?_)
  refine j_iinc C0 (pc := 197) dX11_init_197 (v := (3 : Int32)) rfl (Nat.le_of_ble_eq_true rfl) (by decide) ?_
  show j_J X 2 200 [some (.ref a0), some (.int (3 : Int32))] [] (119, 21107) M48
  refine j_goto C0 (pc := 200) (tgt := 179) dX11_init_200 (by decide) ?_
  refine j_iload_n C0 (pc := 179) dX11_init_179 rfl ?_
  refine j_iconst C0 (pc := 180) dX11_init_180 (v := (4 : Int32)) (by decide) ?_
  refine j_icmp_ge C0 (pc := 181) (tgt := 203) dX11_init_181 (by decide) (fun hc => absurd hc (by decide)) (fun _ => ?_)
  refine j_aload_n C0 (pc := 184) dX11_init_184 rfl ?_
  refine X_gN C0 (pc := 185) f_OV_69_9 rfl dX11_init_185 h (fun v28 h => ?_)
  refine j_iload_n C0 (pc := 188) dX11_init_188 rfl ?_
  refine X_new C0 (pc := 189) (g' := (120, 21120)) k_Book (j_c2 115 (by decide +kernel)) (j_c2 116 (by decide +kernel)) (j_c1 12 (by decide +kernel)) (by decide) rfl dX11_init_189 h (fun v29 M49 h => ?_)
  refine j_dup C0 (pc := 192) dX11_init_192 rfl ?_
  refine X_cIN C0 (pc := 193) (e' := e_V) (as := []) (rest := [.ref v29, .int (3 : Int32), .ref v28]) (s' := fun _ => [.ref v29, .int (3 : Int32), .ref v28]) (g' := (127, 21192)) n_OV_64 (fun Ψ hΨ => K_X1_init v29 M49 Ψ hΨ) rfl rfl (fun _ => rfl) (by decide) (by decide) rfl (Nat.le_of_ble_eq_true rfl) dX11_init_193 h (fun _ M50 h => ?_)
  refine X_aastN C0 (pc := 196) (by decide) dX11_init_196 h (fun M51 h => ?_)
  refine j_iinc C0 (pc := 197) dX11_init_197 (v := (4 : Int32)) rfl (Nat.le_of_ble_eq_true rfl) (by decide) ?_
  show j_J X 2 200 [some (.ref a0), some (.int (4 : Int32))] [] (127, 21192) M51
  refine j_goto C0 (pc := 200) (tgt := 179) dX11_init_200 (by decide) ?_
  refine j_iload_n C0 (pc := 179) dX11_init_179 rfl ?_
  refine j_iconst C0 (pc := 180) dX11_init_180 (v := (4 : Int32)) (by decide) ?_
  refine j_icmp_ge C0 (pc := 181) (tgt := 203) dX11_init_181 (by decide) (fun _ => ?_) (fun hc => absurd hc (by decide))
  exact j_vret C rfl h dX11_init_203 (by decide)
theorem dX11_knows_0 : decode cX11_knows 0 = .ok (.iconst 0, 1) := by decide +kernel
theorem dX11_knows_1 : decode cX11_knows 1 = .ok (.istore_n 1, 1) := by decide +kernel
theorem dX11_knows_2 : decode cX11_knows 2 = .ok (.iconst 0, 1) := by decide +kernel
theorem dX11_knows_3 : decode cX11_knows 3 = .ok (.istore_n 2, 1) := by decide +kernel
theorem dX11_knows_4 : decode cX11_knows 4 = .ok (.iload_n 2, 1) := by decide +kernel
theorem dX11_knows_5 : decode cX11_knows 5 = .ok (.aload_n 0, 1) := by decide +kernel
theorem dX11_knows_6 : decode cX11_knows 6 = .ok (.getfield 16, 3) := by decide +kernel
theorem dX11_knows_9 : decode cX11_knows 9 = .ok (.getfield 279, 3) := by decide +kernel
theorem dX11_knows_12 : decode cX11_knows 12 = .ok (.iconst 2, 1) := by decide +kernel
theorem dX11_knows_13 : decode cX11_knows 13 = .ok (.iaload, 1) := by decide +kernel
theorem dX11_knows_14 : decode cX11_knows 14 = .ok (.if_icmp .ge 23, 3) := by decide +kernel
theorem dX11_knows_17 : decode cX11_knows 17 = .ok (.aload_n 0, 1) := by decide +kernel
theorem dX11_knows_18 : decode cX11_knows 18 = .ok (.iload_n 2, 1) := by decide +kernel
theorem dX11_knows_19 : decode cX11_knows 19 = .ok (.invokevirtual 298, 3) := by decide +kernel
theorem dX11_knows_22 : decode cX11_knows 22 = .ok (.ifCond .eq 9, 3) := by decide +kernel
theorem dX11_knows_25 : decode cX11_knows 25 = .ok (.iload_n 1, 1) := by decide +kernel
theorem dX11_knows_26 : decode cX11_knows 26 = .ok (.iconst 1, 1) := by decide +kernel
theorem dX11_knows_27 : decode cX11_knows 27 = .ok (.iload_n 2, 1) := by decide +kernel
theorem dX11_knows_28 : decode cX11_knows 28 = .ok (.ishl, 1) := by decide +kernel
theorem dX11_knows_29 : decode cX11_knows 29 = .ok (.ior, 1) := by decide +kernel
theorem dX11_knows_30 : decode cX11_knows 30 = .ok (.istore_n 1, 1) := by decide +kernel
theorem dX11_knows_31 : decode cX11_knows 31 = .ok (.iinc 2 1, 3) := by decide +kernel
theorem dX11_knows_34 : decode cX11_knows 34 = .ok (.goto (-30), 3) := by decide +kernel
theorem dX11_knows_37 : decode cX11_knows 37 = .ok (.iload_n 1, 1) := by decide +kernel
theorem dX11_knows_38 : decode cX11_knows 38 = .ok (.ireturn, 1) := by decide +kernel
noncomputable def F_X11_knows_4 : Nat → Nat → Int32 → Int32 → m_M → Option (Int32 × m_M)
  | 0, _, _, _, _ => none
  | n + 1, v1, v2, v3, M =>
    x_gN 9 M v1 2 fun v4 =>
    x_gN 3 M v4 6 fun v5 =>
    x_aI 12 M v5 (2 : Int32) fun v6 =>
    if v6 ≤ v3 then (
      some (v2, M)
    ) else
    m_let (fun (v7 : Nat) (v8 : Int32) (v9 : Int32) (M1 : m_M) =>
      m_let (v9 + (1 : Int32)) fun v10 =>
      F_X11_knows_4 n v7 v8 v10 M1
    ) fun (k31 : Nat → Int32 → Int32 → m_M → Option (Int32 × m_M)) =>
    x_cV 9 M v1 (F_X11_fitsSeen v1 v3 M) fun v11 M2 =>
    if v11 = 0 then (
      k31 v1 v2 v3 M2
    ) else
    m_let (v2 ||| ((1 : Int32) <<< (v3 &&& 31))) fun v12 =>
    k31 v1 v12 v3 M2
noncomputable def F_X11_knows (a0 : Nat) (M : m_M) : Option (Int32 × m_M) :=
  F_X11_knows_4 m_FU a0 (0 : Int32) (0 : Int32) M
set_option maxHeartbeats 4000000 in
theorem L_X11_knows_4 {X : j_X} {Φ : Option Value → m_M → Prop} (C : j_C X yX11_knows cX11_knows 3 (some .int) 6 0 0 Φ) : ∀ (n : Nat) (v1 : Nat) (v2 : Int32) (v3 : Int32) (M : m_M), m_ok e_I Φ (F_X11_knows_4 n v1 v2 v3 M) → j_J X 3 4 [some (.ref v1), some (.int v2), some (.int v3)] [] (0, 0) M := by
  have C0 := C.1
  intro n
  induction n with
  | zero => intro v1 v2 v3 M h; exact False.elim h
  | succ n ih =>
    intro v1 v2 v3 M h
    rw [F_X11_knows_4] at h
    refine j_iload_n C0 (pc := 4) dX11_knows_4 rfl ?_
    refine j_aload_n C0 (pc := 5) dX11_knows_5 rfl ?_
    refine X_gN C0 (pc := 6) f_OV_16_9 rfl dX11_knows_6 h (fun v4 h => ?_)
    refine X_gN C0 (pc := 9) f_OV_279_3 rfl dX11_knows_9 h (fun v5 h => ?_)
    refine j_iconst C0 (pc := 12) dX11_knows_12 (v := (2 : Int32)) (by decide) ?_
    refine X_iald C0 (pc := 13) dX11_knows_13 h (fun v6 h => ?_)
    refine j_icmp_ge C0 (pc := 14) (tgt := 37) dX11_knows_14 (by decide) (fun hc => ?_) (fun hc => ?_)
    · replace h := (X_if h).1 hc
      refine j_iload_n C0 (pc := 37) dX11_knows_37 rfl ?_
      exact j_iret C rfl h dX11_knows_38 (by decide)
    · replace h := (X_if h).2 hc
      refine X_join (fun (kj : Nat → Int32 → Int32 → m_M → Option (Int32 × m_M)) => ∀ (p0 : Nat) (p1 : Int32) (p2 : Int32) (M : m_M), m_ok e_I Φ (kj p0 p1 p2 M) → j_J X 3 31 [some (.ref p0), some (.int p1), some (.int p2)] [] (0, 0) M) h (fun v7 v8 v9 M1 h => ?_) (fun k31 hk31 h => ?_)
      · refine j_iinc C0 (pc := 31) dX11_knows_31 (v := v9 + (1 : Int32)) rfl (Nat.le_of_ble_eq_true rfl) (by rfl) ?_
        refine X_let (G := fun w => j_J X 3 34 [some (.ref v7), some (.int v8), some (.int w)] [] (0, 0) M1) h (fun v10 h => ?_)
        refine j_goto C0 (pc := 34) (tgt := 4) dX11_knows_34 (by decide) ?_
        exact j_J.wq (ih v7 v8 v10 M1 h) (And.intro rfl (And.intro rfl (And.intro rfl (trivial))))
      · refine j_aload_n C0 (pc := 17) dX11_knows_17 rfl ?_
        refine j_iload_n C0 (pc := 18) dX11_knows_18 rfl ?_
        refine X_cV C0 (pc := 19) (e' := e_I) (as := [.int v3]) (rest := []) (s' := fun w => .int w :: []) (g' := (0, 0)) v_OV_298_9 (fun Ψ hΨ => K_X11_fitsSeen v1 v3 M Ψ hΨ) rfl rfl (fun _ => rfl) (by decide) (by decide) rfl (Nat.le_of_ble_eq_true rfl) dX11_knows_19 h (fun v11 M2 h => ?_)
        refine j_if_eq C0 (pc := 22) (tgt := 31) dX11_knows_22 (by decide) (fun hc => ?_) (fun hc => ?_)
        · replace h := (X_if h).1 hc
          exact j_J.wq (hk31 v1 v2 v3 M2 h) (And.intro rfl (And.intro rfl (And.intro rfl (trivial))))
        · replace h := (X_if h).2 hc
          refine j_iload_n C0 (pc := 25) dX11_knows_25 rfl ?_
          refine j_iconst C0 (pc := 26) dX11_knows_26 (v := (1 : Int32)) (by decide) ?_
          refine j_iload_n C0 (pc := 27) dX11_knows_27 rfl ?_
          refine j_ishl C0 (pc := 28) dX11_knows_28 ?_
          refine j_ior C0 (pc := 29) dX11_knows_29 ?_
          refine X_let (G := fun w => j_J X 3 30 [some (.ref v1), some (.int v2), some (.int v3)] (.int w :: []) (0, 0) M2) h (fun v12 h => ?_)
          refine j_istore_n C0 (pc := 30) dX11_knows_30 (Nat.le_of_ble_eq_true rfl) ?_
          show j_J X 3 31 [some (.ref v1), some (.int v12), some (.int v3)] [] (0, 0) M2
          exact j_J.wq (hk31 v1 v12 v3 M2 h) (And.intro rfl (And.intro rfl (And.intro rfl (trivial))))
set_option maxHeartbeats 4000000 in
theorem K_X11_knows (a0 : Nat) (M : m_M) (Φ : Option Value → m_M → Prop) (h : m_ok e_I Φ (F_X11_knows a0 M)) : j_Ct yX11_knows cX11_knows 3 (some .int) 6 0 0 [.ref a0] M Φ := by
  refine j_Ct.of (by decide +kernel) (Nat.le_of_ble_eq_true rfl) fun X C => ?_
  have C0 := C.1
  show j_J X 3 0 [some (.ref a0), none, none] [] (0, 0) M
  unfold F_X11_knows at h
  refine j_iconst C0 (pc := 0) dX11_knows_0 (v := (0 : Int32)) (by decide) ?_
  refine j_istore_n C0 (pc := 1) dX11_knows_1 (Nat.le_of_ble_eq_true rfl) ?_
  show j_J X 3 2 [some (.ref a0), some (.int (0 : Int32)), none] [] (0, 0) M
  refine j_iconst C0 (pc := 2) dX11_knows_2 (v := (0 : Int32)) (by decide) ?_
  refine j_istore_n C0 (pc := 3) dX11_knows_3 (Nat.le_of_ble_eq_true rfl) ?_
  show j_J X 3 4 [some (.ref a0), some (.int (0 : Int32)), some (.int (0 : Int32))] [] (0, 0) M
  exact j_J.wq (L_X11_knows_4 C m_FU a0 (0 : Int32) (0 : Int32) M h) (And.intro rfl (And.intro rfl (And.intro rfl (trivial))))
theorem dX8_pass_0 : decode cX8_pass 0 = .ok (.aload_n 0, 1) := by decide +kernel
theorem dX8_pass_1 : decode cX8_pass 1 = .ok (.aload_n 1, 1) := by decide +kernel
theorem dX8_pass_2 : decode cX8_pass 2 = .ok (.invokevirtual 96, 3) := by decide +kernel
theorem dX8_pass_5 : decode cX8_pass 5 = .ok (.ifCond .ne 9, 3) := by decide +kernel
theorem dX8_pass_8 : decode cX8_pass 8 = .ok (.aload_n 0, 1) := by decide +kernel
theorem dX8_pass_9 : decode cX8_pass 9 = .ok (.iconst 1, 1) := by decide +kernel
theorem dX8_pass_10 : decode cX8_pass 10 = .ok (.invokevirtual 100, 3) := by decide +kernel
theorem dX8_pass_13 : decode cX8_pass 13 = .ok (.ireturn, 1) := by decide +kernel
theorem dX8_pass_14 : decode cX8_pass 14 = .ok (.aload_n 0, 1) := by decide +kernel
theorem dX8_pass_15 : decode cX8_pass 15 = .ok (.invokevirtual 31, 3) := by decide +kernel
theorem dX8_pass_18 : decode cX8_pass 18 = .ok (.iconst 1, 1) := by decide +kernel
theorem dX8_pass_19 : decode cX8_pass 19 = .ok (.ireturn, 1) := by decide +kernel
noncomputable def F_X8_pass (kd : Nat) (a0 : Nat) (a1 : Nat) (M : m_M) : Option (Int32 × m_M) :=
  x_cV kd M a0 (F_X8_isAt kd a0 a1 M) fun v1 M1 =>
  if v1 = 0 then (
    x_cV kd M1 a0 (F_X8_fail kd a0 (1 : Int32) M1) fun v2 M3 =>
    x_b v2 <| some (v2, M3)
  ) else
  x_cV kd M1 a0 (F_X8_advance kd a0 M1) fun _ M2 =>
  some ((1 : Int32), M2)
set_option maxHeartbeats 4000000 in
theorem K_X8_pass_4 (a0 : Nat) (a1 : Nat) (M : m_M) (Φ : Option Value → m_M → Prop) (h : m_ok e_I Φ (F_X8_pass 4 a0 a1 M)) : j_Ct yX8_pass cX8_pass 2 (some .boolean) 7 0 0 [.ref a0, .ref a1] M Φ := by
  refine j_Ct.of (by decide +kernel) (Nat.le_of_ble_eq_true rfl) fun X C => ?_
  have C0 := C.1
  show j_J X 2 0 [some (.ref a0), some (.ref a1)] [] (0, 0) M
  unfold F_X8_pass at h
  refine j_aload_n C0 (pc := 0) dX8_pass_0 rfl ?_
  refine j_aload_n C0 (pc := 1) dX8_pass_1 rfl ?_
  refine X_cV C0 (pc := 2) (e' := e_I) (as := [.ref a1]) (rest := []) (s' := fun w => .int w :: []) (g' := (0, 0)) v_Tok_96_4 (fun Ψ hΨ => K_X8_isAt_4 a0 a1 M Ψ hΨ) rfl rfl (fun _ => rfl) (by decide) (by decide) rfl (Nat.le_of_ble_eq_true rfl) dX8_pass_2 h (fun v1 M1 h => ?_)
  refine j_if_ne C0 (pc := 5) (tgt := 14) dX8_pass_5 (by decide) (fun hc => ?_) (fun hc => ?_)
  · replace h := (X_if h).2 hc
    refine j_aload_n C0 (pc := 14) dX8_pass_14 rfl ?_
    refine X_cV C0 (pc := 15) (e' := e_V) (as := []) (rest := []) (s' := fun _ => []) (g' := (0, 0)) v_Tok_31_4 (fun Ψ hΨ => K_X8_advance_4 a0 M1 Ψ hΨ) rfl rfl (fun _ => rfl) (by decide) (by decide) rfl (Nat.le_of_ble_eq_true rfl) dX8_pass_15 h (fun _ M2 h => ?_)
    refine j_iconst C0 (pc := 18) dX8_pass_18 (v := (1 : Int32)) (by decide) ?_
    exact j_zret C rfl (by decide) h dX8_pass_19 (by decide)
  · replace h := (X_if h).1 hc
    refine j_aload_n C0 (pc := 8) dX8_pass_8 rfl ?_
    refine j_iconst C0 (pc := 9) dX8_pass_9 (v := (1 : Int32)) (by decide) ?_
    refine X_cV C0 (pc := 10) (e' := e_I) (as := [.int (1 : Int32)]) (rest := []) (s' := fun w => .int w :: []) (g' := (0, 0)) v_Tok_100_4 (fun Ψ hΨ => K_X8_fail_4 a0 (1 : Int32) M1 Ψ hΨ) rfl rfl (fun _ => rfl) (by decide) (by decide) rfl (Nat.le_of_ble_eq_true rfl) dX8_pass_10 h (fun v2 M3 h => ?_)
    exact j_zret C rfl (by rcases (X_gd h).1 with q | q <;> (rw [q]; rfl)) (X_gd h).2 dX8_pass_13 (by decide)
set_option maxHeartbeats 4000000 in
theorem K_X8_pass_7 (a0 : Nat) (a1 : Nat) (M : m_M) (Φ : Option Value → m_M → Prop) (h : m_ok e_I Φ (F_X8_pass 7 a0 a1 M)) : j_Ct yX8_pass cX8_pass 2 (some .boolean) 7 0 0 [.ref a0, .ref a1] M Φ := by
  refine j_Ct.of (by decide +kernel) (Nat.le_of_ble_eq_true rfl) fun X C => ?_
  have C0 := C.1
  show j_J X 2 0 [some (.ref a0), some (.ref a1)] [] (0, 0) M
  unfold F_X8_pass at h
  refine j_aload_n C0 (pc := 0) dX8_pass_0 rfl ?_
  refine j_aload_n C0 (pc := 1) dX8_pass_1 rfl ?_
  refine X_cV C0 (pc := 2) (e' := e_I) (as := [.ref a1]) (rest := []) (s' := fun w => .int w :: []) (g' := (0, 0)) v_Tok_96_7 (fun Ψ hΨ => K_X8_isAt_7 a0 a1 M Ψ hΨ) rfl rfl (fun _ => rfl) (by decide) (by decide) rfl (Nat.le_of_ble_eq_true rfl) dX8_pass_2 h (fun v1 M1 h => ?_)
  refine j_if_ne C0 (pc := 5) (tgt := 14) dX8_pass_5 (by decide) (fun hc => ?_) (fun hc => ?_)
  · replace h := (X_if h).2 hc
    refine j_aload_n C0 (pc := 14) dX8_pass_14 rfl ?_
    refine X_cV C0 (pc := 15) (e' := e_V) (as := []) (rest := []) (s' := fun _ => []) (g' := (0, 0)) v_Tok_31_7 (fun Ψ hΨ => K_X8_advance_7 a0 M1 Ψ hΨ) rfl rfl (fun _ => rfl) (by decide) (by decide) rfl (Nat.le_of_ble_eq_true rfl) dX8_pass_15 h (fun _ M2 h => ?_)
    refine j_iconst C0 (pc := 18) dX8_pass_18 (v := (1 : Int32)) (by decide) ?_
    exact j_zret C rfl (by decide) h dX8_pass_19 (by decide)
  · replace h := (X_if h).1 hc
    refine j_aload_n C0 (pc := 8) dX8_pass_8 rfl ?_
    refine j_iconst C0 (pc := 9) dX8_pass_9 (v := (1 : Int32)) (by decide) ?_
    refine X_cV C0 (pc := 10) (e' := e_I) (as := [.int (1 : Int32)]) (rest := []) (s' := fun w => .int w :: []) (g' := (0, 0)) v_Tok_100_7 (fun Ψ hΨ => K_X8_fail_7 a0 (1 : Int32) M1 Ψ hΨ) rfl rfl (fun _ => rfl) (by decide) (by decide) rfl (Nat.le_of_ble_eq_true rfl) dX8_pass_10 h (fun v2 M3 h => ?_)
    exact j_zret C rfl (by rcases (X_gd h).1 with q | q <;> (rw [q]; rfl)) (X_gd h).2 dX8_pass_13 (by decide)
theorem dX8_passNumber_0 : decode cX8_passNumber 0 = .ok (.aload_n 0, 1) := by decide +kernel
theorem dX8_passNumber_1 : decode cX8_passNumber 1 = .ok (.getfield 44, 3) := by decide +kernel
theorem dX8_passNumber_4 : decode cX8_passNumber 4 = .ok (.iconst 3, 1) := by decide +kernel
theorem dX8_passNumber_5 : decode cX8_passNumber 5 = .ok (.if_icmp .eq 11, 3) := by decide +kernel
theorem dX8_passNumber_8 : decode cX8_passNumber 8 = .ok (.aload_n 0, 1) := by decide +kernel
theorem dX8_passNumber_9 : decode cX8_passNumber 9 = .ok (.iconst 1, 1) := by decide +kernel
theorem dX8_passNumber_10 : decode cX8_passNumber 10 = .ok (.invokevirtual 100, 3) := by decide +kernel
theorem dX8_passNumber_13 : decode cX8_passNumber 13 = .ok (.pop, 1) := by decide +kernel
theorem dX8_passNumber_14 : decode cX8_passNumber 14 = .ok (.iconst (-1), 1) := by decide +kernel
theorem dX8_passNumber_15 : decode cX8_passNumber 15 = .ok (.ireturn, 1) := by decide +kernel
theorem dX8_passNumber_16 : decode cX8_passNumber 16 = .ok (.aload_n 0, 1) := by decide +kernel
theorem dX8_passNumber_17 : decode cX8_passNumber 17 = .ok (.getfield 81, 3) := by decide +kernel
theorem dX8_passNumber_20 : decode cX8_passNumber 20 = .ok (.istore_n 3, 1) := by decide +kernel
theorem dX8_passNumber_21 : decode cX8_passNumber 21 = .ok (.iload_n 3, 1) := by decide +kernel
theorem dX8_passNumber_22 : decode cX8_passNumber 22 = .ok (.iload_n 1, 1) := by decide +kernel
theorem dX8_passNumber_23 : decode cX8_passNumber 23 = .ok (.if_icmp .lt 8, 3) := by decide +kernel
theorem dX8_passNumber_26 : decode cX8_passNumber 26 = .ok (.iload_n 3, 1) := by decide +kernel
theorem dX8_passNumber_27 : decode cX8_passNumber 27 = .ok (.iload_n 2, 1) := by decide +kernel
theorem dX8_passNumber_28 : decode cX8_passNumber 28 = .ok (.if_icmp .le 11, 3) := by decide +kernel
theorem dX8_passNumber_31 : decode cX8_passNumber 31 = .ok (.aload_n 0, 1) := by decide +kernel
theorem dX8_passNumber_32 : decode cX8_passNumber 32 = .ok (.iconst 4, 1) := by decide +kernel
theorem dX8_passNumber_33 : decode cX8_passNumber 33 = .ok (.invokevirtual 100, 3) := by decide +kernel
theorem dX8_passNumber_36 : decode cX8_passNumber 36 = .ok (.pop, 1) := by decide +kernel
theorem dX8_passNumber_37 : decode cX8_passNumber 37 = .ok (.iconst (-1), 1) := by decide +kernel
theorem dX8_passNumber_38 : decode cX8_passNumber 38 = .ok (.ireturn, 1) := by decide +kernel
theorem dX8_passNumber_39 : decode cX8_passNumber 39 = .ok (.aload_n 0, 1) := by decide +kernel
theorem dX8_passNumber_40 : decode cX8_passNumber 40 = .ok (.invokevirtual 31, 3) := by decide +kernel
theorem dX8_passNumber_43 : decode cX8_passNumber 43 = .ok (.iload_n 3, 1) := by decide +kernel
theorem dX8_passNumber_44 : decode cX8_passNumber 44 = .ok (.ireturn, 1) := by decide +kernel
noncomputable def F_X8_passNumber (kd : Nat) (a0 : Nat) (a1 : Int32) (a2 : Int32) (M : m_M) : Option (Int32 × m_M) :=
  x_gI kd M a0 4 fun v1 =>
  if v1 = (3 : Int32) then (
    m_let (fun (v2 : Nat) (M1 : m_M) =>
      x_cV kd M1 v2 (F_X8_fail kd v2 (4 : Int32) M1) fun v3 M2 =>
      some ((-1 : Int32), M2)
    ) fun (k31 : Nat → m_M → Option (Int32 × m_M)) =>
    x_gI kd M a0 5 fun v4 =>
    if v4 < a1 then (
      k31 a0 M
    ) else
    if v4 ≤ a2 then (
      x_cV kd M a0 (F_X8_advance kd a0 M) fun _ M3 =>
      some (v4, M3)
    ) else
    k31 a0 M
  ) else
  x_cV kd M a0 (F_X8_fail kd a0 (1 : Int32) M) fun v5 M4 =>
  some ((-1 : Int32), M4)
set_option maxHeartbeats 4000000 in
theorem K_X8_passNumber_4 (a0 : Nat) (a1 : Int32) (a2 : Int32) (M : m_M) (Φ : Option Value → m_M → Prop) (h : m_ok e_I Φ (F_X8_passNumber 4 a0 a1 a2 M)) : j_Ct yX8_passNumber cX8_passNumber 4 (some .int) 7 0 0 [.ref a0, .int a1, .int a2] M Φ := by
  refine j_Ct.of (by decide +kernel) (Nat.le_of_ble_eq_true rfl) fun X C => ?_
  have C0 := C.1
  show j_J X 4 0 [some (.ref a0), some (.int a1), some (.int a2), none] [] (0, 0) M
  unfold F_X8_passNumber at h
  refine j_aload_n C0 (pc := 0) dX8_passNumber_0 rfl ?_
  refine X_gI C0 (pc := 1) f_Tok_44_4 rfl dX8_passNumber_1 h (fun v1 h => ?_)
  refine j_iconst C0 (pc := 4) dX8_passNumber_4 (v := (3 : Int32)) (by decide) ?_
  refine j_icmp_eq C0 (pc := 5) (tgt := 16) dX8_passNumber_5 (by decide) (fun hc => ?_) (fun hc => ?_)
  · replace h := (X_if h).1 hc
    refine X_join (fun (kj : Nat → m_M → Option (Int32 × m_M)) => ∀ (p0 : Nat) (M : m_M), m_ok e_I Φ (kj p0 M) → j_J X 4 31 [some (.ref p0), none, none, none] [] (0, 0) M) h (fun v2 M1 h => ?_) (fun k31 hk31 h => ?_)
    · refine j_aload_n C0 (pc := 31) dX8_passNumber_31 rfl ?_
      refine j_iconst C0 (pc := 32) dX8_passNumber_32 (v := (4 : Int32)) (by decide) ?_
      refine X_cV C0 (pc := 33) (e' := e_I) (as := [.int (4 : Int32)]) (rest := []) (s' := fun w => .int w :: []) (g' := (0, 0)) v_Tok_100_4 (fun Ψ hΨ => K_X8_fail_4 v2 (4 : Int32) M1 Ψ hΨ) rfl rfl (fun _ => rfl) (by decide) (by decide) rfl (Nat.le_of_ble_eq_true rfl) dX8_passNumber_33 h (fun v3 M2 h => ?_)
      refine j_pop C0 (pc := 36) dX8_passNumber_36 rfl ?_
      refine j_iconst C0 (pc := 37) dX8_passNumber_37 (v := (-1 : Int32)) (by decide) ?_
      exact j_iret C rfl h dX8_passNumber_38 (by decide)
    · refine j_aload_n C0 (pc := 16) dX8_passNumber_16 rfl ?_
      refine X_gI C0 (pc := 17) f_Tok_81_4 rfl dX8_passNumber_17 h (fun v4 h => ?_)
      refine j_istore_n C0 (pc := 20) dX8_passNumber_20 (Nat.le_of_ble_eq_true rfl) ?_
      show j_J X 4 21 [some (.ref a0), some (.int a1), some (.int a2), some (.int v4)] [] (0, 0) M
      refine j_iload_n C0 (pc := 21) dX8_passNumber_21 rfl ?_
      refine j_iload_n C0 (pc := 22) dX8_passNumber_22 rfl ?_
      refine j_icmp_lt C0 (pc := 23) (tgt := 31) dX8_passNumber_23 (by decide) (fun hc => ?_) (fun hc => ?_)
      · replace h := (X_if h).1 hc
        exact j_J.wq (hk31 a0 M h) (And.intro rfl (trivial))
      · replace h := (X_if h).2 hc
        refine j_iload_n C0 (pc := 26) dX8_passNumber_26 rfl ?_
        refine j_iload_n C0 (pc := 27) dX8_passNumber_27 rfl ?_
        refine j_icmp_le C0 (pc := 28) (tgt := 39) dX8_passNumber_28 (by decide) (fun hc => ?_) (fun hc => ?_)
        · replace h := (X_if h).1 hc
          refine j_aload_n C0 (pc := 39) dX8_passNumber_39 rfl ?_
          refine X_cV C0 (pc := 40) (e' := e_V) (as := []) (rest := []) (s' := fun _ => []) (g' := (0, 0)) v_Tok_31_4 (fun Ψ hΨ => K_X8_advance_4 a0 M Ψ hΨ) rfl rfl (fun _ => rfl) (by decide) (by decide) rfl (Nat.le_of_ble_eq_true rfl) dX8_passNumber_40 h (fun _ M3 h => ?_)
          refine j_iload_n C0 (pc := 43) dX8_passNumber_43 rfl ?_
          exact j_iret C rfl h dX8_passNumber_44 (by decide)
        · replace h := (X_if h).2 hc
          exact j_J.wq (hk31 a0 M h) (And.intro rfl (trivial))
  · replace h := (X_if h).2 hc
    refine j_aload_n C0 (pc := 8) dX8_passNumber_8 rfl ?_
    refine j_iconst C0 (pc := 9) dX8_passNumber_9 (v := (1 : Int32)) (by decide) ?_
    refine X_cV C0 (pc := 10) (e' := e_I) (as := [.int (1 : Int32)]) (rest := []) (s' := fun w => .int w :: []) (g' := (0, 0)) v_Tok_100_4 (fun Ψ hΨ => K_X8_fail_4 a0 (1 : Int32) M Ψ hΨ) rfl rfl (fun _ => rfl) (by decide) (by decide) rfl (Nat.le_of_ble_eq_true rfl) dX8_passNumber_10 h (fun v5 M4 h => ?_)
    refine j_pop C0 (pc := 13) dX8_passNumber_13 rfl ?_
    refine j_iconst C0 (pc := 14) dX8_passNumber_14 (v := (-1 : Int32)) (by decide) ?_
    exact j_iret C rfl h dX8_passNumber_15 (by decide)
set_option maxHeartbeats 4000000 in
theorem K_X8_passNumber_7 (a0 : Nat) (a1 : Int32) (a2 : Int32) (M : m_M) (Φ : Option Value → m_M → Prop) (h : m_ok e_I Φ (F_X8_passNumber 7 a0 a1 a2 M)) : j_Ct yX8_passNumber cX8_passNumber 4 (some .int) 7 0 0 [.ref a0, .int a1, .int a2] M Φ := by
  refine j_Ct.of (by decide +kernel) (Nat.le_of_ble_eq_true rfl) fun X C => ?_
  have C0 := C.1
  show j_J X 4 0 [some (.ref a0), some (.int a1), some (.int a2), none] [] (0, 0) M
  unfold F_X8_passNumber at h
  refine j_aload_n C0 (pc := 0) dX8_passNumber_0 rfl ?_
  refine X_gI C0 (pc := 1) f_Tok_44_7 rfl dX8_passNumber_1 h (fun v1 h => ?_)
  refine j_iconst C0 (pc := 4) dX8_passNumber_4 (v := (3 : Int32)) (by decide) ?_
  refine j_icmp_eq C0 (pc := 5) (tgt := 16) dX8_passNumber_5 (by decide) (fun hc => ?_) (fun hc => ?_)
  · replace h := (X_if h).1 hc
    refine X_join (fun (kj : Nat → m_M → Option (Int32 × m_M)) => ∀ (p0 : Nat) (M : m_M), m_ok e_I Φ (kj p0 M) → j_J X 4 31 [some (.ref p0), none, none, none] [] (0, 0) M) h (fun v2 M1 h => ?_) (fun k31 hk31 h => ?_)
    · refine j_aload_n C0 (pc := 31) dX8_passNumber_31 rfl ?_
      refine j_iconst C0 (pc := 32) dX8_passNumber_32 (v := (4 : Int32)) (by decide) ?_
      refine X_cV C0 (pc := 33) (e' := e_I) (as := [.int (4 : Int32)]) (rest := []) (s' := fun w => .int w :: []) (g' := (0, 0)) v_Tok_100_7 (fun Ψ hΨ => K_X8_fail_7 v2 (4 : Int32) M1 Ψ hΨ) rfl rfl (fun _ => rfl) (by decide) (by decide) rfl (Nat.le_of_ble_eq_true rfl) dX8_passNumber_33 h (fun v3 M2 h => ?_)
      refine j_pop C0 (pc := 36) dX8_passNumber_36 rfl ?_
      refine j_iconst C0 (pc := 37) dX8_passNumber_37 (v := (-1 : Int32)) (by decide) ?_
      exact j_iret C rfl h dX8_passNumber_38 (by decide)
    · refine j_aload_n C0 (pc := 16) dX8_passNumber_16 rfl ?_
      refine X_gI C0 (pc := 17) f_Tok_81_7 rfl dX8_passNumber_17 h (fun v4 h => ?_)
      refine j_istore_n C0 (pc := 20) dX8_passNumber_20 (Nat.le_of_ble_eq_true rfl) ?_
      show j_J X 4 21 [some (.ref a0), some (.int a1), some (.int a2), some (.int v4)] [] (0, 0) M
      refine j_iload_n C0 (pc := 21) dX8_passNumber_21 rfl ?_
      refine j_iload_n C0 (pc := 22) dX8_passNumber_22 rfl ?_
      refine j_icmp_lt C0 (pc := 23) (tgt := 31) dX8_passNumber_23 (by decide) (fun hc => ?_) (fun hc => ?_)
      · replace h := (X_if h).1 hc
        exact j_J.wq (hk31 a0 M h) (And.intro rfl (trivial))
      · replace h := (X_if h).2 hc
        refine j_iload_n C0 (pc := 26) dX8_passNumber_26 rfl ?_
        refine j_iload_n C0 (pc := 27) dX8_passNumber_27 rfl ?_
        refine j_icmp_le C0 (pc := 28) (tgt := 39) dX8_passNumber_28 (by decide) (fun hc => ?_) (fun hc => ?_)
        · replace h := (X_if h).1 hc
          refine j_aload_n C0 (pc := 39) dX8_passNumber_39 rfl ?_
          refine X_cV C0 (pc := 40) (e' := e_V) (as := []) (rest := []) (s' := fun _ => []) (g' := (0, 0)) v_Tok_31_7 (fun Ψ hΨ => K_X8_advance_7 a0 M Ψ hΨ) rfl rfl (fun _ => rfl) (by decide) (by decide) rfl (Nat.le_of_ble_eq_true rfl) dX8_passNumber_40 h (fun _ M3 h => ?_)
          refine j_iload_n C0 (pc := 43) dX8_passNumber_43 rfl ?_
          exact j_iret C rfl h dX8_passNumber_44 (by decide)
        · replace h := (X_if h).2 hc
          exact j_J.wq (hk31 a0 M h) (And.intro rfl (trivial))
  · replace h := (X_if h).2 hc
    refine j_aload_n C0 (pc := 8) dX8_passNumber_8 rfl ?_
    refine j_iconst C0 (pc := 9) dX8_passNumber_9 (v := (1 : Int32)) (by decide) ?_
    refine X_cV C0 (pc := 10) (e' := e_I) (as := [.int (1 : Int32)]) (rest := []) (s' := fun w => .int w :: []) (g' := (0, 0)) v_Tok_100_7 (fun Ψ hΨ => K_X8_fail_7 a0 (1 : Int32) M Ψ hΨ) rfl rfl (fun _ => rfl) (by decide) (by decide) rfl (Nat.le_of_ble_eq_true rfl) dX8_passNumber_10 h (fun v5 M4 h => ?_)
    refine j_pop C0 (pc := 13) dX8_passNumber_13 rfl ?_
    refine j_iconst C0 (pc := 14) dX8_passNumber_14 (v := (-1 : Int32)) (by decide) ?_
    exact j_iret C rfl h dX8_passNumber_15 (by decide)
