theorem m_lk2 {x : Int32} {a b o1 o2 dd : Int} (h0 : x.toInt ≠ a) (h1 : x.toInt ≠ b) : Op.lookupswitch.offset [(a, o1), (b, o2)] dd x.toInt = dd := by
  rw [Op.lookupswitch.offset_cons, Op.lookupswitch.offset_cons, Op.lookupswitch.offset_nil, if_neg (fun h => h0 (by simpa using h.symm)), if_neg (fun h => h1 (by simpa using h.symm))]
theorem dJ9_min_7cf53_0 : decode cJ9_min_7cf53 0 = .ok (.iload_n 0, 1) := by decide +kernel
theorem dJ9_min_7cf53_1 : decode cJ9_min_7cf53 1 = .ok (.iload_n 1, 1) := by decide +kernel
theorem dJ9_min_7cf53_2 : decode cJ9_min_7cf53 2 = .ok (.if_icmp .gt 7, 3) := by decide +kernel
theorem dJ9_min_7cf53_5 : decode cJ9_min_7cf53 5 = .ok (.iload_n 0, 1) := by decide +kernel
theorem dJ9_min_7cf53_6 : decode cJ9_min_7cf53 6 = .ok (.goto 4, 3) := by decide +kernel
theorem dJ9_min_7cf53_9 : decode cJ9_min_7cf53 9 = .ok (.iload_n 1, 1) := by decide +kernel
theorem dJ9_min_7cf53_10 : decode cJ9_min_7cf53 10 = .ok (.ireturn, 1) := by decide +kernel
noncomputable def F_J9_min_7cf53 (a1 : Int32) (a2 : Int32) (M : m_M) : Option (Int32 × m_M) :=
  if a2 < a1 then (
    some (a2, M)
  ) else
  some (a1, M)
set_option maxHeartbeats 4000000 in
theorem K_J9_min_7cf53 (a1 : Int32) (a2 : Int32) (M : m_M) (Φ : Option Value → m_M → Prop) (h : m_ok e_I Φ (F_J9_min_7cf53 a1 a2 M)) : j_Ct yJ9_min_7cf53 cJ9_min_7cf53 2 (some .int) 1 0 0 [.int a1, .int a2] M Φ := by
  refine j_Ct.ofF (by decide +kernel) (Nat.le_of_ble_eq_true rfl) fun X C => ?_
  have C0 := C.1
  show j_J X 2 0 [some (.int a1), some (.int a2)] [] (0, 0) M
  unfold F_J9_min_7cf53 at h
  refine j_iload_n C0 (pc := 0) dJ9_min_7cf53_0 rfl ?_
  refine j_iload_n C0 (pc := 1) dJ9_min_7cf53_1 rfl ?_
  refine j_icmp_gt C0 (pc := 2) (tgt := 9) dJ9_min_7cf53_2 (by decide) (fun hc => ?_) (fun hc => ?_)
  · replace h := (X_if h).1 hc
    refine j_iload_n C0 (pc := 9) dJ9_min_7cf53_9 rfl ?_
    exact j_iret C rfl h dJ9_min_7cf53_10 (by decide)
  · replace h := (X_if h).2 hc
    refine j_iload_n C0 (pc := 5) dJ9_min_7cf53_5 rfl ?_
    refine j_goto C0 (pc := 6) (tgt := 10) dJ9_min_7cf53_6 (by decide) ?_
    exact j_iret C rfl h dJ9_min_7cf53_10 (by decide)
theorem dJ9_max_7cf53_0 : decode cJ9_max_7cf53 0 = .ok (.iload_n 0, 1) := by decide +kernel
theorem dJ9_max_7cf53_1 : decode cJ9_max_7cf53 1 = .ok (.iload_n 1, 1) := by decide +kernel
theorem dJ9_max_7cf53_2 : decode cJ9_max_7cf53 2 = .ok (.if_icmp .lt 7, 3) := by decide +kernel
theorem dJ9_max_7cf53_5 : decode cJ9_max_7cf53 5 = .ok (.iload_n 0, 1) := by decide +kernel
theorem dJ9_max_7cf53_6 : decode cJ9_max_7cf53 6 = .ok (.goto 4, 3) := by decide +kernel
theorem dJ9_max_7cf53_9 : decode cJ9_max_7cf53 9 = .ok (.iload_n 1, 1) := by decide +kernel
theorem dJ9_max_7cf53_10 : decode cJ9_max_7cf53 10 = .ok (.ireturn, 1) := by decide +kernel
noncomputable def F_J9_max_7cf53 (a1 : Int32) (a2 : Int32) (M : m_M) : Option (Int32 × m_M) :=
  if a1 < a2 then (
    some (a2, M)
  ) else
  some (a1, M)
set_option maxHeartbeats 4000000 in
theorem K_J9_max_7cf53 (a1 : Int32) (a2 : Int32) (M : m_M) (Φ : Option Value → m_M → Prop) (h : m_ok e_I Φ (F_J9_max_7cf53 a1 a2 M)) : j_Ct yJ9_max_7cf53 cJ9_max_7cf53 2 (some .int) 1 0 0 [.int a1, .int a2] M Φ := by
  refine j_Ct.ofF (by decide +kernel) (Nat.le_of_ble_eq_true rfl) fun X C => ?_
  have C0 := C.1
  show j_J X 2 0 [some (.int a1), some (.int a2)] [] (0, 0) M
  unfold F_J9_max_7cf53 at h
  refine j_iload_n C0 (pc := 0) dJ9_max_7cf53_0 rfl ?_
  refine j_iload_n C0 (pc := 1) dJ9_max_7cf53_1 rfl ?_
  refine j_icmp_lt C0 (pc := 2) (tgt := 9) dJ9_max_7cf53_2 (by decide) (fun hc => ?_) (fun hc => ?_)
  · replace h := (X_if h).1 hc
    refine j_iload_n C0 (pc := 9) dJ9_max_7cf53_9 rfl ?_
    exact j_iret C rfl h dJ9_max_7cf53_10 (by decide)
  · replace h := (X_if h).2 hc
    refine j_iload_n C0 (pc := 5) dJ9_max_7cf53_5 rfl ?_
    refine j_goto C0 (pc := 6) (tgt := 10) dJ9_max_7cf53_6 (by decide) ?_
    exact j_iret C rfl h dJ9_max_7cf53_10 (by decide)
theorem dJ9_floorMod_7cf53_0 : decode cJ9_floorMod_7cf53 0 = .ok (.iload_n 0, 1) := by decide +kernel
theorem dJ9_floorMod_7cf53_1 : decode cJ9_floorMod_7cf53 1 = .ok (.iload_n 1, 1) := by decide +kernel
theorem dJ9_floorMod_7cf53_2 : decode cJ9_floorMod_7cf53 2 = .ok (.irem, 1) := by decide +kernel
theorem dJ9_floorMod_7cf53_3 : decode cJ9_floorMod_7cf53 3 = .ok (.istore_n 2, 1) := by decide +kernel
theorem dJ9_floorMod_7cf53_4 : decode cJ9_floorMod_7cf53 4 = .ok (.iload_n 0, 1) := by decide +kernel
theorem dJ9_floorMod_7cf53_5 : decode cJ9_floorMod_7cf53 5 = .ok (.iload_n 1, 1) := by decide +kernel
theorem dJ9_floorMod_7cf53_6 : decode cJ9_floorMod_7cf53 6 = .ok (.ixor, 1) := by decide +kernel
theorem dJ9_floorMod_7cf53_7 : decode cJ9_floorMod_7cf53 7 = .ok (.ifCond .ge 11, 3) := by decide +kernel
theorem dJ9_floorMod_7cf53_10 : decode cJ9_floorMod_7cf53 10 = .ok (.iload_n 2, 1) := by decide +kernel
theorem dJ9_floorMod_7cf53_11 : decode cJ9_floorMod_7cf53 11 = .ok (.ifCond .eq 7, 3) := by decide +kernel
theorem dJ9_floorMod_7cf53_14 : decode cJ9_floorMod_7cf53 14 = .ok (.iload_n 2, 1) := by decide +kernel
theorem dJ9_floorMod_7cf53_15 : decode cJ9_floorMod_7cf53 15 = .ok (.iload_n 1, 1) := by decide +kernel
theorem dJ9_floorMod_7cf53_16 : decode cJ9_floorMod_7cf53 16 = .ok (.iadd, 1) := by decide +kernel
theorem dJ9_floorMod_7cf53_17 : decode cJ9_floorMod_7cf53 17 = .ok (.ireturn, 1) := by decide +kernel
theorem dJ9_floorMod_7cf53_18 : decode cJ9_floorMod_7cf53 18 = .ok (.iload_n 2, 1) := by decide +kernel
theorem dJ9_floorMod_7cf53_19 : decode cJ9_floorMod_7cf53 19 = .ok (.ireturn, 1) := by decide +kernel
noncomputable def F_J9_floorMod_7cf53 (a1 : Int32) (a2 : Int32) (M : m_M) : Option (Int32 × m_M) :=
  x_nz a2 <|
  m_let (a1 - a1 / a2 * a2) fun v1 =>
  if 0 ≤ (a1 ^^^ a2) then (
    some (v1, M)
  ) else
  if v1 = 0 then (
    some (v1, M)
  ) else
  some (v1 + a2, M)
set_option maxHeartbeats 4000000 in
theorem K_J9_floorMod_7cf53 (a1 : Int32) (a2 : Int32) (M : m_M) (Φ : Option Value → m_M → Prop) (h : m_ok e_I Φ (F_J9_floorMod_7cf53 a1 a2 M)) : j_Ct yJ9_floorMod_7cf53 cJ9_floorMod_7cf53 3 (some .int) 1 0 0 [.int a1, .int a2] M Φ := by
  refine j_Ct.ofF (by decide +kernel) (Nat.le_of_ble_eq_true rfl) fun X C => ?_
  have C0 := C.1
  show j_J X 3 0 [some (.int a1), some (.int a2), none] [] (0, 0) M
  unfold F_J9_floorMod_7cf53 at h
  refine j_iload_n C0 (pc := 0) dJ9_floorMod_7cf53_0 rfl ?_
  refine j_iload_n C0 (pc := 1) dJ9_floorMod_7cf53_1 rfl ?_
  refine X_irem C0 (pc := 2) dJ9_floorMod_7cf53_2 h (fun h => ?_)
  refine X_let (G := fun w => j_J X 3 3 [some (.int a1), some (.int a2), none] (.int w :: []) (0, 0) M) h (fun v1 h => ?_)
  refine j_istore_n C0 (pc := 3) dJ9_floorMod_7cf53_3 (Nat.le_of_ble_eq_true rfl) ?_
  show j_J X 3 4 [some (.int a1), some (.int a2), some (.int v1)] [] (0, 0) M
  refine j_iload_n C0 (pc := 4) dJ9_floorMod_7cf53_4 rfl ?_
  refine j_iload_n C0 (pc := 5) dJ9_floorMod_7cf53_5 rfl ?_
  refine j_ixor C0 (pc := 6) dJ9_floorMod_7cf53_6 ?_
  refine j_if_ge C0 (pc := 7) (tgt := 18) dJ9_floorMod_7cf53_7 (by decide) (fun hc => ?_) (fun hc => ?_)
  · replace h := (X_if h).1 hc
    refine j_iload_n C0 (pc := 18) dJ9_floorMod_7cf53_18 rfl ?_
    exact j_iret C rfl h dJ9_floorMod_7cf53_19 (by decide)
  · replace h := (X_if h).2 hc
    refine j_iload_n C0 (pc := 10) dJ9_floorMod_7cf53_10 rfl ?_
    refine j_if_eq C0 (pc := 11) (tgt := 18) dJ9_floorMod_7cf53_11 (by decide) (fun hc => ?_) (fun hc => ?_)
    · replace h := (X_if h).1 hc
      refine j_iload_n C0 (pc := 18) dJ9_floorMod_7cf53_18 rfl ?_
      exact j_iret C rfl h dJ9_floorMod_7cf53_19 (by decide)
    · replace h := (X_if h).2 hc
      refine j_iload_n C0 (pc := 14) dJ9_floorMod_7cf53_14 rfl ?_
      refine j_iload_n C0 (pc := 15) dJ9_floorMod_7cf53_15 rfl ?_
      refine j_iadd C0 (pc := 16) dJ9_floorMod_7cf53_16 ?_
      exact j_iret C rfl h dJ9_floorMod_7cf53_17 (by decide)
theorem dX10_wholeLong_0 : decode cX10_wholeLong 0 = .ok (.iload_n 0, 1) := by decide +kernel
theorem dX10_wholeLong_1 : decode cX10_wholeLong 1 = .ok (.bipush 64, 2) := by decide +kernel
theorem dX10_wholeLong_3 : decode cX10_wholeLong 3 = .ok (.iload_n 1, 1) := by decide +kernel
theorem dX10_wholeLong_4 : decode cX10_wholeLong 4 = .ok (.imul, 1) := by decide +kernel
theorem dX10_wholeLong_5 : decode cX10_wholeLong 5 = .ok (.isub, 1) := by decide +kernel
theorem dX10_wholeLong_6 : decode cX10_wholeLong 6 = .ok (.istore_n 2, 1) := by decide +kernel
theorem dX10_wholeLong_7 : decode cX10_wholeLong 7 = .ok (.iload_n 2, 1) := by decide +kernel
theorem dX10_wholeLong_8 : decode cX10_wholeLong 8 = .ok (.bipush 64, 2) := by decide +kernel
theorem dX10_wholeLong_10 : decode cX10_wholeLong 10 = .ok (.if_icmp .lt 7, 3) := by decide +kernel
theorem dX10_wholeLong_13 : decode cX10_wholeLong 13 = .ok (.ldc2_w 15, 3) := by decide +kernel
theorem dX10_wholeLong_16 : decode cX10_wholeLong 16 = .ok (.lreturn, 1) := by decide +kernel
theorem dX10_wholeLong_17 : decode cX10_wholeLong 17 = .ok (.iload_n 2, 1) := by decide +kernel
theorem dX10_wholeLong_18 : decode cX10_wholeLong 18 = .ok (.ifCond .le 11, 3) := by decide +kernel
theorem dX10_wholeLong_21 : decode cX10_wholeLong 21 = .ok (.lconst 1, 1) := by decide +kernel
theorem dX10_wholeLong_22 : decode cX10_wholeLong 22 = .ok (.iload_n 2, 1) := by decide +kernel
theorem dX10_wholeLong_23 : decode cX10_wholeLong 23 = .ok (.lshl, 1) := by decide +kernel
theorem dX10_wholeLong_24 : decode cX10_wholeLong 24 = .ok (.lconst 1, 1) := by decide +kernel
theorem dX10_wholeLong_25 : decode cX10_wholeLong 25 = .ok (.lsub, 1) := by decide +kernel
theorem dX10_wholeLong_26 : decode cX10_wholeLong 26 = .ok (.goto 4, 3) := by decide +kernel
theorem dX10_wholeLong_29 : decode cX10_wholeLong 29 = .ok (.lconst 0, 1) := by decide +kernel
theorem dX10_wholeLong_30 : decode cX10_wholeLong 30 = .ok (.lreturn, 1) := by decide +kernel
noncomputable def F_X10_wholeLong (a1 : Int32) (a2 : Int32) (M : m_M) : Option (Int64 × m_M) :=
  m_let (a1 - ((64 : Int32) * a2)) fun v1 =>
  if v1 < (64 : Int32) then (
    if v1 ≤ 0 then (
      some ((0 : Int64), M)
    ) else
    some (((1 : Int64) <<< (v1.toInt64 &&& 63)) - (1 : Int64), M)
  ) else
  some ((-1 : Int64), M)
set_option maxHeartbeats 4000000 in
theorem K_X10_wholeLong (a1 : Int32) (a2 : Int32) (M : m_M) (Φ : Option Value → m_M → Prop) (h : m_ok e_L Φ (F_X10_wholeLong a1 a2 M)) : j_Ct yX10_wholeLong cX10_wholeLong 3 (some .long) 1 0 0 [.int a1, .int a2] M Φ := by
  refine j_Ct.of (by decide +kernel) (Nat.le_of_ble_eq_true rfl) fun X C => ?_
  have C0 := C.1
  show j_J X 3 0 [some (.int a1), some (.int a2), none] [] (0, 0) M
  unfold F_X10_wholeLong at h
  refine j_iload_n C0 (pc := 0) dX10_wholeLong_0 rfl ?_
  refine j_bipush C0 (pc := 1) dX10_wholeLong_1 (v := (64 : Int32)) (by decide) ?_
  refine j_iload_n C0 (pc := 3) dX10_wholeLong_3 rfl ?_
  refine j_imul C0 (pc := 4) dX10_wholeLong_4 ?_
  refine j_isub C0 (pc := 5) dX10_wholeLong_5 ?_
  refine X_let (G := fun w => j_J X 3 6 [some (.int a1), some (.int a2), none] (.int w :: []) (0, 0) M) h (fun v1 h => ?_)
  refine j_istore_n C0 (pc := 6) dX10_wholeLong_6 (Nat.le_of_ble_eq_true rfl) ?_
  show j_J X 3 7 [some (.int a1), some (.int a2), some (.int v1)] [] (0, 0) M
  refine j_iload_n C0 (pc := 7) dX10_wholeLong_7 rfl ?_
  refine j_bipush C0 (pc := 8) dX10_wholeLong_8 (v := (64 : Int32)) (by decide) ?_
  refine j_icmp_lt C0 (pc := 10) (tgt := 17) dX10_wholeLong_10 (by decide) (fun hc => ?_) (fun hc => ?_)
  · replace h := (X_if h).1 hc
    refine j_iload_n C0 (pc := 17) dX10_wholeLong_17 rfl ?_
    refine j_if_le C0 (pc := 18) (tgt := 29) dX10_wholeLong_18 (by decide) (fun hc => ?_) (fun hc => ?_)
    · replace h := (X_if h).1 hc
      refine j_lconst C0 (pc := 29) dX10_wholeLong_29 (v := (0 : Int64)) (by decide) ?_
      exact j_lret C rfl h dX10_wholeLong_30 (by decide)
    · replace h := (X_if h).2 hc
      refine j_lconst C0 (pc := 21) dX10_wholeLong_21 (v := (1 : Int64)) (by decide) ?_
      refine j_iload_n C0 (pc := 22) dX10_wholeLong_22 rfl ?_
      refine j_lshl C0 (pc := 23) dX10_wholeLong_23 (v := (1 : Int64) <<< (v1.toInt64 &&& 63)) rfl ?_
      refine j_lconst C0 (pc := 24) dX10_wholeLong_24 (v := (1 : Int64)) (by decide) ?_
      refine j_lsub C0 (pc := 25) dX10_wholeLong_25 ?_
      refine j_goto C0 (pc := 26) (tgt := 30) dX10_wholeLong_26 (by decide) ?_
      exact j_lret C rfl h dX10_wholeLong_30 (by decide)
  · replace h := (X_if h).2 hc
    refine j_ldc2 C0 (pc := 13) (v := (-1 : Int64)) (j_c4 208 (by decide +kernel)) dX10_wholeLong_13 ?_
    exact j_lret C rfl h dX10_wholeLong_16 (by decide)
theorem dX10_fill_0 : decode cX10_fill 0 = .ok (.iconst 0, 1) := by decide +kernel
theorem dX10_fill_1 : decode cX10_fill 1 = .ok (.istore_n 2, 1) := by decide +kernel
theorem dX10_fill_2 : decode cX10_fill 2 = .ok (.iload_n 2, 1) := by decide +kernel
theorem dX10_fill_3 : decode cX10_fill 3 = .ok (.bipush 16, 2) := by decide +kernel
theorem dX10_fill_5 : decode cX10_fill 5 = .ok (.if_icmp .ge 20, 3) := by decide +kernel
theorem dX10_fill_8 : decode cX10_fill 8 = .ok (.aload_n 0, 1) := by decide +kernel
theorem dX10_fill_9 : decode cX10_fill 9 = .ok (.getfield 9, 3) := by decide +kernel
theorem dX10_fill_12 : decode cX10_fill 12 = .ok (.iload_n 2, 1) := by decide +kernel
theorem dX10_fill_13 : decode cX10_fill 13 = .ok (.iload_n 1, 1) := by decide +kernel
theorem dX10_fill_14 : decode cX10_fill 14 = .ok (.iload_n 2, 1) := by decide +kernel
theorem dX10_fill_15 : decode cX10_fill 15 = .ok (.invokestatic 23, 3) := by decide +kernel
theorem dX10_fill_18 : decode cX10_fill 18 = .ok (.lastore, 1) := by decide +kernel
theorem dX10_fill_19 : decode cX10_fill 19 = .ok (.iinc 2 1, 3) := by decide +kernel
theorem dX10_fill_22 : decode cX10_fill 22 = .ok (.goto (-20), 3) := by decide +kernel
theorem dX10_fill_25 : decode cX10_fill 25 = .ok (.return_, 1) := by decide +kernel
noncomputable def F_X10_fill_2 : Nat → Nat → Int32 → Int32 → m_M → Option (Unit × m_M)
  | 0, _, _, _, _ => none
  | n + 1, v1, v2, v3, M =>
    if (16 : Int32) ≤ v3 then (
      some ((), M)
    ) else
    x_gN 8 M v1 0 fun v4 =>
    x_bd (F_X10_wholeLong v2 v3 M) fun v5 M1 =>
    x_sL M1 v4 v3 v5 fun M2 =>
    m_let (v3 + (1 : Int32)) fun v6 =>
    F_X10_fill_2 n v1 v2 v6 M2
noncomputable def F_X10_fill (a0 : Nat) (a1 : Int32) (M : m_M) : Option (Unit × m_M) :=
  F_X10_fill_2 m_FU a0 a1 (0 : Int32) M
set_option maxHeartbeats 4000000 in
theorem L_X10_fill_2 {X : j_X} {Φ : Option Value → m_M → Prop} (C : j_C X yX10_fill cX10_fill 3 none 2 0 0 Φ) : ∀ (n : Nat) (v1 : Nat) (v2 : Int32) (v3 : Int32) (M : m_M), m_ok e_V Φ (F_X10_fill_2 n v1 v2 v3 M) → j_J X 3 2 [some (.ref v1), some (.int v2), some (.int v3)] [] (0, 0) M := by
  have C0 := C.1
  intro n
  induction n with
  | zero => intro v1 v2 v3 M h; exact False.elim h
  | succ n ih =>
    intro v1 v2 v3 M h
    rw [F_X10_fill_2] at h
    refine j_iload_n C0 (pc := 2) dX10_fill_2 rfl ?_
    refine j_bipush C0 (pc := 3) dX10_fill_3 (v := (16 : Int32)) (by decide) ?_
    refine j_icmp_ge C0 (pc := 5) (tgt := 25) dX10_fill_5 (by decide) (fun hc => ?_) (fun hc => ?_)
    · replace h := (X_if h).1 hc
      exact j_vret C rfl h dX10_fill_25 (by decide)
    · replace h := (X_if h).2 hc
      refine j_aload_n C0 (pc := 8) dX10_fill_8 rfl ?_
      refine X_gN C0 (pc := 9) f_WS_9_8 rfl dX10_fill_9 h (fun v4 h => ?_)
      refine j_iload_n C0 (pc := 12) dX10_fill_12 rfl ?_
      refine j_iload_n C0 (pc := 13) dX10_fill_13 rfl ?_
      refine j_iload_n C0 (pc := 14) dX10_fill_14 rfl ?_
      refine X_cS C0 (pc := 15) (e' := e_L) (as := [.int v2, .int v3]) (rest := [.int v3, .ref v4]) (s' := fun w => .long w :: [.int v3, .ref v4]) (g' := (0, 0)) s_WS_23 (fun Ψ hΨ => K_X10_wholeLong v2 v3 M Ψ hΨ) rfl rfl (fun _ => rfl) (by decide) (by decide) rfl (Nat.le_of_ble_eq_true rfl) dX10_fill_15 h (fun v5 M1 h => ?_)
      refine X_last C0 (pc := 18) dX10_fill_18 h (fun M2 h => ?_)
      refine j_iinc C0 (pc := 19) dX10_fill_19 (v := v3 + (1 : Int32)) rfl (Nat.le_of_ble_eq_true rfl) (by rfl) ?_
      refine X_let (G := fun w => j_J X 3 22 [some (.ref v1), some (.int v2), some (.int w)] [] (0, 0) M2) h (fun v6 h => ?_)
      refine j_goto C0 (pc := 22) (tgt := 2) dX10_fill_22 (by decide) ?_
      exact j_J.wq (ih v1 v2 v6 M2 h) (And.intro rfl (And.intro rfl (And.intro rfl (trivial))))
set_option maxHeartbeats 4000000 in
theorem K_X10_fill (a0 : Nat) (a1 : Int32) (M : m_M) (Φ : Option Value → m_M → Prop) (h : m_ok e_V Φ (F_X10_fill a0 a1 M)) : j_Ct yX10_fill cX10_fill 3 none 2 0 0 [.ref a0, .int a1] M Φ := by
  refine j_Ct.of (by decide +kernel) (Nat.le_of_ble_eq_true rfl) fun X C => ?_
  have C0 := C.1
  show j_J X 3 0 [some (.ref a0), some (.int a1), none] [] (0, 0) M
  unfold F_X10_fill at h
  refine j_iconst C0 (pc := 0) dX10_fill_0 (v := (0 : Int32)) (by decide) ?_
  refine j_istore_n C0 (pc := 1) dX10_fill_1 (Nat.le_of_ble_eq_true rfl) ?_
  show j_J X 3 2 [some (.ref a0), some (.int a1), some (.int (0 : Int32))] [] (0, 0) M
  exact j_J.wq (L_X10_fill_2 C m_FU a0 a1 (0 : Int32) M h) (And.intro rfl (And.intro rfl (And.intro rfl (trivial))))
theorem dX10_keep_0 : decode cX10_keep 0 = .ok (.iconst 0, 1) := by decide +kernel
theorem dX10_keep_1 : decode cX10_keep 1 = .ok (.istore_n 2, 1) := by decide +kernel
theorem dX10_keep_2 : decode cX10_keep 2 = .ok (.iload_n 2, 1) := by decide +kernel
theorem dX10_keep_3 : decode cX10_keep 3 = .ok (.bipush 16, 2) := by decide +kernel
theorem dX10_keep_5 : decode cX10_keep 5 = .ok (.if_icmp .ge 24, 3) := by decide +kernel
theorem dX10_keep_8 : decode cX10_keep 8 = .ok (.aload_n 0, 1) := by decide +kernel
theorem dX10_keep_9 : decode cX10_keep 9 = .ok (.getfield 9, 3) := by decide +kernel
theorem dX10_keep_12 : decode cX10_keep 12 = .ok (.iload_n 2, 1) := by decide +kernel
theorem dX10_keep_13 : decode cX10_keep 13 = .ok (.dup2, 1) := by decide +kernel
theorem dX10_keep_14 : decode cX10_keep 14 = .ok (.laload, 1) := by decide +kernel
theorem dX10_keep_15 : decode cX10_keep 15 = .ok (.aload_n 1, 1) := by decide +kernel
theorem dX10_keep_16 : decode cX10_keep 16 = .ok (.getfield 9, 3) := by decide +kernel
theorem dX10_keep_19 : decode cX10_keep 19 = .ok (.iload_n 2, 1) := by decide +kernel
theorem dX10_keep_20 : decode cX10_keep 20 = .ok (.laload, 1) := by decide +kernel
theorem dX10_keep_21 : decode cX10_keep 21 = .ok (.land, 1) := by decide +kernel
theorem dX10_keep_22 : decode cX10_keep 22 = .ok (.lastore, 1) := by decide +kernel
theorem dX10_keep_23 : decode cX10_keep 23 = .ok (.iinc 2 1, 3) := by decide +kernel
theorem dX10_keep_26 : decode cX10_keep 26 = .ok (.goto (-24), 3) := by decide +kernel
theorem dX10_keep_29 : decode cX10_keep 29 = .ok (.return_, 1) := by decide +kernel
noncomputable def F_X10_keep_2 : Nat → Nat → Nat → Int32 → m_M → Option (Unit × m_M)
  | 0, _, _, _, _ => none
  | n + 1, v1, v2, v3, M =>
    if (16 : Int32) ≤ v3 then (
      some ((), M)
    ) else
    x_gN 8 M v1 0 fun v4 =>
    x_aL M v4 v3 fun v5 =>
    x_gN 8 M v2 0 fun v6 =>
    x_aL M v6 v3 fun v7 =>
    x_sL M v4 v3 (v5 &&& v7) fun M1 =>
    m_let (v3 + (1 : Int32)) fun v8 =>
    F_X10_keep_2 n v1 v2 v8 M1
noncomputable def F_X10_keep (a0 : Nat) (a1 : Nat) (M : m_M) : Option (Unit × m_M) :=
  F_X10_keep_2 m_FU a0 a1 (0 : Int32) M
set_option maxHeartbeats 4000000 in
theorem L_X10_keep_2 {X : j_X} {Φ : Option Value → m_M → Prop} (C : j_C X yX10_keep cX10_keep 3 none 1 0 0 Φ) : ∀ (n : Nat) (v1 : Nat) (v2 : Nat) (v3 : Int32) (M : m_M), m_ok e_V Φ (F_X10_keep_2 n v1 v2 v3 M) → j_J X 3 2 [some (.ref v1), some (.ref v2), some (.int v3)] [] (0, 0) M := by
  have C0 := C.1
  intro n
  induction n with
  | zero => intro v1 v2 v3 M h; exact False.elim h
  | succ n ih =>
    intro v1 v2 v3 M h
    rw [F_X10_keep_2] at h
    refine j_iload_n C0 (pc := 2) dX10_keep_2 rfl ?_
    refine j_bipush C0 (pc := 3) dX10_keep_3 (v := (16 : Int32)) (by decide) ?_
    refine j_icmp_ge C0 (pc := 5) (tgt := 29) dX10_keep_5 (by decide) (fun hc => ?_) (fun hc => ?_)
    · replace h := (X_if h).1 hc
      exact j_vret C rfl h dX10_keep_29 (by decide)
    · replace h := (X_if h).2 hc
      refine j_aload_n C0 (pc := 8) dX10_keep_8 rfl ?_
      refine X_gN C0 (pc := 9) f_WS_9_8 rfl dX10_keep_9 h (fun v4 h => ?_)
      refine j_iload_n C0 (pc := 12) dX10_keep_12 rfl ?_
      refine j_dup2 C0 (pc := 13) dX10_keep_13 rfl rfl ?_
      refine X_lald C0 (pc := 14) dX10_keep_14 h (fun v5 h => ?_)
      refine j_aload_n C0 (pc := 15) dX10_keep_15 rfl ?_
      refine X_gN C0 (pc := 16) f_WS_9_8 rfl dX10_keep_16 h (fun v6 h => ?_)
      refine j_iload_n C0 (pc := 19) dX10_keep_19 rfl ?_
      refine X_lald C0 (pc := 20) dX10_keep_20 h (fun v7 h => ?_)
      refine j_land C0 (pc := 21) dX10_keep_21 ?_
      refine X_last C0 (pc := 22) dX10_keep_22 h (fun M1 h => ?_)
      refine j_iinc C0 (pc := 23) dX10_keep_23 (v := v3 + (1 : Int32)) rfl (Nat.le_of_ble_eq_true rfl) (by rfl) ?_
      refine X_let (G := fun w => j_J X 3 26 [some (.ref v1), some (.ref v2), some (.int w)] [] (0, 0) M1) h (fun v8 h => ?_)
      refine j_goto C0 (pc := 26) (tgt := 2) dX10_keep_26 (by decide) ?_
      exact j_J.wq (ih v1 v2 v8 M1 h) (And.intro rfl (And.intro rfl (And.intro rfl (trivial))))
set_option maxHeartbeats 4000000 in
theorem K_X10_keep (a0 : Nat) (a1 : Nat) (M : m_M) (Φ : Option Value → m_M → Prop) (h : m_ok e_V Φ (F_X10_keep a0 a1 M)) : j_Ct yX10_keep cX10_keep 3 none 1 0 0 [.ref a0, .ref a1] M Φ := by
  refine j_Ct.of (by decide +kernel) (Nat.le_of_ble_eq_true rfl) fun X C => ?_
  have C0 := C.1
  show j_J X 3 0 [some (.ref a0), some (.ref a1), none] [] (0, 0) M
  unfold F_X10_keep at h
  refine j_iconst C0 (pc := 0) dX10_keep_0 (v := (0 : Int32)) (by decide) ?_
  refine j_istore_n C0 (pc := 1) dX10_keep_1 (Nat.le_of_ble_eq_true rfl) ?_
  show j_J X 3 2 [some (.ref a0), some (.ref a1), some (.int (0 : Int32))] [] (0, 0) M
  exact j_J.wq (L_X10_keep_2 C m_FU a0 a1 (0 : Int32) M h) (And.intro rfl (And.intro rfl (And.intro rfl (trivial))))
theorem dX10_join_0 : decode cX10_join 0 = .ok (.iconst 0, 1) := by decide +kernel
theorem dX10_join_1 : decode cX10_join 1 = .ok (.istore_n 2, 1) := by decide +kernel
theorem dX10_join_2 : decode cX10_join 2 = .ok (.iload_n 2, 1) := by decide +kernel
theorem dX10_join_3 : decode cX10_join 3 = .ok (.bipush 16, 2) := by decide +kernel
theorem dX10_join_5 : decode cX10_join 5 = .ok (.if_icmp .ge 24, 3) := by decide +kernel
theorem dX10_join_8 : decode cX10_join 8 = .ok (.aload_n 0, 1) := by decide +kernel
theorem dX10_join_9 : decode cX10_join 9 = .ok (.getfield 9, 3) := by decide +kernel
theorem dX10_join_12 : decode cX10_join 12 = .ok (.iload_n 2, 1) := by decide +kernel
theorem dX10_join_13 : decode cX10_join 13 = .ok (.dup2, 1) := by decide +kernel
theorem dX10_join_14 : decode cX10_join 14 = .ok (.laload, 1) := by decide +kernel
theorem dX10_join_15 : decode cX10_join 15 = .ok (.aload_n 1, 1) := by decide +kernel
theorem dX10_join_16 : decode cX10_join 16 = .ok (.getfield 9, 3) := by decide +kernel
theorem dX10_join_19 : decode cX10_join 19 = .ok (.iload_n 2, 1) := by decide +kernel
theorem dX10_join_20 : decode cX10_join 20 = .ok (.laload, 1) := by decide +kernel
theorem dX10_join_21 : decode cX10_join 21 = .ok (.lor, 1) := by decide +kernel
theorem dX10_join_22 : decode cX10_join 22 = .ok (.lastore, 1) := by decide +kernel
theorem dX10_join_23 : decode cX10_join 23 = .ok (.iinc 2 1, 3) := by decide +kernel
theorem dX10_join_26 : decode cX10_join 26 = .ok (.goto (-24), 3) := by decide +kernel
theorem dX10_join_29 : decode cX10_join 29 = .ok (.return_, 1) := by decide +kernel
noncomputable def F_X10_join_2 : Nat → Nat → Nat → Int32 → m_M → Option (Unit × m_M)
  | 0, _, _, _, _ => none
  | n + 1, v1, v2, v3, M =>
    if (16 : Int32) ≤ v3 then (
      some ((), M)
    ) else
    x_gN 8 M v1 0 fun v4 =>
    x_aL M v4 v3 fun v5 =>
    x_gN 8 M v2 0 fun v6 =>
    x_aL M v6 v3 fun v7 =>
    x_sL M v4 v3 (v5 ||| v7) fun M1 =>
    m_let (v3 + (1 : Int32)) fun v8 =>
    F_X10_join_2 n v1 v2 v8 M1
noncomputable def F_X10_join (a0 : Nat) (a1 : Nat) (M : m_M) : Option (Unit × m_M) :=
  F_X10_join_2 m_FU a0 a1 (0 : Int32) M
set_option maxHeartbeats 4000000 in
theorem L_X10_join_2 {X : j_X} {Φ : Option Value → m_M → Prop} (C : j_C X yX10_join cX10_join 3 none 1 0 0 Φ) : ∀ (n : Nat) (v1 : Nat) (v2 : Nat) (v3 : Int32) (M : m_M), m_ok e_V Φ (F_X10_join_2 n v1 v2 v3 M) → j_J X 3 2 [some (.ref v1), some (.ref v2), some (.int v3)] [] (0, 0) M := by
  have C0 := C.1
  intro n
  induction n with
  | zero => intro v1 v2 v3 M h; exact False.elim h
  | succ n ih =>
    intro v1 v2 v3 M h
    rw [F_X10_join_2] at h
    refine j_iload_n C0 (pc := 2) dX10_join_2 rfl ?_
    refine j_bipush C0 (pc := 3) dX10_join_3 (v := (16 : Int32)) (by decide) ?_
    refine j_icmp_ge C0 (pc := 5) (tgt := 29) dX10_join_5 (by decide) (fun hc => ?_) (fun hc => ?_)
    · replace h := (X_if h).1 hc
      exact j_vret C rfl h dX10_join_29 (by decide)
    · replace h := (X_if h).2 hc
      refine j_aload_n C0 (pc := 8) dX10_join_8 rfl ?_
      refine X_gN C0 (pc := 9) f_WS_9_8 rfl dX10_join_9 h (fun v4 h => ?_)
      refine j_iload_n C0 (pc := 12) dX10_join_12 rfl ?_
      refine j_dup2 C0 (pc := 13) dX10_join_13 rfl rfl ?_
      refine X_lald C0 (pc := 14) dX10_join_14 h (fun v5 h => ?_)
      refine j_aload_n C0 (pc := 15) dX10_join_15 rfl ?_
      refine X_gN C0 (pc := 16) f_WS_9_8 rfl dX10_join_16 h (fun v6 h => ?_)
      refine j_iload_n C0 (pc := 19) dX10_join_19 rfl ?_
      refine X_lald C0 (pc := 20) dX10_join_20 h (fun v7 h => ?_)
      refine j_lor C0 (pc := 21) dX10_join_21 ?_
      refine X_last C0 (pc := 22) dX10_join_22 h (fun M1 h => ?_)
      refine j_iinc C0 (pc := 23) dX10_join_23 (v := v3 + (1 : Int32)) rfl (Nat.le_of_ble_eq_true rfl) (by rfl) ?_
      refine X_let (G := fun w => j_J X 3 26 [some (.ref v1), some (.ref v2), some (.int w)] [] (0, 0) M1) h (fun v8 h => ?_)
      refine j_goto C0 (pc := 26) (tgt := 2) dX10_join_26 (by decide) ?_
      exact j_J.wq (ih v1 v2 v8 M1 h) (And.intro rfl (And.intro rfl (And.intro rfl (trivial))))
set_option maxHeartbeats 4000000 in
theorem K_X10_join (a0 : Nat) (a1 : Nat) (M : m_M) (Φ : Option Value → m_M → Prop) (h : m_ok e_V Φ (F_X10_join a0 a1 M)) : j_Ct yX10_join cX10_join 3 none 1 0 0 [.ref a0, .ref a1] M Φ := by
  refine j_Ct.of (by decide +kernel) (Nat.le_of_ble_eq_true rfl) fun X C => ?_
  have C0 := C.1
  show j_J X 3 0 [some (.ref a0), some (.ref a1), none] [] (0, 0) M
  unfold F_X10_join at h
  refine j_iconst C0 (pc := 0) dX10_join_0 (v := (0 : Int32)) (by decide) ?_
  refine j_istore_n C0 (pc := 1) dX10_join_1 (Nat.le_of_ble_eq_true rfl) ?_
  show j_J X 3 2 [some (.ref a0), some (.ref a1), some (.int (0 : Int32))] [] (0, 0) M
  exact j_J.wq (L_X10_join_2 C m_FU a0 a1 (0 : Int32) M h) (And.intro rfl (And.intro rfl (And.intro rfl (trivial))))
theorem dX10_drop_0 : decode cX10_drop 0 = .ok (.iconst 0, 1) := by decide +kernel
theorem dX10_drop_1 : decode cX10_drop 1 = .ok (.istore_n 2, 1) := by decide +kernel
theorem dX10_drop_2 : decode cX10_drop 2 = .ok (.iload_n 2, 1) := by decide +kernel
theorem dX10_drop_3 : decode cX10_drop 3 = .ok (.bipush 16, 2) := by decide +kernel
theorem dX10_drop_5 : decode cX10_drop 5 = .ok (.if_icmp .ge 28, 3) := by decide +kernel
theorem dX10_drop_8 : decode cX10_drop 8 = .ok (.aload_n 0, 1) := by decide +kernel
theorem dX10_drop_9 : decode cX10_drop 9 = .ok (.getfield 9, 3) := by decide +kernel
theorem dX10_drop_12 : decode cX10_drop 12 = .ok (.iload_n 2, 1) := by decide +kernel
theorem dX10_drop_13 : decode cX10_drop 13 = .ok (.dup2, 1) := by decide +kernel
theorem dX10_drop_14 : decode cX10_drop 14 = .ok (.laload, 1) := by decide +kernel
theorem dX10_drop_15 : decode cX10_drop 15 = .ok (.aload_n 1, 1) := by decide +kernel
theorem dX10_drop_16 : decode cX10_drop 16 = .ok (.getfield 9, 3) := by decide +kernel
theorem dX10_drop_19 : decode cX10_drop 19 = .ok (.iload_n 2, 1) := by decide +kernel
theorem dX10_drop_20 : decode cX10_drop 20 = .ok (.laload, 1) := by decide +kernel
theorem dX10_drop_21 : decode cX10_drop 21 = .ok (.ldc2_w 15, 3) := by decide +kernel
theorem dX10_drop_24 : decode cX10_drop 24 = .ok (.lxor, 1) := by decide +kernel
theorem dX10_drop_25 : decode cX10_drop 25 = .ok (.land, 1) := by decide +kernel
theorem dX10_drop_26 : decode cX10_drop 26 = .ok (.lastore, 1) := by decide +kernel
theorem dX10_drop_27 : decode cX10_drop 27 = .ok (.iinc 2 1, 3) := by decide +kernel
theorem dX10_drop_30 : decode cX10_drop 30 = .ok (.goto (-28), 3) := by decide +kernel
theorem dX10_drop_33 : decode cX10_drop 33 = .ok (.return_, 1) := by decide +kernel
noncomputable def F_X10_drop_2 : Nat → Nat → Nat → Int32 → m_M → Option (Unit × m_M)
  | 0, _, _, _, _ => none
  | n + 1, v1, v2, v3, M =>
    if (16 : Int32) ≤ v3 then (
      some ((), M)
    ) else
    x_gN 8 M v1 0 fun v4 =>
    x_aL M v4 v3 fun v5 =>
    x_gN 8 M v2 0 fun v6 =>
    x_aL M v6 v3 fun v7 =>
    x_sL M v4 v3 (v5 &&& (v7 ^^^ (-1 : Int64))) fun M1 =>
    m_let (v3 + (1 : Int32)) fun v8 =>
    F_X10_drop_2 n v1 v2 v8 M1
noncomputable def F_X10_drop (a0 : Nat) (a1 : Nat) (M : m_M) : Option (Unit × m_M) :=
  F_X10_drop_2 m_FU a0 a1 (0 : Int32) M
set_option maxHeartbeats 4000000 in
theorem L_X10_drop_2 {X : j_X} {Φ : Option Value → m_M → Prop} (C : j_C X yX10_drop cX10_drop 3 none 1 0 0 Φ) : ∀ (n : Nat) (v1 : Nat) (v2 : Nat) (v3 : Int32) (M : m_M), m_ok e_V Φ (F_X10_drop_2 n v1 v2 v3 M) → j_J X 3 2 [some (.ref v1), some (.ref v2), some (.int v3)] [] (0, 0) M := by
  have C0 := C.1
  intro n
  induction n with
  | zero => intro v1 v2 v3 M h; exact False.elim h
  | succ n ih =>
    intro v1 v2 v3 M h
    rw [F_X10_drop_2] at h
    refine j_iload_n C0 (pc := 2) dX10_drop_2 rfl ?_
    refine j_bipush C0 (pc := 3) dX10_drop_3 (v := (16 : Int32)) (by decide) ?_
    refine j_icmp_ge C0 (pc := 5) (tgt := 33) dX10_drop_5 (by decide) (fun hc => ?_) (fun hc => ?_)
    · replace h := (X_if h).1 hc
      exact j_vret C rfl h dX10_drop_33 (by decide)
    · replace h := (X_if h).2 hc
      refine j_aload_n C0 (pc := 8) dX10_drop_8 rfl ?_
      refine X_gN C0 (pc := 9) f_WS_9_8 rfl dX10_drop_9 h (fun v4 h => ?_)
      refine j_iload_n C0 (pc := 12) dX10_drop_12 rfl ?_
      refine j_dup2 C0 (pc := 13) dX10_drop_13 rfl rfl ?_
      refine X_lald C0 (pc := 14) dX10_drop_14 h (fun v5 h => ?_)
      refine j_aload_n C0 (pc := 15) dX10_drop_15 rfl ?_
      refine X_gN C0 (pc := 16) f_WS_9_8 rfl dX10_drop_16 h (fun v6 h => ?_)
      refine j_iload_n C0 (pc := 19) dX10_drop_19 rfl ?_
      refine X_lald C0 (pc := 20) dX10_drop_20 h (fun v7 h => ?_)
      refine j_ldc2 C0 (pc := 21) (v := (-1 : Int64)) (j_c4 208 (by decide +kernel)) dX10_drop_21 ?_
      refine j_lxor C0 (pc := 24) dX10_drop_24 ?_
      refine j_land C0 (pc := 25) dX10_drop_25 ?_
      refine X_last C0 (pc := 26) dX10_drop_26 h (fun M1 h => ?_)
      refine j_iinc C0 (pc := 27) dX10_drop_27 (v := v3 + (1 : Int32)) rfl (Nat.le_of_ble_eq_true rfl) (by rfl) ?_
      refine X_let (G := fun w => j_J X 3 30 [some (.ref v1), some (.ref v2), some (.int w)] [] (0, 0) M1) h (fun v8 h => ?_)
      refine j_goto C0 (pc := 30) (tgt := 2) dX10_drop_30 (by decide) ?_
      exact j_J.wq (ih v1 v2 v8 M1 h) (And.intro rfl (And.intro rfl (And.intro rfl (trivial))))
set_option maxHeartbeats 4000000 in
theorem K_X10_drop (a0 : Nat) (a1 : Nat) (M : m_M) (Φ : Option Value → m_M → Prop) (h : m_ok e_V Φ (F_X10_drop a0 a1 M)) : j_Ct yX10_drop cX10_drop 3 none 1 0 0 [.ref a0, .ref a1] M Φ := by
  refine j_Ct.of (by decide +kernel) (Nat.le_of_ble_eq_true rfl) fun X C => ?_
  have C0 := C.1
  show j_J X 3 0 [some (.ref a0), some (.ref a1), none] [] (0, 0) M
  unfold F_X10_drop at h
  refine j_iconst C0 (pc := 0) dX10_drop_0 (v := (0 : Int32)) (by decide) ?_
  refine j_istore_n C0 (pc := 1) dX10_drop_1 (Nat.le_of_ble_eq_true rfl) ?_
  show j_J X 3 2 [some (.ref a0), some (.ref a1), some (.int (0 : Int32))] [] (0, 0) M
  exact j_J.wq (L_X10_drop_2 C m_FU a0 a1 (0 : Int32) M h) (And.intro rfl (And.intro rfl (And.intro rfl (trivial))))
theorem dX10_turn_0 : decode cX10_turn 0 = .ok (.iconst 0, 1) := by decide +kernel
theorem dX10_turn_1 : decode cX10_turn 1 = .ok (.istore_n 2, 1) := by decide +kernel
theorem dX10_turn_2 : decode cX10_turn 2 = .ok (.iload_n 2, 1) := by decide +kernel
theorem dX10_turn_3 : decode cX10_turn 3 = .ok (.bipush 16, 2) := by decide +kernel
theorem dX10_turn_5 : decode cX10_turn 5 = .ok (.if_icmp .ge 31, 3) := by decide +kernel
theorem dX10_turn_8 : decode cX10_turn 8 = .ok (.aload_n 0, 1) := by decide +kernel
theorem dX10_turn_9 : decode cX10_turn 9 = .ok (.getfield 9, 3) := by decide +kernel
theorem dX10_turn_12 : decode cX10_turn 12 = .ok (.iload_n 2, 1) := by decide +kernel
theorem dX10_turn_13 : decode cX10_turn 13 = .ok (.aload_n 0, 1) := by decide +kernel
theorem dX10_turn_14 : decode cX10_turn 14 = .ok (.getfield 9, 3) := by decide +kernel
theorem dX10_turn_17 : decode cX10_turn 17 = .ok (.iload_n 2, 1) := by decide +kernel
theorem dX10_turn_18 : decode cX10_turn 18 = .ok (.laload, 1) := by decide +kernel
theorem dX10_turn_19 : decode cX10_turn 19 = .ok (.ldc2_w 15, 3) := by decide +kernel
theorem dX10_turn_22 : decode cX10_turn 22 = .ok (.lxor, 1) := by decide +kernel
theorem dX10_turn_23 : decode cX10_turn 23 = .ok (.iload_n 1, 1) := by decide +kernel
theorem dX10_turn_24 : decode cX10_turn 24 = .ok (.iload_n 2, 1) := by decide +kernel
theorem dX10_turn_25 : decode cX10_turn 25 = .ok (.invokestatic 23, 3) := by decide +kernel
theorem dX10_turn_28 : decode cX10_turn 28 = .ok (.land, 1) := by decide +kernel
theorem dX10_turn_29 : decode cX10_turn 29 = .ok (.lastore, 1) := by decide +kernel
theorem dX10_turn_30 : decode cX10_turn 30 = .ok (.iinc 2 1, 3) := by decide +kernel
theorem dX10_turn_33 : decode cX10_turn 33 = .ok (.goto (-31), 3) := by decide +kernel
theorem dX10_turn_36 : decode cX10_turn 36 = .ok (.return_, 1) := by decide +kernel
noncomputable def F_X10_turn_2 : Nat → Nat → Int32 → Int32 → m_M → Option (Unit × m_M)
  | 0, _, _, _, _ => none
  | n + 1, v1, v2, v3, M =>
    if (16 : Int32) ≤ v3 then (
      some ((), M)
    ) else
    x_gN 8 M v1 0 fun v4 =>
    x_gN 8 M v1 0 fun v5 =>
    x_aL M v5 v3 fun v6 =>
    x_bd (F_X10_wholeLong v2 v3 M) fun v7 M1 =>
    x_sL M1 v4 v3 ((v6 ^^^ (-1 : Int64)) &&& v7) fun M2 =>
    m_let (v3 + (1 : Int32)) fun v8 =>
    F_X10_turn_2 n v1 v2 v8 M2
noncomputable def F_X10_turn (a0 : Nat) (a1 : Int32) (M : m_M) : Option (Unit × m_M) :=
  F_X10_turn_2 m_FU a0 a1 (0 : Int32) M
set_option maxHeartbeats 4000000 in
theorem L_X10_turn_2 {X : j_X} {Φ : Option Value → m_M → Prop} (C : j_C X yX10_turn cX10_turn 3 none 2 0 0 Φ) : ∀ (n : Nat) (v1 : Nat) (v2 : Int32) (v3 : Int32) (M : m_M), m_ok e_V Φ (F_X10_turn_2 n v1 v2 v3 M) → j_J X 3 2 [some (.ref v1), some (.int v2), some (.int v3)] [] (0, 0) M := by
  have C0 := C.1
  intro n
  induction n with
  | zero => intro v1 v2 v3 M h; exact False.elim h
  | succ n ih =>
    intro v1 v2 v3 M h
    rw [F_X10_turn_2] at h
    refine j_iload_n C0 (pc := 2) dX10_turn_2 rfl ?_
    refine j_bipush C0 (pc := 3) dX10_turn_3 (v := (16 : Int32)) (by decide) ?_
    refine j_icmp_ge C0 (pc := 5) (tgt := 36) dX10_turn_5 (by decide) (fun hc => ?_) (fun hc => ?_)
    · replace h := (X_if h).1 hc
      exact j_vret C rfl h dX10_turn_36 (by decide)
    · replace h := (X_if h).2 hc
      refine j_aload_n C0 (pc := 8) dX10_turn_8 rfl ?_
      refine X_gN C0 (pc := 9) f_WS_9_8 rfl dX10_turn_9 h (fun v4 h => ?_)
      refine j_iload_n C0 (pc := 12) dX10_turn_12 rfl ?_
      refine j_aload_n C0 (pc := 13) dX10_turn_13 rfl ?_
      refine X_gN C0 (pc := 14) f_WS_9_8 rfl dX10_turn_14 h (fun v5 h => ?_)
      refine j_iload_n C0 (pc := 17) dX10_turn_17 rfl ?_
      refine X_lald C0 (pc := 18) dX10_turn_18 h (fun v6 h => ?_)
      refine j_ldc2 C0 (pc := 19) (v := (-1 : Int64)) (j_c4 208 (by decide +kernel)) dX10_turn_19 ?_
      refine j_lxor C0 (pc := 22) dX10_turn_22 ?_
      refine j_iload_n C0 (pc := 23) dX10_turn_23 rfl ?_
      refine j_iload_n C0 (pc := 24) dX10_turn_24 rfl ?_
      refine X_cS C0 (pc := 25) (e' := e_L) (as := [.int v2, .int v3]) (rest := [.long (v6 ^^^ (-1 : Int64)), .int v3, .ref v4]) (s' := fun w => .long w :: [.long (v6 ^^^ (-1 : Int64)), .int v3, .ref v4]) (g' := (0, 0)) s_WS_23 (fun Ψ hΨ => K_X10_wholeLong v2 v3 M Ψ hΨ) rfl rfl (fun _ => rfl) (by decide) (by decide) rfl (Nat.le_of_ble_eq_true rfl) dX10_turn_25 h (fun v7 M1 h => ?_)
      refine j_land C0 (pc := 28) dX10_turn_28 ?_
      refine X_last C0 (pc := 29) dX10_turn_29 h (fun M2 h => ?_)
      refine j_iinc C0 (pc := 30) dX10_turn_30 (v := v3 + (1 : Int32)) rfl (Nat.le_of_ble_eq_true rfl) (by rfl) ?_
      refine X_let (G := fun w => j_J X 3 33 [some (.ref v1), some (.int v2), some (.int w)] [] (0, 0) M2) h (fun v8 h => ?_)
      refine j_goto C0 (pc := 33) (tgt := 2) dX10_turn_33 (by decide) ?_
      exact j_J.wq (ih v1 v2 v8 M2 h) (And.intro rfl (And.intro rfl (And.intro rfl (trivial))))
set_option maxHeartbeats 4000000 in
theorem K_X10_turn (a0 : Nat) (a1 : Int32) (M : m_M) (Φ : Option Value → m_M → Prop) (h : m_ok e_V Φ (F_X10_turn a0 a1 M)) : j_Ct yX10_turn cX10_turn 3 none 2 0 0 [.ref a0, .int a1] M Φ := by
  refine j_Ct.of (by decide +kernel) (Nat.le_of_ble_eq_true rfl) fun X C => ?_
  have C0 := C.1
  show j_J X 3 0 [some (.ref a0), some (.int a1), none] [] (0, 0) M
  unfold F_X10_turn at h
  refine j_iconst C0 (pc := 0) dX10_turn_0 (v := (0 : Int32)) (by decide) ?_
  refine j_istore_n C0 (pc := 1) dX10_turn_1 (Nat.le_of_ble_eq_true rfl) ?_
  show j_J X 3 2 [some (.ref a0), some (.int a1), some (.int (0 : Int32))] [] (0, 0) M
  exact j_J.wq (L_X10_turn_2 C m_FU a0 a1 (0 : Int32) M h) (And.intro rfl (And.intro rfl (And.intro rfl (trivial))))
theorem dX10_isLike_0 : decode cX10_isLike 0 = .ok (.iconst 0, 1) := by decide +kernel
theorem dX10_isLike_1 : decode cX10_isLike 1 = .ok (.istore_n 2, 1) := by decide +kernel
theorem dX10_isLike_2 : decode cX10_isLike 2 = .ok (.iload_n 2, 1) := by decide +kernel
theorem dX10_isLike_3 : decode cX10_isLike 3 = .ok (.bipush 16, 2) := by decide +kernel
theorem dX10_isLike_5 : decode cX10_isLike 5 = .ok (.if_icmp .ge 27, 3) := by decide +kernel
theorem dX10_isLike_8 : decode cX10_isLike 8 = .ok (.aload_n 0, 1) := by decide +kernel
theorem dX10_isLike_9 : decode cX10_isLike 9 = .ok (.getfield 9, 3) := by decide +kernel
theorem dX10_isLike_12 : decode cX10_isLike 12 = .ok (.iload_n 2, 1) := by decide +kernel
theorem dX10_isLike_13 : decode cX10_isLike 13 = .ok (.laload, 1) := by decide +kernel
theorem dX10_isLike_14 : decode cX10_isLike 14 = .ok (.aload_n 1, 1) := by decide +kernel
theorem dX10_isLike_15 : decode cX10_isLike 15 = .ok (.getfield 9, 3) := by decide +kernel
theorem dX10_isLike_18 : decode cX10_isLike 18 = .ok (.iload_n 2, 1) := by decide +kernel
theorem dX10_isLike_19 : decode cX10_isLike 19 = .ok (.laload, 1) := by decide +kernel
theorem dX10_isLike_20 : decode cX10_isLike 20 = .ok (.lcmp, 1) := by decide +kernel
theorem dX10_isLike_21 : decode cX10_isLike 21 = .ok (.ifCond .eq 5, 3) := by decide +kernel
theorem dX10_isLike_24 : decode cX10_isLike 24 = .ok (.iconst 0, 1) := by decide +kernel
theorem dX10_isLike_25 : decode cX10_isLike 25 = .ok (.ireturn, 1) := by decide +kernel
theorem dX10_isLike_26 : decode cX10_isLike 26 = .ok (.iinc 2 1, 3) := by decide +kernel
theorem dX10_isLike_29 : decode cX10_isLike 29 = .ok (.goto (-27), 3) := by decide +kernel
theorem dX10_isLike_32 : decode cX10_isLike 32 = .ok (.iconst 1, 1) := by decide +kernel
theorem dX10_isLike_33 : decode cX10_isLike 33 = .ok (.ireturn, 1) := by decide +kernel
noncomputable def F_X10_isLike_2 : Nat → Nat → Nat → Int32 → m_M → Option (Int32 × m_M)
  | 0, _, _, _, _ => none
  | n + 1, v1, v2, v3, M =>
    if (16 : Int32) ≤ v3 then (
      some ((1 : Int32), M)
    ) else
    x_gN 8 M v1 0 fun v4 =>
    x_aL M v4 v3 fun v5 =>
    x_gN 8 M v2 0 fun v6 =>
    x_aL M v6 v3 fun v7 =>
    if (lg_cmp v5 v7) = 0 then (
      m_let (v3 + (1 : Int32)) fun v8 =>
      F_X10_isLike_2 n v1 v2 v8 M
    ) else
    some ((0 : Int32), M)
noncomputable def F_X10_isLike (a0 : Nat) (a1 : Nat) (M : m_M) : Option (Int32 × m_M) :=
  F_X10_isLike_2 m_FU a0 a1 (0 : Int32) M
set_option maxHeartbeats 4000000 in
theorem L_X10_isLike_2 {X : j_X} {Φ : Option Value → m_M → Prop} (C : j_C X yX10_isLike cX10_isLike 3 (some .boolean) 1 0 0 Φ) : ∀ (n : Nat) (v1 : Nat) (v2 : Nat) (v3 : Int32) (M : m_M), m_ok e_I Φ (F_X10_isLike_2 n v1 v2 v3 M) → j_J X 3 2 [some (.ref v1), some (.ref v2), some (.int v3)] [] (0, 0) M := by
  have C0 := C.1
  intro n
  induction n with
  | zero => intro v1 v2 v3 M h; exact False.elim h
  | succ n ih =>
    intro v1 v2 v3 M h
    rw [F_X10_isLike_2] at h
    refine j_iload_n C0 (pc := 2) dX10_isLike_2 rfl ?_
    refine j_bipush C0 (pc := 3) dX10_isLike_3 (v := (16 : Int32)) (by decide) ?_
    refine j_icmp_ge C0 (pc := 5) (tgt := 32) dX10_isLike_5 (by decide) (fun hc => ?_) (fun hc => ?_)
    · replace h := (X_if h).1 hc
      refine j_iconst C0 (pc := 32) dX10_isLike_32 (v := (1 : Int32)) (by decide) ?_
      exact j_zret C rfl (by decide) h dX10_isLike_33 (by decide)
    · replace h := (X_if h).2 hc
      refine j_aload_n C0 (pc := 8) dX10_isLike_8 rfl ?_
      refine X_gN C0 (pc := 9) f_WS_9_8 rfl dX10_isLike_9 h (fun v4 h => ?_)
      refine j_iload_n C0 (pc := 12) dX10_isLike_12 rfl ?_
      refine X_lald C0 (pc := 13) dX10_isLike_13 h (fun v5 h => ?_)
      refine j_aload_n C0 (pc := 14) dX10_isLike_14 rfl ?_
      refine X_gN C0 (pc := 15) f_WS_9_8 rfl dX10_isLike_15 h (fun v6 h => ?_)
      refine j_iload_n C0 (pc := 18) dX10_isLike_18 rfl ?_
      refine X_lald C0 (pc := 19) dX10_isLike_19 h (fun v7 h => ?_)
      refine j_lcmp C0 (pc := 20) dX10_isLike_20 ?_
      refine j_if_eq C0 (pc := 21) (tgt := 26) dX10_isLike_21 (by decide) (fun hc => ?_) (fun hc => ?_)
      · replace h := (X_if h).1 hc
        refine j_iinc C0 (pc := 26) dX10_isLike_26 (v := v3 + (1 : Int32)) rfl (Nat.le_of_ble_eq_true rfl) (by rfl) ?_
        refine X_let (G := fun w => j_J X 3 29 [some (.ref v1), some (.ref v2), some (.int w)] [] (0, 0) M) h (fun v8 h => ?_)
        refine j_goto C0 (pc := 29) (tgt := 2) dX10_isLike_29 (by decide) ?_
        exact j_J.wq (ih v1 v2 v8 M h) (And.intro rfl (And.intro rfl (And.intro rfl (trivial))))
      · replace h := (X_if h).2 hc
        refine j_iconst C0 (pc := 24) dX10_isLike_24 (v := (0 : Int32)) (by decide) ?_
        exact j_zret C rfl (by decide) h dX10_isLike_25 (by decide)
set_option maxHeartbeats 4000000 in
theorem K_X10_isLike (a0 : Nat) (a1 : Nat) (M : m_M) (Φ : Option Value → m_M → Prop) (h : m_ok e_I Φ (F_X10_isLike a0 a1 M)) : j_Ct yX10_isLike cX10_isLike 3 (some .boolean) 1 0 0 [.ref a0, .ref a1] M Φ := by
  refine j_Ct.of (by decide +kernel) (Nat.le_of_ble_eq_true rfl) fun X C => ?_
  have C0 := C.1
  show j_J X 3 0 [some (.ref a0), some (.ref a1), none] [] (0, 0) M
  unfold F_X10_isLike at h
  refine j_iconst C0 (pc := 0) dX10_isLike_0 (v := (0 : Int32)) (by decide) ?_
  refine j_istore_n C0 (pc := 1) dX10_isLike_1 (Nat.le_of_ble_eq_true rfl) ?_
  show j_J X 3 2 [some (.ref a0), some (.ref a1), some (.int (0 : Int32))] [] (0, 0) M
  exact j_J.wq (L_X10_isLike_2 C m_FU a0 a1 (0 : Int32) M h) (And.intro rfl (And.intro rfl (And.intro rfl (trivial))))
