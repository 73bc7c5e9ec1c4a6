theorem dJ9_min_7cf53_0 : decode cJ9_min_7cf53 0 = .ok (.iload_n 0, 1) := by decide +kernel
theorem dJ9_min_7cf53_1 : decode cJ9_min_7cf53 1 = .ok (.iload_n 1, 1) := by decide +kernel
theorem dJ9_min_7cf53_2 : decode cJ9_min_7cf53 2 = .ok (.if_icmp .gt 7, 3) := by decide +kernel
theorem dJ9_min_7cf53_5 : decode cJ9_min_7cf53 5 = .ok (.iload_n 0, 1) := by decide +kernel
theorem dJ9_min_7cf53_6 : decode cJ9_min_7cf53 6 = .ok (.goto 4, 3) := by decide +kernel
theorem dJ9_min_7cf53_9 : decode cJ9_min_7cf53 9 = .ok (.iload_n 1, 1) := by decide +kernel
theorem dJ9_min_7cf53_10 : decode cJ9_min_7cf53 10 = .ok (.ireturn, 1) := by decide +kernel
noncomputable def F_J9_min_7cf53 (a1 : Int32) (a2 : Int32) (M : m_M) : Option (Int32 × m_M) :=
  if a2 < a1 then (
    some (a2, M)
  ) else
  some (a1, M)
set_option maxHeartbeats 4000000 in
theorem K_J9_min_7cf53 (a1 : Int32) (a2 : Int32) (M : m_M) (Φ : Option Value → m_M → Prop) (h : m_ok e_I Φ (F_J9_min_7cf53 a1 a2 M)) : j_Ct yJ9_min_7cf53 cJ9_min_7cf53 2 (some .int) 1 0 0 [.int a1, .int a2] M Φ := by
  refine j_Ct.ofF (by decide +kernel) (Nat.le_of_ble_eq_true rfl) fun X C => ?_
  have C0 := C.1
  show j_J X 2 0 [some (.int a1), some (.int a2)] [] (0, 0) M
  unfold F_J9_min_7cf53 at h
  refine j_iload_n C0 (pc := 0) dJ9_min_7cf53_0 rfl ?_
  refine j_iload_n C0 (pc := 1) dJ9_min_7cf53_1 rfl ?_
  refine j_icmp_gt C0 (pc := 2) (tgt := 9) dJ9_min_7cf53_2 (by decide) (fun hc => ?_) (fun hc => ?_)
  · replace h := (X_if h).1 hc
    refine j_iload_n C0 (pc := 9) dJ9_min_7cf53_9 rfl ?_
    exact j_iret C rfl h dJ9_min_7cf53_10 (by decide)
  · replace h := (X_if h).2 hc
    refine j_iload_n C0 (pc := 5) dJ9_min_7cf53_5 rfl ?_
    refine j_goto C0 (pc := 6) (tgt := 10) dJ9_min_7cf53_6 (by decide) ?_
    exact j_iret C rfl h dJ9_min_7cf53_10 (by decide)
theorem dJ9_max_7cf53_0 : decode cJ9_max_7cf53 0 = .ok (.iload_n 0, 1) := by decide +kernel
theorem dJ9_max_7cf53_1 : decode cJ9_max_7cf53 1 = .ok (.iload_n 1, 1) := by decide +kernel
theorem dJ9_max_7cf53_2 : decode cJ9_max_7cf53 2 = .ok (.if_icmp .lt 7, 3) := by decide +kernel
theorem dJ9_max_7cf53_5 : decode cJ9_max_7cf53 5 = .ok (.iload_n 0, 1) := by decide +kernel
theorem dJ9_max_7cf53_6 : decode cJ9_max_7cf53 6 = .ok (.goto 4, 3) := by decide +kernel
theorem dJ9_max_7cf53_9 : decode cJ9_max_7cf53 9 = .ok (.iload_n 1, 1) := by decide +kernel
theorem dJ9_max_7cf53_10 : decode cJ9_max_7cf53 10 = .ok (.ireturn, 1) := by decide +kernel
noncomputable def F_J9_max_7cf53 (a1 : Int32) (a2 : Int32) (M : m_M) : Option (Int32 × m_M) :=
  if a1 < a2 then (
    some (a2, M)
  ) else
  some (a1, M)
set_option maxHeartbeats 4000000 in
theorem K_J9_max_7cf53 (a1 : Int32) (a2 : Int32) (M : m_M) (Φ : Option Value → m_M → Prop) (h : m_ok e_I Φ (F_J9_max_7cf53 a1 a2 M)) : j_Ct yJ9_max_7cf53 cJ9_max_7cf53 2 (some .int) 1 0 0 [.int a1, .int a2] M Φ := by
  refine j_Ct.ofF (by decide +kernel) (Nat.le_of_ble_eq_true rfl) fun X C => ?_
  have C0 := C.1
  show j_J X 2 0 [some (.int a1), some (.int a2)] [] (0, 0) M
  unfold F_J9_max_7cf53 at h
  refine j_iload_n C0 (pc := 0) dJ9_max_7cf53_0 rfl ?_
  refine j_iload_n C0 (pc := 1) dJ9_max_7cf53_1 rfl ?_
  refine j_icmp_lt C0 (pc := 2) (tgt := 9) dJ9_max_7cf53_2 (by decide) (fun hc => ?_) (fun hc => ?_)
  · replace h := (X_if h).1 hc
    refine j_iload_n C0 (pc := 9) dJ9_max_7cf53_9 rfl ?_
    exact j_iret C rfl h dJ9_max_7cf53_10 (by decide)
  · replace h := (X_if h).2 hc
    refine j_iload_n C0 (pc := 5) dJ9_max_7cf53_5 rfl ?_
    refine j_goto C0 (pc := 6) (tgt := 10) dJ9_max_7cf53_6 (by decide) ?_
    exact j_iret C rfl h dJ9_max_7cf53_10 (by decide)
theorem dJ9_floorMod_7cf53_0 : decode cJ9_floorMod_7cf53 0 = .ok (.iload_n 0, 1) := by decide +kernel
theorem dJ9_floorMod_7cf53_1 : decode cJ9_floorMod_7cf53 1 = .ok (.iload_n 1, 1) := by decide +kernel
theorem dJ9_floorMod_7cf53_2 : decode cJ9_floorMod_7cf53 2 = .ok (.irem, 1) := by decide +kernel
theorem dJ9_floorMod_7cf53_3 : decode cJ9_floorMod_7cf53 3 = .ok (.istore_n 2, 1) := by decide +kernel
theorem dJ9_floorMod_7cf53_4 : decode cJ9_floorMod_7cf53 4 = .ok (.iload_n 0, 1) := by decide +kernel
theorem dJ9_floorMod_7cf53_5 : decode cJ9_floorMod_7cf53 5 = .ok (.iload_n 1, 1) := by decide +kernel
theorem dJ9_floorMod_7cf53_6 : decode cJ9_floorMod_7cf53 6 = .ok (.ixor, 1) := by decide +kernel
theorem dJ9_floorMod_7cf53_7 : decode cJ9_floorMod_7cf53 7 = .ok (.ifCond .ge 11, 3) := by decide +kernel
theorem dJ9_floorMod_7cf53_10 : decode cJ9_floorMod_7cf53 10 = .ok (.iload_n 2, 1) := by decide +kernel
theorem dJ9_floorMod_7cf53_11 : decode cJ9_floorMod_7cf53 11 = .ok (.ifCond .eq 7, 3) := by decide +kernel
theorem dJ9_floorMod_7cf53_14 : decode cJ9_floorMod_7cf53 14 = .ok (.iload_n 2, 1) := by decide +kernel
theorem dJ9_floorMod_7cf53_15 : decode cJ9_floorMod_7cf53 15 = .ok (.iload_n 1, 1) := by decide +kernel
theorem dJ9_floorMod_7cf53_16 : decode cJ9_floorMod_7cf53 16 = .ok (.iadd, 1) := by decide +kernel
theorem dJ9_floorMod_7cf53_17 : decode cJ9_floorMod_7cf53 17 = .ok (.ireturn, 1) := by decide +kernel
theorem dJ9_floorMod_7cf53_18 : decode cJ9_floorMod_7cf53 18 = .ok (.iload_n 2, 1) := by decide +kernel
theorem dJ9_floorMod_7cf53_19 : decode cJ9_floorMod_7cf53 19 = .ok (.ireturn, 1) := by decide +kernel
noncomputable def F_J9_floorMod_7cf53 (a1 : Int32) (a2 : Int32) (M : m_M) : Option (Int32 × m_M) :=
  x_nz a2 <|
  m_let (a1 - a1 / a2 * a2) fun v1 =>
  if 0 ≤ (a1 ^^^ a2) then (
    some (v1, M)
  ) else
  if v1 = 0 then (
    some (v1, M)
  ) else
  some (v1 + a2, M)
set_option maxHeartbeats 4000000 in
theorem K_J9_floorMod_7cf53 (a1 : Int32) (a2 : Int32) (M : m_M) (Φ : Option Value → m_M → Prop) (h : m_ok e_I Φ (F_J9_floorMod_7cf53 a1 a2 M)) : j_Ct yJ9_floorMod_7cf53 cJ9_floorMod_7cf53 3 (some .int) 1 0 0 [.int a1, .int a2] M Φ := by
  refine j_Ct.ofF (by decide +kernel) (Nat.le_of_ble_eq_true rfl) fun X C => ?_
  have C0 := C.1
  show j_J X 3 0 [some (.int a1), some (.int a2), none] [] (0, 0) M
  unfold F_J9_floorMod_7cf53 at h
  refine j_iload_n C0 (pc := 0) dJ9_floorMod_7cf53_0 rfl ?_
  refine j_iload_n C0 (pc := 1) dJ9_floorMod_7cf53_1 rfl ?_
  refine X_irem C0 (pc := 2) dJ9_floorMod_7cf53_2 h (fun h => ?_)
  refine X_let (G := fun w => j_J X 3 3 [some (.int a1), some (.int a2), none] (.int w :: []) (0, 0) M) h (fun v1 h => ?_)
  refine j_istore_n C0 (pc := 3) dJ9_floorMod_7cf53_3 (Nat.le_of_ble_eq_true rfl) ?_
  show j_J X 3 4 [some (.int a1), some (.int a2), some (.int v1)] [] (0, 0) M
  refine j_iload_n C0 (pc := 4) dJ9_floorMod_7cf53_4 rfl ?_
  refine j_iload_n C0 (pc := 5) dJ9_floorMod_7cf53_5 rfl ?_
  refine j_ixor C0 (pc := 6) dJ9_floorMod_7cf53_6 ?_
  refine j_if_ge C0 (pc := 7) (tgt := 18) dJ9_floorMod_7cf53_7 (by decide) (fun hc => ?_) (fun hc => ?_)
  · replace h := (X_if h).1 hc
    refine j_iload_n C0 (pc := 18) dJ9_floorMod_7cf53_18 rfl ?_
    exact j_iret C rfl h dJ9_floorMod_7cf53_19 (by decide)
  · replace h := (X_if h).2 hc
    refine j_iload_n C0 (pc := 10) dJ9_floorMod_7cf53_10 rfl ?_
    refine j_if_eq C0 (pc := 11) (tgt := 18) dJ9_floorMod_7cf53_11 (by decide) (fun hc => ?_) (fun hc => ?_)
    · replace h := (X_if h).1 hc
      refine j_iload_n C0 (pc := 18) dJ9_floorMod_7cf53_18 rfl ?_
      exact j_iret C rfl h dJ9_floorMod_7cf53_19 (by decide)
    · replace h := (X_if h).2 hc
      refine j_iload_n C0 (pc := 14) dJ9_floorMod_7cf53_14 rfl ?_
      refine j_iload_n C0 (pc := 15) dJ9_floorMod_7cf53_15 rfl ?_
      refine j_iadd C0 (pc := 16) dJ9_floorMod_7cf53_16 ?_
      exact j_iret C rfl h dJ9_floorMod_7cf53_17 (by decide)
theorem dJ13_bitCount_95d88_0 : decode cJ13_bitCount_95d88 0 = .ok (.lload_n 0, 1) := by decide +kernel
theorem dJ13_bitCount_95d88_1 : decode cJ13_bitCount_95d88 1 = .ok (.lload_n 0, 1) := by decide +kernel
theorem dJ13_bitCount_95d88_2 : decode cJ13_bitCount_95d88 2 = .ok (.iconst 1, 1) := by decide +kernel
theorem dJ13_bitCount_95d88_3 : decode cJ13_bitCount_95d88 3 = .ok (.lushr, 1) := by decide +kernel
theorem dJ13_bitCount_95d88_4 : decode cJ13_bitCount_95d88 4 = .ok (.ldc2_w 314, 3) := by decide +kernel
theorem dJ13_bitCount_95d88_7 : decode cJ13_bitCount_95d88 7 = .ok (.land, 1) := by decide +kernel
theorem dJ13_bitCount_95d88_8 : decode cJ13_bitCount_95d88 8 = .ok (.lsub, 1) := by decide +kernel
theorem dJ13_bitCount_95d88_9 : decode cJ13_bitCount_95d88 9 = .ok (.lstore_n 0, 1) := by decide +kernel
theorem dJ13_bitCount_95d88_10 : decode cJ13_bitCount_95d88 10 = .ok (.lload_n 0, 1) := by decide +kernel
theorem dJ13_bitCount_95d88_11 : decode cJ13_bitCount_95d88 11 = .ok (.ldc2_w 316, 3) := by decide +kernel
theorem dJ13_bitCount_95d88_14 : decode cJ13_bitCount_95d88 14 = .ok (.land, 1) := by decide +kernel
theorem dJ13_bitCount_95d88_15 : decode cJ13_bitCount_95d88 15 = .ok (.lload_n 0, 1) := by decide +kernel
theorem dJ13_bitCount_95d88_16 : decode cJ13_bitCount_95d88 16 = .ok (.iconst 2, 1) := by decide +kernel
theorem dJ13_bitCount_95d88_17 : decode cJ13_bitCount_95d88 17 = .ok (.lushr, 1) := by decide +kernel
theorem dJ13_bitCount_95d88_18 : decode cJ13_bitCount_95d88 18 = .ok (.ldc2_w 316, 3) := by decide +kernel
theorem dJ13_bitCount_95d88_21 : decode cJ13_bitCount_95d88 21 = .ok (.land, 1) := by decide +kernel
theorem dJ13_bitCount_95d88_22 : decode cJ13_bitCount_95d88 22 = .ok (.ladd, 1) := by decide +kernel
theorem dJ13_bitCount_95d88_23 : decode cJ13_bitCount_95d88 23 = .ok (.lstore_n 0, 1) := by decide +kernel
theorem dJ13_bitCount_95d88_24 : decode cJ13_bitCount_95d88 24 = .ok (.lload_n 0, 1) := by decide +kernel
theorem dJ13_bitCount_95d88_25 : decode cJ13_bitCount_95d88 25 = .ok (.lload_n 0, 1) := by decide +kernel
theorem dJ13_bitCount_95d88_26 : decode cJ13_bitCount_95d88 26 = .ok (.iconst 4, 1) := by decide +kernel
theorem dJ13_bitCount_95d88_27 : decode cJ13_bitCount_95d88 27 = .ok (.lushr, 1) := by decide +kernel
theorem dJ13_bitCount_95d88_28 : decode cJ13_bitCount_95d88 28 = .ok (.ladd, 1) := by decide +kernel
theorem dJ13_bitCount_95d88_29 : decode cJ13_bitCount_95d88 29 = .ok (.ldc2_w 318, 3) := by decide +kernel
theorem dJ13_bitCount_95d88_32 : decode cJ13_bitCount_95d88 32 = .ok (.land, 1) := by decide +kernel
theorem dJ13_bitCount_95d88_33 : decode cJ13_bitCount_95d88 33 = .ok (.lstore_n 0, 1) := by decide +kernel
theorem dJ13_bitCount_95d88_34 : decode cJ13_bitCount_95d88 34 = .ok (.lload_n 0, 1) := by decide +kernel
theorem dJ13_bitCount_95d88_35 : decode cJ13_bitCount_95d88 35 = .ok (.lload_n 0, 1) := by decide +kernel
theorem dJ13_bitCount_95d88_36 : decode cJ13_bitCount_95d88 36 = .ok (.bipush 8, 2) := by decide +kernel
theorem dJ13_bitCount_95d88_38 : decode cJ13_bitCount_95d88 38 = .ok (.lushr, 1) := by decide +kernel
theorem dJ13_bitCount_95d88_39 : decode cJ13_bitCount_95d88 39 = .ok (.ladd, 1) := by decide +kernel
theorem dJ13_bitCount_95d88_40 : decode cJ13_bitCount_95d88 40 = .ok (.lstore_n 0, 1) := by decide +kernel
theorem dJ13_bitCount_95d88_41 : decode cJ13_bitCount_95d88 41 = .ok (.lload_n 0, 1) := by decide +kernel
theorem dJ13_bitCount_95d88_42 : decode cJ13_bitCount_95d88 42 = .ok (.lload_n 0, 1) := by decide +kernel
theorem dJ13_bitCount_95d88_43 : decode cJ13_bitCount_95d88 43 = .ok (.bipush 16, 2) := by decide +kernel
theorem dJ13_bitCount_95d88_45 : decode cJ13_bitCount_95d88 45 = .ok (.lushr, 1) := by decide +kernel
theorem dJ13_bitCount_95d88_46 : decode cJ13_bitCount_95d88 46 = .ok (.ladd, 1) := by decide +kernel
theorem dJ13_bitCount_95d88_47 : decode cJ13_bitCount_95d88 47 = .ok (.lstore_n 0, 1) := by decide +kernel
theorem dJ13_bitCount_95d88_48 : decode cJ13_bitCount_95d88 48 = .ok (.lload_n 0, 1) := by decide +kernel
theorem dJ13_bitCount_95d88_49 : decode cJ13_bitCount_95d88 49 = .ok (.lload_n 0, 1) := by decide +kernel
theorem dJ13_bitCount_95d88_50 : decode cJ13_bitCount_95d88 50 = .ok (.bipush 32, 2) := by decide +kernel
theorem dJ13_bitCount_95d88_52 : decode cJ13_bitCount_95d88 52 = .ok (.lushr, 1) := by decide +kernel
theorem dJ13_bitCount_95d88_53 : decode cJ13_bitCount_95d88 53 = .ok (.ladd, 1) := by decide +kernel
theorem dJ13_bitCount_95d88_54 : decode cJ13_bitCount_95d88 54 = .ok (.lstore_n 0, 1) := by decide +kernel
theorem dJ13_bitCount_95d88_55 : decode cJ13_bitCount_95d88 55 = .ok (.lload_n 0, 1) := by decide +kernel
theorem dJ13_bitCount_95d88_56 : decode cJ13_bitCount_95d88 56 = .ok (.l2i, 1) := by decide +kernel
theorem dJ13_bitCount_95d88_57 : decode cJ13_bitCount_95d88 57 = .ok (.bipush 127, 2) := by decide +kernel
theorem dJ13_bitCount_95d88_59 : decode cJ13_bitCount_95d88 59 = .ok (.iand, 1) := by decide +kernel
theorem dJ13_bitCount_95d88_60 : decode cJ13_bitCount_95d88 60 = .ok (.ireturn, 1) := by decide +kernel
noncomputable def F_J13_bitCount_95d88 (a1 : Int64) (M : m_M) : Option (Int32 × m_M) :=
  m_let (a1 - (((a1.toUInt64 >>> ((1 : Int32).toInt64.toUInt64 &&& Int64.toUInt64 63)).toInt64) &&& (6148914691236517205 : Int64))) fun v1 =>
  m_let ((v1 &&& (3689348814741910323 : Int64)) + (((v1.toUInt64 >>> ((2 : Int32).toInt64.toUInt64 &&& Int64.toUInt64 63)).toInt64) &&& (3689348814741910323 : Int64))) fun v2 =>
  m_let ((v2 + ((v2.toUInt64 >>> ((4 : Int32).toInt64.toUInt64 &&& Int64.toUInt64 63)).toInt64)) &&& (1085102592571150095 : Int64)) fun v3 =>
  m_let (v3 + ((v3.toUInt64 >>> ((8 : Int32).toInt64.toUInt64 &&& Int64.toUInt64 63)).toInt64)) fun v4 =>
  m_let (v4 + ((v4.toUInt64 >>> ((16 : Int32).toInt64.toUInt64 &&& Int64.toUInt64 63)).toInt64)) fun v5 =>
  m_let (v5 + ((v5.toUInt64 >>> ((32 : Int32).toInt64.toUInt64 &&& Int64.toUInt64 63)).toInt64)) fun v6 =>
  some (v6.toInt32 &&& (127 : Int32), M)
set_option maxHeartbeats 4000000 in
theorem K_J13_bitCount_95d88 (a1 : Int64) (M : m_M) (Φ : Option Value → m_M → Prop) (h : m_ok e_I Φ (F_J13_bitCount_95d88 a1 M)) : j_Ct yJ13_bitCount_95d88 cJ13_bitCount_95d88 2 (some .int) 1 0 0 [.long a1] M Φ := by
  refine j_Ct.ofF (by decide +kernel) (Nat.le_of_ble_eq_true rfl) fun X C => ?_
  have C0 := C.1
  show j_J X 2 0 [some (.long a1), none] [] (0, 0) M
  unfold F_J13_bitCount_95d88 at h
  refine j_lload_n C0 (pc := 0) dJ13_bitCount_95d88_0 rfl ?_
  refine j_lload_n C0 (pc := 1) dJ13_bitCount_95d88_1 rfl ?_
  refine j_iconst C0 (pc := 2) dJ13_bitCount_95d88_2 (v := (1 : Int32)) (by decide) ?_
  refine j_lushr C0 (pc := 3) dJ13_bitCount_95d88_3 (v := (a1.toUInt64 >>> ((1 : Int32).toInt64.toUInt64 &&& Int64.toUInt64 63)).toInt64) rfl ?_
  refine j_ldc2 C0 (pc := 4) (v := (6148914691236517205 : Int64)) (j_c5 107 (by decide +kernel)) dJ13_bitCount_95d88_4 ?_
  refine j_land C0 (pc := 7) dJ13_bitCount_95d88_7 ?_
  refine j_lsub C0 (pc := 8) dJ13_bitCount_95d88_8 ?_
  refine X_let (G := fun w => j_J X 2 9 [some (.long a1), none] (.long w :: []) (0, 0) M) h (fun v1 h => ?_)
  refine j_lstore_n C0 (pc := 9) dJ13_bitCount_95d88_9 (Nat.le_of_ble_eq_true rfl) ?_
  show j_J X 2 10 [some (.long v1), none] [] (0, 0) M
  refine j_lload_n C0 (pc := 10) dJ13_bitCount_95d88_10 rfl ?_
  refine j_ldc2 C0 (pc := 11) (v := (3689348814741910323 : Int64)) (j_c5 108 (by decide +kernel)) dJ13_bitCount_95d88_11 ?_
  refine j_land C0 (pc := 14) dJ13_bitCount_95d88_14 ?_
  refine j_lload_n C0 (pc := 15) dJ13_bitCount_95d88_15 rfl ?_
  refine j_iconst C0 (pc := 16) dJ13_bitCount_95d88_16 (v := (2 : Int32)) (by decide) ?_
  refine j_lushr C0 (pc := 17) dJ13_bitCount_95d88_17 (v := (v1.toUInt64 >>> ((2 : Int32).toInt64.toUInt64 &&& Int64.toUInt64 63)).toInt64) rfl ?_
  refine j_ldc2 C0 (pc := 18) (v := (3689348814741910323 : Int64)) (j_c5 108 (by decide +kernel)) dJ13_bitCount_95d88_18 ?_
  refine j_land C0 (pc := 21) dJ13_bitCount_95d88_21 ?_
  refine j_ladd C0 (pc := 22) dJ13_bitCount_95d88_22 ?_
  refine X_let (G := fun w => j_J X 2 23 [some (.long v1), none] (.long w :: []) (0, 0) M) h (fun v2 h => ?_)
  refine j_lstore_n C0 (pc := 23) dJ13_bitCount_95d88_23 (Nat.le_of_ble_eq_true rfl) ?_
  show j_J X 2 24 [some (.long v2), none] [] (0, 0) M
  refine j_lload_n C0 (pc := 24) dJ13_bitCount_95d88_24 rfl ?_
  refine j_lload_n C0 (pc := 25) dJ13_bitCount_95d88_25 rfl ?_
  refine j_iconst C0 (pc := 26) dJ13_bitCount_95d88_26 (v := (4 : Int32)) (by decide) ?_
  refine j_lushr C0 (pc := 27) dJ13_bitCount_95d88_27 (v := (v2.toUInt64 >>> ((4 : Int32).toInt64.toUInt64 &&& Int64.toUInt64 63)).toInt64) rfl ?_
  refine j_ladd C0 (pc := 28) dJ13_bitCount_95d88_28 ?_
  refine j_ldc2 C0 (pc := 29) (v := (1085102592571150095 : Int64)) (j_c5 109 (by decide +kernel)) dJ13_bitCount_95d88_29 ?_
  refine j_land C0 (pc := 32) dJ13_bitCount_95d88_32 ?_
  refine X_let (G := fun w => j_J X 2 33 [some (.long v2), none] (.long w :: []) (0, 0) M) h (fun v3 h => ?_)
  refine j_lstore_n C0 (pc := 33) dJ13_bitCount_95d88_33 (Nat.le_of_ble_eq_true rfl) ?_
  show j_J X 2 34 [some (.long v3), none] [] (0, 0) M
  refine j_lload_n C0 (pc := 34) dJ13_bitCount_95d88_34 rfl ?_
  refine j_lload_n C0 (pc := 35) dJ13_bitCount_95d88_35 rfl ?_
  refine j_bipush C0 (pc := 36) dJ13_bitCount_95d88_36 (v := (8 : Int32)) (by decide) ?_
  refine j_lushr C0 (pc := 38) dJ13_bitCount_95d88_38 (v := (v3.toUInt64 >>> ((8 : Int32).toInt64.toUInt64 &&& Int64.toUInt64 63)).toInt64) rfl ?_
  refine j_ladd C0 (pc := 39) dJ13_bitCount_95d88_39 ?_
  refine X_let (G := fun w => j_J X 2 40 [some (.long v3), none] (.long w :: []) (0, 0) M) h (fun v4 h => ?_)
  refine j_lstore_n C0 (pc := 40) dJ13_bitCount_95d88_40 (Nat.le_of_ble_eq_true rfl) ?_
  show j_J X 2 41 [some (.long v4), none] [] (0, 0) M
  refine j_lload_n C0 (pc := 41) dJ13_bitCount_95d88_41 rfl ?_
  refine j_lload_n C0 (pc := 42) dJ13_bitCount_95d88_42 rfl ?_
  refine j_bipush C0 (pc := 43) dJ13_bitCount_95d88_43 (v := (16 : Int32)) (by decide) ?_
  refine j_lushr C0 (pc := 45) dJ13_bitCount_95d88_45 (v := (v4.toUInt64 >>> ((16 : Int32).toInt64.toUInt64 &&& Int64.toUInt64 63)).toInt64) rfl ?_
  refine j_ladd C0 (pc := 46) dJ13_bitCount_95d88_46 ?_
  refine X_let (G := fun w => j_J X 2 47 [some (.long v4), none] (.long w :: []) (0, 0) M) h (fun v5 h => ?_)
  refine j_lstore_n C0 (pc := 47) dJ13_bitCount_95d88_47 (Nat.le_of_ble_eq_true rfl) ?_
  show j_J X 2 48 [some (.long v5), none] [] (0, 0) M
  refine j_lload_n C0 (pc := 48) dJ13_bitCount_95d88_48 rfl ?_
  refine j_lload_n C0 (pc := 49) dJ13_bitCount_95d88_49 rfl ?_
  refine j_bipush C0 (pc := 50) dJ13_bitCount_95d88_50 (v := (32 : Int32)) (by decide) ?_
  refine j_lushr C0 (pc := 52) dJ13_bitCount_95d88_52 (v := (v5.toUInt64 >>> ((32 : Int32).toInt64.toUInt64 &&& Int64.toUInt64 63)).toInt64) rfl ?_
  refine j_ladd C0 (pc := 53) dJ13_bitCount_95d88_53 ?_
  refine X_let (G := fun w => j_J X 2 54 [some (.long v5), none] (.long w :: []) (0, 0) M) h (fun v6 h => ?_)
  refine j_lstore_n C0 (pc := 54) dJ13_bitCount_95d88_54 (Nat.le_of_ble_eq_true rfl) ?_
  show j_J X 2 55 [some (.long v6), none] [] (0, 0) M
  refine j_lload_n C0 (pc := 55) dJ13_bitCount_95d88_55 rfl ?_
  refine j_l2i C0 (pc := 56) dJ13_bitCount_95d88_56 (v := v6.toInt32) rfl ?_
  refine j_bipush C0 (pc := 57) dJ13_bitCount_95d88_57 (v := (127 : Int32)) (by decide) ?_
  refine j_iand C0 (pc := 59) dJ13_bitCount_95d88_59 ?_
  exact j_iret C rfl h dJ13_bitCount_95d88_60 (by decide)
theorem dJ6_bitCount_0f7a4_0 : decode cJ6_bitCount_0f7a4 0 = .ok (.iload_n 0, 1) := by decide +kernel
theorem dJ6_bitCount_0f7a4_1 : decode cJ6_bitCount_0f7a4 1 = .ok (.iload_n 0, 1) := by decide +kernel
theorem dJ6_bitCount_0f7a4_2 : decode cJ6_bitCount_0f7a4 2 = .ok (.iconst 1, 1) := by decide +kernel
theorem dJ6_bitCount_0f7a4_3 : decode cJ6_bitCount_0f7a4 3 = .ok (.iushr, 1) := by decide +kernel
theorem dJ6_bitCount_0f7a4_4 : decode cJ6_bitCount_0f7a4 4 = .ok (.ldc_w 265, 3) := by decide +kernel
theorem dJ6_bitCount_0f7a4_7 : decode cJ6_bitCount_0f7a4 7 = .ok (.iand, 1) := by decide +kernel
theorem dJ6_bitCount_0f7a4_8 : decode cJ6_bitCount_0f7a4 8 = .ok (.isub, 1) := by decide +kernel
theorem dJ6_bitCount_0f7a4_9 : decode cJ6_bitCount_0f7a4 9 = .ok (.istore_n 0, 1) := by decide +kernel
theorem dJ6_bitCount_0f7a4_10 : decode cJ6_bitCount_0f7a4 10 = .ok (.iload_n 0, 1) := by decide +kernel
theorem dJ6_bitCount_0f7a4_11 : decode cJ6_bitCount_0f7a4 11 = .ok (.ldc_w 266, 3) := by decide +kernel
theorem dJ6_bitCount_0f7a4_14 : decode cJ6_bitCount_0f7a4 14 = .ok (.iand, 1) := by decide +kernel
theorem dJ6_bitCount_0f7a4_15 : decode cJ6_bitCount_0f7a4 15 = .ok (.iload_n 0, 1) := by decide +kernel
theorem dJ6_bitCount_0f7a4_16 : decode cJ6_bitCount_0f7a4 16 = .ok (.iconst 2, 1) := by decide +kernel
theorem dJ6_bitCount_0f7a4_17 : decode cJ6_bitCount_0f7a4 17 = .ok (.iushr, 1) := by decide +kernel
theorem dJ6_bitCount_0f7a4_18 : decode cJ6_bitCount_0f7a4 18 = .ok (.ldc_w 266, 3) := by decide +kernel
theorem dJ6_bitCount_0f7a4_21 : decode cJ6_bitCount_0f7a4 21 = .ok (.iand, 1) := by decide +kernel
theorem dJ6_bitCount_0f7a4_22 : decode cJ6_bitCount_0f7a4 22 = .ok (.iadd, 1) := by decide +kernel
theorem dJ6_bitCount_0f7a4_23 : decode cJ6_bitCount_0f7a4 23 = .ok (.istore_n 0, 1) := by decide +kernel
theorem dJ6_bitCount_0f7a4_24 : decode cJ6_bitCount_0f7a4 24 = .ok (.iload_n 0, 1) := by decide +kernel
theorem dJ6_bitCount_0f7a4_25 : decode cJ6_bitCount_0f7a4 25 = .ok (.iload_n 0, 1) := by decide +kernel
theorem dJ6_bitCount_0f7a4_26 : decode cJ6_bitCount_0f7a4 26 = .ok (.iconst 4, 1) := by decide +kernel
theorem dJ6_bitCount_0f7a4_27 : decode cJ6_bitCount_0f7a4 27 = .ok (.iushr, 1) := by decide +kernel
theorem dJ6_bitCount_0f7a4_28 : decode cJ6_bitCount_0f7a4 28 = .ok (.iadd, 1) := by decide +kernel
theorem dJ6_bitCount_0f7a4_29 : decode cJ6_bitCount_0f7a4 29 = .ok (.ldc_w 267, 3) := by decide +kernel
theorem dJ6_bitCount_0f7a4_32 : decode cJ6_bitCount_0f7a4 32 = .ok (.iand, 1) := by decide +kernel
theorem dJ6_bitCount_0f7a4_33 : decode cJ6_bitCount_0f7a4 33 = .ok (.istore_n 0, 1) := by decide +kernel
theorem dJ6_bitCount_0f7a4_34 : decode cJ6_bitCount_0f7a4 34 = .ok (.iload_n 0, 1) := by decide +kernel
theorem dJ6_bitCount_0f7a4_35 : decode cJ6_bitCount_0f7a4 35 = .ok (.iload_n 0, 1) := by decide +kernel
theorem dJ6_bitCount_0f7a4_36 : decode cJ6_bitCount_0f7a4 36 = .ok (.bipush 8, 2) := by decide +kernel
theorem dJ6_bitCount_0f7a4_38 : decode cJ6_bitCount_0f7a4 38 = .ok (.iushr, 1) := by decide +kernel
theorem dJ6_bitCount_0f7a4_39 : decode cJ6_bitCount_0f7a4 39 = .ok (.iadd, 1) := by decide +kernel
theorem dJ6_bitCount_0f7a4_40 : decode cJ6_bitCount_0f7a4 40 = .ok (.istore_n 0, 1) := by decide +kernel
theorem dJ6_bitCount_0f7a4_41 : decode cJ6_bitCount_0f7a4 41 = .ok (.iload_n 0, 1) := by decide +kernel
theorem dJ6_bitCount_0f7a4_42 : decode cJ6_bitCount_0f7a4 42 = .ok (.iload_n 0, 1) := by decide +kernel
theorem dJ6_bitCount_0f7a4_43 : decode cJ6_bitCount_0f7a4 43 = .ok (.bipush 16, 2) := by decide +kernel
theorem dJ6_bitCount_0f7a4_45 : decode cJ6_bitCount_0f7a4 45 = .ok (.iushr, 1) := by decide +kernel
theorem dJ6_bitCount_0f7a4_46 : decode cJ6_bitCount_0f7a4 46 = .ok (.iadd, 1) := by decide +kernel
theorem dJ6_bitCount_0f7a4_47 : decode cJ6_bitCount_0f7a4 47 = .ok (.istore_n 0, 1) := by decide +kernel
theorem dJ6_bitCount_0f7a4_48 : decode cJ6_bitCount_0f7a4 48 = .ok (.iload_n 0, 1) := by decide +kernel
theorem dJ6_bitCount_0f7a4_49 : decode cJ6_bitCount_0f7a4 49 = .ok (.bipush 63, 2) := by decide +kernel
theorem dJ6_bitCount_0f7a4_51 : decode cJ6_bitCount_0f7a4 51 = .ok (.iand, 1) := by decide +kernel
theorem dJ6_bitCount_0f7a4_52 : decode cJ6_bitCount_0f7a4 52 = .ok (.ireturn, 1) := by decide +kernel
noncomputable def F_J6_bitCount_0f7a4 (a1 : Int32) (M : m_M) : Option (Int32 × m_M) :=
  m_let (a1 - (((a1.toUInt32 >>> ((1 : Int32).toUInt32 &&& Int32.toUInt32 31)).toInt32) &&& (1431655765 : Int32))) fun v1 =>
  m_let ((v1 &&& (858993459 : Int32)) + (((v1.toUInt32 >>> ((2 : Int32).toUInt32 &&& Int32.toUInt32 31)).toInt32) &&& (858993459 : Int32))) fun v2 =>
  m_let ((v2 + ((v2.toUInt32 >>> ((4 : Int32).toUInt32 &&& Int32.toUInt32 31)).toInt32)) &&& (252645135 : Int32)) fun v3 =>
  m_let (v3 + ((v3.toUInt32 >>> ((8 : Int32).toUInt32 &&& Int32.toUInt32 31)).toInt32)) fun v4 =>
  m_let (v4 + ((v4.toUInt32 >>> ((16 : Int32).toUInt32 &&& Int32.toUInt32 31)).toInt32)) fun v5 =>
  some (v5 &&& (63 : Int32), M)
set_option maxHeartbeats 4000000 in
theorem K_J6_bitCount_0f7a4 (a1 : Int32) (M : m_M) (Φ : Option Value → m_M → Prop) (h : m_ok e_I Φ (F_J6_bitCount_0f7a4 a1 M)) : j_Ct yJ6_bitCount_0f7a4 cJ6_bitCount_0f7a4 1 (some .int) 1 0 0 [.int a1] M Φ := by
  refine j_Ct.ofF (by decide +kernel) (Nat.le_of_ble_eq_true rfl) fun X C => ?_
  have C0 := C.1
  show j_J X 1 0 [some (.int a1)] [] (0, 0) M
  unfold F_J6_bitCount_0f7a4 at h
  refine j_iload_n C0 (pc := 0) dJ6_bitCount_0f7a4_0 rfl ?_
  refine j_iload_n C0 (pc := 1) dJ6_bitCount_0f7a4_1 rfl ?_
  refine j_iconst C0 (pc := 2) dJ6_bitCount_0f7a4_2 (v := (1 : Int32)) (by decide) ?_
  refine j_iushr C0 (pc := 3) dJ6_bitCount_0f7a4_3 (v := (a1.toUInt32 >>> ((1 : Int32).toUInt32 &&& Int32.toUInt32 31)).toInt32) rfl ?_
  refine j_ldcw C0 (pc := 4) (v := (1431655765 : Int32)) (j_c5 221 (by decide +kernel)) dJ6_bitCount_0f7a4_4 ?_
  refine j_iand C0 (pc := 7) dJ6_bitCount_0f7a4_7 ?_
  refine j_isub C0 (pc := 8) dJ6_bitCount_0f7a4_8 ?_
  refine X_let (G := fun w => j_J X 1 9 [some (.int a1)] (.int w :: []) (0, 0) M) h (fun v1 h => ?_)
  refine j_istore_n C0 (pc := 9) dJ6_bitCount_0f7a4_9 (Nat.le_of_ble_eq_true rfl) ?_
  show j_J X 1 10 [some (.int v1)] [] (0, 0) M
  refine j_iload_n C0 (pc := 10) dJ6_bitCount_0f7a4_10 rfl ?_
  refine j_ldcw C0 (pc := 11) (v := (858993459 : Int32)) (j_c5 222 (by decide +kernel)) dJ6_bitCount_0f7a4_11 ?_
  refine j_iand C0 (pc := 14) dJ6_bitCount_0f7a4_14 ?_
  refine j_iload_n C0 (pc := 15) dJ6_bitCount_0f7a4_15 rfl ?_
  refine j_iconst C0 (pc := 16) dJ6_bitCount_0f7a4_16 (v := (2 : Int32)) (by decide) ?_
  refine j_iushr C0 (pc := 17) dJ6_bitCount_0f7a4_17 (v := (v1.toUInt32 >>> ((2 : Int32).toUInt32 &&& Int32.toUInt32 31)).toInt32) rfl ?_
  refine j_ldcw C0 (pc := 18) (v := (858993459 : Int32)) (j_c5 222 (by decide +kernel)) dJ6_bitCount_0f7a4_18 ?_
  refine j_iand C0 (pc := 21) dJ6_bitCount_0f7a4_21 ?_
  refine j_iadd C0 (pc := 22) dJ6_bitCount_0f7a4_22 ?_
  refine X_let (G := fun w => j_J X 1 23 [some (.int v1)] (.int w :: []) (0, 0) M) h (fun v2 h => ?_)
  refine j_istore_n C0 (pc := 23) dJ6_bitCount_0f7a4_23 (Nat.le_of_ble_eq_true rfl) ?_
  show j_J X 1 24 [some (.int v2)] [] (0, 0) M
  refine j_iload_n C0 (pc := 24) dJ6_bitCount_0f7a4_24 rfl ?_
  refine j_iload_n C0 (pc := 25) dJ6_bitCount_0f7a4_25 rfl ?_
  refine j_iconst C0 (pc := 26) dJ6_bitCount_0f7a4_26 (v := (4 : Int32)) (by decide) ?_
  refine j_iushr C0 (pc := 27) dJ6_bitCount_0f7a4_27 (v := (v2.toUInt32 >>> ((4 : Int32).toUInt32 &&& Int32.toUInt32 31)).toInt32) rfl ?_
  refine j_iadd C0 (pc := 28) dJ6_bitCount_0f7a4_28 ?_
  refine j_ldcw C0 (pc := 29) (v := (252645135 : Int32)) (j_c5 223 (by decide +kernel)) dJ6_bitCount_0f7a4_29 ?_
  refine j_iand C0 (pc := 32) dJ6_bitCount_0f7a4_32 ?_
  refine X_let (G := fun w => j_J X 1 33 [some (.int v2)] (.int w :: []) (0, 0) M) h (fun v3 h => ?_)
  refine j_istore_n C0 (pc := 33) dJ6_bitCount_0f7a4_33 (Nat.le_of_ble_eq_true rfl) ?_
  show j_J X 1 34 [some (.int v3)] [] (0, 0) M
  refine j_iload_n C0 (pc := 34) dJ6_bitCount_0f7a4_34 rfl ?_
  refine j_iload_n C0 (pc := 35) dJ6_bitCount_0f7a4_35 rfl ?_
  refine j_bipush C0 (pc := 36) dJ6_bitCount_0f7a4_36 (v := (8 : Int32)) (by decide) ?_
  refine j_iushr C0 (pc := 38) dJ6_bitCount_0f7a4_38 (v := (v3.toUInt32 >>> ((8 : Int32).toUInt32 &&& Int32.toUInt32 31)).toInt32) rfl ?_
  refine j_iadd C0 (pc := 39) dJ6_bitCount_0f7a4_39 ?_
  refine X_let (G := fun w => j_J X 1 40 [some (.int v3)] (.int w :: []) (0, 0) M) h (fun v4 h => ?_)
  refine j_istore_n C0 (pc := 40) dJ6_bitCount_0f7a4_40 (Nat.le_of_ble_eq_true rfl) ?_
  show j_J X 1 41 [some (.int v4)] [] (0, 0) M
  refine j_iload_n C0 (pc := 41) dJ6_bitCount_0f7a4_41 rfl ?_
  refine j_iload_n C0 (pc := 42) dJ6_bitCount_0f7a4_42 rfl ?_
  refine j_bipush C0 (pc := 43) dJ6_bitCount_0f7a4_43 (v := (16 : Int32)) (by decide) ?_
  refine j_iushr C0 (pc := 45) dJ6_bitCount_0f7a4_45 (v := (v4.toUInt32 >>> ((16 : Int32).toUInt32 &&& Int32.toUInt32 31)).toInt32) rfl ?_
  refine j_iadd C0 (pc := 46) dJ6_bitCount_0f7a4_46 ?_
  refine X_let (G := fun w => j_J X 1 47 [some (.int v4)] (.int w :: []) (0, 0) M) h (fun v5 h => ?_)
  refine j_istore_n C0 (pc := 47) dJ6_bitCount_0f7a4_47 (Nat.le_of_ble_eq_true rfl) ?_
  show j_J X 1 48 [some (.int v5)] [] (0, 0) M
  refine j_iload_n C0 (pc := 48) dJ6_bitCount_0f7a4_48 rfl ?_
  refine j_bipush C0 (pc := 49) dJ6_bitCount_0f7a4_49 (v := (63 : Int32)) (by decide) ?_
  refine j_iand C0 (pc := 51) dJ6_bitCount_0f7a4_51 ?_
  exact j_iret C rfl h dJ6_bitCount_0f7a4_52 (by decide)
theorem dJ7_fill_d0a16_0 : decode cJ7_fill_d0a16 0 = .ok (.iconst 0, 1) := by decide +kernel
theorem dJ7_fill_d0a16_1 : decode cJ7_fill_d0a16 1 = .ok (.istore_n 3, 1) := by decide +kernel
theorem dJ7_fill_d0a16_2 : decode cJ7_fill_d0a16 2 = .ok (.aload_n 0, 1) := by decide +kernel
theorem dJ7_fill_d0a16_3 : decode cJ7_fill_d0a16 3 = .ok (.arraylength, 1) := by decide +kernel
theorem dJ7_fill_d0a16_4 : decode cJ7_fill_d0a16 4 = .ok (.istore 4, 2) := by decide +kernel
theorem dJ7_fill_d0a16_6 : decode cJ7_fill_d0a16 6 = .ok (.iload_n 3, 1) := by decide +kernel
theorem dJ7_fill_d0a16_7 : decode cJ7_fill_d0a16 7 = .ok (.iload 4, 2) := by decide +kernel
theorem dJ7_fill_d0a16_9 : decode cJ7_fill_d0a16 9 = .ok (.if_icmp .ge 13, 3) := by decide +kernel
theorem dJ7_fill_d0a16_12 : decode cJ7_fill_d0a16 12 = .ok (.aload_n 0, 1) := by decide +kernel
theorem dJ7_fill_d0a16_13 : decode cJ7_fill_d0a16 13 = .ok (.iload_n 3, 1) := by decide +kernel
theorem dJ7_fill_d0a16_14 : decode cJ7_fill_d0a16 14 = .ok (.lload_n 1, 1) := by decide +kernel
theorem dJ7_fill_d0a16_15 : decode cJ7_fill_d0a16 15 = .ok (.lastore, 1) := by decide +kernel
theorem dJ7_fill_d0a16_16 : decode cJ7_fill_d0a16 16 = .ok (.iinc 3 1, 3) := by decide +kernel
theorem dJ7_fill_d0a16_19 : decode cJ7_fill_d0a16 19 = .ok (.goto (-13), 3) := by decide +kernel
theorem dJ7_fill_d0a16_22 : decode cJ7_fill_d0a16 22 = .ok (.return_, 1) := by decide +kernel
noncomputable def F_J7_fill_d0a16_6 : Nat → Nat → Int64 → Int32 → Int32 → m_M → Option (Unit × m_M)
  | 0, _, _, _, _, _ => none
  | n + 1, v1, v2, v3, v4, M =>
    if v4 ≤ v3 then (
      some ((), M)
    ) else
    x_sL M v1 v3 v2 fun M1 =>
    m_let (v3 + (1 : Int32)) fun v5 =>
    F_J7_fill_d0a16_6 n v1 v2 v5 v4 M1
noncomputable def F_J7_fill_d0a16 (a1 : Nat) (a2 : Int64) (M : m_M) : Option (Unit × m_M) :=
  x_len 13 M a1 fun v1 =>
  F_J7_fill_d0a16_6 m_FU a1 a2 (0 : Int32) v1 M
set_option maxHeartbeats 4000000 in
theorem L_J7_fill_d0a16_6 {X : j_X} {Φ : Option Value → m_M → Prop} (C : j_C X yJ7_fill_d0a16 cJ7_fill_d0a16 5 none 1 0 0 Φ) : ∀ (n : Nat) (v1 : Nat) (v2 : Int64) (v3 : Int32) (v4 : Int32) (M : m_M), m_ok e_V Φ (F_J7_fill_d0a16_6 n v1 v2 v3 v4 M) → j_J X 5 6 [some (.ref v1), some (.long v2), none, some (.int v3), some (.int v4)] [] (0, 0) M := by
  have C0 := C.1
  intro n
  induction n with
  | zero => intro v1 v2 v3 v4 M h; exact False.elim h
  | succ n ih =>
    intro v1 v2 v3 v4 M h
    rw [F_J7_fill_d0a16_6] at h
    refine j_iload_n C0 (pc := 6) dJ7_fill_d0a16_6 rfl ?_
    refine j_iload C0 (pc := 7) dJ7_fill_d0a16_7 rfl ?_
    refine j_icmp_ge C0 (pc := 9) (tgt := 22) dJ7_fill_d0a16_9 (by decide) (fun hc => ?_) (fun hc => ?_)
    · replace h := (X_if h).1 hc
      exact j_vret C rfl h dJ7_fill_d0a16_22 (by decide)
    · replace h := (X_if h).2 hc
      refine j_aload_n C0 (pc := 12) dJ7_fill_d0a16_12 rfl ?_
      refine j_iload_n C0 (pc := 13) dJ7_fill_d0a16_13 rfl ?_
      refine j_lload_n C0 (pc := 14) dJ7_fill_d0a16_14 rfl ?_
      refine X_last C0 (pc := 15) dJ7_fill_d0a16_15 h (fun M1 h => ?_)
      refine j_iinc C0 (pc := 16) dJ7_fill_d0a16_16 (v := v3 + (1 : Int32)) rfl (Nat.le_of_ble_eq_true rfl) (by rfl) ?_
      refine X_let (G := fun w => j_J X 5 19 [some (.ref v1), some (.long v2), none, some (.int w), some (.int v4)] [] (0, 0) M1) h (fun v5 h => ?_)
      refine j_goto C0 (pc := 19) (tgt := 6) dJ7_fill_d0a16_19 (by decide) ?_
      exact j_J.wq (ih v1 v2 v5 v4 M1 h) (And.intro rfl (And.intro rfl (And.intro rfl (And.intro rfl (trivial)))))
set_option maxHeartbeats 4000000 in
theorem K_J7_fill_d0a16 (a1 : Nat) (a2 : Int64) (M : m_M) (Φ : Option Value → m_M → Prop) (h : m_ok e_V Φ (F_J7_fill_d0a16 a1 a2 M)) : j_Ct yJ7_fill_d0a16 cJ7_fill_d0a16 5 none 1 0 0 [.ref a1, .long a2] M Φ := by
  refine j_Ct.ofF (by decide +kernel) (Nat.le_of_ble_eq_true rfl) fun X C => ?_
  have C0 := C.1
  show j_J X 5 0 [some (.ref a1), some (.long a2), none, none, none] [] (0, 0) M
  unfold F_J7_fill_d0a16 at h
  refine j_iconst C0 (pc := 0) dJ7_fill_d0a16_0 (v := (0 : Int32)) (by decide) ?_
  refine j_istore_n C0 (pc := 1) dJ7_fill_d0a16_1 (Nat.le_of_ble_eq_true rfl) ?_
  show j_J X 5 2 [some (.ref a1), some (.long a2), none, some (.int (0 : Int32)), none] [] (0, 0) M
  refine j_aload_n C0 (pc := 2) dJ7_fill_d0a16_2 rfl ?_
  refine X_alen C0 (pc := 3) (by decide) dJ7_fill_d0a16_3 h (fun v1 h => ?_)
  refine j_istore C0 (pc := 4) dJ7_fill_d0a16_4 (Nat.le_of_ble_eq_true rfl) ?_
  show j_J X 5 6 [some (.ref a1), some (.long a2), none, some (.int (0 : Int32)), some (.int v1)] [] (0, 0) M
  exact j_J.wq (L_J7_fill_d0a16_6 C m_FU a1 a2 (0 : Int32) v1 M h) (And.intro rfl (And.intro rfl (And.intro rfl (And.intro rfl (trivial)))))
theorem dJ7_fill_53178_0 : decode cJ7_fill_53178 0 = .ok (.iconst 0, 1) := by decide +kernel
theorem dJ7_fill_53178_1 : decode cJ7_fill_53178 1 = .ok (.istore_n 2, 1) := by decide +kernel
theorem dJ7_fill_53178_2 : decode cJ7_fill_53178 2 = .ok (.aload_n 0, 1) := by decide +kernel
theorem dJ7_fill_53178_3 : decode cJ7_fill_53178 3 = .ok (.arraylength, 1) := by decide +kernel
theorem dJ7_fill_53178_4 : decode cJ7_fill_53178 4 = .ok (.istore_n 3, 1) := by decide +kernel
theorem dJ7_fill_53178_5 : decode cJ7_fill_53178 5 = .ok (.iload_n 2, 1) := by decide +kernel
theorem dJ7_fill_53178_6 : decode cJ7_fill_53178 6 = .ok (.iload_n 3, 1) := by decide +kernel
theorem dJ7_fill_53178_7 : decode cJ7_fill_53178 7 = .ok (.if_icmp .ge 13, 3) := by decide +kernel
theorem dJ7_fill_53178_10 : decode cJ7_fill_53178 10 = .ok (.aload_n 0, 1) := by decide +kernel
theorem dJ7_fill_53178_11 : decode cJ7_fill_53178 11 = .ok (.iload_n 2, 1) := by decide +kernel
theorem dJ7_fill_53178_12 : decode cJ7_fill_53178 12 = .ok (.iload_n 1, 1) := by decide +kernel
theorem dJ7_fill_53178_13 : decode cJ7_fill_53178 13 = .ok (.iastore, 1) := by decide +kernel
theorem dJ7_fill_53178_14 : decode cJ7_fill_53178 14 = .ok (.iinc 2 1, 3) := by decide +kernel
theorem dJ7_fill_53178_17 : decode cJ7_fill_53178 17 = .ok (.goto (-12), 3) := by decide +kernel
theorem dJ7_fill_53178_20 : decode cJ7_fill_53178 20 = .ok (.return_, 1) := by decide +kernel
noncomputable def F_J7_fill_53178_5 : Nat → Nat → Int32 → Int32 → Int32 → m_M → Option (Unit × m_M)
  | 0, _, _, _, _, _ => none
  | n + 1, v1, v2, v3, v4, M =>
    if v4 ≤ v3 then (
      some ((), M)
    ) else
    x_sI 12 M v1 v3 v2 fun M1 =>
    m_let (v3 + (1 : Int32)) fun v5 =>
    F_J7_fill_53178_5 n v1 v2 v5 v4 M1
noncomputable def F_J7_fill_53178 (a1 : Nat) (a2 : Int32) (M : m_M) : Option (Unit × m_M) :=
  x_len 12 M a1 fun v1 =>
  F_J7_fill_53178_5 m_FU a1 a2 (0 : Int32) v1 M
set_option maxHeartbeats 4000000 in
theorem L_J7_fill_53178_5 {X : j_X} {Φ : Option Value → m_M → Prop} (C : j_C X yJ7_fill_53178 cJ7_fill_53178 4 none 1 0 0 Φ) : ∀ (n : Nat) (v1 : Nat) (v2 : Int32) (v3 : Int32) (v4 : Int32) (M : m_M), m_ok e_V Φ (F_J7_fill_53178_5 n v1 v2 v3 v4 M) → j_J X 4 5 [some (.ref v1), some (.int v2), some (.int v3), some (.int v4)] [] (0, 0) M := by
  have C0 := C.1
  intro n
  induction n with
  | zero => intro v1 v2 v3 v4 M h; exact False.elim h
  | succ n ih =>
    intro v1 v2 v3 v4 M h
    rw [F_J7_fill_53178_5] at h
    refine j_iload_n C0 (pc := 5) dJ7_fill_53178_5 rfl ?_
    refine j_iload_n C0 (pc := 6) dJ7_fill_53178_6 rfl ?_
    refine j_icmp_ge C0 (pc := 7) (tgt := 20) dJ7_fill_53178_7 (by decide) (fun hc => ?_) (fun hc => ?_)
    · replace h := (X_if h).1 hc
      exact j_vret C rfl h dJ7_fill_53178_20 (by decide)
    · replace h := (X_if h).2 hc
      refine j_aload_n C0 (pc := 10) dJ7_fill_53178_10 rfl ?_
      refine j_iload_n C0 (pc := 11) dJ7_fill_53178_11 rfl ?_
      refine j_iload_n C0 (pc := 12) dJ7_fill_53178_12 rfl ?_
      refine X_iast C0 (pc := 13) dJ7_fill_53178_13 h (fun M1 h => ?_)
      refine j_iinc C0 (pc := 14) dJ7_fill_53178_14 (v := v3 + (1 : Int32)) rfl (Nat.le_of_ble_eq_true rfl) (by rfl) ?_
      refine X_let (G := fun w => j_J X 4 17 [some (.ref v1), some (.int v2), some (.int w), some (.int v4)] [] (0, 0) M1) h (fun v5 h => ?_)
      refine j_goto C0 (pc := 17) (tgt := 5) dJ7_fill_53178_17 (by decide) ?_
      exact j_J.wq (ih v1 v2 v5 v4 M1 h) (And.intro rfl (And.intro rfl (And.intro rfl (And.intro rfl (trivial)))))
set_option maxHeartbeats 4000000 in
theorem K_J7_fill_53178 (a1 : Nat) (a2 : Int32) (M : m_M) (Φ : Option Value → m_M → Prop) (h : m_ok e_V Φ (F_J7_fill_53178 a1 a2 M)) : j_Ct yJ7_fill_53178 cJ7_fill_53178 4 none 1 0 0 [.ref a1, .int a2] M Φ := by
  refine j_Ct.ofF (by decide +kernel) (Nat.le_of_ble_eq_true rfl) fun X C => ?_
  have C0 := C.1
  show j_J X 4 0 [some (.ref a1), some (.int a2), none, none] [] (0, 0) M
  unfold F_J7_fill_53178 at h
  refine j_iconst C0 (pc := 0) dJ7_fill_53178_0 (v := (0 : Int32)) (by decide) ?_
  refine j_istore_n C0 (pc := 1) dJ7_fill_53178_1 (Nat.le_of_ble_eq_true rfl) ?_
  show j_J X 4 2 [some (.ref a1), some (.int a2), some (.int (0 : Int32)), none] [] (0, 0) M
  refine j_aload_n C0 (pc := 2) dJ7_fill_53178_2 rfl ?_
  refine X_alen C0 (pc := 3) (by decide) dJ7_fill_53178_3 h (fun v1 h => ?_)
  refine j_istore_n C0 (pc := 4) dJ7_fill_53178_4 (Nat.le_of_ble_eq_true rfl) ?_
  show j_J X 4 5 [some (.ref a1), some (.int a2), some (.int (0 : Int32)), some (.int v1)] [] (0, 0) M
  exact j_J.wq (L_J7_fill_53178_5 C m_FU a1 a2 (0 : Int32) v1 M h) (And.intro rfl (And.intro rfl (And.intro rfl (And.intro rfl (trivial)))))
theorem dJ7_copyOf_59c91_0 : decode cJ7_copyOf_59c91 0 = .ok (.iload_n 1, 1) := by decide +kernel
theorem dJ7_copyOf_59c91_1 : decode cJ7_copyOf_59c91 1 = .ok (.aload_n 0, 1) := by decide +kernel
theorem dJ7_copyOf_59c91_2 : decode cJ7_copyOf_59c91 2 = .ok (.arraylength, 1) := by decide +kernel
theorem dJ7_copyOf_59c91_3 : decode cJ7_copyOf_59c91 3 = .ok (.if_icmp .ne 11, 3) := by decide +kernel
theorem dJ7_copyOf_59c91_6 : decode cJ7_copyOf_59c91 6 = .ok (.aload_n 0, 1) := by decide +kernel
theorem dJ7_copyOf_59c91_7 : decode cJ7_copyOf_59c91 7 = .ok (.invokevirtual 316, 3) := by decide +kernel
theorem dJ7_copyOf_59c91_10 : decode cJ7_copyOf_59c91 10 = .ok (.checkcast 317, 3) := by decide +kernel
theorem dJ7_copyOf_59c91_13 : decode cJ7_copyOf_59c91 13 = .ok (.areturn, 1) := by decide +kernel
theorem dJ7_copyOf_59c91_14 : decode cJ7_copyOf_59c91 14 = .ok (.iload_n 1, 1) := by decide +kernel
theorem dJ7_copyOf_59c91_15 : decode cJ7_copyOf_59c91 15 = .ok (.newarray .int, 2) := by decide +kernel
theorem dJ7_copyOf_59c91_17 : decode cJ7_copyOf_59c91 17 = .ok (.astore_n 2, 1) := by decide +kernel
theorem dJ7_copyOf_59c91_18 : decode cJ7_copyOf_59c91 18 = .ok (.aload_n 0, 1) := by decide +kernel
theorem dJ7_copyOf_59c91_19 : decode cJ7_copyOf_59c91 19 = .ok (.iconst 0, 1) := by decide +kernel
theorem dJ7_copyOf_59c91_20 : decode cJ7_copyOf_59c91 20 = .ok (.aload_n 2, 1) := by decide +kernel
theorem dJ7_copyOf_59c91_21 : decode cJ7_copyOf_59c91 21 = .ok (.iconst 0, 1) := by decide +kernel
theorem dJ7_copyOf_59c91_22 : decode cJ7_copyOf_59c91 22 = .ok (.aload_n 0, 1) := by decide +kernel
theorem dJ7_copyOf_59c91_23 : decode cJ7_copyOf_59c91 23 = .ok (.arraylength, 1) := by decide +kernel
theorem dJ7_copyOf_59c91_24 : decode cJ7_copyOf_59c91 24 = .ok (.iload_n 1, 1) := by decide +kernel
theorem dJ7_copyOf_59c91_25 : decode cJ7_copyOf_59c91 25 = .ok (.invokestatic 304, 3) := by decide +kernel
theorem dJ7_copyOf_59c91_28 : decode cJ7_copyOf_59c91 28 = .ok (.invokestatic 150, 3) := by decide +kernel
theorem dJ7_copyOf_59c91_31 : decode cJ7_copyOf_59c91 31 = .ok (.aload_n 2, 1) := by decide +kernel
theorem dJ7_copyOf_59c91_32 : decode cJ7_copyOf_59c91 32 = .ok (.areturn, 1) := by decide +kernel
noncomputable def F_J7_copyOf_59c91 (a1 : Nat) (a2 : Int32) (M : m_M) : Option (Nat × m_M) :=
  x_len 12 M a1 fun v1 =>
  if a2 = v1 then (
    none
  ) else
  x_newA 12 1000 M a2 fun v2 M1 =>
  x_len 12 M1 a1 fun v3 =>
  x_bd (F_J9_min_7cf53 v3 a2 M1) fun v4 M2 =>
  x_cpI M2 a1 (0 : Int32) v2 (0 : Int32) v4 fun M3 =>
  some (v2, M3)
set_option maxHeartbeats 4000000 in
theorem K_J7_copyOf_59c91 (a1 : Nat) (a2 : Int32) (M : m_M) (Φ : Option Value → m_M → Prop) (h : m_ok e_N Φ (F_J7_copyOf_59c91 a1 a2 M)) : j_Ct yJ7_copyOf_59c91 cJ7_copyOf_59c91 3 (some (.array .int)) 2 1 1000 [.ref a1, .int a2] M Φ := by
  refine j_Ct.ofF (by decide +kernel) (Nat.le_of_ble_eq_true rfl) fun X C => ?_
  have C0 := C.1
  show j_J X 3 0 [some (.ref a1), some (.int a2), none] [] (0, 0) M
  unfold F_J7_copyOf_59c91 at h
  refine j_iload_n C0 (pc := 0) dJ7_copyOf_59c91_0 rfl ?_
  refine j_aload_n C0 (pc := 1) dJ7_copyOf_59c91_1 rfl ?_
  refine X_alen C0 (pc := 2) (by decide) dJ7_copyOf_59c91_2 h (fun v1 h => ?_)
  refine j_icmp_ne C0 (pc := 3) (tgt := 14) dJ7_copyOf_59c91_3 (by decide) (fun hc => ?_) (fun hc => ?_)
  · replace h := (X_if h).2 hc
    refine j_iload_n C0 (pc := 14) dJ7_copyOf_59c91_14 rfl ?_
    refine X_newI C0 (pc := 15) (cap := 1000) (g' := (1, 1000)) (j_c1 172 (by decide +kernel)) (by decide) (by decide) rfl dJ7_copyOf_59c91_15 h (fun v2 M1 h => ?_)
    refine j_astore_n C0 (pc := 17) dJ7_copyOf_59c91_17 (Nat.le_of_ble_eq_true rfl) ?_
    show j_J X 3 18 [some (.ref a1), some (.int a2), some (.ref v2)] [] (1, 1000) M1
    refine j_aload_n C0 (pc := 18) dJ7_copyOf_59c91_18 rfl ?_
    refine j_iconst C0 (pc := 19) dJ7_copyOf_59c91_19 (v := (0 : Int32)) (by decide) ?_
    refine j_aload_n C0 (pc := 20) dJ7_copyOf_59c91_20 rfl ?_
    refine j_iconst C0 (pc := 21) dJ7_copyOf_59c91_21 (v := (0 : Int32)) (by decide) ?_
    refine j_aload_n C0 (pc := 22) dJ7_copyOf_59c91_22 rfl ?_
    refine X_alen C0 (pc := 23) (by decide) dJ7_copyOf_59c91_23 h (fun v3 h => ?_)
    refine j_iload_n C0 (pc := 24) dJ7_copyOf_59c91_24 rfl ?_
    refine X_cS C0 (pc := 25) (e' := e_I) (as := [.int v3, .int a2]) (rest := [.int (0 : Int32), .ref v2, .int (0 : Int32), .ref a1]) (s' := fun w => .int w :: [.int (0 : Int32), .ref v2, .int (0 : Int32), .ref a1]) (g' := (1, 1000)) sj_RJ7_304 (fun Ψ hΨ => K_J9_min_7cf53 v3 a2 M1 Ψ hΨ) rfl rfl (fun _ => rfl) (by decide) (by decide) rfl (Nat.le_of_ble_eq_true rfl) dJ7_copyOf_59c91_25 h (fun v4 M2 h => ?_)
    refine X_copyI C0 (pc := 28) ⟨j_c4 175 (by decide +kernel), j_c4 67 (by decide +kernel), j_c4 66 (by decide +kernel), j_c1 21 (by decide +kernel)⟩ (by decide) (Nat.le_of_ble_eq_true rfl) dJ7_copyOf_59c91_28 h (fun M3 h => ?_)
    refine j_aload_n C0 (pc := 31) dJ7_copyOf_59c91_31 rfl ?_
    exact j_aret C rfl (Or.inr ⟨_, rfl⟩) h dJ7_copyOf_59c91_32 (by decide)
  · replace h := (X_if h).1 hc
    exact False.elim h
theorem dX0_init_0 : decode cX0_init 0 = .ok (.aload_n 0, 1) := by decide +kernel
theorem dX0_init_1 : decode cX0_init 1 = .ok (.invokespecial 3, 3) := by decide +kernel
theorem dX0_init_4 : decode cX0_init 4 = .ok (.aload_n 0, 1) := by decide +kernel
theorem dX0_init_5 : decode cX0_init 5 = .ok (.sipush 512, 3) := by decide +kernel
theorem dX0_init_8 : decode cX0_init 8 = .ok (.newarray .int, 2) := by decide +kernel
theorem dX0_init_10 : decode cX0_init 10 = .ok (.putfield 11, 3) := by decide +kernel
theorem dX0_init_13 : decode cX0_init 13 = .ok (.aload_n 0, 1) := by decide +kernel
theorem dX0_init_14 : decode cX0_init 14 = .ok (.bipush 6, 2) := by decide +kernel
theorem dX0_init_16 : decode cX0_init 16 = .ok (.newarray .int, 2) := by decide +kernel
theorem dX0_init_18 : decode cX0_init 18 = .ok (.putfield 15, 3) := by decide +kernel
theorem dX0_init_21 : decode cX0_init 21 = .ok (.aload_n 0, 1) := by decide +kernel
theorem dX0_init_22 : decode cX0_init 22 = .ok (.aload_n 1, 1) := by decide +kernel
theorem dX0_init_23 : decode cX0_init 23 = .ok (.putfield 18, 3) := by decide +kernel
theorem dX0_init_26 : decode cX0_init 26 = .ok (.return_, 1) := by decide +kernel
noncomputable def F_X0_init (a0 : Nat) (a1 : Nat) (M : m_M) : Option (Unit × m_M) :=
  x_newA 12 512 M (512 : Int32) fun v1 M1 =>
  x_pR 0 M1 a0 1 (some v1) fun M2 =>
  x_newA 12 6 M2 (6 : Int32) fun v2 M3 =>
  x_pR 0 M3 a0 2 (some v2) fun M4 =>
  x_pR 0 M4 a0 0 (some a1) fun M5 =>
  some ((), M5)
set_option maxHeartbeats 4000000 in
theorem K_X0_init (a0 : Nat) (a1 : Nat) (M : m_M) (Φ : Option Value → m_M → Prop) (h : m_ok e_V Φ (F_X0_init a0 a1 M)) : j_Ct yX0_init cX0_init 2 none 1 2 518 [.ref a0, .ref a1] M Φ := by
  refine j_Ct.of (by decide +kernel) (Nat.le_of_ble_eq_true rfl) fun X C => ?_
  have C0 := C.1
  show j_J X 2 0 [some (.ref a0), some (.ref a1)] [] (0, 0) M
  unfold F_X0_init at h
  refine j_aload_n C0 (pc := 0) dX0_init_0 rfl ?_
  refine j_objInit C0 (pc := 1) (j_c2 104 (by decide +kernel)) (j_c1 35 (by decide +kernel)) (j_c1 36 (by decide +kernel)) (by decide) (Nat.le_of_ble_eq_true rfl) dX0_init_1 ?_
  refine j_aload_n C0 (pc := 4) dX0_init_4 rfl ?_
  refine j_sipush C0 (pc := 5) dX0_init_5 (v := (512 : Int32)) (by decide) ?_
  refine X_newI C0 (pc := 8) (cap := 512) (g' := (1, 512)) (j_c1 172 (by decide +kernel)) (by decide) (by decide) rfl dX0_init_8 h (fun v1 M1 h => ?_)
  refine X_pNF C0 (pc := 10) f_Bell_11_0 rfl ⟨_, rfl, rfl⟩ (Or.inr ⟨_, rfl⟩) rfl dX0_init_10 h (fun M2 h => ?_)
  refine j_aload_n C0 (pc := 13) dX0_init_13 rfl ?_
  refine j_bipush C0 (pc := 14) dX0_init_14 (v := (6 : Int32)) (by decide) ?_
  refine X_newI C0 (pc := 16) (cap := 6) (g' := (2, 518)) (j_c1 172 (by decide +kernel)) (by decide) (by decide) rfl dX0_init_16 h (fun v2 M3 h => ?_)
  refine X_pNF C0 (pc := 18) f_Bell_15_0 rfl ⟨_, rfl, rfl⟩ (Or.inr ⟨_, rfl⟩) rfl dX0_init_18 h (fun M4 h => ?_)
  refine j_aload_n C0 (pc := 21) dX0_init_21 rfl ?_
  refine j_aload_n C0 (pc := 22) dX0_init_22 rfl ?_
  refine X_pNF C0 (pc := 23) f_Bell_18_0 rfl ⟨_, rfl, rfl⟩ (Or.inl ⟨_, rfl⟩) rfl dX0_init_23 h (fun M5 h => ?_)
  exact j_vret C rfl h dX0_init_26 (by decide)
theorem dX10_init_0 : decode cX10_init 0 = .ok (.aload_n 0, 1) := by decide +kernel
theorem dX10_init_1 : decode cX10_init 1 = .ok (.invokespecial 3, 3) := by decide +kernel
theorem dX10_init_4 : decode cX10_init 4 = .ok (.aload_n 0, 1) := by decide +kernel
theorem dX10_init_5 : decode cX10_init 5 = .ok (.bipush 16, 2) := by decide +kernel
theorem dX10_init_7 : decode cX10_init 7 = .ok (.newarray .long, 2) := by decide +kernel
theorem dX10_init_9 : decode cX10_init 9 = .ok (.putfield 9, 3) := by decide +kernel
theorem dX10_init_12 : decode cX10_init 12 = .ok (.return_, 1) := by decide +kernel
noncomputable def F_X10_init (a0 : Nat) (M : m_M) : Option (Unit × m_M) :=
  x_newA 13 16 M (16 : Int32) fun v1 M1 =>
  x_pR 8 M1 a0 0 (some v1) fun M2 =>
  some ((), M2)
set_option maxHeartbeats 4000000 in
theorem K_X10_init (a0 : Nat) (M : m_M) (Φ : Option Value → m_M → Prop) (h : m_ok e_V Φ (F_X10_init a0 M)) : j_Ct yX10_init cX10_init 1 none 1 1 16 [.ref a0] M Φ := by
  refine j_Ct.of (by decide +kernel) (Nat.le_of_ble_eq_true rfl) fun X C => ?_
  have C0 := C.1
  show j_J X 1 0 [some (.ref a0)] [] (0, 0) M
  unfold F_X10_init at h
  refine j_aload_n C0 (pc := 0) dX10_init_0 rfl ?_
  refine j_objInit C0 (pc := 1) (j_c2 34 (by decide +kernel)) (j_c1 35 (by decide +kernel)) (j_c1 36 (by decide +kernel)) (by decide) (Nat.le_of_ble_eq_true rfl) dX10_init_1 ?_
  refine j_aload_n C0 (pc := 4) dX10_init_4 rfl ?_
  refine j_bipush C0 (pc := 5) dX10_init_5 (v := (16 : Int32)) (by decide) ?_
  refine X_newJ C0 (pc := 7) (cap := 16) (g' := (1, 16)) (j_c1 173 (by decide +kernel)) (by decide) (by decide) rfl dX10_init_7 h (fun v1 M1 h => ?_)
  refine X_pNF C0 (pc := 9) f_WS_9_8 rfl ⟨_, rfl, rfl⟩ (Or.inr ⟨_, rfl⟩) rfl dX10_init_9 h (fun M2 h => ?_)
  exact j_vret C rfl h dX10_init_12 (by decide)
theorem dX11_takeTape_0 : decode cX11_takeTape 0 = .ok (.aload_n 0, 1) := by decide +kernel
theorem dX11_takeTape_1 : decode cX11_takeTape 1 = .ok (.getfield 94, 3) := by decide +kernel
theorem dX11_takeTape_4 : decode cX11_takeTape 4 = .ok (.istore_n 1, 1) := by decide +kernel
theorem dX11_takeTape_5 : decode cX11_takeTape 5 = .ok (.aload_n 0, 1) := by decide +kernel
theorem dX11_takeTape_6 : decode cX11_takeTape 6 = .ok (.iconst 0, 1) := by decide +kernel
theorem dX11_takeTape_7 : decode cX11_takeTape 7 = .ok (.putfield 94, 3) := by decide +kernel
theorem dX11_takeTape_10 : decode cX11_takeTape 10 = .ok (.iload_n 1, 1) := by decide +kernel
theorem dX11_takeTape_11 : decode cX11_takeTape 11 = .ok (.ireturn, 1) := by decide +kernel
noncomputable def F_X11_takeTape (a0 : Nat) (M : m_M) : Option (Int32 × m_M) :=
  x_gI 9 M a0 1 fun v1 =>
  x_pI 9 M a0 1 (0 : Int32) fun M1 =>
  some (v1, M1)
set_option maxHeartbeats 4000000 in
theorem K_X11_takeTape (a0 : Nat) (M : m_M) (Φ : Option Value → m_M → Prop) (h : m_ok e_I Φ (F_X11_takeTape a0 M)) : j_Ct yX11_takeTape cX11_takeTape 2 (some .int) 1 0 0 [.ref a0] M Φ := by
  refine j_Ct.of (by decide +kernel) (Nat.le_of_ble_eq_true rfl) fun X C => ?_
  have C0 := C.1
  show j_J X 2 0 [some (.ref a0), none] [] (0, 0) M
  unfold F_X11_takeTape at h
  refine j_aload_n C0 (pc := 0) dX11_takeTape_0 rfl ?_
  refine X_gI C0 (pc := 1) f_OV_94_9 rfl dX11_takeTape_1 h (fun v1 h => ?_)
  refine j_istore_n C0 (pc := 4) dX11_takeTape_4 (Nat.le_of_ble_eq_true rfl) ?_
  show j_J X 2 5 [some (.ref a0), some (.int v1)] [] (0, 0) M
  refine j_aload_n C0 (pc := 5) dX11_takeTape_5 rfl ?_
  refine j_iconst C0 (pc := 6) dX11_takeTape_6 (v := (0 : Int32)) (by decide) ?_
  refine X_pI C0 (pc := 7) f_OV_94_9 rfl rfl dX11_takeTape_7 h (fun M1 h => ?_)
  refine j_iload_n C0 (pc := 10) dX11_takeTape_10 rfl ?_
  exact j_iret C rfl h dX11_takeTape_11 (by decide)
theorem dX8_skipBlanks_0 : decode cX8_skipBlanks 0 = .ok (.aload_n 0, 1) := by decide +kernel
theorem dX8_skipBlanks_1 : decode cX8_skipBlanks 1 = .ok (.getfield 25, 3) := by decide +kernel
theorem dX8_skipBlanks_4 : decode cX8_skipBlanks 4 = .ok (.aload_n 0, 1) := by decide +kernel
theorem dX8_skipBlanks_5 : decode cX8_skipBlanks 5 = .ok (.getfield 21, 3) := by decide +kernel
theorem dX8_skipBlanks_8 : decode cX8_skipBlanks 8 = .ok (.if_icmp .ge 44, 3) := by decide +kernel
theorem dX8_skipBlanks_11 : decode cX8_skipBlanks 11 = .ok (.aload_n 0, 1) := by decide +kernel
theorem dX8_skipBlanks_12 : decode cX8_skipBlanks 12 = .ok (.getfield 9, 3) := by decide +kernel
theorem dX8_skipBlanks_15 : decode cX8_skipBlanks 15 = .ok (.aload_n 0, 1) := by decide +kernel
theorem dX8_skipBlanks_16 : decode cX8_skipBlanks 16 = .ok (.getfield 25, 3) := by decide +kernel
theorem dX8_skipBlanks_19 : decode cX8_skipBlanks 19 = .ok (.caload, 1) := by decide +kernel
theorem dX8_skipBlanks_20 : decode cX8_skipBlanks 20 = .ok (.bipush 10, 2) := by decide +kernel
theorem dX8_skipBlanks_22 : decode cX8_skipBlanks 22 = .ok (.if_icmp .eq 17, 3) := by decide +kernel
theorem dX8_skipBlanks_25 : decode cX8_skipBlanks 25 = .ok (.aload_n 0, 1) := by decide +kernel
theorem dX8_skipBlanks_26 : decode cX8_skipBlanks 26 = .ok (.getfield 9, 3) := by decide +kernel
theorem dX8_skipBlanks_29 : decode cX8_skipBlanks 29 = .ok (.aload_n 0, 1) := by decide +kernel
theorem dX8_skipBlanks_30 : decode cX8_skipBlanks 30 = .ok (.getfield 25, 3) := by decide +kernel
theorem dX8_skipBlanks_33 : decode cX8_skipBlanks 33 = .ok (.caload, 1) := by decide +kernel
theorem dX8_skipBlanks_34 : decode cX8_skipBlanks 34 = .ok (.bipush 32, 2) := by decide +kernel
theorem dX8_skipBlanks_36 : decode cX8_skipBlanks 36 = .ok (.if_icmp .ne 16, 3) := by decide +kernel
theorem dX8_skipBlanks_39 : decode cX8_skipBlanks 39 = .ok (.aload_n 0, 1) := by decide +kernel
theorem dX8_skipBlanks_40 : decode cX8_skipBlanks 40 = .ok (.dup, 1) := by decide +kernel
theorem dX8_skipBlanks_41 : decode cX8_skipBlanks 41 = .ok (.getfield 25, 3) := by decide +kernel
theorem dX8_skipBlanks_44 : decode cX8_skipBlanks 44 = .ok (.iconst 1, 1) := by decide +kernel
theorem dX8_skipBlanks_45 : decode cX8_skipBlanks 45 = .ok (.iadd, 1) := by decide +kernel
theorem dX8_skipBlanks_46 : decode cX8_skipBlanks 46 = .ok (.putfield 25, 3) := by decide +kernel
theorem dX8_skipBlanks_49 : decode cX8_skipBlanks 49 = .ok (.goto (-49), 3) := by decide +kernel
theorem dX8_skipBlanks_52 : decode cX8_skipBlanks 52 = .ok (.return_, 1) := by decide +kernel
noncomputable def F_X8_skipBlanks_0 (kd : Nat) : Nat → Nat → m_M → Option (Unit × m_M)
  | 0, _, _ => none
  | n + 1, v1, M =>
    x_gI kd M v1 3 fun v2 =>
    x_gI kd M v1 1 fun v3 =>
    if v3 ≤ v2 then (
      some ((), M)
    ) else
    m_let (fun (v4 : Nat) (M1 : m_M) =>
      x_gI kd M1 v4 3 fun v5 =>
      x_pI kd M1 v4 3 (v5 + (1 : Int32)) fun M2 =>
      F_X8_skipBlanks_0 kd n v4 M2
    ) fun (k39 : Nat → m_M → Option (Unit × m_M)) =>
    x_gN kd M v1 0 fun v6 =>
    x_gI kd M v1 3 fun v7 =>
    x_aI 11 M v6 v7 fun v8 =>
    if v8 = (10 : Int32) then (
      k39 v1 M
    ) else
    x_gN kd M v1 0 fun v9 =>
    x_gI kd M v1 3 fun v10 =>
    x_aI 11 M v9 v10 fun v11 =>
    if v11 = (32 : Int32) then (
      k39 v1 M
    ) else
    some ((), M)
noncomputable def F_X8_skipBlanks (kd : Nat) (a0 : Nat) (M : m_M) : Option (Unit × m_M) :=
  F_X8_skipBlanks_0 kd m_FU a0 M
set_option maxHeartbeats 4000000 in
theorem L_X8_skipBlanks_0_4 {X : j_X} {Φ : Option Value → m_M → Prop} (C : j_C X yX8_skipBlanks cX8_skipBlanks 1 none 1 0 0 Φ) : ∀ (n : Nat) (v1 : Nat) (M : m_M), m_ok e_V Φ (F_X8_skipBlanks_0 4 n v1 M) → j_J X 1 0 [some (.ref v1)] [] (0, 0) M := by
  have C0 := C.1
  intro n
  induction n with
  | zero => intro v1 M h; exact False.elim h
  | succ n ih =>
    intro v1 M h
    rw [F_X8_skipBlanks_0] at h
    refine j_aload_n C0 (pc := 0) dX8_skipBlanks_0 rfl ?_
    refine X_gI C0 (pc := 1) f_Tok_25_4 rfl dX8_skipBlanks_1 h (fun v2 h => ?_)
    refine j_aload_n C0 (pc := 4) dX8_skipBlanks_4 rfl ?_
    refine X_gI C0 (pc := 5) f_Tok_21_4 rfl dX8_skipBlanks_5 h (fun v3 h => ?_)
    refine j_icmp_ge C0 (pc := 8) (tgt := 52) dX8_skipBlanks_8 (by decide) (fun hc => ?_) (fun hc => ?_)
    · replace h := (X_if h).1 hc
      exact j_vret C rfl h dX8_skipBlanks_52 (by decide)
    · replace h := (X_if h).2 hc
      refine X_join (fun (kj : Nat → m_M → Option (Unit × m_M)) => ∀ (p0 : Nat) (M : m_M), m_ok e_V Φ (kj p0 M) → j_J X 1 39 [some (.ref p0)] [] (0, 0) M) h (fun v4 M1 h => ?_) (fun k39 hk39 h => ?_)
      · refine j_aload_n C0 (pc := 39) dX8_skipBlanks_39 rfl ?_
        refine j_dup C0 (pc := 40) dX8_skipBlanks_40 rfl ?_
        refine X_gI C0 (pc := 41) f_Tok_25_4 rfl dX8_skipBlanks_41 h (fun v5 h => ?_)
        refine j_iconst C0 (pc := 44) dX8_skipBlanks_44 (v := (1 : Int32)) (by decide) ?_
        refine j_iadd C0 (pc := 45) dX8_skipBlanks_45 ?_
        refine X_pI C0 (pc := 46) f_Tok_25_4 rfl rfl dX8_skipBlanks_46 h (fun M2 h => ?_)
        refine j_goto C0 (pc := 49) (tgt := 0) dX8_skipBlanks_49 (by decide) ?_
        exact j_J.wq (ih v4 M2 h) (And.intro rfl (trivial))
      · refine j_aload_n C0 (pc := 11) dX8_skipBlanks_11 rfl ?_
        refine X_gN C0 (pc := 12) f_Tok_9_4 rfl dX8_skipBlanks_12 h (fun v6 h => ?_)
        refine j_aload_n C0 (pc := 15) dX8_skipBlanks_15 rfl ?_
        refine X_gI C0 (pc := 16) f_Tok_25_4 rfl dX8_skipBlanks_16 h (fun v7 h => ?_)
        refine X_cald C0 (pc := 19) dX8_skipBlanks_19 h (fun v8 h => ?_)
        refine j_bipush C0 (pc := 20) dX8_skipBlanks_20 (v := (10 : Int32)) (by decide) ?_
        refine j_icmp_eq C0 (pc := 22) (tgt := 39) dX8_skipBlanks_22 (by decide) (fun hc => ?_) (fun hc => ?_)
        · replace h := (X_if h).1 hc
          exact j_J.wq (hk39 v1 M h) (And.intro rfl (trivial))
        · replace h := (X_if h).2 hc
          refine j_aload_n C0 (pc := 25) dX8_skipBlanks_25 rfl ?_
          refine X_gN C0 (pc := 26) f_Tok_9_4 rfl dX8_skipBlanks_26 h (fun v9 h => ?_)
          refine j_aload_n C0 (pc := 29) dX8_skipBlanks_29 rfl ?_
          refine X_gI C0 (pc := 30) f_Tok_25_4 rfl dX8_skipBlanks_30 h (fun v10 h => ?_)
          refine X_cald C0 (pc := 33) dX8_skipBlanks_33 h (fun v11 h => ?_)
          refine j_bipush C0 (pc := 34) dX8_skipBlanks_34 (v := (32 : Int32)) (by decide) ?_
          refine j_icmp_ne C0 (pc := 36) (tgt := 52) dX8_skipBlanks_36 (by decide) (fun hc => ?_) (fun hc => ?_)
          · replace h := (X_if h).2 hc
            exact j_vret C rfl h dX8_skipBlanks_52 (by decide)
          · replace h := (X_if h).1 hc
            exact j_J.wq (hk39 v1 M h) (And.intro rfl (trivial))
set_option maxHeartbeats 4000000 in
theorem K_X8_skipBlanks_4 (a0 : Nat) (M : m_M) (Φ : Option Value → m_M → Prop) (h : m_ok e_V Φ (F_X8_skipBlanks 4 a0 M)) : j_Ct yX8_skipBlanks cX8_skipBlanks 1 none 1 0 0 [.ref a0] M Φ := by
  refine j_Ct.of (by decide +kernel) (Nat.le_of_ble_eq_true rfl) fun X C => ?_
  have C0 := C.1
  show j_J X 1 0 [some (.ref a0)] [] (0, 0) M
  unfold F_X8_skipBlanks at h
  exact j_J.wq (L_X8_skipBlanks_0_4 C m_FU a0 M h) (And.intro rfl (trivial))
set_option maxHeartbeats 4000000 in
theorem L_X8_skipBlanks_0_7 {X : j_X} {Φ : Option Value → m_M → Prop} (C : j_C X yX8_skipBlanks cX8_skipBlanks 1 none 1 0 0 Φ) : ∀ (n : Nat) (v1 : Nat) (M : m_M), m_ok e_V Φ (F_X8_skipBlanks_0 7 n v1 M) → j_J X 1 0 [some (.ref v1)] [] (0, 0) M := by
  have C0 := C.1
  intro n
  induction n with
  | zero => intro v1 M h; exact False.elim h
  | succ n ih =>
    intro v1 M h
    rw [F_X8_skipBlanks_0] at h
    refine j_aload_n C0 (pc := 0) dX8_skipBlanks_0 rfl ?_
    refine X_gI C0 (pc := 1) f_Tok_25_7 rfl dX8_skipBlanks_1 h (fun v2 h => ?_)
    refine j_aload_n C0 (pc := 4) dX8_skipBlanks_4 rfl ?_
    refine X_gI C0 (pc := 5) f_Tok_21_7 rfl dX8_skipBlanks_5 h (fun v3 h => ?_)
    refine j_icmp_ge C0 (pc := 8) (tgt := 52) dX8_skipBlanks_8 (by decide) (fun hc => ?_) (fun hc => ?_)
    · replace h := (X_if h).1 hc
      exact j_vret C rfl h dX8_skipBlanks_52 (by decide)
    · replace h := (X_if h).2 hc
      refine X_join (fun (kj : Nat → m_M → Option (Unit × m_M)) => ∀ (p0 : Nat) (M : m_M), m_ok e_V Φ (kj p0 M) → j_J X 1 39 [some (.ref p0)] [] (0, 0) M) h (fun v4 M1 h => ?_) (fun k39 hk39 h => ?_)
      · refine j_aload_n C0 (pc := 39) dX8_skipBlanks_39 rfl ?_
        refine j_dup C0 (pc := 40) dX8_skipBlanks_40 rfl ?_
        refine X_gI C0 (pc := 41) f_Tok_25_7 rfl dX8_skipBlanks_41 h (fun v5 h => ?_)
        refine j_iconst C0 (pc := 44) dX8_skipBlanks_44 (v := (1 : Int32)) (by decide) ?_
        refine j_iadd C0 (pc := 45) dX8_skipBlanks_45 ?_
        refine X_pI C0 (pc := 46) f_Tok_25_7 rfl rfl dX8_skipBlanks_46 h (fun M2 h => ?_)
        refine j_goto C0 (pc := 49) (tgt := 0) dX8_skipBlanks_49 (by decide) ?_
        exact j_J.wq (ih v4 M2 h) (And.intro rfl (trivial))
      · refine j_aload_n C0 (pc := 11) dX8_skipBlanks_11 rfl ?_
        refine X_gN C0 (pc := 12) f_Tok_9_7 rfl dX8_skipBlanks_12 h (fun v6 h => ?_)
        refine j_aload_n C0 (pc := 15) dX8_skipBlanks_15 rfl ?_
        refine X_gI C0 (pc := 16) f_Tok_25_7 rfl dX8_skipBlanks_16 h (fun v7 h => ?_)
        refine X_cald C0 (pc := 19) dX8_skipBlanks_19 h (fun v8 h => ?_)
        refine j_bipush C0 (pc := 20) dX8_skipBlanks_20 (v := (10 : Int32)) (by decide) ?_
        refine j_icmp_eq C0 (pc := 22) (tgt := 39) dX8_skipBlanks_22 (by decide) (fun hc => ?_) (fun hc => ?_)
        · replace h := (X_if h).1 hc
          exact j_J.wq (hk39 v1 M h) (And.intro rfl (trivial))
        · replace h := (X_if h).2 hc
          refine j_aload_n C0 (pc := 25) dX8_skipBlanks_25 rfl ?_
          refine X_gN C0 (pc := 26) f_Tok_9_7 rfl dX8_skipBlanks_26 h (fun v9 h => ?_)
          refine j_aload_n C0 (pc := 29) dX8_skipBlanks_29 rfl ?_
          refine X_gI C0 (pc := 30) f_Tok_25_7 rfl dX8_skipBlanks_30 h (fun v10 h => ?_)
          refine X_cald C0 (pc := 33) dX8_skipBlanks_33 h (fun v11 h => ?_)
          refine j_bipush C0 (pc := 34) dX8_skipBlanks_34 (v := (32 : Int32)) (by decide) ?_
          refine j_icmp_ne C0 (pc := 36) (tgt := 52) dX8_skipBlanks_36 (by decide) (fun hc => ?_) (fun hc => ?_)
          · replace h := (X_if h).2 hc
            exact j_vret C rfl h dX8_skipBlanks_52 (by decide)
          · replace h := (X_if h).1 hc
            exact j_J.wq (hk39 v1 M h) (And.intro rfl (trivial))
set_option maxHeartbeats 4000000 in
theorem K_X8_skipBlanks_7 (a0 : Nat) (M : m_M) (Φ : Option Value → m_M → Prop) (h : m_ok e_V Φ (F_X8_skipBlanks 7 a0 M)) : j_Ct yX8_skipBlanks cX8_skipBlanks 1 none 1 0 0 [.ref a0] M Φ := by
  refine j_Ct.of (by decide +kernel) (Nat.le_of_ble_eq_true rfl) fun X C => ?_
  have C0 := C.1
  show j_J X 1 0 [some (.ref a0)] [] (0, 0) M
  unfold F_X8_skipBlanks at h
  exact j_J.wq (L_X8_skipBlanks_0_7 C m_FU a0 M h) (And.intro rfl (trivial))
theorem dX8_isLetter_0 : decode cX8_isLetter 0 = .ok (.iload_n 0, 1) := by decide +kernel
theorem dX8_isLetter_1 : decode cX8_isLetter 1 = .ok (.bipush 97, 2) := by decide +kernel
theorem dX8_isLetter_3 : decode cX8_isLetter 3 = .ok (.if_icmp .lt 13, 3) := by decide +kernel
theorem dX8_isLetter_6 : decode cX8_isLetter 6 = .ok (.iload_n 0, 1) := by decide +kernel
theorem dX8_isLetter_7 : decode cX8_isLetter 7 = .ok (.bipush 122, 2) := by decide +kernel
theorem dX8_isLetter_9 : decode cX8_isLetter 9 = .ok (.if_icmp .gt 7, 3) := by decide +kernel
theorem dX8_isLetter_12 : decode cX8_isLetter 12 = .ok (.iconst 1, 1) := by decide +kernel
theorem dX8_isLetter_13 : decode cX8_isLetter 13 = .ok (.goto 4, 3) := by decide +kernel
theorem dX8_isLetter_16 : decode cX8_isLetter 16 = .ok (.iconst 0, 1) := by decide +kernel
theorem dX8_isLetter_17 : decode cX8_isLetter 17 = .ok (.ireturn, 1) := by decide +kernel
noncomputable def F_X8_isLetter (a1 : Int32) (M : m_M) : Option (Int32 × m_M) :=
  m_let (fun  (M1 : m_M) =>
    some ((0 : Int32), M1)
  ) fun (k16 : m_M → Option (Int32 × m_M)) =>
  if a1 < (97 : Int32) then (
    k16 M
  ) else
  if (122 : Int32) < a1 then (
    k16 M
  ) else
  some ((1 : Int32), M)
set_option maxHeartbeats 4000000 in
theorem K_X8_isLetter (a1 : Int32) (M : m_M) (Φ : Option Value → m_M → Prop) (h : m_ok e_I Φ (F_X8_isLetter a1 M)) : j_Ct yX8_isLetter cX8_isLetter 1 (some .boolean) 1 0 0 [.int a1] M Φ := by
  refine j_Ct.of (by decide +kernel) (Nat.le_of_ble_eq_true rfl) fun X C => ?_
  have C0 := C.1
  show j_J X 1 0 [some (.int a1)] [] (0, 0) M
  unfold F_X8_isLetter at h
  refine X_join (fun (kj : m_M → Option (Int32 × m_M)) => ∀  (M : m_M), m_ok e_I Φ (kj M) → j_J X 1 16 [none] [] (0, 0) M) h (fun M1 h => ?_) (fun k16 hk16 h => ?_)
  · refine j_iconst C0 (pc := 16) dX8_isLetter_16 (v := (0 : Int32)) (by decide) ?_
    exact j_zret C rfl (by decide) h dX8_isLetter_17 (by decide)
  · refine j_iload_n C0 (pc := 0) dX8_isLetter_0 rfl ?_
    refine j_bipush C0 (pc := 1) dX8_isLetter_1 (v := (97 : Int32)) (by decide) ?_
    refine j_icmp_lt C0 (pc := 3) (tgt := 16) dX8_isLetter_3 (by decide) (fun hc => ?_) (fun hc => ?_)
    · replace h := (X_if h).1 hc
      exact j_J.wq (hk16 M h) (trivial)
    · replace h := (X_if h).2 hc
      refine j_iload_n C0 (pc := 6) dX8_isLetter_6 rfl ?_
      refine j_bipush C0 (pc := 7) dX8_isLetter_7 (v := (122 : Int32)) (by decide) ?_
      refine j_icmp_gt C0 (pc := 9) (tgt := 16) dX8_isLetter_9 (by decide) (fun hc => ?_) (fun hc => ?_)
      · replace h := (X_if h).1 hc
        exact j_J.wq (hk16 M h) (trivial)
      · replace h := (X_if h).2 hc
        refine j_iconst C0 (pc := 12) dX8_isLetter_12 (v := (1 : Int32)) (by decide) ?_
        refine j_goto C0 (pc := 13) (tgt := 17) dX8_isLetter_13 (by decide) ?_
        exact j_zret C rfl (by decide) h dX8_isLetter_17 (by decide)
theorem dX9_packMore_0 : decode cX9_packMore 0 = .ok (.lload_n 0, 1) := by decide +kernel
theorem dX9_packMore_1 : decode cX9_packMore 1 = .ok (.ldc2_w 104, 3) := by decide +kernel
theorem dX9_packMore_4 : decode cX9_packMore 4 = .ok (.lmul, 1) := by decide +kernel
theorem dX9_packMore_5 : decode cX9_packMore 5 = .ok (.iload_n 2, 1) := by decide +kernel
theorem dX9_packMore_6 : decode cX9_packMore 6 = .ok (.bipush 97, 2) := by decide +kernel
theorem dX9_packMore_8 : decode cX9_packMore 8 = .ok (.isub, 1) := by decide +kernel
theorem dX9_packMore_9 : decode cX9_packMore 9 = .ok (.iconst 1, 1) := by decide +kernel
theorem dX9_packMore_10 : decode cX9_packMore 10 = .ok (.iadd, 1) := by decide +kernel
theorem dX9_packMore_11 : decode cX9_packMore 11 = .ok (.i2l, 1) := by decide +kernel
theorem dX9_packMore_12 : decode cX9_packMore 12 = .ok (.ladd, 1) := by decide +kernel
theorem dX9_packMore_13 : decode cX9_packMore 13 = .ok (.lreturn, 1) := by decide +kernel
noncomputable def F_X9_packMore (a1 : Int64) (a2 : Int32) (M : m_M) : Option (Int64 × m_M) :=
  some ((a1 * (27 : Int64)) + (((a2 - (97 : Int32)) + (1 : Int32)).toInt64), M)
set_option maxHeartbeats 4000000 in
theorem K_X9_packMore (a1 : Int64) (a2 : Int32) (M : m_M) (Φ : Option Value → m_M → Prop) (h : m_ok e_L Φ (F_X9_packMore a1 a2 M)) : j_Ct yX9_packMore cX9_packMore 3 (some .long) 1 0 0 [.long a1, .int a2] M Φ := by
  refine j_Ct.of (by decide +kernel) (Nat.le_of_ble_eq_true rfl) fun X C => ?_
  have C0 := C.1
  show j_J X 3 0 [some (.long a1), none, some (.int a2)] [] (0, 0) M
  unfold F_X9_packMore at h
  refine j_lload_n C0 (pc := 0) dX9_packMore_0 rfl ?_
  refine j_ldc2 C0 (pc := 1) (v := (27 : Int64)) (j_c3 31 (by decide +kernel)) dX9_packMore_1 ?_
  refine j_lmul C0 (pc := 4) dX9_packMore_4 ?_
  refine j_iload_n C0 (pc := 5) dX9_packMore_5 rfl ?_
  refine j_bipush C0 (pc := 6) dX9_packMore_6 (v := (97 : Int32)) (by decide) ?_
  refine j_isub C0 (pc := 8) dX9_packMore_8 ?_
  refine j_iconst C0 (pc := 9) dX9_packMore_9 (v := (1 : Int32)) (by decide) ?_
  refine j_iadd C0 (pc := 10) dX9_packMore_10 ?_
  refine j_i2l C0 (pc := 11) dX9_packMore_11 (v := ((a2 - (97 : Int32)) + (1 : Int32)).toInt64) rfl ?_
  refine j_ladd C0 (pc := 12) dX9_packMore_12 ?_
  exact j_lret C rfl h dX9_packMore_13 (by decide)
theorem dX9_find_0 : decode cX9_find 0 = .ok (.iconst 0, 1) := by decide +kernel
theorem dX9_find_1 : decode cX9_find 1 = .ok (.istore_n 2, 1) := by decide +kernel
theorem dX9_find_2 : decode cX9_find 2 = .ok (.iload_n 2, 1) := by decide +kernel
theorem dX9_find_3 : decode cX9_find 3 = .ok (.getstatic 120, 3) := by decide +kernel
theorem dX9_find_6 : decode cX9_find 6 = .ok (.arraylength, 1) := by decide +kernel
theorem dX9_find_7 : decode cX9_find 7 = .ok (.if_icmp .ge 28, 3) := by decide +kernel
theorem dX9_find_10 : decode cX9_find 10 = .ok (.getstatic 120, 3) := by decide +kernel
theorem dX9_find_13 : decode cX9_find 13 = .ok (.iload_n 2, 1) := by decide +kernel
theorem dX9_find_14 : decode cX9_find 14 = .ok (.aaload, 1) := by decide +kernel
theorem dX9_find_15 : decode cX9_find 15 = .ok (.getfield 89, 3) := by decide +kernel
theorem dX9_find_18 : decode cX9_find 18 = .ok (.lload_n 0, 1) := by decide +kernel
theorem dX9_find_19 : decode cX9_find 19 = .ok (.lcmp, 1) := by decide +kernel
theorem dX9_find_20 : decode cX9_find 20 = .ok (.ifCond .ne 9, 3) := by decide +kernel
theorem dX9_find_23 : decode cX9_find 23 = .ok (.getstatic 120, 3) := by decide +kernel
theorem dX9_find_26 : decode cX9_find 26 = .ok (.iload_n 2, 1) := by decide +kernel
theorem dX9_find_27 : decode cX9_find 27 = .ok (.aaload, 1) := by decide +kernel
theorem dX9_find_28 : decode cX9_find 28 = .ok (.areturn, 1) := by decide +kernel
theorem dX9_find_29 : decode cX9_find 29 = .ok (.iinc 2 1, 3) := by decide +kernel
theorem dX9_find_32 : decode cX9_find 32 = .ok (.goto (-30), 3) := by decide +kernel
theorem dX9_find_35 : decode cX9_find 35 = .ok (.aconst_null, 1) := by decide +kernel
theorem dX9_find_36 : decode cX9_find 36 = .ok (.areturn, 1) := by decide +kernel
noncomputable def F_X9_find_2 : Nat → Int64 → Int32 → m_M → Option (Option Nat × m_M)
  | 0, _, _, _ => none
  | n + 1, v1, v2, M =>
    if (20 : Int32) ≤ v2 then (
      some (none, M)
    ) else
    x_ki 20 v2 fun v3 =>
    x_k (1000000 + v3) fun v4 =>
    if (lg_cmp (k_wl.getD v4 0) v1) = 0 then (
      x_ki 20 v2 fun v6 =>
      some ((some (1000000 + v6)), M)
    ) else
    m_let (v2 + (1 : Int32)) fun v5 =>
    F_X9_find_2 n v1 v5 M
noncomputable def F_X9_find (a1 : Int64) (M : m_M) : Option (Option Nat × m_M) :=
  F_X9_find_2 m_FU a1 (0 : Int32) M
set_option maxHeartbeats 4000000 in
theorem L_X9_find_2 {X : j_X} {Φ : Option Value → m_M → Prop} (C : j_C X yX9_find cX9_find 3 (some (.object "OneVerb$Word")) 1 0 0 Φ) : ∀ (n : Nat) (v1 : Int64) (v2 : Int32) (M : m_M), m_ok e_O Φ (F_X9_find_2 n v1 v2 M) → j_J X 3 2 [some (.long v1), none, some (.int v2)] [] (0, 0) M := by
  have C0 := C.1
  intro n
  induction n with
  | zero => intro v1 v2 M h; exact False.elim h
  | succ n ih =>
    intro v1 v2 M h
    rw [F_X9_find_2] at h
    refine j_iload_n C0 (pc := 2) dX9_find_2 rfl ?_
    refine j_kall C0 (pc := 3) (j_c3 35 (by decide +kernel)) dX9_find_3 ?_
    refine j_klen C0 (pc := 6) dX9_find_6 ?_
    refine j_icmp_ge C0 (pc := 7) (tgt := 35) dX9_find_7 (by decide) (fun hc => ?_) (fun hc => ?_)
    · replace h := (X_if h).1 hc
      refine j_null C0 (pc := 35) dX9_find_35 ?_
      exact j_aretN C rfl (Or.inl ⟨_, rfl⟩) h dX9_find_36 (by decide)
    · replace h := (X_if h).2 hc
      refine j_kall C0 (pc := 10) (j_c3 35 (by decide +kernel)) dX9_find_10 ?_
      refine j_iload_n C0 (pc := 13) dX9_find_13 rfl ?_
      refine X_kald C0 (pc := 14) dX9_find_14 h (fun v3 h => ?_)
      refine X_kL C0 (pc := 15) (j_c10 104 (by decide +kernel)) dX9_find_15 h (fun v4 h => ?_)
      refine j_lload_n C0 (pc := 18) dX9_find_18 rfl ?_
      refine j_lcmp C0 (pc := 19) dX9_find_19 ?_
      refine j_if_ne C0 (pc := 20) (tgt := 29) dX9_find_20 (by decide) (fun hc => ?_) (fun hc => ?_)
      · replace h := (X_if h).2 hc
        refine j_iinc C0 (pc := 29) dX9_find_29 (v := v2 + (1 : Int32)) rfl (Nat.le_of_ble_eq_true rfl) (by rfl) ?_
        refine X_let (G := fun w => j_J X 3 32 [some (.long v1), none, some (.int w)] [] (0, 0) M) h (fun v5 h => ?_)
        refine j_goto C0 (pc := 32) (tgt := 2) dX9_find_32 (by decide) ?_
        exact j_J.wq (ih v1 v5 M h) (And.intro rfl (And.intro rfl (trivial)))
      · replace h := (X_if h).1 hc
        refine j_kall C0 (pc := 23) (j_c3 35 (by decide +kernel)) dX9_find_23 ?_
        refine j_iload_n C0 (pc := 26) dX9_find_26 rfl ?_
        refine X_kald C0 (pc := 27) dX9_find_27 h (fun v6 h => ?_)
        exact j_aret C rfl (Or.inl ⟨_, rfl⟩) h dX9_find_28 (by decide)
set_option maxHeartbeats 4000000 in
theorem K_X9_find (a1 : Int64) (M : m_M) (Φ : Option Value → m_M → Prop) (h : m_ok e_O Φ (F_X9_find a1 M)) : j_Ct yX9_find cX9_find 3 (some (.object "OneVerb$Word")) 1 0 0 [.long a1] M Φ := by
  refine j_Ct.of (by decide +kernel) (Nat.le_of_ble_eq_true rfl) fun X C => ?_
  have C0 := C.1
  show j_J X 3 0 [some (.long a1), none, none] [] (0, 0) M
  unfold F_X9_find at h
  refine j_iconst C0 (pc := 0) dX9_find_0 (v := (0 : Int32)) (by decide) ?_
  refine j_istore_n C0 (pc := 1) dX9_find_1 (Nat.le_of_ble_eq_true rfl) ?_
  show j_J X 3 2 [some (.long a1), none, some (.int (0 : Int32))] [] (0, 0) M
  exact j_J.wq (L_X9_find_2 C m_FU a1 (0 : Int32) M h) (And.intro rfl (And.intro rfl (trivial)))
theorem dX8_scanWord_0 : decode cX8_scanWord 0 = .ok (.aload_n 0, 1) := by decide +kernel
theorem dX8_scanWord_1 : decode cX8_scanWord 1 = .ok (.lconst 0, 1) := by decide +kernel
theorem dX8_scanWord_2 : decode cX8_scanWord 2 = .ok (.putfield 67, 3) := by decide +kernel
theorem dX8_scanWord_5 : decode cX8_scanWord 5 = .ok (.aload_n 0, 1) := by decide +kernel
theorem dX8_scanWord_6 : decode cX8_scanWord 6 = .ok (.getfield 25, 3) := by decide +kernel
theorem dX8_scanWord_9 : decode cX8_scanWord 9 = .ok (.aload_n 0, 1) := by decide +kernel
theorem dX8_scanWord_10 : decode cX8_scanWord 10 = .ok (.getfield 21, 3) := by decide +kernel
theorem dX8_scanWord_13 : decode cX8_scanWord 13 = .ok (.if_icmp .ge 51, 3) := by decide +kernel
theorem dX8_scanWord_16 : decode cX8_scanWord 16 = .ok (.aload_n 0, 1) := by decide +kernel
theorem dX8_scanWord_17 : decode cX8_scanWord 17 = .ok (.getfield 9, 3) := by decide +kernel
theorem dX8_scanWord_20 : decode cX8_scanWord 20 = .ok (.aload_n 0, 1) := by decide +kernel
theorem dX8_scanWord_21 : decode cX8_scanWord 21 = .ok (.getfield 25, 3) := by decide +kernel
theorem dX8_scanWord_24 : decode cX8_scanWord 24 = .ok (.caload, 1) := by decide +kernel
theorem dX8_scanWord_25 : decode cX8_scanWord 25 = .ok (.invokestatic 47, 3) := by decide +kernel
theorem dX8_scanWord_28 : decode cX8_scanWord 28 = .ok (.ifCond .eq 36, 3) := by decide +kernel
theorem dX8_scanWord_31 : decode cX8_scanWord 31 = .ok (.aload_n 0, 1) := by decide +kernel
theorem dX8_scanWord_32 : decode cX8_scanWord 32 = .ok (.aload_n 0, 1) := by decide +kernel
theorem dX8_scanWord_33 : decode cX8_scanWord 33 = .ok (.getfield 67, 3) := by decide +kernel
theorem dX8_scanWord_36 : decode cX8_scanWord 36 = .ok (.aload_n 0, 1) := by decide +kernel
theorem dX8_scanWord_37 : decode cX8_scanWord 37 = .ok (.getfield 9, 3) := by decide +kernel
theorem dX8_scanWord_40 : decode cX8_scanWord 40 = .ok (.aload_n 0, 1) := by decide +kernel
theorem dX8_scanWord_41 : decode cX8_scanWord 41 = .ok (.getfield 25, 3) := by decide +kernel
theorem dX8_scanWord_44 : decode cX8_scanWord 44 = .ok (.caload, 1) := by decide +kernel
theorem dX8_scanWord_45 : decode cX8_scanWord 45 = .ok (.invokestatic 71, 3) := by decide +kernel
theorem dX8_scanWord_48 : decode cX8_scanWord 48 = .ok (.putfield 67, 3) := by decide +kernel
theorem dX8_scanWord_51 : decode cX8_scanWord 51 = .ok (.aload_n 0, 1) := by decide +kernel
theorem dX8_scanWord_52 : decode cX8_scanWord 52 = .ok (.dup, 1) := by decide +kernel
theorem dX8_scanWord_53 : decode cX8_scanWord 53 = .ok (.getfield 25, 3) := by decide +kernel
theorem dX8_scanWord_56 : decode cX8_scanWord 56 = .ok (.iconst 1, 1) := by decide +kernel
theorem dX8_scanWord_57 : decode cX8_scanWord 57 = .ok (.iadd, 1) := by decide +kernel
theorem dX8_scanWord_58 : decode cX8_scanWord 58 = .ok (.putfield 25, 3) := by decide +kernel
theorem dX8_scanWord_61 : decode cX8_scanWord 61 = .ok (.goto (-56), 3) := by decide +kernel
theorem dX8_scanWord_64 : decode cX8_scanWord 64 = .ok (.aload_n 0, 1) := by decide +kernel
theorem dX8_scanWord_65 : decode cX8_scanWord 65 = .ok (.aload_n 0, 1) := by decide +kernel
theorem dX8_scanWord_66 : decode cX8_scanWord 66 = .ok (.getfield 25, 3) := by decide +kernel
theorem dX8_scanWord_69 : decode cX8_scanWord 69 = .ok (.aload_n 0, 1) := by decide +kernel
theorem dX8_scanWord_70 : decode cX8_scanWord 70 = .ok (.getfield 37, 3) := by decide +kernel
theorem dX8_scanWord_73 : decode cX8_scanWord 73 = .ok (.isub, 1) := by decide +kernel
theorem dX8_scanWord_74 : decode cX8_scanWord 74 = .ok (.bipush 8, 2) := by decide +kernel
theorem dX8_scanWord_76 : decode cX8_scanWord 76 = .ok (.if_icmp .gt 7, 3) := by decide +kernel
theorem dX8_scanWord_79 : decode cX8_scanWord 79 = .ok (.iconst 2, 1) := by decide +kernel
theorem dX8_scanWord_80 : decode cX8_scanWord 80 = .ok (.goto 4, 3) := by decide +kernel
theorem dX8_scanWord_83 : decode cX8_scanWord 83 = .ok (.iconst 1, 1) := by decide +kernel
theorem dX8_scanWord_84 : decode cX8_scanWord 84 = .ok (.putfield 44, 3) := by decide +kernel
theorem dX8_scanWord_87 : decode cX8_scanWord 87 = .ok (.aload_n 0, 1) := by decide +kernel
theorem dX8_scanWord_88 : decode cX8_scanWord 88 = .ok (.getfield 44, 3) := by decide +kernel
theorem dX8_scanWord_91 : decode cX8_scanWord 91 = .ok (.iconst 2, 1) := by decide +kernel
theorem dX8_scanWord_92 : decode cX8_scanWord 92 = .ok (.if_icmp .ne 14, 3) := by decide +kernel
theorem dX8_scanWord_95 : decode cX8_scanWord 95 = .ok (.aload_n 0, 1) := by decide +kernel
theorem dX8_scanWord_96 : decode cX8_scanWord 96 = .ok (.aload_n 0, 1) := by decide +kernel
theorem dX8_scanWord_97 : decode cX8_scanWord 97 = .ok (.getfield 67, 3) := by decide +kernel
theorem dX8_scanWord_100 : decode cX8_scanWord 100 = .ok (.invokestatic 77, 3) := by decide +kernel
theorem dX8_scanWord_103 : decode cX8_scanWord 103 = .ok (.putfield 40, 3) := by decide +kernel
theorem dX8_scanWord_106 : decode cX8_scanWord 106 = .ok (.return_, 1) := by decide +kernel
noncomputable def F_X8_scanWord_5 (kd : Nat) (k64 : Nat → m_M → Option (Unit × m_M)) : Nat → Nat → m_M → Option (Unit × m_M)
  | 0, _, _ => none
  | n + 1, v1, M =>
    x_gI kd M v1 3 fun v2 =>
    x_gI kd M v1 1 fun v3 =>
    if v3 ≤ v2 then (
      k64 v1 M
    ) else
    x_gN kd M v1 0 fun v4 =>
    x_gI kd M v1 3 fun v5 =>
    x_aI 11 M v4 v5 fun v6 =>
    x_bd (F_X8_isLetter v6 M) fun v7 M1 =>
    if v7 = 0 then (
      k64 v1 M1
    ) else
    x_gL kd M1 v1 7 fun v8 =>
    x_gN kd M1 v1 0 fun v9 =>
    x_gI kd M1 v1 3 fun v10 =>
    x_aI 11 M1 v9 v10 fun v11 =>
    x_bd (F_X9_packMore v8 v11 M1) fun v12 M2 =>
    x_pL kd M2 v1 7 v12 fun M3 =>
    x_gI kd M3 v1 3 fun v13 =>
    x_pI kd M3 v1 3 (v13 + (1 : Int32)) fun M4 =>
    F_X8_scanWord_5 kd k64 n v1 M4
noncomputable def F_X8_scanWord (kd : Nat) (a0 : Nat) (M : m_M) : Option (Unit × m_M) :=
  x_pL kd M a0 7 (0 : Int64) fun M1 =>
  m_let (fun (v1 : Nat) (M2 : m_M) =>
    m_let (fun (v2 : Nat) (v3 : Nat) (v4 : Int32) (M3 : m_M) =>
      x_pI kd M3 v3 4 v4 fun M4 =>
      x_gI kd M4 v2 4 fun v5 =>
      if v5 = (2 : Int32) then (
        x_gL kd M4 v2 7 fun v6 =>
        x_bd (F_X9_find v6 M4) fun v7 M5 =>
        x_pR kd M5 v2 8 v7 fun M6 =>
        some ((), M6)
      ) else
      some ((), M4)
    ) fun (k84 : Nat → Nat → Int32 → m_M → Option (Unit × m_M)) =>
    x_gI kd M2 v1 3 fun v8 =>
    x_gI kd M2 v1 2 fun v9 =>
    if (8 : Int32) < (v8 - v9) then (
      k84 v1 v1 (1 : Int32) M2
    ) else
    k84 v1 v1 (2 : Int32) M2
  ) fun (k64 : Nat → m_M → Option (Unit × m_M)) =>
  F_X8_scanWord_5 kd k64 m_FU a0 M1
set_option maxHeartbeats 4000000 in
theorem L_X8_scanWord_5_4 {X : j_X} {Φ : Option Value → m_M → Prop} (C : j_C X yX8_scanWord cX8_scanWord 1 none 2 0 0 Φ) {k64 : Nat → m_M → Option (Unit × m_M)} (hk64 : ∀ (p0 : Nat) (M : m_M), m_ok e_V Φ (k64 p0 M) → j_J X 1 64 [some (.ref p0)] [] (0, 0) M) : ∀ (n : Nat) (v1 : Nat) (M : m_M), m_ok e_V Φ (F_X8_scanWord_5 4 k64 n v1 M) → j_J X 1 5 [some (.ref v1)] [] (0, 0) M := by
  have C0 := C.1
  intro n
  induction n with
  | zero => intro v1 M h; exact False.elim h
  | succ n ih =>
    intro v1 M h
    rw [F_X8_scanWord_5] at h
    refine j_aload_n C0 (pc := 5) dX8_scanWord_5 rfl ?_
    refine X_gI C0 (pc := 6) f_Tok_25_4 rfl dX8_scanWord_6 h (fun v2 h => ?_)
    refine j_aload_n C0 (pc := 9) dX8_scanWord_9 rfl ?_
    refine X_gI C0 (pc := 10) f_Tok_21_4 rfl dX8_scanWord_10 h (fun v3 h => ?_)
    refine j_icmp_ge C0 (pc := 13) (tgt := 64) dX8_scanWord_13 (by decide) (fun hc => ?_) (fun hc => ?_)
    · replace h := (X_if h).1 hc
      exact j_J.wq (hk64 v1 M h) (And.intro rfl (trivial))
    · replace h := (X_if h).2 hc
      refine j_aload_n C0 (pc := 16) dX8_scanWord_16 rfl ?_
      refine X_gN C0 (pc := 17) f_Tok_9_4 rfl dX8_scanWord_17 h (fun v4 h => ?_)
      refine j_aload_n C0 (pc := 20) dX8_scanWord_20 rfl ?_
      refine X_gI C0 (pc := 21) f_Tok_25_4 rfl dX8_scanWord_21 h (fun v5 h => ?_)
      refine X_cald C0 (pc := 24) dX8_scanWord_24 h (fun v6 h => ?_)
      refine X_cS C0 (pc := 25) (e' := e_I) (as := [.int v6]) (rest := []) (s' := fun w => .int w :: []) (g' := (0, 0)) s_Tok_47 (fun Ψ hΨ => K_X8_isLetter v6 M Ψ hΨ) rfl rfl (fun _ => rfl) (by decide) (by decide) rfl (Nat.le_of_ble_eq_true rfl) dX8_scanWord_25 h (fun v7 M1 h => ?_)
      refine j_if_eq C0 (pc := 28) (tgt := 64) dX8_scanWord_28 (by decide) (fun hc => ?_) (fun hc => ?_)
      · replace h := (X_if h).1 hc
        exact j_J.wq (hk64 v1 M1 h) (And.intro rfl (trivial))
      · replace h := (X_if h).2 hc
        refine j_aload_n C0 (pc := 31) dX8_scanWord_31 rfl ?_
        refine j_aload_n C0 (pc := 32) dX8_scanWord_32 rfl ?_
        refine X_gL C0 (pc := 33) f_Tok_67_4 rfl dX8_scanWord_33 h (fun v8 h => ?_)
        refine j_aload_n C0 (pc := 36) dX8_scanWord_36 rfl ?_
        refine X_gN C0 (pc := 37) f_Tok_9_4 rfl dX8_scanWord_37 h (fun v9 h => ?_)
        refine j_aload_n C0 (pc := 40) dX8_scanWord_40 rfl ?_
        refine X_gI C0 (pc := 41) f_Tok_25_4 rfl dX8_scanWord_41 h (fun v10 h => ?_)
        refine X_cald C0 (pc := 44) dX8_scanWord_44 h (fun v11 h => ?_)
        refine X_cS C0 (pc := 45) (e' := e_L) (as := [.long v8, .int v11]) (rest := [.ref v1]) (s' := fun w => .long w :: [.ref v1]) (g' := (0, 0)) s_Tok_71 (fun Ψ hΨ => K_X9_packMore v8 v11 M1 Ψ hΨ) rfl rfl (fun _ => rfl) (by decide) (by decide) rfl (Nat.le_of_ble_eq_true rfl) dX8_scanWord_45 h (fun v12 M2 h => ?_)
        refine X_pL C0 (pc := 48) f_Tok_67_4 rfl rfl dX8_scanWord_48 h (fun M3 h => ?_)
        refine j_aload_n C0 (pc := 51) dX8_scanWord_51 rfl ?_
        refine j_dup C0 (pc := 52) dX8_scanWord_52 rfl ?_
        refine X_gI C0 (pc := 53) f_Tok_25_4 rfl dX8_scanWord_53 h (fun v13 h => ?_)
        refine j_iconst C0 (pc := 56) dX8_scanWord_56 (v := (1 : Int32)) (by decide) ?_
        refine j_iadd C0 (pc := 57) dX8_scanWord_57 ?_
        refine X_pI C0 (pc := 58) f_Tok_25_4 rfl rfl dX8_scanWord_58 h (fun M4 h => ?_)
        refine j_goto C0 (pc := 61) (tgt := 5) dX8_scanWord_61 (by decide) ?_
        exact j_J.wq (ih v1 M4 h) (And.intro rfl (trivial))
set_option maxHeartbeats 4000000 in
theorem K_X8_scanWord_4 (a0 : Nat) (M : m_M) (Φ : Option Value → m_M → Prop) (h : m_ok e_V Φ (F_X8_scanWord 4 a0 M)) : j_Ct yX8_scanWord cX8_scanWord 1 none 2 0 0 [.ref a0] M Φ := by
  refine j_Ct.of (by decide +kernel) (Nat.le_of_ble_eq_true rfl) fun X C => ?_
  have C0 := C.1
  show j_J X 1 0 [some (.ref a0)] [] (0, 0) M
  unfold F_X8_scanWord at h
  refine j_aload_n C0 (pc := 0) dX8_scanWord_0 rfl ?_
  refine j_lconst C0 (pc := 1) dX8_scanWord_1 (v := (0 : Int64)) (by decide) ?_
  refine X_pL C0 (pc := 2) f_Tok_67_4 rfl rfl dX8_scanWord_2 h (fun M1 h => ?_)
  refine X_join (fun (kj : Nat → m_M → Option (Unit × m_M)) => ∀ (p0 : Nat) (M : m_M), m_ok e_V Φ (kj p0 M) → j_J X 1 64 [some (.ref p0)] [] (0, 0) M) h (fun v1 M2 h => ?_) (fun k64 hk64 h => ?_)
  · refine X_join (fun (kj : Nat → Nat → Int32 → m_M → Option (Unit × m_M)) => ∀ (p0 : Nat) (p1 : Nat) (p2 : Int32) (M : m_M), m_ok e_V Φ (kj p0 p1 p2 M) → j_J X 1 84 [some (.ref p0)] [.int p2, .ref p1] (0, 0) M) h (fun v2 v3 v4 M3 h => ?_) (fun k84 hk84 h => ?_)
    · refine X_pI C0 (pc := 84) f_Tok_44_4 rfl rfl dX8_scanWord_84 h (fun M4 h => ?_)
      refine j_aload_n C0 (pc := 87) dX8_scanWord_87 rfl ?_
      refine X_gI C0 (pc := 88) f_Tok_44_4 rfl dX8_scanWord_88 h (fun v5 h => ?_)
      refine j_iconst C0 (pc := 91) dX8_scanWord_91 (v := (2 : Int32)) (by decide) ?_
      refine j_icmp_ne C0 (pc := 92) (tgt := 106) dX8_scanWord_92 (by decide) (fun hc => ?_) (fun hc => ?_)
      · replace h := (X_if h).2 hc
        exact j_vret C rfl h dX8_scanWord_106 (by decide)
      · replace h := (X_if h).1 hc
        refine j_aload_n C0 (pc := 95) dX8_scanWord_95 rfl ?_
        refine j_aload_n C0 (pc := 96) dX8_scanWord_96 rfl ?_
        refine X_gL C0 (pc := 97) f_Tok_67_4 rfl dX8_scanWord_97 h (fun v6 h => ?_)
        refine X_cS C0 (pc := 100) (e' := e_O) (as := [.long v6]) (rest := [.ref v2]) (s' := fun w => va_rf w :: [.ref v2]) (g' := (0, 0)) s_Tok_77 (fun Ψ hΨ => K_X9_find v6 M4 Ψ hΨ) rfl rfl (fun _ => rfl) (by decide) (by decide) rfl (Nat.le_of_ble_eq_true rfl) dX8_scanWord_100 h (fun v7 M5 h => ?_)
        refine X_pO C0 (pc := 103) f_Tok_40_4 (Or.inl ⟨_, rfl⟩) rfl dX8_scanWord_103 h (fun M6 h => ?_)
        exact j_vret C rfl h dX8_scanWord_106 (by decide)
    · refine j_aload_n C0 (pc := 64) dX8_scanWord_64 rfl ?_
      refine j_aload_n C0 (pc := 65) dX8_scanWord_65 rfl ?_
      refine X_gI C0 (pc := 66) f_Tok_25_4 rfl dX8_scanWord_66 h (fun v8 h => ?_)
      refine j_aload_n C0 (pc := 69) dX8_scanWord_69 rfl ?_
      refine X_gI C0 (pc := 70) f_Tok_37_4 rfl dX8_scanWord_70 h (fun v9 h => ?_)
      refine j_isub C0 (pc := 73) dX8_scanWord_73 ?_
      refine j_bipush C0 (pc := 74) dX8_scanWord_74 (v := (8 : Int32)) (by decide) ?_
      refine j_icmp_gt C0 (pc := 76) (tgt := 83) dX8_scanWord_76 (by decide) (fun hc => ?_) (fun hc => ?_)
      · replace h := (X_if h).1 hc
        refine j_iconst C0 (pc := 83) dX8_scanWord_83 (v := (1 : Int32)) (by decide) ?_
        exact j_J.wq (hk84 v1 v1 (1 : Int32) M2 h) (And.intro rfl (trivial))
      · replace h := (X_if h).2 hc
        refine j_iconst C0 (pc := 79) dX8_scanWord_79 (v := (2 : Int32)) (by decide) ?_
        refine j_goto C0 (pc := 80) (tgt := 84) dX8_scanWord_80 (by decide) ?_
        exact j_J.wq (hk84 v1 v1 (2 : Int32) M2 h) (And.intro rfl (trivial))
  · exact j_J.wq (L_X8_scanWord_5_4 C hk64 m_FU a0 M1 h) (And.intro rfl (trivial))
set_option maxHeartbeats 4000000 in
theorem L_X8_scanWord_5_7 {X : j_X} {Φ : Option Value → m_M → Prop} (C : j_C X yX8_scanWord cX8_scanWord 1 none 2 0 0 Φ) {k64 : Nat → m_M → Option (Unit × m_M)} (hk64 : ∀ (p0 : Nat) (M : m_M), m_ok e_V Φ (k64 p0 M) → j_J X 1 64 [some (.ref p0)] [] (0, 0) M) : ∀ (n : Nat) (v1 : Nat) (M : m_M), m_ok e_V Φ (F_X8_scanWord_5 7 k64 n v1 M) → j_J X 1 5 [some (.ref v1)] [] (0, 0) M := by
  have C0 := C.1
  intro n
  induction n with
  | zero => intro v1 M h; exact False.elim h
  | succ n ih =>
    intro v1 M h
    rw [F_X8_scanWord_5] at h
    refine j_aload_n C0 (pc := 5) dX8_scanWord_5 rfl ?_
    refine X_gI C0 (pc := 6) f_Tok_25_7 rfl dX8_scanWord_6 h (fun v2 h => ?_)
    refine j_aload_n C0 (pc := 9) dX8_scanWord_9 rfl ?_
    refine X_gI C0 (pc := 10) f_Tok_21_7 rfl dX8_scanWord_10 h (fun v3 h => ?_)
    refine j_icmp_ge C0 (pc := 13) (tgt := 64) dX8_scanWord_13 (by decide) (fun hc => ?_) (fun hc => ?_)
    · replace h := (X_if h).1 hc
      exact j_J.wq (hk64 v1 M h) (And.intro rfl (trivial))
    · replace h := (X_if h).2 hc
      refine j_aload_n C0 (pc := 16) dX8_scanWord_16 rfl ?_
      refine X_gN C0 (pc := 17) f_Tok_9_7 rfl dX8_scanWord_17 h (fun v4 h => ?_)
      refine j_aload_n C0 (pc := 20) dX8_scanWord_20 rfl ?_
      refine X_gI C0 (pc := 21) f_Tok_25_7 rfl dX8_scanWord_21 h (fun v5 h => ?_)
      refine X_cald C0 (pc := 24) dX8_scanWord_24 h (fun v6 h => ?_)
      refine X_cS C0 (pc := 25) (e' := e_I) (as := [.int v6]) (rest := []) (s' := fun w => .int w :: []) (g' := (0, 0)) s_Tok_47 (fun Ψ hΨ => K_X8_isLetter v6 M Ψ hΨ) rfl rfl (fun _ => rfl) (by decide) (by decide) rfl (Nat.le_of_ble_eq_true rfl) dX8_scanWord_25 h (fun v7 M1 h => ?_)
      refine j_if_eq C0 (pc := 28) (tgt := 64) dX8_scanWord_28 (by decide) (fun hc => ?_) (fun hc => ?_)
      · replace h := (X_if h).1 hc
        exact j_J.wq (hk64 v1 M1 h) (And.intro rfl (trivial))
      · replace h := (X_if h).2 hc
        refine j_aload_n C0 (pc := 31) dX8_scanWord_31 rfl ?_
        refine j_aload_n C0 (pc := 32) dX8_scanWord_32 rfl ?_
        refine X_gL C0 (pc := 33) f_Tok_67_7 rfl dX8_scanWord_33 h (fun v8 h => ?_)
        refine j_aload_n C0 (pc := 36) dX8_scanWord_36 rfl ?_
        refine X_gN C0 (pc := 37) f_Tok_9_7 rfl dX8_scanWord_37 h (fun v9 h => ?_)
        refine j_aload_n C0 (pc := 40) dX8_scanWord_40 rfl ?_
        refine X_gI C0 (pc := 41) f_Tok_25_7 rfl dX8_scanWord_41 h (fun v10 h => ?_)
        refine X_cald C0 (pc := 44) dX8_scanWord_44 h (fun v11 h => ?_)
        refine X_cS C0 (pc := 45) (e' := e_L) (as := [.long v8, .int v11]) (rest := [.ref v1]) (s' := fun w => .long w :: [.ref v1]) (g' := (0, 0)) s_Tok_71 (fun Ψ hΨ => K_X9_packMore v8 v11 M1 Ψ hΨ) rfl rfl (fun _ => rfl) (by decide) (by decide) rfl (Nat.le_of_ble_eq_true rfl) dX8_scanWord_45 h (fun v12 M2 h => ?_)
        refine X_pL C0 (pc := 48) f_Tok_67_7 rfl rfl dX8_scanWord_48 h (fun M3 h => ?_)
        refine j_aload_n C0 (pc := 51) dX8_scanWord_51 rfl ?_
        refine j_dup C0 (pc := 52) dX8_scanWord_52 rfl ?_
        refine X_gI C0 (pc := 53) f_Tok_25_7 rfl dX8_scanWord_53 h (fun v13 h => ?_)
        refine j_iconst C0 (pc := 56) dX8_scanWord_56 (v := (1 : Int32)) (by decide) ?_
        refine j_iadd C0 (pc := 57) dX8_scanWord_57 ?_
        refine X_pI C0 (pc := 58) f_Tok_25_7 rfl rfl dX8_scanWord_58 h (fun M4 h => ?_)
        refine j_goto C0 (pc := 61) (tgt := 5) dX8_scanWord_61 (by decide) ?_
        exact j_J.wq (ih v1 M4 h) (And.intro rfl (trivial))
set_option maxHeartbeats 4000000 in
theorem K_X8_scanWord_7 (a0 : Nat) (M : m_M) (Φ : Option Value → m_M → Prop) (h : m_ok e_V Φ (F_X8_scanWord 7 a0 M)) : j_Ct yX8_scanWord cX8_scanWord 1 none 2 0 0 [.ref a0] M Φ := by
  refine j_Ct.of (by decide +kernel) (Nat.le_of_ble_eq_true rfl) fun X C => ?_
  have C0 := C.1
  show j_J X 1 0 [some (.ref a0)] [] (0, 0) M
  unfold F_X8_scanWord at h
  refine j_aload_n C0 (pc := 0) dX8_scanWord_0 rfl ?_
  refine j_lconst C0 (pc := 1) dX8_scanWord_1 (v := (0 : Int64)) (by decide) ?_
  refine X_pL C0 (pc := 2) f_Tok_67_7 rfl rfl dX8_scanWord_2 h (fun M1 h => ?_)
  refine X_join (fun (kj : Nat → m_M → Option (Unit × m_M)) => ∀ (p0 : Nat) (M : m_M), m_ok e_V Φ (kj p0 M) → j_J X 1 64 [some (.ref p0)] [] (0, 0) M) h (fun v1 M2 h => ?_) (fun k64 hk64 h => ?_)
  · refine X_join (fun (kj : Nat → Nat → Int32 → m_M → Option (Unit × m_M)) => ∀ (p0 : Nat) (p1 : Nat) (p2 : Int32) (M : m_M), m_ok e_V Φ (kj p0 p1 p2 M) → j_J X 1 84 [some (.ref p0)] [.int p2, .ref p1] (0, 0) M) h (fun v2 v3 v4 M3 h => ?_) (fun k84 hk84 h => ?_)
    · refine X_pI C0 (pc := 84) f_Tok_44_7 rfl rfl dX8_scanWord_84 h (fun M4 h => ?_)
      refine j_aload_n C0 (pc := 87) dX8_scanWord_87 rfl ?_
      refine X_gI C0 (pc := 88) f_Tok_44_7 rfl dX8_scanWord_88 h (fun v5 h => ?_)
      refine j_iconst C0 (pc := 91) dX8_scanWord_91 (v := (2 : Int32)) (by decide) ?_
      refine j_icmp_ne C0 (pc := 92) (tgt := 106) dX8_scanWord_92 (by decide) (fun hc => ?_) (fun hc => ?_)
      · replace h := (X_if h).2 hc
        exact j_vret C rfl h dX8_scanWord_106 (by decide)
      · replace h := (X_if h).1 hc
        refine j_aload_n C0 (pc := 95) dX8_scanWord_95 rfl ?_
        refine j_aload_n C0 (pc := 96) dX8_scanWord_96 rfl ?_
        refine X_gL C0 (pc := 97) f_Tok_67_7 rfl dX8_scanWord_97 h (fun v6 h => ?_)
        refine X_cS C0 (pc := 100) (e' := e_O) (as := [.long v6]) (rest := [.ref v2]) (s' := fun w => va_rf w :: [.ref v2]) (g' := (0, 0)) s_Tok_77 (fun Ψ hΨ => K_X9_find v6 M4 Ψ hΨ) rfl rfl (fun _ => rfl) (by decide) (by decide) rfl (Nat.le_of_ble_eq_true rfl) dX8_scanWord_100 h (fun v7 M5 h => ?_)
        refine X_pO C0 (pc := 103) f_Tok_40_7 (Or.inl ⟨_, rfl⟩) rfl dX8_scanWord_103 h (fun M6 h => ?_)
        exact j_vret C rfl h dX8_scanWord_106 (by decide)
    · refine j_aload_n C0 (pc := 64) dX8_scanWord_64 rfl ?_
      refine j_aload_n C0 (pc := 65) dX8_scanWord_65 rfl ?_
      refine X_gI C0 (pc := 66) f_Tok_25_7 rfl dX8_scanWord_66 h (fun v8 h => ?_)
      refine j_aload_n C0 (pc := 69) dX8_scanWord_69 rfl ?_
      refine X_gI C0 (pc := 70) f_Tok_37_7 rfl dX8_scanWord_70 h (fun v9 h => ?_)
      refine j_isub C0 (pc := 73) dX8_scanWord_73 ?_
      refine j_bipush C0 (pc := 74) dX8_scanWord_74 (v := (8 : Int32)) (by decide) ?_
      refine j_icmp_gt C0 (pc := 76) (tgt := 83) dX8_scanWord_76 (by decide) (fun hc => ?_) (fun hc => ?_)
      · replace h := (X_if h).1 hc
        refine j_iconst C0 (pc := 83) dX8_scanWord_83 (v := (1 : Int32)) (by decide) ?_
        exact j_J.wq (hk84 v1 v1 (1 : Int32) M2 h) (And.intro rfl (trivial))
      · replace h := (X_if h).2 hc
        refine j_iconst C0 (pc := 79) dX8_scanWord_79 (v := (2 : Int32)) (by decide) ?_
        refine j_goto C0 (pc := 80) (tgt := 84) dX8_scanWord_80 (by decide) ?_
        exact j_J.wq (hk84 v1 v1 (2 : Int32) M2 h) (And.intro rfl (trivial))
  · exact j_J.wq (L_X8_scanWord_5_7 C hk64 m_FU a0 M1 h) (And.intro rfl (trivial))
theorem dX8_isDigit_0 : decode cX8_isDigit 0 = .ok (.iload_n 0, 1) := by decide +kernel
theorem dX8_isDigit_1 : decode cX8_isDigit 1 = .ok (.bipush 48, 2) := by decide +kernel
theorem dX8_isDigit_3 : decode cX8_isDigit 3 = .ok (.if_icmp .lt 13, 3) := by decide +kernel
theorem dX8_isDigit_6 : decode cX8_isDigit 6 = .ok (.iload_n 0, 1) := by decide +kernel
theorem dX8_isDigit_7 : decode cX8_isDigit 7 = .ok (.bipush 57, 2) := by decide +kernel
theorem dX8_isDigit_9 : decode cX8_isDigit 9 = .ok (.if_icmp .gt 7, 3) := by decide +kernel
theorem dX8_isDigit_12 : decode cX8_isDigit 12 = .ok (.iconst 1, 1) := by decide +kernel
theorem dX8_isDigit_13 : decode cX8_isDigit 13 = .ok (.goto 4, 3) := by decide +kernel
theorem dX8_isDigit_16 : decode cX8_isDigit 16 = .ok (.iconst 0, 1) := by decide +kernel
theorem dX8_isDigit_17 : decode cX8_isDigit 17 = .ok (.ireturn, 1) := by decide +kernel
noncomputable def F_X8_isDigit (a1 : Int32) (M : m_M) : Option (Int32 × m_M) :=
  m_let (fun  (M1 : m_M) =>
    some ((0 : Int32), M1)
  ) fun (k16 : m_M → Option (Int32 × m_M)) =>
  if a1 < (48 : Int32) then (
    k16 M
  ) else
  if (57 : Int32) < a1 then (
    k16 M
  ) else
  some ((1 : Int32), M)
set_option maxHeartbeats 4000000 in
theorem K_X8_isDigit (a1 : Int32) (M : m_M) (Φ : Option Value → m_M → Prop) (h : m_ok e_I Φ (F_X8_isDigit a1 M)) : j_Ct yX8_isDigit cX8_isDigit 1 (some .boolean) 1 0 0 [.int a1] M Φ := by
  refine j_Ct.of (by decide +kernel) (Nat.le_of_ble_eq_true rfl) fun X C => ?_
  have C0 := C.1
  show j_J X 1 0 [some (.int a1)] [] (0, 0) M
  unfold F_X8_isDigit at h
  refine X_join (fun (kj : m_M → Option (Int32 × m_M)) => ∀  (M : m_M), m_ok e_I Φ (kj M) → j_J X 1 16 [none] [] (0, 0) M) h (fun M1 h => ?_) (fun k16 hk16 h => ?_)
  · refine j_iconst C0 (pc := 16) dX8_isDigit_16 (v := (0 : Int32)) (by decide) ?_
    exact j_zret C rfl (by decide) h dX8_isDigit_17 (by decide)
  · refine j_iload_n C0 (pc := 0) dX8_isDigit_0 rfl ?_
    refine j_bipush C0 (pc := 1) dX8_isDigit_1 (v := (48 : Int32)) (by decide) ?_
    refine j_icmp_lt C0 (pc := 3) (tgt := 16) dX8_isDigit_3 (by decide) (fun hc => ?_) (fun hc => ?_)
    · replace h := (X_if h).1 hc
      exact j_J.wq (hk16 M h) (trivial)
    · replace h := (X_if h).2 hc
      refine j_iload_n C0 (pc := 6) dX8_isDigit_6 rfl ?_
      refine j_bipush C0 (pc := 7) dX8_isDigit_7 (v := (57 : Int32)) (by decide) ?_
      refine j_icmp_gt C0 (pc := 9) (tgt := 16) dX8_isDigit_9 (by decide) (fun hc => ?_) (fun hc => ?_)
      · replace h := (X_if h).1 hc
        exact j_J.wq (hk16 M h) (trivial)
      · replace h := (X_if h).2 hc
        refine j_iconst C0 (pc := 12) dX8_isDigit_12 (v := (1 : Int32)) (by decide) ?_
        refine j_goto C0 (pc := 13) (tgt := 17) dX8_isDigit_13 (by decide) ?_
        exact j_zret C rfl (by decide) h dX8_isDigit_17 (by decide)
theorem dX8_scanNumber_0 : decode cX8_scanNumber 0 = .ok (.aload_n 0, 1) := by decide +kernel
theorem dX8_scanNumber_1 : decode cX8_scanNumber 1 = .ok (.iconst 0, 1) := by decide +kernel
theorem dX8_scanNumber_2 : decode cX8_scanNumber 2 = .ok (.putfield 81, 3) := by decide +kernel
theorem dX8_scanNumber_5 : decode cX8_scanNumber 5 = .ok (.aload_n 0, 1) := by decide +kernel
theorem dX8_scanNumber_6 : decode cX8_scanNumber 6 = .ok (.getfield 25, 3) := by decide +kernel
theorem dX8_scanNumber_9 : decode cX8_scanNumber 9 = .ok (.aload_n 0, 1) := by decide +kernel
theorem dX8_scanNumber_10 : decode cX8_scanNumber 10 = .ok (.getfield 21, 3) := by decide +kernel
theorem dX8_scanNumber_13 : decode cX8_scanNumber 13 = .ok (.if_icmp .ge 55, 3) := by decide +kernel
theorem dX8_scanNumber_16 : decode cX8_scanNumber 16 = .ok (.aload_n 0, 1) := by decide +kernel
theorem dX8_scanNumber_17 : decode cX8_scanNumber 17 = .ok (.getfield 9, 3) := by decide +kernel
theorem dX8_scanNumber_20 : decode cX8_scanNumber 20 = .ok (.aload_n 0, 1) := by decide +kernel
theorem dX8_scanNumber_21 : decode cX8_scanNumber 21 = .ok (.getfield 25, 3) := by decide +kernel
theorem dX8_scanNumber_24 : decode cX8_scanNumber 24 = .ok (.caload, 1) := by decide +kernel
theorem dX8_scanNumber_25 : decode cX8_scanNumber 25 = .ok (.invokestatic 54, 3) := by decide +kernel
theorem dX8_scanNumber_28 : decode cX8_scanNumber 28 = .ok (.ifCond .eq 40, 3) := by decide +kernel
theorem dX8_scanNumber_31 : decode cX8_scanNumber 31 = .ok (.aload_n 0, 1) := by decide +kernel
theorem dX8_scanNumber_32 : decode cX8_scanNumber 32 = .ok (.aload_n 0, 1) := by decide +kernel
theorem dX8_scanNumber_33 : decode cX8_scanNumber 33 = .ok (.getfield 81, 3) := by decide +kernel
theorem dX8_scanNumber_36 : decode cX8_scanNumber 36 = .ok (.bipush 10, 2) := by decide +kernel
theorem dX8_scanNumber_38 : decode cX8_scanNumber 38 = .ok (.imul, 1) := by decide +kernel
theorem dX8_scanNumber_39 : decode cX8_scanNumber 39 = .ok (.aload_n 0, 1) := by decide +kernel
theorem dX8_scanNumber_40 : decode cX8_scanNumber 40 = .ok (.getfield 9, 3) := by decide +kernel
theorem dX8_scanNumber_43 : decode cX8_scanNumber 43 = .ok (.aload_n 0, 1) := by decide +kernel
theorem dX8_scanNumber_44 : decode cX8_scanNumber 44 = .ok (.getfield 25, 3) := by decide +kernel
theorem dX8_scanNumber_47 : decode cX8_scanNumber 47 = .ok (.caload, 1) := by decide +kernel
theorem dX8_scanNumber_48 : decode cX8_scanNumber 48 = .ok (.bipush 48, 2) := by decide +kernel
theorem dX8_scanNumber_50 : decode cX8_scanNumber 50 = .ok (.isub, 1) := by decide +kernel
theorem dX8_scanNumber_51 : decode cX8_scanNumber 51 = .ok (.iadd, 1) := by decide +kernel
theorem dX8_scanNumber_52 : decode cX8_scanNumber 52 = .ok (.putfield 81, 3) := by decide +kernel
theorem dX8_scanNumber_55 : decode cX8_scanNumber 55 = .ok (.aload_n 0, 1) := by decide +kernel
theorem dX8_scanNumber_56 : decode cX8_scanNumber 56 = .ok (.dup, 1) := by decide +kernel
theorem dX8_scanNumber_57 : decode cX8_scanNumber 57 = .ok (.getfield 25, 3) := by decide +kernel
theorem dX8_scanNumber_60 : decode cX8_scanNumber 60 = .ok (.iconst 1, 1) := by decide +kernel
theorem dX8_scanNumber_61 : decode cX8_scanNumber 61 = .ok (.iadd, 1) := by decide +kernel
theorem dX8_scanNumber_62 : decode cX8_scanNumber 62 = .ok (.putfield 25, 3) := by decide +kernel
theorem dX8_scanNumber_65 : decode cX8_scanNumber 65 = .ok (.goto (-60), 3) := by decide +kernel
theorem dX8_scanNumber_68 : decode cX8_scanNumber 68 = .ok (.aload_n 0, 1) := by decide +kernel
theorem dX8_scanNumber_69 : decode cX8_scanNumber 69 = .ok (.aload_n 0, 1) := by decide +kernel
theorem dX8_scanNumber_70 : decode cX8_scanNumber 70 = .ok (.getfield 25, 3) := by decide +kernel
theorem dX8_scanNumber_73 : decode cX8_scanNumber 73 = .ok (.aload_n 0, 1) := by decide +kernel
theorem dX8_scanNumber_74 : decode cX8_scanNumber 74 = .ok (.getfield 37, 3) := by decide +kernel
theorem dX8_scanNumber_77 : decode cX8_scanNumber 77 = .ok (.isub, 1) := by decide +kernel
theorem dX8_scanNumber_78 : decode cX8_scanNumber 78 = .ok (.iconst 4, 1) := by decide +kernel
theorem dX8_scanNumber_79 : decode cX8_scanNumber 79 = .ok (.if_icmp .gt 7, 3) := by decide +kernel
theorem dX8_scanNumber_82 : decode cX8_scanNumber 82 = .ok (.iconst 3, 1) := by decide +kernel
theorem dX8_scanNumber_83 : decode cX8_scanNumber 83 = .ok (.goto 4, 3) := by decide +kernel
theorem dX8_scanNumber_86 : decode cX8_scanNumber 86 = .ok (.iconst 1, 1) := by decide +kernel
theorem dX8_scanNumber_87 : decode cX8_scanNumber 87 = .ok (.putfield 44, 3) := by decide +kernel
theorem dX8_scanNumber_90 : decode cX8_scanNumber 90 = .ok (.return_, 1) := by decide +kernel
noncomputable def F_X8_scanNumber_5 (kd : Nat) (k68 : Nat → m_M → Option (Unit × m_M)) : Nat → Nat → m_M → Option (Unit × m_M)
  | 0, _, _ => none
  | n + 1, v1, M =>
    x_gI kd M v1 3 fun v2 =>
    x_gI kd M v1 1 fun v3 =>
    if v3 ≤ v2 then (
      k68 v1 M
    ) else
    x_gN kd M v1 0 fun v4 =>
    x_gI kd M v1 3 fun v5 =>
    x_aI 11 M v4 v5 fun v6 =>
    x_bd (F_X8_isDigit v6 M) fun v7 M1 =>
    if v7 = 0 then (
      k68 v1 M1
    ) else
    x_gI kd M1 v1 5 fun v8 =>
    x_gN kd M1 v1 0 fun v9 =>
    x_gI kd M1 v1 3 fun v10 =>
    x_aI 11 M1 v9 v10 fun v11 =>
    x_pI kd M1 v1 5 ((v8 * (10 : Int32)) + (v11 - (48 : Int32))) fun M2 =>
    x_gI kd M2 v1 3 fun v12 =>
    x_pI kd M2 v1 3 (v12 + (1 : Int32)) fun M3 =>
    F_X8_scanNumber_5 kd k68 n v1 M3
noncomputable def F_X8_scanNumber (kd : Nat) (a0 : Nat) (M : m_M) : Option (Unit × m_M) :=
  x_pI kd M a0 5 (0 : Int32) fun M1 =>
  m_let (fun (v1 : Nat) (M2 : m_M) =>
    x_gI kd M2 v1 3 fun v2 =>
    x_gI kd M2 v1 2 fun v3 =>
    if (4 : Int32) < (v2 - v3) then (
      x_pI kd M2 v1 4 (1 : Int32) fun M3 =>
      some ((), M3)
    ) else
    x_pI kd M2 v1 4 (3 : Int32) fun M4 =>
    some ((), M4)
  ) fun (k68 : Nat → m_M → Option (Unit × m_M)) =>
  F_X8_scanNumber_5 kd k68 m_FU a0 M1
set_option maxHeartbeats 4000000 in
theorem L_X8_scanNumber_5_4 {X : j_X} {Φ : Option Value → m_M → Prop} (C : j_C X yX8_scanNumber cX8_scanNumber 1 none 2 0 0 Φ) {k68 : Nat → m_M → Option (Unit × m_M)} (hk68 : ∀ (p0 : Nat) (M : m_M), m_ok e_V Φ (k68 p0 M) → j_J X 1 68 [some (.ref p0)] [] (0, 0) M) : ∀ (n : Nat) (v1 : Nat) (M : m_M), m_ok e_V Φ (F_X8_scanNumber_5 4 k68 n v1 M) → j_J X 1 5 [some (.ref v1)] [] (0, 0) M := by
  have C0 := C.1
  intro n
  induction n with
  | zero => intro v1 M h; exact False.elim h
  | succ n ih =>
    intro v1 M h
    rw [F_X8_scanNumber_5] at h
    refine j_aload_n C0 (pc := 5) dX8_scanNumber_5 rfl ?_
    refine X_gI C0 (pc := 6) f_Tok_25_4 rfl dX8_scanNumber_6 h (fun v2 h => ?_)
    refine j_aload_n C0 (pc := 9) dX8_scanNumber_9 rfl ?_
    refine X_gI C0 (pc := 10) f_Tok_21_4 rfl dX8_scanNumber_10 h (fun v3 h => ?_)
    refine j_icmp_ge C0 (pc := 13) (tgt := 68) dX8_scanNumber_13 (by decide) (fun hc => ?_) (fun hc => ?_)
    · replace h := (X_if h).1 hc
      exact j_J.wq (hk68 v1 M h) (And.intro rfl (trivial))
    · replace h := (X_if h).2 hc
      refine j_aload_n C0 (pc := 16) dX8_scanNumber_16 rfl ?_
      refine X_gN C0 (pc := 17) f_Tok_9_4 rfl dX8_scanNumber_17 h (fun v4 h => ?_)
      refine j_aload_n C0 (pc := 20) dX8_scanNumber_20 rfl ?_
      refine X_gI C0 (pc := 21) f_Tok_25_4 rfl dX8_scanNumber_21 h (fun v5 h => ?_)
      refine X_cald C0 (pc := 24) dX8_scanNumber_24 h (fun v6 h => ?_)
      refine X_cS C0 (pc := 25) (e' := e_I) (as := [.int v6]) (rest := []) (s' := fun w => .int w :: []) (g' := (0, 0)) s_Tok_54 (fun Ψ hΨ => K_X8_isDigit v6 M Ψ hΨ) rfl rfl (fun _ => rfl) (by decide) (by decide) rfl (Nat.le_of_ble_eq_true rfl) dX8_scanNumber_25 h (fun v7 M1 h => ?_)
      refine j_if_eq C0 (pc := 28) (tgt := 68) dX8_scanNumber_28 (by decide) (fun hc => ?_) (fun hc => ?_)
      · replace h := (X_if h).1 hc
        exact j_J.wq (hk68 v1 M1 h) (And.intro rfl (trivial))
      · replace h := (X_if h).2 hc
        refine j_aload_n C0 (pc := 31) dX8_scanNumber_31 rfl ?_
        refine j_aload_n C0 (pc := 32) dX8_scanNumber_32 rfl ?_
        refine X_gI C0 (pc := 33) f_Tok_81_4 rfl dX8_scanNumber_33 h (fun v8 h => ?_)
        refine j_bipush C0 (pc := 36) dX8_scanNumber_36 (v := (10 : Int32)) (by decide) ?_
        refine j_imul C0 (pc := 38) dX8_scanNumber_38 ?_
        refine j_aload_n C0 (pc := 39) dX8_scanNumber_39 rfl ?_
        refine X_gN C0 (pc := 40) f_Tok_9_4 rfl dX8_scanNumber_40 h (fun v9 h => ?_)
        refine j_aload_n C0 (pc := 43) dX8_scanNumber_43 rfl ?_
        refine X_gI C0 (pc := 44) f_Tok_25_4 rfl dX8_scanNumber_44 h (fun v10 h => ?_)
        refine X_cald C0 (pc := 47) dX8_scanNumber_47 h (fun v11 h => ?_)
        refine j_bipush C0 (pc := 48) dX8_scanNumber_48 (v := (48 : Int32)) (by decide) ?_
        refine j_isub C0 (pc := 50) dX8_scanNumber_50 ?_
        refine j_iadd C0 (pc := 51) dX8_scanNumber_51 ?_
        refine X_pI C0 (pc := 52) f_Tok_81_4 rfl rfl dX8_scanNumber_52 h (fun M2 h => ?_)
        refine j_aload_n C0 (pc := 55) dX8_scanNumber_55 rfl ?_
        refine j_dup C0 (pc := 56) dX8_scanNumber_56 rfl ?_
        refine X_gI C0 (pc := 57) f_Tok_25_4 rfl dX8_scanNumber_57 h (fun v12 h => ?_)
        refine j_iconst C0 (pc := 60) dX8_scanNumber_60 (v := (1 : Int32)) (by decide) ?_
        refine j_iadd C0 (pc := 61) dX8_scanNumber_61 ?_
        refine X_pI C0 (pc := 62) f_Tok_25_4 rfl rfl dX8_scanNumber_62 h (fun M3 h => ?_)
        refine j_goto C0 (pc := 65) (tgt := 5) dX8_scanNumber_65 (by decide) ?_
        exact j_J.wq (ih v1 M3 h) (And.intro rfl (trivial))
set_option maxHeartbeats 4000000 in
theorem K_X8_scanNumber_4 (a0 : Nat) (M : m_M) (Φ : Option Value → m_M → Prop) (h : m_ok e_V Φ (F_X8_scanNumber 4 a0 M)) : j_Ct yX8_scanNumber cX8_scanNumber 1 none 2 0 0 [.ref a0] M Φ := by
  refine j_Ct.of (by decide +kernel) (Nat.le_of_ble_eq_true rfl) fun X C => ?_
  have C0 := C.1
  show j_J X 1 0 [some (.ref a0)] [] (0, 0) M
  unfold F_X8_scanNumber at h
  refine j_aload_n C0 (pc := 0) dX8_scanNumber_0 rfl ?_
  refine j_iconst C0 (pc := 1) dX8_scanNumber_1 (v := (0 : Int32)) (by decide) ?_
  refine X_pI C0 (pc := 2) f_Tok_81_4 rfl rfl dX8_scanNumber_2 h (fun M1 h => ?_)
  refine X_join (fun (kj : Nat → m_M → Option (Unit × m_M)) => ∀ (p0 : Nat) (M : m_M), m_ok e_V Φ (kj p0 M) → j_J X 1 68 [some (.ref p0)] [] (0, 0) M) h (fun v1 M2 h => ?_) (fun k68 hk68 h => ?_)
  · refine j_aload_n C0 (pc := 68) dX8_scanNumber_68 rfl ?_
    refine j_aload_n C0 (pc := 69) dX8_scanNumber_69 rfl ?_
    refine X_gI C0 (pc := 70) f_Tok_25_4 rfl dX8_scanNumber_70 h (fun v2 h => ?_)
    refine j_aload_n C0 (pc := 73) dX8_scanNumber_73 rfl ?_
    refine X_gI C0 (pc := 74) f_Tok_37_4 rfl dX8_scanNumber_74 h (fun v3 h => ?_)
    refine j_isub C0 (pc := 77) dX8_scanNumber_77 ?_
    refine j_iconst C0 (pc := 78) dX8_scanNumber_78 (v := (4 : Int32)) (by decide) ?_
    refine j_icmp_gt C0 (pc := 79) (tgt := 86) dX8_scanNumber_79 (by decide) (fun hc => ?_) (fun hc => ?_)
    · replace h := (X_if h).1 hc
      refine j_iconst C0 (pc := 86) dX8_scanNumber_86 (v := (1 : Int32)) (by decide) ?_
      refine X_pI C0 (pc := 87) f_Tok_44_4 rfl rfl dX8_scanNumber_87 h (fun M3 h => ?_)
      exact j_vret C rfl h dX8_scanNumber_90 (by decide)
    · replace h := (X_if h).2 hc
      refine j_iconst C0 (pc := 82) dX8_scanNumber_82 (v := (3 : Int32)) (by decide) ?_
      refine j_goto C0 (pc := 83) (tgt := 87) dX8_scanNumber_83 (by decide) ?_
      refine X_pI C0 (pc := 87) f_Tok_44_4 rfl rfl dX8_scanNumber_87 h (fun M4 h => ?_)
      exact j_vret C rfl h dX8_scanNumber_90 (by decide)
  · exact j_J.wq (L_X8_scanNumber_5_4 C hk68 m_FU a0 M1 h) (And.intro rfl (trivial))
set_option maxHeartbeats 4000000 in
theorem L_X8_scanNumber_5_7 {X : j_X} {Φ : Option Value → m_M → Prop} (C : j_C X yX8_scanNumber cX8_scanNumber 1 none 2 0 0 Φ) {k68 : Nat → m_M → Option (Unit × m_M)} (hk68 : ∀ (p0 : Nat) (M : m_M), m_ok e_V Φ (k68 p0 M) → j_J X 1 68 [some (.ref p0)] [] (0, 0) M) : ∀ (n : Nat) (v1 : Nat) (M : m_M), m_ok e_V Φ (F_X8_scanNumber_5 7 k68 n v1 M) → j_J X 1 5 [some (.ref v1)] [] (0, 0) M := by
  have C0 := C.1
  intro n
  induction n with
  | zero => intro v1 M h; exact False.elim h
  | succ n ih =>
    intro v1 M h
    rw [F_X8_scanNumber_5] at h
    refine j_aload_n C0 (pc := 5) dX8_scanNumber_5 rfl ?_
    refine X_gI C0 (pc := 6) f_Tok_25_7 rfl dX8_scanNumber_6 h (fun v2 h => ?_)
    refine j_aload_n C0 (pc := 9) dX8_scanNumber_9 rfl ?_
    refine X_gI C0 (pc := 10) f_Tok_21_7 rfl dX8_scanNumber_10 h (fun v3 h => ?_)
    refine j_icmp_ge C0 (pc := 13) (tgt := 68) dX8_scanNumber_13 (by decide) (fun hc => ?_) (fun hc => ?_)
    · replace h := (X_if h).1 hc
      exact j_J.wq (hk68 v1 M h) (And.intro rfl (trivial))
    · replace h := (X_if h).2 hc
      refine j_aload_n C0 (pc := 16) dX8_scanNumber_16 rfl ?_
      refine X_gN C0 (pc := 17) f_Tok_9_7 rfl dX8_scanNumber_17 h (fun v4 h => ?_)
      refine j_aload_n C0 (pc := 20) dX8_scanNumber_20 rfl ?_
      refine X_gI C0 (pc := 21) f_Tok_25_7 rfl dX8_scanNumber_21 h (fun v5 h => ?_)
      refine X_cald C0 (pc := 24) dX8_scanNumber_24 h (fun v6 h => ?_)
      refine X_cS C0 (pc := 25) (e' := e_I) (as := [.int v6]) (rest := []) (s' := fun w => .int w :: []) (g' := (0, 0)) s_Tok_54 (fun Ψ hΨ => K_X8_isDigit v6 M Ψ hΨ) rfl rfl (fun _ => rfl) (by decide) (by decide) rfl (Nat.le_of_ble_eq_true rfl) dX8_scanNumber_25 h (fun v7 M1 h => ?_)
      refine j_if_eq C0 (pc := 28) (tgt := 68) dX8_scanNumber_28 (by decide) (fun hc => ?_) (fun hc => ?_)
      · replace h := (X_if h).1 hc
        exact j_J.wq (hk68 v1 M1 h) (And.intro rfl (trivial))
      · replace h := (X_if h).2 hc
        refine j_aload_n C0 (pc := 31) dX8_scanNumber_31 rfl ?_
        refine j_aload_n C0 (pc := 32) dX8_scanNumber_32 rfl ?_
        refine X_gI C0 (pc := 33) f_Tok_81_7 rfl dX8_scanNumber_33 h (fun v8 h => ?_)
        refine j_bipush C0 (pc := 36) dX8_scanNumber_36 (v := (10 : Int32)) (by decide) ?_
        refine j_imul C0 (pc := 38) dX8_scanNumber_38 ?_
        refine j_aload_n C0 (pc := 39) dX8_scanNumber_39 rfl ?_
        refine X_gN C0 (pc := 40) f_Tok_9_7 rfl dX8_scanNumber_40 h (fun v9 h => ?_)
        refine j_aload_n C0 (pc := 43) dX8_scanNumber_43 rfl ?_
        refine X_gI C0 (pc := 44) f_Tok_25_7 rfl dX8_scanNumber_44 h (fun v10 h => ?_)
        refine X_cald C0 (pc := 47) dX8_scanNumber_47 h (fun v11 h => ?_)
        refine j_bipush C0 (pc := 48) dX8_scanNumber_48 (v := (48 : Int32)) (by decide) ?_
        refine j_isub C0 (pc := 50) dX8_scanNumber_50 ?_
        refine j_iadd C0 (pc := 51) dX8_scanNumber_51 ?_
        refine X_pI C0 (pc := 52) f_Tok_81_7 rfl rfl dX8_scanNumber_52 h (fun M2 h => ?_)
        refine j_aload_n C0 (pc := 55) dX8_scanNumber_55 rfl ?_
        refine j_dup C0 (pc := 56) dX8_scanNumber_56 rfl ?_
        refine X_gI C0 (pc := 57) f_Tok_25_7 rfl dX8_scanNumber_57 h (fun v12 h => ?_)
        refine j_iconst C0 (pc := 60) dX8_scanNumber_60 (v := (1 : Int32)) (by decide) ?_
        refine j_iadd C0 (pc := 61) dX8_scanNumber_61 ?_
        refine X_pI C0 (pc := 62) f_Tok_25_7 rfl rfl dX8_scanNumber_62 h (fun M3 h => ?_)
        refine j_goto C0 (pc := 65) (tgt := 5) dX8_scanNumber_65 (by decide) ?_
        exact j_J.wq (ih v1 M3 h) (And.intro rfl (trivial))
set_option maxHeartbeats 4000000 in
theorem K_X8_scanNumber_7 (a0 : Nat) (M : m_M) (Φ : Option Value → m_M → Prop) (h : m_ok e_V Φ (F_X8_scanNumber 7 a0 M)) : j_Ct yX8_scanNumber cX8_scanNumber 1 none 2 0 0 [.ref a0] M Φ := by
  refine j_Ct.of (by decide +kernel) (Nat.le_of_ble_eq_true rfl) fun X C => ?_
  have C0 := C.1
  show j_J X 1 0 [some (.ref a0)] [] (0, 0) M
  unfold F_X8_scanNumber at h
  refine j_aload_n C0 (pc := 0) dX8_scanNumber_0 rfl ?_
  refine j_iconst C0 (pc := 1) dX8_scanNumber_1 (v := (0 : Int32)) (by decide) ?_
  refine X_pI C0 (pc := 2) f_Tok_81_7 rfl rfl dX8_scanNumber_2 h (fun M1 h => ?_)
  refine X_join (fun (kj : Nat → m_M → Option (Unit × m_M)) => ∀ (p0 : Nat) (M : m_M), m_ok e_V Φ (kj p0 M) → j_J X 1 68 [some (.ref p0)] [] (0, 0) M) h (fun v1 M2 h => ?_) (fun k68 hk68 h => ?_)
  · refine j_aload_n C0 (pc := 68) dX8_scanNumber_68 rfl ?_
    refine j_aload_n C0 (pc := 69) dX8_scanNumber_69 rfl ?_
    refine X_gI C0 (pc := 70) f_Tok_25_7 rfl dX8_scanNumber_70 h (fun v2 h => ?_)
    refine j_aload_n C0 (pc := 73) dX8_scanNumber_73 rfl ?_
    refine X_gI C0 (pc := 74) f_Tok_37_7 rfl dX8_scanNumber_74 h (fun v3 h => ?_)
    refine j_isub C0 (pc := 77) dX8_scanNumber_77 ?_
    refine j_iconst C0 (pc := 78) dX8_scanNumber_78 (v := (4 : Int32)) (by decide) ?_
    refine j_icmp_gt C0 (pc := 79) (tgt := 86) dX8_scanNumber_79 (by decide) (fun hc => ?_) (fun hc => ?_)
    · replace h := (X_if h).1 hc
      refine j_iconst C0 (pc := 86) dX8_scanNumber_86 (v := (1 : Int32)) (by decide) ?_
      refine X_pI C0 (pc := 87) f_Tok_44_7 rfl rfl dX8_scanNumber_87 h (fun M3 h => ?_)
      exact j_vret C rfl h dX8_scanNumber_90 (by decide)
    · replace h := (X_if h).2 hc
      refine j_iconst C0 (pc := 82) dX8_scanNumber_82 (v := (3 : Int32)) (by decide) ?_
      refine j_goto C0 (pc := 83) (tgt := 87) dX8_scanNumber_83 (by decide) ?_
      refine X_pI C0 (pc := 87) f_Tok_44_7 rfl rfl dX8_scanNumber_87 h (fun M4 h => ?_)
      exact j_vret C rfl h dX8_scanNumber_90 (by decide)
  · exact j_J.wq (L_X8_scanNumber_5_7 C hk68 m_FU a0 M1 h) (And.intro rfl (trivial))
theorem dJ0_isLatin1_aae02_0 : decode cJ0_isLatin1_aae02 0 = .ok (.getstatic 38, 3) := by decide +kernel
theorem dJ0_isLatin1_aae02_3 : decode cJ0_isLatin1_aae02 3 = .ok (.ifCond .eq 14, 3) := by decide +kernel
theorem dJ0_isLatin1_aae02_6 : decode cJ0_isLatin1_aae02 6 = .ok (.aload_n 0, 1) := by decide +kernel
theorem dJ0_isLatin1_aae02_7 : decode cJ0_isLatin1_aae02 7 = .ok (.getfield 15, 3) := by decide +kernel
theorem dJ0_isLatin1_aae02_10 : decode cJ0_isLatin1_aae02 10 = .ok (.ifCond .ne 7, 3) := by decide +kernel
theorem dJ0_isLatin1_aae02_13 : decode cJ0_isLatin1_aae02 13 = .ok (.iconst 1, 1) := by decide +kernel
theorem dJ0_isLatin1_aae02_14 : decode cJ0_isLatin1_aae02 14 = .ok (.goto 4, 3) := by decide +kernel
theorem dJ0_isLatin1_aae02_17 : decode cJ0_isLatin1_aae02 17 = .ok (.iconst 0, 1) := by decide +kernel
theorem dJ0_isLatin1_aae02_18 : decode cJ0_isLatin1_aae02 18 = .ok (.ireturn, 1) := by decide +kernel
noncomputable def F_J0_isLatin1_aae02 (M : m_M) : Option (Int32 × m_M) :=
  m_let (fun  (M1 : m_M) =>
    some ((0 : Int32), M1)
  ) fun (k17 : m_M → Option (Int32 × m_M)) =>
  some ((1 : Int32), M)
set_option maxHeartbeats 4000000 in
theorem K_J0_isLatin1_aae02 (M : m_M) (Φ : Option Value → m_M → Prop) (h : m_ok e_I Φ (F_J0_isLatin1_aae02 M)) : j_Ct yJ0_isLatin1_aae02 cJ0_isLatin1_aae02 1 (some .boolean) 1 0 0 [.ref (1000000 + 22)] M Φ := by
  refine j_Ct.ofF (by decide +kernel) (Nat.le_of_ble_eq_true rfl) fun X C => ?_
  have C0 := C.1
  show j_J X 1 0 [some (.ref (1000000 + 22))] [] (0, 0) M
  unfold F_J0_isLatin1_aae02 at h
  refine X_join (fun (kj : m_M → Option (Int32 × m_M)) => ∀  (M : m_M), m_ok e_I Φ (kj M) → j_J X 1 17 [none] [] (0, 0) M) h (fun M1 h => ?_) (fun k17 hk17 h => ?_)
  · refine j_iconst C0 (pc := 17) dJ0_isLatin1_aae02_17 (v := (0 : Int32)) (by decide) ?_
    exact j_zret C rfl (by decide) h dJ0_isLatin1_aae02_18 (by decide)
  · refine j_kcs C0 (pc := 0) (j_c3 60 (by decide +kernel)) dJ0_isLatin1_aae02_0 ?_
    refine j_if_eq C0 (pc := 3) (tgt := 17) dJ0_isLatin1_aae02_3 (by decide) (fun hc => absurd hc (by decide)) (fun _ => ?_)
    refine j_aload_n C0 (pc := 6) dJ0_isLatin1_aae02_6 rfl ?_
    refine j_kcod C0 (pc := 7) (j_c10 105 (by decide +kernel)) dJ0_isLatin1_aae02_7 ?_
    refine j_if_ne C0 (pc := 10) (tgt := 17) dJ0_isLatin1_aae02_10 (by decide) (fun hc => absurd hc (by decide)) (fun _ => ?_)
    refine j_iconst C0 (pc := 13) dJ0_isLatin1_aae02_13 (v := (1 : Int32)) (by decide) ?_
    refine j_goto C0 (pc := 14) (tgt := 18) dJ0_isLatin1_aae02_14 (by decide) ?_
    exact j_zret C rfl (by decide) h dJ0_isLatin1_aae02_18 (by decide)
theorem dJ0_coder_7d493_0 : decode cJ0_coder_7d493 0 = .ok (.getstatic 38, 3) := by decide +kernel
theorem dJ0_coder_7d493_3 : decode cJ0_coder_7d493 3 = .ok (.ifCond .eq 10, 3) := by decide +kernel
theorem dJ0_coder_7d493_6 : decode cJ0_coder_7d493 6 = .ok (.aload_n 0, 1) := by decide +kernel
theorem dJ0_coder_7d493_7 : decode cJ0_coder_7d493 7 = .ok (.getfield 15, 3) := by decide +kernel
theorem dJ0_coder_7d493_10 : decode cJ0_coder_7d493 10 = .ok (.goto 4, 3) := by decide +kernel
theorem dJ0_coder_7d493_13 : decode cJ0_coder_7d493 13 = .ok (.iconst 1, 1) := by decide +kernel
theorem dJ0_coder_7d493_14 : decode cJ0_coder_7d493 14 = .ok (.ireturn, 1) := by decide +kernel
noncomputable def F_J0_coder_7d493 (M : m_M) : Option (Int32 × m_M) :=
  some ((0 : Int32), M)
set_option maxHeartbeats 4000000 in
theorem K_J0_coder_7d493 (M : m_M) (Φ : Option Value → m_M → Prop) (h : m_ok e_I Φ (F_J0_coder_7d493 M)) : j_Ct yJ0_coder_7d493 cJ0_coder_7d493 1 (some .byte) 1 0 0 [.ref (1000000 + 22)] M Φ := by
  refine j_Ct.ofF (by decide +kernel) (Nat.le_of_ble_eq_true rfl) fun X C => ?_
  have C0 := C.1
  show j_J X 1 0 [some (.ref (1000000 + 22))] [] (0, 0) M
  unfold F_J0_coder_7d493 at h
  refine j_kcs C0 (pc := 0) (j_c3 60 (by decide +kernel)) dJ0_coder_7d493_0 ?_
  refine j_if_eq C0 (pc := 3) (tgt := 13) dJ0_coder_7d493_3 (by decide) (fun hc => absurd hc (by decide)) (fun _ => ?_)
  refine j_aload_n C0 (pc := 6) dJ0_coder_7d493_6 rfl ?_
  refine j_kcod C0 (pc := 7) (j_c10 105 (by decide +kernel)) dJ0_coder_7d493_7 ?_
  refine j_goto C0 (pc := 10) (tgt := 14) dJ0_coder_7d493_10 (by decide) ?_
  exact j_zret C rfl (by decide) h dJ0_coder_7d493_14 (by decide)
theorem dJ0_length_8abf5_0 : decode cJ0_length_8abf5 0 = .ok (.aload_n 0, 1) := by decide +kernel
theorem dJ0_length_8abf5_1 : decode cJ0_length_8abf5 1 = .ok (.getfield 9, 3) := by decide +kernel
theorem dJ0_length_8abf5_4 : decode cJ0_length_8abf5 4 = .ok (.arraylength, 1) := by decide +kernel
theorem dJ0_length_8abf5_5 : decode cJ0_length_8abf5 5 = .ok (.aload_n 0, 1) := by decide +kernel
theorem dJ0_length_8abf5_6 : decode cJ0_length_8abf5 6 = .ok (.invokevirtual 335, 3) := by decide +kernel
theorem dJ0_length_8abf5_9 : decode cJ0_length_8abf5 9 = .ok (.ishr, 1) := by decide +kernel
theorem dJ0_length_8abf5_10 : decode cJ0_length_8abf5 10 = .ok (.ireturn, 1) := by decide +kernel
noncomputable def F_J0_length_8abf5 (M : m_M) : Option (Int32 × m_M) :=
  x_bd (F_J0_coder_7d493 M) fun v1 M1 =>
  some ((8 : Int32) >>> (v1 &&& 31), M1)
set_option maxHeartbeats 4000000 in
theorem K_J0_length_8abf5 (M : m_M) (Φ : Option Value → m_M → Prop) (h : m_ok e_I Φ (F_J0_length_8abf5 M)) : j_Ct yJ0_length_8abf5 cJ0_length_8abf5 1 (some .int) 2 0 0 [.ref (1000000 + 22)] M Φ := by
  refine j_Ct.ofF (by decide +kernel) (Nat.le_of_ble_eq_true rfl) fun X C => ?_
  have C0 := C.1
  show j_J X 1 0 [some (.ref (1000000 + 22))] [] (0, 0) M
  unfold F_J0_length_8abf5 at h
  refine j_aload_n C0 (pc := 0) dJ0_length_8abf5_0 rfl ?_
  refine j_kval C0 (pc := 1) (j_c10 106 (by decide +kernel)) dJ0_length_8abf5_1 ?_
  refine j_kbl C0 (pc := 4) dJ0_length_8abf5_4 ?_
  refine j_aload_n C0 (pc := 5) dJ0_length_8abf5_5 rfl ?_
  refine X_cK C0 (pc := 6) (e' := e_I) (as := []) (rest := [.int (8 : Int32)]) (s' := fun w => .int w :: [.int (8 : Int32)]) (g' := (0, 0)) kq_RJ0_335 (fun Ψ hΨ => K_J0_coder_7d493 M Ψ hΨ) rfl rfl (fun _ => rfl) (by decide) (by decide) rfl (Nat.le_of_ble_eq_true rfl) dJ0_length_8abf5_6 h (fun v1 M1 h => ?_)
  refine j_ishr C0 (pc := 9) dJ0_length_8abf5_9 ?_
  exact j_iret C rfl h dJ0_length_8abf5_10 (by decide)
theorem dJ1_canEncode_9a6ad_0 : decode cJ1_canEncode_9a6ad 0 = .ok (.iload_n 0, 1) := by decide +kernel
theorem dJ1_canEncode_9a6ad_1 : decode cJ1_canEncode_9a6ad 1 = .ok (.ifCond .lt 14, 3) := by decide +kernel
theorem dJ1_canEncode_9a6ad_4 : decode cJ1_canEncode_9a6ad 4 = .ok (.iload_n 0, 1) := by decide +kernel
theorem dJ1_canEncode_9a6ad_5 : decode cJ1_canEncode_9a6ad 5 = .ok (.sipush 255, 3) := by decide +kernel
theorem dJ1_canEncode_9a6ad_8 : decode cJ1_canEncode_9a6ad 8 = .ok (.if_icmp .gt 7, 3) := by decide +kernel
theorem dJ1_canEncode_9a6ad_11 : decode cJ1_canEncode_9a6ad 11 = .ok (.iconst 1, 1) := by decide +kernel
theorem dJ1_canEncode_9a6ad_12 : decode cJ1_canEncode_9a6ad 12 = .ok (.goto 4, 3) := by decide +kernel
theorem dJ1_canEncode_9a6ad_15 : decode cJ1_canEncode_9a6ad 15 = .ok (.iconst 0, 1) := by decide +kernel
theorem dJ1_canEncode_9a6ad_16 : decode cJ1_canEncode_9a6ad 16 = .ok (.ireturn, 1) := by decide +kernel
noncomputable def F_J1_canEncode_9a6ad (a1 : Int32) (M : m_M) : Option (Int32 × m_M) :=
  m_let (fun  (M1 : m_M) =>
    some ((0 : Int32), M1)
  ) fun (k15 : m_M → Option (Int32 × m_M)) =>
  if a1 < 0 then (
    k15 M
  ) else
  if (255 : Int32) < a1 then (
    k15 M
  ) else
  some ((1 : Int32), M)
set_option maxHeartbeats 4000000 in
theorem K_J1_canEncode_9a6ad (a1 : Int32) (M : m_M) (Φ : Option Value → m_M → Prop) (h : m_ok e_I Φ (F_J1_canEncode_9a6ad a1 M)) : j_Ct yJ1_canEncode_9a6ad cJ1_canEncode_9a6ad 1 (some .boolean) 1 0 0 [.int a1] M Φ := by
  refine j_Ct.ofF (by decide +kernel) (Nat.le_of_ble_eq_true rfl) fun X C => ?_
  have C0 := C.1
  show j_J X 1 0 [some (.int a1)] [] (0, 0) M
  unfold F_J1_canEncode_9a6ad at h
  refine X_join (fun (kj : m_M → Option (Int32 × m_M)) => ∀  (M : m_M), m_ok e_I Φ (kj M) → j_J X 1 15 [none] [] (0, 0) M) h (fun M1 h => ?_) (fun k15 hk15 h => ?_)
  · refine j_iconst C0 (pc := 15) dJ1_canEncode_9a6ad_15 (v := (0 : Int32)) (by decide) ?_
    exact j_zret C rfl (by decide) h dJ1_canEncode_9a6ad_16 (by decide)
  · refine j_iload_n C0 (pc := 0) dJ1_canEncode_9a6ad_0 rfl ?_
    refine j_if_lt C0 (pc := 1) (tgt := 15) dJ1_canEncode_9a6ad_1 (by decide) (fun hc => ?_) (fun hc => ?_)
    · replace h := (X_if h).1 hc
      exact j_J.wq (hk15 M h) (trivial)
    · replace h := (X_if h).2 hc
      refine j_iload_n C0 (pc := 4) dJ1_canEncode_9a6ad_4 rfl ?_
      refine j_sipush C0 (pc := 5) dJ1_canEncode_9a6ad_5 (v := (255 : Int32)) (by decide) ?_
      refine j_icmp_gt C0 (pc := 8) (tgt := 15) dJ1_canEncode_9a6ad_8 (by decide) (fun hc => ?_) (fun hc => ?_)
      · replace h := (X_if h).1 hc
        exact j_J.wq (hk15 M h) (trivial)
      · replace h := (X_if h).2 hc
        refine j_iconst C0 (pc := 11) dJ1_canEncode_9a6ad_11 (v := (1 : Int32)) (by decide) ?_
        refine j_goto C0 (pc := 12) (tgt := 16) dJ1_canEncode_9a6ad_12 (by decide) ?_
        exact j_zret C rfl (by decide) h dJ1_canEncode_9a6ad_16 (by decide)
theorem dJ1_indexOfChar_4cfef_0 : decode cJ1_indexOfChar_4cfef 0 = .ok (.iload_n 1, 1) := by decide +kernel
theorem dJ1_indexOfChar_4cfef_1 : decode cJ1_indexOfChar_4cfef 1 = .ok (.i2b, 1) := by decide +kernel
theorem dJ1_indexOfChar_4cfef_2 : decode cJ1_indexOfChar_4cfef 2 = .ok (.istore 4, 2) := by decide +kernel
theorem dJ1_indexOfChar_4cfef_4 : decode cJ1_indexOfChar_4cfef 4 = .ok (.iload_n 2, 1) := by decide +kernel
theorem dJ1_indexOfChar_4cfef_5 : decode cJ1_indexOfChar_4cfef 5 = .ok (.istore 5, 2) := by decide +kernel
theorem dJ1_indexOfChar_4cfef_7 : decode cJ1_indexOfChar_4cfef 7 = .ok (.iload 5, 2) := by decide +kernel
theorem dJ1_indexOfChar_4cfef_9 : decode cJ1_indexOfChar_4cfef 9 = .ok (.iload_n 3, 1) := by decide +kernel
theorem dJ1_indexOfChar_4cfef_10 : decode cJ1_indexOfChar_4cfef 10 = .ok (.if_icmp .ge 21, 3) := by decide +kernel
theorem dJ1_indexOfChar_4cfef_13 : decode cJ1_indexOfChar_4cfef 13 = .ok (.aload_n 0, 1) := by decide +kernel
theorem dJ1_indexOfChar_4cfef_14 : decode cJ1_indexOfChar_4cfef 14 = .ok (.iload 5, 2) := by decide +kernel
theorem dJ1_indexOfChar_4cfef_16 : decode cJ1_indexOfChar_4cfef 16 = .ok (.baload, 1) := by decide +kernel
theorem dJ1_indexOfChar_4cfef_17 : decode cJ1_indexOfChar_4cfef 17 = .ok (.iload 4, 2) := by decide +kernel
theorem dJ1_indexOfChar_4cfef_19 : decode cJ1_indexOfChar_4cfef 19 = .ok (.if_icmp .ne 6, 3) := by decide +kernel
theorem dJ1_indexOfChar_4cfef_22 : decode cJ1_indexOfChar_4cfef 22 = .ok (.iload 5, 2) := by decide +kernel
theorem dJ1_indexOfChar_4cfef_24 : decode cJ1_indexOfChar_4cfef 24 = .ok (.ireturn, 1) := by decide +kernel
theorem dJ1_indexOfChar_4cfef_25 : decode cJ1_indexOfChar_4cfef 25 = .ok (.iinc 5 1, 3) := by decide +kernel
theorem dJ1_indexOfChar_4cfef_28 : decode cJ1_indexOfChar_4cfef 28 = .ok (.goto (-21), 3) := by decide +kernel
theorem dJ1_indexOfChar_4cfef_31 : decode cJ1_indexOfChar_4cfef 31 = .ok (.iconst (-1), 1) := by decide +kernel
theorem dJ1_indexOfChar_4cfef_32 : decode cJ1_indexOfChar_4cfef 32 = .ok (.ireturn, 1) := by decide +kernel
noncomputable def F_J1_indexOfChar_4cfef_7 : Nat → Int32 → Int32 → Int32 → m_M → Option (Int32 × m_M)
  | 0, _, _, _, _ => none
  | n + 1, v1, v2, v3, M =>
    if v1 ≤ v3 then (
      some ((-1 : Int32), M)
    ) else
    x_ki 8 v3 fun v4 =>
    if (k_sg.getD v4 0) = v2 then (
      some (v3, M)
    ) else
    m_let (v3 + (1 : Int32)) fun v5 =>
    F_J1_indexOfChar_4cfef_7 n v1 v2 v5 M
noncomputable def F_J1_indexOfChar_4cfef (a2 : Int32) (a3 : Int32) (a4 : Int32) (M : m_M) : Option (Int32 × m_M) :=
  m_let (a2.toInt8.toInt32) fun v1 =>
  F_J1_indexOfChar_4cfef_7 m_FU a4 v1 a3 M
set_option maxHeartbeats 4000000 in
theorem L_J1_indexOfChar_4cfef_7 {X : j_X} {Φ : Option Value → m_M → Prop} (C : j_C X yJ1_indexOfChar_4cfef cJ1_indexOfChar_4cfef 6 (some .int) 1 0 0 Φ) : ∀ (n : Nat) (v1 : Int32) (v2 : Int32) (v3 : Int32) (M : m_M), m_ok e_I Φ (F_J1_indexOfChar_4cfef_7 n v1 v2 v3 M) → j_J X 6 7 [some (.ref (1000000 + 23)), none, none, some (.int v1), some (.int v2), some (.int v3)] [] (0, 0) M := by
  have C0 := C.1
  intro n
  induction n with
  | zero => intro v1 v2 v3 M h; exact False.elim h
  | succ n ih =>
    intro v1 v2 v3 M h
    rw [F_J1_indexOfChar_4cfef_7] at h
    refine j_iload C0 (pc := 7) dJ1_indexOfChar_4cfef_7 rfl ?_
    refine j_iload_n C0 (pc := 9) dJ1_indexOfChar_4cfef_9 rfl ?_
    refine j_icmp_ge C0 (pc := 10) (tgt := 31) dJ1_indexOfChar_4cfef_10 (by decide) (fun hc => ?_) (fun hc => ?_)
    · replace h := (X_if h).1 hc
      refine j_iconst C0 (pc := 31) dJ1_indexOfChar_4cfef_31 (v := (-1 : Int32)) (by decide) ?_
      exact j_iret C rfl h dJ1_indexOfChar_4cfef_32 (by decide)
    · replace h := (X_if h).2 hc
      refine j_aload_n C0 (pc := 13) dJ1_indexOfChar_4cfef_13 rfl ?_
      refine j_iload C0 (pc := 14) dJ1_indexOfChar_4cfef_14 rfl ?_
      refine X_kba C0 (pc := 16) dJ1_indexOfChar_4cfef_16 h (fun v4 h => ?_)
      refine j_iload C0 (pc := 17) dJ1_indexOfChar_4cfef_17 rfl ?_
      refine j_icmp_ne C0 (pc := 19) (tgt := 25) dJ1_indexOfChar_4cfef_19 (by decide) (fun hc => ?_) (fun hc => ?_)
      · replace h := (X_if h).2 hc
        refine j_iinc C0 (pc := 25) dJ1_indexOfChar_4cfef_25 (v := v3 + (1 : Int32)) rfl (Nat.le_of_ble_eq_true rfl) (by rfl) ?_
        refine X_let (G := fun w => j_J X 6 28 [some (.ref (1000000 + 23)), none, none, some (.int v1), some (.int v2), some (.int w)] [] (0, 0) M) h (fun v5 h => ?_)
        refine j_goto C0 (pc := 28) (tgt := 7) dJ1_indexOfChar_4cfef_28 (by decide) ?_
        exact j_J.wq (ih v1 v2 v5 M h) (And.intro rfl (And.intro rfl (And.intro rfl (And.intro rfl (trivial)))))
      · replace h := (X_if h).1 hc
        refine j_iload C0 (pc := 22) dJ1_indexOfChar_4cfef_22 rfl ?_
        exact j_iret C rfl h dJ1_indexOfChar_4cfef_24 (by decide)
set_option maxHeartbeats 4000000 in
theorem K_J1_indexOfChar_4cfef (a2 : Int32) (a3 : Int32) (a4 : Int32) (M : m_M) (Φ : Option Value → m_M → Prop) (h : m_ok e_I Φ (F_J1_indexOfChar_4cfef a2 a3 a4 M)) : j_Ct yJ1_indexOfChar_4cfef cJ1_indexOfChar_4cfef 6 (some .int) 1 0 0 [.ref (1000000 + 23), .int a2, .int a3, .int a4] M Φ := by
  refine j_Ct.ofF (by decide +kernel) (Nat.le_of_ble_eq_true rfl) fun X C => ?_
  have C0 := C.1
  show j_J X 6 0 [some (.ref (1000000 + 23)), some (.int a2), some (.int a3), some (.int a4), none, none] [] (0, 0) M
  unfold F_J1_indexOfChar_4cfef at h
  refine j_iload_n C0 (pc := 0) dJ1_indexOfChar_4cfef_0 rfl ?_
  refine j_i2b C0 (pc := 1) dJ1_indexOfChar_4cfef_1 (v := a2.toInt8.toInt32) rfl ?_
  refine X_let (G := fun w => j_J X 6 2 [some (.ref (1000000 + 23)), some (.int a2), some (.int a3), some (.int a4), none, none] (.int w :: []) (0, 0) M) h (fun v1 h => ?_)
  refine j_istore C0 (pc := 2) dJ1_indexOfChar_4cfef_2 (Nat.le_of_ble_eq_true rfl) ?_
  show j_J X 6 4 [some (.ref (1000000 + 23)), some (.int a2), some (.int a3), some (.int a4), some (.int v1), none] [] (0, 0) M
  refine j_iload_n C0 (pc := 4) dJ1_indexOfChar_4cfef_4 rfl ?_
  refine j_istore C0 (pc := 5) dJ1_indexOfChar_4cfef_5 (Nat.le_of_ble_eq_true rfl) ?_
  show j_J X 6 7 [some (.ref (1000000 + 23)), some (.int a2), some (.int a3), some (.int a4), some (.int v1), some (.int a3)] [] (0, 0) M
  exact j_J.wq (L_J1_indexOfChar_4cfef_7 C m_FU a4 v1 a3 M h) (And.intro rfl (And.intro rfl (And.intro rfl (And.intro rfl (trivial)))))
theorem dJ1_indexOf_4cfef_0 : decode cJ1_indexOf_4cfef 0 = .ok (.iload_n 1, 1) := by decide +kernel
theorem dJ1_indexOf_4cfef_1 : decode cJ1_indexOf_4cfef 1 = .ok (.invokestatic 88, 3) := by decide +kernel
theorem dJ1_indexOf_4cfef_4 : decode cJ1_indexOf_4cfef 4 = .ok (.ifCond .ne 5, 3) := by decide +kernel
theorem dJ1_indexOf_4cfef_7 : decode cJ1_indexOf_4cfef 7 = .ok (.iconst (-1), 1) := by decide +kernel
theorem dJ1_indexOf_4cfef_8 : decode cJ1_indexOf_4cfef 8 = .ok (.ireturn, 1) := by decide +kernel
theorem dJ1_indexOf_4cfef_9 : decode cJ1_indexOf_4cfef 9 = .ok (.iload_n 2, 1) := by decide +kernel
theorem dJ1_indexOf_4cfef_10 : decode cJ1_indexOf_4cfef 10 = .ok (.iconst 0, 1) := by decide +kernel
theorem dJ1_indexOf_4cfef_11 : decode cJ1_indexOf_4cfef 11 = .ok (.invokestatic 92, 3) := by decide +kernel
theorem dJ1_indexOf_4cfef_14 : decode cJ1_indexOf_4cfef 14 = .ok (.istore_n 2, 1) := by decide +kernel
theorem dJ1_indexOf_4cfef_15 : decode cJ1_indexOf_4cfef 15 = .ok (.iload_n 3, 1) := by decide +kernel
theorem dJ1_indexOf_4cfef_16 : decode cJ1_indexOf_4cfef 16 = .ok (.aload_n 0, 1) := by decide +kernel
theorem dJ1_indexOf_4cfef_17 : decode cJ1_indexOf_4cfef 17 = .ok (.arraylength, 1) := by decide +kernel
theorem dJ1_indexOf_4cfef_18 : decode cJ1_indexOf_4cfef 18 = .ok (.invokestatic 38, 3) := by decide +kernel
theorem dJ1_indexOf_4cfef_21 : decode cJ1_indexOf_4cfef 21 = .ok (.istore_n 3, 1) := by decide +kernel
theorem dJ1_indexOf_4cfef_22 : decode cJ1_indexOf_4cfef 22 = .ok (.iload_n 2, 1) := by decide +kernel
theorem dJ1_indexOf_4cfef_23 : decode cJ1_indexOf_4cfef 23 = .ok (.iload_n 3, 1) := by decide +kernel
theorem dJ1_indexOf_4cfef_24 : decode cJ1_indexOf_4cfef 24 = .ok (.if_icmp .lt 5, 3) := by decide +kernel
theorem dJ1_indexOf_4cfef_27 : decode cJ1_indexOf_4cfef 27 = .ok (.iconst (-1), 1) := by decide +kernel
theorem dJ1_indexOf_4cfef_28 : decode cJ1_indexOf_4cfef 28 = .ok (.ireturn, 1) := by decide +kernel
theorem dJ1_indexOf_4cfef_29 : decode cJ1_indexOf_4cfef 29 = .ok (.aload_n 0, 1) := by decide +kernel
theorem dJ1_indexOf_4cfef_30 : decode cJ1_indexOf_4cfef 30 = .ok (.iload_n 1, 1) := by decide +kernel
theorem dJ1_indexOf_4cfef_31 : decode cJ1_indexOf_4cfef 31 = .ok (.iload_n 2, 1) := by decide +kernel
theorem dJ1_indexOf_4cfef_32 : decode cJ1_indexOf_4cfef 32 = .ok (.iload_n 3, 1) := by decide +kernel
theorem dJ1_indexOf_4cfef_33 : decode cJ1_indexOf_4cfef 33 = .ok (.invokestatic 95, 3) := by decide +kernel
theorem dJ1_indexOf_4cfef_36 : decode cJ1_indexOf_4cfef 36 = .ok (.ireturn, 1) := by decide +kernel
noncomputable def F_J1_indexOf_4cfef (a2 : Int32) (a3 : Int32) (a4 : Int32) (M : m_M) : Option (Int32 × m_M) :=
  x_bd (F_J1_canEncode_9a6ad a2 M) fun v1 M1 =>
  if v1 = 0 then (
    some ((-1 : Int32), M1)
  ) else
  x_bd (F_J9_max_7cf53 a3 (0 : Int32) M1) fun v2 M2 =>
  x_bd (F_J9_min_7cf53 a4 (8 : Int32) M2) fun v3 M3 =>
  if v2 < v3 then (
    x_bd (F_J1_indexOfChar_4cfef a2 v2 v3 M3) fun v4 M4 =>
    some (v4, M4)
  ) else
  some ((-1 : Int32), M3)
set_option maxHeartbeats 4000000 in
theorem K_J1_indexOf_4cfef (a2 : Int32) (a3 : Int32) (a4 : Int32) (M : m_M) (Φ : Option Value → m_M → Prop) (h : m_ok e_I Φ (F_J1_indexOf_4cfef a2 a3 a4 M)) : j_Ct yJ1_indexOf_4cfef cJ1_indexOf_4cfef 4 (some .int) 2 0 0 [.ref (1000000 + 23), .int a2, .int a3, .int a4] M Φ := by
  refine j_Ct.ofF (by decide +kernel) (Nat.le_of_ble_eq_true rfl) fun X C => ?_
  have C0 := C.1
  show j_J X 4 0 [some (.ref (1000000 + 23)), some (.int a2), some (.int a3), some (.int a4)] [] (0, 0) M
  unfold F_J1_indexOf_4cfef at h
  refine j_iload_n C0 (pc := 0) dJ1_indexOf_4cfef_0 rfl ?_
  refine X_cS C0 (pc := 1) (e' := e_I) (as := [.int a2]) (rest := []) (s' := fun w => .int w :: []) (g' := (0, 0)) sj_RJ1_88 (fun Ψ hΨ => K_J1_canEncode_9a6ad a2 M Ψ hΨ) rfl rfl (fun _ => rfl) (by decide) (by decide) rfl (Nat.le_of_ble_eq_true rfl) dJ1_indexOf_4cfef_1 h (fun v1 M1 h => ?_)
  refine j_if_ne C0 (pc := 4) (tgt := 9) dJ1_indexOf_4cfef_4 (by decide) (fun hc => ?_) (fun hc => ?_)
  · replace h := (X_if h).2 hc
    refine j_iload_n C0 (pc := 9) dJ1_indexOf_4cfef_9 rfl ?_
    refine j_iconst C0 (pc := 10) dJ1_indexOf_4cfef_10 (v := (0 : Int32)) (by decide) ?_
    refine X_cS C0 (pc := 11) (e' := e_I) (as := [.int a3, .int (0 : Int32)]) (rest := []) (s' := fun w => .int w :: []) (g' := (0, 0)) sj_RJ1_92 (fun Ψ hΨ => K_J9_max_7cf53 a3 (0 : Int32) M1 Ψ hΨ) rfl rfl (fun _ => rfl) (by decide) (by decide) rfl (Nat.le_of_ble_eq_true rfl) dJ1_indexOf_4cfef_11 h (fun v2 M2 h => ?_)
    refine j_istore_n C0 (pc := 14) dJ1_indexOf_4cfef_14 (Nat.le_of_ble_eq_true rfl) ?_
    show j_J X 4 15 [some (.ref (1000000 + 23)), some (.int a2), some (.int v2), some (.int a4)] [] (0, 0) M2
    refine j_iload_n C0 (pc := 15) dJ1_indexOf_4cfef_15 rfl ?_
    refine j_aload_n C0 (pc := 16) dJ1_indexOf_4cfef_16 rfl ?_
    refine j_kbl C0 (pc := 17) dJ1_indexOf_4cfef_17 ?_
    refine X_cS C0 (pc := 18) (e' := e_I) (as := [.int a4, .int (8 : Int32)]) (rest := []) (s' := fun w => .int w :: []) (g' := (0, 0)) sj_RJ1_38 (fun Ψ hΨ => K_J9_min_7cf53 a4 (8 : Int32) M2 Ψ hΨ) rfl rfl (fun _ => rfl) (by decide) (by decide) rfl (Nat.le_of_ble_eq_true rfl) dJ1_indexOf_4cfef_18 h (fun v3 M3 h => ?_)
    refine j_istore_n C0 (pc := 21) dJ1_indexOf_4cfef_21 (Nat.le_of_ble_eq_true rfl) ?_
    show j_J X 4 22 [some (.ref (1000000 + 23)), some (.int a2), some (.int v2), some (.int v3)] [] (0, 0) M3
    refine j_iload_n C0 (pc := 22) dJ1_indexOf_4cfef_22 rfl ?_
    refine j_iload_n C0 (pc := 23) dJ1_indexOf_4cfef_23 rfl ?_
    refine j_icmp_lt C0 (pc := 24) (tgt := 29) dJ1_indexOf_4cfef_24 (by decide) (fun hc => ?_) (fun hc => ?_)
    · replace h := (X_if h).1 hc
      refine j_aload_n C0 (pc := 29) dJ1_indexOf_4cfef_29 rfl ?_
      refine j_iload_n C0 (pc := 30) dJ1_indexOf_4cfef_30 rfl ?_
      refine j_iload_n C0 (pc := 31) dJ1_indexOf_4cfef_31 rfl ?_
      refine j_iload_n C0 (pc := 32) dJ1_indexOf_4cfef_32 rfl ?_
      refine X_cS C0 (pc := 33) (e' := e_I) (as := [.ref (1000000 + 23), .int a2, .int v2, .int v3]) (rest := []) (s' := fun w => .int w :: []) (g' := (0, 0)) sj_RJ1_95 (fun Ψ hΨ => K_J1_indexOfChar_4cfef a2 v2 v3 M3 Ψ hΨ) rfl rfl (fun _ => rfl) (by decide) (by decide) rfl (Nat.le_of_ble_eq_true rfl) dJ1_indexOf_4cfef_33 h (fun v4 M4 h => ?_)
      exact j_iret C rfl h dJ1_indexOf_4cfef_36 (by decide)
    · replace h := (X_if h).2 hc
      refine j_iconst C0 (pc := 27) dJ1_indexOf_4cfef_27 (v := (-1 : Int32)) (by decide) ?_
      exact j_iret C rfl h dJ1_indexOf_4cfef_28 (by decide)
  · replace h := (X_if h).1 hc
    refine j_iconst C0 (pc := 7) dJ1_indexOf_4cfef_7 (v := (-1 : Int32)) (by decide) ?_
    exact j_iret C rfl h dJ1_indexOf_4cfef_8 (by decide)
theorem dJ0_indexOf_7cf53_0 : decode cJ0_indexOf_7cf53 0 = .ok (.aload_n 0, 1) := by decide +kernel
theorem dJ0_indexOf_7cf53_1 : decode cJ0_indexOf_7cf53 1 = .ok (.invokevirtual 492, 3) := by decide +kernel
theorem dJ0_indexOf_7cf53_4 : decode cJ0_indexOf_7cf53 4 = .ok (.ifCond .eq 19, 3) := by decide +kernel
theorem dJ0_indexOf_7cf53_7 : decode cJ0_indexOf_7cf53 7 = .ok (.aload_n 0, 1) := by decide +kernel
theorem dJ0_indexOf_7cf53_8 : decode cJ0_indexOf_7cf53 8 = .ok (.getfield 9, 3) := by decide +kernel
theorem dJ0_indexOf_7cf53_11 : decode cJ0_indexOf_7cf53 11 = .ok (.iload_n 1, 1) := by decide +kernel
theorem dJ0_indexOf_7cf53_12 : decode cJ0_indexOf_7cf53 12 = .ok (.iload_n 2, 1) := by decide +kernel
theorem dJ0_indexOf_7cf53_13 : decode cJ0_indexOf_7cf53 13 = .ok (.aload_n 0, 1) := by decide +kernel
theorem dJ0_indexOf_7cf53_14 : decode cJ0_indexOf_7cf53 14 = .ok (.invokevirtual 505, 3) := by decide +kernel
theorem dJ0_indexOf_7cf53_17 : decode cJ0_indexOf_7cf53 17 = .ok (.invokestatic 637, 3) := by decide +kernel
theorem dJ0_indexOf_7cf53_20 : decode cJ0_indexOf_7cf53 20 = .ok (.goto 16, 3) := by decide +kernel
theorem dJ0_indexOf_7cf53_23 : decode cJ0_indexOf_7cf53 23 = .ok (.aload_n 0, 1) := by decide +kernel
theorem dJ0_indexOf_7cf53_24 : decode cJ0_indexOf_7cf53 24 = .ok (.getfield 9, 3) := by decide +kernel
theorem dJ0_indexOf_7cf53_27 : decode cJ0_indexOf_7cf53 27 = .ok (.iload_n 1, 1) := by decide +kernel
theorem dJ0_indexOf_7cf53_28 : decode cJ0_indexOf_7cf53 28 = .ok (.iload_n 2, 1) := by decide +kernel
theorem dJ0_indexOf_7cf53_29 : decode cJ0_indexOf_7cf53 29 = .ok (.aload_n 0, 1) := by decide +kernel
theorem dJ0_indexOf_7cf53_30 : decode cJ0_indexOf_7cf53 30 = .ok (.invokevirtual 505, 3) := by decide +kernel
theorem dJ0_indexOf_7cf53_33 : decode cJ0_indexOf_7cf53 33 = .ok (.invokestatic 640, 3) := by decide +kernel
theorem dJ0_indexOf_7cf53_36 : decode cJ0_indexOf_7cf53 36 = .ok (.ireturn, 1) := by decide +kernel
noncomputable def F_J0_indexOf_7cf53 (a1 : Int32) (a2 : Int32) (M : m_M) : Option (Int32 × m_M) :=
  x_bd (F_J0_isLatin1_aae02 M) fun v1 M1 =>
  if v1 = 0 then (
    none
  ) else
  x_bd (F_J0_length_8abf5 M1) fun v2 M2 =>
  x_bd (F_J1_indexOf_4cfef a1 a2 v2 M2) fun v3 M3 =>
  some (v3, M3)
set_option maxHeartbeats 4000000 in
theorem K_J0_indexOf_7cf53 (a1 : Int32) (a2 : Int32) (M : m_M) (Φ : Option Value → m_M → Prop) (h : m_ok e_I Φ (F_J0_indexOf_7cf53 a1 a2 M)) : j_Ct yJ0_indexOf_7cf53 cJ0_indexOf_7cf53 3 (some .int) 3 0 0 [.ref (1000000 + 22), .int a1, .int a2] M Φ := by
  refine j_Ct.ofF (by decide +kernel) (Nat.le_of_ble_eq_true rfl) fun X C => ?_
  have C0 := C.1
  show j_J X 3 0 [some (.ref (1000000 + 22)), some (.int a1), some (.int a2)] [] (0, 0) M
  unfold F_J0_indexOf_7cf53 at h
  refine j_aload_n C0 (pc := 0) dJ0_indexOf_7cf53_0 rfl ?_
  refine X_cK C0 (pc := 1) (e' := e_I) (as := []) (rest := []) (s' := fun w => .int w :: []) (g' := (0, 0)) kq_RJ0_492 (fun Ψ hΨ => K_J0_isLatin1_aae02 M Ψ hΨ) rfl rfl (fun _ => rfl) (by decide) (by decide) rfl (Nat.le_of_ble_eq_true rfl) dJ0_indexOf_7cf53_1 h (fun v1 M1 h => ?_)
  refine j_if_eq C0 (pc := 4) (tgt := 23) dJ0_indexOf_7cf53_4 (by decide) (fun hc => ?_) (fun hc => ?_)
  · replace h := (X_if h).1 hc
    exact False.elim h
  · replace h := (X_if h).2 hc
    refine j_aload_n C0 (pc := 7) dJ0_indexOf_7cf53_7 rfl ?_
    refine j_kval C0 (pc := 8) (j_c10 106 (by decide +kernel)) dJ0_indexOf_7cf53_8 ?_
    refine j_iload_n C0 (pc := 11) dJ0_indexOf_7cf53_11 rfl ?_
    refine j_iload_n C0 (pc := 12) dJ0_indexOf_7cf53_12 rfl ?_
    refine j_aload_n C0 (pc := 13) dJ0_indexOf_7cf53_13 rfl ?_
    refine X_cK C0 (pc := 14) (e' := e_I) (as := []) (rest := [.int a2, .int a1, .ref (1000000 + 23)]) (s' := fun w => .int w :: [.int a2, .int a1, .ref (1000000 + 23)]) (g' := (0, 0)) kq_RJ0_505 (fun Ψ hΨ => K_J0_length_8abf5 M1 Ψ hΨ) rfl rfl (fun _ => rfl) (by decide) (by decide) rfl (Nat.le_of_ble_eq_true rfl) dJ0_indexOf_7cf53_14 h (fun v2 M2 h => ?_)
    refine X_cS C0 (pc := 17) (e' := e_I) (as := [.ref (1000000 + 23), .int a1, .int a2, .int v2]) (rest := []) (s' := fun w => .int w :: []) (g' := (0, 0)) sj_RJ0_637 (fun Ψ hΨ => K_J1_indexOf_4cfef a1 a2 v2 M2 Ψ hΨ) rfl rfl (fun _ => rfl) (by decide) (by decide) rfl (Nat.le_of_ble_eq_true rfl) dJ0_indexOf_7cf53_17 h (fun v3 M3 h => ?_)
    refine j_goto C0 (pc := 20) (tgt := 36) dJ0_indexOf_7cf53_20 (by decide) ?_
    exact j_iret C rfl h dJ0_indexOf_7cf53_36 (by decide)
theorem dJ0_indexOf_0f7a4_0 : decode cJ0_indexOf_0f7a4 0 = .ok (.aload_n 0, 1) := by decide +kernel
theorem dJ0_indexOf_0f7a4_1 : decode cJ0_indexOf_0f7a4 1 = .ok (.iload_n 1, 1) := by decide +kernel
theorem dJ0_indexOf_0f7a4_2 : decode cJ0_indexOf_0f7a4 2 = .ok (.iconst 0, 1) := by decide +kernel
theorem dJ0_indexOf_0f7a4_3 : decode cJ0_indexOf_0f7a4 3 = .ok (.invokevirtual 633, 3) := by decide +kernel
theorem dJ0_indexOf_0f7a4_6 : decode cJ0_indexOf_0f7a4 6 = .ok (.ireturn, 1) := by decide +kernel
noncomputable def F_J0_indexOf_0f7a4 (a1 : Int32) (M : m_M) : Option (Int32 × m_M) :=
  x_bd (F_J0_indexOf_7cf53 a1 (0 : Int32) M) fun v1 M1 =>
  some (v1, M1)
set_option maxHeartbeats 4000000 in
theorem K_J0_indexOf_0f7a4 (a1 : Int32) (M : m_M) (Φ : Option Value → m_M → Prop) (h : m_ok e_I Φ (F_J0_indexOf_0f7a4 a1 M)) : j_Ct yJ0_indexOf_0f7a4 cJ0_indexOf_0f7a4 2 (some .int) 4 0 0 [.ref (1000000 + 22), .int a1] M Φ := by
  refine j_Ct.ofF (by decide +kernel) (Nat.le_of_ble_eq_true rfl) fun X C => ?_
  have C0 := C.1
  show j_J X 2 0 [some (.ref (1000000 + 22)), some (.int a1)] [] (0, 0) M
  unfold F_J0_indexOf_0f7a4 at h
  refine j_aload_n C0 (pc := 0) dJ0_indexOf_0f7a4_0 rfl ?_
  refine j_iload_n C0 (pc := 1) dJ0_indexOf_0f7a4_1 rfl ?_
  refine j_iconst C0 (pc := 2) dJ0_indexOf_0f7a4_2 (v := (0 : Int32)) (by decide) ?_
  refine X_cK C0 (pc := 3) (e' := e_I) (as := [.int a1, .int (0 : Int32)]) (rest := []) (s' := fun w => .int w :: []) (g' := (0, 0)) kq_RJ0_633 (fun Ψ hΨ => K_J0_indexOf_7cf53 a1 (0 : Int32) M Ψ hΨ) rfl rfl (fun _ => rfl) (by decide) (by decide) rfl (Nat.le_of_ble_eq_true rfl) dJ0_indexOf_0f7a4_3 h (fun v1 M1 h => ?_)
  exact j_iret C rfl h dJ0_indexOf_0f7a4_6 (by decide)
theorem dX8_isSign_0 : decode cX8_isSign 0 = .ok (.ldc 84, 2) := by decide +kernel
theorem dX8_isSign_2 : decode cX8_isSign 2 = .ok (.iload_n 0, 1) := by decide +kernel
theorem dX8_isSign_3 : decode cX8_isSign 3 = .ok (.invokevirtual 86, 3) := by decide +kernel
theorem dX8_isSign_6 : decode cX8_isSign 6 = .ok (.ifCond .lt 7, 3) := by decide +kernel
theorem dX8_isSign_9 : decode cX8_isSign 9 = .ok (.iconst 1, 1) := by decide +kernel
theorem dX8_isSign_10 : decode cX8_isSign 10 = .ok (.goto 4, 3) := by decide +kernel
theorem dX8_isSign_13 : decode cX8_isSign 13 = .ok (.iconst 0, 1) := by decide +kernel
theorem dX8_isSign_14 : decode cX8_isSign 14 = .ok (.ireturn, 1) := by decide +kernel
noncomputable def F_X8_isSign (a1 : Int32) (M : m_M) : Option (Int32 × m_M) :=
  x_bd (F_J0_indexOf_0f7a4 a1 M) fun v1 M1 =>
  if v1 < 0 then (
    some ((0 : Int32), M1)
  ) else
  some ((1 : Int32), M1)
set_option maxHeartbeats 4000000 in
theorem K_X8_isSign (a1 : Int32) (M : m_M) (Φ : Option Value → m_M → Prop) (h : m_ok e_I Φ (F_X8_isSign a1 M)) : j_Ct yX8_isSign cX8_isSign 1 (some .boolean) 5 0 0 [.int a1] M Φ := by
  refine j_Ct.of (by decide +kernel) (Nat.le_of_ble_eq_true rfl) fun X C => ?_
  have C0 := C.1
  show j_J X 1 0 [some (.int a1)] [] (0, 0) M
  unfold F_X8_isSign at h
  refine j_kstr C0 (pc := 0) rfl dX8_isSign_0 ?_
  refine j_iload_n C0 (pc := 2) dX8_isSign_2 rfl ?_
  refine X_cK C0 (pc := 3) (e' := e_I) (as := [.int a1]) (rest := []) (s' := fun w => .int w :: []) (g' := (0, 0)) kq_RX8_86 (fun Ψ hΨ => K_J0_indexOf_0f7a4 a1 M Ψ hΨ) rfl rfl (fun _ => rfl) (by decide) (by decide) rfl (Nat.le_of_ble_eq_true rfl) dX8_isSign_3 h (fun v1 M1 h => ?_)
  refine j_if_lt C0 (pc := 6) (tgt := 13) dX8_isSign_6 (by decide) (fun hc => ?_) (fun hc => ?_)
  · replace h := (X_if h).1 hc
    refine j_iconst C0 (pc := 13) dX8_isSign_13 (v := (0 : Int32)) (by decide) ?_
    exact j_zret C rfl (by decide) h dX8_isSign_14 (by decide)
  · replace h := (X_if h).2 hc
    refine j_iconst C0 (pc := 9) dX8_isSign_9 (v := (1 : Int32)) (by decide) ?_
    refine j_goto C0 (pc := 10) (tgt := 14) dX8_isSign_10 (by decide) ?_
    exact j_zret C rfl (by decide) h dX8_isSign_14 (by decide)
theorem dX8_advance_0 : decode cX8_advance 0 = .ok (.aload_n 0, 1) := by decide +kernel
theorem dX8_advance_1 : decode cX8_advance 1 = .ok (.invokevirtual 34, 3) := by decide +kernel
theorem dX8_advance_4 : decode cX8_advance 4 = .ok (.aload_n 0, 1) := by decide +kernel
theorem dX8_advance_5 : decode cX8_advance 5 = .ok (.aload_n 0, 1) := by decide +kernel
theorem dX8_advance_6 : decode cX8_advance 6 = .ok (.getfield 25, 3) := by decide +kernel
theorem dX8_advance_9 : decode cX8_advance 9 = .ok (.putfield 37, 3) := by decide +kernel
theorem dX8_advance_12 : decode cX8_advance 12 = .ok (.aload_n 0, 1) := by decide +kernel
theorem dX8_advance_13 : decode cX8_advance 13 = .ok (.aconst_null, 1) := by decide +kernel
theorem dX8_advance_14 : decode cX8_advance 14 = .ok (.putfield 40, 3) := by decide +kernel
theorem dX8_advance_17 : decode cX8_advance 17 = .ok (.aload_n 0, 1) := by decide +kernel
theorem dX8_advance_18 : decode cX8_advance 18 = .ok (.getfield 37, 3) := by decide +kernel
theorem dX8_advance_21 : decode cX8_advance 21 = .ok (.aload_n 0, 1) := by decide +kernel
theorem dX8_advance_22 : decode cX8_advance 22 = .ok (.getfield 21, 3) := by decide +kernel
theorem dX8_advance_25 : decode cX8_advance 25 = .ok (.if_icmp .lt 11, 3) := by decide +kernel
theorem dX8_advance_28 : decode cX8_advance 28 = .ok (.aload_n 0, 1) := by decide +kernel
theorem dX8_advance_29 : decode cX8_advance 29 = .ok (.iconst 0, 1) := by decide +kernel
theorem dX8_advance_30 : decode cX8_advance 30 = .ok (.putfield 44, 3) := by decide +kernel
theorem dX8_advance_33 : decode cX8_advance 33 = .ok (.goto 89, 3) := by decide +kernel
theorem dX8_advance_36 : decode cX8_advance 36 = .ok (.aload_n 0, 1) := by decide +kernel
theorem dX8_advance_37 : decode cX8_advance 37 = .ok (.getfield 9, 3) := by decide +kernel
theorem dX8_advance_40 : decode cX8_advance 40 = .ok (.aload_n 0, 1) := by decide +kernel
theorem dX8_advance_41 : decode cX8_advance 41 = .ok (.getfield 37, 3) := by decide +kernel
theorem dX8_advance_44 : decode cX8_advance 44 = .ok (.caload, 1) := by decide +kernel
theorem dX8_advance_45 : decode cX8_advance 45 = .ok (.invokestatic 47, 3) := by decide +kernel
theorem dX8_advance_48 : decode cX8_advance 48 = .ok (.ifCond .eq 10, 3) := by decide +kernel
theorem dX8_advance_51 : decode cX8_advance 51 = .ok (.aload_n 0, 1) := by decide +kernel
theorem dX8_advance_52 : decode cX8_advance 52 = .ok (.invokevirtual 51, 3) := by decide +kernel
theorem dX8_advance_55 : decode cX8_advance 55 = .ok (.goto 67, 3) := by decide +kernel
theorem dX8_advance_58 : decode cX8_advance 58 = .ok (.aload_n 0, 1) := by decide +kernel
theorem dX8_advance_59 : decode cX8_advance 59 = .ok (.getfield 9, 3) := by decide +kernel
theorem dX8_advance_62 : decode cX8_advance 62 = .ok (.aload_n 0, 1) := by decide +kernel
theorem dX8_advance_63 : decode cX8_advance 63 = .ok (.getfield 37, 3) := by decide +kernel
theorem dX8_advance_66 : decode cX8_advance 66 = .ok (.caload, 1) := by decide +kernel
theorem dX8_advance_67 : decode cX8_advance 67 = .ok (.invokestatic 54, 3) := by decide +kernel
theorem dX8_advance_70 : decode cX8_advance 70 = .ok (.ifCond .eq 10, 3) := by decide +kernel
theorem dX8_advance_73 : decode cX8_advance 73 = .ok (.aload_n 0, 1) := by decide +kernel
theorem dX8_advance_74 : decode cX8_advance 74 = .ok (.invokevirtual 57, 3) := by decide +kernel
theorem dX8_advance_77 : decode cX8_advance 77 = .ok (.goto 45, 3) := by decide +kernel
theorem dX8_advance_80 : decode cX8_advance 80 = .ok (.aload_n 0, 1) := by decide +kernel
theorem dX8_advance_81 : decode cX8_advance 81 = .ok (.aload_n 0, 1) := by decide +kernel
theorem dX8_advance_82 : decode cX8_advance 82 = .ok (.getfield 9, 3) := by decide +kernel
theorem dX8_advance_85 : decode cX8_advance 85 = .ok (.aload_n 0, 1) := by decide +kernel
theorem dX8_advance_86 : decode cX8_advance 86 = .ok (.getfield 37, 3) := by decide +kernel
theorem dX8_advance_89 : decode cX8_advance 89 = .ok (.caload, 1) := by decide +kernel
theorem dX8_advance_90 : decode cX8_advance 90 = .ok (.putfield 60, 3) := by decide +kernel
theorem dX8_advance_93 : decode cX8_advance 93 = .ok (.aload_n 0, 1) := by decide +kernel
theorem dX8_advance_94 : decode cX8_advance 94 = .ok (.aload_n 0, 1) := by decide +kernel
theorem dX8_advance_95 : decode cX8_advance 95 = .ok (.getfield 60, 3) := by decide +kernel
theorem dX8_advance_98 : decode cX8_advance 98 = .ok (.invokestatic 64, 3) := by decide +kernel
theorem dX8_advance_101 : decode cX8_advance 101 = .ok (.ifCond .eq 7, 3) := by decide +kernel
theorem dX8_advance_104 : decode cX8_advance 104 = .ok (.iconst 4, 1) := by decide +kernel
theorem dX8_advance_105 : decode cX8_advance 105 = .ok (.goto 4, 3) := by decide +kernel
theorem dX8_advance_108 : decode cX8_advance 108 = .ok (.iconst 1, 1) := by decide +kernel
theorem dX8_advance_109 : decode cX8_advance 109 = .ok (.putfield 44, 3) := by decide +kernel
theorem dX8_advance_112 : decode cX8_advance 112 = .ok (.aload_n 0, 1) := by decide +kernel
theorem dX8_advance_113 : decode cX8_advance 113 = .ok (.aload_n 0, 1) := by decide +kernel
theorem dX8_advance_114 : decode cX8_advance 114 = .ok (.getfield 37, 3) := by decide +kernel
theorem dX8_advance_117 : decode cX8_advance 117 = .ok (.iconst 1, 1) := by decide +kernel
theorem dX8_advance_118 : decode cX8_advance 118 = .ok (.iadd, 1) := by decide +kernel
theorem dX8_advance_119 : decode cX8_advance 119 = .ok (.putfield 25, 3) := by decide +kernel
theorem dX8_advance_122 : decode cX8_advance 122 = .ok (.return_, 1) := by decide +kernel
noncomputable def F_X8_advance (kd : Nat) (a0 : Nat) (M : m_M) : Option (Unit × m_M) :=
  x_cV kd M a0 (F_X8_skipBlanks kd a0 M) fun _ M1 =>
  x_gI kd M1 a0 3 fun v1 =>
  x_pI kd M1 a0 2 v1 fun M2 =>
  x_pR kd M2 a0 8 none fun M3 =>
  x_gI kd M3 a0 2 fun v2 =>
  x_gI kd M3 a0 1 fun v3 =>
  if v2 < v3 then (
    x_gN kd M3 a0 0 fun v4 =>
    x_gI kd M3 a0 2 fun v5 =>
    x_aI 11 M3 v4 v5 fun v6 =>
    x_bd (F_X8_isLetter v6 M3) fun v7 M4 =>
    if v7 = 0 then (
      x_gN kd M4 a0 0 fun v8 =>
      x_gI kd M4 a0 2 fun v9 =>
      x_aI 11 M4 v8 v9 fun v10 =>
      x_bd (F_X8_isDigit v10 M4) fun v11 M5 =>
      if v11 = 0 then (
        m_let (fun (v12 : Nat) (v13 : Nat) (v14 : Int32) (M6 : m_M) =>
          x_pI kd M6 v13 4 v14 fun M7 =>
          x_gI kd M7 v12 2 fun v15 =>
          x_pI kd M7 v12 3 (v15 + (1 : Int32)) fun M8 =>
          some ((), M8)
        ) fun (k109 : Nat → Nat → Int32 → m_M → Option (Unit × m_M)) =>
        x_gN kd M5 a0 0 fun v16 =>
        x_gI kd M5 a0 2 fun v17 =>
        x_aI 11 M5 v16 v17 fun v18 =>
        x_c v18 <| x_pI kd M5 a0 6 v18 fun M9 =>
        x_gI kd M9 a0 6 fun v19 =>
        x_bd (F_X8_isSign v19 M9) fun v20 M10 =>
        if v20 = 0 then (
          k109 a0 a0 (1 : Int32) M10
        ) else
        k109 a0 a0 (4 : Int32) M10
      ) else
      x_cV kd M5 a0 (F_X8_scanNumber kd a0 M5) fun _ M11 =>
      some ((), M11)
    ) else
    x_cV kd M4 a0 (F_X8_scanWord kd a0 M4) fun _ M12 =>
    some ((), M12)
  ) else
  x_pI kd M3 a0 4 (0 : Int32) fun M13 =>
  some ((), M13)
set_option maxHeartbeats 4000000 in
theorem K_X8_advance_4 (a0 : Nat) (M : m_M) (Φ : Option Value → m_M → Prop) (h : m_ok e_V Φ (F_X8_advance 4 a0 M)) : j_Ct yX8_advance cX8_advance 1 none 6 0 0 [.ref a0] M Φ := by
  refine j_Ct.of (by decide +kernel) (Nat.le_of_ble_eq_true rfl) fun X C => ?_
  have C0 := C.1
  show j_J X 1 0 [some (.ref a0)] [] (0, 0) M
  unfold F_X8_advance at h
  refine j_aload_n C0 (pc := 0) dX8_advance_0 rfl ?_
  refine X_cV C0 (pc := 1) (e' := e_V) (as := []) (rest := []) (s' := fun _ => []) (g' := (0, 0)) p_Tok_34_4 (fun Ψ hΨ => K_X8_skipBlanks_4 a0 M Ψ hΨ) rfl rfl (fun _ => rfl) (by decide) (by decide) rfl (Nat.le_of_ble_eq_true rfl) dX8_advance_1 h (fun _ M1 h => ?_)
  refine j_aload_n C0 (pc := 4) dX8_advance_4 rfl ?_
  refine j_aload_n C0 (pc := 5) dX8_advance_5 rfl ?_
  refine X_gI C0 (pc := 6) f_Tok_25_4 rfl dX8_advance_6 h (fun v1 h => ?_)
  refine X_pI C0 (pc := 9) f_Tok_37_4 rfl rfl dX8_advance_9 h (fun M2 h => ?_)
  refine j_aload_n C0 (pc := 12) dX8_advance_12 rfl ?_
  refine j_null C0 (pc := 13) dX8_advance_13 ?_
  refine X_pO (z := none) C0 (pc := 14) f_Tok_40_4 (Or.inl ⟨_, rfl⟩) rfl dX8_advance_14 h (fun M3 h => ?_)
  refine j_aload_n C0 (pc := 17) dX8_advance_17 rfl ?_
  refine X_gI C0 (pc := 18) f_Tok_37_4 rfl dX8_advance_18 h (fun v2 h => ?_)
  refine j_aload_n C0 (pc := 21) dX8_advance_21 rfl ?_
  refine X_gI C0 (pc := 22) f_Tok_21_4 rfl dX8_advance_22 h (fun v3 h => ?_)
  refine j_icmp_lt C0 (pc := 25) (tgt := 36) dX8_advance_25 (by decide) (fun hc => ?_) (fun hc => ?_)
  · replace h := (X_if h).1 hc
    refine j_aload_n C0 (pc := 36) dX8_advance_36 rfl ?_
    refine X_gN C0 (pc := 37) f_Tok_9_4 rfl dX8_advance_37 h (fun v4 h => ?_)
    refine j_aload_n C0 (pc := 40) dX8_advance_40 rfl ?_
    refine X_gI C0 (pc := 41) f_Tok_37_4 rfl dX8_advance_41 h (fun v5 h => ?_)
    refine X_cald C0 (pc := 44) dX8_advance_44 h (fun v6 h => ?_)
    refine X_cS C0 (pc := 45) (e' := e_I) (as := [.int v6]) (rest := []) (s' := fun w => .int w :: []) (g' := (0, 0)) s_Tok_47 (fun Ψ hΨ => K_X8_isLetter v6 M3 Ψ hΨ) rfl rfl (fun _ => rfl) (by decide) (by decide) rfl (Nat.le_of_ble_eq_true rfl) dX8_advance_45 h (fun v7 M4 h => ?_)
    refine j_if_eq C0 (pc := 48) (tgt := 58) dX8_advance_48 (by decide) (fun hc => ?_) (fun hc => ?_)
    · replace h := (X_if h).1 hc
      refine j_aload_n C0 (pc := 58) dX8_advance_58 rfl ?_
      refine X_gN C0 (pc := 59) f_Tok_9_4 rfl dX8_advance_59 h (fun v8 h => ?_)
      refine j_aload_n C0 (pc := 62) dX8_advance_62 rfl ?_
      refine X_gI C0 (pc := 63) f_Tok_37_4 rfl dX8_advance_63 h (fun v9 h => ?_)
      refine X_cald C0 (pc := 66) dX8_advance_66 h (fun v10 h => ?_)
      refine X_cS C0 (pc := 67) (e' := e_I) (as := [.int v10]) (rest := []) (s' := fun w => .int w :: []) (g' := (0, 0)) s_Tok_54 (fun Ψ hΨ => K_X8_isDigit v10 M4 Ψ hΨ) rfl rfl (fun _ => rfl) (by decide) (by decide) rfl (Nat.le_of_ble_eq_true rfl) dX8_advance_67 h (fun v11 M5 h => ?_)
      refine j_if_eq C0 (pc := 70) (tgt := 80) dX8_advance_70 (by decide) (fun hc => ?_) (fun hc => ?_)
      · replace h := (X_if h).1 hc
        refine X_join (fun (kj : Nat → Nat → Int32 → m_M → Option (Unit × m_M)) => ∀ (p0 : Nat) (p1 : Nat) (p2 : Int32) (M : m_M), m_ok e_V Φ (kj p0 p1 p2 M) → j_J X 1 109 [some (.ref p0)] [.int p2, .ref p1] (0, 0) M) h (fun v12 v13 v14 M6 h => ?_) (fun k109 hk109 h => ?_)
        · refine X_pI C0 (pc := 109) f_Tok_44_4 rfl rfl dX8_advance_109 h (fun M7 h => ?_)
          refine j_aload_n C0 (pc := 112) dX8_advance_112 rfl ?_
          refine j_aload_n C0 (pc := 113) dX8_advance_113 rfl ?_
          refine X_gI C0 (pc := 114) f_Tok_37_4 rfl dX8_advance_114 h (fun v15 h => ?_)
          refine j_iconst C0 (pc := 117) dX8_advance_117 (v := (1 : Int32)) (by decide) ?_
          refine j_iadd C0 (pc := 118) dX8_advance_118 ?_
          refine X_pI C0 (pc := 119) f_Tok_25_4 rfl rfl dX8_advance_119 h (fun M8 h => ?_)
          exact j_vret C rfl h dX8_advance_122 (by decide)
        · refine j_aload_n C0 (pc := 80) dX8_advance_80 rfl ?_
          refine j_aload_n C0 (pc := 81) dX8_advance_81 rfl ?_
          refine X_gN C0 (pc := 82) f_Tok_9_4 rfl dX8_advance_82 h (fun v16 h => ?_)
          refine j_aload_n C0 (pc := 85) dX8_advance_85 rfl ?_
          refine X_gI C0 (pc := 86) f_Tok_37_4 rfl dX8_advance_86 h (fun v17 h => ?_)
          refine X_cald C0 (pc := 89) dX8_advance_89 h (fun v18 h => ?_)
          refine X_pCc C0 (pc := 90) f_Tok_60_4 rfl rfl dX8_advance_90 h (fun M9 h => ?_)
          refine j_aload_n C0 (pc := 93) dX8_advance_93 rfl ?_
          refine j_aload_n C0 (pc := 94) dX8_advance_94 rfl ?_
          refine X_gI C0 (pc := 95) f_Tok_60_4 rfl dX8_advance_95 h (fun v19 h => ?_)
          refine X_cS C0 (pc := 98) (e' := e_I) (as := [.int v19]) (rest := [.ref a0]) (s' := fun w => .int w :: [.ref a0]) (g' := (0, 0)) s_Tok_64 (fun Ψ hΨ => K_X8_isSign v19 M9 Ψ hΨ) rfl rfl (fun _ => rfl) (by decide) (by decide) rfl (Nat.le_of_ble_eq_true rfl) dX8_advance_98 h (fun v20 M10 h => ?_)
          refine j_if_eq C0 (pc := 101) (tgt := 108) dX8_advance_101 (by decide) (fun hc => ?_) (fun hc => ?_)
          · replace h := (X_if h).1 hc
            refine j_iconst C0 (pc := 108) dX8_advance_108 (v := (1 : Int32)) (by decide) ?_
            exact j_J.wq (hk109 a0 a0 (1 : Int32) M10 h) (And.intro rfl (trivial))
          · replace h := (X_if h).2 hc
            refine j_iconst C0 (pc := 104) dX8_advance_104 (v := (4 : Int32)) (by decide) ?_
            refine j_goto C0 (pc := 105) (tgt := 109) dX8_advance_105 (by decide) ?_
            exact j_J.wq (hk109 a0 a0 (4 : Int32) M10 h) (And.intro rfl (trivial))
      · replace h := (X_if h).2 hc
        refine j_aload_n C0 (pc := 73) dX8_advance_73 rfl ?_
        refine X_cV C0 (pc := 74) (e' := e_V) (as := []) (rest := []) (s' := fun _ => []) (g' := (0, 0)) p_Tok_57_4 (fun Ψ hΨ => K_X8_scanNumber_4 a0 M5 Ψ hΨ) rfl rfl (fun _ => rfl) (by decide) (by decide) rfl (Nat.le_of_ble_eq_true rfl) dX8_advance_74 h (fun _ M11 h => ?_)
        refine j_goto C0 (pc := 77) (tgt := 122) dX8_advance_77 (by decide) ?_
        exact j_vret C rfl h dX8_advance_122 (by decide)
    · replace h := (X_if h).2 hc
      refine j_aload_n C0 (pc := 51) dX8_advance_51 rfl ?_
      refine X_cV C0 (pc := 52) (e' := e_V) (as := []) (rest := []) (s' := fun _ => []) (g' := (0, 0)) p_Tok_51_4 (fun Ψ hΨ => K_X8_scanWord_4 a0 M4 Ψ hΨ) rfl rfl (fun _ => rfl) (by decide) (by decide) rfl (Nat.le_of_ble_eq_true rfl) dX8_advance_52 h (fun _ M12 h => ?_)
      refine j_goto C0 (pc := 55) (tgt := 122) dX8_advance_55 (by decide) ?_
      exact j_vret C rfl h dX8_advance_122 (by decide)
  · replace h := (X_if h).2 hc
    refine j_aload_n C0 (pc := 28) dX8_advance_28 rfl ?_
    refine j_iconst C0 (pc := 29) dX8_advance_29 (v := (0 : Int32)) (by decide) ?_
    refine X_pI C0 (pc := 30) f_Tok_44_4 rfl rfl dX8_advance_30 h (fun M13 h => ?_)
    refine j_goto C0 (pc := 33) (tgt := 122) dX8_advance_33 (by decide) ?_
    exact j_vret C rfl h dX8_advance_122 (by decide)
set_option maxHeartbeats 4000000 in
theorem K_X8_advance_7 (a0 : Nat) (M : m_M) (Φ : Option Value → m_M → Prop) (h : m_ok e_V Φ (F_X8_advance 7 a0 M)) : j_Ct yX8_advance cX8_advance 1 none 6 0 0 [.ref a0] M Φ := by
  refine j_Ct.of (by decide +kernel) (Nat.le_of_ble_eq_true rfl) fun X C => ?_
  have C0 := C.1
  show j_J X 1 0 [some (.ref a0)] [] (0, 0) M
  unfold F_X8_advance at h
  refine j_aload_n C0 (pc := 0) dX8_advance_0 rfl ?_
  refine X_cV C0 (pc := 1) (e' := e_V) (as := []) (rest := []) (s' := fun _ => []) (g' := (0, 0)) p_Tok_34_7 (fun Ψ hΨ => K_X8_skipBlanks_7 a0 M Ψ hΨ) rfl rfl (fun _ => rfl) (by decide) (by decide) rfl (Nat.le_of_ble_eq_true rfl) dX8_advance_1 h (fun _ M1 h => ?_)
  refine j_aload_n C0 (pc := 4) dX8_advance_4 rfl ?_
  refine j_aload_n C0 (pc := 5) dX8_advance_5 rfl ?_
  refine X_gI C0 (pc := 6) f_Tok_25_7 rfl dX8_advance_6 h (fun v1 h => ?_)
  refine X_pI C0 (pc := 9) f_Tok_37_7 rfl rfl dX8_advance_9 h (fun M2 h => ?_)
  refine j_aload_n C0 (pc := 12) dX8_advance_12 rfl ?_
  refine j_null C0 (pc := 13) dX8_advance_13 ?_
  refine X_pO (z := none) C0 (pc := 14) f_Tok_40_7 (Or.inl ⟨_, rfl⟩) rfl dX8_advance_14 h (fun M3 h => ?_)
  refine j_aload_n C0 (pc := 17) dX8_advance_17 rfl ?_
  refine X_gI C0 (pc := 18) f_Tok_37_7 rfl dX8_advance_18 h (fun v2 h => ?_)
  refine j_aload_n C0 (pc := 21) dX8_advance_21 rfl ?_
  refine X_gI C0 (pc := 22) f_Tok_21_7 rfl dX8_advance_22 h (fun v3 h => ?_)
  refine j_icmp_lt C0 (pc := 25) (tgt := 36) dX8_advance_25 (by decide) (fun hc => ?_) (fun hc => ?_)
  · replace h := (X_if h).1 hc
    refine j_aload_n C0 (pc := 36) dX8_advance_36 rfl ?_
    refine X_gN C0 (pc := 37) f_Tok_9_7 rfl dX8_advance_37 h (fun v4 h => ?_)
    refine j_aload_n C0 (pc := 40) dX8_advance_40 rfl ?_
    refine X_gI C0 (pc := 41) f_Tok_37_7 rfl dX8_advance_41 h (fun v5 h => ?_)
    refine X_cald C0 (pc := 44) dX8_advance_44 h (fun v6 h => ?_)
    refine X_cS C0 (pc := 45) (e' := e_I) (as := [.int v6]) (rest := []) (s' := fun w => .int w :: []) (g' := (0, 0)) s_Tok_47 (fun Ψ hΨ => K_X8_isLetter v6 M3 Ψ hΨ) rfl rfl (fun _ => rfl) (by decide) (by decide) rfl (Nat.le_of_ble_eq_true rfl) dX8_advance_45 h (fun v7 M4 h => ?_)
    refine j_if_eq C0 (pc := 48) (tgt := 58) dX8_advance_48 (by decide) (fun hc => ?_) (fun hc => ?_)
    · replace h := (X_if h).1 hc
      refine j_aload_n C0 (pc := 58) dX8_advance_58 rfl ?_
      refine X_gN C0 (pc := 59) f_Tok_9_7 rfl dX8_advance_59 h (fun v8 h => ?_)
      refine j_aload_n C0 (pc := 62) dX8_advance_62 rfl ?_
      refine X_gI C0 (pc := 63) f_Tok_37_7 rfl dX8_advance_63 h (fun v9 h => ?_)
      refine X_cald C0 (pc := 66) dX8_advance_66 h (fun v10 h => ?_)
      refine X_cS C0 (pc := 67) (e' := e_I) (as := [.int v10]) (rest := []) (s' := fun w => .int w :: []) (g' := (0, 0)) s_Tok_54 (fun Ψ hΨ => K_X8_isDigit v10 M4 Ψ hΨ) rfl rfl (fun _ => rfl) (by decide) (by decide) rfl (Nat.le_of_ble_eq_true rfl) dX8_advance_67 h (fun v11 M5 h => ?_)
      refine j_if_eq C0 (pc := 70) (tgt := 80) dX8_advance_70 (by decide) (fun hc => ?_) (fun hc => ?_)
      · replace h := (X_if h).1 hc
        refine X_join (fun (kj : Nat → Nat → Int32 → m_M → Option (Unit × m_M)) => ∀ (p0 : Nat) (p1 : Nat) (p2 : Int32) (M : m_M), m_ok e_V Φ (kj p0 p1 p2 M) → j_J X 1 109 [some (.ref p0)] [.int p2, .ref p1] (0, 0) M) h (fun v12 v13 v14 M6 h => ?_) (fun k109 hk109 h => ?_)
        · refine X_pI C0 (pc := 109) f_Tok_44_7 rfl rfl dX8_advance_109 h (fun M7 h => ?_)
          refine j_aload_n C0 (pc := 112) dX8_advance_112 rfl ?_
          refine j_aload_n C0 (pc := 113) dX8_advance_113 rfl ?_
          refine X_gI C0 (pc := 114) f_Tok_37_7 rfl dX8_advance_114 h (fun v15 h => ?_)
          refine j_iconst C0 (pc := 117) dX8_advance_117 (v := (1 : Int32)) (by decide) ?_
          refine j_iadd C0 (pc := 118) dX8_advance_118 ?_
          refine X_pI C0 (pc := 119) f_Tok_25_7 rfl rfl dX8_advance_119 h (fun M8 h => ?_)
          exact j_vret C rfl h dX8_advance_122 (by decide)
        · refine j_aload_n C0 (pc := 80) dX8_advance_80 rfl ?_
          refine j_aload_n C0 (pc := 81) dX8_advance_81 rfl ?_
          refine X_gN C0 (pc := 82) f_Tok_9_7 rfl dX8_advance_82 h (fun v16 h => ?_)
          refine j_aload_n C0 (pc := 85) dX8_advance_85 rfl ?_
          refine X_gI C0 (pc := 86) f_Tok_37_7 rfl dX8_advance_86 h (fun v17 h => ?_)
          refine X_cald C0 (pc := 89) dX8_advance_89 h (fun v18 h => ?_)
          refine X_pCc C0 (pc := 90) f_Tok_60_7 rfl rfl dX8_advance_90 h (fun M9 h => ?_)
          refine j_aload_n C0 (pc := 93) dX8_advance_93 rfl ?_
          refine j_aload_n C0 (pc := 94) dX8_advance_94 rfl ?_
          refine X_gI C0 (pc := 95) f_Tok_60_7 rfl dX8_advance_95 h (fun v19 h => ?_)
          refine X_cS C0 (pc := 98) (e' := e_I) (as := [.int v19]) (rest := [.ref a0]) (s' := fun w => .int w :: [.ref a0]) (g' := (0, 0)) s_Tok_64 (fun Ψ hΨ => K_X8_isSign v19 M9 Ψ hΨ) rfl rfl (fun _ => rfl) (by decide) (by decide) rfl (Nat.le_of_ble_eq_true rfl) dX8_advance_98 h (fun v20 M10 h => ?_)
          refine j_if_eq C0 (pc := 101) (tgt := 108) dX8_advance_101 (by decide) (fun hc => ?_) (fun hc => ?_)
          · replace h := (X_if h).1 hc
            refine j_iconst C0 (pc := 108) dX8_advance_108 (v := (1 : Int32)) (by decide) ?_
            exact j_J.wq (hk109 a0 a0 (1 : Int32) M10 h) (And.intro rfl (trivial))
          · replace h := (X_if h).2 hc
            refine j_iconst C0 (pc := 104) dX8_advance_104 (v := (4 : Int32)) (by decide) ?_
            refine j_goto C0 (pc := 105) (tgt := 109) dX8_advance_105 (by decide) ?_
            exact j_J.wq (hk109 a0 a0 (4 : Int32) M10 h) (And.intro rfl (trivial))
      · replace h := (X_if h).2 hc
        refine j_aload_n C0 (pc := 73) dX8_advance_73 rfl ?_
        refine X_cV C0 (pc := 74) (e' := e_V) (as := []) (rest := []) (s' := fun _ => []) (g' := (0, 0)) p_Tok_57_7 (fun Ψ hΨ => K_X8_scanNumber_7 a0 M5 Ψ hΨ) rfl rfl (fun _ => rfl) (by decide) (by decide) rfl (Nat.le_of_ble_eq_true rfl) dX8_advance_74 h (fun _ M11 h => ?_)
        refine j_goto C0 (pc := 77) (tgt := 122) dX8_advance_77 (by decide) ?_
        exact j_vret C rfl h dX8_advance_122 (by decide)
    · replace h := (X_if h).2 hc
      refine j_aload_n C0 (pc := 51) dX8_advance_51 rfl ?_
      refine X_cV C0 (pc := 52) (e' := e_V) (as := []) (rest := []) (s' := fun _ => []) (g' := (0, 0)) p_Tok_51_7 (fun Ψ hΨ => K_X8_scanWord_7 a0 M4 Ψ hΨ) rfl rfl (fun _ => rfl) (by decide) (by decide) rfl (Nat.le_of_ble_eq_true rfl) dX8_advance_52 h (fun _ M12 h => ?_)
      refine j_goto C0 (pc := 55) (tgt := 122) dX8_advance_55 (by decide) ?_
      exact j_vret C rfl h dX8_advance_122 (by decide)
  · replace h := (X_if h).2 hc
    refine j_aload_n C0 (pc := 28) dX8_advance_28 rfl ?_
    refine j_iconst C0 (pc := 29) dX8_advance_29 (v := (0 : Int32)) (by decide) ?_
    refine X_pI C0 (pc := 30) f_Tok_44_7 rfl rfl dX8_advance_30 h (fun M13 h => ?_)
    refine j_goto C0 (pc := 33) (tgt := 122) dX8_advance_33 (by decide) ?_
    exact j_vret C rfl h dX8_advance_122 (by decide)
theorem dX8_open_0 : decode cX8_open 0 = .ok (.aload_n 0, 1) := by decide +kernel
theorem dX8_open_1 : decode cX8_open 1 = .ok (.iload_n 1, 1) := by decide +kernel
theorem dX8_open_2 : decode cX8_open 2 = .ok (.aload_n 0, 1) := by decide +kernel
theorem dX8_open_3 : decode cX8_open 3 = .ok (.getfield 9, 3) := by decide +kernel
theorem dX8_open_6 : decode cX8_open 6 = .ok (.arraylength, 1) := by decide +kernel
theorem dX8_open_7 : decode cX8_open 7 = .ok (.invokestatic 15, 3) := by decide +kernel
theorem dX8_open_10 : decode cX8_open 10 = .ok (.putfield 21, 3) := by decide +kernel
theorem dX8_open_13 : decode cX8_open 13 = .ok (.aload_n 0, 1) := by decide +kernel
theorem dX8_open_14 : decode cX8_open 14 = .ok (.iconst 0, 1) := by decide +kernel
theorem dX8_open_15 : decode cX8_open 15 = .ok (.putfield 25, 3) := by decide +kernel
theorem dX8_open_18 : decode cX8_open 18 = .ok (.aload_n 0, 1) := by decide +kernel
theorem dX8_open_19 : decode cX8_open 19 = .ok (.iconst 0, 1) := by decide +kernel
theorem dX8_open_20 : decode cX8_open 20 = .ok (.putfield 28, 3) := by decide +kernel
theorem dX8_open_23 : decode cX8_open 23 = .ok (.aload_n 0, 1) := by decide +kernel
theorem dX8_open_24 : decode cX8_open 24 = .ok (.invokevirtual 31, 3) := by decide +kernel
theorem dX8_open_27 : decode cX8_open 27 = .ok (.return_, 1) := by decide +kernel
noncomputable def F_X8_open (kd : Nat) (a0 : Nat) (a1 : Int32) (M : m_M) : Option (Unit × m_M) :=
  x_gN kd M a0 0 fun v1 =>
  x_len 11 M v1 fun v2 =>
  x_bd (F_J9_min_7cf53 a1 v2 M) fun v3 M1 =>
  x_pI kd M1 a0 1 v3 fun M2 =>
  x_pI kd M2 a0 3 (0 : Int32) fun M3 =>
  x_pI kd M3 a0 9 (0 : Int32) fun M4 =>
  x_cV kd M4 a0 (F_X8_advance kd a0 M4) fun _ M5 =>
  some ((), M5)
set_option maxHeartbeats 4000000 in
theorem K_X8_open_4 (a0 : Nat) (a1 : Int32) (M : m_M) (Φ : Option Value → m_M → Prop) (h : m_ok e_V Φ (F_X8_open 4 a0 a1 M)) : j_Ct yX8_open cX8_open 2 none 7 0 0 [.ref a0, .int a1] M Φ := by
  refine j_Ct.of (by decide +kernel) (Nat.le_of_ble_eq_true rfl) fun X C => ?_
  have C0 := C.1
  show j_J X 2 0 [some (.ref a0), some (.int a1)] [] (0, 0) M
  unfold F_X8_open at h
  refine j_aload_n C0 (pc := 0) dX8_open_0 rfl ?_
  refine j_iload_n C0 (pc := 1) dX8_open_1 rfl ?_
  refine j_aload_n C0 (pc := 2) dX8_open_2 rfl ?_
  refine X_gN C0 (pc := 3) f_Tok_9_4 rfl dX8_open_3 h (fun v1 h => ?_)
  refine X_alen C0 (pc := 6) (by decide) dX8_open_6 h (fun v2 h => ?_)
  refine X_cS C0 (pc := 7) (e' := e_I) (as := [.int a1, .int v2]) (rest := [.ref a0]) (s' := fun w => .int w :: [.ref a0]) (g' := (0, 0)) s_Tok_15 (fun Ψ hΨ => K_J9_min_7cf53 a1 v2 M Ψ hΨ) rfl rfl (fun _ => rfl) (by decide) (by decide) rfl (Nat.le_of_ble_eq_true rfl) dX8_open_7 h (fun v3 M1 h => ?_)
  refine X_pI C0 (pc := 10) f_Tok_21_4 rfl rfl dX8_open_10 h (fun M2 h => ?_)
  refine j_aload_n C0 (pc := 13) dX8_open_13 rfl ?_
  refine j_iconst C0 (pc := 14) dX8_open_14 (v := (0 : Int32)) (by decide) ?_
  refine X_pI C0 (pc := 15) f_Tok_25_4 rfl rfl dX8_open_15 h (fun M3 h => ?_)
  refine j_aload_n C0 (pc := 18) dX8_open_18 rfl ?_
  refine j_iconst C0 (pc := 19) dX8_open_19 (v := (0 : Int32)) (by decide) ?_
  refine X_pI C0 (pc := 20) f_Tok_28_4 rfl rfl dX8_open_20 h (fun M4 h => ?_)
  refine j_aload_n C0 (pc := 23) dX8_open_23 rfl ?_
  refine X_cV C0 (pc := 24) (e' := e_V) (as := []) (rest := []) (s' := fun _ => []) (g' := (0, 0)) v_Tok_31_4 (fun Ψ hΨ => K_X8_advance_4 a0 M4 Ψ hΨ) rfl rfl (fun _ => rfl) (by decide) (by decide) rfl (Nat.le_of_ble_eq_true rfl) dX8_open_24 h (fun _ M5 h => ?_)
  exact j_vret C rfl h dX8_open_27 (by decide)
set_option maxHeartbeats 4000000 in
theorem K_X8_open_7 (a0 : Nat) (a1 : Int32) (M : m_M) (Φ : Option Value → m_M → Prop) (h : m_ok e_V Φ (F_X8_open 7 a0 a1 M)) : j_Ct yX8_open cX8_open 2 none 7 0 0 [.ref a0, .int a1] M Φ := by
  refine j_Ct.of (by decide +kernel) (Nat.le_of_ble_eq_true rfl) fun X C => ?_
  have C0 := C.1
  show j_J X 2 0 [some (.ref a0), some (.int a1)] [] (0, 0) M
  unfold F_X8_open at h
  refine j_aload_n C0 (pc := 0) dX8_open_0 rfl ?_
  refine j_iload_n C0 (pc := 1) dX8_open_1 rfl ?_
  refine j_aload_n C0 (pc := 2) dX8_open_2 rfl ?_
  refine X_gN C0 (pc := 3) f_Tok_9_7 rfl dX8_open_3 h (fun v1 h => ?_)
  refine X_alen C0 (pc := 6) (by decide) dX8_open_6 h (fun v2 h => ?_)
  refine X_cS C0 (pc := 7) (e' := e_I) (as := [.int a1, .int v2]) (rest := [.ref a0]) (s' := fun w => .int w :: [.ref a0]) (g' := (0, 0)) s_Tok_15 (fun Ψ hΨ => K_J9_min_7cf53 a1 v2 M Ψ hΨ) rfl rfl (fun _ => rfl) (by decide) (by decide) rfl (Nat.le_of_ble_eq_true rfl) dX8_open_7 h (fun v3 M1 h => ?_)
  refine X_pI C0 (pc := 10) f_Tok_21_7 rfl rfl dX8_open_10 h (fun M2 h => ?_)
  refine j_aload_n C0 (pc := 13) dX8_open_13 rfl ?_
  refine j_iconst C0 (pc := 14) dX8_open_14 (v := (0 : Int32)) (by decide) ?_
  refine X_pI C0 (pc := 15) f_Tok_25_7 rfl rfl dX8_open_15 h (fun M3 h => ?_)
  refine j_aload_n C0 (pc := 18) dX8_open_18 rfl ?_
  refine j_iconst C0 (pc := 19) dX8_open_19 (v := (0 : Int32)) (by decide) ?_
  refine X_pI C0 (pc := 20) f_Tok_28_7 rfl rfl dX8_open_20 h (fun M4 h => ?_)
  refine j_aload_n C0 (pc := 23) dX8_open_23 rfl ?_
  refine X_cV C0 (pc := 24) (e' := e_V) (as := []) (rest := []) (s' := fun _ => []) (g' := (0, 0)) v_Tok_31_7 (fun Ψ hΨ => K_X8_advance_7 a0 M4 Ψ hΨ) rfl rfl (fun _ => rfl) (by decide) (by decide) rfl (Nat.le_of_ble_eq_true rfl) dX8_open_24 h (fun _ M5 h => ?_)
  exact j_vret C rfl h dX8_open_27 (by decide)
theorem dX8_isAt_0 : decode cX8_isAt 0 = .ok (.aload_n 0, 1) := by decide +kernel
theorem dX8_isAt_1 : decode cX8_isAt 1 = .ok (.getfield 44, 3) := by decide +kernel
theorem dX8_isAt_4 : decode cX8_isAt 4 = .ok (.iconst 2, 1) := by decide +kernel
theorem dX8_isAt_5 : decode cX8_isAt 5 = .ok (.if_icmp .ne 15, 3) := by decide +kernel
theorem dX8_isAt_8 : decode cX8_isAt 8 = .ok (.aload_n 0, 1) := by decide +kernel
theorem dX8_isAt_9 : decode cX8_isAt 9 = .ok (.getfield 40, 3) := by decide +kernel
theorem dX8_isAt_12 : decode cX8_isAt 12 = .ok (.aload_n 1, 1) := by decide +kernel
theorem dX8_isAt_13 : decode cX8_isAt 13 = .ok (.if_acmp .ne 7, 3) := by decide +kernel
theorem dX8_isAt_16 : decode cX8_isAt 16 = .ok (.iconst 1, 1) := by decide +kernel
theorem dX8_isAt_17 : decode cX8_isAt 17 = .ok (.goto 4, 3) := by decide +kernel
theorem dX8_isAt_20 : decode cX8_isAt 20 = .ok (.iconst 0, 1) := by decide +kernel
theorem dX8_isAt_21 : decode cX8_isAt 21 = .ok (.ireturn, 1) := by decide +kernel
noncomputable def F_X8_isAt (kd : Nat) (a0 : Nat) (a1 : Nat) (M : m_M) : Option (Int32 × m_M) :=
  m_let (fun  (M1 : m_M) =>
    some ((0 : Int32), M1)
  ) fun (k20 : m_M → Option (Int32 × m_M)) =>
  x_gI kd M a0 4 fun v1 =>
  if v1 = (2 : Int32) then (
    x_gO kd M a0 8 fun v2 =>
    x_kn v2 (some a1) <|
    if v2 = (some a1) then (
      some ((1 : Int32), M)
    ) else
    k20 M
  ) else
  k20 M
set_option maxHeartbeats 4000000 in
theorem K_X8_isAt_4 (a0 : Nat) (a1 : Nat) (M : m_M) (Φ : Option Value → m_M → Prop) (h : m_ok e_I Φ (F_X8_isAt 4 a0 a1 M)) : j_Ct yX8_isAt cX8_isAt 2 (some .boolean) 1 0 0 [.ref a0, .ref a1] M Φ := by
  refine j_Ct.of (by decide +kernel) (Nat.le_of_ble_eq_true rfl) fun X C => ?_
  have C0 := C.1
  show j_J X 2 0 [some (.ref a0), some (.ref a1)] [] (0, 0) M
  unfold F_X8_isAt at h
  refine X_join (fun (kj : m_M → Option (Int32 × m_M)) => ∀  (M : m_M), m_ok e_I Φ (kj M) → j_J X 2 20 [none, none] [] (0, 0) M) h (fun M1 h => ?_) (fun k20 hk20 h => ?_)
  · refine j_iconst C0 (pc := 20) dX8_isAt_20 (v := (0 : Int32)) (by decide) ?_
    exact j_zret C rfl (by decide) h dX8_isAt_21 (by decide)
  · refine j_aload_n C0 (pc := 0) dX8_isAt_0 rfl ?_
    refine X_gI C0 (pc := 1) f_Tok_44_4 rfl dX8_isAt_1 h (fun v1 h => ?_)
    refine j_iconst C0 (pc := 4) dX8_isAt_4 (v := (2 : Int32)) (by decide) ?_
    refine j_icmp_ne C0 (pc := 5) (tgt := 20) dX8_isAt_5 (by decide) (fun hc => ?_) (fun hc => ?_)
    · replace h := (X_if h).2 hc
      exact j_J.wq (hk20 M h) (trivial)
    · replace h := (X_if h).1 hc
      refine j_aload_n C0 (pc := 8) dX8_isAt_8 rfl ?_
      refine X_gO C0 (pc := 9) f_Tok_40_4 rfl dX8_isAt_9 h (fun v2 h => ?_)
      refine j_aload_n C0 (pc := 12) dX8_isAt_12 rfl ?_
      obtain ⟨hq1, hq2, h⟩ := X_kn h
      refine j_acmp_ne C0 (pc := 13) (r := v2) (q := (some a1)) (tgt := 20) hq1 hq2 dX8_isAt_13 (by decide) (fun hc => ?_) (fun hc => ?_)
      · replace h := (X_if h).2 hc
        exact j_J.wq (hk20 M h) (trivial)
      · replace h := (X_if h).1 hc
        refine j_iconst C0 (pc := 16) dX8_isAt_16 (v := (1 : Int32)) (by decide) ?_
        refine j_goto C0 (pc := 17) (tgt := 21) dX8_isAt_17 (by decide) ?_
        exact j_zret C rfl (by decide) h dX8_isAt_21 (by decide)
set_option maxHeartbeats 4000000 in
theorem K_X8_isAt_7 (a0 : Nat) (a1 : Nat) (M : m_M) (Φ : Option Value → m_M → Prop) (h : m_ok e_I Φ (F_X8_isAt 7 a0 a1 M)) : j_Ct yX8_isAt cX8_isAt 2 (some .boolean) 1 0 0 [.ref a0, .ref a1] M Φ := by
  refine j_Ct.of (by decide +kernel) (Nat.le_of_ble_eq_true rfl) fun X C => ?_
  have C0 := C.1
  show j_J X 2 0 [some (.ref a0), some (.ref a1)] [] (0, 0) M
  unfold F_X8_isAt at h
  refine X_join (fun (kj : m_M → Option (Int32 × m_M)) => ∀  (M : m_M), m_ok e_I Φ (kj M) → j_J X 2 20 [none, none] [] (0, 0) M) h (fun M1 h => ?_) (fun k20 hk20 h => ?_)
  · refine j_iconst C0 (pc := 20) dX8_isAt_20 (v := (0 : Int32)) (by decide) ?_
    exact j_zret C rfl (by decide) h dX8_isAt_21 (by decide)
  · refine j_aload_n C0 (pc := 0) dX8_isAt_0 rfl ?_
    refine X_gI C0 (pc := 1) f_Tok_44_7 rfl dX8_isAt_1 h (fun v1 h => ?_)
    refine j_iconst C0 (pc := 4) dX8_isAt_4 (v := (2 : Int32)) (by decide) ?_
    refine j_icmp_ne C0 (pc := 5) (tgt := 20) dX8_isAt_5 (by decide) (fun hc => ?_) (fun hc => ?_)
    · replace h := (X_if h).2 hc
      exact j_J.wq (hk20 M h) (trivial)
    · replace h := (X_if h).1 hc
      refine j_aload_n C0 (pc := 8) dX8_isAt_8 rfl ?_
      refine X_gO C0 (pc := 9) f_Tok_40_7 rfl dX8_isAt_9 h (fun v2 h => ?_)
      refine j_aload_n C0 (pc := 12) dX8_isAt_12 rfl ?_
      obtain ⟨hq1, hq2, h⟩ := X_kn h
      refine j_acmp_ne C0 (pc := 13) (r := v2) (q := (some a1)) (tgt := 20) hq1 hq2 dX8_isAt_13 (by decide) (fun hc => ?_) (fun hc => ?_)
      · replace h := (X_if h).2 hc
        exact j_J.wq (hk20 M h) (trivial)
      · replace h := (X_if h).1 hc
        refine j_iconst C0 (pc := 16) dX8_isAt_16 (v := (1 : Int32)) (by decide) ?_
        refine j_goto C0 (pc := 17) (tgt := 21) dX8_isAt_17 (by decide) ?_
        exact j_zret C rfl (by decide) h dX8_isAt_21 (by decide)
theorem dX8_isAt__0 : decode cX8_isAt_ 0 = .ok (.aload_n 0, 1) := by decide +kernel
theorem dX8_isAt__1 : decode cX8_isAt_ 1 = .ok (.getfield 44, 3) := by decide +kernel
theorem dX8_isAt__4 : decode cX8_isAt_ 4 = .ok (.iconst 4, 1) := by decide +kernel
theorem dX8_isAt__5 : decode cX8_isAt_ 5 = .ok (.if_icmp .ne 15, 3) := by decide +kernel
theorem dX8_isAt__8 : decode cX8_isAt_ 8 = .ok (.aload_n 0, 1) := by decide +kernel
theorem dX8_isAt__9 : decode cX8_isAt_ 9 = .ok (.getfield 60, 3) := by decide +kernel
theorem dX8_isAt__12 : decode cX8_isAt_ 12 = .ok (.iload_n 1, 1) := by decide +kernel
theorem dX8_isAt__13 : decode cX8_isAt_ 13 = .ok (.if_icmp .ne 7, 3) := by decide +kernel
theorem dX8_isAt__16 : decode cX8_isAt_ 16 = .ok (.iconst 1, 1) := by decide +kernel
theorem dX8_isAt__17 : decode cX8_isAt_ 17 = .ok (.goto 4, 3) := by decide +kernel
theorem dX8_isAt__20 : decode cX8_isAt_ 20 = .ok (.iconst 0, 1) := by decide +kernel
theorem dX8_isAt__21 : decode cX8_isAt_ 21 = .ok (.ireturn, 1) := by decide +kernel
noncomputable def F_X8_isAt_ (kd : Nat) (a0 : Nat) (a1 : Int32) (M : m_M) : Option (Int32 × m_M) :=
  m_let (fun  (M1 : m_M) =>
    some ((0 : Int32), M1)
  ) fun (k20 : m_M → Option (Int32 × m_M)) =>
  x_gI kd M a0 4 fun v1 =>
  if v1 = (4 : Int32) then (
    x_gI kd M a0 6 fun v2 =>
    if v2 = a1 then (
      some ((1 : Int32), M)
    ) else
    k20 M
  ) else
  k20 M
set_option maxHeartbeats 4000000 in
theorem K_X8_isAt__4 (a0 : Nat) (a1 : Int32) (M : m_M) (Φ : Option Value → m_M → Prop) (h : m_ok e_I Φ (F_X8_isAt_ 4 a0 a1 M)) : j_Ct yX8_isAt_ cX8_isAt_ 2 (some .boolean) 1 0 0 [.ref a0, .int a1] M Φ := by
  refine j_Ct.of (by decide +kernel) (Nat.le_of_ble_eq_true rfl) fun X C => ?_
  have C0 := C.1
  show j_J X 2 0 [some (.ref a0), some (.int a1)] [] (0, 0) M
  unfold F_X8_isAt_ at h
  refine X_join (fun (kj : m_M → Option (Int32 × m_M)) => ∀  (M : m_M), m_ok e_I Φ (kj M) → j_J X 2 20 [none, none] [] (0, 0) M) h (fun M1 h => ?_) (fun k20 hk20 h => ?_)
  · refine j_iconst C0 (pc := 20) dX8_isAt__20 (v := (0 : Int32)) (by decide) ?_
    exact j_zret C rfl (by decide) h dX8_isAt__21 (by decide)
  · refine j_aload_n C0 (pc := 0) dX8_isAt__0 rfl ?_
    refine X_gI C0 (pc := 1) f_Tok_44_4 rfl dX8_isAt__1 h (fun v1 h => ?_)
    refine j_iconst C0 (pc := 4) dX8_isAt__4 (v := (4 : Int32)) (by decide) ?_
    refine j_icmp_ne C0 (pc := 5) (tgt := 20) dX8_isAt__5 (by decide) (fun hc => ?_) (fun hc => ?_)
    · replace h := (X_if h).2 hc
      exact j_J.wq (hk20 M h) (trivial)
    · replace h := (X_if h).1 hc
      refine j_aload_n C0 (pc := 8) dX8_isAt__8 rfl ?_
      refine X_gI C0 (pc := 9) f_Tok_60_4 rfl dX8_isAt__9 h (fun v2 h => ?_)
      refine j_iload_n C0 (pc := 12) dX8_isAt__12 rfl ?_
      refine j_icmp_ne C0 (pc := 13) (tgt := 20) dX8_isAt__13 (by decide) (fun hc => ?_) (fun hc => ?_)
      · replace h := (X_if h).2 hc
        exact j_J.wq (hk20 M h) (trivial)
      · replace h := (X_if h).1 hc
        refine j_iconst C0 (pc := 16) dX8_isAt__16 (v := (1 : Int32)) (by decide) ?_
        refine j_goto C0 (pc := 17) (tgt := 21) dX8_isAt__17 (by decide) ?_
        exact j_zret C rfl (by decide) h dX8_isAt__21 (by decide)
set_option maxHeartbeats 4000000 in
theorem K_X8_isAt__7 (a0 : Nat) (a1 : Int32) (M : m_M) (Φ : Option Value → m_M → Prop) (h : m_ok e_I Φ (F_X8_isAt_ 7 a0 a1 M)) : j_Ct yX8_isAt_ cX8_isAt_ 2 (some .boolean) 1 0 0 [.ref a0, .int a1] M Φ := by
  refine j_Ct.of (by decide +kernel) (Nat.le_of_ble_eq_true rfl) fun X C => ?_
  have C0 := C.1
  show j_J X 2 0 [some (.ref a0), some (.int a1)] [] (0, 0) M
  unfold F_X8_isAt_ at h
  refine X_join (fun (kj : m_M → Option (Int32 × m_M)) => ∀  (M : m_M), m_ok e_I Φ (kj M) → j_J X 2 20 [none, none] [] (0, 0) M) h (fun M1 h => ?_) (fun k20 hk20 h => ?_)
  · refine j_iconst C0 (pc := 20) dX8_isAt__20 (v := (0 : Int32)) (by decide) ?_
    exact j_zret C rfl (by decide) h dX8_isAt__21 (by decide)
  · refine j_aload_n C0 (pc := 0) dX8_isAt__0 rfl ?_
    refine X_gI C0 (pc := 1) f_Tok_44_7 rfl dX8_isAt__1 h (fun v1 h => ?_)
    refine j_iconst C0 (pc := 4) dX8_isAt__4 (v := (4 : Int32)) (by decide) ?_
    refine j_icmp_ne C0 (pc := 5) (tgt := 20) dX8_isAt__5 (by decide) (fun hc => ?_) (fun hc => ?_)
    · replace h := (X_if h).2 hc
      exact j_J.wq (hk20 M h) (trivial)
    · replace h := (X_if h).1 hc
      refine j_aload_n C0 (pc := 8) dX8_isAt__8 rfl ?_
      refine X_gI C0 (pc := 9) f_Tok_60_7 rfl dX8_isAt__9 h (fun v2 h => ?_)
      refine j_iload_n C0 (pc := 12) dX8_isAt__12 rfl ?_
      refine j_icmp_ne C0 (pc := 13) (tgt := 20) dX8_isAt__13 (by decide) (fun hc => ?_) (fun hc => ?_)
      · replace h := (X_if h).2 hc
        exact j_J.wq (hk20 M h) (trivial)
      · replace h := (X_if h).1 hc
        refine j_iconst C0 (pc := 16) dX8_isAt__16 (v := (1 : Int32)) (by decide) ?_
        refine j_goto C0 (pc := 17) (tgt := 21) dX8_isAt__17 (by decide) ?_
        exact j_zret C rfl (by decide) h dX8_isAt__21 (by decide)
theorem dX8_isAtName_0 : decode cX8_isAtName 0 = .ok (.aload_n 0, 1) := by decide +kernel
theorem dX8_isAtName_1 : decode cX8_isAtName 1 = .ok (.getfield 44, 3) := by decide +kernel
theorem dX8_isAtName_4 : decode cX8_isAtName 4 = .ok (.iconst 2, 1) := by decide +kernel
theorem dX8_isAtName_5 : decode cX8_isAtName 5 = .ok (.if_icmp .ne 24, 3) := by decide +kernel
theorem dX8_isAtName_8 : decode cX8_isAtName 8 = .ok (.aload_n 0, 1) := by decide +kernel
theorem dX8_isAtName_9 : decode cX8_isAtName 9 = .ok (.getfield 40, 3) := by decide +kernel
theorem dX8_isAtName_12 : decode cX8_isAtName 12 = .ok (.ifnull 13, 3) := by decide +kernel
theorem dX8_isAtName_15 : decode cX8_isAtName 15 = .ok (.aload_n 0, 1) := by decide +kernel
theorem dX8_isAtName_16 : decode cX8_isAtName 16 = .ok (.getfield 40, 3) := by decide +kernel
theorem dX8_isAtName_19 : decode cX8_isAtName 19 = .ok (.getfield 92, 3) := by decide +kernel
theorem dX8_isAtName_22 : decode cX8_isAtName 22 = .ok (.ifCond .ne 7, 3) := by decide +kernel
theorem dX8_isAtName_25 : decode cX8_isAtName 25 = .ok (.iconst 1, 1) := by decide +kernel
theorem dX8_isAtName_26 : decode cX8_isAtName 26 = .ok (.goto 4, 3) := by decide +kernel
theorem dX8_isAtName_29 : decode cX8_isAtName 29 = .ok (.iconst 0, 1) := by decide +kernel
theorem dX8_isAtName_30 : decode cX8_isAtName 30 = .ok (.ireturn, 1) := by decide +kernel
noncomputable def F_X8_isAtName (kd : Nat) (a0 : Nat) (M : m_M) : Option (Int32 × m_M) :=
  m_let (fun  (M1 : m_M) =>
    some ((0 : Int32), M1)
  ) fun (k29 : m_M → Option (Int32 × m_M)) =>
  x_gI kd M a0 4 fun v1 =>
  if v1 = (2 : Int32) then (
    m_let (fun  (M2 : m_M) =>
      some ((1 : Int32), M2)
    ) fun (k25 : m_M → Option (Int32 × m_M)) =>
    x_gO kd M a0 8 fun v2 =>
    x_nul v2 (
      k25 M
    ) fun v3 =>
    x_gO kd M a0 8 fun v4 =>
    x_nn v4 fun v5 =>
    x_k v5 fun v6 =>
    if (k_wr.getD v6 0) = 0 then (
      k25 M
    ) else
    k29 M
  ) else
  k29 M
set_option maxHeartbeats 4000000 in
theorem K_X8_isAtName_4 (a0 : Nat) (M : m_M) (Φ : Option Value → m_M → Prop) (h : m_ok e_I Φ (F_X8_isAtName 4 a0 M)) : j_Ct yX8_isAtName cX8_isAtName 1 (some .boolean) 1 0 0 [.ref a0] M Φ := by
  refine j_Ct.of (by decide +kernel) (Nat.le_of_ble_eq_true rfl) fun X C => ?_
  have C0 := C.1
  show j_J X 1 0 [some (.ref a0)] [] (0, 0) M
  unfold F_X8_isAtName at h
  refine X_join (fun (kj : m_M → Option (Int32 × m_M)) => ∀  (M : m_M), m_ok e_I Φ (kj M) → j_J X 1 29 [none] [] (0, 0) M) h (fun M1 h => ?_) (fun k29 hk29 h => ?_)
  · refine j_iconst C0 (pc := 29) dX8_isAtName_29 (v := (0 : Int32)) (by decide) ?_
    exact j_zret C rfl (by decide) h dX8_isAtName_30 (by decide)
  · refine j_aload_n C0 (pc := 0) dX8_isAtName_0 rfl ?_
    refine X_gI C0 (pc := 1) f_Tok_44_4 rfl dX8_isAtName_1 h (fun v1 h => ?_)
    refine j_iconst C0 (pc := 4) dX8_isAtName_4 (v := (2 : Int32)) (by decide) ?_
    refine j_icmp_ne C0 (pc := 5) (tgt := 29) dX8_isAtName_5 (by decide) (fun hc => ?_) (fun hc => ?_)
    · replace h := (X_if h).2 hc
      exact j_J.wq (hk29 M h) (trivial)
    · replace h := (X_if h).1 hc
      refine X_join (fun (kj : m_M → Option (Int32 × m_M)) => ∀  (M : m_M), m_ok e_I Φ (kj M) → j_J X 1 25 [none] [] (0, 0) M) h (fun M2 h => ?_) (fun k25 hk25 h => ?_)
      · refine j_iconst C0 (pc := 25) dX8_isAtName_25 (v := (1 : Int32)) (by decide) ?_
        refine j_goto C0 (pc := 26) (tgt := 30) dX8_isAtName_26 (by decide) ?_
        exact j_zret C rfl (by decide) h dX8_isAtName_30 (by decide)
      · refine j_aload_n C0 (pc := 8) dX8_isAtName_8 rfl ?_
        refine X_gO C0 (pc := 9) f_Tok_40_4 rfl dX8_isAtName_9 h (fun v2 h => ?_)
        rcases v2 with _ | v3
        · refine j_ifnullN C0 (pc := 12) (tgt := 25) dX8_isAtName_12 (by decide) ?_
          simp only [x_nul] at h
          exact j_J.wq (hk25 M h) (trivial)
        · refine j_ifnull C0 (pc := 12) dX8_isAtName_12 ?_
          simp only [x_nul] at h
          refine j_aload_n C0 (pc := 15) dX8_isAtName_15 rfl ?_
          refine X_gO C0 (pc := 16) f_Tok_40_4 rfl dX8_isAtName_16 h (fun v4 h => ?_)
          rcases v4 with _ | v5
          · exact False.elim h
          simp only [x_nn] at h
          refine X_kr C0 (pc := 19) (j_c10 107 (by decide +kernel)) dX8_isAtName_19 h (fun v6 h => ?_)
          refine j_if_ne C0 (pc := 22) (tgt := 29) dX8_isAtName_22 (by decide) (fun hc => ?_) (fun hc => ?_)
          · replace h := (X_if h).2 hc
            exact j_J.wq (hk29 M h) (trivial)
          · replace h := (X_if h).1 hc
            exact j_J.wq (hk25 M h) (trivial)
set_option maxHeartbeats 4000000 in
theorem K_X8_isAtName_7 (a0 : Nat) (M : m_M) (Φ : Option Value → m_M → Prop) (h : m_ok e_I Φ (F_X8_isAtName 7 a0 M)) : j_Ct yX8_isAtName cX8_isAtName 1 (some .boolean) 1 0 0 [.ref a0] M Φ := by
  refine j_Ct.of (by decide +kernel) (Nat.le_of_ble_eq_true rfl) fun X C => ?_
  have C0 := C.1
  show j_J X 1 0 [some (.ref a0)] [] (0, 0) M
  unfold F_X8_isAtName at h
  refine X_join (fun (kj : m_M → Option (Int32 × m_M)) => ∀  (M : m_M), m_ok e_I Φ (kj M) → j_J X 1 29 [none] [] (0, 0) M) h (fun M1 h => ?_) (fun k29 hk29 h => ?_)
  · refine j_iconst C0 (pc := 29) dX8_isAtName_29 (v := (0 : Int32)) (by decide) ?_
    exact j_zret C rfl (by decide) h dX8_isAtName_30 (by decide)
  · refine j_aload_n C0 (pc := 0) dX8_isAtName_0 rfl ?_
    refine X_gI C0 (pc := 1) f_Tok_44_7 rfl dX8_isAtName_1 h (fun v1 h => ?_)
    refine j_iconst C0 (pc := 4) dX8_isAtName_4 (v := (2 : Int32)) (by decide) ?_
    refine j_icmp_ne C0 (pc := 5) (tgt := 29) dX8_isAtName_5 (by decide) (fun hc => ?_) (fun hc => ?_)
    · replace h := (X_if h).2 hc
      exact j_J.wq (hk29 M h) (trivial)
    · replace h := (X_if h).1 hc
      refine X_join (fun (kj : m_M → Option (Int32 × m_M)) => ∀  (M : m_M), m_ok e_I Φ (kj M) → j_J X 1 25 [none] [] (0, 0) M) h (fun M2 h => ?_) (fun k25 hk25 h => ?_)
      · refine j_iconst C0 (pc := 25) dX8_isAtName_25 (v := (1 : Int32)) (by decide) ?_
        refine j_goto C0 (pc := 26) (tgt := 30) dX8_isAtName_26 (by decide) ?_
        exact j_zret C rfl (by decide) h dX8_isAtName_30 (by decide)
      · refine j_aload_n C0 (pc := 8) dX8_isAtName_8 rfl ?_
        refine X_gO C0 (pc := 9) f_Tok_40_7 rfl dX8_isAtName_9 h (fun v2 h => ?_)
        rcases v2 with _ | v3
        · refine j_ifnullN C0 (pc := 12) (tgt := 25) dX8_isAtName_12 (by decide) ?_
          simp only [x_nul] at h
          exact j_J.wq (hk25 M h) (trivial)
        · refine j_ifnull C0 (pc := 12) dX8_isAtName_12 ?_
          simp only [x_nul] at h
          refine j_aload_n C0 (pc := 15) dX8_isAtName_15 rfl ?_
          refine X_gO C0 (pc := 16) f_Tok_40_7 rfl dX8_isAtName_16 h (fun v4 h => ?_)
          rcases v4 with _ | v5
          · exact False.elim h
          simp only [x_nn] at h
          refine X_kr C0 (pc := 19) (j_c10 107 (by decide +kernel)) dX8_isAtName_19 h (fun v6 h => ?_)
          refine j_if_ne C0 (pc := 22) (tgt := 29) dX8_isAtName_22 (by decide) (fun hc => ?_) (fun hc => ?_)
          · replace h := (X_if h).2 hc
            exact j_J.wq (hk29 M h) (trivial)
          · replace h := (X_if h).1 hc
            exact j_J.wq (hk25 M h) (trivial)
theorem dX8_fail_0 : decode cX8_fail 0 = .ok (.aload_n 0, 1) := by decide +kernel
theorem dX8_fail_1 : decode cX8_fail 1 = .ok (.iload_n 1, 1) := by decide +kernel
theorem dX8_fail_2 : decode cX8_fail 2 = .ok (.bipush 16, 2) := by decide +kernel
theorem dX8_fail_4 : decode cX8_fail 4 = .ok (.aload_n 0, 1) := by decide +kernel
theorem dX8_fail_5 : decode cX8_fail 5 = .ok (.getfield 37, 3) := by decide +kernel
theorem dX8_fail_8 : decode cX8_fail 8 = .ok (.imul, 1) := by decide +kernel
theorem dX8_fail_9 : decode cX8_fail 9 = .ok (.iadd, 1) := by decide +kernel
theorem dX8_fail_10 : decode cX8_fail 10 = .ok (.putfield 28, 3) := by decide +kernel
theorem dX8_fail_13 : decode cX8_fail 13 = .ok (.iconst 0, 1) := by decide +kernel
theorem dX8_fail_14 : decode cX8_fail 14 = .ok (.ireturn, 1) := by decide +kernel
noncomputable def F_X8_fail (kd : Nat) (a0 : Nat) (a1 : Int32) (M : m_M) : Option (Int32 × m_M) :=
  x_gI kd M a0 2 fun v1 =>
  x_pI kd M a0 9 (a1 + ((16 : Int32) * v1)) fun M1 =>
  some ((0 : Int32), M1)
set_option maxHeartbeats 4000000 in
theorem K_X8_fail_4 (a0 : Nat) (a1 : Int32) (M : m_M) (Φ : Option Value → m_M → Prop) (h : m_ok e_I Φ (F_X8_fail 4 a0 a1 M)) : j_Ct yX8_fail cX8_fail 2 (some .boolean) 1 0 0 [.ref a0, .int a1] M Φ := by
  refine j_Ct.of (by decide +kernel) (Nat.le_of_ble_eq_true rfl) fun X C => ?_
  have C0 := C.1
  show j_J X 2 0 [some (.ref a0), some (.int a1)] [] (0, 0) M
  unfold F_X8_fail at h
  refine j_aload_n C0 (pc := 0) dX8_fail_0 rfl ?_
  refine j_iload_n C0 (pc := 1) dX8_fail_1 rfl ?_
  refine j_bipush C0 (pc := 2) dX8_fail_2 (v := (16 : Int32)) (by decide) ?_
  refine j_aload_n C0 (pc := 4) dX8_fail_4 rfl ?_
  refine X_gI C0 (pc := 5) f_Tok_37_4 rfl dX8_fail_5 h (fun v1 h => ?_)
  refine j_imul C0 (pc := 8) dX8_fail_8 ?_
  refine j_iadd C0 (pc := 9) dX8_fail_9 ?_
  refine X_pI C0 (pc := 10) f_Tok_28_4 rfl rfl dX8_fail_10 h (fun M1 h => ?_)
  refine j_iconst C0 (pc := 13) dX8_fail_13 (v := (0 : Int32)) (by decide) ?_
  exact j_zret C rfl (by decide) h dX8_fail_14 (by decide)
set_option maxHeartbeats 4000000 in
theorem K_X8_fail_7 (a0 : Nat) (a1 : Int32) (M : m_M) (Φ : Option Value → m_M → Prop) (h : m_ok e_I Φ (F_X8_fail 7 a0 a1 M)) : j_Ct yX8_fail cX8_fail 2 (some .boolean) 1 0 0 [.ref a0, .int a1] M Φ := by
  refine j_Ct.of (by decide +kernel) (Nat.le_of_ble_eq_true rfl) fun X C => ?_
  have C0 := C.1
  show j_J X 2 0 [some (.ref a0), some (.int a1)] [] (0, 0) M
  unfold F_X8_fail at h
  refine j_aload_n C0 (pc := 0) dX8_fail_0 rfl ?_
  refine j_iload_n C0 (pc := 1) dX8_fail_1 rfl ?_
  refine j_bipush C0 (pc := 2) dX8_fail_2 (v := (16 : Int32)) (by decide) ?_
  refine j_aload_n C0 (pc := 4) dX8_fail_4 rfl ?_
  refine X_gI C0 (pc := 5) f_Tok_37_7 rfl dX8_fail_5 h (fun v1 h => ?_)
  refine j_imul C0 (pc := 8) dX8_fail_8 ?_
  refine j_iadd C0 (pc := 9) dX8_fail_9 ?_
  refine X_pI C0 (pc := 10) f_Tok_28_7 rfl rfl dX8_fail_10 h (fun M1 h => ?_)
  refine j_iconst C0 (pc := 13) dX8_fail_13 (v := (0 : Int32)) (by decide) ?_
  exact j_zret C rfl (by decide) h dX8_fail_14 (by decide)
theorem dX3_find_0 : decode cX3_find 0 = .ok (.iconst 0, 1) := by decide +kernel
theorem dX3_find_1 : decode cX3_find 1 = .ok (.istore 4, 2) := by decide +kernel
theorem dX3_find_3 : decode cX3_find 3 = .ok (.iload 4, 2) := by decide +kernel
theorem dX3_find_5 : decode cX3_find 5 = .ok (.aload_n 0, 1) := by decide +kernel
theorem dX3_find_6 : decode cX3_find 6 = .ok (.getfield 9, 3) := by decide +kernel
theorem dX3_find_9 : decode cX3_find 9 = .ok (.iload_n 1, 1) := by decide +kernel
theorem dX3_find_10 : decode cX3_find 10 = .ok (.iaload, 1) := by decide +kernel
theorem dX3_find_11 : decode cX3_find 11 = .ok (.if_icmp .ge 29, 3) := by decide +kernel
theorem dX3_find_14 : decode cX3_find 14 = .ok (.aload_n 0, 1) := by decide +kernel
theorem dX3_find_15 : decode cX3_find 15 = .ok (.getfield 24, 3) := by decide +kernel
theorem dX3_find_18 : decode cX3_find 18 = .ok (.iload_n 1, 1) := by decide +kernel
theorem dX3_find_19 : decode cX3_find 19 = .ok (.bipush 8, 2) := by decide +kernel
theorem dX3_find_21 : decode cX3_find 21 = .ok (.imul, 1) := by decide +kernel
theorem dX3_find_22 : decode cX3_find 22 = .ok (.iload 4, 2) := by decide +kernel
theorem dX3_find_24 : decode cX3_find 24 = .ok (.iadd, 1) := by decide +kernel
theorem dX3_find_25 : decode cX3_find 25 = .ok (.laload, 1) := by decide +kernel
theorem dX3_find_26 : decode cX3_find 26 = .ok (.lload_n 2, 1) := by decide +kernel
theorem dX3_find_27 : decode cX3_find 27 = .ok (.lcmp, 1) := by decide +kernel
theorem dX3_find_28 : decode cX3_find 28 = .ok (.ifCond .ne 6, 3) := by decide +kernel
theorem dX3_find_31 : decode cX3_find 31 = .ok (.iload 4, 2) := by decide +kernel
theorem dX3_find_33 : decode cX3_find 33 = .ok (.ireturn, 1) := by decide +kernel
theorem dX3_find_34 : decode cX3_find 34 = .ok (.iinc 4 1, 3) := by decide +kernel
theorem dX3_find_37 : decode cX3_find 37 = .ok (.goto (-34), 3) := by decide +kernel
theorem dX3_find_40 : decode cX3_find 40 = .ok (.iconst (-1), 1) := by decide +kernel
theorem dX3_find_41 : decode cX3_find 41 = .ok (.ireturn, 1) := by decide +kernel
noncomputable def F_X3_find_3 : Nat → Nat → Int32 → Int64 → Int32 → m_M → Option (Int32 × m_M)
  | 0, _, _, _, _, _ => none
  | n + 1, v1, v2, v3, v4, M =>
    x_gN 3 M v1 6 fun v5 =>
    x_aI 12 M v5 v2 fun v6 =>
    if v6 ≤ v4 then (
      some ((-1 : Int32), M)
    ) else
    x_gN 3 M v1 10 fun v7 =>
    x_aL M v7 ((v2 * (8 : Int32)) + v4) fun v8 =>
    if (lg_cmp v8 v3) = 0 then (
      some (v4, M)
    ) else
    m_let (v4 + (1 : Int32)) fun v9 =>
    F_X3_find_3 n v1 v2 v3 v9 M
noncomputable def F_X3_find (a0 : Nat) (a1 : Int32) (a2 : Int64) (M : m_M) : Option (Int32 × m_M) :=
  F_X3_find_3 m_FU a0 a1 a2 (0 : Int32) M
set_option maxHeartbeats 4000000 in
theorem L_X3_find_3 {X : j_X} {Φ : Option Value → m_M → Prop} (C : j_C X yX3_find cX3_find 5 (some .int) 1 0 0 Φ) : ∀ (n : Nat) (v1 : Nat) (v2 : Int32) (v3 : Int64) (v4 : Int32) (M : m_M), m_ok e_I Φ (F_X3_find_3 n v1 v2 v3 v4 M) → j_J X 5 3 [some (.ref v1), some (.int v2), some (.long v3), none, some (.int v4)] [] (0, 0) M := by
  have C0 := C.1
  intro n
  induction n with
  | zero => intro v1 v2 v3 v4 M h; exact False.elim h
  | succ n ih =>
    intro v1 v2 v3 v4 M h
    rw [F_X3_find_3] at h
    refine j_iload C0 (pc := 3) dX3_find_3 rfl ?_
    refine j_aload_n C0 (pc := 5) dX3_find_5 rfl ?_
    refine X_gN C0 (pc := 6) f_Land_9_3 rfl dX3_find_6 h (fun v5 h => ?_)
    refine j_iload_n C0 (pc := 9) dX3_find_9 rfl ?_
    refine X_iald C0 (pc := 10) dX3_find_10 h (fun v6 h => ?_)
    refine j_icmp_ge C0 (pc := 11) (tgt := 40) dX3_find_11 (by decide) (fun hc => ?_) (fun hc => ?_)
    · replace h := (X_if h).1 hc
      refine j_iconst C0 (pc := 40) dX3_find_40 (v := (-1 : Int32)) (by decide) ?_
      exact j_iret C rfl h dX3_find_41 (by decide)
    · replace h := (X_if h).2 hc
      refine j_aload_n C0 (pc := 14) dX3_find_14 rfl ?_
      refine X_gN C0 (pc := 15) f_Land_24_3 rfl dX3_find_15 h (fun v7 h => ?_)
      refine j_iload_n C0 (pc := 18) dX3_find_18 rfl ?_
      refine j_bipush C0 (pc := 19) dX3_find_19 (v := (8 : Int32)) (by decide) ?_
      refine j_imul C0 (pc := 21) dX3_find_21 ?_
      refine j_iload C0 (pc := 22) dX3_find_22 rfl ?_
      refine j_iadd C0 (pc := 24) dX3_find_24 ?_
      refine X_lald C0 (pc := 25) dX3_find_25 h (fun v8 h => ?_)
      refine j_lload_n C0 (pc := 26) dX3_find_26 rfl ?_
      refine j_lcmp C0 (pc := 27) dX3_find_27 ?_
      refine j_if_ne C0 (pc := 28) (tgt := 34) dX3_find_28 (by decide) (fun hc => ?_) (fun hc => ?_)
      · replace h := (X_if h).2 hc
        refine j_iinc C0 (pc := 34) dX3_find_34 (v := v4 + (1 : Int32)) rfl (Nat.le_of_ble_eq_true rfl) (by rfl) ?_
        refine X_let (G := fun w => j_J X 5 37 [some (.ref v1), some (.int v2), some (.long v3), none, some (.int w)] [] (0, 0) M) h (fun v9 h => ?_)
        refine j_goto C0 (pc := 37) (tgt := 3) dX3_find_37 (by decide) ?_
        exact j_J.wq (ih v1 v2 v3 v9 M h) (And.intro rfl (And.intro rfl (And.intro rfl (And.intro rfl (trivial)))))
      · replace h := (X_if h).1 hc
        refine j_iload C0 (pc := 31) dX3_find_31 rfl ?_
        exact j_iret C rfl h dX3_find_33 (by decide)
set_option maxHeartbeats 4000000 in
theorem K_X3_find (a0 : Nat) (a1 : Int32) (a2 : Int64) (M : m_M) (Φ : Option Value → m_M → Prop) (h : m_ok e_I Φ (F_X3_find a0 a1 a2 M)) : j_Ct yX3_find cX3_find 5 (some .int) 1 0 0 [.ref a0, .int a1, .long a2] M Φ := by
  refine j_Ct.of (by decide +kernel) (Nat.le_of_ble_eq_true rfl) fun X C => ?_
  have C0 := C.1
  show j_J X 5 0 [some (.ref a0), some (.int a1), some (.long a2), none, none] [] (0, 0) M
  unfold F_X3_find at h
  refine j_iconst C0 (pc := 0) dX3_find_0 (v := (0 : Int32)) (by decide) ?_
  refine j_istore C0 (pc := 1) dX3_find_1 (Nat.le_of_ble_eq_true rfl) ?_
  show j_J X 5 3 [some (.ref a0), some (.int a1), some (.long a2), none, some (.int (0 : Int32))] [] (0, 0) M
  exact j_J.wq (L_X3_find_3 C m_FU a0 a1 a2 (0 : Int32) M h) (And.intro rfl (And.intro rfl (And.intro rfl (And.intro rfl (trivial)))))
theorem dX8_pass__0 : decode cX8_pass_ 0 = .ok (.aload_n 0, 1) := by decide +kernel
theorem dX8_pass__1 : decode cX8_pass_ 1 = .ok (.iload_n 1, 1) := by decide +kernel
theorem dX8_pass__2 : decode cX8_pass_ 2 = .ok (.invokevirtual 104, 3) := by decide +kernel
theorem dX8_pass__5 : decode cX8_pass_ 5 = .ok (.ifCond .ne 9, 3) := by decide +kernel
theorem dX8_pass__8 : decode cX8_pass_ 8 = .ok (.aload_n 0, 1) := by decide +kernel
theorem dX8_pass__9 : decode cX8_pass_ 9 = .ok (.iconst 1, 1) := by decide +kernel
theorem dX8_pass__10 : decode cX8_pass_ 10 = .ok (.invokevirtual 100, 3) := by decide +kernel
theorem dX8_pass__13 : decode cX8_pass_ 13 = .ok (.ireturn, 1) := by decide +kernel
theorem dX8_pass__14 : decode cX8_pass_ 14 = .ok (.aload_n 0, 1) := by decide +kernel
theorem dX8_pass__15 : decode cX8_pass_ 15 = .ok (.invokevirtual 31, 3) := by decide +kernel
theorem dX8_pass__18 : decode cX8_pass_ 18 = .ok (.iconst 1, 1) := by decide +kernel
theorem dX8_pass__19 : decode cX8_pass_ 19 = .ok (.ireturn, 1) := by decide +kernel
noncomputable def F_X8_pass_ (kd : Nat) (a0 : Nat) (a1 : Int32) (M : m_M) : Option (Int32 × m_M) :=
  x_cV kd M a0 (F_X8_isAt_ kd a0 a1 M) fun v1 M1 =>
  if v1 = 0 then (
    x_cV kd M1 a0 (F_X8_fail kd a0 (1 : Int32) M1) fun v2 M3 =>
    x_b v2 <| some (v2, M3)
  ) else
  x_cV kd M1 a0 (F_X8_advance kd a0 M1) fun _ M2 =>
  some ((1 : Int32), M2)
set_option maxHeartbeats 4000000 in
theorem K_X8_pass__4 (a0 : Nat) (a1 : Int32) (M : m_M) (Φ : Option Value → m_M → Prop) (h : m_ok e_I Φ (F_X8_pass_ 4 a0 a1 M)) : j_Ct yX8_pass_ cX8_pass_ 2 (some .boolean) 7 0 0 [.ref a0, .int a1] M Φ := by
  refine j_Ct.of (by decide +kernel) (Nat.le_of_ble_eq_true rfl) fun X C => ?_
  have C0 := C.1
  show j_J X 2 0 [some (.ref a0), some (.int a1)] [] (0, 0) M
  unfold F_X8_pass_ at h
  refine j_aload_n C0 (pc := 0) dX8_pass__0 rfl ?_
  refine j_iload_n C0 (pc := 1) dX8_pass__1 rfl ?_
  refine X_cV C0 (pc := 2) (e' := e_I) (as := [.int a1]) (rest := []) (s' := fun w => .int w :: []) (g' := (0, 0)) v_Tok_104_4 (fun Ψ hΨ => K_X8_isAt__4 a0 a1 M Ψ hΨ) rfl rfl (fun _ => rfl) (by decide) (by decide) rfl (Nat.le_of_ble_eq_true rfl) dX8_pass__2 h (fun v1 M1 h => ?_)
  refine j_if_ne C0 (pc := 5) (tgt := 14) dX8_pass__5 (by decide) (fun hc => ?_) (fun hc => ?_)
  · replace h := (X_if h).2 hc
    refine j_aload_n C0 (pc := 14) dX8_pass__14 rfl ?_
    refine X_cV C0 (pc := 15) (e' := e_V) (as := []) (rest := []) (s' := fun _ => []) (g' := (0, 0)) v_Tok_31_4 (fun Ψ hΨ => K_X8_advance_4 a0 M1 Ψ hΨ) rfl rfl (fun _ => rfl) (by decide) (by decide) rfl (Nat.le_of_ble_eq_true rfl) dX8_pass__15 h (fun _ M2 h => ?_)
    refine j_iconst C0 (pc := 18) dX8_pass__18 (v := (1 : Int32)) (by decide) ?_
    exact j_zret C rfl (by decide) h dX8_pass__19 (by decide)
  · replace h := (X_if h).1 hc
    refine j_aload_n C0 (pc := 8) dX8_pass__8 rfl ?_
    refine j_iconst C0 (pc := 9) dX8_pass__9 (v := (1 : Int32)) (by decide) ?_
    refine X_cV C0 (pc := 10) (e' := e_I) (as := [.int (1 : Int32)]) (rest := []) (s' := fun w => .int w :: []) (g' := (0, 0)) v_Tok_100_4 (fun Ψ hΨ => K_X8_fail_4 a0 (1 : Int32) M1 Ψ hΨ) rfl rfl (fun _ => rfl) (by decide) (by decide) rfl (Nat.le_of_ble_eq_true rfl) dX8_pass__10 h (fun v2 M3 h => ?_)
    exact j_zret C rfl (by rcases (X_gd h).1 with q | q <;> (rw [q]; rfl)) (X_gd h).2 dX8_pass__13 (by decide)
set_option maxHeartbeats 4000000 in
theorem K_X8_pass__7 (a0 : Nat) (a1 : Int32) (M : m_M) (Φ : Option Value → m_M → Prop) (h : m_ok e_I Φ (F_X8_pass_ 7 a0 a1 M)) : j_Ct yX8_pass_ cX8_pass_ 2 (some .boolean) 7 0 0 [.ref a0, .int a1] M Φ := by
  refine j_Ct.of (by decide +kernel) (Nat.le_of_ble_eq_true rfl) fun X C => ?_
  have C0 := C.1
  show j_J X 2 0 [some (.ref a0), some (.int a1)] [] (0, 0) M
  unfold F_X8_pass_ at h
  refine j_aload_n C0 (pc := 0) dX8_pass__0 rfl ?_
  refine j_iload_n C0 (pc := 1) dX8_pass__1 rfl ?_
  refine X_cV C0 (pc := 2) (e' := e_I) (as := [.int a1]) (rest := []) (s' := fun w => .int w :: []) (g' := (0, 0)) v_Tok_104_7 (fun Ψ hΨ => K_X8_isAt__7 a0 a1 M Ψ hΨ) rfl rfl (fun _ => rfl) (by decide) (by decide) rfl (Nat.le_of_ble_eq_true rfl) dX8_pass__2 h (fun v1 M1 h => ?_)
  refine j_if_ne C0 (pc := 5) (tgt := 14) dX8_pass__5 (by decide) (fun hc => ?_) (fun hc => ?_)
  · replace h := (X_if h).2 hc
    refine j_aload_n C0 (pc := 14) dX8_pass__14 rfl ?_
    refine X_cV C0 (pc := 15) (e' := e_V) (as := []) (rest := []) (s' := fun _ => []) (g' := (0, 0)) v_Tok_31_7 (fun Ψ hΨ => K_X8_advance_7 a0 M1 Ψ hΨ) rfl rfl (fun _ => rfl) (by decide) (by decide) rfl (Nat.le_of_ble_eq_true rfl) dX8_pass__15 h (fun _ M2 h => ?_)
    refine j_iconst C0 (pc := 18) dX8_pass__18 (v := (1 : Int32)) (by decide) ?_
    exact j_zret C rfl (by decide) h dX8_pass__19 (by decide)
  · replace h := (X_if h).1 hc
    refine j_aload_n C0 (pc := 8) dX8_pass__8 rfl ?_
    refine j_iconst C0 (pc := 9) dX8_pass__9 (v := (1 : Int32)) (by decide) ?_
    refine X_cV C0 (pc := 10) (e' := e_I) (as := [.int (1 : Int32)]) (rest := []) (s' := fun w => .int w :: []) (g' := (0, 0)) v_Tok_100_7 (fun Ψ hΨ => K_X8_fail_7 a0 (1 : Int32) M1 Ψ hΨ) rfl rfl (fun _ => rfl) (by decide) (by decide) rfl (Nat.le_of_ble_eq_true rfl) dX8_pass__10 h (fun v2 M3 h => ?_)
    exact j_zret C rfl (by rcases (X_gd h).1 with q | q <;> (rw [q]; rfl)) (X_gd h).2 dX8_pass__13 (by decide)
theorem dX7_add_0 : decode cX7_add 0 = .ok (.aload_n 0, 1) := by decide +kernel
theorem dX7_add_1 : decode cX7_add 1 = .ok (.getfield 19, 3) := by decide +kernel
theorem dX7_add_4 : decode cX7_add 4 = .ok (.aload_n 0, 1) := by decide +kernel
theorem dX7_add_5 : decode cX7_add 5 = .ok (.getfield 9, 3) := by decide +kernel
theorem dX7_add_8 : decode cX7_add 8 = .ok (.arraylength, 1) := by decide +kernel
theorem dX7_add_9 : decode cX7_add 9 = .ok (.if_icmp .ge 23, 3) := by decide +kernel
theorem dX7_add_12 : decode cX7_add 12 = .ok (.aload_n 0, 1) := by decide +kernel
theorem dX7_add_13 : decode cX7_add 13 = .ok (.getfield 9, 3) := by decide +kernel
theorem dX7_add_16 : decode cX7_add 16 = .ok (.aload_n 0, 1) := by decide +kernel
theorem dX7_add_17 : decode cX7_add 17 = .ok (.getfield 19, 3) := by decide +kernel
theorem dX7_add_20 : decode cX7_add 20 = .ok (.iload_n 1, 1) := by decide +kernel
theorem dX7_add_21 : decode cX7_add 21 = .ok (.iastore, 1) := by decide +kernel
theorem dX7_add_22 : decode cX7_add 22 = .ok (.aload_n 0, 1) := by decide +kernel
theorem dX7_add_23 : decode cX7_add 23 = .ok (.dup, 1) := by decide +kernel
theorem dX7_add_24 : decode cX7_add 24 = .ok (.getfield 19, 3) := by decide +kernel
theorem dX7_add_27 : decode cX7_add 27 = .ok (.iconst 1, 1) := by decide +kernel
theorem dX7_add_28 : decode cX7_add 28 = .ok (.iadd, 1) := by decide +kernel
theorem dX7_add_29 : decode cX7_add 29 = .ok (.putfield 19, 3) := by decide +kernel
theorem dX7_add_32 : decode cX7_add 32 = .ok (.return_, 1) := by decide +kernel
noncomputable def F_X7_add (a0 : Nat) (a1 : Int32) (M : m_M) : Option (Unit × m_M) :=
  x_gI 7 M a0 12 fun v1 =>
  x_gN 7 M a0 11 fun v2 =>
  x_len 12 M v2 fun v3 =>
  if v3 ≤ v1 then (
    some ((), M)
  ) else
  x_gN 7 M a0 11 fun v4 =>
  x_gI 7 M a0 12 fun v5 =>
  x_sI 12 M v4 v5 a1 fun M1 =>
  x_gI 7 M1 a0 12 fun v6 =>
  x_pI 7 M1 a0 12 (v6 + (1 : Int32)) fun M2 =>
  some ((), M2)
set_option maxHeartbeats 4000000 in
theorem K_X7_add (a0 : Nat) (a1 : Int32) (M : m_M) (Φ : Option Value → m_M → Prop) (h : m_ok e_V Φ (F_X7_add a0 a1 M)) : j_Ct yX7_add cX7_add 2 none 1 0 0 [.ref a0, .int a1] M Φ := by
  refine j_Ct.of (by decide +kernel) (Nat.le_of_ble_eq_true rfl) fun X C => ?_
  have C0 := C.1
  show j_J X 2 0 [some (.ref a0), some (.int a1)] [] (0, 0) M
  unfold F_X7_add at h
  refine j_aload_n C0 (pc := 0) dX7_add_0 rfl ?_
  refine X_gI C0 (pc := 1) f_SR_19_7 rfl dX7_add_1 h (fun v1 h => ?_)
  refine j_aload_n C0 (pc := 4) dX7_add_4 rfl ?_
  refine X_gN C0 (pc := 5) f_SR_9_7 rfl dX7_add_5 h (fun v2 h => ?_)
  refine X_alen C0 (pc := 8) (by decide) dX7_add_8 h (fun v3 h => ?_)
  refine j_icmp_ge C0 (pc := 9) (tgt := 32) dX7_add_9 (by decide) (fun hc => ?_) (fun hc => ?_)
  · replace h := (X_if h).1 hc
    exact j_vret C rfl h dX7_add_32 (by decide)
  · replace h := (X_if h).2 hc
    refine j_aload_n C0 (pc := 12) dX7_add_12 rfl ?_
    refine X_gN C0 (pc := 13) f_SR_9_7 rfl dX7_add_13 h (fun v4 h => ?_)
    refine j_aload_n C0 (pc := 16) dX7_add_16 rfl ?_
    refine X_gI C0 (pc := 17) f_SR_19_7 rfl dX7_add_17 h (fun v5 h => ?_)
    refine j_iload_n C0 (pc := 20) dX7_add_20 rfl ?_
    refine X_iast C0 (pc := 21) dX7_add_21 h (fun M1 h => ?_)
    refine j_aload_n C0 (pc := 22) dX7_add_22 rfl ?_
    refine j_dup C0 (pc := 23) dX7_add_23 rfl ?_
    refine X_gI C0 (pc := 24) f_SR_19_7 rfl dX7_add_24 h (fun v6 h => ?_)
    refine j_iconst C0 (pc := 27) dX7_add_27 (v := (1 : Int32)) (by decide) ?_
    refine j_iadd C0 (pc := 28) dX7_add_28 ?_
    refine X_pI C0 (pc := 29) f_SR_19_7 rfl rfl dX7_add_29 h (fun M2 h => ?_)
    exact j_vret C rfl h dX7_add_32 (by decide)
theorem dX3_isThing_0 : decode cX3_isThing 0 = .ok (.iload_n 1, 1) := by decide +kernel
theorem dX3_isThing_1 : decode cX3_isThing 1 = .ok (.ifCond .lt 17, 3) := by decide +kernel
theorem dX3_isThing_4 : decode cX3_isThing 4 = .ok (.iload_n 1, 1) := by decide +kernel
theorem dX3_isThing_5 : decode cX3_isThing 5 = .ok (.aload_n 0, 1) := by decide +kernel
theorem dX3_isThing_6 : decode cX3_isThing 6 = .ok (.getfield 9, 3) := by decide +kernel
theorem dX3_isThing_9 : decode cX3_isThing 9 = .ok (.iconst 0, 1) := by decide +kernel
theorem dX3_isThing_10 : decode cX3_isThing 10 = .ok (.iaload, 1) := by decide +kernel
theorem dX3_isThing_11 : decode cX3_isThing 11 = .ok (.if_icmp .ge 7, 3) := by decide +kernel
theorem dX3_isThing_14 : decode cX3_isThing 14 = .ok (.iconst 1, 1) := by decide +kernel
theorem dX3_isThing_15 : decode cX3_isThing 15 = .ok (.goto 4, 3) := by decide +kernel
theorem dX3_isThing_18 : decode cX3_isThing 18 = .ok (.iconst 0, 1) := by decide +kernel
theorem dX3_isThing_19 : decode cX3_isThing 19 = .ok (.ireturn, 1) := by decide +kernel
noncomputable def F_X3_isThing (a0 : Nat) (a1 : Int32) (M : m_M) : Option (Int32 × m_M) :=
  m_let (fun  (M1 : m_M) =>
    some ((0 : Int32), M1)
  ) fun (k18 : m_M → Option (Int32 × m_M)) =>
  if a1 < 0 then (
    k18 M
  ) else
  x_gN 3 M a0 6 fun v1 =>
  x_aI 12 M v1 (0 : Int32) fun v2 =>
  if v2 ≤ a1 then (
    k18 M
  ) else
  some ((1 : Int32), M)
set_option maxHeartbeats 4000000 in
theorem K_X3_isThing (a0 : Nat) (a1 : Int32) (M : m_M) (Φ : Option Value → m_M → Prop) (h : m_ok e_I Φ (F_X3_isThing a0 a1 M)) : j_Ct yX3_isThing cX3_isThing 2 (some .boolean) 1 0 0 [.ref a0, .int a1] M Φ := by
  refine j_Ct.of (by decide +kernel) (Nat.le_of_ble_eq_true rfl) fun X C => ?_
  have C0 := C.1
  show j_J X 2 0 [some (.ref a0), some (.int a1)] [] (0, 0) M
  unfold F_X3_isThing at h
  refine X_join (fun (kj : m_M → Option (Int32 × m_M)) => ∀  (M : m_M), m_ok e_I Φ (kj M) → j_J X 2 18 [none, none] [] (0, 0) M) h (fun M1 h => ?_) (fun k18 hk18 h => ?_)
  · refine j_iconst C0 (pc := 18) dX3_isThing_18 (v := (0 : Int32)) (by decide) ?_
    exact j_zret C rfl (by decide) h dX3_isThing_19 (by decide)
  · refine j_iload_n C0 (pc := 0) dX3_isThing_0 rfl ?_
    refine j_if_lt C0 (pc := 1) (tgt := 18) dX3_isThing_1 (by decide) (fun hc => ?_) (fun hc => ?_)
    · replace h := (X_if h).1 hc
      exact j_J.wq (hk18 M h) (trivial)
    · replace h := (X_if h).2 hc
      refine j_iload_n C0 (pc := 4) dX3_isThing_4 rfl ?_
      refine j_aload_n C0 (pc := 5) dX3_isThing_5 rfl ?_
      refine X_gN C0 (pc := 6) f_Land_9_3 rfl dX3_isThing_6 h (fun v1 h => ?_)
      refine j_iconst C0 (pc := 9) dX3_isThing_9 (v := (0 : Int32)) (by decide) ?_
      refine X_iald C0 (pc := 10) dX3_isThing_10 h (fun v2 h => ?_)
      refine j_icmp_ge C0 (pc := 11) (tgt := 18) dX3_isThing_11 (by decide) (fun hc => ?_) (fun hc => ?_)
      · replace h := (X_if h).1 hc
        exact j_J.wq (hk18 M h) (trivial)
      · replace h := (X_if h).2 hc
        refine j_iconst C0 (pc := 14) dX3_isThing_14 (v := (1 : Int32)) (by decide) ?_
        refine j_goto C0 (pc := 15) (tgt := 19) dX3_isThing_15 (by decide) ?_
        exact j_zret C rfl (by decide) h dX3_isThing_19 (by decide)
theorem dX3_bent_0 : decode cX3_bent 0 = .ok (.iload_n 2, 1) := by decide +kernel
theorem dX3_bent_1 : decode cX3_bent 1 = .ok (.ifCond .lt 34, 3) := by decide +kernel
theorem dX3_bent_4 : decode cX3_bent 4 = .ok (.iload_n 2, 1) := by decide +kernel
theorem dX3_bent_5 : decode cX3_bent 5 = .ok (.aload_n 0, 1) := by decide +kernel
theorem dX3_bent_6 : decode cX3_bent 6 = .ok (.getfield 9, 3) := by decide +kernel
theorem dX3_bent_9 : decode cX3_bent 9 = .ok (.iconst 1, 1) := by decide +kernel
theorem dX3_bent_10 : decode cX3_bent 10 = .ok (.iaload, 1) := by decide +kernel
theorem dX3_bent_11 : decode cX3_bent 11 = .ok (.if_icmp .ge 24, 3) := by decide +kernel
theorem dX3_bent_14 : decode cX3_bent 14 = .ok (.aload_n 0, 1) := by decide +kernel
theorem dX3_bent_15 : decode cX3_bent 15 = .ok (.iload_n 1, 1) := by decide +kernel
theorem dX3_bent_16 : decode cX3_bent 16 = .ok (.invokevirtual 141, 3) := by decide +kernel
theorem dX3_bent_19 : decode cX3_bent 19 = .ok (.ifCond .eq 16, 3) := by decide +kernel
theorem dX3_bent_22 : decode cX3_bent 22 = .ok (.aload_n 0, 1) := by decide +kernel
theorem dX3_bent_23 : decode cX3_bent 23 = .ok (.getfield 37, 3) := by decide +kernel
theorem dX3_bent_26 : decode cX3_bent 26 = .ok (.iload_n 2, 1) := by decide +kernel
theorem dX3_bent_27 : decode cX3_bent 27 = .ok (.iconst 5, 1) := by decide +kernel
theorem dX3_bent_28 : decode cX3_bent 28 = .ok (.imul, 1) := by decide +kernel
theorem dX3_bent_29 : decode cX3_bent 29 = .ok (.iload_n 1, 1) := by decide +kernel
theorem dX3_bent_30 : decode cX3_bent 30 = .ok (.iadd, 1) := by decide +kernel
theorem dX3_bent_31 : decode cX3_bent 31 = .ok (.iaload, 1) := by decide +kernel
theorem dX3_bent_32 : decode cX3_bent 32 = .ok (.goto 6, 3) := by decide +kernel
theorem dX3_bent_35 : decode cX3_bent 35 = .ok (.sipush 228, 3) := by decide +kernel
theorem dX3_bent_38 : decode cX3_bent 38 = .ok (.istore 4, 2) := by decide +kernel
theorem dX3_bent_40 : decode cX3_bent 40 = .ok (.iload 4, 2) := by decide +kernel
theorem dX3_bent_42 : decode cX3_bent 42 = .ok (.iconst 2, 1) := by decide +kernel
theorem dX3_bent_43 : decode cX3_bent 43 = .ok (.iload_n 3, 1) := by decide +kernel
theorem dX3_bent_44 : decode cX3_bent 44 = .ok (.imul, 1) := by decide +kernel
theorem dX3_bent_45 : decode cX3_bent 45 = .ok (.ishr, 1) := by decide +kernel
theorem dX3_bent_46 : decode cX3_bent 46 = .ok (.iconst 3, 1) := by decide +kernel
theorem dX3_bent_47 : decode cX3_bent 47 = .ok (.iand, 1) := by decide +kernel
theorem dX3_bent_48 : decode cX3_bent 48 = .ok (.ireturn, 1) := by decide +kernel
noncomputable def F_X3_bent (a0 : Nat) (a1 : Int32) (a2 : Int32) (a3 : Int32) (M : m_M) : Option (Int32 × m_M) :=
  m_let (fun (v1 : Int32) (v2 : Int32) (M1 : m_M) =>
    some ((v2 >>> (((2 : Int32) * v1) &&& 31)) &&& (3 : Int32), M1)
  ) fun (k38 : Int32 → Int32 → m_M → Option (Int32 × m_M)) =>
  m_let (fun (v3 : Int32) (M2 : m_M) =>
    k38 v3 (228 : Int32) M2
  ) fun (k35 : Int32 → m_M → Option (Int32 × m_M)) =>
  if a2 < 0 then (
    k35 a3 M
  ) else
  x_gN 3 M a0 6 fun v4 =>
  x_aI 12 M v4 (1 : Int32) fun v5 =>
  if v5 ≤ a2 then (
    k35 a3 M
  ) else
  x_cV 3 M a0 (F_X3_isThing a0 a1 M) fun v6 M3 =>
  if v6 = 0 then (
    k35 a3 M3
  ) else
  x_gN 3 M3 a0 14 fun v7 =>
  x_aI 12 M3 v7 ((a2 * (5 : Int32)) + a1) fun v8 =>
  k38 a3 v8 M3
set_option maxHeartbeats 4000000 in
theorem K_X3_bent (a0 : Nat) (a1 : Int32) (a2 : Int32) (a3 : Int32) (M : m_M) (Φ : Option Value → m_M → Prop) (h : m_ok e_I Φ (F_X3_bent a0 a1 a2 a3 M)) : j_Ct yX3_bent cX3_bent 5 (some .int) 2 0 0 [.ref a0, .int a1, .int a2, .int a3] M Φ := by
  refine j_Ct.of (by decide +kernel) (Nat.le_of_ble_eq_true rfl) fun X C => ?_
  have C0 := C.1
  show j_J X 5 0 [some (.ref a0), some (.int a1), some (.int a2), some (.int a3), none] [] (0, 0) M
  unfold F_X3_bent at h
  refine X_join (fun (kj : Int32 → Int32 → m_M → Option (Int32 × m_M)) => ∀ (p0 : Int32) (p1 : Int32) (M : m_M), m_ok e_I Φ (kj p0 p1 M) → j_J X 5 38 [none, none, none, some (.int p0), none] [.int p1] (0, 0) M) h (fun v1 v2 M1 h => ?_) (fun k38 hk38 h => ?_)
  · refine j_istore C0 (pc := 38) dX3_bent_38 (Nat.le_of_ble_eq_true rfl) ?_
    show j_J X 5 40 [none, none, none, some (.int v1), some (.int v2)] [] (0, 0) M1
    refine j_iload C0 (pc := 40) dX3_bent_40 rfl ?_
    refine j_iconst C0 (pc := 42) dX3_bent_42 (v := (2 : Int32)) (by decide) ?_
    refine j_iload_n C0 (pc := 43) dX3_bent_43 rfl ?_
    refine j_imul C0 (pc := 44) dX3_bent_44 ?_
    refine j_ishr C0 (pc := 45) dX3_bent_45 ?_
    refine j_iconst C0 (pc := 46) dX3_bent_46 (v := (3 : Int32)) (by decide) ?_
    refine j_iand C0 (pc := 47) dX3_bent_47 ?_
    exact j_iret C rfl h dX3_bent_48 (by decide)
  · refine X_join (fun (kj : Int32 → m_M → Option (Int32 × m_M)) => ∀ (p0 : Int32) (M : m_M), m_ok e_I Φ (kj p0 M) → j_J X 5 35 [none, none, none, some (.int p0), none] [] (0, 0) M) h (fun v3 M2 h => ?_) (fun k35 hk35 h => ?_)
    · refine j_sipush C0 (pc := 35) dX3_bent_35 (v := (228 : Int32)) (by decide) ?_
      exact j_J.wq (hk38 v3 (228 : Int32) M2 h) (And.intro rfl (trivial))
    · refine j_iload_n C0 (pc := 0) dX3_bent_0 rfl ?_
      refine j_if_lt C0 (pc := 1) (tgt := 35) dX3_bent_1 (by decide) (fun hc => ?_) (fun hc => ?_)
      · replace h := (X_if h).1 hc
        exact j_J.wq (hk35 a3 M h) (And.intro rfl (trivial))
      · replace h := (X_if h).2 hc
        refine j_iload_n C0 (pc := 4) dX3_bent_4 rfl ?_
        refine j_aload_n C0 (pc := 5) dX3_bent_5 rfl ?_
        refine X_gN C0 (pc := 6) f_Land_9_3 rfl dX3_bent_6 h (fun v4 h => ?_)
        refine j_iconst C0 (pc := 9) dX3_bent_9 (v := (1 : Int32)) (by decide) ?_
        refine X_iald C0 (pc := 10) dX3_bent_10 h (fun v5 h => ?_)
        refine j_icmp_ge C0 (pc := 11) (tgt := 35) dX3_bent_11 (by decide) (fun hc => ?_) (fun hc => ?_)
        · replace h := (X_if h).1 hc
          exact j_J.wq (hk35 a3 M h) (And.intro rfl (trivial))
        · replace h := (X_if h).2 hc
          refine j_aload_n C0 (pc := 14) dX3_bent_14 rfl ?_
          refine j_iload_n C0 (pc := 15) dX3_bent_15 rfl ?_
          refine X_cV C0 (pc := 16) (e' := e_I) (as := [.int a1]) (rest := []) (s' := fun w => .int w :: []) (g' := (0, 0)) v_Land_141_3 (fun Ψ hΨ => K_X3_isThing a0 a1 M Ψ hΨ) rfl rfl (fun _ => rfl) (by decide) (by decide) rfl (Nat.le_of_ble_eq_true rfl) dX3_bent_16 h (fun v6 M3 h => ?_)
          refine j_if_eq C0 (pc := 19) (tgt := 35) dX3_bent_19 (by decide) (fun hc => ?_) (fun hc => ?_)
          · replace h := (X_if h).1 hc
            exact j_J.wq (hk35 a3 M3 h) (And.intro rfl (trivial))
          · replace h := (X_if h).2 hc
            refine j_aload_n C0 (pc := 22) dX3_bent_22 rfl ?_
            refine X_gN C0 (pc := 23) f_Land_37_3 rfl dX3_bent_23 h (fun v7 h => ?_)
            refine j_iload_n C0 (pc := 26) dX3_bent_26 rfl ?_
            refine j_iconst C0 (pc := 27) dX3_bent_27 (v := (5 : Int32)) (by decide) ?_
            refine j_imul C0 (pc := 28) dX3_bent_28 ?_
            refine j_iload_n C0 (pc := 29) dX3_bent_29 rfl ?_
            refine j_iadd C0 (pc := 30) dX3_bent_30 ?_
            refine X_iald C0 (pc := 31) dX3_bent_31 h (fun v8 h => ?_)
            refine j_goto C0 (pc := 32) (tgt := 38) dX3_bent_32 (by decide) ?_
            exact j_J.wq (hk38 a3 v8 M3 h) (And.intro rfl (trivial))
theorem dX3_bendNoun_0 : decode cX3_bendNoun 0 = .ok (.iconst 0, 1) := by decide +kernel
theorem dX3_bendNoun_1 : decode cX3_bendNoun 1 = .ok (.istore 4, 2) := by decide +kernel
theorem dX3_bendNoun_3 : decode cX3_bendNoun 3 = .ok (.iconst 0, 1) := by decide +kernel
theorem dX3_bendNoun_4 : decode cX3_bendNoun 4 = .ok (.istore 5, 2) := by decide +kernel
theorem dX3_bendNoun_6 : decode cX3_bendNoun 6 = .ok (.iload 5, 2) := by decide +kernel
theorem dX3_bendNoun_8 : decode cX3_bendNoun 8 = .ok (.aload_n 0, 1) := by decide +kernel
theorem dX3_bendNoun_9 : decode cX3_bendNoun 9 = .ok (.getfield 58, 3) := by decide +kernel
theorem dX3_bendNoun_12 : decode cX3_bendNoun 12 = .ok (.if_icmp .ge 33, 3) := by decide +kernel
theorem dX3_bendNoun_15 : decode cX3_bendNoun 15 = .ok (.iload 4, 2) := by decide +kernel
theorem dX3_bendNoun_17 : decode cX3_bendNoun 17 = .ok (.aload_n 0, 1) := by decide +kernel
theorem dX3_bendNoun_18 : decode cX3_bendNoun 18 = .ok (.iload_n 1, 1) := by decide +kernel
theorem dX3_bendNoun_19 : decode cX3_bendNoun 19 = .ok (.iload_n 3, 1) := by decide +kernel
theorem dX3_bendNoun_20 : decode cX3_bendNoun 20 = .ok (.aload_n 0, 1) := by decide +kernel
theorem dX3_bendNoun_21 : decode cX3_bendNoun 21 = .ok (.iload_n 1, 1) := by decide +kernel
theorem dX3_bendNoun_22 : decode cX3_bendNoun 22 = .ok (.iload_n 2, 1) := by decide +kernel
theorem dX3_bendNoun_23 : decode cX3_bendNoun 23 = .ok (.iload 5, 2) := by decide +kernel
theorem dX3_bendNoun_25 : decode cX3_bendNoun 25 = .ok (.invokevirtual 138, 3) := by decide +kernel
theorem dX3_bendNoun_28 : decode cX3_bendNoun 28 = .ok (.invokevirtual 138, 3) := by decide +kernel
theorem dX3_bendNoun_31 : decode cX3_bendNoun 31 = .ok (.iconst 2, 1) := by decide +kernel
theorem dX3_bendNoun_32 : decode cX3_bendNoun 32 = .ok (.iload 5, 2) := by decide +kernel
theorem dX3_bendNoun_34 : decode cX3_bendNoun 34 = .ok (.imul, 1) := by decide +kernel
theorem dX3_bendNoun_35 : decode cX3_bendNoun 35 = .ok (.ishl, 1) := by decide +kernel
theorem dX3_bendNoun_36 : decode cX3_bendNoun 36 = .ok (.ior, 1) := by decide +kernel
theorem dX3_bendNoun_37 : decode cX3_bendNoun 37 = .ok (.istore 4, 2) := by decide +kernel
theorem dX3_bendNoun_39 : decode cX3_bendNoun 39 = .ok (.iinc 5 1, 3) := by decide +kernel
theorem dX3_bendNoun_42 : decode cX3_bendNoun 42 = .ok (.goto (-36), 3) := by decide +kernel
theorem dX3_bendNoun_45 : decode cX3_bendNoun 45 = .ok (.iload 4, 2) := by decide +kernel
theorem dX3_bendNoun_47 : decode cX3_bendNoun 47 = .ok (.iconst 3, 1) := by decide +kernel
theorem dX3_bendNoun_48 : decode cX3_bendNoun 48 = .ok (.ishl, 1) := by decide +kernel
theorem dX3_bendNoun_49 : decode cX3_bendNoun 49 = .ok (.iload_n 1, 1) := by decide +kernel
theorem dX3_bendNoun_50 : decode cX3_bendNoun 50 = .ok (.ior, 1) := by decide +kernel
theorem dX3_bendNoun_51 : decode cX3_bendNoun 51 = .ok (.ireturn, 1) := by decide +kernel
noncomputable def F_X3_bendNoun_6 (k45 : Int32 → Int32 → m_M → Option (Int32 × m_M)) : Nat → Nat → Int32 → Int32 → Int32 → Int32 → Int32 → m_M → Option (Int32 × m_M)
  | 0, _, _, _, _, _, _, _ => none
  | n + 1, v1, v2, v3, v4, v5, v6, M =>
    x_gI 3 M v1 0 fun v7 =>
    if v7 ≤ v6 then (
      k45 v2 v5 M
    ) else
    x_cV 3 M v1 (F_X3_bent v1 v2 v3 v6 M) fun v8 M1 =>
    x_cV 3 M1 v1 (F_X3_bent v1 v2 v4 v8 M1) fun v9 M2 =>
    m_let (v5 ||| (v9 <<< (((2 : Int32) * v6) &&& 31))) fun v10 =>
    m_let (v6 + (1 : Int32)) fun v11 =>
    F_X3_bendNoun_6 k45 n v1 v2 v3 v4 v10 v11 M2
noncomputable def F_X3_bendNoun (a0 : Nat) (a1 : Int32) (a2 : Int32) (a3 : Int32) (M : m_M) : Option (Int32 × m_M) :=
  m_let (fun (v1 : Int32) (v2 : Int32) (M1 : m_M) =>
    some ((v2 <<< ((3 : Int32) &&& 31)) ||| v1, M1)
  ) fun (k45 : Int32 → Int32 → m_M → Option (Int32 × m_M)) =>
  F_X3_bendNoun_6 k45 m_FU a0 a1 a2 a3 (0 : Int32) (0 : Int32) M
set_option maxHeartbeats 4000000 in
theorem L_X3_bendNoun_6 {X : j_X} {Φ : Option Value → m_M → Prop} (C : j_C X yX3_bendNoun cX3_bendNoun 6 (some .int) 3 0 0 Φ) {k45 : Int32 → Int32 → m_M → Option (Int32 × m_M)} (hk45 : ∀ (p0 : Int32) (p1 : Int32) (M : m_M), m_ok e_I Φ (k45 p0 p1 M) → j_J X 6 45 [none, some (.int p0), none, none, some (.int p1), none] [] (0, 0) M) : ∀ (n : Nat) (v1 : Nat) (v2 : Int32) (v3 : Int32) (v4 : Int32) (v5 : Int32) (v6 : Int32) (M : m_M), m_ok e_I Φ (F_X3_bendNoun_6 k45 n v1 v2 v3 v4 v5 v6 M) → j_J X 6 6 [some (.ref v1), some (.int v2), some (.int v3), some (.int v4), some (.int v5), some (.int v6)] [] (0, 0) M := by
  have C0 := C.1
  intro n
  induction n with
  | zero => intro v1 v2 v3 v4 v5 v6 M h; exact False.elim h
  | succ n ih =>
    intro v1 v2 v3 v4 v5 v6 M h
    rw [F_X3_bendNoun_6] at h
    refine j_iload C0 (pc := 6) dX3_bendNoun_6 rfl ?_
    refine j_aload_n C0 (pc := 8) dX3_bendNoun_8 rfl ?_
    refine X_gI C0 (pc := 9) f_Land_58_3 rfl dX3_bendNoun_9 h (fun v7 h => ?_)
    refine j_icmp_ge C0 (pc := 12) (tgt := 45) dX3_bendNoun_12 (by decide) (fun hc => ?_) (fun hc => ?_)
    · replace h := (X_if h).1 hc
      exact j_J.wq (hk45 v2 v5 M h) (And.intro rfl (And.intro rfl (trivial)))
    · replace h := (X_if h).2 hc
      refine j_iload C0 (pc := 15) dX3_bendNoun_15 rfl ?_
      refine j_aload_n C0 (pc := 17) dX3_bendNoun_17 rfl ?_
      refine j_iload_n C0 (pc := 18) dX3_bendNoun_18 rfl ?_
      refine j_iload_n C0 (pc := 19) dX3_bendNoun_19 rfl ?_
      refine j_aload_n C0 (pc := 20) dX3_bendNoun_20 rfl ?_
      refine j_iload_n C0 (pc := 21) dX3_bendNoun_21 rfl ?_
      refine j_iload_n C0 (pc := 22) dX3_bendNoun_22 rfl ?_
      refine j_iload C0 (pc := 23) dX3_bendNoun_23 rfl ?_
      refine X_cV C0 (pc := 25) (e' := e_I) (as := [.int v2, .int v3, .int v6]) (rest := [.int v4, .int v2, .ref v1, .int v5]) (s' := fun w => .int w :: [.int v4, .int v2, .ref v1, .int v5]) (g' := (0, 0)) v_Land_138_3 (fun Ψ hΨ => K_X3_bent v1 v2 v3 v6 M Ψ hΨ) rfl rfl (fun _ => rfl) (by decide) (by decide) rfl (Nat.le_of_ble_eq_true rfl) dX3_bendNoun_25 h (fun v8 M1 h => ?_)
      refine X_cV C0 (pc := 28) (e' := e_I) (as := [.int v2, .int v4, .int v8]) (rest := [.int v5]) (s' := fun w => .int w :: [.int v5]) (g' := (0, 0)) v_Land_138_3 (fun Ψ hΨ => K_X3_bent v1 v2 v4 v8 M1 Ψ hΨ) rfl rfl (fun _ => rfl) (by decide) (by decide) rfl (Nat.le_of_ble_eq_true rfl) dX3_bendNoun_28 h (fun v9 M2 h => ?_)
      refine j_iconst C0 (pc := 31) dX3_bendNoun_31 (v := (2 : Int32)) (by decide) ?_
      refine j_iload C0 (pc := 32) dX3_bendNoun_32 rfl ?_
      refine j_imul C0 (pc := 34) dX3_bendNoun_34 ?_
      refine j_ishl C0 (pc := 35) dX3_bendNoun_35 ?_
      refine j_ior C0 (pc := 36) dX3_bendNoun_36 ?_
      refine X_let (G := fun w => j_J X 6 37 [some (.ref v1), some (.int v2), some (.int v3), some (.int v4), some (.int v5), some (.int v6)] (.int w :: []) (0, 0) M2) h (fun v10 h => ?_)
      refine j_istore C0 (pc := 37) dX3_bendNoun_37 (Nat.le_of_ble_eq_true rfl) ?_
      show j_J X 6 39 [some (.ref v1), some (.int v2), some (.int v3), some (.int v4), some (.int v10), some (.int v6)] [] (0, 0) M2
      refine j_iinc C0 (pc := 39) dX3_bendNoun_39 (v := v6 + (1 : Int32)) rfl (Nat.le_of_ble_eq_true rfl) (by rfl) ?_
      refine X_let (G := fun w => j_J X 6 42 [some (.ref v1), some (.int v2), some (.int v3), some (.int v4), some (.int v10), some (.int w)] [] (0, 0) M2) h (fun v11 h => ?_)
      refine j_goto C0 (pc := 42) (tgt := 6) dX3_bendNoun_42 (by decide) ?_
      exact j_J.wq (ih v1 v2 v3 v4 v10 v11 M2 h) (And.intro rfl (And.intro rfl (And.intro rfl (And.intro rfl (And.intro rfl (And.intro rfl (trivial)))))))
set_option maxHeartbeats 4000000 in
theorem K_X3_bendNoun (a0 : Nat) (a1 : Int32) (a2 : Int32) (a3 : Int32) (M : m_M) (Φ : Option Value → m_M → Prop) (h : m_ok e_I Φ (F_X3_bendNoun a0 a1 a2 a3 M)) : j_Ct yX3_bendNoun cX3_bendNoun 6 (some .int) 3 0 0 [.ref a0, .int a1, .int a2, .int a3] M Φ := by
  refine j_Ct.of (by decide +kernel) (Nat.le_of_ble_eq_true rfl) fun X C => ?_
  have C0 := C.1
  show j_J X 6 0 [some (.ref a0), some (.int a1), some (.int a2), some (.int a3), none, none] [] (0, 0) M
  unfold F_X3_bendNoun at h
  refine j_iconst C0 (pc := 0) dX3_bendNoun_0 (v := (0 : Int32)) (by decide) ?_
  refine j_istore C0 (pc := 1) dX3_bendNoun_1 (Nat.le_of_ble_eq_true rfl) ?_
  show j_J X 6 3 [some (.ref a0), some (.int a1), some (.int a2), some (.int a3), some (.int (0 : Int32)), none] [] (0, 0) M
  refine j_iconst C0 (pc := 3) dX3_bendNoun_3 (v := (0 : Int32)) (by decide) ?_
  refine j_istore C0 (pc := 4) dX3_bendNoun_4 (Nat.le_of_ble_eq_true rfl) ?_
  show j_J X 6 6 [some (.ref a0), some (.int a1), some (.int a2), some (.int a3), some (.int (0 : Int32)), some (.int (0 : Int32))] [] (0, 0) M
  refine X_join (fun (kj : Int32 → Int32 → m_M → Option (Int32 × m_M)) => ∀ (p0 : Int32) (p1 : Int32) (M : m_M), m_ok e_I Φ (kj p0 p1 M) → j_J X 6 45 [none, some (.int p0), none, none, some (.int p1), none] [] (0, 0) M) h (fun v1 v2 M1 h => ?_) (fun k45 hk45 h => ?_)
  · refine j_iload C0 (pc := 45) dX3_bendNoun_45 rfl ?_
    refine j_iconst C0 (pc := 47) dX3_bendNoun_47 (v := (3 : Int32)) (by decide) ?_
    refine j_ishl C0 (pc := 48) dX3_bendNoun_48 ?_
    refine j_iload_n C0 (pc := 49) dX3_bendNoun_49 rfl ?_
    refine j_ior C0 (pc := 50) dX3_bendNoun_50 ?_
    exact j_iret C rfl h dX3_bendNoun_51 (by decide)
  · exact j_J.wq (L_X3_bendNoun_6 C hk45 m_FU a0 a1 a2 a3 (0 : Int32) (0 : Int32) M h) (And.intro rfl (And.intro rfl (And.intro rfl (And.intro rfl (And.intro rfl (And.intro rfl (trivial)))))))
theorem dX7_readNoun_0 : decode cX7_readNoun 0 = .ok (.iconst (-1), 1) := by decide +kernel
theorem dX7_readNoun_1 : decode cX7_readNoun 1 = .ok (.istore_n 1, 1) := by decide +kernel
theorem dX7_readNoun_2 : decode cX7_readNoun 2 = .ok (.iconst (-1), 1) := by decide +kernel
theorem dX7_readNoun_3 : decode cX7_readNoun 3 = .ok (.istore_n 2, 1) := by decide +kernel
theorem dX7_readNoun_4 : decode cX7_readNoun 4 = .ok (.iconst 0, 1) := by decide +kernel
theorem dX7_readNoun_5 : decode cX7_readNoun 5 = .ok (.istore_n 3, 1) := by decide +kernel
theorem dX7_readNoun_6 : decode cX7_readNoun 6 = .ok (.iload_n 3, 1) := by decide +kernel
theorem dX7_readNoun_7 : decode cX7_readNoun 7 = .ok (.iconst 3, 1) := by decide +kernel
theorem dX7_readNoun_8 : decode cX7_readNoun 8 = .ok (.if_icmp .ge 112, 3) := by decide +kernel
theorem dX7_readNoun_11 : decode cX7_readNoun 11 = .ok (.aload_n 0, 1) := by decide +kernel
theorem dX7_readNoun_12 : decode cX7_readNoun 12 = .ok (.invokevirtual 81, 3) := by decide +kernel
theorem dX7_readNoun_15 : decode cX7_readNoun 15 = .ok (.ifCond .ne 11, 3) := by decide +kernel
theorem dX7_readNoun_18 : decode cX7_readNoun 18 = .ok (.aload_n 0, 1) := by decide +kernel
theorem dX7_readNoun_19 : decode cX7_readNoun 19 = .ok (.iconst 1, 1) := by decide +kernel
theorem dX7_readNoun_20 : decode cX7_readNoun 20 = .ok (.invokevirtual 41, 3) := by decide +kernel
theorem dX7_readNoun_23 : decode cX7_readNoun 23 = .ok (.pop, 1) := by decide +kernel
theorem dX7_readNoun_24 : decode cX7_readNoun 24 = .ok (.iconst (-1), 1) := by decide +kernel
theorem dX7_readNoun_25 : decode cX7_readNoun 25 = .ok (.ireturn, 1) := by decide +kernel
theorem dX7_readNoun_26 : decode cX7_readNoun 26 = .ok (.aload_n 0, 1) := by decide +kernel
theorem dX7_readNoun_27 : decode cX7_readNoun 27 = .ok (.getfield 15, 3) := by decide +kernel
theorem dX7_readNoun_30 : decode cX7_readNoun 30 = .ok (.iconst 0, 1) := by decide +kernel
theorem dX7_readNoun_31 : decode cX7_readNoun 31 = .ok (.aload_n 0, 1) := by decide +kernel
theorem dX7_readNoun_32 : decode cX7_readNoun 32 = .ok (.getfield 85, 3) := by decide +kernel
theorem dX7_readNoun_35 : decode cX7_readNoun 35 = .ok (.invokevirtual 89, 3) := by decide +kernel
theorem dX7_readNoun_38 : decode cX7_readNoun 38 = .ok (.istore 4, 2) := by decide +kernel
theorem dX7_readNoun_40 : decode cX7_readNoun 40 = .ok (.iload 4, 2) := by decide +kernel
theorem dX7_readNoun_42 : decode cX7_readNoun 42 = .ok (.iconst (-1), 1) := by decide +kernel
theorem dX7_readNoun_43 : decode cX7_readNoun 43 = .ok (.if_icmp .eq 19, 3) := by decide +kernel
theorem dX7_readNoun_46 : decode cX7_readNoun 46 = .ok (.aload_n 0, 1) := by decide +kernel
theorem dX7_readNoun_47 : decode cX7_readNoun 47 = .ok (.invokevirtual 63, 3) := by decide +kernel
theorem dX7_readNoun_50 : decode cX7_readNoun 50 = .ok (.aload_n 0, 1) := by decide +kernel
theorem dX7_readNoun_51 : decode cX7_readNoun 51 = .ok (.getfield 15, 3) := by decide +kernel
theorem dX7_readNoun_54 : decode cX7_readNoun 54 = .ok (.iload 4, 2) := by decide +kernel
theorem dX7_readNoun_56 : decode cX7_readNoun 56 = .ok (.iload_n 2, 1) := by decide +kernel
theorem dX7_readNoun_57 : decode cX7_readNoun 57 = .ok (.iload_n 1, 1) := by decide +kernel
theorem dX7_readNoun_58 : decode cX7_readNoun 58 = .ok (.invokevirtual 106, 3) := by decide +kernel
theorem dX7_readNoun_61 : decode cX7_readNoun 61 = .ok (.ireturn, 1) := by decide +kernel
theorem dX7_readNoun_62 : decode cX7_readNoun 62 = .ok (.aload_n 0, 1) := by decide +kernel
theorem dX7_readNoun_63 : decode cX7_readNoun 63 = .ok (.getfield 15, 3) := by decide +kernel
theorem dX7_readNoun_66 : decode cX7_readNoun 66 = .ok (.iconst 1, 1) := by decide +kernel
theorem dX7_readNoun_67 : decode cX7_readNoun 67 = .ok (.aload_n 0, 1) := by decide +kernel
theorem dX7_readNoun_68 : decode cX7_readNoun 68 = .ok (.getfield 85, 3) := by decide +kernel
theorem dX7_readNoun_71 : decode cX7_readNoun 71 = .ok (.invokevirtual 89, 3) := by decide +kernel
theorem dX7_readNoun_74 : decode cX7_readNoun 74 = .ok (.istore 5, 2) := by decide +kernel
theorem dX7_readNoun_76 : decode cX7_readNoun 76 = .ok (.iload 5, 2) := by decide +kernel
theorem dX7_readNoun_78 : decode cX7_readNoun 78 = .ok (.iconst (-1), 1) := by decide +kernel
theorem dX7_readNoun_79 : decode cX7_readNoun 79 = .ok (.if_icmp .eq 8, 3) := by decide +kernel
theorem dX7_readNoun_82 : decode cX7_readNoun 82 = .ok (.iload_n 3, 1) := by decide +kernel
theorem dX7_readNoun_83 : decode cX7_readNoun 83 = .ok (.iconst 2, 1) := by decide +kernel
theorem dX7_readNoun_84 : decode cX7_readNoun 84 = .ok (.if_icmp .ne 21, 3) := by decide +kernel
theorem dX7_readNoun_87 : decode cX7_readNoun 87 = .ok (.aload_n 0, 1) := by decide +kernel
theorem dX7_readNoun_88 : decode cX7_readNoun 88 = .ok (.iload 5, 2) := by decide +kernel
theorem dX7_readNoun_90 : decode cX7_readNoun 90 = .ok (.iconst (-1), 1) := by decide +kernel
theorem dX7_readNoun_91 : decode cX7_readNoun 91 = .ok (.if_icmp .ne 7, 3) := by decide +kernel
theorem dX7_readNoun_94 : decode cX7_readNoun 94 = .ok (.iconst 2, 1) := by decide +kernel
theorem dX7_readNoun_95 : decode cX7_readNoun 95 = .ok (.goto 4, 3) := by decide +kernel
theorem dX7_readNoun_98 : decode cX7_readNoun 98 = .ok (.iconst 5, 1) := by decide +kernel
theorem dX7_readNoun_99 : decode cX7_readNoun 99 = .ok (.invokevirtual 41, 3) := by decide +kernel
theorem dX7_readNoun_102 : decode cX7_readNoun 102 = .ok (.pop, 1) := by decide +kernel
theorem dX7_readNoun_103 : decode cX7_readNoun 103 = .ok (.iconst (-1), 1) := by decide +kernel
theorem dX7_readNoun_104 : decode cX7_readNoun 104 = .ok (.ireturn, 1) := by decide +kernel
theorem dX7_readNoun_105 : decode cX7_readNoun 105 = .ok (.iload_n 2, 1) := by decide +kernel
theorem dX7_readNoun_106 : decode cX7_readNoun 106 = .ok (.istore_n 1, 1) := by decide +kernel
theorem dX7_readNoun_107 : decode cX7_readNoun 107 = .ok (.iload 5, 2) := by decide +kernel
theorem dX7_readNoun_109 : decode cX7_readNoun 109 = .ok (.istore_n 2, 1) := by decide +kernel
theorem dX7_readNoun_110 : decode cX7_readNoun 110 = .ok (.aload_n 0, 1) := by decide +kernel
theorem dX7_readNoun_111 : decode cX7_readNoun 111 = .ok (.invokevirtual 63, 3) := by decide +kernel
theorem dX7_readNoun_114 : decode cX7_readNoun 114 = .ok (.iinc 3 1, 3) := by decide +kernel
theorem dX7_readNoun_117 : decode cX7_readNoun 117 = .ok (.goto (-111), 3) := by decide +kernel
theorem dX7_readNoun_120 : decode cX7_readNoun 120 = .ok (.iconst (-1), 1) := by decide +kernel
theorem dX7_readNoun_121 : decode cX7_readNoun 121 = .ok (.ireturn, 1) := by decide +kernel
noncomputable def F_X7_readNoun_6 (k18 : Nat → m_M → Option (Int32 × m_M)) (k46 : Nat → Int32 → Int32 → Int32 → m_M → Option (Int32 × m_M)) (k87 : Nat → Int32 → m_M → Option (Int32 × m_M)) : Nat → Nat → Int32 → Int32 → Int32 → m_M → Option (Int32 × m_M)
  | 0, _, _, _, _, _ => none
  | n + 1, v1, v2, v3, v4, M =>
    if (3 : Int32) ≤ v4 then (
      some ((-1 : Int32), M)
    ) else
    x_cV 7 M v1 (F_X8_isAtName 7 v1 M) fun v5 M1 =>
    if v5 = 0 then (
      k18 v1 M1
    ) else
    x_gN 7 M1 v1 10 fun v6 =>
    x_gL 7 M1 v1 7 fun v7 =>
    x_cV 3 M1 v6 (F_X3_find v6 (0 : Int32) v7 M1) fun v8 M2 =>
    if v8 = (-1 : Int32) then (
      x_gN 7 M2 v1 10 fun v9 =>
      x_gL 7 M2 v1 7 fun v10 =>
      x_cV 3 M2 v9 (F_X3_find v9 (1 : Int32) v10 M2) fun v11 M3 =>
      if v11 = (-1 : Int32) then (
        k87 v1 v11 M3
      ) else
      if v4 = (2 : Int32) then (
        k87 v1 v11 M3
      ) else
      x_cV 7 M3 v1 (F_X8_advance 7 v1 M3) fun _ M4 =>
      m_let (v4 + (1 : Int32)) fun v12 =>
      F_X7_readNoun_6 k18 k46 k87 n v1 v3 v11 v12 M4
    ) else
    k46 v1 v2 v3 v8 M2
noncomputable def F_X7_readNoun (a0 : Nat) (M : m_M) : Option (Int32 × m_M) :=
  m_let (fun (v1 : Nat) (M1 : m_M) =>
    x_cV 7 M1 v1 (F_X8_fail 7 v1 (1 : Int32) M1) fun v2 M2 =>
    some ((-1 : Int32), M2)
  ) fun (k18 : Nat → m_M → Option (Int32 × m_M)) =>
  m_let (fun (v3 : Nat) (v4 : Int32) (v5 : Int32) (v6 : Int32) (M3 : m_M) =>
    x_cV 7 M3 v3 (F_X8_advance 7 v3 M3) fun _ M4 =>
    x_gN 7 M4 v3 10 fun v7 =>
    x_cV 3 M4 v7 (F_X3_bendNoun v7 v6 v5 v4 M4) fun v8 M5 =>
    some (v8, M5)
  ) fun (k46 : Nat → Int32 → Int32 → Int32 → m_M → Option (Int32 × m_M)) =>
  m_let (fun (v9 : Nat) (v10 : Int32) (M6 : m_M) =>
    m_let (fun (v11 : Nat) (v12 : Int32) (M7 : m_M) =>
      x_cV 7 M7 v11 (F_X8_fail 7 v11 v12 M7) fun v13 M8 =>
      some ((-1 : Int32), M8)
    ) fun (k99 : Nat → Int32 → m_M → Option (Int32 × m_M)) =>
    if v10 = (-1 : Int32) then (
      k99 v9 (2 : Int32) M6
    ) else
    k99 v9 (5 : Int32) M6
  ) fun (k87 : Nat → Int32 → m_M → Option (Int32 × m_M)) =>
  F_X7_readNoun_6 k18 k46 k87 m_FU a0 (-1 : Int32) (-1 : Int32) (0 : Int32) M
set_option maxHeartbeats 4000000 in
theorem L_X7_readNoun_6 {X : j_X} {Φ : Option Value → m_M → Prop} (C : j_C X yX7_readNoun cX7_readNoun 6 (some .int) 7 0 0 Φ) {k18 : Nat → m_M → Option (Int32 × m_M)} {k46 : Nat → Int32 → Int32 → Int32 → m_M → Option (Int32 × m_M)} {k87 : Nat → Int32 → m_M → Option (Int32 × m_M)} (hk18 : ∀ (p0 : Nat) (M : m_M), m_ok e_I Φ (k18 p0 M) → j_J X 6 18 [some (.ref p0), none, none, none, none, none] [] (0, 0) M) (hk46 : ∀ (p0 : Nat) (p1 : Int32) (p2 : Int32) (p3 : Int32) (M : m_M), m_ok e_I Φ (k46 p0 p1 p2 p3 M) → j_J X 6 46 [some (.ref p0), some (.int p1), some (.int p2), none, some (.int p3), none] [] (0, 0) M) (hk87 : ∀ (p0 : Nat) (p1 : Int32) (M : m_M), m_ok e_I Φ (k87 p0 p1 M) → j_J X 6 87 [some (.ref p0), none, none, none, none, some (.int p1)] [] (0, 0) M) : ∀ (n : Nat) (v1 : Nat) (v2 : Int32) (v3 : Int32) (v4 : Int32) (M : m_M), m_ok e_I Φ (F_X7_readNoun_6 k18 k46 k87 n v1 v2 v3 v4 M) → j_J X 6 6 [some (.ref v1), some (.int v2), some (.int v3), some (.int v4), none, none] [] (0, 0) M := by
  have C0 := C.1
  intro n
  induction n with
  | zero => intro v1 v2 v3 v4 M h; exact False.elim h
  | succ n ih =>
    intro v1 v2 v3 v4 M h
    rw [F_X7_readNoun_6] at h
    refine j_iload_n C0 (pc := 6) dX7_readNoun_6 rfl ?_
    refine j_iconst C0 (pc := 7) dX7_readNoun_7 (v := (3 : Int32)) (by decide) ?_
    refine j_icmp_ge C0 (pc := 8) (tgt := 120) dX7_readNoun_8 (by decide) (fun hc => ?_) (fun hc => ?_)
    · replace h := (X_if h).1 hc
      refine j_iconst C0 (pc := 120) dX7_readNoun_120 (v := (-1 : Int32)) (by decide) ?_
      exact j_iret C rfl h dX7_readNoun_121 (by decide)
    · replace h := (X_if h).2 hc
      refine j_aload_n C0 (pc := 11) dX7_readNoun_11 rfl ?_
      refine X_cU C0 (pc := 12) (e' := e_I) (as := []) (rest := []) (s' := fun w => .int w :: []) (g' := (0, 0)) u_SR_81_7 (fun Ψ hΨ => K_X8_isAtName_7 v1 M Ψ hΨ) rfl rfl (fun _ => rfl) (by decide) (by decide) rfl (Nat.le_of_ble_eq_true rfl) dX7_readNoun_12 h (fun v5 M1 h => ?_)
      refine j_if_ne C0 (pc := 15) (tgt := 26) dX7_readNoun_15 (by decide) (fun hc => ?_) (fun hc => ?_)
      · replace h := (X_if h).2 hc
        refine j_aload_n C0 (pc := 26) dX7_readNoun_26 rfl ?_
        refine X_gN C0 (pc := 27) f_SR_15_7 rfl dX7_readNoun_27 h (fun v6 h => ?_)
        refine j_iconst C0 (pc := 30) dX7_readNoun_30 (v := (0 : Int32)) (by decide) ?_
        refine j_aload_n C0 (pc := 31) dX7_readNoun_31 rfl ?_
        refine X_gL C0 (pc := 32) f_SR_85_7 rfl dX7_readNoun_32 h (fun v7 h => ?_)
        refine X_cV C0 (pc := 35) (e' := e_I) (as := [.int (0 : Int32), .long v7]) (rest := []) (s' := fun w => .int w :: []) (g' := (0, 0)) v_SR_89_3 (fun Ψ hΨ => K_X3_find v6 (0 : Int32) v7 M1 Ψ hΨ) rfl rfl (fun _ => rfl) (by decide) (by decide) rfl (Nat.le_of_ble_eq_true rfl) dX7_readNoun_35 h (fun v8 M2 h => ?_)
        refine j_istore C0 (pc := 38) dX7_readNoun_38 (Nat.le_of_ble_eq_true rfl) ?_
        show j_J X 6 40 [some (.ref v1), some (.int v2), some (.int v3), some (.int v4), some (.int v8), none] [] (0, 0) M2
        refine j_iload C0 (pc := 40) dX7_readNoun_40 rfl ?_
        refine j_iconst C0 (pc := 42) dX7_readNoun_42 (v := (-1 : Int32)) (by decide) ?_
        refine j_icmp_eq C0 (pc := 43) (tgt := 62) dX7_readNoun_43 (by decide) (fun hc => ?_) (fun hc => ?_)
        · replace h := (X_if h).1 hc
          refine j_aload_n C0 (pc := 62) dX7_readNoun_62 rfl ?_
          refine X_gN C0 (pc := 63) f_SR_15_7 rfl dX7_readNoun_63 h (fun v9 h => ?_)
          refine j_iconst C0 (pc := 66) dX7_readNoun_66 (v := (1 : Int32)) (by decide) ?_
          refine j_aload_n C0 (pc := 67) dX7_readNoun_67 rfl ?_
          refine X_gL C0 (pc := 68) f_SR_85_7 rfl dX7_readNoun_68 h (fun v10 h => ?_)
          refine X_cV C0 (pc := 71) (e' := e_I) (as := [.int (1 : Int32), .long v10]) (rest := []) (s' := fun w => .int w :: []) (g' := (0, 0)) v_SR_89_3 (fun Ψ hΨ => K_X3_find v9 (1 : Int32) v10 M2 Ψ hΨ) rfl rfl (fun _ => rfl) (by decide) (by decide) rfl (Nat.le_of_ble_eq_true rfl) dX7_readNoun_71 h (fun v11 M3 h => ?_)
          refine j_istore C0 (pc := 74) dX7_readNoun_74 (Nat.le_of_ble_eq_true rfl) ?_
          show j_J X 6 76 [some (.ref v1), some (.int v2), some (.int v3), some (.int v4), some (.int v8), some (.int v11)] [] (0, 0) M3
          refine j_iload C0 (pc := 76) dX7_readNoun_76 rfl ?_
          refine j_iconst C0 (pc := 78) dX7_readNoun_78 (v := (-1 : Int32)) (by decide) ?_
          refine j_icmp_eq C0 (pc := 79) (tgt := 87) dX7_readNoun_79 (by decide) (fun hc => ?_) (fun hc => ?_)
          · replace h := (X_if h).1 hc
            exact j_J.wq (hk87 v1 v11 M3 h) (And.intro rfl (And.intro rfl (trivial)))
          · replace h := (X_if h).2 hc
            refine j_iload_n C0 (pc := 82) dX7_readNoun_82 rfl ?_
            refine j_iconst C0 (pc := 83) dX7_readNoun_83 (v := (2 : Int32)) (by decide) ?_
            refine j_icmp_ne C0 (pc := 84) (tgt := 105) dX7_readNoun_84 (by decide) (fun hc => ?_) (fun hc => ?_)
            · replace h := (X_if h).2 hc
              refine j_iload_n C0 (pc := 105) dX7_readNoun_105 rfl ?_
              refine j_istore_n C0 (pc := 106) dX7_readNoun_106 (Nat.le_of_ble_eq_true rfl) ?_
              show j_J X 6 107 [some (.ref v1), some (.int v3), some (.int v3), some (.int v4), some (.int v8), some (.int v11)] [] (0, 0) M3
              refine j_iload C0 (pc := 107) dX7_readNoun_107 rfl ?_
              refine j_istore_n C0 (pc := 109) dX7_readNoun_109 (Nat.le_of_ble_eq_true rfl) ?_
              show j_J X 6 110 [some (.ref v1), some (.int v3), some (.int v11), some (.int v4), some (.int v8), some (.int v11)] [] (0, 0) M3
              refine j_aload_n C0 (pc := 110) dX7_readNoun_110 rfl ?_
              refine X_cU C0 (pc := 111) (e' := e_V) (as := []) (rest := []) (s' := fun _ => []) (g' := (0, 0)) u_SR_63_7 (fun Ψ hΨ => K_X8_advance_7 v1 M3 Ψ hΨ) rfl rfl (fun _ => rfl) (by decide) (by decide) rfl (Nat.le_of_ble_eq_true rfl) dX7_readNoun_111 h (fun _ M4 h => ?_)
              refine j_iinc C0 (pc := 114) dX7_readNoun_114 (v := v4 + (1 : Int32)) rfl (Nat.le_of_ble_eq_true rfl) (by rfl) ?_
              refine X_let (G := fun w => j_J X 6 117 [some (.ref v1), some (.int v3), some (.int v11), some (.int w), some (.int v8), some (.int v11)] [] (0, 0) M4) h (fun v12 h => ?_)
              refine j_goto C0 (pc := 117) (tgt := 6) dX7_readNoun_117 (by decide) ?_
              exact j_J.wq (ih v1 v3 v11 v12 M4 h) (And.intro rfl (And.intro rfl (And.intro rfl (And.intro rfl (trivial)))))
            · replace h := (X_if h).1 hc
              exact j_J.wq (hk87 v1 v11 M3 h) (And.intro rfl (And.intro rfl (trivial)))
        · replace h := (X_if h).2 hc
          exact j_J.wq (hk46 v1 v2 v3 v8 M2 h) (And.intro rfl (And.intro rfl (And.intro rfl (And.intro rfl (trivial)))))
      · replace h := (X_if h).1 hc
        exact j_J.wq (hk18 v1 M1 h) (And.intro rfl (trivial))
set_option maxHeartbeats 4000000 in
theorem K_X7_readNoun (a0 : Nat) (M : m_M) (Φ : Option Value → m_M → Prop) (h : m_ok e_I Φ (F_X7_readNoun a0 M)) : j_Ct yX7_readNoun cX7_readNoun 6 (some .int) 7 0 0 [.ref a0] M Φ := by
  refine j_Ct.of (by decide +kernel) (Nat.le_of_ble_eq_true rfl) fun X C => ?_
  have C0 := C.1
  show j_J X 6 0 [some (.ref a0), none, none, none, none, none] [] (0, 0) M
  unfold F_X7_readNoun at h
  refine j_iconst C0 (pc := 0) dX7_readNoun_0 (v := (-1 : Int32)) (by decide) ?_
  refine j_istore_n C0 (pc := 1) dX7_readNoun_1 (Nat.le_of_ble_eq_true rfl) ?_
  show j_J X 6 2 [some (.ref a0), some (.int (-1 : Int32)), none, none, none, none] [] (0, 0) M
  refine j_iconst C0 (pc := 2) dX7_readNoun_2 (v := (-1 : Int32)) (by decide) ?_
  refine j_istore_n C0 (pc := 3) dX7_readNoun_3 (Nat.le_of_ble_eq_true rfl) ?_
  show j_J X 6 4 [some (.ref a0), some (.int (-1 : Int32)), some (.int (-1 : Int32)), none, none, none] [] (0, 0) M
  refine j_iconst C0 (pc := 4) dX7_readNoun_4 (v := (0 : Int32)) (by decide) ?_
  refine j_istore_n C0 (pc := 5) dX7_readNoun_5 (Nat.le_of_ble_eq_true rfl) ?_
  show j_J X 6 6 [some (.ref a0), some (.int (-1 : Int32)), some (.int (-1 : Int32)), some (.int (0 : Int32)), none, none] [] (0, 0) M
  refine X_join (fun (kj : Nat → m_M → Option (Int32 × m_M)) => ∀ (p0 : Nat) (M : m_M), m_ok e_I Φ (kj p0 M) → j_J X 6 18 [some (.ref p0), none, none, none, none, none] [] (0, 0) M) h (fun v1 M1 h => ?_) (fun k18 hk18 h => ?_)
  · refine j_aload_n C0 (pc := 18) dX7_readNoun_18 rfl ?_
    refine j_iconst C0 (pc := 19) dX7_readNoun_19 (v := (1 : Int32)) (by decide) ?_
    refine X_cU C0 (pc := 20) (e' := e_I) (as := [.int (1 : Int32)]) (rest := []) (s' := fun w => .int w :: []) (g' := (0, 0)) u_SR_41_7 (fun Ψ hΨ => K_X8_fail_7 v1 (1 : Int32) M1 Ψ hΨ) rfl rfl (fun _ => rfl) (by decide) (by decide) rfl (Nat.le_of_ble_eq_true rfl) dX7_readNoun_20 h (fun v2 M2 h => ?_)
    refine j_pop C0 (pc := 23) dX7_readNoun_23 rfl ?_
    refine j_iconst C0 (pc := 24) dX7_readNoun_24 (v := (-1 : Int32)) (by decide) ?_
    exact j_iret C rfl h dX7_readNoun_25 (by decide)
  · refine X_join (fun (kj : Nat → Int32 → Int32 → Int32 → m_M → Option (Int32 × m_M)) => ∀ (p0 : Nat) (p1 : Int32) (p2 : Int32) (p3 : Int32) (M : m_M), m_ok e_I Φ (kj p0 p1 p2 p3 M) → j_J X 6 46 [some (.ref p0), some (.int p1), some (.int p2), none, some (.int p3), none] [] (0, 0) M) h (fun v3 v4 v5 v6 M3 h => ?_) (fun k46 hk46 h => ?_)
    · refine j_aload_n C0 (pc := 46) dX7_readNoun_46 rfl ?_
      refine X_cU C0 (pc := 47) (e' := e_V) (as := []) (rest := []) (s' := fun _ => []) (g' := (0, 0)) u_SR_63_7 (fun Ψ hΨ => K_X8_advance_7 v3 M3 Ψ hΨ) rfl rfl (fun _ => rfl) (by decide) (by decide) rfl (Nat.le_of_ble_eq_true rfl) dX7_readNoun_47 h (fun _ M4 h => ?_)
      refine j_aload_n C0 (pc := 50) dX7_readNoun_50 rfl ?_
      refine X_gN C0 (pc := 51) f_SR_15_7 rfl dX7_readNoun_51 h (fun v7 h => ?_)
      refine j_iload C0 (pc := 54) dX7_readNoun_54 rfl ?_
      refine j_iload_n C0 (pc := 56) dX7_readNoun_56 rfl ?_
      refine j_iload_n C0 (pc := 57) dX7_readNoun_57 rfl ?_
      refine X_cV C0 (pc := 58) (e' := e_I) (as := [.int v6, .int v5, .int v4]) (rest := []) (s' := fun w => .int w :: []) (g' := (0, 0)) v_SR_106_3 (fun Ψ hΨ => K_X3_bendNoun v7 v6 v5 v4 M4 Ψ hΨ) rfl rfl (fun _ => rfl) (by decide) (by decide) rfl (Nat.le_of_ble_eq_true rfl) dX7_readNoun_58 h (fun v8 M5 h => ?_)
      exact j_iret C rfl h dX7_readNoun_61 (by decide)
    · refine X_join (fun (kj : Nat → Int32 → m_M → Option (Int32 × m_M)) => ∀ (p0 : Nat) (p1 : Int32) (M : m_M), m_ok e_I Φ (kj p0 p1 M) → j_J X 6 87 [some (.ref p0), none, none, none, none, some (.int p1)] [] (0, 0) M) h (fun v9 v10 M6 h => ?_) (fun k87 hk87 h => ?_)
      · refine X_join (fun (kj : Nat → Int32 → m_M → Option (Int32 × m_M)) => ∀ (p0 : Nat) (p1 : Int32) (M : m_M), m_ok e_I Φ (kj p0 p1 M) → j_J X 6 99 [none, none, none, none, none, none] [.int p1, .ref p0] (0, 0) M) h (fun v11 v12 M7 h => ?_) (fun k99 hk99 h => ?_)
        · refine X_cU C0 (pc := 99) (e' := e_I) (as := [.int v12]) (rest := []) (s' := fun w => .int w :: []) (g' := (0, 0)) u_SR_41_7 (fun Ψ hΨ => K_X8_fail_7 v11 v12 M7 Ψ hΨ) rfl rfl (fun _ => rfl) (by decide) (by decide) rfl (Nat.le_of_ble_eq_true rfl) dX7_readNoun_99 h (fun v13 M8 h => ?_)
          refine j_pop C0 (pc := 102) dX7_readNoun_102 rfl ?_
          refine j_iconst C0 (pc := 103) dX7_readNoun_103 (v := (-1 : Int32)) (by decide) ?_
          exact j_iret C rfl h dX7_readNoun_104 (by decide)
        · refine j_aload_n C0 (pc := 87) dX7_readNoun_87 rfl ?_
          refine j_iload C0 (pc := 88) dX7_readNoun_88 rfl ?_
          refine j_iconst C0 (pc := 90) dX7_readNoun_90 (v := (-1 : Int32)) (by decide) ?_
          refine j_icmp_ne C0 (pc := 91) (tgt := 98) dX7_readNoun_91 (by decide) (fun hc => ?_) (fun hc => ?_)
          · replace h := (X_if h).2 hc
            refine j_iconst C0 (pc := 98) dX7_readNoun_98 (v := (5 : Int32)) (by decide) ?_
            exact j_J.wq (hk99 v9 (5 : Int32) M6 h) (trivial)
          · replace h := (X_if h).1 hc
            refine j_iconst C0 (pc := 94) dX7_readNoun_94 (v := (2 : Int32)) (by decide) ?_
            refine j_goto C0 (pc := 95) (tgt := 99) dX7_readNoun_95 (by decide) ?_
            exact j_J.wq (hk99 v9 (2 : Int32) M6 h) (trivial)
      · exact j_J.wq (L_X7_readNoun_6 C hk18 hk46 hk87 m_FU a0 (-1 : Int32) (-1 : Int32) (0 : Int32) M h) (And.intro rfl (And.intro rfl (And.intro rfl (And.intro rfl (trivial)))))
theorem dX3_joinNouns_0 : decode cX3_joinNouns 0 = .ok (.iload_n 1, 1) := by decide +kernel
theorem dX3_joinNouns_1 : decode cX3_joinNouns 1 = .ok (.bipush 11, 2) := by decide +kernel
theorem dX3_joinNouns_3 : decode cX3_joinNouns 3 = .ok (.ishl, 1) := by decide +kernel
theorem dX3_joinNouns_4 : decode cX3_joinNouns 4 = .ok (.iload_n 2, 1) := by decide +kernel
theorem dX3_joinNouns_5 : decode cX3_joinNouns 5 = .ok (.ior, 1) := by decide +kernel
theorem dX3_joinNouns_6 : decode cX3_joinNouns 6 = .ok (.ireturn, 1) := by decide +kernel
noncomputable def F_X3_joinNouns (a0 : Nat) (a1 : Int32) (a2 : Int32) (M : m_M) : Option (Int32 × m_M) :=
  some ((a1 <<< ((11 : Int32) &&& 31)) ||| a2, M)
set_option maxHeartbeats 4000000 in
theorem K_X3_joinNouns (a0 : Nat) (a1 : Int32) (a2 : Int32) (M : m_M) (Φ : Option Value → m_M → Prop) (h : m_ok e_I Φ (F_X3_joinNouns a0 a1 a2 M)) : j_Ct yX3_joinNouns cX3_joinNouns 3 (some .int) 1 0 0 [.ref a0, .int a1, .int a2] M Φ := by
  refine j_Ct.of (by decide +kernel) (Nat.le_of_ble_eq_true rfl) fun X C => ?_
  have C0 := C.1
  show j_J X 3 0 [some (.ref a0), some (.int a1), some (.int a2)] [] (0, 0) M
  unfold F_X3_joinNouns at h
  refine j_iload_n C0 (pc := 0) dX3_joinNouns_0 rfl ?_
  refine j_bipush C0 (pc := 1) dX3_joinNouns_1 (v := (11 : Int32)) (by decide) ?_
  refine j_ishl C0 (pc := 3) dX3_joinNouns_3 ?_
  refine j_iload_n C0 (pc := 4) dX3_joinNouns_4 rfl ?_
  refine j_ior C0 (pc := 5) dX3_joinNouns_5 ?_
  exact j_iret C rfl h dX3_joinNouns_6 (by decide)
theorem dX7_readClause_0 : decode cX7_readClause 0 = .ok (.aload_n 0, 1) := by decide +kernel
theorem dX7_readClause_1 : decode cX7_readClause 1 = .ok (.invokevirtual 98, 3) := by decide +kernel
theorem dX7_readClause_4 : decode cX7_readClause 4 = .ok (.istore_n 1, 1) := by decide +kernel
theorem dX7_readClause_5 : decode cX7_readClause 5 = .ok (.iload_n 1, 1) := by decide +kernel
theorem dX7_readClause_6 : decode cX7_readClause 6 = .ok (.iconst (-1), 1) := by decide +kernel
theorem dX7_readClause_7 : decode cX7_readClause 7 = .ok (.if_icmp .ne 5, 3) := by decide +kernel
theorem dX7_readClause_10 : decode cX7_readClause 10 = .ok (.iconst 0, 1) := by decide +kernel
theorem dX7_readClause_11 : decode cX7_readClause 11 = .ok (.ireturn, 1) := by decide +kernel
theorem dX7_readClause_12 : decode cX7_readClause 12 = .ok (.aload_n 0, 1) := by decide +kernel
theorem dX7_readClause_13 : decode cX7_readClause 13 = .ok (.invokevirtual 98, 3) := by decide +kernel
theorem dX7_readClause_16 : decode cX7_readClause 16 = .ok (.istore_n 2, 1) := by decide +kernel
theorem dX7_readClause_17 : decode cX7_readClause 17 = .ok (.iload_n 2, 1) := by decide +kernel
theorem dX7_readClause_18 : decode cX7_readClause 18 = .ok (.iconst (-1), 1) := by decide +kernel
theorem dX7_readClause_19 : decode cX7_readClause 19 = .ok (.if_icmp .ne 5, 3) := by decide +kernel
theorem dX7_readClause_22 : decode cX7_readClause 22 = .ok (.iconst 0, 1) := by decide +kernel
theorem dX7_readClause_23 : decode cX7_readClause 23 = .ok (.ireturn, 1) := by decide +kernel
theorem dX7_readClause_24 : decode cX7_readClause 24 = .ok (.aload_n 0, 1) := by decide +kernel
theorem dX7_readClause_25 : decode cX7_readClause 25 = .ok (.aload_n 0, 1) := by decide +kernel
theorem dX7_readClause_26 : decode cX7_readClause 26 = .ok (.getfield 15, 3) := by decide +kernel
theorem dX7_readClause_29 : decode cX7_readClause 29 = .ok (.iload_n 1, 1) := by decide +kernel
theorem dX7_readClause_30 : decode cX7_readClause 30 = .ok (.iload_n 2, 1) := by decide +kernel
theorem dX7_readClause_31 : decode cX7_readClause 31 = .ok (.invokevirtual 102, 3) := by decide +kernel
theorem dX7_readClause_34 : decode cX7_readClause 34 = .ok (.invokevirtual 67, 3) := by decide +kernel
theorem dX7_readClause_37 : decode cX7_readClause 37 = .ok (.iconst 1, 1) := by decide +kernel
theorem dX7_readClause_38 : decode cX7_readClause 38 = .ok (.ireturn, 1) := by decide +kernel
noncomputable def F_X7_readClause (a0 : Nat) (M : m_M) : Option (Int32 × m_M) :=
  x_cV 7 M a0 (F_X7_readNoun a0 M) fun v1 M1 =>
  if v1 = (-1 : Int32) then (
    some ((0 : Int32), M1)
  ) else
  x_cV 7 M1 a0 (F_X7_readNoun a0 M1) fun v2 M2 =>
  if v2 = (-1 : Int32) then (
    some ((0 : Int32), M2)
  ) else
  x_gN 7 M2 a0 10 fun v3 =>
  x_cV 3 M2 v3 (F_X3_joinNouns v3 v1 v2 M2) fun v4 M3 =>
  x_cV 7 M3 a0 (F_X7_add a0 v4 M3) fun _ M4 =>
  some ((1 : Int32), M4)
set_option maxHeartbeats 4000000 in
theorem K_X7_readClause (a0 : Nat) (M : m_M) (Φ : Option Value → m_M → Prop) (h : m_ok e_I Φ (F_X7_readClause a0 M)) : j_Ct yX7_readClause cX7_readClause 3 (some .boolean) 8 0 0 [.ref a0] M Φ := by
  refine j_Ct.of (by decide +kernel) (Nat.le_of_ble_eq_true rfl) fun X C => ?_
  have C0 := C.1
  show j_J X 3 0 [some (.ref a0), none, none] [] (0, 0) M
  unfold F_X7_readClause at h
  refine j_aload_n C0 (pc := 0) dX7_readClause_0 rfl ?_
  refine X_cV C0 (pc := 1) (e' := e_I) (as := []) (rest := []) (s' := fun w => .int w :: []) (g' := (0, 0)) v_SR_98_7 (fun Ψ hΨ => K_X7_readNoun a0 M Ψ hΨ) rfl rfl (fun _ => rfl) (by decide) (by decide) rfl (Nat.le_of_ble_eq_true rfl) dX7_readClause_1 h (fun v1 M1 h => ?_)
  refine j_istore_n C0 (pc := 4) dX7_readClause_4 (Nat.le_of_ble_eq_true rfl) ?_
  show j_J X 3 5 [some (.ref a0), some (.int v1), none] [] (0, 0) M1
  refine j_iload_n C0 (pc := 5) dX7_readClause_5 rfl ?_
  refine j_iconst C0 (pc := 6) dX7_readClause_6 (v := (-1 : Int32)) (by decide) ?_
  refine j_icmp_ne C0 (pc := 7) (tgt := 12) dX7_readClause_7 (by decide) (fun hc => ?_) (fun hc => ?_)
  · replace h := (X_if h).2 hc
    refine j_aload_n C0 (pc := 12) dX7_readClause_12 rfl ?_
    refine X_cV C0 (pc := 13) (e' := e_I) (as := []) (rest := []) (s' := fun w => .int w :: []) (g' := (0, 0)) v_SR_98_7 (fun Ψ hΨ => K_X7_readNoun a0 M1 Ψ hΨ) rfl rfl (fun _ => rfl) (by decide) (by decide) rfl (Nat.le_of_ble_eq_true rfl) dX7_readClause_13 h (fun v2 M2 h => ?_)
    refine j_istore_n C0 (pc := 16) dX7_readClause_16 (Nat.le_of_ble_eq_true rfl) ?_
    show j_J X 3 17 [some (.ref a0), some (.int v1), some (.int v2)] [] (0, 0) M2
    refine j_iload_n C0 (pc := 17) dX7_readClause_17 rfl ?_
    refine j_iconst C0 (pc := 18) dX7_readClause_18 (v := (-1 : Int32)) (by decide) ?_
    refine j_icmp_ne C0 (pc := 19) (tgt := 24) dX7_readClause_19 (by decide) (fun hc => ?_) (fun hc => ?_)
    · replace h := (X_if h).2 hc
      refine j_aload_n C0 (pc := 24) dX7_readClause_24 rfl ?_
      refine j_aload_n C0 (pc := 25) dX7_readClause_25 rfl ?_
      refine X_gN C0 (pc := 26) f_SR_15_7 rfl dX7_readClause_26 h (fun v3 h => ?_)
      refine j_iload_n C0 (pc := 29) dX7_readClause_29 rfl ?_
      refine j_iload_n C0 (pc := 30) dX7_readClause_30 rfl ?_
      refine X_cV C0 (pc := 31) (e' := e_I) (as := [.int v1, .int v2]) (rest := [.ref a0]) (s' := fun w => .int w :: [.ref a0]) (g' := (0, 0)) v_SR_102_3 (fun Ψ hΨ => K_X3_joinNouns v3 v1 v2 M2 Ψ hΨ) rfl rfl (fun _ => rfl) (by decide) (by decide) rfl (Nat.le_of_ble_eq_true rfl) dX7_readClause_31 h (fun v4 M3 h => ?_)
      refine X_cV C0 (pc := 34) (e' := e_V) (as := [.int v4]) (rest := []) (s' := fun _ => []) (g' := (0, 0)) v_SR_67_7 (fun Ψ hΨ => K_X7_add a0 v4 M3 Ψ hΨ) rfl rfl (fun _ => rfl) (by decide) (by decide) rfl (Nat.le_of_ble_eq_true rfl) dX7_readClause_34 h (fun _ M4 h => ?_)
      refine j_iconst C0 (pc := 37) dX7_readClause_37 (v := (1 : Int32)) (by decide) ?_
      exact j_zret C rfl (by decide) h dX7_readClause_38 (by decide)
    · replace h := (X_if h).1 hc
      refine j_iconst C0 (pc := 22) dX7_readClause_22 (v := (0 : Int32)) (by decide) ?_
      exact j_zret C rfl (by decide) h dX7_readClause_23 (by decide)
  · replace h := (X_if h).1 hc
    refine j_iconst C0 (pc := 10) dX7_readClause_10 (v := (0 : Int32)) (by decide) ?_
    exact j_zret C rfl (by decide) h dX7_readClause_11 (by decide)
theorem dX7_readItem_0 : decode cX7_readItem 0 = .ok (.aload_n 0, 1) := by decide +kernel
theorem dX7_readItem_1 : decode cX7_readItem 1 = .ok (.getstatic 76, 3) := by decide +kernel
theorem dX7_readItem_4 : decode cX7_readItem 4 = .ok (.invokevirtual 59, 3) := by decide +kernel
theorem dX7_readItem_7 : decode cX7_readItem 7 = .ok (.ifCond .ne 12, 3) := by decide +kernel
theorem dX7_readItem_10 : decode cX7_readItem 10 = .ok (.aload_n 0, 1) := by decide +kernel
theorem dX7_readItem_11 : decode cX7_readItem 11 = .ok (.bipush 40, 2) := by decide +kernel
theorem dX7_readItem_13 : decode cX7_readItem 13 = .ok (.invokevirtual 79, 3) := by decide +kernel
theorem dX7_readItem_16 : decode cX7_readItem 16 = .ok (.ifCond .eq 7, 3) := by decide +kernel
theorem dX7_readItem_19 : decode cX7_readItem 19 = .ok (.iconst 1, 1) := by decide +kernel
theorem dX7_readItem_20 : decode cX7_readItem 20 = .ok (.goto 4, 3) := by decide +kernel
theorem dX7_readItem_23 : decode cX7_readItem 23 = .ok (.iconst 0, 1) := by decide +kernel
theorem dX7_readItem_24 : decode cX7_readItem 24 = .ok (.istore_n 2, 1) := by decide +kernel
theorem dX7_readItem_25 : decode cX7_readItem 25 = .ok (.iload_n 2, 1) := by decide +kernel
theorem dX7_readItem_26 : decode cX7_readItem 26 = .ok (.ifCond .ne 16, 3) := by decide +kernel
theorem dX7_readItem_29 : decode cX7_readItem 29 = .ok (.aload_n 0, 1) := by decide +kernel
theorem dX7_readItem_30 : decode cX7_readItem 30 = .ok (.invokevirtual 81, 3) := by decide +kernel
theorem dX7_readItem_33 : decode cX7_readItem 33 = .ok (.ifCond .ne 9, 3) := by decide +kernel
theorem dX7_readItem_36 : decode cX7_readItem 36 = .ok (.aload_n 0, 1) := by decide +kernel
theorem dX7_readItem_37 : decode cX7_readItem 37 = .ok (.iconst 1, 1) := by decide +kernel
theorem dX7_readItem_38 : decode cX7_readItem 38 = .ok (.invokevirtual 41, 3) := by decide +kernel
theorem dX7_readItem_41 : decode cX7_readItem 41 = .ok (.ireturn, 1) := by decide +kernel
theorem dX7_readItem_42 : decode cX7_readItem 42 = .ok (.iload_n 2, 1) := by decide +kernel
theorem dX7_readItem_43 : decode cX7_readItem 43 = .ok (.ifCond .ne 41, 3) := by decide +kernel
theorem dX7_readItem_46 : decode cX7_readItem 46 = .ok (.aload_n 0, 1) := by decide +kernel
theorem dX7_readItem_47 : decode cX7_readItem 47 = .ok (.getfield 15, 3) := by decide +kernel
theorem dX7_readItem_50 : decode cX7_readItem 50 = .ok (.iconst 0, 1) := by decide +kernel
theorem dX7_readItem_51 : decode cX7_readItem 51 = .ok (.aload_n 0, 1) := by decide +kernel
theorem dX7_readItem_52 : decode cX7_readItem 52 = .ok (.getfield 85, 3) := by decide +kernel
theorem dX7_readItem_55 : decode cX7_readItem 55 = .ok (.invokevirtual 89, 3) := by decide +kernel
theorem dX7_readItem_58 : decode cX7_readItem 58 = .ok (.iconst (-1), 1) := by decide +kernel
theorem dX7_readItem_59 : decode cX7_readItem 59 = .ok (.if_icmp .ne 25, 3) := by decide +kernel
theorem dX7_readItem_62 : decode cX7_readItem 62 = .ok (.aload_n 0, 1) := by decide +kernel
theorem dX7_readItem_63 : decode cX7_readItem 63 = .ok (.getfield 15, 3) := by decide +kernel
theorem dX7_readItem_66 : decode cX7_readItem 66 = .ok (.iconst 1, 1) := by decide +kernel
theorem dX7_readItem_67 : decode cX7_readItem 67 = .ok (.aload_n 0, 1) := by decide +kernel
theorem dX7_readItem_68 : decode cX7_readItem 68 = .ok (.getfield 85, 3) := by decide +kernel
theorem dX7_readItem_71 : decode cX7_readItem 71 = .ok (.invokevirtual 89, 3) := by decide +kernel
theorem dX7_readItem_74 : decode cX7_readItem 74 = .ok (.iconst (-1), 1) := by decide +kernel
theorem dX7_readItem_75 : decode cX7_readItem 75 = .ok (.if_icmp .ne 9, 3) := by decide +kernel
theorem dX7_readItem_78 : decode cX7_readItem 78 = .ok (.aload_n 0, 1) := by decide +kernel
theorem dX7_readItem_79 : decode cX7_readItem 79 = .ok (.iconst 2, 1) := by decide +kernel
theorem dX7_readItem_80 : decode cX7_readItem 80 = .ok (.invokevirtual 41, 3) := by decide +kernel
theorem dX7_readItem_83 : decode cX7_readItem 83 = .ok (.ireturn, 1) := by decide +kernel
theorem dX7_readItem_84 : decode cX7_readItem 84 = .ok (.iload_n 1, 1) := by decide +kernel
theorem dX7_readItem_85 : decode cX7_readItem 85 = .ok (.iconst 5, 1) := by decide +kernel
theorem dX7_readItem_86 : decode cX7_readItem 86 = .ok (.if_icmp .lt 9, 3) := by decide +kernel
theorem dX7_readItem_89 : decode cX7_readItem 89 = .ok (.aload_n 0, 1) := by decide +kernel
theorem dX7_readItem_90 : decode cX7_readItem 90 = .ok (.iconst 5, 1) := by decide +kernel
theorem dX7_readItem_91 : decode cX7_readItem 91 = .ok (.invokevirtual 41, 3) := by decide +kernel
theorem dX7_readItem_94 : decode cX7_readItem 94 = .ok (.ireturn, 1) := by decide +kernel
theorem dX7_readItem_95 : decode cX7_readItem 95 = .ok (.aload_n 0, 1) := by decide +kernel
theorem dX7_readItem_96 : decode cX7_readItem 96 = .ok (.bipush 40, 2) := by decide +kernel
theorem dX7_readItem_98 : decode cX7_readItem 98 = .ok (.invokevirtual 79, 3) := by decide +kernel
theorem dX7_readItem_101 : decode cX7_readItem 101 = .ok (.ifCond .eq 32, 3) := by decide +kernel
theorem dX7_readItem_104 : decode cX7_readItem 104 = .ok (.aload_n 0, 1) := by decide +kernel
theorem dX7_readItem_105 : decode cX7_readItem 105 = .ok (.invokevirtual 63, 3) := by decide +kernel
theorem dX7_readItem_108 : decode cX7_readItem 108 = .ok (.aload_n 0, 1) := by decide +kernel
theorem dX7_readItem_109 : decode cX7_readItem 109 = .ok (.iload_n 1, 1) := by decide +kernel
theorem dX7_readItem_110 : decode cX7_readItem 110 = .ok (.iconst 1, 1) := by decide +kernel
theorem dX7_readItem_111 : decode cX7_readItem 111 = .ok (.iadd, 1) := by decide +kernel
theorem dX7_readItem_112 : decode cX7_readItem 112 = .ok (.invokevirtual 27, 3) := by decide +kernel
theorem dX7_readItem_115 : decode cX7_readItem 115 = .ok (.ifCond .eq 16, 3) := by decide +kernel
theorem dX7_readItem_118 : decode cX7_readItem 118 = .ok (.aload_n 0, 1) := by decide +kernel
theorem dX7_readItem_119 : decode cX7_readItem 119 = .ok (.bipush 41, 2) := by decide +kernel
theorem dX7_readItem_121 : decode cX7_readItem 121 = .ok (.invokevirtual 31, 3) := by decide +kernel
theorem dX7_readItem_124 : decode cX7_readItem 124 = .ok (.ifCond .eq 7, 3) := by decide +kernel
theorem dX7_readItem_127 : decode cX7_readItem 127 = .ok (.iconst 1, 1) := by decide +kernel
theorem dX7_readItem_128 : decode cX7_readItem 128 = .ok (.goto 4, 3) := by decide +kernel
theorem dX7_readItem_131 : decode cX7_readItem 131 = .ok (.iconst 0, 1) := by decide +kernel
theorem dX7_readItem_132 : decode cX7_readItem 132 = .ok (.ireturn, 1) := by decide +kernel
theorem dX7_readItem_133 : decode cX7_readItem 133 = .ok (.aload_n 0, 1) := by decide +kernel
theorem dX7_readItem_134 : decode cX7_readItem 134 = .ok (.getstatic 76, 3) := by decide +kernel
theorem dX7_readItem_137 : decode cX7_readItem 137 = .ok (.invokevirtual 59, 3) := by decide +kernel
theorem dX7_readItem_140 : decode cX7_readItem 140 = .ok (.ifCond .eq 27, 3) := by decide +kernel
theorem dX7_readItem_143 : decode cX7_readItem 143 = .ok (.aload_n 0, 1) := by decide +kernel
theorem dX7_readItem_144 : decode cX7_readItem 144 = .ok (.invokevirtual 63, 3) := by decide +kernel
theorem dX7_readItem_147 : decode cX7_readItem 147 = .ok (.aload_n 0, 1) := by decide +kernel
theorem dX7_readItem_148 : decode cX7_readItem 148 = .ok (.iload_n 1, 1) := by decide +kernel
theorem dX7_readItem_149 : decode cX7_readItem 149 = .ok (.iconst 1, 1) := by decide +kernel
theorem dX7_readItem_150 : decode cX7_readItem 150 = .ok (.iadd, 1) := by decide +kernel
theorem dX7_readItem_151 : decode cX7_readItem 151 = .ok (.invokevirtual 70, 3) := by decide +kernel
theorem dX7_readItem_154 : decode cX7_readItem 154 = .ok (.ifCond .ne 5, 3) := by decide +kernel
theorem dX7_readItem_157 : decode cX7_readItem 157 = .ok (.iconst 0, 1) := by decide +kernel
theorem dX7_readItem_158 : decode cX7_readItem 158 = .ok (.ireturn, 1) := by decide +kernel
theorem dX7_readItem_159 : decode cX7_readItem 159 = .ok (.aload_n 0, 1) := by decide +kernel
theorem dX7_readItem_160 : decode cX7_readItem 160 = .ok (.bipush (-11), 2) := by decide +kernel
theorem dX7_readItem_162 : decode cX7_readItem 162 = .ok (.invokevirtual 67, 3) := by decide +kernel
theorem dX7_readItem_165 : decode cX7_readItem 165 = .ok (.iconst 1, 1) := by decide +kernel
theorem dX7_readItem_166 : decode cX7_readItem 166 = .ok (.ireturn, 1) := by decide +kernel
theorem dX7_readItem_167 : decode cX7_readItem 167 = .ok (.aload_n 0, 1) := by decide +kernel
theorem dX7_readItem_168 : decode cX7_readItem 168 = .ok (.invokevirtual 95, 3) := by decide +kernel
theorem dX7_readItem_171 : decode cX7_readItem 171 = .ok (.ireturn, 1) := by decide +kernel
theorem dX7_readFormula_0 : decode cX7_readFormula 0 = .ok (.aload_n 0, 1) := by decide +kernel
theorem dX7_readFormula_1 : decode cX7_readFormula 1 = .ok (.iload_n 1, 1) := by decide +kernel
theorem dX7_readFormula_2 : decode cX7_readFormula 2 = .ok (.invokevirtual 50, 3) := by decide +kernel
theorem dX7_readFormula_5 : decode cX7_readFormula 5 = .ok (.ifCond .ne 5, 3) := by decide +kernel
theorem dX7_readFormula_8 : decode cX7_readFormula 8 = .ok (.iconst 0, 1) := by decide +kernel
theorem dX7_readFormula_9 : decode cX7_readFormula 9 = .ok (.ireturn, 1) := by decide +kernel
theorem dX7_readFormula_10 : decode cX7_readFormula 10 = .ok (.iconst 0, 1) := by decide +kernel
theorem dX7_readFormula_11 : decode cX7_readFormula 11 = .ok (.istore_n 2, 1) := by decide +kernel
theorem dX7_readFormula_12 : decode cX7_readFormula 12 = .ok (.iload_n 2, 1) := by decide +kernel
theorem dX7_readFormula_13 : decode cX7_readFormula 13 = .ok (.sipush 1000, 3) := by decide +kernel
theorem dX7_readFormula_16 : decode cX7_readFormula 16 = .ok (.if_icmp .ge 39, 3) := by decide +kernel
theorem dX7_readFormula_19 : decode cX7_readFormula 19 = .ok (.aload_n 0, 1) := by decide +kernel
theorem dX7_readFormula_20 : decode cX7_readFormula 20 = .ok (.getstatic 53, 3) := by decide +kernel
theorem dX7_readFormula_23 : decode cX7_readFormula 23 = .ok (.invokevirtual 59, 3) := by decide +kernel
theorem dX7_readFormula_26 : decode cX7_readFormula 26 = .ok (.ifCond .eq 29, 3) := by decide +kernel
theorem dX7_readFormula_29 : decode cX7_readFormula 29 = .ok (.aload_n 0, 1) := by decide +kernel
theorem dX7_readFormula_30 : decode cX7_readFormula 30 = .ok (.invokevirtual 63, 3) := by decide +kernel
theorem dX7_readFormula_33 : decode cX7_readFormula 33 = .ok (.aload_n 0, 1) := by decide +kernel
theorem dX7_readFormula_34 : decode cX7_readFormula 34 = .ok (.iload_n 1, 1) := by decide +kernel
theorem dX7_readFormula_35 : decode cX7_readFormula 35 = .ok (.invokevirtual 50, 3) := by decide +kernel
theorem dX7_readFormula_38 : decode cX7_readFormula 38 = .ok (.ifCond .ne 5, 3) := by decide +kernel
theorem dX7_readFormula_41 : decode cX7_readFormula 41 = .ok (.iconst 0, 1) := by decide +kernel
theorem dX7_readFormula_42 : decode cX7_readFormula 42 = .ok (.ireturn, 1) := by decide +kernel
theorem dX7_readFormula_43 : decode cX7_readFormula 43 = .ok (.aload_n 0, 1) := by decide +kernel
theorem dX7_readFormula_44 : decode cX7_readFormula 44 = .ok (.bipush (-13), 2) := by decide +kernel
theorem dX7_readFormula_46 : decode cX7_readFormula 46 = .ok (.invokevirtual 67, 3) := by decide +kernel
theorem dX7_readFormula_49 : decode cX7_readFormula 49 = .ok (.iinc 2 1, 3) := by decide +kernel
theorem dX7_readFormula_52 : decode cX7_readFormula 52 = .ok (.goto (-40), 3) := by decide +kernel
theorem dX7_readFormula_55 : decode cX7_readFormula 55 = .ok (.iconst 1, 1) := by decide +kernel
theorem dX7_readFormula_56 : decode cX7_readFormula 56 = .ok (.ireturn, 1) := by decide +kernel
theorem dX7_readTerm_0 : decode cX7_readTerm 0 = .ok (.aload_n 0, 1) := by decide +kernel
theorem dX7_readTerm_1 : decode cX7_readTerm 1 = .ok (.iload_n 1, 1) := by decide +kernel
theorem dX7_readTerm_2 : decode cX7_readTerm 2 = .ok (.invokevirtual 70, 3) := by decide +kernel
theorem dX7_readTerm_5 : decode cX7_readTerm 5 = .ok (.ifCond .ne 5, 3) := by decide +kernel
theorem dX7_readTerm_8 : decode cX7_readTerm 8 = .ok (.iconst 0, 1) := by decide +kernel
theorem dX7_readTerm_9 : decode cX7_readTerm 9 = .ok (.ireturn, 1) := by decide +kernel
theorem dX7_readTerm_10 : decode cX7_readTerm 10 = .ok (.iconst 0, 1) := by decide +kernel
theorem dX7_readTerm_11 : decode cX7_readTerm 11 = .ok (.istore_n 2, 1) := by decide +kernel
theorem dX7_readTerm_12 : decode cX7_readTerm 12 = .ok (.iload_n 2, 1) := by decide +kernel
theorem dX7_readTerm_13 : decode cX7_readTerm 13 = .ok (.sipush 1000, 3) := by decide +kernel
theorem dX7_readTerm_16 : decode cX7_readTerm 16 = .ok (.if_icmp .ge 39, 3) := by decide +kernel
theorem dX7_readTerm_19 : decode cX7_readTerm 19 = .ok (.aload_n 0, 1) := by decide +kernel
theorem dX7_readTerm_20 : decode cX7_readTerm 20 = .ok (.getstatic 73, 3) := by decide +kernel
theorem dX7_readTerm_23 : decode cX7_readTerm 23 = .ok (.invokevirtual 59, 3) := by decide +kernel
theorem dX7_readTerm_26 : decode cX7_readTerm 26 = .ok (.ifCond .eq 29, 3) := by decide +kernel
theorem dX7_readTerm_29 : decode cX7_readTerm 29 = .ok (.aload_n 0, 1) := by decide +kernel
theorem dX7_readTerm_30 : decode cX7_readTerm 30 = .ok (.invokevirtual 63, 3) := by decide +kernel
theorem dX7_readTerm_33 : decode cX7_readTerm 33 = .ok (.aload_n 0, 1) := by decide +kernel
theorem dX7_readTerm_34 : decode cX7_readTerm 34 = .ok (.iload_n 1, 1) := by decide +kernel
theorem dX7_readTerm_35 : decode cX7_readTerm 35 = .ok (.invokevirtual 70, 3) := by decide +kernel
theorem dX7_readTerm_38 : decode cX7_readTerm 38 = .ok (.ifCond .ne 5, 3) := by decide +kernel
theorem dX7_readTerm_41 : decode cX7_readTerm 41 = .ok (.iconst 0, 1) := by decide +kernel
theorem dX7_readTerm_42 : decode cX7_readTerm 42 = .ok (.ireturn, 1) := by decide +kernel
theorem dX7_readTerm_43 : decode cX7_readTerm 43 = .ok (.aload_n 0, 1) := by decide +kernel
theorem dX7_readTerm_44 : decode cX7_readTerm 44 = .ok (.bipush (-12), 2) := by decide +kernel
theorem dX7_readTerm_46 : decode cX7_readTerm 46 = .ok (.invokevirtual 67, 3) := by decide +kernel
theorem dX7_readTerm_49 : decode cX7_readTerm 49 = .ok (.iinc 2 1, 3) := by decide +kernel
theorem dX7_readTerm_52 : decode cX7_readTerm 52 = .ok (.goto (-40), 3) := by decide +kernel
theorem dX7_readTerm_55 : decode cX7_readTerm 55 = .ok (.iconst 1, 1) := by decide +kernel
theorem dX7_readTerm_56 : decode cX7_readTerm 56 = .ok (.ireturn, 1) := by decide +kernel
noncomputable def F_X7_readItem (r_X7_readItem : Nat → Int32 → m_M → Option (Int32 × m_M)) (r_X7_readFormula : Nat → Int32 → m_M → Option (Int32 × m_M)) (r_X7_readTerm : Nat → Int32 → m_M → Option (Int32 × m_M)) (a0 : Nat) (a1 : Int32) (M : m_M) : Option (Int32 × m_M) :=
  m_let (fun (v1 : Nat) (v2 : Int32) (v3 : Int32) (M1 : m_M) =>
    m_let (fun (v4 : Nat) (v5 : Int32) (v6 : Int32) (M2 : m_M) =>
      m_let (fun (v7 : Nat) (v8 : Int32) (M3 : m_M) =>
        if v8 < (5 : Int32) then (
          x_cV 7 M3 v7 (F_X8_isAt_ 7 v7 (40 : Int32) M3) fun v9 M4 =>
          if v9 = 0 then (
            x_cV 7 M4 v7 (F_X8_isAt 7 v7 (1000000 + 10) M4) fun v10 M5 =>
            if v10 = 0 then (
              x_cV 7 M5 v7 (F_X7_readClause v7 M5) fun v11 M6 =>
              x_b v11 <| some (v11, M6)
            ) else
            x_cV 7 M5 v7 (F_X8_advance 7 v7 M5) fun _ M7 =>
            x_cV 7 M7 v7 (r_X7_readItem v7 (v8 + (1 : Int32)) M7) fun v12 M8 =>
            if v12 = 0 then (
              some ((0 : Int32), M8)
            ) else
            x_cV 7 M8 v7 (F_X7_add v7 (-11 : Int32) M8) fun _ M9 =>
            some ((1 : Int32), M9)
          ) else
          m_let (fun  (M10 : m_M) =>
            some ((0 : Int32), M10)
          ) fun (k131 : m_M → Option (Int32 × m_M)) =>
          x_cV 7 M4 v7 (F_X8_advance 7 v7 M4) fun _ M11 =>
          x_cV 7 M11 v7 (r_X7_readFormula v7 (v8 + (1 : Int32)) M11) fun v13 M12 =>
          if v13 = 0 then (
            k131 M12
          ) else
          x_cV 7 M12 v7 (F_X8_pass_ 7 v7 (41 : Int32) M12) fun v14 M13 =>
          if v14 = 0 then (
            k131 M13
          ) else
          some ((1 : Int32), M13)
        ) else
        x_cV 7 M3 v7 (F_X8_fail 7 v7 (5 : Int32) M3) fun v15 M14 =>
        x_b v15 <| some (v15, M14)
      ) fun (k84 : Nat → Int32 → m_M → Option (Int32 × m_M)) =>
      if v6 = 0 then (
        x_gN 7 M2 v4 10 fun v16 =>
        x_gL 7 M2 v4 7 fun v17 =>
        x_cV 3 M2 v16 (F_X3_find v16 (0 : Int32) v17 M2) fun v18 M15 =>
        if v18 = (-1 : Int32) then (
          x_gN 7 M15 v4 10 fun v19 =>
          x_gL 7 M15 v4 7 fun v20 =>
          x_cV 3 M15 v19 (F_X3_find v19 (1 : Int32) v20 M15) fun v21 M16 =>
          if v21 = (-1 : Int32) then (
            x_cV 7 M16 v4 (F_X8_fail 7 v4 (2 : Int32) M16) fun v22 M17 =>
            x_b v22 <| some (v22, M17)
          ) else
          k84 v4 v5 M16
        ) else
        k84 v4 v5 M15
      ) else
      k84 v4 v5 M2
    ) fun (k42 : Nat → Int32 → Int32 → m_M → Option (Int32 × m_M)) =>
    if v3 = 0 then (
      x_cV 7 M1 v1 (F_X8_isAtName 7 v1 M1) fun v23 M18 =>
      if v23 = 0 then (
        x_cV 7 M18 v1 (F_X8_fail 7 v1 (1 : Int32) M18) fun v24 M19 =>
        x_b v24 <| some (v24, M19)
      ) else
      k42 v1 v2 v3 M18
    ) else
    k42 v1 v2 v3 M1
  ) fun (k24 : Nat → Int32 → Int32 → m_M → Option (Int32 × m_M)) =>
  m_let (fun (v25 : Nat) (v26 : Int32) (M20 : m_M) =>
    k24 v25 v26 (1 : Int32) M20
  ) fun (k19 : Nat → Int32 → m_M → Option (Int32 × m_M)) =>
  x_cV 7 M a0 (F_X8_isAt 7 a0 (1000000 + 10) M) fun v27 M21 =>
  if v27 = 0 then (
    x_cV 7 M21 a0 (F_X8_isAt_ 7 a0 (40 : Int32) M21) fun v28 M22 =>
    if v28 = 0 then (
      k24 a0 a1 (0 : Int32) M22
    ) else
    k19 a0 a1 M22
  ) else
  k19 a0 a1 M21
noncomputable def F_X7_readFormula_12 (r_X7_readItem : Nat → Int32 → m_M → Option (Int32 × m_M)) (r_X7_readFormula : Nat → Int32 → m_M → Option (Int32 × m_M)) (r_X7_readTerm : Nat → Int32 → m_M → Option (Int32 × m_M)) : Nat → Nat → Int32 → Int32 → m_M → Option (Int32 × m_M)
  | 0, _, _, _, _ => none
  | n + 1, v1, v2, v3, M =>
    if (1000 : Int32) ≤ v3 then (
      some ((1 : Int32), M)
    ) else
    x_cV 7 M v1 (F_X8_isAt 7 v1 (1000000 + 12) M) fun v4 M1 =>
    if v4 = 0 then (
      some ((1 : Int32), M1)
    ) else
    x_cV 7 M1 v1 (F_X8_advance 7 v1 M1) fun _ M2 =>
    x_cV 7 M2 v1 (r_X7_readTerm v1 v2 M2) fun v5 M3 =>
    if v5 = 0 then (
      some ((0 : Int32), M3)
    ) else
    x_cV 7 M3 v1 (F_X7_add v1 (-13 : Int32) M3) fun _ M4 =>
    m_let (v3 + (1 : Int32)) fun v6 =>
    F_X7_readFormula_12 r_X7_readItem r_X7_readFormula r_X7_readTerm n v1 v2 v6 M4
noncomputable def F_X7_readFormula (r_X7_readItem : Nat → Int32 → m_M → Option (Int32 × m_M)) (r_X7_readFormula : Nat → Int32 → m_M → Option (Int32 × m_M)) (r_X7_readTerm : Nat → Int32 → m_M → Option (Int32 × m_M)) (a0 : Nat) (a1 : Int32) (M : m_M) : Option (Int32 × m_M) :=
  x_cV 7 M a0 (r_X7_readTerm a0 a1 M) fun v1 M1 =>
  if v1 = 0 then (
    some ((0 : Int32), M1)
  ) else
  F_X7_readFormula_12 r_X7_readItem r_X7_readFormula r_X7_readTerm m_FU a0 a1 (0 : Int32) M1
noncomputable def F_X7_readTerm_12 (r_X7_readItem : Nat → Int32 → m_M → Option (Int32 × m_M)) (r_X7_readFormula : Nat → Int32 → m_M → Option (Int32 × m_M)) (r_X7_readTerm : Nat → Int32 → m_M → Option (Int32 × m_M)) : Nat → Nat → Int32 → Int32 → m_M → Option (Int32 × m_M)
  | 0, _, _, _, _ => none
  | n + 1, v1, v2, v3, M =>
    if (1000 : Int32) ≤ v3 then (
      some ((1 : Int32), M)
    ) else
    x_cV 7 M v1 (F_X8_isAt 7 v1 (1000000 + 11) M) fun v4 M1 =>
    if v4 = 0 then (
      some ((1 : Int32), M1)
    ) else
    x_cV 7 M1 v1 (F_X8_advance 7 v1 M1) fun _ M2 =>
    x_cV 7 M2 v1 (r_X7_readItem v1 v2 M2) fun v5 M3 =>
    if v5 = 0 then (
      some ((0 : Int32), M3)
    ) else
    x_cV 7 M3 v1 (F_X7_add v1 (-12 : Int32) M3) fun _ M4 =>
    m_let (v3 + (1 : Int32)) fun v6 =>
    F_X7_readTerm_12 r_X7_readItem r_X7_readFormula r_X7_readTerm n v1 v2 v6 M4
noncomputable def F_X7_readTerm (r_X7_readItem : Nat → Int32 → m_M → Option (Int32 × m_M)) (r_X7_readFormula : Nat → Int32 → m_M → Option (Int32 × m_M)) (r_X7_readTerm : Nat → Int32 → m_M → Option (Int32 × m_M)) (a0 : Nat) (a1 : Int32) (M : m_M) : Option (Int32 × m_M) :=
  x_cV 7 M a0 (r_X7_readItem a0 a1 M) fun v1 M1 =>
  if v1 = 0 then (
    some ((0 : Int32), M1)
  ) else
  F_X7_readTerm_12 r_X7_readItem r_X7_readFormula r_X7_readTerm m_FU a0 a1 (0 : Int32) M1
noncomputable def G_S : Nat → (Nat → Int32 → m_M → Option (Int32 × m_M)) × (Nat → Int32 → m_M → Option (Int32 × m_M)) × (Nat → Int32 → m_M → Option (Int32 × m_M))
  | 0 => (fun _ _ _ => none, fun _ _ _ => none, fun _ _ _ => none)
  | n + 1 => (F_X7_readItem ((G_S n).1) ((G_S n).2.1) ((G_S n).2.2), F_X7_readFormula ((G_S n).1) ((G_S n).2.1) ((G_S n).2.2), F_X7_readTerm ((G_S n).1) ((G_S n).2.1) ((G_S n).2.2))
noncomputable def FG_X7_readItem (a0 : Nat) (a1 : Int32) (M : m_M) : Option (Int32 × m_M) := ((G_S 64).1) a0 a1 M
noncomputable def FG_X7_readFormula (a0 : Nat) (a1 : Int32) (M : m_M) : Option (Int32 × m_M) := ((G_S 64).2.1) a0 a1 M
noncomputable def FG_X7_readTerm (a0 : Nat) (a1 : Int32) (M : m_M) : Option (Int32 × m_M) := ((G_S 64).2.2) a0 a1 M
set_option maxHeartbeats 4000000 in
theorem K_X7_readItem {gn : Nat} {r_X7_readItem : Nat → Int32 → m_M → Option (Int32 × m_M)} {r_X7_readFormula : Nat → Int32 → m_M → Option (Int32 × m_M)} {r_X7_readTerm : Nat → Int32 → m_M → Option (Int32 × m_M)} (hr_X7_readItem : ∀ (a0 : Nat) (a1 : Int32) (M : m_M) (Φ : Option Value → m_M → Prop), m_ok e_I Φ (r_X7_readItem a0 a1 M) → j_Ct yX7_readItem cX7_readItem 3 (some .boolean) (8 + gn) 0 0 [.ref a0, .int a1] M Φ) (hr_X7_readFormula : ∀ (a0 : Nat) (a1 : Int32) (M : m_M) (Φ : Option Value → m_M → Prop), m_ok e_I Φ (r_X7_readFormula a0 a1 M) → j_Ct yX7_readFormula cX7_readFormula 3 (some .boolean) (8 + gn) 0 0 [.ref a0, .int a1] M Φ) (hr_X7_readTerm : ∀ (a0 : Nat) (a1 : Int32) (M : m_M) (Φ : Option Value → m_M → Prop), m_ok e_I Φ (r_X7_readTerm a0 a1 M) → j_Ct yX7_readTerm cX7_readTerm 3 (some .boolean) (8 + gn) 0 0 [.ref a0, .int a1] M Φ) (a0 : Nat) (a1 : Int32) (M : m_M) (Φ : Option Value → m_M → Prop) (h : m_ok e_I Φ (F_X7_readItem r_X7_readItem r_X7_readFormula r_X7_readTerm a0 a1 M)) : j_Ct yX7_readItem cX7_readItem 3 (some .boolean) (8 + (gn + 1)) 0 0 [.ref a0, .int a1] M Φ := by
  refine j_Ct.of (by decide +kernel) (Nat.le_of_ble_eq_true rfl) fun X C => ?_
  have C0 := C.1
  show j_J X 3 0 [some (.ref a0), some (.int a1), none] [] (0, 0) M
  unfold F_X7_readItem at h
  refine X_join (fun (kj : Nat → Int32 → Int32 → m_M → Option (Int32 × m_M)) => ∀ (p0 : Nat) (p1 : Int32) (p2 : Int32) (M : m_M), m_ok e_I Φ (kj p0 p1 p2 M) → j_J X 3 24 [some (.ref p0), some (.int p1), none] [.int p2] (0, 0) M) h (fun v1 v2 v3 M1 h => ?_) (fun k24 hk24 h => ?_)
  · refine X_join (fun (kj : Nat → Int32 → Int32 → m_M → Option (Int32 × m_M)) => ∀ (p0 : Nat) (p1 : Int32) (p2 : Int32) (M : m_M), m_ok e_I Φ (kj p0 p1 p2 M) → j_J X 3 42 [some (.ref p0), some (.int p1), some (.int p2)] [] (0, 0) M) h (fun v4 v5 v6 M2 h => ?_) (fun k42 hk42 h => ?_)
    · refine X_join (fun (kj : Nat → Int32 → m_M → Option (Int32 × m_M)) => ∀ (p0 : Nat) (p1 : Int32) (M : m_M), m_ok e_I Φ (kj p0 p1 M) → j_J X 3 84 [some (.ref p0), some (.int p1), none] [] (0, 0) M) h (fun v7 v8 M3 h => ?_) (fun k84 hk84 h => ?_)
      · refine j_iload_n C0 (pc := 84) dX7_readItem_84 rfl ?_
        refine j_iconst C0 (pc := 85) dX7_readItem_85 (v := (5 : Int32)) (by decide) ?_
        refine j_icmp_lt C0 (pc := 86) (tgt := 95) dX7_readItem_86 (by decide) (fun hc => ?_) (fun hc => ?_)
        · replace h := (X_if h).1 hc
          refine j_aload_n C0 (pc := 95) dX7_readItem_95 rfl ?_
          refine j_bipush C0 (pc := 96) dX7_readItem_96 (v := (40 : Int32)) (by decide) ?_
          refine X_cU C0 (pc := 98) (e' := e_I) (as := [.int (40 : Int32)]) (rest := []) (s' := fun w => .int w :: []) (g' := (0, 0)) u_SR_79_7 (fun Ψ hΨ => K_X8_isAt__7 v7 (40 : Int32) M3 Ψ hΨ) rfl rfl (fun _ => rfl) (by omega) (by decide) rfl (Nat.le_of_ble_eq_true rfl) dX7_readItem_98 h (fun v9 M4 h => ?_)
          refine j_if_eq C0 (pc := 101) (tgt := 133) dX7_readItem_101 (by decide) (fun hc => ?_) (fun hc => ?_)
          · replace h := (X_if h).1 hc
            refine j_aload_n C0 (pc := 133) dX7_readItem_133 rfl ?_
            refine j_kst C0 (pc := 134) (j := 10) (by decide) (j_c4 96 (by decide +kernel)) dX7_readItem_134 ?_
            refine X_cU C0 (pc := 137) (e' := e_I) (as := [.ref (1000000 + 10)]) (rest := []) (s' := fun w => .int w :: []) (g' := (0, 0)) u_SR_59_7 (fun Ψ hΨ => K_X8_isAt_7 v7 (1000000 + 10) M4 Ψ hΨ) rfl rfl (fun _ => rfl) (by omega) (by decide) rfl (Nat.le_of_ble_eq_true rfl) dX7_readItem_137 h (fun v10 M5 h => ?_)
            refine j_if_eq C0 (pc := 140) (tgt := 167) dX7_readItem_140 (by decide) (fun hc => ?_) (fun hc => ?_)
            · replace h := (X_if h).1 hc
              refine j_aload_n C0 (pc := 167) dX7_readItem_167 rfl ?_
              refine X_cV C0 (pc := 168) (e' := e_I) (as := []) (rest := []) (s' := fun w => .int w :: []) (g' := (0, 0)) v_SR_95_7 (fun Ψ hΨ => K_X7_readClause v7 M5 Ψ hΨ) rfl rfl (fun _ => rfl) (by omega) (by decide) rfl (Nat.le_of_ble_eq_true rfl) dX7_readItem_168 h (fun v11 M6 h => ?_)
              exact j_zret C rfl (by rcases (X_gd h).1 with q | q <;> (rw [q]; rfl)) (X_gd h).2 dX7_readItem_171 (by decide)
            · replace h := (X_if h).2 hc
              refine j_aload_n C0 (pc := 143) dX7_readItem_143 rfl ?_
              refine X_cU C0 (pc := 144) (e' := e_V) (as := []) (rest := []) (s' := fun _ => []) (g' := (0, 0)) u_SR_63_7 (fun Ψ hΨ => K_X8_advance_7 v7 M5 Ψ hΨ) rfl rfl (fun _ => rfl) (by omega) (by decide) rfl (Nat.le_of_ble_eq_true rfl) dX7_readItem_144 h (fun _ M7 h => ?_)
              refine j_aload_n C0 (pc := 147) dX7_readItem_147 rfl ?_
              refine j_iload_n C0 (pc := 148) dX7_readItem_148 rfl ?_
              refine j_iconst C0 (pc := 149) dX7_readItem_149 (v := (1 : Int32)) (by decide) ?_
              refine j_iadd C0 (pc := 150) dX7_readItem_150 ?_
              refine X_cV C0 (pc := 151) (e' := e_I) (as := [.int (v8 + (1 : Int32))]) (rest := []) (s' := fun w => .int w :: []) (g' := (0, 0)) v_SR_70_7 (fun Ψ hΨ => hr_X7_readItem v7 (v8 + (1 : Int32)) M7 Ψ hΨ) rfl rfl (fun _ => rfl) (by omega) (by decide) rfl (Nat.le_of_ble_eq_true rfl) dX7_readItem_151 h (fun v12 M8 h => ?_)
              refine j_if_ne C0 (pc := 154) (tgt := 159) dX7_readItem_154 (by decide) (fun hc => ?_) (fun hc => ?_)
              · replace h := (X_if h).2 hc
                refine j_aload_n C0 (pc := 159) dX7_readItem_159 rfl ?_
                refine j_bipush C0 (pc := 160) dX7_readItem_160 (v := (-11 : Int32)) (by decide) ?_
                refine X_cV C0 (pc := 162) (e' := e_V) (as := [.int (-11 : Int32)]) (rest := []) (s' := fun _ => []) (g' := (0, 0)) v_SR_67_7 (fun Ψ hΨ => K_X7_add v7 (-11 : Int32) M8 Ψ hΨ) rfl rfl (fun _ => rfl) (by omega) (by decide) rfl (Nat.le_of_ble_eq_true rfl) dX7_readItem_162 h (fun _ M9 h => ?_)
                refine j_iconst C0 (pc := 165) dX7_readItem_165 (v := (1 : Int32)) (by decide) ?_
                exact j_zret C rfl (by decide) h dX7_readItem_166 (by decide)
              · replace h := (X_if h).1 hc
                refine j_iconst C0 (pc := 157) dX7_readItem_157 (v := (0 : Int32)) (by decide) ?_
                exact j_zret C rfl (by decide) h dX7_readItem_158 (by decide)
          · replace h := (X_if h).2 hc
            refine X_join (fun (kj : m_M → Option (Int32 × m_M)) => ∀  (M : m_M), m_ok e_I Φ (kj M) → j_J X 3 131 [none, none, none] [] (0, 0) M) h (fun M10 h => ?_) (fun k131 hk131 h => ?_)
            · refine j_iconst C0 (pc := 131) dX7_readItem_131 (v := (0 : Int32)) (by decide) ?_
              exact j_zret C rfl (by decide) h dX7_readItem_132 (by decide)
            · refine j_aload_n C0 (pc := 104) dX7_readItem_104 rfl ?_
              refine X_cU C0 (pc := 105) (e' := e_V) (as := []) (rest := []) (s' := fun _ => []) (g' := (0, 0)) u_SR_63_7 (fun Ψ hΨ => K_X8_advance_7 v7 M4 Ψ hΨ) rfl rfl (fun _ => rfl) (by omega) (by decide) rfl (Nat.le_of_ble_eq_true rfl) dX7_readItem_105 h (fun _ M11 h => ?_)
              refine j_aload_n C0 (pc := 108) dX7_readItem_108 rfl ?_
              refine j_iload_n C0 (pc := 109) dX7_readItem_109 rfl ?_
              refine j_iconst C0 (pc := 110) dX7_readItem_110 (v := (1 : Int32)) (by decide) ?_
              refine j_iadd C0 (pc := 111) dX7_readItem_111 ?_
              refine X_cV C0 (pc := 112) (e' := e_I) (as := [.int (v8 + (1 : Int32))]) (rest := []) (s' := fun w => .int w :: []) (g' := (0, 0)) v_SR_27_7 (fun Ψ hΨ => hr_X7_readFormula v7 (v8 + (1 : Int32)) M11 Ψ hΨ) rfl rfl (fun _ => rfl) (by omega) (by decide) rfl (Nat.le_of_ble_eq_true rfl) dX7_readItem_112 h (fun v13 M12 h => ?_)
              refine j_if_eq C0 (pc := 115) (tgt := 131) dX7_readItem_115 (by decide) (fun hc => ?_) (fun hc => ?_)
              · replace h := (X_if h).1 hc
                exact j_J.wq (hk131 M12 h) (trivial)
              · replace h := (X_if h).2 hc
                refine j_aload_n C0 (pc := 118) dX7_readItem_118 rfl ?_
                refine j_bipush C0 (pc := 119) dX7_readItem_119 (v := (41 : Int32)) (by decide) ?_
                refine X_cU C0 (pc := 121) (e' := e_I) (as := [.int (41 : Int32)]) (rest := []) (s' := fun w => .int w :: []) (g' := (0, 0)) u_SR_31_7 (fun Ψ hΨ => K_X8_pass__7 v7 (41 : Int32) M12 Ψ hΨ) rfl rfl (fun _ => rfl) (by omega) (by decide) rfl (Nat.le_of_ble_eq_true rfl) dX7_readItem_121 h (fun v14 M13 h => ?_)
                refine j_if_eq C0 (pc := 124) (tgt := 131) dX7_readItem_124 (by decide) (fun hc => ?_) (fun hc => ?_)
                · replace h := (X_if h).1 hc
                  exact j_J.wq (hk131 M13 h) (trivial)
                · replace h := (X_if h).2 hc
                  refine j_iconst C0 (pc := 127) dX7_readItem_127 (v := (1 : Int32)) (by decide) ?_
                  refine j_goto C0 (pc := 128) (tgt := 132) dX7_readItem_128 (by decide) ?_
                  exact j_zret C rfl (by decide) h dX7_readItem_132 (by decide)
        · replace h := (X_if h).2 hc
          refine j_aload_n C0 (pc := 89) dX7_readItem_89 rfl ?_
          refine j_iconst C0 (pc := 90) dX7_readItem_90 (v := (5 : Int32)) (by decide) ?_
          refine X_cU C0 (pc := 91) (e' := e_I) (as := [.int (5 : Int32)]) (rest := []) (s' := fun w => .int w :: []) (g' := (0, 0)) u_SR_41_7 (fun Ψ hΨ => K_X8_fail_7 v7 (5 : Int32) M3 Ψ hΨ) rfl rfl (fun _ => rfl) (by omega) (by decide) rfl (Nat.le_of_ble_eq_true rfl) dX7_readItem_91 h (fun v15 M14 h => ?_)
          exact j_zret C rfl (by rcases (X_gd h).1 with q | q <;> (rw [q]; rfl)) (X_gd h).2 dX7_readItem_94 (by decide)
      · refine j_iload_n C0 (pc := 42) dX7_readItem_42 rfl ?_
        refine j_if_ne C0 (pc := 43) (tgt := 84) dX7_readItem_43 (by decide) (fun hc => ?_) (fun hc => ?_)
        · replace h := (X_if h).2 hc
          exact j_J.wq (hk84 v4 v5 M2 h) (And.intro rfl (And.intro rfl (trivial)))
        · replace h := (X_if h).1 hc
          refine j_aload_n C0 (pc := 46) dX7_readItem_46 rfl ?_
          refine X_gN C0 (pc := 47) f_SR_15_7 rfl dX7_readItem_47 h (fun v16 h => ?_)
          refine j_iconst C0 (pc := 50) dX7_readItem_50 (v := (0 : Int32)) (by decide) ?_
          refine j_aload_n C0 (pc := 51) dX7_readItem_51 rfl ?_
          refine X_gL C0 (pc := 52) f_SR_85_7 rfl dX7_readItem_52 h (fun v17 h => ?_)
          refine X_cV C0 (pc := 55) (e' := e_I) (as := [.int (0 : Int32), .long v17]) (rest := []) (s' := fun w => .int w :: []) (g' := (0, 0)) v_SR_89_3 (fun Ψ hΨ => K_X3_find v16 (0 : Int32) v17 M2 Ψ hΨ) rfl rfl (fun _ => rfl) (by omega) (by decide) rfl (Nat.le_of_ble_eq_true rfl) dX7_readItem_55 h (fun v18 M15 h => ?_)
          refine j_iconst C0 (pc := 58) dX7_readItem_58 (v := (-1 : Int32)) (by decide) ?_
          refine j_icmp_ne C0 (pc := 59) (tgt := 84) dX7_readItem_59 (by decide) (fun hc => ?_) (fun hc => ?_)
          · replace h := (X_if h).2 hc
            exact j_J.wq (hk84 v4 v5 M15 h) (And.intro rfl (And.intro rfl (trivial)))
          · replace h := (X_if h).1 hc
            refine j_aload_n C0 (pc := 62) dX7_readItem_62 rfl ?_
            refine X_gN C0 (pc := 63) f_SR_15_7 rfl dX7_readItem_63 h (fun v19 h => ?_)
            refine j_iconst C0 (pc := 66) dX7_readItem_66 (v := (1 : Int32)) (by decide) ?_
            refine j_aload_n C0 (pc := 67) dX7_readItem_67 rfl ?_
            refine X_gL C0 (pc := 68) f_SR_85_7 rfl dX7_readItem_68 h (fun v20 h => ?_)
            refine X_cV C0 (pc := 71) (e' := e_I) (as := [.int (1 : Int32), .long v20]) (rest := []) (s' := fun w => .int w :: []) (g' := (0, 0)) v_SR_89_3 (fun Ψ hΨ => K_X3_find v19 (1 : Int32) v20 M15 Ψ hΨ) rfl rfl (fun _ => rfl) (by omega) (by decide) rfl (Nat.le_of_ble_eq_true rfl) dX7_readItem_71 h (fun v21 M16 h => ?_)
            refine j_iconst C0 (pc := 74) dX7_readItem_74 (v := (-1 : Int32)) (by decide) ?_
            refine j_icmp_ne C0 (pc := 75) (tgt := 84) dX7_readItem_75 (by decide) (fun hc => ?_) (fun hc => ?_)
            · replace h := (X_if h).2 hc
              exact j_J.wq (hk84 v4 v5 M16 h) (And.intro rfl (And.intro rfl (trivial)))
            · replace h := (X_if h).1 hc
              refine j_aload_n C0 (pc := 78) dX7_readItem_78 rfl ?_
              refine j_iconst C0 (pc := 79) dX7_readItem_79 (v := (2 : Int32)) (by decide) ?_
              refine X_cU C0 (pc := 80) (e' := e_I) (as := [.int (2 : Int32)]) (rest := []) (s' := fun w => .int w :: []) (g' := (0, 0)) u_SR_41_7 (fun Ψ hΨ => K_X8_fail_7 v4 (2 : Int32) M16 Ψ hΨ) rfl rfl (fun _ => rfl) (by omega) (by decide) rfl (Nat.le_of_ble_eq_true rfl) dX7_readItem_80 h (fun v22 M17 h => ?_)
              exact j_zret C rfl (by rcases (X_gd h).1 with q | q <;> (rw [q]; rfl)) (X_gd h).2 dX7_readItem_83 (by decide)
    · refine j_istore_n C0 (pc := 24) dX7_readItem_24 (Nat.le_of_ble_eq_true rfl) ?_
      show j_J X 3 25 [some (.ref v1), some (.int v2), some (.int v3)] [] (0, 0) M1
      refine j_iload_n C0 (pc := 25) dX7_readItem_25 rfl ?_
      refine j_if_ne C0 (pc := 26) (tgt := 42) dX7_readItem_26 (by decide) (fun hc => ?_) (fun hc => ?_)
      · replace h := (X_if h).2 hc
        exact j_J.wq (hk42 v1 v2 v3 M1 h) (And.intro rfl (And.intro rfl (And.intro rfl (trivial))))
      · replace h := (X_if h).1 hc
        refine j_aload_n C0 (pc := 29) dX7_readItem_29 rfl ?_
        refine X_cU C0 (pc := 30) (e' := e_I) (as := []) (rest := []) (s' := fun w => .int w :: []) (g' := (0, 0)) u_SR_81_7 (fun Ψ hΨ => K_X8_isAtName_7 v1 M1 Ψ hΨ) rfl rfl (fun _ => rfl) (by omega) (by decide) rfl (Nat.le_of_ble_eq_true rfl) dX7_readItem_30 h (fun v23 M18 h => ?_)
        refine j_if_ne C0 (pc := 33) (tgt := 42) dX7_readItem_33 (by decide) (fun hc => ?_) (fun hc => ?_)
        · replace h := (X_if h).2 hc
          exact j_J.wq (hk42 v1 v2 v3 M18 h) (And.intro rfl (And.intro rfl (And.intro rfl (trivial))))
        · replace h := (X_if h).1 hc
          refine j_aload_n C0 (pc := 36) dX7_readItem_36 rfl ?_
          refine j_iconst C0 (pc := 37) dX7_readItem_37 (v := (1 : Int32)) (by decide) ?_
          refine X_cU C0 (pc := 38) (e' := e_I) (as := [.int (1 : Int32)]) (rest := []) (s' := fun w => .int w :: []) (g' := (0, 0)) u_SR_41_7 (fun Ψ hΨ => K_X8_fail_7 v1 (1 : Int32) M18 Ψ hΨ) rfl rfl (fun _ => rfl) (by omega) (by decide) rfl (Nat.le_of_ble_eq_true rfl) dX7_readItem_38 h (fun v24 M19 h => ?_)
          exact j_zret C rfl (by rcases (X_gd h).1 with q | q <;> (rw [q]; rfl)) (X_gd h).2 dX7_readItem_41 (by decide)
  · refine X_join (fun (kj : Nat → Int32 → m_M → Option (Int32 × m_M)) => ∀ (p0 : Nat) (p1 : Int32) (M : m_M), m_ok e_I Φ (kj p0 p1 M) → j_J X 3 19 [some (.ref p0), some (.int p1), none] [] (0, 0) M) h (fun v25 v26 M20 h => ?_) (fun k19 hk19 h => ?_)
    · refine j_iconst C0 (pc := 19) dX7_readItem_19 (v := (1 : Int32)) (by decide) ?_
      refine j_goto C0 (pc := 20) (tgt := 24) dX7_readItem_20 (by decide) ?_
      exact j_J.wq (hk24 v25 v26 (1 : Int32) M20 h) (And.intro rfl (And.intro rfl (trivial)))
    · refine j_aload_n C0 (pc := 0) dX7_readItem_0 rfl ?_
      refine j_kst C0 (pc := 1) (j := 10) (by decide) (j_c4 96 (by decide +kernel)) dX7_readItem_1 ?_
      refine X_cU C0 (pc := 4) (e' := e_I) (as := [.ref (1000000 + 10)]) (rest := []) (s' := fun w => .int w :: []) (g' := (0, 0)) u_SR_59_7 (fun Ψ hΨ => K_X8_isAt_7 a0 (1000000 + 10) M Ψ hΨ) rfl rfl (fun _ => rfl) (by omega) (by decide) rfl (Nat.le_of_ble_eq_true rfl) dX7_readItem_4 h (fun v27 M21 h => ?_)
      refine j_if_ne C0 (pc := 7) (tgt := 19) dX7_readItem_7 (by decide) (fun hc => ?_) (fun hc => ?_)
      · replace h := (X_if h).2 hc
        exact j_J.wq (hk19 a0 a1 M21 h) (And.intro rfl (And.intro rfl (trivial)))
      · replace h := (X_if h).1 hc
        refine j_aload_n C0 (pc := 10) dX7_readItem_10 rfl ?_
        refine j_bipush C0 (pc := 11) dX7_readItem_11 (v := (40 : Int32)) (by decide) ?_
        refine X_cU C0 (pc := 13) (e' := e_I) (as := [.int (40 : Int32)]) (rest := []) (s' := fun w => .int w :: []) (g' := (0, 0)) u_SR_79_7 (fun Ψ hΨ => K_X8_isAt__7 a0 (40 : Int32) M21 Ψ hΨ) rfl rfl (fun _ => rfl) (by omega) (by decide) rfl (Nat.le_of_ble_eq_true rfl) dX7_readItem_13 h (fun v28 M22 h => ?_)
        refine j_if_eq C0 (pc := 16) (tgt := 23) dX7_readItem_16 (by decide) (fun hc => ?_) (fun hc => ?_)
        · replace h := (X_if h).1 hc
          refine j_iconst C0 (pc := 23) dX7_readItem_23 (v := (0 : Int32)) (by decide) ?_
          exact j_J.wq (hk24 a0 a1 (0 : Int32) M22 h) (And.intro rfl (And.intro rfl (trivial)))
        · replace h := (X_if h).2 hc
          exact j_J.wq (hk19 a0 a1 M22 h) (And.intro rfl (And.intro rfl (trivial)))
set_option maxHeartbeats 4000000 in
theorem L_X7_readFormula_12 {X : j_X} {Φ : Option Value → m_M → Prop} {gn : Nat} {r_X7_readItem : Nat → Int32 → m_M → Option (Int32 × m_M)} {r_X7_readFormula : Nat → Int32 → m_M → Option (Int32 × m_M)} {r_X7_readTerm : Nat → Int32 → m_M → Option (Int32 × m_M)} (C : j_C X yX7_readFormula cX7_readFormula 3 (some .boolean) (8 + (gn + 1)) 0 0 Φ) (hr_X7_readItem : ∀ (a0 : Nat) (a1 : Int32) (M : m_M) (Φ : Option Value → m_M → Prop), m_ok e_I Φ (r_X7_readItem a0 a1 M) → j_Ct yX7_readItem cX7_readItem 3 (some .boolean) (8 + gn) 0 0 [.ref a0, .int a1] M Φ) (hr_X7_readFormula : ∀ (a0 : Nat) (a1 : Int32) (M : m_M) (Φ : Option Value → m_M → Prop), m_ok e_I Φ (r_X7_readFormula a0 a1 M) → j_Ct yX7_readFormula cX7_readFormula 3 (some .boolean) (8 + gn) 0 0 [.ref a0, .int a1] M Φ) (hr_X7_readTerm : ∀ (a0 : Nat) (a1 : Int32) (M : m_M) (Φ : Option Value → m_M → Prop), m_ok e_I Φ (r_X7_readTerm a0 a1 M) → j_Ct yX7_readTerm cX7_readTerm 3 (some .boolean) (8 + gn) 0 0 [.ref a0, .int a1] M Φ) : ∀ (n : Nat) (v1 : Nat) (v2 : Int32) (v3 : Int32) (M : m_M), m_ok e_I Φ (F_X7_readFormula_12 r_X7_readItem r_X7_readFormula r_X7_readTerm n v1 v2 v3 M) → j_J X 3 12 [some (.ref v1), some (.int v2), some (.int v3)] [] (0, 0) M := by
  have C0 := C.1
  intro n
  induction n with
  | zero => intro v1 v2 v3 M h; exact False.elim h
  | succ n ih =>
    intro v1 v2 v3 M h
    rw [F_X7_readFormula_12] at h
    refine j_iload_n C0 (pc := 12) dX7_readFormula_12 rfl ?_
    refine j_sipush C0 (pc := 13) dX7_readFormula_13 (v := (1000 : Int32)) (by decide) ?_
    refine j_icmp_ge C0 (pc := 16) (tgt := 55) dX7_readFormula_16 (by decide) (fun hc => ?_) (fun hc => ?_)
    · replace h := (X_if h).1 hc
      refine j_iconst C0 (pc := 55) dX7_readFormula_55 (v := (1 : Int32)) (by decide) ?_
      exact j_zret C rfl (by decide) h dX7_readFormula_56 (by decide)
    · replace h := (X_if h).2 hc
      refine j_aload_n C0 (pc := 19) dX7_readFormula_19 rfl ?_
      refine j_kst C0 (pc := 20) (j := 12) (by decide) (j_c4 145 (by decide +kernel)) dX7_readFormula_20 ?_
      refine X_cU C0 (pc := 23) (e' := e_I) (as := [.ref (1000000 + 12)]) (rest := []) (s' := fun w => .int w :: []) (g' := (0, 0)) u_SR_59_7 (fun Ψ hΨ => K_X8_isAt_7 v1 (1000000 + 12) M Ψ hΨ) rfl rfl (fun _ => rfl) (by omega) (by decide) rfl (Nat.le_of_ble_eq_true rfl) dX7_readFormula_23 h (fun v4 M1 h => ?_)
      refine j_if_eq C0 (pc := 26) (tgt := 55) dX7_readFormula_26 (by decide) (fun hc => ?_) (fun hc => ?_)
      · replace h := (X_if h).1 hc
        refine j_iconst C0 (pc := 55) dX7_readFormula_55 (v := (1 : Int32)) (by decide) ?_
        exact j_zret C rfl (by decide) h dX7_readFormula_56 (by decide)
      · replace h := (X_if h).2 hc
        refine j_aload_n C0 (pc := 29) dX7_readFormula_29 rfl ?_
        refine X_cU C0 (pc := 30) (e' := e_V) (as := []) (rest := []) (s' := fun _ => []) (g' := (0, 0)) u_SR_63_7 (fun Ψ hΨ => K_X8_advance_7 v1 M1 Ψ hΨ) rfl rfl (fun _ => rfl) (by omega) (by decide) rfl (Nat.le_of_ble_eq_true rfl) dX7_readFormula_30 h (fun _ M2 h => ?_)
        refine j_aload_n C0 (pc := 33) dX7_readFormula_33 rfl ?_
        refine j_iload_n C0 (pc := 34) dX7_readFormula_34 rfl ?_
        refine X_cV C0 (pc := 35) (e' := e_I) (as := [.int v2]) (rest := []) (s' := fun w => .int w :: []) (g' := (0, 0)) v_SR_50_7 (fun Ψ hΨ => hr_X7_readTerm v1 v2 M2 Ψ hΨ) rfl rfl (fun _ => rfl) (by omega) (by decide) rfl (Nat.le_of_ble_eq_true rfl) dX7_readFormula_35 h (fun v5 M3 h => ?_)
        refine j_if_ne C0 (pc := 38) (tgt := 43) dX7_readFormula_38 (by decide) (fun hc => ?_) (fun hc => ?_)
        · replace h := (X_if h).2 hc
          refine j_aload_n C0 (pc := 43) dX7_readFormula_43 rfl ?_
          refine j_bipush C0 (pc := 44) dX7_readFormula_44 (v := (-13 : Int32)) (by decide) ?_
          refine X_cV C0 (pc := 46) (e' := e_V) (as := [.int (-13 : Int32)]) (rest := []) (s' := fun _ => []) (g' := (0, 0)) v_SR_67_7 (fun Ψ hΨ => K_X7_add v1 (-13 : Int32) M3 Ψ hΨ) rfl rfl (fun _ => rfl) (by omega) (by decide) rfl (Nat.le_of_ble_eq_true rfl) dX7_readFormula_46 h (fun _ M4 h => ?_)
          refine j_iinc C0 (pc := 49) dX7_readFormula_49 (v := v3 + (1 : Int32)) rfl (Nat.le_of_ble_eq_true rfl) (by rfl) ?_
          refine X_let (G := fun w => j_J X 3 52 [some (.ref v1), some (.int v2), some (.int w)] [] (0, 0) M4) h (fun v6 h => ?_)
          refine j_goto C0 (pc := 52) (tgt := 12) dX7_readFormula_52 (by decide) ?_
          exact j_J.wq (ih v1 v2 v6 M4 h) (And.intro rfl (And.intro rfl (And.intro rfl (trivial))))
        · replace h := (X_if h).1 hc
          refine j_iconst C0 (pc := 41) dX7_readFormula_41 (v := (0 : Int32)) (by decide) ?_
          exact j_zret C rfl (by decide) h dX7_readFormula_42 (by decide)
set_option maxHeartbeats 4000000 in
theorem K_X7_readFormula {gn : Nat} {r_X7_readItem : Nat → Int32 → m_M → Option (Int32 × m_M)} {r_X7_readFormula : Nat → Int32 → m_M → Option (Int32 × m_M)} {r_X7_readTerm : Nat → Int32 → m_M → Option (Int32 × m_M)} (hr_X7_readItem : ∀ (a0 : Nat) (a1 : Int32) (M : m_M) (Φ : Option Value → m_M → Prop), m_ok e_I Φ (r_X7_readItem a0 a1 M) → j_Ct yX7_readItem cX7_readItem 3 (some .boolean) (8 + gn) 0 0 [.ref a0, .int a1] M Φ) (hr_X7_readFormula : ∀ (a0 : Nat) (a1 : Int32) (M : m_M) (Φ : Option Value → m_M → Prop), m_ok e_I Φ (r_X7_readFormula a0 a1 M) → j_Ct yX7_readFormula cX7_readFormula 3 (some .boolean) (8 + gn) 0 0 [.ref a0, .int a1] M Φ) (hr_X7_readTerm : ∀ (a0 : Nat) (a1 : Int32) (M : m_M) (Φ : Option Value → m_M → Prop), m_ok e_I Φ (r_X7_readTerm a0 a1 M) → j_Ct yX7_readTerm cX7_readTerm 3 (some .boolean) (8 + gn) 0 0 [.ref a0, .int a1] M Φ) (a0 : Nat) (a1 : Int32) (M : m_M) (Φ : Option Value → m_M → Prop) (h : m_ok e_I Φ (F_X7_readFormula r_X7_readItem r_X7_readFormula r_X7_readTerm a0 a1 M)) : j_Ct yX7_readFormula cX7_readFormula 3 (some .boolean) (8 + (gn + 1)) 0 0 [.ref a0, .int a1] M Φ := by
  refine j_Ct.of (by decide +kernel) (Nat.le_of_ble_eq_true rfl) fun X C => ?_
  have C0 := C.1
  show j_J X 3 0 [some (.ref a0), some (.int a1), none] [] (0, 0) M
  unfold F_X7_readFormula at h
  refine j_aload_n C0 (pc := 0) dX7_readFormula_0 rfl ?_
  refine j_iload_n C0 (pc := 1) dX7_readFormula_1 rfl ?_
  refine X_cV C0 (pc := 2) (e' := e_I) (as := [.int a1]) (rest := []) (s' := fun w => .int w :: []) (g' := (0, 0)) v_SR_50_7 (fun Ψ hΨ => hr_X7_readTerm a0 a1 M Ψ hΨ) rfl rfl (fun _ => rfl) (by omega) (by decide) rfl (Nat.le_of_ble_eq_true rfl) dX7_readFormula_2 h (fun v1 M1 h => ?_)
  refine j_if_ne C0 (pc := 5) (tgt := 10) dX7_readFormula_5 (by decide) (fun hc => ?_) (fun hc => ?_)
  · replace h := (X_if h).2 hc
    refine j_iconst C0 (pc := 10) dX7_readFormula_10 (v := (0 : Int32)) (by decide) ?_
    refine j_istore_n C0 (pc := 11) dX7_readFormula_11 (Nat.le_of_ble_eq_true rfl) ?_
    show j_J X 3 12 [some (.ref a0), some (.int a1), some (.int (0 : Int32))] [] (0, 0) M1
    exact j_J.wq (L_X7_readFormula_12 C hr_X7_readItem hr_X7_readFormula hr_X7_readTerm m_FU a0 a1 (0 : Int32) M1 h) (And.intro rfl (And.intro rfl (And.intro rfl (trivial))))
  · replace h := (X_if h).1 hc
    refine j_iconst C0 (pc := 8) dX7_readFormula_8 (v := (0 : Int32)) (by decide) ?_
    exact j_zret C rfl (by decide) h dX7_readFormula_9 (by decide)
set_option maxHeartbeats 4000000 in
theorem L_X7_readTerm_12 {X : j_X} {Φ : Option Value → m_M → Prop} {gn : Nat} {r_X7_readItem : Nat → Int32 → m_M → Option (Int32 × m_M)} {r_X7_readFormula : Nat → Int32 → m_M → Option (Int32 × m_M)} {r_X7_readTerm : Nat → Int32 → m_M → Option (Int32 × m_M)} (C : j_C X yX7_readTerm cX7_readTerm 3 (some .boolean) (8 + (gn + 1)) 0 0 Φ) (hr_X7_readItem : ∀ (a0 : Nat) (a1 : Int32) (M : m_M) (Φ : Option Value → m_M → Prop), m_ok e_I Φ (r_X7_readItem a0 a1 M) → j_Ct yX7_readItem cX7_readItem 3 (some .boolean) (8 + gn) 0 0 [.ref a0, .int a1] M Φ) (hr_X7_readFormula : ∀ (a0 : Nat) (a1 : Int32) (M : m_M) (Φ : Option Value → m_M → Prop), m_ok e_I Φ (r_X7_readFormula a0 a1 M) → j_Ct yX7_readFormula cX7_readFormula 3 (some .boolean) (8 + gn) 0 0 [.ref a0, .int a1] M Φ) (hr_X7_readTerm : ∀ (a0 : Nat) (a1 : Int32) (M : m_M) (Φ : Option Value → m_M → Prop), m_ok e_I Φ (r_X7_readTerm a0 a1 M) → j_Ct yX7_readTerm cX7_readTerm 3 (some .boolean) (8 + gn) 0 0 [.ref a0, .int a1] M Φ) : ∀ (n : Nat) (v1 : Nat) (v2 : Int32) (v3 : Int32) (M : m_M), m_ok e_I Φ (F_X7_readTerm_12 r_X7_readItem r_X7_readFormula r_X7_readTerm n v1 v2 v3 M) → j_J X 3 12 [some (.ref v1), some (.int v2), some (.int v3)] [] (0, 0) M := by
  have C0 := C.1
  intro n
  induction n with
  | zero => intro v1 v2 v3 M h; exact False.elim h
  | succ n ih =>
    intro v1 v2 v3 M h
    rw [F_X7_readTerm_12] at h
    refine j_iload_n C0 (pc := 12) dX7_readTerm_12 rfl ?_
    refine j_sipush C0 (pc := 13) dX7_readTerm_13 (v := (1000 : Int32)) (by decide) ?_
    refine j_icmp_ge C0 (pc := 16) (tgt := 55) dX7_readTerm_16 (by decide) (fun hc => ?_) (fun hc => ?_)
    · replace h := (X_if h).1 hc
      refine j_iconst C0 (pc := 55) dX7_readTerm_55 (v := (1 : Int32)) (by decide) ?_
      exact j_zret C rfl (by decide) h dX7_readTerm_56 (by decide)
    · replace h := (X_if h).2 hc
      refine j_aload_n C0 (pc := 19) dX7_readTerm_19 rfl ?_
      refine j_kst C0 (pc := 20) (j := 11) (by decide) (j_c4 144 (by decide +kernel)) dX7_readTerm_20 ?_
      refine X_cU C0 (pc := 23) (e' := e_I) (as := [.ref (1000000 + 11)]) (rest := []) (s' := fun w => .int w :: []) (g' := (0, 0)) u_SR_59_7 (fun Ψ hΨ => K_X8_isAt_7 v1 (1000000 + 11) M Ψ hΨ) rfl rfl (fun _ => rfl) (by omega) (by decide) rfl (Nat.le_of_ble_eq_true rfl) dX7_readTerm_23 h (fun v4 M1 h => ?_)
      refine j_if_eq C0 (pc := 26) (tgt := 55) dX7_readTerm_26 (by decide) (fun hc => ?_) (fun hc => ?_)
      · replace h := (X_if h).1 hc
        refine j_iconst C0 (pc := 55) dX7_readTerm_55 (v := (1 : Int32)) (by decide) ?_
        exact j_zret C rfl (by decide) h dX7_readTerm_56 (by decide)
      · replace h := (X_if h).2 hc
        refine j_aload_n C0 (pc := 29) dX7_readTerm_29 rfl ?_
        refine X_cU C0 (pc := 30) (e' := e_V) (as := []) (rest := []) (s' := fun _ => []) (g' := (0, 0)) u_SR_63_7 (fun Ψ hΨ => K_X8_advance_7 v1 M1 Ψ hΨ) rfl rfl (fun _ => rfl) (by omega) (by decide) rfl (Nat.le_of_ble_eq_true rfl) dX7_readTerm_30 h (fun _ M2 h => ?_)
        refine j_aload_n C0 (pc := 33) dX7_readTerm_33 rfl ?_
        refine j_iload_n C0 (pc := 34) dX7_readTerm_34 rfl ?_
        refine X_cV C0 (pc := 35) (e' := e_I) (as := [.int v2]) (rest := []) (s' := fun w => .int w :: []) (g' := (0, 0)) v_SR_70_7 (fun Ψ hΨ => hr_X7_readItem v1 v2 M2 Ψ hΨ) rfl rfl (fun _ => rfl) (by omega) (by decide) rfl (Nat.le_of_ble_eq_true rfl) dX7_readTerm_35 h (fun v5 M3 h => ?_)
        refine j_if_ne C0 (pc := 38) (tgt := 43) dX7_readTerm_38 (by decide) (fun hc => ?_) (fun hc => ?_)
        · replace h := (X_if h).2 hc
          refine j_aload_n C0 (pc := 43) dX7_readTerm_43 rfl ?_
          refine j_bipush C0 (pc := 44) dX7_readTerm_44 (v := (-12 : Int32)) (by decide) ?_
          refine X_cV C0 (pc := 46) (e' := e_V) (as := [.int (-12 : Int32)]) (rest := []) (s' := fun _ => []) (g' := (0, 0)) v_SR_67_7 (fun Ψ hΨ => K_X7_add v1 (-12 : Int32) M3 Ψ hΨ) rfl rfl (fun _ => rfl) (by omega) (by decide) rfl (Nat.le_of_ble_eq_true rfl) dX7_readTerm_46 h (fun _ M4 h => ?_)
          refine j_iinc C0 (pc := 49) dX7_readTerm_49 (v := v3 + (1 : Int32)) rfl (Nat.le_of_ble_eq_true rfl) (by rfl) ?_
          refine X_let (G := fun w => j_J X 3 52 [some (.ref v1), some (.int v2), some (.int w)] [] (0, 0) M4) h (fun v6 h => ?_)
          refine j_goto C0 (pc := 52) (tgt := 12) dX7_readTerm_52 (by decide) ?_
          exact j_J.wq (ih v1 v2 v6 M4 h) (And.intro rfl (And.intro rfl (And.intro rfl (trivial))))
        · replace h := (X_if h).1 hc
          refine j_iconst C0 (pc := 41) dX7_readTerm_41 (v := (0 : Int32)) (by decide) ?_
          exact j_zret C rfl (by decide) h dX7_readTerm_42 (by decide)
set_option maxHeartbeats 4000000 in
theorem K_X7_readTerm {gn : Nat} {r_X7_readItem : Nat → Int32 → m_M → Option (Int32 × m_M)} {r_X7_readFormula : Nat → Int32 → m_M → Option (Int32 × m_M)} {r_X7_readTerm : Nat → Int32 → m_M → Option (Int32 × m_M)} (hr_X7_readItem : ∀ (a0 : Nat) (a1 : Int32) (M : m_M) (Φ : Option Value → m_M → Prop), m_ok e_I Φ (r_X7_readItem a0 a1 M) → j_Ct yX7_readItem cX7_readItem 3 (some .boolean) (8 + gn) 0 0 [.ref a0, .int a1] M Φ) (hr_X7_readFormula : ∀ (a0 : Nat) (a1 : Int32) (M : m_M) (Φ : Option Value → m_M → Prop), m_ok e_I Φ (r_X7_readFormula a0 a1 M) → j_Ct yX7_readFormula cX7_readFormula 3 (some .boolean) (8 + gn) 0 0 [.ref a0, .int a1] M Φ) (hr_X7_readTerm : ∀ (a0 : Nat) (a1 : Int32) (M : m_M) (Φ : Option Value → m_M → Prop), m_ok e_I Φ (r_X7_readTerm a0 a1 M) → j_Ct yX7_readTerm cX7_readTerm 3 (some .boolean) (8 + gn) 0 0 [.ref a0, .int a1] M Φ) (a0 : Nat) (a1 : Int32) (M : m_M) (Φ : Option Value → m_M → Prop) (h : m_ok e_I Φ (F_X7_readTerm r_X7_readItem r_X7_readFormula r_X7_readTerm a0 a1 M)) : j_Ct yX7_readTerm cX7_readTerm 3 (some .boolean) (8 + (gn + 1)) 0 0 [.ref a0, .int a1] M Φ := by
  refine j_Ct.of (by decide +kernel) (Nat.le_of_ble_eq_true rfl) fun X C => ?_
  have C0 := C.1
  show j_J X 3 0 [some (.ref a0), some (.int a1), none] [] (0, 0) M
  unfold F_X7_readTerm at h
  refine j_aload_n C0 (pc := 0) dX7_readTerm_0 rfl ?_
  refine j_iload_n C0 (pc := 1) dX7_readTerm_1 rfl ?_
  refine X_cV C0 (pc := 2) (e' := e_I) (as := [.int a1]) (rest := []) (s' := fun w => .int w :: []) (g' := (0, 0)) v_SR_70_7 (fun Ψ hΨ => hr_X7_readItem a0 a1 M Ψ hΨ) rfl rfl (fun _ => rfl) (by omega) (by decide) rfl (Nat.le_of_ble_eq_true rfl) dX7_readTerm_2 h (fun v1 M1 h => ?_)
  refine j_if_ne C0 (pc := 5) (tgt := 10) dX7_readTerm_5 (by decide) (fun hc => ?_) (fun hc => ?_)
  · replace h := (X_if h).2 hc
    refine j_iconst C0 (pc := 10) dX7_readTerm_10 (v := (0 : Int32)) (by decide) ?_
    refine j_istore_n C0 (pc := 11) dX7_readTerm_11 (Nat.le_of_ble_eq_true rfl) ?_
    show j_J X 3 12 [some (.ref a0), some (.int a1), some (.int (0 : Int32))] [] (0, 0) M1
    exact j_J.wq (L_X7_readTerm_12 C hr_X7_readItem hr_X7_readFormula hr_X7_readTerm m_FU a0 a1 (0 : Int32) M1 h) (And.intro rfl (And.intro rfl (And.intro rfl (trivial))))
  · replace h := (X_if h).1 hc
    refine j_iconst C0 (pc := 8) dX7_readTerm_8 (v := (0 : Int32)) (by decide) ?_
    exact j_zret C rfl (by decide) h dX7_readTerm_9 (by decide)
set_option maxHeartbeats 4000000 in
theorem KG_S (n : Nat) : (∀ (a0 : Nat) (a1 : Int32) (M : m_M) (Φ : Option Value → m_M → Prop), m_ok e_I Φ (((G_S n).1) a0 a1 M) → j_Ct yX7_readItem cX7_readItem 3 (some .boolean) (8 + n) 0 0 [.ref a0, .int a1] M Φ) ∧ (∀ (a0 : Nat) (a1 : Int32) (M : m_M) (Φ : Option Value → m_M → Prop), m_ok e_I Φ (((G_S n).2.1) a0 a1 M) → j_Ct yX7_readFormula cX7_readFormula 3 (some .boolean) (8 + n) 0 0 [.ref a0, .int a1] M Φ) ∧ (∀ (a0 : Nat) (a1 : Int32) (M : m_M) (Φ : Option Value → m_M → Prop), m_ok e_I Φ (((G_S n).2.2) a0 a1 M) → j_Ct yX7_readTerm cX7_readTerm 3 (some .boolean) (8 + n) 0 0 [.ref a0, .int a1] M Φ) := by
  induction n with
  | zero => exact ⟨fun _ _ _ _ h => False.elim h, fun _ _ _ _ h => False.elim h, fun _ _ _ _ h => False.elim h⟩
  | succ n ih =>
    obtain ⟨h0, h1, h2⟩ := ih
    exact ⟨fun a0 a1 M Φ h => K_X7_readItem h0 h1 h2 a0 a1 M Φ h, fun a0 a1 M Φ h => K_X7_readFormula h0 h1 h2 a0 a1 M Φ h, fun a0 a1 M Φ h => K_X7_readTerm h0 h1 h2 a0 a1 M Φ h⟩
theorem KG_X7_readItem (a0 : Nat) (a1 : Int32) (M : m_M) (Φ : Option Value → m_M → Prop) (h : m_ok e_I Φ (FG_X7_readItem a0 a1 M)) : j_Ct yX7_readItem cX7_readItem 3 (some .boolean) 72 0 0 [.ref a0, .int a1] M Φ := ((KG_S 64).1) a0 a1 M Φ h
theorem KG_X7_readFormula (a0 : Nat) (a1 : Int32) (M : m_M) (Φ : Option Value → m_M → Prop) (h : m_ok e_I Φ (FG_X7_readFormula a0 a1 M)) : j_Ct yX7_readFormula cX7_readFormula 3 (some .boolean) 72 0 0 [.ref a0, .int a1] M Φ := ((KG_S 64).2.1) a0 a1 M Φ h
theorem KG_X7_readTerm (a0 : Nat) (a1 : Int32) (M : m_M) (Φ : Option Value → m_M → Prop) (h : m_ok e_I Φ (FG_X7_readTerm a0 a1 M)) : j_Ct yX7_readTerm cX7_readTerm 3 (some .boolean) 72 0 0 [.ref a0, .int a1] M Φ := ((KG_S 64).2.2) a0 a1 M Φ h
theorem dX7_read_0 : decode cX7_read 0 = .ok (.aload_n 0, 1) := by decide +kernel
theorem dX7_read_1 : decode cX7_read 1 = .ok (.iconst 0, 1) := by decide +kernel
theorem dX7_read_2 : decode cX7_read 2 = .ok (.putfield 19, 3) := by decide +kernel
theorem dX7_read_5 : decode cX7_read 5 = .ok (.aload_n 0, 1) := by decide +kernel
theorem dX7_read_6 : decode cX7_read 6 = .ok (.iload_n 1, 1) := by decide +kernel
theorem dX7_read_7 : decode cX7_read 7 = .ok (.invokevirtual 23, 3) := by decide +kernel
theorem dX7_read_10 : decode cX7_read 10 = .ok (.aload_n 0, 1) := by decide +kernel
theorem dX7_read_11 : decode cX7_read 11 = .ok (.iconst 0, 1) := by decide +kernel
theorem dX7_read_12 : decode cX7_read 12 = .ok (.invokevirtual 27, 3) := by decide +kernel
theorem dX7_read_15 : decode cX7_read 15 = .ok (.ifCond .eq 12, 3) := by decide +kernel
theorem dX7_read_18 : decode cX7_read 18 = .ok (.aload_n 0, 1) := by decide +kernel
theorem dX7_read_19 : decode cX7_read 19 = .ok (.bipush 59, 2) := by decide +kernel
theorem dX7_read_21 : decode cX7_read 21 = .ok (.invokevirtual 31, 3) := by decide +kernel
theorem dX7_read_24 : decode cX7_read 24 = .ok (.ifCond .ne 8, 3) := by decide +kernel
theorem dX7_read_27 : decode cX7_read 27 = .ok (.aload_n 0, 1) := by decide +kernel
theorem dX7_read_28 : decode cX7_read 28 = .ok (.getfield 35, 3) := by decide +kernel
theorem dX7_read_31 : decode cX7_read 31 = .ok (.ireturn, 1) := by decide +kernel
theorem dX7_read_32 : decode cX7_read 32 = .ok (.aload_n 0, 1) := by decide +kernel
theorem dX7_read_33 : decode cX7_read 33 = .ok (.getfield 38, 3) := by decide +kernel
theorem dX7_read_36 : decode cX7_read 36 = .ok (.ifCond .eq 9, 3) := by decide +kernel
theorem dX7_read_39 : decode cX7_read 39 = .ok (.aload_n 0, 1) := by decide +kernel
theorem dX7_read_40 : decode cX7_read 40 = .ok (.iconst 1, 1) := by decide +kernel
theorem dX7_read_41 : decode cX7_read 41 = .ok (.invokevirtual 41, 3) := by decide +kernel
theorem dX7_read_44 : decode cX7_read 44 = .ok (.pop, 1) := by decide +kernel
theorem dX7_read_45 : decode cX7_read 45 = .ok (.aload_n 0, 1) := by decide +kernel
theorem dX7_read_46 : decode cX7_read 46 = .ok (.getfield 35, 3) := by decide +kernel
theorem dX7_read_49 : decode cX7_read 49 = .ok (.ireturn, 1) := by decide +kernel
noncomputable def F_X7_read (a0 : Nat) (a1 : Int32) (M : m_M) : Option (Int32 × m_M) :=
  x_pI 7 M a0 12 (0 : Int32) fun M1 =>
  x_cV 7 M1 a0 (F_X8_open 7 a0 a1 M1) fun _ M2 =>
  x_cV 7 M2 a0 (FG_X7_readFormula a0 (0 : Int32) M2) fun v1 M3 =>
  if v1 = 0 then (
    x_gI 7 M3 a0 9 fun v2 =>
    some (v2, M3)
  ) else
  x_cV 7 M3 a0 (F_X8_pass_ 7 a0 (59 : Int32) M3) fun v3 M4 =>
  if v3 = 0 then (
    x_gI 7 M4 a0 9 fun v8 =>
    some (v8, M4)
  ) else
  x_gI 7 M4 a0 4 fun v4 =>
  if v4 = 0 then (
    x_gI 7 M4 a0 9 fun v5 =>
    some (v5, M4)
  ) else
  x_cV 7 M4 a0 (F_X8_fail 7 a0 (1 : Int32) M4) fun v6 M5 =>
  x_gI 7 M5 a0 9 fun v7 =>
  some (v7, M5)
set_option maxHeartbeats 4000000 in
theorem K_X7_read (a0 : Nat) (a1 : Int32) (M : m_M) (Φ : Option Value → m_M → Prop) (h : m_ok e_I Φ (F_X7_read a0 a1 M)) : j_Ct yX7_read cX7_read 2 (some .int) 73 0 0 [.ref a0, .int a1] M Φ := by
  refine j_Ct.of (by decide +kernel) (Nat.le_of_ble_eq_true rfl) fun X C => ?_
  have C0 := C.1
  show j_J X 2 0 [some (.ref a0), some (.int a1)] [] (0, 0) M
  unfold F_X7_read at h
  refine j_aload_n C0 (pc := 0) dX7_read_0 rfl ?_
  refine j_iconst C0 (pc := 1) dX7_read_1 (v := (0 : Int32)) (by decide) ?_
  refine X_pI C0 (pc := 2) f_SR_19_7 rfl rfl dX7_read_2 h (fun M1 h => ?_)
  refine j_aload_n C0 (pc := 5) dX7_read_5 rfl ?_
  refine j_iload_n C0 (pc := 6) dX7_read_6 rfl ?_
  refine X_cU C0 (pc := 7) (e' := e_V) (as := [.int a1]) (rest := []) (s' := fun _ => []) (g' := (0, 0)) u_SR_23_7 (fun Ψ hΨ => K_X8_open_7 a0 a1 M1 Ψ hΨ) rfl rfl (fun _ => rfl) (by decide) (by decide) rfl (Nat.le_of_ble_eq_true rfl) dX7_read_7 h (fun _ M2 h => ?_)
  refine j_aload_n C0 (pc := 10) dX7_read_10 rfl ?_
  refine j_iconst C0 (pc := 11) dX7_read_11 (v := (0 : Int32)) (by decide) ?_
  refine X_cV C0 (pc := 12) (e' := e_I) (as := [.int (0 : Int32)]) (rest := []) (s' := fun w => .int w :: []) (g' := (0, 0)) v_SR_27_7 (fun Ψ hΨ => KG_X7_readFormula a0 (0 : Int32) M2 Ψ hΨ) rfl rfl (fun _ => rfl) (by decide) (by decide) rfl (Nat.le_of_ble_eq_true rfl) dX7_read_12 h (fun v1 M3 h => ?_)
  refine j_if_eq C0 (pc := 15) (tgt := 27) dX7_read_15 (by decide) (fun hc => ?_) (fun hc => ?_)
  · replace h := (X_if h).1 hc
    refine j_aload_n C0 (pc := 27) dX7_read_27 rfl ?_
    refine X_gI C0 (pc := 28) f_SR_35_7 rfl dX7_read_28 h (fun v2 h => ?_)
    exact j_iret C rfl h dX7_read_31 (by decide)
  · replace h := (X_if h).2 hc
    refine j_aload_n C0 (pc := 18) dX7_read_18 rfl ?_
    refine j_bipush C0 (pc := 19) dX7_read_19 (v := (59 : Int32)) (by decide) ?_
    refine X_cU C0 (pc := 21) (e' := e_I) (as := [.int (59 : Int32)]) (rest := []) (s' := fun w => .int w :: []) (g' := (0, 0)) u_SR_31_7 (fun Ψ hΨ => K_X8_pass__7 a0 (59 : Int32) M3 Ψ hΨ) rfl rfl (fun _ => rfl) (by decide) (by decide) rfl (Nat.le_of_ble_eq_true rfl) dX7_read_21 h (fun v3 M4 h => ?_)
    refine j_if_ne C0 (pc := 24) (tgt := 32) dX7_read_24 (by decide) (fun hc => ?_) (fun hc => ?_)
    · replace h := (X_if h).2 hc
      refine j_aload_n C0 (pc := 32) dX7_read_32 rfl ?_
      refine X_gI C0 (pc := 33) f_SR_38_7 rfl dX7_read_33 h (fun v4 h => ?_)
      refine j_if_eq C0 (pc := 36) (tgt := 45) dX7_read_36 (by decide) (fun hc => ?_) (fun hc => ?_)
      · replace h := (X_if h).1 hc
        refine j_aload_n C0 (pc := 45) dX7_read_45 rfl ?_
        refine X_gI C0 (pc := 46) f_SR_35_7 rfl dX7_read_46 h (fun v5 h => ?_)
        exact j_iret C rfl h dX7_read_49 (by decide)
      · replace h := (X_if h).2 hc
        refine j_aload_n C0 (pc := 39) dX7_read_39 rfl ?_
        refine j_iconst C0 (pc := 40) dX7_read_40 (v := (1 : Int32)) (by decide) ?_
        refine X_cU C0 (pc := 41) (e' := e_I) (as := [.int (1 : Int32)]) (rest := []) (s' := fun w => .int w :: []) (g' := (0, 0)) u_SR_41_7 (fun Ψ hΨ => K_X8_fail_7 a0 (1 : Int32) M4 Ψ hΨ) rfl rfl (fun _ => rfl) (by decide) (by decide) rfl (Nat.le_of_ble_eq_true rfl) dX7_read_41 h (fun v6 M5 h => ?_)
        refine j_pop C0 (pc := 44) dX7_read_44 rfl ?_
        refine j_aload_n C0 (pc := 45) dX7_read_45 rfl ?_
        refine X_gI C0 (pc := 46) f_SR_35_7 rfl dX7_read_46 h (fun v7 h => ?_)
        exact j_iret C rfl h dX7_read_49 (by decide)
    · replace h := (X_if h).1 hc
      refine j_aload_n C0 (pc := 27) dX7_read_27 rfl ?_
      refine X_gI C0 (pc := 28) f_SR_35_7 rfl dX7_read_28 h (fun v8 h => ?_)
      exact j_iret C rfl h dX7_read_31 (by decide)
theorem dX7_formula_0 : decode cX7_formula 0 = .ok (.aload_n 0, 1) := by decide +kernel
theorem dX7_formula_1 : decode cX7_formula 1 = .ok (.getfield 9, 3) := by decide +kernel
theorem dX7_formula_4 : decode cX7_formula 4 = .ok (.aload_n 0, 1) := by decide +kernel
theorem dX7_formula_5 : decode cX7_formula 5 = .ok (.getfield 19, 3) := by decide +kernel
theorem dX7_formula_8 : decode cX7_formula 8 = .ok (.invokestatic 44, 3) := by decide +kernel
theorem dX7_formula_11 : decode cX7_formula 11 = .ok (.areturn, 1) := by decide +kernel
noncomputable def F_X7_formula (a0 : Nat) (M : m_M) : Option (Nat × m_M) :=
  x_gN 7 M a0 11 fun v1 =>
  x_gI 7 M a0 12 fun v2 =>
  x_bd (F_J7_copyOf_59c91 v1 v2 M) fun v3 M1 =>
  some (v3, M1)
set_option maxHeartbeats 4000000 in
theorem K_X7_formula (a0 : Nat) (M : m_M) (Φ : Option Value → m_M → Prop) (h : m_ok e_N Φ (F_X7_formula a0 M)) : j_Ct yX7_formula cX7_formula 1 (some (.array .int)) 3 1 1000 [.ref a0] M Φ := by
  refine j_Ct.of (by decide +kernel) (Nat.le_of_ble_eq_true rfl) fun X C => ?_
  have C0 := C.1
  show j_J X 1 0 [some (.ref a0)] [] (0, 0) M
  unfold F_X7_formula at h
  refine j_aload_n C0 (pc := 0) dX7_formula_0 rfl ?_
  refine X_gN C0 (pc := 1) f_SR_9_7 rfl dX7_formula_1 h (fun v1 h => ?_)
  refine j_aload_n C0 (pc := 4) dX7_formula_4 rfl ?_
  refine X_gI C0 (pc := 5) f_SR_19_7 rfl dX7_formula_5 h (fun v2 h => ?_)
  refine X_cS C0 (pc := 8) (e' := e_N) (as := [.ref v1, .int v2]) (rest := []) (s' := fun w => .ref w :: []) (g' := (1, 1000)) s_SR_44 (fun Ψ hΨ => K_J7_copyOf_59c91 v1 v2 M Ψ hΨ) rfl rfl (fun _ => rfl) (by decide) (by decide) rfl (Nat.le_of_ble_eq_true rfl) dX7_formula_8 h (fun v3 M1 h => ?_)
  exact j_aret C rfl (Or.inr ⟨_, rfl⟩) h dX7_formula_11 (by decide)
theorem dX11_ask_0 : decode cX11_ask 0 = .ok (.aload_n 0, 1) := by decide +kernel
theorem dX11_ask_1 : decode cX11_ask 1 = .ok (.getfield 35, 3) := by decide +kernel
theorem dX11_ask_4 : decode cX11_ask 4 = .ok (.aload_n 0, 1) := by decide +kernel
theorem dX11_ask_5 : decode cX11_ask 5 = .ok (.invokevirtual 98, 3) := by decide +kernel
theorem dX11_ask_8 : decode cX11_ask 8 = .ok (.invokevirtual 112, 3) := by decide +kernel
theorem dX11_ask_11 : decode cX11_ask 11 = .ok (.istore_n 1, 1) := by decide +kernel
theorem dX11_ask_12 : decode cX11_ask 12 = .ok (.iload_n 1, 1) := by decide +kernel
theorem dX11_ask_13 : decode cX11_ask 13 = .ok (.ifCond .eq 5, 3) := by decide +kernel
theorem dX11_ask_16 : decode cX11_ask 16 = .ok (.iload_n 1, 1) := by decide +kernel
theorem dX11_ask_17 : decode cX11_ask 17 = .ok (.ireturn, 1) := by decide +kernel
theorem dX11_ask_18 : decode cX11_ask 18 = .ok (.aload_n 0, 1) := by decide +kernel
theorem dX11_ask_19 : decode cX11_ask 19 = .ok (.getfield 65, 3) := by decide +kernel
theorem dX11_ask_22 : decode cX11_ask 22 = .ok (.aload_n 0, 1) := by decide +kernel
theorem dX11_ask_23 : decode cX11_ask 23 = .ok (.getfield 35, 3) := by decide +kernel
theorem dX11_ask_26 : decode cX11_ask 26 = .ok (.invokevirtual 136, 3) := by decide +kernel
theorem dX11_ask_29 : decode cX11_ask 29 = .ok (.putfield 140, 3) := by decide +kernel
theorem dX11_ask_32 : decode cX11_ask 32 = .ok (.iconst 0, 1) := by decide +kernel
theorem dX11_ask_33 : decode cX11_ask 33 = .ok (.ireturn, 1) := by decide +kernel
noncomputable def F_X11_ask (a0 : Nat) (M : m_M) : Option (Int32 × m_M) :=
  x_gN 9 M a0 5 fun v1 =>
  x_cV 9 M a0 (F_X11_takeTape a0 M) fun v2 M1 =>
  x_cV 7 M1 v1 (F_X7_read v1 v2 M1) fun v3 M2 =>
  if v3 = 0 then (
    x_gN 9 M2 a0 9 fun v4 =>
    x_gN 9 M2 a0 5 fun v5 =>
    x_cV 7 M2 v5 (F_X7_formula v5 M2) fun v6 M3 =>
    x_pR 1 M3 v4 5 (some v6) fun M4 =>
    some ((0 : Int32), M4)
  ) else
  some (v3, M2)
set_option maxHeartbeats 4000000 in
theorem K_X11_ask (a0 : Nat) (M : m_M) (Φ : Option Value → m_M → Prop) (h : m_ok e_I Φ (F_X11_ask a0 M)) : j_Ct yX11_ask cX11_ask 2 (some .int) 74 1 1000 [.ref a0] M Φ := by
  refine j_Ct.of (by decide +kernel) (Nat.le_of_ble_eq_true rfl) fun X C => ?_
  have C0 := C.1
  show j_J X 2 0 [some (.ref a0), none] [] (0, 0) M
  unfold F_X11_ask at h
  refine j_aload_n C0 (pc := 0) dX11_ask_0 rfl ?_
  refine X_gN C0 (pc := 1) f_OV_35_9 rfl dX11_ask_1 h (fun v1 h => ?_)
  refine j_aload_n C0 (pc := 4) dX11_ask_4 rfl ?_
  refine X_cV C0 (pc := 5) (e' := e_I) (as := []) (rest := [.ref v1]) (s' := fun w => .int w :: [.ref v1]) (g' := (0, 0)) v_OV_98_9 (fun Ψ hΨ => K_X11_takeTape a0 M Ψ hΨ) rfl rfl (fun _ => rfl) (by decide) (by decide) rfl (Nat.le_of_ble_eq_true rfl) dX11_ask_5 h (fun v2 M1 h => ?_)
  refine X_cV C0 (pc := 8) (e' := e_I) (as := [.int v2]) (rest := []) (s' := fun w => .int w :: []) (g' := (0, 0)) v_OV_112_7 (fun Ψ hΨ => K_X7_read v1 v2 M1 Ψ hΨ) rfl rfl (fun _ => rfl) (by decide) (by decide) rfl (Nat.le_of_ble_eq_true rfl) dX11_ask_8 h (fun v3 M2 h => ?_)
  refine j_istore_n C0 (pc := 11) dX11_ask_11 (Nat.le_of_ble_eq_true rfl) ?_
  show j_J X 2 12 [some (.ref a0), some (.int v3)] [] (0, 0) M2
  refine j_iload_n C0 (pc := 12) dX11_ask_12 rfl ?_
  refine j_if_eq C0 (pc := 13) (tgt := 18) dX11_ask_13 (by decide) (fun hc => ?_) (fun hc => ?_)
  · replace h := (X_if h).1 hc
    refine j_aload_n C0 (pc := 18) dX11_ask_18 rfl ?_
    refine X_gN C0 (pc := 19) f_OV_65_9 rfl dX11_ask_19 h (fun v4 h => ?_)
    refine j_aload_n C0 (pc := 22) dX11_ask_22 rfl ?_
    refine X_gN C0 (pc := 23) f_OV_35_9 rfl dX11_ask_23 h (fun v5 h => ?_)
    refine X_cV C0 (pc := 26) (e' := e_N) (as := []) (rest := [.ref v4]) (s' := fun w => .ref w :: [.ref v4]) (g' := (1, 1000)) v_OV_136_7 (fun Ψ hΨ => K_X7_formula v5 M2 Ψ hΨ) rfl rfl (fun _ => rfl) (by decide) (by decide) rfl (Nat.le_of_ble_eq_true rfl) dX11_ask_26 h (fun v6 M3 h => ?_)
    refine X_pN C0 (pc := 29) f_OV_140_1 (Or.inr ⟨_, rfl⟩) rfl dX11_ask_29 h (fun M4 h => ?_)
    refine j_iconst C0 (pc := 32) dX11_ask_32 (v := (0 : Int32)) (by decide) ?_
    exact j_iret C rfl h dX11_ask_33 (by decide)
  · replace h := (X_if h).2 hc
    refine j_iload_n C0 (pc := 16) dX11_ask_16 rfl ?_
    exact j_iret C rfl h dX11_ask_17 (by decide)
theorem dX1_hasAsked_0 : decode cX1_hasAsked 0 = .ok (.aload_n 0, 1) := by decide +kernel
theorem dX1_hasAsked_1 : decode cX1_hasAsked 1 = .ok (.getfield 9, 3) := by decide +kernel
theorem dX1_hasAsked_4 : decode cX1_hasAsked 4 = .ok (.arraylength, 1) := by decide +kernel
theorem dX1_hasAsked_5 : decode cX1_hasAsked 5 = .ok (.ifCond .le 7, 3) := by decide +kernel
theorem dX1_hasAsked_8 : decode cX1_hasAsked 8 = .ok (.iconst 1, 1) := by decide +kernel
theorem dX1_hasAsked_9 : decode cX1_hasAsked 9 = .ok (.goto 4, 3) := by decide +kernel
theorem dX1_hasAsked_12 : decode cX1_hasAsked 12 = .ok (.iconst 0, 1) := by decide +kernel
theorem dX1_hasAsked_13 : decode cX1_hasAsked 13 = .ok (.ireturn, 1) := by decide +kernel
noncomputable def F_X1_hasAsked (a0 : Nat) (M : m_M) : Option (Int32 × m_M) :=
  x_gN 1 M a0 5 fun v1 =>
  x_len 12 M v1 fun v2 =>
  if v2 ≤ 0 then (
    some ((0 : Int32), M)
  ) else
  some ((1 : Int32), M)
set_option maxHeartbeats 4000000 in
theorem K_X1_hasAsked (a0 : Nat) (M : m_M) (Φ : Option Value → m_M → Prop) (h : m_ok e_I Φ (F_X1_hasAsked a0 M)) : j_Ct yX1_hasAsked cX1_hasAsked 1 (some .boolean) 1 0 0 [.ref a0] M Φ := by
  refine j_Ct.of (by decide +kernel) (Nat.le_of_ble_eq_true rfl) fun X C => ?_
  have C0 := C.1
  show j_J X 1 0 [some (.ref a0)] [] (0, 0) M
  unfold F_X1_hasAsked at h
  refine j_aload_n C0 (pc := 0) dX1_hasAsked_0 rfl ?_
  refine X_gN C0 (pc := 1) f_Book_9_1 rfl dX1_hasAsked_1 h (fun v1 h => ?_)
  refine X_alen C0 (pc := 4) (by decide) dX1_hasAsked_4 h (fun v2 h => ?_)
  refine j_if_le C0 (pc := 5) (tgt := 12) dX1_hasAsked_5 (by decide) (fun hc => ?_) (fun hc => ?_)
  · replace h := (X_if h).1 hc
    refine j_iconst C0 (pc := 12) dX1_hasAsked_12 (v := (0 : Int32)) (by decide) ?_
    exact j_zret C rfl (by decide) h dX1_hasAsked_13 (by decide)
  · replace h := (X_if h).2 hc
    refine j_iconst C0 (pc := 8) dX1_hasAsked_8 (v := (1 : Int32)) (by decide) ?_
    refine j_goto C0 (pc := 9) (tgt := 13) dX1_hasAsked_9 (by decide) ?_
    exact j_zret C rfl (by decide) h dX1_hasAsked_13 (by decide)
theorem dX10_wholeLong_0 : decode cX10_wholeLong 0 = .ok (.iload_n 0, 1) := by decide +kernel
theorem dX10_wholeLong_1 : decode cX10_wholeLong 1 = .ok (.bipush 64, 2) := by decide +kernel
theorem dX10_wholeLong_3 : decode cX10_wholeLong 3 = .ok (.iload_n 1, 1) := by decide +kernel
theorem dX10_wholeLong_4 : decode cX10_wholeLong 4 = .ok (.imul, 1) := by decide +kernel
theorem dX10_wholeLong_5 : decode cX10_wholeLong 5 = .ok (.isub, 1) := by decide +kernel
theorem dX10_wholeLong_6 : decode cX10_wholeLong 6 = .ok (.istore_n 2, 1) := by decide +kernel
theorem dX10_wholeLong_7 : decode cX10_wholeLong 7 = .ok (.iload_n 2, 1) := by decide +kernel
theorem dX10_wholeLong_8 : decode cX10_wholeLong 8 = .ok (.bipush 64, 2) := by decide +kernel
theorem dX10_wholeLong_10 : decode cX10_wholeLong 10 = .ok (.if_icmp .lt 7, 3) := by decide +kernel
theorem dX10_wholeLong_13 : decode cX10_wholeLong 13 = .ok (.ldc2_w 15, 3) := by decide +kernel
theorem dX10_wholeLong_16 : decode cX10_wholeLong 16 = .ok (.lreturn, 1) := by decide +kernel
theorem dX10_wholeLong_17 : decode cX10_wholeLong 17 = .ok (.iload_n 2, 1) := by decide +kernel
theorem dX10_wholeLong_18 : decode cX10_wholeLong 18 = .ok (.ifCond .le 11, 3) := by decide +kernel
theorem dX10_wholeLong_21 : decode cX10_wholeLong 21 = .ok (.lconst 1, 1) := by decide +kernel
theorem dX10_wholeLong_22 : decode cX10_wholeLong 22 = .ok (.iload_n 2, 1) := by decide +kernel
theorem dX10_wholeLong_23 : decode cX10_wholeLong 23 = .ok (.lshl, 1) := by decide +kernel
theorem dX10_wholeLong_24 : decode cX10_wholeLong 24 = .ok (.lconst 1, 1) := by decide +kernel
theorem dX10_wholeLong_25 : decode cX10_wholeLong 25 = .ok (.lsub, 1) := by decide +kernel
theorem dX10_wholeLong_26 : decode cX10_wholeLong 26 = .ok (.goto 4, 3) := by decide +kernel
theorem dX10_wholeLong_29 : decode cX10_wholeLong 29 = .ok (.lconst 0, 1) := by decide +kernel
theorem dX10_wholeLong_30 : decode cX10_wholeLong 30 = .ok (.lreturn, 1) := by decide +kernel
noncomputable def F_X10_wholeLong (a1 : Int32) (a2 : Int32) (M : m_M) : Option (Int64 × m_M) :=
  m_let (a1 - ((64 : Int32) * a2)) fun v1 =>
  if v1 < (64 : Int32) then (
    if v1 ≤ 0 then (
      some ((0 : Int64), M)
    ) else
    some (((1 : Int64) <<< (v1.toInt64 &&& 63)) - (1 : Int64), M)
  ) else
  some ((-1 : Int64), M)
set_option maxHeartbeats 4000000 in
theorem K_X10_wholeLong (a1 : Int32) (a2 : Int32) (M : m_M) (Φ : Option Value → m_M → Prop) (h : m_ok e_L Φ (F_X10_wholeLong a1 a2 M)) : j_Ct yX10_wholeLong cX10_wholeLong 3 (some .long) 1 0 0 [.int a1, .int a2] M Φ := by
  refine j_Ct.of (by decide +kernel) (Nat.le_of_ble_eq_true rfl) fun X C => ?_
  have C0 := C.1
  show j_J X 3 0 [some (.int a1), some (.int a2), none] [] (0, 0) M
  unfold F_X10_wholeLong at h
  refine j_iload_n C0 (pc := 0) dX10_wholeLong_0 rfl ?_
  refine j_bipush C0 (pc := 1) dX10_wholeLong_1 (v := (64 : Int32)) (by decide) ?_
  refine j_iload_n C0 (pc := 3) dX10_wholeLong_3 rfl ?_
  refine j_imul C0 (pc := 4) dX10_wholeLong_4 ?_
  refine j_isub C0 (pc := 5) dX10_wholeLong_5 ?_
  refine X_let (G := fun w => j_J X 3 6 [some (.int a1), some (.int a2), none] (.int w :: []) (0, 0) M) h (fun v1 h => ?_)
  refine j_istore_n C0 (pc := 6) dX10_wholeLong_6 (Nat.le_of_ble_eq_true rfl) ?_
  show j_J X 3 7 [some (.int a1), some (.int a2), some (.int v1)] [] (0, 0) M
  refine j_iload_n C0 (pc := 7) dX10_wholeLong_7 rfl ?_
  refine j_bipush C0 (pc := 8) dX10_wholeLong_8 (v := (64 : Int32)) (by decide) ?_
  refine j_icmp_lt C0 (pc := 10) (tgt := 17) dX10_wholeLong_10 (by decide) (fun hc => ?_) (fun hc => ?_)
  · replace h := (X_if h).1 hc
    refine j_iload_n C0 (pc := 17) dX10_wholeLong_17 rfl ?_
    refine j_if_le C0 (pc := 18) (tgt := 29) dX10_wholeLong_18 (by decide) (fun hc => ?_) (fun hc => ?_)
    · replace h := (X_if h).1 hc
      refine j_lconst C0 (pc := 29) dX10_wholeLong_29 (v := (0 : Int64)) (by decide) ?_
      exact j_lret C rfl h dX10_wholeLong_30 (by decide)
    · replace h := (X_if h).2 hc
      refine j_lconst C0 (pc := 21) dX10_wholeLong_21 (v := (1 : Int64)) (by decide) ?_
      refine j_iload_n C0 (pc := 22) dX10_wholeLong_22 rfl ?_
      refine j_lshl C0 (pc := 23) dX10_wholeLong_23 (v := (1 : Int64) <<< (v1.toInt64 &&& 63)) rfl ?_
      refine j_lconst C0 (pc := 24) dX10_wholeLong_24 (v := (1 : Int64)) (by decide) ?_
      refine j_lsub C0 (pc := 25) dX10_wholeLong_25 ?_
      refine j_goto C0 (pc := 26) (tgt := 30) dX10_wholeLong_26 (by decide) ?_
      exact j_lret C rfl h dX10_wholeLong_30 (by decide)
  · replace h := (X_if h).2 hc
    refine j_ldc2 C0 (pc := 13) (v := (-1 : Int64)) (j_c4 208 (by decide +kernel)) dX10_wholeLong_13 ?_
    exact j_lret C rfl h dX10_wholeLong_16 (by decide)
theorem dX10_fill_0 : decode cX10_fill 0 = .ok (.iconst 0, 1) := by decide +kernel
theorem dX10_fill_1 : decode cX10_fill 1 = .ok (.istore_n 2, 1) := by decide +kernel
theorem dX10_fill_2 : decode cX10_fill 2 = .ok (.iload_n 2, 1) := by decide +kernel
theorem dX10_fill_3 : decode cX10_fill 3 = .ok (.bipush 16, 2) := by decide +kernel
theorem dX10_fill_5 : decode cX10_fill 5 = .ok (.if_icmp .ge 20, 3) := by decide +kernel
theorem dX10_fill_8 : decode cX10_fill 8 = .ok (.aload_n 0, 1) := by decide +kernel
theorem dX10_fill_9 : decode cX10_fill 9 = .ok (.getfield 9, 3) := by decide +kernel
theorem dX10_fill_12 : decode cX10_fill 12 = .ok (.iload_n 2, 1) := by decide +kernel
theorem dX10_fill_13 : decode cX10_fill 13 = .ok (.iload_n 1, 1) := by decide +kernel
theorem dX10_fill_14 : decode cX10_fill 14 = .ok (.iload_n 2, 1) := by decide +kernel
theorem dX10_fill_15 : decode cX10_fill 15 = .ok (.invokestatic 23, 3) := by decide +kernel
theorem dX10_fill_18 : decode cX10_fill 18 = .ok (.lastore, 1) := by decide +kernel
theorem dX10_fill_19 : decode cX10_fill 19 = .ok (.iinc 2 1, 3) := by decide +kernel
theorem dX10_fill_22 : decode cX10_fill 22 = .ok (.goto (-20), 3) := by decide +kernel
theorem dX10_fill_25 : decode cX10_fill 25 = .ok (.return_, 1) := by decide +kernel
noncomputable def F_X10_fill_2 : Nat → Nat → Int32 → Int32 → m_M → Option (Unit × m_M)
  | 0, _, _, _, _ => none
  | n + 1, v1, v2, v3, M =>
    if (16 : Int32) ≤ v3 then (
      some ((), M)
    ) else
    x_gN 8 M v1 0 fun v4 =>
    x_bd (F_X10_wholeLong v2 v3 M) fun v5 M1 =>
    x_sL M1 v4 v3 v5 fun M2 =>
    m_let (v3 + (1 : Int32)) fun v6 =>
    F_X10_fill_2 n v1 v2 v6 M2
noncomputable def F_X10_fill (a0 : Nat) (a1 : Int32) (M : m_M) : Option (Unit × m_M) :=
  F_X10_fill_2 m_FU a0 a1 (0 : Int32) M
set_option maxHeartbeats 4000000 in
theorem L_X10_fill_2 {X : j_X} {Φ : Option Value → m_M → Prop} (C : j_C X yX10_fill cX10_fill 3 none 2 0 0 Φ) : ∀ (n : Nat) (v1 : Nat) (v2 : Int32) (v3 : Int32) (M : m_M), m_ok e_V Φ (F_X10_fill_2 n v1 v2 v3 M) → j_J X 3 2 [some (.ref v1), some (.int v2), some (.int v3)] [] (0, 0) M := by
  have C0 := C.1
  intro n
  induction n with
  | zero => intro v1 v2 v3 M h; exact False.elim h
  | succ n ih =>
    intro v1 v2 v3 M h
    rw [F_X10_fill_2] at h
    refine j_iload_n C0 (pc := 2) dX10_fill_2 rfl ?_
    refine j_bipush C0 (pc := 3) dX10_fill_3 (v := (16 : Int32)) (by decide) ?_
    refine j_icmp_ge C0 (pc := 5) (tgt := 25) dX10_fill_5 (by decide) (fun hc => ?_) (fun hc => ?_)
    · replace h := (X_if h).1 hc
      exact j_vret C rfl h dX10_fill_25 (by decide)
    · replace h := (X_if h).2 hc
      refine j_aload_n C0 (pc := 8) dX10_fill_8 rfl ?_
      refine X_gN C0 (pc := 9) f_WS_9_8 rfl dX10_fill_9 h (fun v4 h => ?_)
      refine j_iload_n C0 (pc := 12) dX10_fill_12 rfl ?_
      refine j_iload_n C0 (pc := 13) dX10_fill_13 rfl ?_
      refine j_iload_n C0 (pc := 14) dX10_fill_14 rfl ?_
      refine X_cS C0 (pc := 15) (e' := e_L) (as := [.int v2, .int v3]) (rest := [.int v3, .ref v4]) (s' := fun w => .long w :: [.int v3, .ref v4]) (g' := (0, 0)) s_WS_23 (fun Ψ hΨ => K_X10_wholeLong v2 v3 M Ψ hΨ) rfl rfl (fun _ => rfl) (by decide) (by decide) rfl (Nat.le_of_ble_eq_true rfl) dX10_fill_15 h (fun v5 M1 h => ?_)
      refine X_last C0 (pc := 18) dX10_fill_18 h (fun M2 h => ?_)
      refine j_iinc C0 (pc := 19) dX10_fill_19 (v := v3 + (1 : Int32)) rfl (Nat.le_of_ble_eq_true rfl) (by rfl) ?_
      refine X_let (G := fun w => j_J X 3 22 [some (.ref v1), some (.int v2), some (.int w)] [] (0, 0) M2) h (fun v6 h => ?_)
      refine j_goto C0 (pc := 22) (tgt := 2) dX10_fill_22 (by decide) ?_
      exact j_J.wq (ih v1 v2 v6 M2 h) (And.intro rfl (And.intro rfl (And.intro rfl (trivial))))
set_option maxHeartbeats 4000000 in
theorem K_X10_fill (a0 : Nat) (a1 : Int32) (M : m_M) (Φ : Option Value → m_M → Prop) (h : m_ok e_V Φ (F_X10_fill a0 a1 M)) : j_Ct yX10_fill cX10_fill 3 none 2 0 0 [.ref a0, .int a1] M Φ := by
  refine j_Ct.of (by decide +kernel) (Nat.le_of_ble_eq_true rfl) fun X C => ?_
  have C0 := C.1
  show j_J X 3 0 [some (.ref a0), some (.int a1), none] [] (0, 0) M
  unfold F_X10_fill at h
  refine j_iconst C0 (pc := 0) dX10_fill_0 (v := (0 : Int32)) (by decide) ?_
  refine j_istore_n C0 (pc := 1) dX10_fill_1 (Nat.le_of_ble_eq_true rfl) ?_
  show j_J X 3 2 [some (.ref a0), some (.int a1), some (.int (0 : Int32))] [] (0, 0) M
  exact j_J.wq (L_X10_fill_2 C m_FU a0 a1 (0 : Int32) M h) (And.intro rfl (And.intro rfl (And.intro rfl (trivial))))
