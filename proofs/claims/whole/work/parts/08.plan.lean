def f_J13_bitCount_95d88 (x0 : Int64) : Option Int32 := some ((((((((((x0 - (((x0.toUInt64 >>> ((1 : Int32).toInt64.toUInt64 &&& Int64.toUInt64 63)).toInt64) &&& 6148914691236517205)) &&& 3689348814741910323) + ((((x0 - (((x0.toUInt64 >>> ((1 : Int32).toInt64.toUInt64 &&& Int64.toUInt64 63)).toInt64) &&& 6148914691236517205)).toUInt64 >>> ((2 : Int32).toInt64.toUInt64 &&& Int64.toUInt64 63)).toInt64) &&& 3689348814741910323)) + (((((x0 - (((x0.toUInt64 >>> ((1 : Int32).toInt64.toUInt64 &&& Int64.toUInt64 63)).toInt64) &&& 6148914691236517205)) &&& 3689348814741910323) + ((((x0 - (((x0.toUInt64 >>> ((1 : Int32).toInt64.toUInt64 &&& Int64.toUInt64 63)).toInt64) &&& 6148914691236517205)).toUInt64 >>> ((2 : Int32).toInt64.toUInt64 &&& Int64.toUInt64 63)).toInt64) &&& 3689348814741910323)).toUInt64 >>> ((4 : Int32).toInt64.toUInt64 &&& Int64.toUInt64 63)).toInt64)) &&& 1085102592571150095) + (((((((x0 - (((x0.toUInt64 >>> ((1 : Int32).toInt64.toUInt64 &&& Int64.toUInt64 63)).toInt64) &&& 6148914691236517205)) &&& 3689348814741910323) + ((((x0 - (((x0.toUInt64 >>> ((1 : Int32).toInt64.toUInt64 &&& Int64.toUInt64 63)).toInt64) &&& 6148914691236517205)).toUInt64 >>> ((2 : Int32).toInt64.toUInt64 &&& Int64.toUInt64 63)).toInt64) &&& 3689348814741910323)) + (((((x0 - (((x0.toUInt64 >>> ((1 : Int32).toInt64.toUInt64 &&& Int64.toUInt64 63)).toInt64) &&& 6148914691236517205)) &&& 3689348814741910323) + ((((x0 - (((x0.toUInt64 >>> ((1 : Int32).toInt64.toUInt64 &&& Int64.toUInt64 63)).toInt64) &&& 6148914691236517205)).toUInt64 >>> ((2 : Int32).toInt64.toUInt64 &&& Int64.toUInt64 63)).toInt64) &&& 3689348814741910323)).toUInt64 >>> ((4 : Int32).toInt64.toUInt64 &&& Int64.toUInt64 63)).toInt64)) &&& 1085102592571150095).toUInt64 >>> ((8 : Int32).toInt64.toUInt64 &&& Int64.toUInt64 63)).toInt64)) + ((((((((x0 - (((x0.toUInt64 >>> ((1 : Int32).toInt64.toUInt64 &&& Int64.toUInt64 63)).toInt64) &&& 6148914691236517205)) &&& 3689348814741910323) + ((((x0 - (((x0.toUInt64 >>> ((1 : Int32).toInt64.toUInt64 &&& Int64.toUInt64 63)).toInt64) &&& 6148914691236517205)).toUInt64 >>> ((2 : Int32).toInt64.toUInt64 &&& Int64.toUInt64 63)).toInt64) &&& 3689348814741910323)) + (((((x0 - (((x0.toUInt64 >>> ((1 : Int32).toInt64.toUInt64 &&& Int64.toUInt64 63)).toInt64) &&& 6148914691236517205)) &&& 3689348814741910323) + ((((x0 - (((x0.toUInt64 >>> ((1 : Int32).toInt64.toUInt64 &&& Int64.toUInt64 63)).toInt64) &&& 6148914691236517205)).toUInt64 >>> ((2 : Int32).toInt64.toUInt64 &&& Int64.toUInt64 63)).toInt64) &&& 3689348814741910323)).toUInt64 >>> ((4 : Int32).toInt64.toUInt64 &&& Int64.toUInt64 63)).toInt64)) &&& 1085102592571150095) + (((((((x0 - (((x0.toUInt64 >>> ((1 : Int32).toInt64.toUInt64 &&& Int64.toUInt64 63)).toInt64) &&& 6148914691236517205)) &&& 3689348814741910323) + ((((x0 - (((x0.toUInt64 >>> ((1 : Int32).toInt64.toUInt64 &&& Int64.toUInt64 63)).toInt64) &&& 6148914691236517205)).toUInt64 >>> ((2 : Int32).toInt64.toUInt64 &&& Int64.toUInt64 63)).toInt64) &&& 3689348814741910323)) + (((((x0 - (((x0.toUInt64 >>> ((1 : Int32).toInt64.toUInt64 &&& Int64.toUInt64 63)).toInt64) &&& 6148914691236517205)) &&& 3689348814741910323) + ((((x0 - (((x0.toUInt64 >>> ((1 : Int32).toInt64.toUInt64 &&& Int64.toUInt64 63)).toInt64) &&& 6148914691236517205)).toUInt64 >>> ((2 : Int32).toInt64.toUInt64 &&& Int64.toUInt64 63)).toInt64) &&& 3689348814741910323)).toUInt64 >>> ((4 : Int32).toInt64.toUInt64 &&& Int64.toUInt64 63)).toInt64)) &&& 1085102592571150095).toUInt64 >>> ((8 : Int32).toInt64.toUInt64 &&& Int64.toUInt64 63)).toInt64)).toUInt64 >>> ((16 : Int32).toInt64.toUInt64 &&& Int64.toUInt64 63)).toInt64)) + (((((((((x0 - (((x0.toUInt64 >>> ((1 : Int32).toInt64.toUInt64 &&& Int64.toUInt64 63)).toInt64) &&& 6148914691236517205)) &&& 3689348814741910323) + ((((x0 - (((x0.toUInt64 >>> ((1 : Int32).toInt64.toUInt64 &&& Int64.toUInt64 63)).toInt64) &&& 6148914691236517205)).toUInt64 >>> ((2 : Int32).toInt64.toUInt64 &&& Int64.toUInt64 63)).toInt64) &&& 3689348814741910323)) + (((((x0 - (((x0.toUInt64 >>> ((1 : Int32).toInt64.toUInt64 &&& Int64.toUInt64 63)).toInt64) &&& 6148914691236517205)) &&& 3689348814741910323) + ((((x0 - (((x0.toUInt64 >>> ((1 : Int32).toInt64.toUInt64 &&& Int64.toUInt64 63)).toInt64) &&& 6148914691236517205)).toUInt64 >>> ((2 : Int32).toInt64.toUInt64 &&& Int64.toUInt64 63)).toInt64) &&& 3689348814741910323)).toUInt64 >>> ((4 : Int32).toInt64.toUInt64 &&& Int64.toUInt64 63)).toInt64)) &&& 1085102592571150095) + (((((((x0 - (((x0.toUInt64 >>> ((1 : Int32).toInt64.toUInt64 &&& Int64.toUInt64 63)).toInt64) &&& 6148914691236517205)) &&& 3689348814741910323) + ((((x0 - (((x0.toUInt64 >>> ((1 : Int32).toInt64.toUInt64 &&& Int64.toUInt64 63)).toInt64) &&& 6148914691236517205)).toUInt64 >>> ((2 : Int32).toInt64.toUInt64 &&& Int64.toUInt64 63)).toInt64) &&& 3689348814741910323)) + (((((x0 - (((x0.toUInt64 >>> ((1 : Int32).toInt64.toUInt64 &&& Int64.toUInt64 63)).toInt64) &&& 6148914691236517205)) &&& 3689348814741910323) + ((((x0 - (((x0.toUInt64 >>> ((1 : Int32).toInt64.toUInt64 &&& Int64.toUInt64 63)).toInt64) &&& 6148914691236517205)).toUInt64 >>> ((2 : Int32).toInt64.toUInt64 &&& Int64.toUInt64 63)).toInt64) &&& 3689348814741910323)).toUInt64 >>> ((4 : Int32).toInt64.toUInt64 &&& Int64.toUInt64 63)).toInt64)) &&& 1085102592571150095).toUInt64 >>> ((8 : Int32).toInt64.toUInt64 &&& Int64.toUInt64 63)).toInt64)) + ((((((((x0 - (((x0.toUInt64 >>> ((1 : Int32).toInt64.toUInt64 &&& Int64.toUInt64 63)).toInt64) &&& 6148914691236517205)) &&& 3689348814741910323) + ((((x0 - (((x0.toUInt64 >>> ((1 : Int32).toInt64.toUInt64 &&& Int64.toUInt64 63)).toInt64) &&& 6148914691236517205)).toUInt64 >>> ((2 : Int32).toInt64.toUInt64 &&& Int64.toUInt64 63)).toInt64) &&& 3689348814741910323)) + (((((x0 - (((x0.toUInt64 >>> ((1 : Int32).toInt64.toUInt64 &&& Int64.toUInt64 63)).toInt64) &&& 6148914691236517205)) &&& 3689348814741910323) + ((((x0 - (((x0.toUInt64 >>> ((1 : Int32).toInt64.toUInt64 &&& Int64.toUInt64 63)).toInt64) &&& 6148914691236517205)).toUInt64 >>> ((2 : Int32).toInt64.toUInt64 &&& Int64.toUInt64 63)).toInt64) &&& 3689348814741910323)).toUInt64 >>> ((4 : Int32).toInt64.toUInt64 &&& Int64.toUInt64 63)).toInt64)) &&& 1085102592571150095) + (((((((x0 - (((x0.toUInt64 >>> ((1 : Int32).toInt64.toUInt64 &&& Int64.toUInt64 63)).toInt64) &&& 6148914691236517205)) &&& 3689348814741910323) + ((((x0 - (((x0.toUInt64 >>> ((1 : Int32).toInt64.toUInt64 &&& Int64.toUInt64 63)).toInt64) &&& 6148914691236517205)).toUInt64 >>> ((2 : Int32).toInt64.toUInt64 &&& Int64.toUInt64 63)).toInt64) &&& 3689348814741910323)) + (((((x0 - (((x0.toUInt64 >>> ((1 : Int32).toInt64.toUInt64 &&& Int64.toUInt64 63)).toInt64) &&& 6148914691236517205)) &&& 3689348814741910323) + ((((x0 - (((x0.toUInt64 >>> ((1 : Int32).toInt64.toUInt64 &&& Int64.toUInt64 63)).toInt64) &&& 6148914691236517205)).toUInt64 >>> ((2 : Int32).toInt64.toUInt64 &&& Int64.toUInt64 63)).toInt64) &&& 3689348814741910323)).toUInt64 >>> ((4 : Int32).toInt64.toUInt64 &&& Int64.toUInt64 63)).toInt64)) &&& 1085102592571150095).toUInt64 >>> ((8 : Int32).toInt64.toUInt64 &&& Int64.toUInt64 63)).toInt64)).toUInt64 >>> ((16 : Int32).toInt64.toUInt64 &&& Int64.toUInt64 63)).toInt64)).toUInt64 >>> ((32 : Int32).toInt64.toUInt64 &&& Int64.toUInt64 63)).toInt64)).toInt32) &&& 127)
theorem cw_J13_bitCount_95d88 : CWs yJ13_bitCount_95d88 cJ13_bitCount_95d88 2 (some .int) 1 := ⟨m1_224, m1_15, m1_225, by decide, by decide, by decide +kernel⟩
set_option maxHeartbeats 4000000 in
set_option maxRecDepth 100000 in
theorem c_J13_bitCount_95d88 (l : Launch) (D : va_G) (cI cJ : ClassId) (x0 : Int64) (r : Int32) (h : f_J13_bitCount_95d88 x0 = some r) : Cti l D cI cJ yJ13_bitCount_95d88 cJ13_bitCount_95d88 2 (some .int) 0 0 [.long x0] [] [] r := by
  refine mk_i [(0, .long x0)] (by decide) rfl (Nat.le_of_ble_eq_true rfl) rfl (fun p e s m args below meth c A Q C hk => ?_)
  unfold f_J13_bitCount_95d88 at h
  refine v_lload_n C 0 dJ13_bitCount_95d88_0 rfl rfl ?_
  refine v_lload_n C 0 dJ13_bitCount_95d88_1 rfl rfl ?_
  refine v_iconst (v := 1) C dJ13_bitCount_95d88_2 (by decide) ?_
  refine v_lushr C dJ13_bitCount_95d88_3 ?_
  refine v_ldc2 (v := 6148914691236517205) C m1_226 dJ13_bitCount_95d88_4 ?_
  refine v_land C dJ13_bitCount_95d88_7 ?_
  refine v_lsub C dJ13_bitCount_95d88_8 ?_
  refine v_lstore_n C [(0, .long (x0 - (((x0.toUInt64 >>> ((1 : Int32).toInt64.toUInt64 &&& Int64.toUInt64 63)).toInt64) &&& 6148914691236517205)))] dJ13_bitCount_95d88_9 rfl (by decide) rfl ?_
  refine v_lload_n C 0 dJ13_bitCount_95d88_10 rfl rfl ?_
  refine v_ldc2 (v := 3689348814741910323) C m1_227 dJ13_bitCount_95d88_11 ?_
  refine v_land C dJ13_bitCount_95d88_14 ?_
  refine v_lload_n C 0 dJ13_bitCount_95d88_15 rfl rfl ?_
  refine v_iconst (v := 2) C dJ13_bitCount_95d88_16 (by decide) ?_
  refine v_lushr C dJ13_bitCount_95d88_17 ?_
  refine v_ldc2 (v := 3689348814741910323) C m1_227 dJ13_bitCount_95d88_18 ?_
  refine v_land C dJ13_bitCount_95d88_21 ?_
  refine v_ladd C dJ13_bitCount_95d88_22 ?_
  refine v_lstore_n C [(0, .long (((x0 - (((x0.toUInt64 >>> ((1 : Int32).toInt64.toUInt64 &&& Int64.toUInt64 63)).toInt64) &&& 6148914691236517205)) &&& 3689348814741910323) + ((((x0 - (((x0.toUInt64 >>> ((1 : Int32).toInt64.toUInt64 &&& Int64.toUInt64 63)).toInt64) &&& 6148914691236517205)).toUInt64 >>> ((2 : Int32).toInt64.toUInt64 &&& Int64.toUInt64 63)).toInt64) &&& 3689348814741910323)))] dJ13_bitCount_95d88_23 rfl (by decide) rfl ?_
  refine v_lload_n C 0 dJ13_bitCount_95d88_24 rfl rfl ?_
  refine v_lload_n C 0 dJ13_bitCount_95d88_25 rfl rfl ?_
  refine v_iconst (v := 4) C dJ13_bitCount_95d88_26 (by decide) ?_
  refine v_lushr C dJ13_bitCount_95d88_27 ?_
  refine v_ladd C dJ13_bitCount_95d88_28 ?_
  refine v_ldc2 (v := 1085102592571150095) C m1_228 dJ13_bitCount_95d88_29 ?_
  refine v_land C dJ13_bitCount_95d88_32 ?_
  refine v_lstore_n C [(0, .long (((((x0 - (((x0.toUInt64 >>> ((1 : Int32).toInt64.toUInt64 &&& Int64.toUInt64 63)).toInt64) &&& 6148914691236517205)) &&& 3689348814741910323) + ((((x0 - (((x0.toUInt64 >>> ((1 : Int32).toInt64.toUInt64 &&& Int64.toUInt64 63)).toInt64) &&& 6148914691236517205)).toUInt64 >>> ((2 : Int32).toInt64.toUInt64 &&& Int64.toUInt64 63)).toInt64) &&& 3689348814741910323)) + (((((x0 - (((x0.toUInt64 >>> ((1 : Int32).toInt64.toUInt64 &&& Int64.toUInt64 63)).toInt64) &&& 6148914691236517205)) &&& 3689348814741910323) + ((((x0 - (((x0.toUInt64 >>> ((1 : Int32).toInt64.toUInt64 &&& Int64.toUInt64 63)).toInt64) &&& 6148914691236517205)).toUInt64 >>> ((2 : Int32).toInt64.toUInt64 &&& Int64.toUInt64 63)).toInt64) &&& 3689348814741910323)).toUInt64 >>> ((4 : Int32).toInt64.toUInt64 &&& Int64.toUInt64 63)).toInt64)) &&& 1085102592571150095))] dJ13_bitCount_95d88_33 rfl (by decide) rfl ?_
  refine v_lload_n C 0 dJ13_bitCount_95d88_34 rfl rfl ?_
  refine v_lload_n C 0 dJ13_bitCount_95d88_35 rfl rfl ?_
  refine v_bipush (v := 8) C dJ13_bitCount_95d88_36 (by decide) ?_
  refine v_lushr C dJ13_bitCount_95d88_38 ?_
  refine v_ladd C dJ13_bitCount_95d88_39 ?_
  refine v_lstore_n C [(0, .long ((((((x0 - (((x0.toUInt64 >>> ((1 : Int32).toInt64.toUInt64 &&& Int64.toUInt64 63)).toInt64) &&& 6148914691236517205)) &&& 3689348814741910323) + ((((x0 - (((x0.toUInt64 >>> ((1 : Int32).toInt64.toUInt64 &&& Int64.toUInt64 63)).toInt64) &&& 6148914691236517205)).toUInt64 >>> ((2 : Int32).toInt64.toUInt64 &&& Int64.toUInt64 63)).toInt64) &&& 3689348814741910323)) + (((((x0 - (((x0.toUInt64 >>> ((1 : Int32).toInt64.toUInt64 &&& Int64.toUInt64 63)).toInt64) &&& 6148914691236517205)) &&& 3689348814741910323) + ((((x0 - (((x0.toUInt64 >>> ((1 : Int32).toInt64.toUInt64 &&& Int64.toUInt64 63)).toInt64) &&& 6148914691236517205)).toUInt64 >>> ((2 : Int32).toInt64.toUInt64 &&& Int64.toUInt64 63)).toInt64) &&& 3689348814741910323)).toUInt64 >>> ((4 : Int32).toInt64.toUInt64 &&& Int64.toUInt64 63)).toInt64)) &&& 1085102592571150095) + (((((((x0 - (((x0.toUInt64 >>> ((1 : Int32).toInt64.toUInt64 &&& Int64.toUInt64 63)).toInt64) &&& 6148914691236517205)) &&& 3689348814741910323) + ((((x0 - (((x0.toUInt64 >>> ((1 : Int32).toInt64.toUInt64 &&& Int64.toUInt64 63)).toInt64) &&& 6148914691236517205)).toUInt64 >>> ((2 : Int32).toInt64.toUInt64 &&& Int64.toUInt64 63)).toInt64) &&& 3689348814741910323)) + (((((x0 - (((x0.toUInt64 >>> ((1 : Int32).toInt64.toUInt64 &&& Int64.toUInt64 63)).toInt64) &&& 6148914691236517205)) &&& 3689348814741910323) + ((((x0 - (((x0.toUInt64 >>> ((1 : Int32).toInt64.toUInt64 &&& Int64.toUInt64 63)).toInt64) &&& 6148914691236517205)).toUInt64 >>> ((2 : Int32).toInt64.toUInt64 &&& Int64.toUInt64 63)).toInt64) &&& 3689348814741910323)).toUInt64 >>> ((4 : Int32).toInt64.toUInt64 &&& Int64.toUInt64 63)).toInt64)) &&& 1085102592571150095).toUInt64 >>> ((8 : Int32).toInt64.toUInt64 &&& Int64.toUInt64 63)).toInt64)))] dJ13_bitCount_95d88_40 rfl (by decide) rfl ?_
  refine v_lload_n C 0 dJ13_bitCount_95d88_41 rfl rfl ?_
  refine v_lload_n C 0 dJ13_bitCount_95d88_42 rfl rfl ?_
  refine v_bipush (v := 16) C dJ13_bitCount_95d88_43 (by decide) ?_
  refine v_lushr C dJ13_bitCount_95d88_45 ?_
  refine v_ladd C dJ13_bitCount_95d88_46 ?_
  refine v_lstore_n C [(0, .long (((((((x0 - (((x0.toUInt64 >>> ((1 : Int32).toInt64.toUInt64 &&& Int64.toUInt64 63)).toInt64) &&& 6148914691236517205)) &&& 3689348814741910323) + ((((x0 - (((x0.toUInt64 >>> ((1 : Int32).toInt64.toUInt64 &&& Int64.toUInt64 63)).toInt64) &&& 6148914691236517205)).toUInt64 >>> ((2 : Int32).toInt64.toUInt64 &&& Int64.toUInt64 63)).toInt64) &&& 3689348814741910323)) + (((((x0 - (((x0.toUInt64 >>> ((1 : Int32).toInt64.toUInt64 &&& Int64.toUInt64 63)).toInt64) &&& 6148914691236517205)) &&& 3689348814741910323) + ((((x0 - (((x0.toUInt64 >>> ((1 : Int32).toInt64.toUInt64 &&& Int64.toUInt64 63)).toInt64) &&& 6148914691236517205)).toUInt64 >>> ((2 : Int32).toInt64.toUInt64 &&& Int64.toUInt64 63)).toInt64) &&& 3689348814741910323)).toUInt64 >>> ((4 : Int32).toInt64.toUInt64 &&& Int64.toUInt64 63)).toInt64)) &&& 1085102592571150095) + (((((((x0 - (((x0.toUInt64 >>> ((1 : Int32).toInt64.toUInt64 &&& Int64.toUInt64 63)).toInt64) &&& 6148914691236517205)) &&& 3689348814741910323) + ((((x0 - (((x0.toUInt64 >>> ((1 : Int32).toInt64.toUInt64 &&& Int64.toUInt64 63)).toInt64) &&& 6148914691236517205)).toUInt64 >>> ((2 : Int32).toInt64.toUInt64 &&& Int64.toUInt64 63)).toInt64) &&& 3689348814741910323)) + (((((x0 - (((x0.toUInt64 >>> ((1 : Int32).toInt64.toUInt64 &&& Int64.toUInt64 63)).toInt64) &&& 6148914691236517205)) &&& 3689348814741910323) + ((((x0 - (((x0.toUInt64 >>> ((1 : Int32).toInt64.toUInt64 &&& Int64.toUInt64 63)).toInt64) &&& 6148914691236517205)).toUInt64 >>> ((2 : Int32).toInt64.toUInt64 &&& Int64.toUInt64 63)).toInt64) &&& 3689348814741910323)).toUInt64 >>> ((4 : Int32).toInt64.toUInt64 &&& Int64.toUInt64 63)).toInt64)) &&& 1085102592571150095).toUInt64 >>> ((8 : Int32).toInt64.toUInt64 &&& Int64.toUInt64 63)).toInt64)) + ((((((((x0 - (((x0.toUInt64 >>> ((1 : Int32).toInt64.toUInt64 &&& Int64.toUInt64 63)).toInt64) &&& 6148914691236517205)) &&& 3689348814741910323) + ((((x0 - (((x0.toUInt64 >>> ((1 : Int32).toInt64.toUInt64 &&& Int64.toUInt64 63)).toInt64) &&& 6148914691236517205)).toUInt64 >>> ((2 : Int32).toInt64.toUInt64 &&& Int64.toUInt64 63)).toInt64) &&& 3689348814741910323)) + (((((x0 - (((x0.toUInt64 >>> ((1 : Int32).toInt64.toUInt64 &&& Int64.toUInt64 63)).toInt64) &&& 6148914691236517205)) &&& 3689348814741910323) + ((((x0 - (((x0.toUInt64 >>> ((1 : Int32).toInt64.toUInt64 &&& Int64.toUInt64 63)).toInt64) &&& 6148914691236517205)).toUInt64 >>> ((2 : Int32).toInt64.toUInt64 &&& Int64.toUInt64 63)).toInt64) &&& 3689348814741910323)).toUInt64 >>> ((4 : Int32).toInt64.toUInt64 &&& Int64.toUInt64 63)).toInt64)) &&& 1085102592571150095) + (((((((x0 - (((x0.toUInt64 >>> ((1 : Int32).toInt64.toUInt64 &&& Int64.toUInt64 63)).toInt64) &&& 6148914691236517205)) &&& 3689348814741910323) + ((((x0 - (((x0.toUInt64 >>> ((1 : Int32).toInt64.toUInt64 &&& Int64.toUInt64 63)).toInt64) &&& 6148914691236517205)).toUInt64 >>> ((2 : Int32).toInt64.toUInt64 &&& Int64.toUInt64 63)).toInt64) &&& 3689348814741910323)) + (((((x0 - (((x0.toUInt64 >>> ((1 : Int32).toInt64.toUInt64 &&& Int64.toUInt64 63)).toInt64) &&& 6148914691236517205)) &&& 3689348814741910323) + ((((x0 - (((x0.toUInt64 >>> ((1 : Int32).toInt64.toUInt64 &&& Int64.toUInt64 63)).toInt64) &&& 6148914691236517205)).toUInt64 >>> ((2 : Int32).toInt64.toUInt64 &&& Int64.toUInt64 63)).toInt64) &&& 3689348814741910323)).toUInt64 >>> ((4 : Int32).toInt64.toUInt64 &&& Int64.toUInt64 63)).toInt64)) &&& 1085102592571150095).toUInt64 >>> ((8 : Int32).toInt64.toUInt64 &&& Int64.toUInt64 63)).toInt64)).toUInt64 >>> ((16 : Int32).toInt64.toUInt64 &&& Int64.toUInt64 63)).toInt64)))] dJ13_bitCount_95d88_47 rfl (by decide) rfl ?_
  refine v_lload_n C 0 dJ13_bitCount_95d88_48 rfl rfl ?_
  refine v_lload_n C 0 dJ13_bitCount_95d88_49 rfl rfl ?_
  refine v_bipush (v := 32) C dJ13_bitCount_95d88_50 (by decide) ?_
  refine v_lushr C dJ13_bitCount_95d88_52 ?_
  refine v_ladd C dJ13_bitCount_95d88_53 ?_
  refine v_lstore_n C [(0, .long ((((((((x0 - (((x0.toUInt64 >>> ((1 : Int32).toInt64.toUInt64 &&& Int64.toUInt64 63)).toInt64) &&& 6148914691236517205)) &&& 3689348814741910323) + ((((x0 - (((x0.toUInt64 >>> ((1 : Int32).toInt64.toUInt64 &&& Int64.toUInt64 63)).toInt64) &&& 6148914691236517205)).toUInt64 >>> ((2 : Int32).toInt64.toUInt64 &&& Int64.toUInt64 63)).toInt64) &&& 3689348814741910323)) + (((((x0 - (((x0.toUInt64 >>> ((1 : Int32).toInt64.toUInt64 &&& Int64.toUInt64 63)).toInt64) &&& 6148914691236517205)) &&& 3689348814741910323) + ((((x0 - (((x0.toUInt64 >>> ((1 : Int32).toInt64.toUInt64 &&& Int64.toUInt64 63)).toInt64) &&& 6148914691236517205)).toUInt64 >>> ((2 : Int32).toInt64.toUInt64 &&& Int64.toUInt64 63)).toInt64) &&& 3689348814741910323)).toUInt64 >>> ((4 : Int32).toInt64.toUInt64 &&& Int64.toUInt64 63)).toInt64)) &&& 1085102592571150095) + (((((((x0 - (((x0.toUInt64 >>> ((1 : Int32).toInt64.toUInt64 &&& Int64.toUInt64 63)).toInt64) &&& 6148914691236517205)) &&& 3689348814741910323) + ((((x0 - (((x0.toUInt64 >>> ((1 : Int32).toInt64.toUInt64 &&& Int64.toUInt64 63)).toInt64) &&& 6148914691236517205)).toUInt64 >>> ((2 : Int32).toInt64.toUInt64 &&& Int64.toUInt64 63)).toInt64) &&& 3689348814741910323)) + (((((x0 - (((x0.toUInt64 >>> ((1 : Int32).toInt64.toUInt64 &&& Int64.toUInt64 63)).toInt64) &&& 6148914691236517205)) &&& 3689348814741910323) + ((((x0 - (((x0.toUInt64 >>> ((1 : Int32).toInt64.toUInt64 &&& Int64.toUInt64 63)).toInt64) &&& 6148914691236517205)).toUInt64 >>> ((2 : Int32).toInt64.toUInt64 &&& Int64.toUInt64 63)).toInt64) &&& 3689348814741910323)).toUInt64 >>> ((4 : Int32).toInt64.toUInt64 &&& Int64.toUInt64 63)).toInt64)) &&& 1085102592571150095).toUInt64 >>> ((8 : Int32).toInt64.toUInt64 &&& Int64.toUInt64 63)).toInt64)) + ((((((((x0 - (((x0.toUInt64 >>> ((1 : Int32).toInt64.toUInt64 &&& Int64.toUInt64 63)).toInt64) &&& 6148914691236517205)) &&& 3689348814741910323) + ((((x0 - (((x0.toUInt64 >>> ((1 : Int32).toInt64.toUInt64 &&& Int64.toUInt64 63)).toInt64) &&& 6148914691236517205)).toUInt64 >>> ((2 : Int32).toInt64.toUInt64 &&& Int64.toUInt64 63)).toInt64) &&& 3689348814741910323)) + (((((x0 - (((x0.toUInt64 >>> ((1 : Int32).toInt64.toUInt64 &&& Int64.toUInt64 63)).toInt64) &&& 6148914691236517205)) &&& 3689348814741910323) + ((((x0 - (((x0.toUInt64 >>> ((1 : Int32).toInt64.toUInt64 &&& Int64.toUInt64 63)).toInt64) &&& 6148914691236517205)).toUInt64 >>> ((2 : Int32).toInt64.toUInt64 &&& Int64.toUInt64 63)).toInt64) &&& 3689348814741910323)).toUInt64 >>> ((4 : Int32).toInt64.toUInt64 &&& Int64.toUInt64 63)).toInt64)) &&& 1085102592571150095) + (((((((x0 - (((x0.toUInt64 >>> ((1 : Int32).toInt64.toUInt64 &&& Int64.toUInt64 63)).toInt64) &&& 6148914691236517205)) &&& 3689348814741910323) + ((((x0 - (((x0.toUInt64 >>> ((1 : Int32).toInt64.toUInt64 &&& Int64.toUInt64 63)).toInt64) &&& 6148914691236517205)).toUInt64 >>> ((2 : Int32).toInt64.toUInt64 &&& Int64.toUInt64 63)).toInt64) &&& 3689348814741910323)) + (((((x0 - (((x0.toUInt64 >>> ((1 : Int32).toInt64.toUInt64 &&& Int64.toUInt64 63)).toInt64) &&& 6148914691236517205)) &&& 3689348814741910323) + ((((x0 - (((x0.toUInt64 >>> ((1 : Int32).toInt64.toUInt64 &&& Int64.toUInt64 63)).toInt64) &&& 6148914691236517205)).toUInt64 >>> ((2 : Int32).toInt64.toUInt64 &&& Int64.toUInt64 63)).toInt64) &&& 3689348814741910323)).toUInt64 >>> ((4 : Int32).toInt64.toUInt64 &&& Int64.toUInt64 63)).toInt64)) &&& 1085102592571150095).toUInt64 >>> ((8 : Int32).toInt64.toUInt64 &&& Int64.toUInt64 63)).toInt64)).toUInt64 >>> ((16 : Int32).toInt64.toUInt64 &&& Int64.toUInt64 63)).toInt64)) + (((((((((x0 - (((x0.toUInt64 >>> ((1 : Int32).toInt64.toUInt64 &&& Int64.toUInt64 63)).toInt64) &&& 6148914691236517205)) &&& 3689348814741910323) + ((((x0 - (((x0.toUInt64 >>> ((1 : Int32).toInt64.toUInt64 &&& Int64.toUInt64 63)).toInt64) &&& 6148914691236517205)).toUInt64 >>> ((2 : Int32).toInt64.toUInt64 &&& Int64.toUInt64 63)).toInt64) &&& 3689348814741910323)) + (((((x0 - (((x0.toUInt64 >>> ((1 : Int32).toInt64.toUInt64 &&& Int64.toUInt64 63)).toInt64) &&& 6148914691236517205)) &&& 3689348814741910323) + ((((x0 - (((x0.toUInt64 >>> ((1 : Int32).toInt64.toUInt64 &&& Int64.toUInt64 63)).toInt64) &&& 6148914691236517205)).toUInt64 >>> ((2 : Int32).toInt64.toUInt64 &&& Int64.toUInt64 63)).toInt64) &&& 3689348814741910323)).toUInt64 >>> ((4 : Int32).toInt64.toUInt64 &&& Int64.toUInt64 63)).toInt64)) &&& 1085102592571150095) + (((((((x0 - (((x0.toUInt64 >>> ((1 : Int32).toInt64.toUInt64 &&& Int64.toUInt64 63)).toInt64) &&& 6148914691236517205)) &&& 3689348814741910323) + ((((x0 - (((x0.toUInt64 >>> ((1 : Int32).toInt64.toUInt64 &&& Int64.toUInt64 63)).toInt64) &&& 6148914691236517205)).toUInt64 >>> ((2 : Int32).toInt64.toUInt64 &&& Int64.toUInt64 63)).toInt64) &&& 3689348814741910323)) + (((((x0 - (((x0.toUInt64 >>> ((1 : Int32).toInt64.toUInt64 &&& Int64.toUInt64 63)).toInt64) &&& 6148914691236517205)) &&& 3689348814741910323) + ((((x0 - (((x0.toUInt64 >>> ((1 : Int32).toInt64.toUInt64 &&& Int64.toUInt64 63)).toInt64) &&& 6148914691236517205)).toUInt64 >>> ((2 : Int32).toInt64.toUInt64 &&& Int64.toUInt64 63)).toInt64) &&& 3689348814741910323)).toUInt64 >>> ((4 : Int32).toInt64.toUInt64 &&& Int64.toUInt64 63)).toInt64)) &&& 1085102592571150095).toUInt64 >>> ((8 : Int32).toInt64.toUInt64 &&& Int64.toUInt64 63)).toInt64)) + ((((((((x0 - (((x0.toUInt64 >>> ((1 : Int32).toInt64.toUInt64 &&& Int64.toUInt64 63)).toInt64) &&& 6148914691236517205)) &&& 3689348814741910323) + ((((x0 - (((x0.toUInt64 >>> ((1 : Int32).toInt64.toUInt64 &&& Int64.toUInt64 63)).toInt64) &&& 6148914691236517205)).toUInt64 >>> ((2 : Int32).toInt64.toUInt64 &&& Int64.toUInt64 63)).toInt64) &&& 3689348814741910323)) + (((((x0 - (((x0.toUInt64 >>> ((1 : Int32).toInt64.toUInt64 &&& Int64.toUInt64 63)).toInt64) &&& 6148914691236517205)) &&& 3689348814741910323) + ((((x0 - (((x0.toUInt64 >>> ((1 : Int32).toInt64.toUInt64 &&& Int64.toUInt64 63)).toInt64) &&& 6148914691236517205)).toUInt64 >>> ((2 : Int32).toInt64.toUInt64 &&& Int64.toUInt64 63)).toInt64) &&& 3689348814741910323)).toUInt64 >>> ((4 : Int32).toInt64.toUInt64 &&& Int64.toUInt64 63)).toInt64)) &&& 1085102592571150095) + (((((((x0 - (((x0.toUInt64 >>> ((1 : Int32).toInt64.toUInt64 &&& Int64.toUInt64 63)).toInt64) &&& 6148914691236517205)) &&& 3689348814741910323) + ((((x0 - (((x0.toUInt64 >>> ((1 : Int32).toInt64.toUInt64 &&& Int64.toUInt64 63)).toInt64) &&& 6148914691236517205)).toUInt64 >>> ((2 : Int32).toInt64.toUInt64 &&& Int64.toUInt64 63)).toInt64) &&& 3689348814741910323)) + (((((x0 - (((x0.toUInt64 >>> ((1 : Int32).toInt64.toUInt64 &&& Int64.toUInt64 63)).toInt64) &&& 6148914691236517205)) &&& 3689348814741910323) + ((((x0 - (((x0.toUInt64 >>> ((1 : Int32).toInt64.toUInt64 &&& Int64.toUInt64 63)).toInt64) &&& 6148914691236517205)).toUInt64 >>> ((2 : Int32).toInt64.toUInt64 &&& Int64.toUInt64 63)).toInt64) &&& 3689348814741910323)).toUInt64 >>> ((4 : Int32).toInt64.toUInt64 &&& Int64.toUInt64 63)).toInt64)) &&& 1085102592571150095).toUInt64 >>> ((8 : Int32).toInt64.toUInt64 &&& Int64.toUInt64 63)).toInt64)).toUInt64 >>> ((16 : Int32).toInt64.toUInt64 &&& Int64.toUInt64 63)).toInt64)).toUInt64 >>> ((32 : Int32).toInt64.toUInt64 &&& Int64.toUInt64 63)).toInt64)))] dJ13_bitCount_95d88_54 rfl (by decide) rfl ?_
  refine v_lload_n C 0 dJ13_bitCount_95d88_55 rfl rfl ?_
  refine v_l2i C dJ13_bitCount_95d88_56 ?_
  refine v_bipush (v := 127) C dJ13_bitCount_95d88_57 (by decide) ?_
  refine v_iand C dJ13_bitCount_95d88_59 ?_
  cases h
  exact hk _ _ dJ13_bitCount_95d88_60
abbrev wAJ (cI cJ : ClassId) (aA : Nat → Nat) (f_A : (Nat → Int64)) : va_W := [(aA 0, .inl (cJ, 38, .inr (.inl f_A)))]
def f_J7_fill_d0a16_B6 (x1 : Int64) (x4 : Int32) : (Int32 × (Nat → Int64)) → Option ((Int32 × (Nat → Int64)) ⊕ (Nat → Int64))
  | (x3, f_A) => if x4 ≤ x3 then (some (.inr f_A)) else (bnd x3 38 (some (.inl (x3 + 1, vp_updL f_A x3.toNatClampNeg x1))))
def f_J7_fill_d0a16 (f_A : (Nat → Int64)) (x1 : Int64) : Option (Nat → Int64) := (lp (f_J7_fill_d0a16_B6 x1 38) 64 (0, f_A)).bind (fun r => match r with | f_A_1 => some f_A_1)
theorem cw_J7_fill_d0a16 : CWs yJ7_fill_d0a16 cJ7_fill_d0a16 5 none 2 := ⟨m1_202, m1_11, m1_203, by decide, by decide, by decide +kernel⟩
set_option maxHeartbeats 4000000 in
set_option maxRecDepth 100000 in
theorem t_J7_fill_d0a16_B6 {p : Program} {l : Launch} {e : Env} {s : State} {m : MethodId} {args : Array Value} {below : List Frame} {meth : Method} {c : Code} {D : va_G} {A : Nat → Prop} {cI cJ : ClassId} {Q : State → Prop} (C : Cx p s m args c cJ7_fill_d0a16 5 RJ7 D A cI cJ) {aA : Nat → Nat} {x1 : Int64} {x4 : Int32} (s8 : (Int32 × (Nat → Int64))) (o8 : (Int32 × (Nat → Int64)) ⊕ (Nat → Int64)) (h : f_J7_fill_d0a16_B6 x1 x4 s8 = some o8) (hl : ∀ s8, o8 = .inl s8 → V p l e (rmO 0 0) s m args below meth c 5 D A 0 0 Q 6 [(0, .ref (aA 0)), (1, .long x1), (3, .int s8.1), (4, .int x4)] [] (wAJ cI cJ aA s8.2)) (hx : ∀ r8, o8 = .inr r8 → V p l e (rmO 0 0) s m args below meth c 5 D A 0 0 Q 22 [] [] (wAJ cI cJ aA r8)) : V p l e (rmO 0 0) s m args below meth c 5 D A 0 0 Q 6 [(0, .ref (aA 0)), (1, .long x1), (3, .int s8.1), (4, .int x4)] [] (wAJ cI cJ aA s8.2) := by
  obtain ⟨x3, f_A⟩ := s8
  unfold f_J7_fill_d0a16_B6 at h
  show V p l e (rmO 0 0) s m args below meth c 5 D A 0 0 Q 6 [(0, .ref (aA 0)), (1, .long x1), (3, .int x3), (4, .int x4)] [] (wAJ cI cJ aA f_A)
  refine v_iload_n C 2 dJ7_fill_d0a16_6 rfl rfl ?_
  refine v_iload C 3 dJ7_fill_d0a16_7 rfl ?_
  refine v_icmp_ge (tgt := 22) C dJ7_fill_d0a16_9 (by decide) h (fun h => ?_) (fun h => ?_)
  · refine v_perm [] rfl ?_
    cases h
    exact hx _ rfl
  · refine v_aload_n C 0 dJ7_fill_d0a16_12 rfl rfl ?_
    refine v_iload_n C 2 dJ7_fill_d0a16_13 rfl rfl ?_
    refine v_lload_n C 1 dJ7_fill_d0a16_14 rfl rfl ?_
    refine v_last C (wAJ cI cJ aA (vp_updL f_A x3.toNatClampNeg x1)) 0 rfl dJ7_fill_d0a16_15 h rfl (fun h => ?_)
    refine v_iinc C [(3, .int (x3 + 1)), (0, .ref (aA 0)), (1, .long x1), (4, .int x4)] 2 dJ7_fill_d0a16_16 rfl rfl (by decide) rfl ?_
    refine v_goto (tgt := 6) C dJ7_fill_d0a16_19 (by decide) ?_
    refine v_perm [1, 2, 0, 3] rfl ?_
    cases h
    exact hl _ rfl
set_option maxHeartbeats 4000000 in
set_option maxRecDepth 100000 in
theorem t_J7_fill_d0a16_L6 {p : Program} {l : Launch} {e : Env} {s : State} {m : MethodId} {args : Array Value} {below : List Frame} {meth : Method} {c : Code} {D : va_G} {A : Nat → Prop} {cI cJ : ClassId} {Q : State → Prop} (C : Cx p s m args c cJ7_fill_d0a16 5 RJ7 D A cI cJ) {aA : Nat → Nat} {x1 : Int64} {x4 : Int32} {n8 : Nat} {s9 : (Int32 × (Nat → Int64))} {o8 : (Nat → Int64)} (h : lp (f_J7_fill_d0a16_B6 x1 x4) n8 s9 = some o8) (hk : V p l e (rmO 0 0) s m args below meth c 5 D A 0 0 Q 22 [] [] (wAJ cI cJ aA o8)) : V p l e (rmO 0 0) s m args below meth c 5 D A 0 0 Q 6 [(0, .ref (aA 0)), (1, .long x1), (3, .int s9.1), (4, .int x4)] [] (wAJ cI cJ aA s9.2) := lp_ok (Pσ := fun s8 => V p l e (rmO 0 0) s m args below meth c 5 D A 0 0 Q 6 [(0, .ref (aA 0)), (1, .long x1), (3, .int s8.1), (4, .int x4)] [] (wAJ cI cJ aA s8.2)) (Pρ := fun r8 => V p l e (rmO 0 0) s m args below meth c 5 D A 0 0 Q 22 [] [] (wAJ cI cJ aA r8)) (fun s o h hl hx => t_J7_fill_d0a16_B6 C s o h hl hx) n8 s9 o8 h hk
set_option maxHeartbeats 4000000 in
set_option maxRecDepth 100000 in
theorem c_J7_fill_d0a16 (l : Launch) (D : va_G) (cI cJ : ClassId) (aA : Nat → Nat) (f_A : (Nat → Int64)) (x1 : Int64) (f_A' : (Nat → Int64)) (h : f_J7_fill_d0a16 f_A x1 = some f_A') : Ctv l D cI cJ yJ7_fill_d0a16 cJ7_fill_d0a16 5 none 0 0 [.ref (aA 0), .long x1] (wAJ cI cJ aA f_A) (wAJ cI cJ aA f_A') := by
  refine mk_v [(0, .ref (aA 0)), (1, .long x1)] (by decide) rfl (Nat.le_of_ble_eq_true rfl) rfl (fun p e s m args below meth c A Q C hk => ?_)
  unfold f_J7_fill_d0a16 at h
  refine v_iconst (v := 0) C dJ7_fill_d0a16_0 (by decide) ?_
  refine v_istore_n C [(3, .int 0), (0, .ref (aA 0)), (1, .long x1)] dJ7_fill_d0a16_1 rfl (by decide) rfl ?_
  refine v_aload_n C 1 dJ7_fill_d0a16_2 rfl rfl ?_
  refine v_alenJ (v := 38) C 0 rfl rfl dJ7_fill_d0a16_3 ?_
  refine v_istore C [(4, .int 38), (3, .int 0), (0, .ref (aA 0)), (1, .long x1)] dJ7_fill_d0a16_4 (by decide) rfl ?_
  obtain ⟨r, h1, h⟩ := bind_el h
  refine v_perm [2, 3, 1, 0] rfl ?_
  obtain ⟨f_A_1, rfl⟩ : ∃ z, z = r := ⟨_, rfl⟩
  refine t_J7_fill_d0a16_L6 C (s9 := (0, f_A)) h1 ?_
  show V p l e (rmO 0 0) s m args below meth c 5 D A 0 0 Q 22 [] [] (wAJ cI cJ aA f_A_1)
  try dsimp only at h
  cases h
  exact hk _ _ dJ7_fill_d0a16_22
abbrev wAI (cI cJ : ClassId) (aA : Nat → Nat) (f_A : (Nat → Int32)) : va_W := [(aA 0, .inl (cI, 38, .inl f_A))]
def f_J7_fill_53178_B5 (x1 : Int32) (x3 : Int32) : (Int32 × (Nat → Int32)) → Option ((Int32 × (Nat → Int32)) ⊕ (Nat → Int32))
  | (x2, f_A) => if x3 ≤ x2 then (some (.inr f_A)) else (bnd x2 38 (some (.inl (x2 + 1, upd f_A x2.toNatClampNeg x1))))
def f_J7_fill_53178 (f_A : (Nat → Int32)) (x1 : Int32) : Option (Nat → Int32) := (lp (f_J7_fill_53178_B5 x1 38) 64 (0, f_A)).bind (fun r => match r with | f_A_1 => some f_A_1)
theorem cw_J7_fill_53178 : CWs yJ7_fill_53178 cJ7_fill_53178 4 none 2 := ⟨m2_148, m1_11, m2_149, by decide, by decide, by decide +kernel⟩
set_option maxHeartbeats 4000000 in
set_option maxRecDepth 100000 in
theorem t_J7_fill_53178_B5 {p : Program} {l : Launch} {e : Env} {s : State} {m : MethodId} {args : Array Value} {below : List Frame} {meth : Method} {c : Code} {D : va_G} {A : Nat → Prop} {cI cJ : ClassId} {Q : State → Prop} (C : Cx p s m args c cJ7_fill_53178 4 RJ7 D A cI cJ) {aA : Nat → Nat} {x1 : Int32} {x3 : Int32} (s8 : (Int32 × (Nat → Int32))) (o8 : (Int32 × (Nat → Int32)) ⊕ (Nat → Int32)) (h : f_J7_fill_53178_B5 x1 x3 s8 = some o8) (hl : ∀ s8, o8 = .inl s8 → V p l e (rmO 0 0) s m args below meth c 4 D A 0 0 Q 5 [(0, .ref (aA 0)), (1, .int x1), (2, .int s8.1), (3, .int x3)] [] (wAI cI cJ aA s8.2)) (hx : ∀ r8, o8 = .inr r8 → V p l e (rmO 0 0) s m args below meth c 4 D A 0 0 Q 20 [] [] (wAI cI cJ aA r8)) : V p l e (rmO 0 0) s m args below meth c 4 D A 0 0 Q 5 [(0, .ref (aA 0)), (1, .int x1), (2, .int s8.1), (3, .int x3)] [] (wAI cI cJ aA s8.2) := by
  obtain ⟨x2, f_A⟩ := s8
  unfold f_J7_fill_53178_B5 at h
  show V p l e (rmO 0 0) s m args below meth c 4 D A 0 0 Q 5 [(0, .ref (aA 0)), (1, .int x1), (2, .int x2), (3, .int x3)] [] (wAI cI cJ aA f_A)
  refine v_iload_n C 2 dJ7_fill_53178_5 rfl rfl ?_
  refine v_iload_n C 3 dJ7_fill_53178_6 rfl rfl ?_
  refine v_icmp_ge (tgt := 20) C dJ7_fill_53178_7 (by decide) h (fun h => ?_) (fun h => ?_)
  · refine v_perm [] rfl ?_
    cases h
    exact hx _ rfl
  · refine v_aload_n C 0 dJ7_fill_53178_10 rfl rfl ?_
    refine v_iload_n C 2 dJ7_fill_53178_11 rfl rfl ?_
    refine v_iload_n C 1 dJ7_fill_53178_12 rfl rfl ?_
    refine v_iast C (wAI cI cJ aA (upd f_A x2.toNatClampNeg x1)) 0 rfl dJ7_fill_53178_13 h rfl (fun h => ?_)
    refine v_iinc C [(2, .int (x2 + 1)), (0, .ref (aA 0)), (1, .int x1), (3, .int x3)] 2 dJ7_fill_53178_14 rfl rfl (by decide) rfl ?_
    refine v_goto (tgt := 5) C dJ7_fill_53178_17 (by decide) ?_
    refine v_perm [1, 2, 0, 3] rfl ?_
    cases h
    exact hl _ rfl
set_option maxHeartbeats 4000000 in
set_option maxRecDepth 100000 in
theorem t_J7_fill_53178_L5 {p : Program} {l : Launch} {e : Env} {s : State} {m : MethodId} {args : Array Value} {below : List Frame} {meth : Method} {c : Code} {D : va_G} {A : Nat → Prop} {cI cJ : ClassId} {Q : State → Prop} (C : Cx p s m args c cJ7_fill_53178 4 RJ7 D A cI cJ) {aA : Nat → Nat} {x1 : Int32} {x3 : Int32} {n8 : Nat} {s9 : (Int32 × (Nat → Int32))} {o8 : (Nat → Int32)} (h : lp (f_J7_fill_53178_B5 x1 x3) n8 s9 = some o8) (hk : V p l e (rmO 0 0) s m args below meth c 4 D A 0 0 Q 20 [] [] (wAI cI cJ aA o8)) : V p l e (rmO 0 0) s m args below meth c 4 D A 0 0 Q 5 [(0, .ref (aA 0)), (1, .int x1), (2, .int s9.1), (3, .int x3)] [] (wAI cI cJ aA s9.2) := lp_ok (Pσ := fun s8 => V p l e (rmO 0 0) s m args below meth c 4 D A 0 0 Q 5 [(0, .ref (aA 0)), (1, .int x1), (2, .int s8.1), (3, .int x3)] [] (wAI cI cJ aA s8.2)) (Pρ := fun r8 => V p l e (rmO 0 0) s m args below meth c 4 D A 0 0 Q 20 [] [] (wAI cI cJ aA r8)) (fun s o h hl hx => t_J7_fill_53178_B5 C s o h hl hx) n8 s9 o8 h hk
set_option maxHeartbeats 4000000 in
set_option maxRecDepth 100000 in
theorem c_J7_fill_53178 (l : Launch) (D : va_G) (cI cJ : ClassId) (aA : Nat → Nat) (f_A : (Nat → Int32)) (x1 : Int32) (f_A' : (Nat → Int32)) (h : f_J7_fill_53178 f_A x1 = some f_A') : Ctv l D cI cJ yJ7_fill_53178 cJ7_fill_53178 4 none 0 0 [.ref (aA 0), .int x1] (wAI cI cJ aA f_A) (wAI cI cJ aA f_A') := by
  refine mk_v [(0, .ref (aA 0)), (1, .int x1)] (by decide) rfl (Nat.le_of_ble_eq_true rfl) rfl (fun p e s m args below meth c A Q C hk => ?_)
  unfold f_J7_fill_53178 at h
  refine v_iconst (v := 0) C dJ7_fill_53178_0 (by decide) ?_
  refine v_istore_n C [(2, .int 0), (0, .ref (aA 0)), (1, .int x1)] dJ7_fill_53178_1 rfl (by decide) rfl ?_
  refine v_aload_n C 1 dJ7_fill_53178_2 rfl rfl ?_
  refine v_alenI (v := 38) C 0 rfl rfl dJ7_fill_53178_3 ?_
  refine v_istore_n C [(3, .int 38), (2, .int 0), (0, .ref (aA 0)), (1, .int x1)] dJ7_fill_53178_4 rfl (by decide) rfl ?_
  obtain ⟨r, h1, h⟩ := bind_el h
  refine v_perm [2, 3, 1, 0] rfl ?_
  obtain ⟨f_A_1, rfl⟩ : ∃ z, z = r := ⟨_, rfl⟩
  refine t_J7_fill_53178_L5 C (s9 := (0, f_A)) h1 ?_
  show V p l e (rmO 0 0) s m args below meth c 4 D A 0 0 Q 20 [] [] (wAI cI cJ aA f_A_1)
  try dsimp only at h
  cases h
  exact hk _ _ dJ7_fill_53178_20
def f_X1_isIn (x0 : Int64) (x2 : Int32) : Option Int32 := if (lg_cmp ((x0 >>> (x2.toInt64 &&& 63)) &&& 1) 0) = 0 then (some 0) else (some 1)
theorem cw_X1_isIn : CWs yX1_isIn cX1_isIn 3 (some .boolean) 2 := ⟨m1_217, m1_4, m1_218, by decide, by decide, by decide +kernel⟩
set_option maxHeartbeats 4000000 in
set_option maxRecDepth 100000 in
theorem c_X1_isIn (l : Launch) (D : va_G) (cI cJ : ClassId) (x0 : Int64) (x2 : Int32) (r : Int32) (h : f_X1_isIn x0 x2 = some r) : Cti l D cI cJ yX1_isIn cX1_isIn 3 (some .boolean) 0 0 [.long x0, .int x2] [] [] r := by
  refine mk_z [(0, .long x0), (2, .int x2)] (by decide) rfl (Nat.le_of_ble_eq_true rfl) rfl (fun p e s m args below meth c A Q C hk => ?_)
  unfold f_X1_isIn at h
  refine v_lload_n C 0 dX1_isIn_0 rfl rfl ?_
  refine v_iload_n C 1 dX1_isIn_1 rfl rfl ?_
  refine v_lshr C dX1_isIn_2 ?_
  refine v_lconst (v := 1) C dX1_isIn_3 (by decide) ?_
  refine v_land C dX1_isIn_4 ?_
  refine v_lconst (v := 0) C dX1_isIn_5 (by decide) ?_
  refine v_lcmp C dX1_isIn_6 ?_
  refine v_if_eq (tgt := 14) C dX1_isIn_7 (by decide) h (fun h => ?_) (fun h => ?_)
  · refine v_iconst (v := 0) C dX1_isIn_14 (by decide) ?_
    cases h
    exact hk _ _ dX1_isIn_15 (Or.inl rfl)
  · refine v_iconst (v := 1) C dX1_isIn_10 (by decide) ?_
    refine v_goto (tgt := 15) C dX1_isIn_11 (by decide) ?_
    cases h
    exact hk _ _ dX1_isIn_15 (Or.inr rfl)
abbrev wL (cI cJ : ClassId) (aL : Nat → Nat) (netOf_L : (Nat → Int32)) (left_L : (Nat → Int32)) (right_L : (Nat → Int32)) (trackOf_L : (Nat → Int32)) (touched_L : (Nat → Int32)) (below_L : (Nat → Int64)) (byLeft_L : (Nat → Int32)) (size_L : Int32) (tracks_L : Int32) : va_W := [(aL 0, .inr (1, [.ref (aL 1), .ref (aL 2), .ref (aL 3), .ref (aL 4), .ref (aL 5), .ref (aL 6), .ref (aL 7), .int size_L, .int tracks_L])), (aL 1, .inl (cI, 38, .inl netOf_L)), (aL 2, .inl (cI, 38, .inl left_L)), (aL 3, .inl (cI, 38, .inl right_L)), (aL 4, .inl (cI, 38, .inl trackOf_L)), (aL 5, .inl (cI, 38, .inl touched_L)), (aL 6, .inl (cJ, 38, .inr (.inl below_L))), (aL 7, .inl (cI, 38, .inl byLeft_L))]
def f_X1_clear : Option (Int32 × Int32) := some (0, 0)
theorem cw_X1_clear : CWv yX1_clear cX1_clear 1 none RX1 0 := ⟨m1_179, ms1_9, m1_4, m1_180, rfl, by decide, by decide, by decide +kernel⟩
set_option maxHeartbeats 4000000 in
set_option maxRecDepth 100000 in
theorem c_X1_clear (l : Launch) (D : va_G) (cI cJ : ClassId) (aL : Nat → Nat) (netOf_L : (Nat → Int32)) (left_L : (Nat → Int32)) (right_L : (Nat → Int32)) (trackOf_L : (Nat → Int32)) (touched_L : (Nat → Int32)) (below_L : (Nat → Int64)) (byLeft_L : (Nat → Int32)) (size_L : Int32) (tracks_L : Int32) (size_L' : Int32) (tracks_L' : Int32) (h : f_X1_clear = some (size_L', tracks_L')) : Ctv l D cI cJ yX1_clear cX1_clear 1 none 0 0 [.ref (aL 0)] (wL cI cJ aL netOf_L left_L right_L trackOf_L touched_L below_L byLeft_L size_L tracks_L) (wL cI cJ aL netOf_L left_L right_L trackOf_L touched_L below_L byLeft_L size_L' tracks_L') := by
  refine mk_v [(0, .ref (aL 0))] (by decide) rfl (Nat.le_of_ble_eq_true rfl) rfl (fun p e s m args below meth c A Q C hk => ?_)
  unfold f_X1_clear at h
  refine v_aload_n C 0 dX1_clear_0 rfl rfl ?_
  refine v_iconst (v := 0) C dX1_clear_1 (by decide) ?_
  refine v_put C (wL cI cJ aL netOf_L left_L right_L trackOf_L touched_L below_L byLeft_L 0 tracks_L) 0 7 iuX1 tyX1_ok nmX1 rfl rfl (by decide) m1_80 rfl rfl rfl rfl rfl (Nat.le_of_ble_eq_true rfl) dX1_clear_2 rfl ?_
  refine v_aload_n C 0 dX1_clear_5 rfl rfl ?_
  refine v_iconst (v := 0) C dX1_clear_6 (by decide) ?_
  refine v_put C (wL cI cJ aL netOf_L left_L right_L trackOf_L touched_L below_L byLeft_L 0 0) 0 8 iuX1 tyX1_ok nmX1 rfl rfl (by decide) m1_83 rfl rfl rfl rfl rfl (Nat.le_of_ble_eq_true rfl) dX1_clear_7 rfl ?_
  cases h
  exact hk _ _ dX1_clear_10
def f_X1_add (netOf_L : (Nat → Int32)) (left_L : (Nat → Int32)) (right_L : (Nat → Int32)) (touched_L : (Nat → Int32)) (size_L : Int32) (x1 : Int32) (x2 : Int32) (x3 : Int32) (x4 : Int32) : Option ((Nat → Int32) × (Nat → Int32) × (Nat → Int32) × (Nat → Int32) × Int32) := if 38 ≤ size_L then (some (netOf_L, left_L, right_L, touched_L, size_L)) else (bnd size_L 38 (bnd size_L 38 (bnd size_L 38 (bnd size_L 38 (some (upd netOf_L size_L.toNatClampNeg x1, upd left_L size_L.toNatClampNeg x2, upd right_L size_L.toNatClampNeg x3, upd touched_L size_L.toNatClampNeg x4, size_L + 1))))))
theorem cw_X1_add : CWv yX1_add cX1_add 5 none RX1 4 := ⟨m1_189, ms1_11, m1_4, m1_190, rfl, by decide, by decide, by decide +kernel⟩
set_option maxHeartbeats 4000000 in
set_option maxRecDepth 100000 in
theorem c_X1_add (l : Launch) (D : va_G) (cI cJ : ClassId) (aL : Nat → Nat) (netOf_L : (Nat → Int32)) (left_L : (Nat → Int32)) (right_L : (Nat → Int32)) (trackOf_L : (Nat → Int32)) (touched_L : (Nat → Int32)) (below_L : (Nat → Int64)) (byLeft_L : (Nat → Int32)) (size_L : Int32) (tracks_L : Int32) (x1 : Int32) (x2 : Int32) (x3 : Int32) (x4 : Int32) (netOf_L' : (Nat → Int32)) (left_L' : (Nat → Int32)) (right_L' : (Nat → Int32)) (touched_L' : (Nat → Int32)) (size_L' : Int32) (h : f_X1_add netOf_L left_L right_L touched_L size_L x1 x2 x3 x4 = some (netOf_L', left_L', right_L', touched_L', size_L')) : Ctv l D cI cJ yX1_add cX1_add 5 none 0 0 [.ref (aL 0), .int x1, .int x2, .int x3, .int x4] (wL cI cJ aL netOf_L left_L right_L trackOf_L touched_L below_L byLeft_L size_L tracks_L) (wL cI cJ aL netOf_L' left_L' right_L' trackOf_L touched_L' below_L byLeft_L size_L' tracks_L) := by
  refine mk_v [(0, .ref (aL 0)), (1, .int x1), (2, .int x2), (3, .int x3), (4, .int x4)] (by decide) rfl (Nat.le_of_ble_eq_true rfl) rfl (fun p e s m args below meth c A Q C hk => ?_)
  unfold f_X1_add at h
  refine v_aload_n C 0 dX1_add_0 rfl rfl ?_
  refine v_get C 0 7 iuX1 rfl rfl (by decide) m1_80 rfl rfl dX1_add_1 ?_
  refine v_bipush (v := 38) C dX1_add_4 (by decide) ?_
  refine v_icmp_ge (tgt := 60) C dX1_add_6 (by decide) h (fun h => ?_) (fun h => ?_)
  · cases h
    exact hk _ _ dX1_add_60
  · refine v_aload_n C 0 dX1_add_9 rfl rfl ?_
    refine v_get C 0 0 iuX1 rfl rfl (by decide) m1_68 rfl rfl dX1_add_10 ?_
    refine v_aload_n C 0 dX1_add_13 rfl rfl ?_
    refine v_get C 0 7 iuX1 rfl rfl (by decide) m1_80 rfl rfl dX1_add_14 ?_
    refine v_iload_n C 1 dX1_add_17 rfl rfl ?_
    refine v_iast C (wL cI cJ aL (upd netOf_L size_L.toNatClampNeg x1) left_L right_L trackOf_L touched_L below_L byLeft_L size_L tracks_L) 1 rfl dX1_add_18 h rfl (fun h => ?_)
    refine v_aload_n C 0 dX1_add_19 rfl rfl ?_
    refine v_get C 0 1 iuX1 rfl rfl (by decide) m1_70 rfl rfl dX1_add_20 ?_
    refine v_aload_n C 0 dX1_add_23 rfl rfl ?_
    refine v_get C 0 7 iuX1 rfl rfl (by decide) m1_80 rfl rfl dX1_add_24 ?_
    refine v_iload_n C 2 dX1_add_27 rfl rfl ?_
    refine v_iast C (wL cI cJ aL (upd netOf_L size_L.toNatClampNeg x1) (upd left_L size_L.toNatClampNeg x2) right_L trackOf_L touched_L below_L byLeft_L size_L tracks_L) 2 rfl dX1_add_28 h rfl (fun h => ?_)
    refine v_aload_n C 0 dX1_add_29 rfl rfl ?_
    refine v_get C 0 2 iuX1 rfl rfl (by decide) m1_72 rfl rfl dX1_add_30 ?_
    refine v_aload_n C 0 dX1_add_33 rfl rfl ?_
    refine v_get C 0 7 iuX1 rfl rfl (by decide) m1_80 rfl rfl dX1_add_34 ?_
    refine v_iload_n C 3 dX1_add_37 rfl rfl ?_
    refine v_iast C (wL cI cJ aL (upd netOf_L size_L.toNatClampNeg x1) (upd left_L size_L.toNatClampNeg x2) (upd right_L size_L.toNatClampNeg x3) trackOf_L touched_L below_L byLeft_L size_L tracks_L) 3 rfl dX1_add_38 h rfl (fun h => ?_)
    refine v_aload_n C 0 dX1_add_39 rfl rfl ?_
    refine v_get C 0 4 iuX1 rfl rfl (by decide) m1_76 rfl rfl dX1_add_40 ?_
    refine v_aload_n C 0 dX1_add_43 rfl rfl ?_
    refine v_get C 0 7 iuX1 rfl rfl (by decide) m1_80 rfl rfl dX1_add_44 ?_
    refine v_iload C 4 dX1_add_47 rfl ?_
    refine v_iast C (wL cI cJ aL (upd netOf_L size_L.toNatClampNeg x1) (upd left_L size_L.toNatClampNeg x2) (upd right_L size_L.toNatClampNeg x3) trackOf_L (upd touched_L size_L.toNatClampNeg x4) below_L byLeft_L size_L tracks_L) 5 rfl dX1_add_49 h rfl (fun h => ?_)
    refine v_aload_n C 0 dX1_add_50 rfl rfl ?_
    refine v_dup C dX1_add_51 rfl ?_
    refine v_get C 0 7 iuX1 rfl rfl (by decide) m1_80 rfl rfl dX1_add_52 ?_
    refine v_iconst (v := 1) C dX1_add_55 (by decide) ?_
    refine v_iadd C dX1_add_56 ?_
    refine v_put C (wL cI cJ aL (upd netOf_L size_L.toNatClampNeg x1) (upd left_L size_L.toNatClampNeg x2) (upd right_L size_L.toNatClampNeg x3) trackOf_L (upd touched_L size_L.toNatClampNeg x4) below_L byLeft_L (size_L + 1) tracks_L) 0 7 iuX1 tyX1_ok nmX1 rfl rfl (by decide) m1_80 rfl rfl rfl rfl rfl (Nat.le_of_ble_eq_true rfl) dX1_add_57 rfl ?_
    cases h
    exact hk _ _ dX1_add_60
abbrev wLP (cI cJ : ClassId) (aL : Nat → Nat) (aP : Nat → Nat) (netOf_L : (Nat → Int32)) (left_L : (Nat → Int32)) (right_L : (Nat → Int32)) (trackOf_L : (Nat → Int32)) (touched_L : (Nat → Int32)) (below_L : (Nat → Int64)) (byLeft_L : (Nat → Int32)) (size_L : Int32) (tracks_L : Int32) (top_P : (Nat → Int32)) (bottom_P : (Nat → Int32)) : va_W := [(aL 0, .inr (1, [.ref (aL 1), .ref (aL 2), .ref (aL 3), .ref (aL 4), .ref (aL 5), .ref (aL 6), .ref (aL 7), .int size_L, .int tracks_L])), (aL 1, .inl (cI, 38, .inl netOf_L)), (aL 2, .inl (cI, 38, .inl left_L)), (aL 3, .inl (cI, 38, .inl right_L)), (aL 4, .inl (cI, 38, .inl trackOf_L)), (aL 5, .inl (cI, 38, .inl touched_L)), (aL 6, .inl (cJ, 38, .inr (.inl below_L))), (aL 7, .inl (cI, 38, .inl byLeft_L)), (aP 0, .inr (0, [.ref (aP 1), .ref (aP 2)])), (aP 1, .inl (cI, 20, .inl top_P)), (aP 2, .inl (cI, 20, .inl bottom_P))]
def f_X1_addWhole_B5 (x2 : Int32) (top_P : (Nat → Int32)) (bottom_P : (Nat → Int32)) : (Int32 × Int32) → Option ((Int32 × Int32) ⊕ Int32)
  | (x3, x4) => if 20 ≤ x4 then (some (.inr x3)) else ((f_X0_has top_P bottom_P x2 x4).bind (fun r => match r with | r_1 => if r_1 = 0 then (some (.inl (x3, x4 + 1))) else (some (.inl ((x3 ||| ((1 : Int32) <<< (x4 &&& 31)), x4 + 1))))))
def f_X1_addWhole (netOf_L : (Nat → Int32)) (left_L : (Nat → Int32)) (right_L : (Nat → Int32)) (touched_L : (Nat → Int32)) (size_L : Int32) (top_P : (Nat → Int32)) (bottom_P : (Nat → Int32)) (x2 : Int32) : Option ((Nat → Int32) × (Nat → Int32) × (Nat → Int32) × (Nat → Int32) × Int32) := (lp (f_X1_addWhole_B5 x2 top_P bottom_P) 64 (0, 0)).bind (fun r => match r with | x3_2 => (f_X0_firstColumn top_P bottom_P x2).bind (fun r => match r with | r_3 => (f_X0_lastColumn top_P bottom_P x2).bind (fun r => match r with | r_4 => (f_X1_add netOf_L left_L right_L touched_L size_L x2 r_3 r_4 x3_2).bind (fun r => match r with | (netOf_L_5, left_L_6, right_L_7, touched_L_8, size_L_9) => some (netOf_L_5, left_L_6, right_L_7, touched_L_8, size_L_9)))))
theorem cw_X1_addWhole : CWv yX1_addWhole cX1_addWhole 5 none RX1 2 := ⟨m1_193, ms1_12, m1_4, m1_194, rfl, by decide, by decide, by decide +kernel⟩
set_option maxHeartbeats 4000000 in
set_option maxRecDepth 100000 in
theorem t_X1_addWhole_B5 {p : Program} {l : Launch} {e : Env} {s : State} {m : MethodId} {args : Array Value} {below : List Frame} {meth : Method} {c : Code} {D : va_G} {A : Nat → Prop} {cI cJ : ClassId} {Q : State → Prop} (C : Cx p s m args c cX1_addWhole 5 RX1 D A cI cJ) {aL : Nat → Nat} {aP : Nat → Nat} {x2 : Int32} {netOf_L : (Nat → Int32)} {left_L : (Nat → Int32)} {right_L : (Nat → Int32)} {trackOf_L : (Nat → Int32)} {touched_L : (Nat → Int32)} {below_L : (Nat → Int64)} {byLeft_L : (Nat → Int32)} {size_L : Int32} {tracks_L : Int32} {top_P : (Nat → Int32)} {bottom_P : (Nat → Int32)} (s8 : (Int32 × Int32)) (o8 : (Int32 × Int32) ⊕ Int32) (h : f_X1_addWhole_B5 x2 top_P bottom_P s8 = some o8) (hl : ∀ s8, o8 = .inl s8 → V p l e (rmO 2 44) s m args below meth c 5 D A 0 0 Q 5 [(0, .ref (aL 0)), (1, .ref (aP 0)), (2, .int x2), (3, .int s8.1), (4, .int s8.2)] [] (wLP cI cJ aL aP netOf_L left_L right_L trackOf_L touched_L below_L byLeft_L size_L tracks_L top_P bottom_P)) (hx : ∀ r8, o8 = .inr r8 → V p l e (rmO 2 44) s m args below meth c 5 D A 0 0 Q 35 [(0, .ref (aL 0)), (1, .ref (aP 0)), (2, .int x2), (3, .int r8)] [] (wLP cI cJ aL aP netOf_L left_L right_L trackOf_L touched_L below_L byLeft_L size_L tracks_L top_P bottom_P)) : V p l e (rmO 2 44) s m args below meth c 5 D A 0 0 Q 5 [(0, .ref (aL 0)), (1, .ref (aP 0)), (2, .int x2), (3, .int s8.1), (4, .int s8.2)] [] (wLP cI cJ aL aP netOf_L left_L right_L trackOf_L touched_L below_L byLeft_L size_L tracks_L top_P bottom_P) := by
  obtain ⟨x3, x4⟩ := s8
  unfold f_X1_addWhole_B5 at h
  show V p l e (rmO 2 44) s m args below meth c 5 D A 0 0 Q 5 [(0, .ref (aL 0)), (1, .ref (aP 0)), (2, .int x2), (3, .int x3), (4, .int x4)] [] (wLP cI cJ aL aP netOf_L left_L right_L trackOf_L touched_L below_L byLeft_L size_L tracks_L top_P bottom_P)
  refine v_iload C 4 dX1_addWhole_5 rfl ?_
  refine v_bipush (v := 20) C dX1_addWhole_7 (by decide) ?_
  refine v_icmp_ge (tgt := 35) C dX1_addWhole_9 (by decide) h (fun h => ?_) (fun h => ?_)
  · refine v_perm [0, 1, 2, 3] rfl ?_
    cases h
    exact hx _ rfl
  · refine v_aload_n C 1 dX1_addWhole_12 rfl rfl ?_
    refine v_iload_n C 2 dX1_addWhole_13 rfl rfl ?_
    refine v_iload C 4 dX1_addWhole_14 rfl ?_
    obtain ⟨r, h1, h⟩ := bind_el h
    obtain ⟨r_1, rfl⟩ : ∃ z, z = r := ⟨_, rfl⟩
    try dsimp only at h
    refine v_callNi (As := [.int x2, .int x4]) (st := []) (wr := [(aL 0, .inr (1, [.ref (aL 1), .ref (aL 2), .ref (aL 3), .ref (aL 4), .ref (aL 5), .ref (aL 6), .ref (aL 7), .int size_L, .int tracks_L])), (aL 1, .inl (cI, 38, .inl netOf_L)), (aL 2, .inl (cI, 38, .inl left_L)), (aL 3, .inl (cI, 38, .inl right_L)), (aL 4, .inl (cI, 38, .inl trackOf_L)), (aL 5, .inl (cI, 38, .inl touched_L)), (aL 6, .inl (cJ, 38, .inr (.inl below_L))), (aL 7, .inl (cI, 38, .inl byLeft_L))]) (w1 := (wP cI cJ aP top_P bottom_P)) (ws' := (wLP cI cJ aL aP netOf_L left_L right_L trackOf_L touched_L below_L byLeft_L size_L tracks_L top_P bottom_P)) (isC := [8, 9, 10]) (isR := [0, 1, 2, 3, 4, 5, 6, 7]) (pm := [0, 1, 2, 3, 4, 5, 6, 7, 8, 9, 10]) C (c_X0_has l D cI cJ aP top_P bottom_P x2 x4 r_1 h1) cw_X0_has 0 rfl rfl nw_19 dX1_addWhole_16 rfl ⟨Nat.le_of_ble_eq_true rfl, Nat.le_of_ble_eq_true rfl⟩ (Nat.le_of_ble_eq_true rfl) ⟨Nat.le_refl 0, Nat.le_refl 0⟩ ⟨rfl, rfl, rfl, rfl, by decide, rfl, rfl⟩ ?_
    refine v_if_eq (tgt := 29) C dX1_addWhole_19 (by decide) h (fun h => ?_) (fun h => ?_)
    · refine v_iinc C [(4, .int (x4 + 1)), (0, .ref (aL 0)), (1, .ref (aP 0)), (2, .int x2), (3, .int x3)] 4 dX1_addWhole_29 rfl rfl (by decide) rfl ?_
      refine v_goto (tgt := 5) C dX1_addWhole_32 (by decide) ?_
      refine v_perm [1, 2, 3, 4, 0] rfl ?_
      cases h
      exact hl _ rfl
    · refine v_iload_n C 3 dX1_addWhole_22 rfl rfl ?_
      refine v_iconst (v := 1) C dX1_addWhole_23 (by decide) ?_
      refine v_iload C 4 dX1_addWhole_24 rfl ?_
      refine v_ishl C dX1_addWhole_26 ?_
      refine v_ior C dX1_addWhole_27 ?_
      refine v_istore_n C [(3, .int (x3 ||| ((1 : Int32) <<< (x4 &&& 31)))), (0, .ref (aL 0)), (1, .ref (aP 0)), (2, .int x2), (4, .int x4)] dX1_addWhole_28 rfl (by decide) rfl ?_
      refine v_iinc C [(4, .int (x4 + 1)), (3, .int (x3 ||| ((1 : Int32) <<< (x4 &&& 31)))), (0, .ref (aL 0)), (1, .ref (aP 0)), (2, .int x2)] 4 dX1_addWhole_29 rfl rfl (by decide) rfl ?_
      refine v_goto (tgt := 5) C dX1_addWhole_32 (by decide) ?_
      refine v_perm [2, 3, 4, 1, 0] rfl ?_
      cases h
      exact hl _ rfl
set_option maxHeartbeats 4000000 in
set_option maxRecDepth 100000 in
theorem t_X1_addWhole_L5 {p : Program} {l : Launch} {e : Env} {s : State} {m : MethodId} {args : Array Value} {below : List Frame} {meth : Method} {c : Code} {D : va_G} {A : Nat → Prop} {cI cJ : ClassId} {Q : State → Prop} (C : Cx p s m args c cX1_addWhole 5 RX1 D A cI cJ) {aL : Nat → Nat} {aP : Nat → Nat} {x2 : Int32} {netOf_L : (Nat → Int32)} {left_L : (Nat → Int32)} {right_L : (Nat → Int32)} {trackOf_L : (Nat → Int32)} {touched_L : (Nat → Int32)} {below_L : (Nat → Int64)} {byLeft_L : (Nat → Int32)} {size_L : Int32} {tracks_L : Int32} {top_P : (Nat → Int32)} {bottom_P : (Nat → Int32)} {n8 : Nat} {s9 : (Int32 × Int32)} {o8 : Int32} (h : lp (f_X1_addWhole_B5 x2 top_P bottom_P) n8 s9 = some o8) (hk : V p l e (rmO 2 44) s m args below meth c 5 D A 0 0 Q 35 [(0, .ref (aL 0)), (1, .ref (aP 0)), (2, .int x2), (3, .int o8)] [] (wLP cI cJ aL aP netOf_L left_L right_L trackOf_L touched_L below_L byLeft_L size_L tracks_L top_P bottom_P)) : V p l e (rmO 2 44) s m args below meth c 5 D A 0 0 Q 5 [(0, .ref (aL 0)), (1, .ref (aP 0)), (2, .int x2), (3, .int s9.1), (4, .int s9.2)] [] (wLP cI cJ aL aP netOf_L left_L right_L trackOf_L touched_L below_L byLeft_L size_L tracks_L top_P bottom_P) := lp_ok (Pσ := fun s8 => V p l e (rmO 2 44) s m args below meth c 5 D A 0 0 Q 5 [(0, .ref (aL 0)), (1, .ref (aP 0)), (2, .int x2), (3, .int s8.1), (4, .int s8.2)] [] (wLP cI cJ aL aP netOf_L left_L right_L trackOf_L touched_L below_L byLeft_L size_L tracks_L top_P bottom_P)) (Pρ := fun r8 => V p l e (rmO 2 44) s m args below meth c 5 D A 0 0 Q 35 [(0, .ref (aL 0)), (1, .ref (aP 0)), (2, .int x2), (3, .int r8)] [] (wLP cI cJ aL aP netOf_L left_L right_L trackOf_L touched_L below_L byLeft_L size_L tracks_L top_P bottom_P)) (fun s o h hl hx => t_X1_addWhole_B5 C s o h hl hx) n8 s9 o8 h hk
set_option maxHeartbeats 4000000 in
set_option maxRecDepth 100000 in
theorem c_X1_addWhole (l : Launch) (D : va_G) (cI cJ : ClassId) (aL : Nat → Nat) (aP : Nat → Nat) (netOf_L : (Nat → Int32)) (left_L : (Nat → Int32)) (right_L : (Nat → Int32)) (trackOf_L : (Nat → Int32)) (touched_L : (Nat → Int32)) (below_L : (Nat → Int64)) (byLeft_L : (Nat → Int32)) (size_L : Int32) (tracks_L : Int32) (top_P : (Nat → Int32)) (bottom_P : (Nat → Int32)) (x2 : Int32) (netOf_L' : (Nat → Int32)) (left_L' : (Nat → Int32)) (right_L' : (Nat → Int32)) (touched_L' : (Nat → Int32)) (size_L' : Int32) (h : f_X1_addWhole netOf_L left_L right_L touched_L size_L top_P bottom_P x2 = some (netOf_L', left_L', right_L', touched_L', size_L')) : Ctv l D cI cJ yX1_addWhole cX1_addWhole 5 none 2 44 [.ref (aL 0), .ref (aP 0), .int x2] (wLP cI cJ aL aP netOf_L left_L right_L trackOf_L touched_L below_L byLeft_L size_L tracks_L top_P bottom_P) (wLP cI cJ aL aP netOf_L' left_L' right_L' trackOf_L touched_L' below_L byLeft_L size_L' tracks_L top_P bottom_P) := by
  refine mk_v [(0, .ref (aL 0)), (1, .ref (aP 0)), (2, .int x2)] (by decide) rfl (Nat.le_of_ble_eq_true rfl) rfl (fun p e s m args below meth c A Q C hk => ?_)
  unfold f_X1_addWhole at h
  refine v_iconst (v := 0) C dX1_addWhole_0 (by decide) ?_
  refine v_istore_n C [(3, .int 0), (0, .ref (aL 0)), (1, .ref (aP 0)), (2, .int x2)] dX1_addWhole_1 rfl (by decide) rfl ?_
  refine v_iconst (v := 0) C dX1_addWhole_2 (by decide) ?_
  refine v_istore C [(4, .int 0), (3, .int 0), (0, .ref (aL 0)), (1, .ref (aP 0)), (2, .int x2)] dX1_addWhole_3 (by decide) rfl ?_
  obtain ⟨r, h1, h⟩ := bind_el h
  refine v_perm [2, 3, 4, 1, 0] rfl ?_
  obtain ⟨x3_2, rfl⟩ : ∃ z, z = r := ⟨_, rfl⟩
  refine t_X1_addWhole_L5 C (s9 := (0, 0)) h1 ?_
  show V p l e (rmO 2 44) s m args below meth c 5 D A 0 0 Q 35 [(0, .ref (aL 0)), (1, .ref (aP 0)), (2, .int x2), (3, .int x3_2)] [] (wLP cI cJ aL aP netOf_L left_L right_L trackOf_L touched_L below_L byLeft_L size_L tracks_L top_P bottom_P)
  try dsimp only at h
  refine v_aload_n C 0 dX1_addWhole_35 rfl rfl ?_
  refine v_iload_n C 2 dX1_addWhole_36 rfl rfl ?_
  refine v_aload_n C 1 dX1_addWhole_37 rfl rfl ?_
  refine v_iload_n C 2 dX1_addWhole_38 rfl rfl ?_
  obtain ⟨r, h1, h⟩ := bind_el h
  obtain ⟨r_3, rfl⟩ : ∃ z, z = r := ⟨_, rfl⟩
  try dsimp only at h
  refine v_callNi (As := [.int x2]) (st := [.int x2, .ref (aL 0)]) (wr := [(aL 0, .inr (1, [.ref (aL 1), .ref (aL 2), .ref (aL 3), .ref (aL 4), .ref (aL 5), .ref (aL 6), .ref (aL 7), .int size_L, .int tracks_L])), (aL 1, .inl (cI, 38, .inl netOf_L)), (aL 2, .inl (cI, 38, .inl left_L)), (aL 3, .inl (cI, 38, .inl right_L)), (aL 4, .inl (cI, 38, .inl trackOf_L)), (aL 5, .inl (cI, 38, .inl touched_L)), (aL 6, .inl (cJ, 38, .inr (.inl below_L))), (aL 7, .inl (cI, 38, .inl byLeft_L))]) (w1 := (wP cI cJ aP top_P bottom_P)) (ws' := (wLP cI cJ aL aP netOf_L left_L right_L trackOf_L touched_L below_L byLeft_L size_L tracks_L top_P bottom_P)) (isC := [8, 9, 10]) (isR := [0, 1, 2, 3, 4, 5, 6, 7]) (pm := [0, 1, 2, 3, 4, 5, 6, 7, 8, 9, 10]) C (c_X0_firstColumn l D cI cJ aP top_P bottom_P x2 r_3 h1) cw_X0_firstColumn 0 rfl rfl nw_20 dX1_addWhole_39 rfl ⟨Nat.le_of_ble_eq_true rfl, Nat.le_of_ble_eq_true rfl⟩ (Nat.le_of_ble_eq_true rfl) ⟨Nat.le_refl 0, Nat.le_refl 0⟩ ⟨rfl, rfl, rfl, rfl, by decide, rfl, rfl⟩ ?_
  refine v_aload_n C 1 dX1_addWhole_42 rfl rfl ?_
  refine v_iload_n C 2 dX1_addWhole_43 rfl rfl ?_
  obtain ⟨r, h1, h⟩ := bind_el h
  obtain ⟨r_4, rfl⟩ : ∃ z, z = r := ⟨_, rfl⟩
  try dsimp only at h
  refine v_callNi (As := [.int x2]) (st := [.int r_3, .int x2, .ref (aL 0)]) (wr := [(aL 0, .inr (1, [.ref (aL 1), .ref (aL 2), .ref (aL 3), .ref (aL 4), .ref (aL 5), .ref (aL 6), .ref (aL 7), .int size_L, .int tracks_L])), (aL 1, .inl (cI, 38, .inl netOf_L)), (aL 2, .inl (cI, 38, .inl left_L)), (aL 3, .inl (cI, 38, .inl right_L)), (aL 4, .inl (cI, 38, .inl trackOf_L)), (aL 5, .inl (cI, 38, .inl touched_L)), (aL 6, .inl (cJ, 38, .inr (.inl below_L))), (aL 7, .inl (cI, 38, .inl byLeft_L))]) (w1 := (wP cI cJ aP top_P bottom_P)) (ws' := (wLP cI cJ aL aP netOf_L left_L right_L trackOf_L touched_L below_L byLeft_L size_L tracks_L top_P bottom_P)) (isC := [8, 9, 10]) (isR := [0, 1, 2, 3, 4, 5, 6, 7]) (pm := [0, 1, 2, 3, 4, 5, 6, 7, 8, 9, 10]) C (c_X0_lastColumn l D cI cJ aP top_P bottom_P x2 r_4 h1) cw_X0_lastColumn 0 rfl rfl nw_21 dX1_addWhole_44 rfl ⟨Nat.le_of_ble_eq_true rfl, Nat.le_of_ble_eq_true rfl⟩ (Nat.le_of_ble_eq_true rfl) ⟨Nat.le_refl 0, Nat.le_refl 0⟩ ⟨rfl, rfl, rfl, rfl, by decide, rfl, rfl⟩ ?_
  refine v_iload_n C 3 dX1_addWhole_47 rfl rfl ?_
  obtain ⟨r, h1, h⟩ := bind_el h
  obtain ⟨netOf_L_5, left_L_6, right_L_7, touched_L_8, size_L_9⟩ := r
  try dsimp only at h
  refine v_callVv (As := [.int x2, .int r_3, .int r_4, .int x3_2]) (st := []) (wr := [(aP 0, .inr (0, [.ref (aP 1), .ref (aP 2)])), (aP 1, .inl (cI, 20, .inl top_P)), (aP 2, .inl (cI, 20, .inl bottom_P))]) (w1 := (wL cI cJ aL netOf_L_5 left_L_6 right_L_7 trackOf_L touched_L_8 below_L byLeft_L size_L_9 tracks_L)) (ws' := (wLP cI cJ aL aP netOf_L_5 left_L_6 right_L_7 trackOf_L touched_L_8 below_L byLeft_L size_L_9 tracks_L top_P bottom_P)) (isC := [0, 1, 2, 3, 4, 5, 6, 7]) (isR := [8, 9, 10]) (pm := [3, 4, 5, 6, 7, 8, 9, 10, 0, 1, 2]) C (c_X1_add l D cI cJ aL netOf_L left_L right_L trackOf_L touched_L below_L byLeft_L size_L tracks_L x2 r_3 r_4 x3_2 netOf_L_5 left_L_6 right_L_7 touched_L_8 size_L_9 h1) cw_X1_add 0 rfl rfl m1_187 dX1_addWhole_48 rfl ⟨Nat.le_of_ble_eq_true rfl, Nat.le_of_ble_eq_true rfl⟩ (Nat.le_of_ble_eq_true rfl) ⟨Nat.le_refl 0, Nat.le_refl 0⟩ ⟨rfl, rfl, rfl, rfl, by decide, rfl, rfl⟩ ?_
  cases h
  exact hk _ _ dX1_addWhole_51
def f_X1_addPieces_B5 (x2 : Int32) (top_P : (Nat → Int32)) (bottom_P : (Nat → Int32)) : (Int32 × Int32 × (Nat → Int32) × (Nat → Int32) × (Nat → Int32) × (Nat → Int32) × Int32) → Option ((Int32 × Int32 × (Nat → Int32) × (Nat → Int32) × (Nat → Int32) × (Nat → Int32) × Int32) ⊕ ((Nat → Int32) × (Nat → Int32) × (Nat → Int32) × (Nat → Int32) × Int32))
  | (x3, x4, netOf_L, left_L, right_L, touched_L, size_L) => if 20 ≤ x4 then (some (.inr (netOf_L, left_L, right_L, touched_L, size_L))) else ((f_X0_has top_P bottom_P x2 x4).bind (fun r => match r with | r_1 => if r_1 = 0 then (some (.inl (x3, x4 + 1, netOf_L, left_L, right_L, touched_L, size_L))) else (if x3 = (-1) then (some (.inl (x4, x4 + 1, netOf_L, left_L, right_L, touched_L, size_L))) else ((f_X1_add netOf_L left_L right_L touched_L size_L x2 x3 x4 (((1 : Int32) <<< (x3 &&& 31)) ||| ((1 : Int32) <<< (x4 &&& 31)))).bind (fun r => match r with | (netOf_L_2, left_L_3, right_L_4, touched_L_5, size_L_6) => some (.inl (x4, x4 + 1, netOf_L_2, left_L_3, right_L_4, touched_L_5, size_L_6)))))))
def f_X1_addPieces (netOf_L : (Nat → Int32)) (left_L : (Nat → Int32)) (right_L : (Nat → Int32)) (touched_L : (Nat → Int32)) (size_L : Int32) (top_P : (Nat → Int32)) (bottom_P : (Nat → Int32)) (x2 : Int32) : Option ((Nat → Int32) × (Nat → Int32) × (Nat → Int32) × (Nat → Int32) × Int32) := (lp (f_X1_addPieces_B5 x2 top_P bottom_P) 64 (((-1), 0, netOf_L, left_L, right_L, touched_L, size_L))).bind (fun r => match r with | (netOf_L_7, left_L_8, right_L_9, touched_L_10, size_L_11) => some (netOf_L_7, left_L_8, right_L_9, touched_L_10, size_L_11))
theorem cw_X1_addPieces : CWv yX1_addPieces cX1_addPieces 5 none RX1 2 := ⟨m1_184, ms1_10, m1_4, m1_185, rfl, by decide, by decide, by decide +kernel⟩
set_option maxHeartbeats 4000000 in
set_option maxRecDepth 100000 in
theorem t_X1_addPieces_B5 {p : Program} {l : Launch} {e : Env} {s : State} {m : MethodId} {args : Array Value} {below : List Frame} {meth : Method} {c : Code} {D : va_G} {A : Nat → Prop} {cI cJ : ClassId} {Q : State → Prop} (C : Cx p s m args c cX1_addPieces 5 RX1 D A cI cJ) {aL : Nat → Nat} {aP : Nat → Nat} {x2 : Int32} {trackOf_L : (Nat → Int32)} {below_L : (Nat → Int64)} {byLeft_L : (Nat → Int32)} {tracks_L : Int32} {top_P : (Nat → Int32)} {bottom_P : (Nat → Int32)} (s8 : (Int32 × Int32 × (Nat → Int32) × (Nat → Int32) × (Nat → Int32) × (Nat → Int32) × Int32)) (o8 : (Int32 × Int32 × (Nat → Int32) × (Nat → Int32) × (Nat → Int32) × (Nat → Int32) × Int32) ⊕ ((Nat → Int32) × (Nat → Int32) × (Nat → Int32) × (Nat → Int32) × Int32)) (h : f_X1_addPieces_B5 x2 top_P bottom_P s8 = some o8) (hl : ∀ s8, o8 = .inl s8 → V p l e (rmO 1 24) s m args below meth c 5 D A 0 0 Q 5 [(0, .ref (aL 0)), (1, .ref (aP 0)), (2, .int x2), (3, .int s8.1), (4, .int s8.2.1)] [] (wLP cI cJ aL aP s8.2.2.1 s8.2.2.2.1 s8.2.2.2.2.1 trackOf_L s8.2.2.2.2.2.1 below_L byLeft_L s8.2.2.2.2.2.2 tracks_L top_P bottom_P)) (hx : ∀ r8, o8 = .inr r8 → V p l e (rmO 1 24) s m args below meth c 5 D A 0 0 Q 52 [] [] (wLP cI cJ aL aP r8.1 r8.2.1 r8.2.2.1 trackOf_L r8.2.2.2.1 below_L byLeft_L r8.2.2.2.2 tracks_L top_P bottom_P)) : V p l e (rmO 1 24) s m args below meth c 5 D A 0 0 Q 5 [(0, .ref (aL 0)), (1, .ref (aP 0)), (2, .int x2), (3, .int s8.1), (4, .int s8.2.1)] [] (wLP cI cJ aL aP s8.2.2.1 s8.2.2.2.1 s8.2.2.2.2.1 trackOf_L s8.2.2.2.2.2.1 below_L byLeft_L s8.2.2.2.2.2.2 tracks_L top_P bottom_P) := by
  obtain ⟨x3, x4, netOf_L, left_L, right_L, touched_L, size_L⟩ := s8
  unfold f_X1_addPieces_B5 at h
  show V p l e (rmO 1 24) s m args below meth c 5 D A 0 0 Q 5 [(0, .ref (aL 0)), (1, .ref (aP 0)), (2, .int x2), (3, .int x3), (4, .int x4)] [] (wLP cI cJ aL aP netOf_L left_L right_L trackOf_L touched_L below_L byLeft_L size_L tracks_L top_P bottom_P)
  refine v_iload C 4 dX1_addPieces_5 rfl ?_
  refine v_bipush (v := 20) C dX1_addPieces_7 (by decide) ?_
  refine v_icmp_ge (tgt := 52) C dX1_addPieces_9 (by decide) h (fun h => ?_) (fun h => ?_)
  · refine v_perm [] rfl ?_
    cases h
    exact hx _ rfl
  · refine v_aload_n C 1 dX1_addPieces_12 rfl rfl ?_
    refine v_iload_n C 2 dX1_addPieces_13 rfl rfl ?_
    refine v_iload C 4 dX1_addPieces_14 rfl ?_
    obtain ⟨r, h1, h⟩ := bind_el h
    obtain ⟨r_1, rfl⟩ : ∃ z, z = r := ⟨_, rfl⟩
    try dsimp only at h
    refine v_callNi (As := [.int x2, .int x4]) (st := []) (wr := [(aL 0, .inr (1, [.ref (aL 1), .ref (aL 2), .ref (aL 3), .ref (aL 4), .ref (aL 5), .ref (aL 6), .ref (aL 7), .int size_L, .int tracks_L])), (aL 1, .inl (cI, 38, .inl netOf_L)), (aL 2, .inl (cI, 38, .inl left_L)), (aL 3, .inl (cI, 38, .inl right_L)), (aL 4, .inl (cI, 38, .inl trackOf_L)), (aL 5, .inl (cI, 38, .inl touched_L)), (aL 6, .inl (cJ, 38, .inr (.inl below_L))), (aL 7, .inl (cI, 38, .inl byLeft_L))]) (w1 := (wP cI cJ aP top_P bottom_P)) (ws' := (wLP cI cJ aL aP netOf_L left_L right_L trackOf_L touched_L below_L byLeft_L size_L tracks_L top_P bottom_P)) (isC := [8, 9, 10]) (isR := [0, 1, 2, 3, 4, 5, 6, 7]) (pm := [0, 1, 2, 3, 4, 5, 6, 7, 8, 9, 10]) C (c_X0_has l D cI cJ aP top_P bottom_P x2 x4 r_1 h1) cw_X0_has 0 rfl rfl nw_19 dX1_addPieces_16 rfl ⟨Nat.le_of_ble_eq_true rfl, Nat.le_of_ble_eq_true rfl⟩ (Nat.le_of_ble_eq_true rfl) ⟨Nat.le_refl 0, Nat.le_refl 0⟩ ⟨rfl, rfl, rfl, rfl, by decide, rfl, rfl⟩ ?_
    refine v_if_eq (tgt := 46) C dX1_addPieces_19 (by decide) h (fun h => ?_) (fun h => ?_)
    · refine v_iinc C [(4, .int (x4 + 1)), (0, .ref (aL 0)), (1, .ref (aP 0)), (2, .int x2), (3, .int x3)] 4 dX1_addPieces_46 rfl rfl (by decide) rfl ?_
      refine v_goto (tgt := 5) C dX1_addPieces_49 (by decide) ?_
      refine v_perm [1, 2, 3, 4, 0] rfl ?_
      cases h
      exact hl _ rfl
    · refine v_iload_n C 3 dX1_addPieces_22 rfl rfl ?_
      refine v_iconst (v := (-1)) C dX1_addPieces_23 (by decide) ?_
      refine v_icmp_eq (tgt := 43) C dX1_addPieces_24 (by decide) h (fun h => ?_) (fun h => ?_)
      · refine v_iload C 4 dX1_addPieces_43 rfl ?_
        refine v_istore_n C [(3, .int x4), (0, .ref (aL 0)), (1, .ref (aP 0)), (2, .int x2), (4, .int x4)] dX1_addPieces_45 rfl (by decide) rfl ?_
        refine v_iinc C [(4, .int (x4 + 1)), (3, .int x4), (0, .ref (aL 0)), (1, .ref (aP 0)), (2, .int x2)] 4 dX1_addPieces_46 rfl rfl (by decide) rfl ?_
        refine v_goto (tgt := 5) C dX1_addPieces_49 (by decide) ?_
        refine v_perm [2, 3, 4, 1, 0] rfl ?_
        cases h
        exact hl _ rfl
      · refine v_aload_n C 0 dX1_addPieces_27 rfl rfl ?_
        refine v_iload_n C 2 dX1_addPieces_28 rfl rfl ?_
        refine v_iload_n C 3 dX1_addPieces_29 rfl rfl ?_
        refine v_iload C 4 dX1_addPieces_30 rfl ?_
        refine v_iconst (v := 1) C dX1_addPieces_32 (by decide) ?_
        refine v_iload_n C 3 dX1_addPieces_33 rfl rfl ?_
        refine v_ishl C dX1_addPieces_34 ?_
        refine v_iconst (v := 1) C dX1_addPieces_35 (by decide) ?_
        refine v_iload C 4 dX1_addPieces_36 rfl ?_
        refine v_ishl C dX1_addPieces_38 ?_
        refine v_ior C dX1_addPieces_39 ?_
        obtain ⟨r, h1, h⟩ := bind_el h
        obtain ⟨netOf_L_2, left_L_3, right_L_4, touched_L_5, size_L_6⟩ := r
        try dsimp only at h
        refine v_callVv (As := [.int x2, .int x3, .int x4, .int (((1 : Int32) <<< (x3 &&& 31)) ||| ((1 : Int32) <<< (x4 &&& 31)))]) (st := []) (wr := [(aP 0, .inr (0, [.ref (aP 1), .ref (aP 2)])), (aP 1, .inl (cI, 20, .inl top_P)), (aP 2, .inl (cI, 20, .inl bottom_P))]) (w1 := (wL cI cJ aL netOf_L_2 left_L_3 right_L_4 trackOf_L touched_L_5 below_L byLeft_L size_L_6 tracks_L)) (ws' := (wLP cI cJ aL aP netOf_L_2 left_L_3 right_L_4 trackOf_L touched_L_5 below_L byLeft_L size_L_6 tracks_L top_P bottom_P)) (isC := [0, 1, 2, 3, 4, 5, 6, 7]) (isR := [8, 9, 10]) (pm := [3, 4, 5, 6, 7, 8, 9, 10, 0, 1, 2]) C (c_X1_add l D cI cJ aL netOf_L left_L right_L trackOf_L touched_L below_L byLeft_L size_L tracks_L x2 x3 x4 (((1 : Int32) <<< (x3 &&& 31)) ||| ((1 : Int32) <<< (x4 &&& 31))) netOf_L_2 left_L_3 right_L_4 touched_L_5 size_L_6 h1) cw_X1_add 0 rfl rfl m1_187 dX1_addPieces_40 rfl ⟨Nat.le_of_ble_eq_true rfl, Nat.le_of_ble_eq_true rfl⟩ (Nat.le_of_ble_eq_true rfl) ⟨Nat.le_refl 0, Nat.le_refl 0⟩ ⟨rfl, rfl, rfl, rfl, by decide, rfl, rfl⟩ ?_
        refine v_iload C 4 dX1_addPieces_43 rfl ?_
        refine v_istore_n C [(3, .int x4), (0, .ref (aL 0)), (1, .ref (aP 0)), (2, .int x2), (4, .int x4)] dX1_addPieces_45 rfl (by decide) rfl ?_
        refine v_iinc C [(4, .int (x4 + 1)), (3, .int x4), (0, .ref (aL 0)), (1, .ref (aP 0)), (2, .int x2)] 4 dX1_addPieces_46 rfl rfl (by decide) rfl ?_
        refine v_goto (tgt := 5) C dX1_addPieces_49 (by decide) ?_
        refine v_perm [2, 3, 4, 1, 0] rfl ?_
        cases h
        exact hl _ rfl
set_option maxHeartbeats 4000000 in
set_option maxRecDepth 100000 in
theorem t_X1_addPieces_L5 {p : Program} {l : Launch} {e : Env} {s : State} {m : MethodId} {args : Array Value} {below : List Frame} {meth : Method} {c : Code} {D : va_G} {A : Nat → Prop} {cI cJ : ClassId} {Q : State → Prop} (C : Cx p s m args c cX1_addPieces 5 RX1 D A cI cJ) {aL : Nat → Nat} {aP : Nat → Nat} {x2 : Int32} {trackOf_L : (Nat → Int32)} {below_L : (Nat → Int64)} {byLeft_L : (Nat → Int32)} {tracks_L : Int32} {top_P : (Nat → Int32)} {bottom_P : (Nat → Int32)} {n8 : Nat} {s9 : (Int32 × Int32 × (Nat → Int32) × (Nat → Int32) × (Nat → Int32) × (Nat → Int32) × Int32)} {o8 : ((Nat → Int32) × (Nat → Int32) × (Nat → Int32) × (Nat → Int32) × Int32)} (h : lp (f_X1_addPieces_B5 x2 top_P bottom_P) n8 s9 = some o8) (hk : V p l e (rmO 1 24) s m args below meth c 5 D A 0 0 Q 52 [] [] (wLP cI cJ aL aP o8.1 o8.2.1 o8.2.2.1 trackOf_L o8.2.2.2.1 below_L byLeft_L o8.2.2.2.2 tracks_L top_P bottom_P)) : V p l e (rmO 1 24) s m args below meth c 5 D A 0 0 Q 5 [(0, .ref (aL 0)), (1, .ref (aP 0)), (2, .int x2), (3, .int s9.1), (4, .int s9.2.1)] [] (wLP cI cJ aL aP s9.2.2.1 s9.2.2.2.1 s9.2.2.2.2.1 trackOf_L s9.2.2.2.2.2.1 below_L byLeft_L s9.2.2.2.2.2.2 tracks_L top_P bottom_P) := lp_ok (Pσ := fun s8 => V p l e (rmO 1 24) s m args below meth c 5 D A 0 0 Q 5 [(0, .ref (aL 0)), (1, .ref (aP 0)), (2, .int x2), (3, .int s8.1), (4, .int s8.2.1)] [] (wLP cI cJ aL aP s8.2.2.1 s8.2.2.2.1 s8.2.2.2.2.1 trackOf_L s8.2.2.2.2.2.1 below_L byLeft_L s8.2.2.2.2.2.2 tracks_L top_P bottom_P)) (Pρ := fun r8 => V p l e (rmO 1 24) s m args below meth c 5 D A 0 0 Q 52 [] [] (wLP cI cJ aL aP r8.1 r8.2.1 r8.2.2.1 trackOf_L r8.2.2.2.1 below_L byLeft_L r8.2.2.2.2 tracks_L top_P bottom_P)) (fun s o h hl hx => t_X1_addPieces_B5 C s o h hl hx) n8 s9 o8 h hk
set_option maxHeartbeats 4000000 in
set_option maxRecDepth 100000 in
theorem c_X1_addPieces (l : Launch) (D : va_G) (cI cJ : ClassId) (aL : Nat → Nat) (aP : Nat → Nat) (netOf_L : (Nat → Int32)) (left_L : (Nat → Int32)) (right_L : (Nat → Int32)) (trackOf_L : (Nat → Int32)) (touched_L : (Nat → Int32)) (below_L : (Nat → Int64)) (byLeft_L : (Nat → Int32)) (size_L : Int32) (tracks_L : Int32) (top_P : (Nat → Int32)) (bottom_P : (Nat → Int32)) (x2 : Int32) (netOf_L' : (Nat → Int32)) (left_L' : (Nat → Int32)) (right_L' : (Nat → Int32)) (touched_L' : (Nat → Int32)) (size_L' : Int32) (h : f_X1_addPieces netOf_L left_L right_L touched_L size_L top_P bottom_P x2 = some (netOf_L', left_L', right_L', touched_L', size_L')) : Ctv l D cI cJ yX1_addPieces cX1_addPieces 5 none 1 24 [.ref (aL 0), .ref (aP 0), .int x2] (wLP cI cJ aL aP netOf_L left_L right_L trackOf_L touched_L below_L byLeft_L size_L tracks_L top_P bottom_P) (wLP cI cJ aL aP netOf_L' left_L' right_L' trackOf_L touched_L' below_L byLeft_L size_L' tracks_L top_P bottom_P) := by
  refine mk_v [(0, .ref (aL 0)), (1, .ref (aP 0)), (2, .int x2)] (by decide) rfl (Nat.le_of_ble_eq_true rfl) rfl (fun p e s m args below meth c A Q C hk => ?_)
  unfold f_X1_addPieces at h
  refine v_iconst (v := (-1)) C dX1_addPieces_0 (by decide) ?_
  refine v_istore_n C [(3, .int (-1)), (0, .ref (aL 0)), (1, .ref (aP 0)), (2, .int x2)] dX1_addPieces_1 rfl (by decide) rfl ?_
  refine v_iconst (v := 0) C dX1_addPieces_2 (by decide) ?_
  refine v_istore C [(4, .int 0), (3, .int (-1)), (0, .ref (aL 0)), (1, .ref (aP 0)), (2, .int x2)] dX1_addPieces_3 (by decide) rfl ?_
  obtain ⟨r, h1, h⟩ := bind_el h
  refine v_perm [2, 3, 4, 1, 0] rfl ?_
  obtain ⟨netOf_L_7, left_L_8, right_L_9, touched_L_10, size_L_11⟩ := r
  refine t_X1_addPieces_L5 C (s9 := ((-1), 0, netOf_L, left_L, right_L, touched_L, size_L)) h1 ?_
  show V p l e (rmO 1 24) s m args below meth c 5 D A 0 0 Q 52 [] [] (wLP cI cJ aL aP netOf_L_7 left_L_8 right_L_9 trackOf_L touched_L_10 below_L byLeft_L size_L_11 tracks_L top_P bottom_P)
  try dsimp only at h
  cases h
  exact hk _ _ dX1_addPieces_52
def f_X1_touches (netOf_L : (Nat → Int32)) (touched_L : (Nat → Int32)) (x1 : Int32) (x2 : Int32) (x3 : Int32) : Option Int32 := bnd x1 38 (if (netOf_L x1.toNatClampNeg) = x3 then (bnd x1 38 (if (((touched_L x1.toNatClampNeg) >>> (x2 &&& 31)) &&& 1) = 0 then (some 0) else (some 1))) else (some 0))
theorem cw_X1_touches : CWv yX1_touches cX1_touches 4 (some .boolean) RX1 3 := ⟨m1_210, ms1_15, m1_4, m1_211, rfl, by decide, by decide, by decide +kernel⟩
set_option maxHeartbeats 4000000 in
set_option maxRecDepth 100000 in
theorem c_X1_touches (l : Launch) (D : va_G) (cI cJ : ClassId) (aL : Nat → Nat) (netOf_L : (Nat → Int32)) (left_L : (Nat → Int32)) (right_L : (Nat → Int32)) (trackOf_L : (Nat → Int32)) (touched_L : (Nat → Int32)) (below_L : (Nat → Int64)) (byLeft_L : (Nat → Int32)) (size_L : Int32) (tracks_L : Int32) (x1 : Int32) (x2 : Int32) (x3 : Int32) (r : Int32) (h : f_X1_touches netOf_L touched_L x1 x2 x3 = some r) : Cti l D cI cJ yX1_touches cX1_touches 4 (some .boolean) 0 0 [.ref (aL 0), .int x1, .int x2, .int x3] (wL cI cJ aL netOf_L left_L right_L trackOf_L touched_L below_L byLeft_L size_L tracks_L) (wL cI cJ aL netOf_L left_L right_L trackOf_L touched_L below_L byLeft_L size_L tracks_L) r := by
  refine mk_z [(0, .ref (aL 0)), (1, .int x1), (2, .int x2), (3, .int x3)] (by decide) rfl (Nat.le_of_ble_eq_true rfl) rfl (fun p e s m args below meth c A Q C hk => ?_)
  unfold f_X1_touches at h
  refine v_aload_n C 0 dX1_touches_0 rfl rfl ?_
  refine v_get C 0 0 iuX1 rfl rfl (by decide) m1_68 rfl rfl dX1_touches_1 ?_
  refine v_iload_n C 1 dX1_touches_4 rfl rfl ?_
  refine v_iald C 1 rfl dX1_touches_5 h (fun h => ?_)
  refine v_iload_n C 3 dX1_touches_6 rfl rfl ?_
  refine v_icmp_ne (tgt := 27) C dX1_touches_7 (by decide) h (fun h => ?_) (fun h => ?_)
  · refine v_aload_n C 0 dX1_touches_10 rfl rfl ?_
    refine v_get C 0 4 iuX1 rfl rfl (by decide) m1_76 rfl rfl dX1_touches_11 ?_
    refine v_iload_n C 1 dX1_touches_14 rfl rfl ?_
    refine v_iald C 5 rfl dX1_touches_15 h (fun h => ?_)
    refine v_iload_n C 2 dX1_touches_16 rfl rfl ?_
    refine v_ishr C dX1_touches_17 ?_
    refine v_iconst (v := 1) C dX1_touches_18 (by decide) ?_
    refine v_iand C dX1_touches_19 ?_
    refine v_if_eq (tgt := 27) C dX1_touches_20 (by decide) h (fun h => ?_) (fun h => ?_)
    · refine v_iconst (v := 0) C dX1_touches_27 (by decide) ?_
      cases h
      exact hk _ _ dX1_touches_28 (Or.inl rfl)
    · refine v_iconst (v := 1) C dX1_touches_23 (by decide) ?_
      refine v_goto (tgt := 28) C dX1_touches_24 (by decide) ?_
      cases h
      exact hk _ _ dX1_touches_28 (Or.inr rfl)
  · refine v_iconst (v := 0) C dX1_touches_27 (by decide) ?_
    cases h
    exact hk _ _ dX1_touches_28 (Or.inl rfl)
def f_X1_touching_B5 (x1 : Int32) (x2 : Int32) (netOf_L : (Nat → Int32)) (touched_L : (Nat → Int32)) (size_L : Int32) : (Int64 × Int32) → Option ((Int64 × Int32) ⊕ Int64)
  | (x3, x5) => if size_L ≤ x5 then (some (.inr x3)) else ((f_X1_touches netOf_L touched_L x5 x1 x2).bind (fun r => match r with | r_1 => if r_1 = 0 then (some (.inl (x3, x5 + 1))) else (some (.inl ((x3 ||| ((1 : Int64) <<< (x5.toInt64 &&& 63)), x5 + 1))))))
def f_X1_touching (netOf_L : (Nat → Int32)) (touched_L : (Nat → Int32)) (size_L : Int32) (x1 : Int32) (x2 : Int32) : Option Int64 := (lp (f_X1_touching_B5 x1 x2 netOf_L touched_L size_L) 64 (0, 0)).bind (fun r => match r with | x3_2 => some x3_2)
theorem cw_X1_touching : CWv yX1_touching cX1_touching 6 (some .long) RX1 2 := ⟨m1_206, ms1_14, m1_4, m1_207, rfl, by decide, by decide, by decide +kernel⟩
set_option maxHeartbeats 4000000 in
set_option maxRecDepth 100000 in
theorem t_X1_touching_B5 {p : Program} {l : Launch} {e : Env} {s : State} {m : MethodId} {args : Array Value} {below : List Frame} {meth : Method} {c : Code} {D : va_G} {A : Nat → Prop} {cI cJ : ClassId} {Q : State → Prop} (C : Cx p s m args c cX1_touching 6 RX1 D A cI cJ) {aL : Nat → Nat} {x1 : Int32} {x2 : Int32} {netOf_L : (Nat → Int32)} {left_L : (Nat → Int32)} {right_L : (Nat → Int32)} {trackOf_L : (Nat → Int32)} {touched_L : (Nat → Int32)} {below_L : (Nat → Int64)} {byLeft_L : (Nat → Int32)} {size_L : Int32} {tracks_L : Int32} (s8 : (Int64 × Int32)) (o8 : (Int64 × Int32) ⊕ Int64) (h : f_X1_touching_B5 x1 x2 netOf_L touched_L size_L s8 = some o8) (hl : ∀ s8, o8 = .inl s8 → V p l e (rmO 1 23) s m args below meth c 6 D A 0 0 Q 5 [(0, .ref (aL 0)), (1, .int x1), (2, .int x2), (3, .long s8.1), (5, .int s8.2)] [] (wL cI cJ aL netOf_L left_L right_L trackOf_L touched_L below_L byLeft_L size_L tracks_L)) (hx : ∀ r8, o8 = .inr r8 → V p l e (rmO 1 23) s m args below meth c 6 D A 0 0 Q 38 [(3, .long r8)] [] (wL cI cJ aL netOf_L left_L right_L trackOf_L touched_L below_L byLeft_L size_L tracks_L)) : V p l e (rmO 1 23) s m args below meth c 6 D A 0 0 Q 5 [(0, .ref (aL 0)), (1, .int x1), (2, .int x2), (3, .long s8.1), (5, .int s8.2)] [] (wL cI cJ aL netOf_L left_L right_L trackOf_L touched_L below_L byLeft_L size_L tracks_L) := by
  obtain ⟨x3, x5⟩ := s8
  unfold f_X1_touching_B5 at h
  show V p l e (rmO 1 23) s m args below meth c 6 D A 0 0 Q 5 [(0, .ref (aL 0)), (1, .int x1), (2, .int x2), (3, .long x3), (5, .int x5)] [] (wL cI cJ aL netOf_L left_L right_L trackOf_L touched_L below_L byLeft_L size_L tracks_L)
  refine v_iload C 4 dX1_touching_5 rfl ?_
  refine v_aload_n C 0 dX1_touching_7 rfl rfl ?_
  refine v_get C 0 7 iuX1 rfl rfl (by decide) m1_80 rfl rfl dX1_touching_8 ?_
  refine v_icmp_ge (tgt := 38) C dX1_touching_11 (by decide) h (fun h => ?_) (fun h => ?_)
  · refine v_perm [3] rfl ?_
    cases h
    exact hx _ rfl
  · refine v_aload_n C 0 dX1_touching_14 rfl rfl ?_
    refine v_iload C 4 dX1_touching_15 rfl ?_
    refine v_iload_n C 1 dX1_touching_17 rfl rfl ?_
    refine v_iload_n C 2 dX1_touching_18 rfl rfl ?_
    obtain ⟨r, h1, h⟩ := bind_el h
    obtain ⟨r_1, rfl⟩ : ∃ z, z = r := ⟨_, rfl⟩
    try dsimp only at h
    refine v_callVi (As := [.int x5, .int x1, .int x2]) (st := []) (wr := []) (w1 := (wL cI cJ aL netOf_L left_L right_L trackOf_L touched_L below_L byLeft_L size_L tracks_L)) (ws' := (wL cI cJ aL netOf_L left_L right_L trackOf_L touched_L below_L byLeft_L size_L tracks_L)) (isC := [0, 1, 2, 3, 4, 5, 6, 7]) (isR := []) (pm := [0, 1, 2, 3, 4, 5, 6, 7]) C (c_X1_touches l D cI cJ aL netOf_L left_L right_L trackOf_L touched_L below_L byLeft_L size_L tracks_L x5 x1 x2 r_1 h1) cw_X1_touches 0 rfl rfl m1_208 dX1_touching_19 rfl ⟨Nat.le_of_ble_eq_true rfl, Nat.le_of_ble_eq_true rfl⟩ (Nat.le_of_ble_eq_true rfl) ⟨Nat.le_refl 0, Nat.le_refl 0⟩ ⟨rfl, rfl, rfl, rfl, by decide, rfl, rfl⟩ ?_
    refine v_if_eq (tgt := 32) C dX1_touching_22 (by decide) h (fun h => ?_) (fun h => ?_)
    · refine v_iinc C [(5, .int (x5 + 1)), (0, .ref (aL 0)), (1, .int x1), (2, .int x2), (3, .long x3)] 4 dX1_touching_32 rfl rfl (by decide) rfl ?_
      refine v_goto (tgt := 5) C dX1_touching_35 (by decide) ?_
      refine v_perm [1, 2, 3, 4, 0] rfl ?_
      cases h
      exact hl _ rfl
    · refine v_lload_n C 3 dX1_touching_25 rfl rfl ?_
      refine v_lconst (v := 1) C dX1_touching_26 (by decide) ?_
      refine v_iload C 4 dX1_touching_27 rfl ?_
      refine v_lshl C dX1_touching_29 ?_
      refine v_lor C dX1_touching_30 ?_
      refine v_lstore_n C [(3, .long (x3 ||| ((1 : Int64) <<< (x5.toInt64 &&& 63)))), (0, .ref (aL 0)), (1, .int x1), (2, .int x2), (5, .int x5)] dX1_touching_31 rfl (by decide) rfl ?_
      refine v_iinc C [(5, .int (x5 + 1)), (3, .long (x3 ||| ((1 : Int64) <<< (x5.toInt64 &&& 63)))), (0, .ref (aL 0)), (1, .int x1), (2, .int x2)] 4 dX1_touching_32 rfl rfl (by decide) rfl ?_
      refine v_goto (tgt := 5) C dX1_touching_35 (by decide) ?_
      refine v_perm [2, 3, 4, 1, 0] rfl ?_
      cases h
      exact hl _ rfl
set_option maxHeartbeats 4000000 in
set_option maxRecDepth 100000 in
theorem t_X1_touching_L5 {p : Program} {l : Launch} {e : Env} {s : State} {m : MethodId} {args : Array Value} {below : List Frame} {meth : Method} {c : Code} {D : va_G} {A : Nat → Prop} {cI cJ : ClassId} {Q : State → Prop} (C : Cx p s m args c cX1_touching 6 RX1 D A cI cJ) {aL : Nat → Nat} {x1 : Int32} {x2 : Int32} {netOf_L : (Nat → Int32)} {left_L : (Nat → Int32)} {right_L : (Nat → Int32)} {trackOf_L : (Nat → Int32)} {touched_L : (Nat → Int32)} {below_L : (Nat → Int64)} {byLeft_L : (Nat → Int32)} {size_L : Int32} {tracks_L : Int32} {n8 : Nat} {s9 : (Int64 × Int32)} {o8 : Int64} (h : lp (f_X1_touching_B5 x1 x2 netOf_L touched_L size_L) n8 s9 = some o8) (hk : V p l e (rmO 1 23) s m args below meth c 6 D A 0 0 Q 38 [(3, .long o8)] [] (wL cI cJ aL netOf_L left_L right_L trackOf_L touched_L below_L byLeft_L size_L tracks_L)) : V p l e (rmO 1 23) s m args below meth c 6 D A 0 0 Q 5 [(0, .ref (aL 0)), (1, .int x1), (2, .int x2), (3, .long s9.1), (5, .int s9.2)] [] (wL cI cJ aL netOf_L left_L right_L trackOf_L touched_L below_L byLeft_L size_L tracks_L) := lp_ok (Pσ := fun s8 => V p l e (rmO 1 23) s m args below meth c 6 D A 0 0 Q 5 [(0, .ref (aL 0)), (1, .int x1), (2, .int x2), (3, .long s8.1), (5, .int s8.2)] [] (wL cI cJ aL netOf_L left_L right_L trackOf_L touched_L below_L byLeft_L size_L tracks_L)) (Pρ := fun r8 => V p l e (rmO 1 23) s m args below meth c 6 D A 0 0 Q 38 [(3, .long r8)] [] (wL cI cJ aL netOf_L left_L right_L trackOf_L touched_L below_L byLeft_L size_L tracks_L)) (fun s o h hl hx => t_X1_touching_B5 C s o h hl hx) n8 s9 o8 h hk
set_option maxHeartbeats 4000000 in
set_option maxRecDepth 100000 in
theorem c_X1_touching (l : Launch) (D : va_G) (cI cJ : ClassId) (aL : Nat → Nat) (netOf_L : (Nat → Int32)) (left_L : (Nat → Int32)) (right_L : (Nat → Int32)) (trackOf_L : (Nat → Int32)) (touched_L : (Nat → Int32)) (below_L : (Nat → Int64)) (byLeft_L : (Nat → Int32)) (size_L : Int32) (tracks_L : Int32) (x1 : Int32) (x2 : Int32) (r : Int64) (h : f_X1_touching netOf_L touched_L size_L x1 x2 = some r) : Ctl l D cI cJ yX1_touching cX1_touching 6 (some .long) 1 23 [.ref (aL 0), .int x1, .int x2] (wL cI cJ aL netOf_L left_L right_L trackOf_L touched_L below_L byLeft_L size_L tracks_L) (wL cI cJ aL netOf_L left_L right_L trackOf_L touched_L below_L byLeft_L size_L tracks_L) r := by
  refine mk_l [(0, .ref (aL 0)), (1, .int x1), (2, .int x2)] (by decide) rfl (Nat.le_of_ble_eq_true rfl) rfl (fun p e s m args below meth c A Q C hk => ?_)
  unfold f_X1_touching at h
  refine v_lconst (v := 0) C dX1_touching_0 (by decide) ?_
  refine v_lstore_n C [(3, .long 0), (0, .ref (aL 0)), (1, .int x1), (2, .int x2)] dX1_touching_1 rfl (by decide) rfl ?_
  refine v_iconst (v := 0) C dX1_touching_2 (by decide) ?_
  refine v_istore C [(5, .int 0), (3, .long 0), (0, .ref (aL 0)), (1, .int x1), (2, .int x2)] dX1_touching_3 (by decide) rfl ?_
  obtain ⟨r, h1, h⟩ := bind_el h
  refine v_perm [2, 3, 4, 1, 0] rfl ?_
  obtain ⟨x3_2, rfl⟩ : ∃ z, z = r := ⟨_, rfl⟩
  refine t_X1_touching_L5 C (s9 := (0, 0)) h1 ?_
  show V p l e (rmO 1 23) s m args below meth c 6 D A 0 0 Q 38 [(3, .long x3_2)] [] (wL cI cJ aL netOf_L left_L right_L trackOf_L touched_L below_L byLeft_L size_L tracks_L)
  try dsimp only at h
  refine v_lload_n C 0 dX1_touching_38 rfl rfl ?_
  cases h
  exact hk _ _ dX1_touching_39
def f_X1_addBelow_B3 (x1 : Int64) (x3 : Int64) (size_L : Int32) : (Int32 × (Nat → Int64)) → Option ((Int32 × (Nat → Int64)) ⊕ (Nat → Int64))
  | (x5, below_L) => if size_L ≤ x5 then (some (.inr below_L)) else ((f_X1_isIn x1 x5).bind (fun r => match r with | r_1 => if r_1 = 0 then (some (.inl (x5 + 1, below_L))) else (bnd x5 38 (bnd x5 38 (some (.inl ((x5 + 1, vp_updL below_L x5.toNatClampNeg ((below_L x5.toNatClampNeg) ||| x3)))))))))
def f_X1_addBelow (below_L : (Nat → Int64)) (size_L : Int32) (x1 : Int64) (x3 : Int64) : Option (Nat → Int64) := (lp (f_X1_addBelow_B3 x1 x3 size_L) 64 (0, below_L)).bind (fun r => match r with | below_L_2 => some below_L_2)
theorem cw_X1_addBelow : CWv yX1_addBelow cX1_addBelow 6 none RX1 2 := ⟨m1_214, ms2_0, m1_4, m1_215, rfl, by decide, by decide, by decide +kernel⟩
set_option maxHeartbeats 4000000 in
set_option maxRecDepth 100000 in
theorem t_X1_addBelow_B3 {p : Program} {l : Launch} {e : Env} {s : State} {m : MethodId} {args : Array Value} {below : List Frame} {meth : Method} {c : Code} {D : va_G} {A : Nat → Prop} {cI cJ : ClassId} {Q : State → Prop} (C : Cx p s m args c cX1_addBelow 6 RX1 D A cI cJ) {aL : Nat → Nat} {x1 : Int64} {x3 : Int64} {netOf_L : (Nat → Int32)} {left_L : (Nat → Int32)} {right_L : (Nat → Int32)} {trackOf_L : (Nat → Int32)} {touched_L : (Nat → Int32)} {byLeft_L : (Nat → Int32)} {size_L : Int32} {tracks_L : Int32} (s8 : (Int32 × (Nat → Int64))) (o8 : (Int32 × (Nat → Int64)) ⊕ (Nat → Int64)) (h : f_X1_addBelow_B3 x1 x3 size_L s8 = some o8) (hl : ∀ s8, o8 = .inl s8 → V p l e (rmO 1 22) s m args below meth c 6 D A 0 0 Q 3 [(0, .ref (aL 0)), (1, .long x1), (3, .long x3), (5, .int s8.1)] [] (wL cI cJ aL netOf_L left_L right_L trackOf_L touched_L s8.2 byLeft_L size_L tracks_L)) (hx : ∀ r8, o8 = .inr r8 → V p l e (rmO 1 22) s m args below meth c 6 D A 0 0 Q 38 [] [] (wL cI cJ aL netOf_L left_L right_L trackOf_L touched_L r8 byLeft_L size_L tracks_L)) : V p l e (rmO 1 22) s m args below meth c 6 D A 0 0 Q 3 [(0, .ref (aL 0)), (1, .long x1), (3, .long x3), (5, .int s8.1)] [] (wL cI cJ aL netOf_L left_L right_L trackOf_L touched_L s8.2 byLeft_L size_L tracks_L) := by
  obtain ⟨x5, below_L⟩ := s8
  unfold f_X1_addBelow_B3 at h
  show V p l e (rmO 1 22) s m args below meth c 6 D A 0 0 Q 3 [(0, .ref (aL 0)), (1, .long x1), (3, .long x3), (5, .int x5)] [] (wL cI cJ aL netOf_L left_L right_L trackOf_L touched_L below_L byLeft_L size_L tracks_L)
  refine v_iload C 3 dX1_addBelow_3 rfl ?_
  refine v_aload_n C 0 dX1_addBelow_5 rfl rfl ?_
  refine v_get C 0 7 iuX1 rfl rfl (by decide) m1_80 rfl rfl dX1_addBelow_6 ?_
  refine v_icmp_ge (tgt := 38) C dX1_addBelow_9 (by decide) h (fun h => ?_) (fun h => ?_)
  · refine v_perm [] rfl ?_
    cases h
    exact hx _ rfl
  · refine v_lload_n C 1 dX1_addBelow_12 rfl rfl ?_
    refine v_iload C 3 dX1_addBelow_13 rfl ?_
    obtain ⟨r, h1, h⟩ := bind_el h
    obtain ⟨r_1, rfl⟩ : ∃ z, z = r := ⟨_, rfl⟩
    try dsimp only at h
    refine v_callSi (As := [.long x1, .int x5]) (st := []) (wr := [(aL 0, .inr (1, [.ref (aL 1), .ref (aL 2), .ref (aL 3), .ref (aL 4), .ref (aL 5), .ref (aL 6), .ref (aL 7), .int size_L, .int tracks_L])), (aL 1, .inl (cI, 38, .inl netOf_L)), (aL 2, .inl (cI, 38, .inl left_L)), (aL 3, .inl (cI, 38, .inl right_L)), (aL 4, .inl (cI, 38, .inl trackOf_L)), (aL 5, .inl (cI, 38, .inl touched_L)), (aL 6, .inl (cJ, 38, .inr (.inl below_L))), (aL 7, .inl (cI, 38, .inl byLeft_L))]) (w1 := []) (ws' := (wL cI cJ aL netOf_L left_L right_L trackOf_L touched_L below_L byLeft_L size_L tracks_L)) (isC := []) (isR := [0, 1, 2, 3, 4, 5, 6, 7]) (pm := [0, 1, 2, 3, 4, 5, 6, 7]) C (c_X1_isIn l D cI cJ x1 x5 r_1 h1) cw_X1_isIn m1_216 dX1_addBelow_15 rfl ⟨Nat.le_of_ble_eq_true rfl, Nat.le_of_ble_eq_true rfl⟩ (Nat.le_of_ble_eq_true rfl) ⟨Nat.le_refl 0, Nat.le_refl 0⟩ ⟨rfl, rfl, rfl, rfl, by decide, rfl, rfl⟩ ?_
    refine v_if_eq (tgt := 32) C dX1_addBelow_18 (by decide) h (fun h => ?_) (fun h => ?_)
    · refine v_iinc C [(5, .int (x5 + 1)), (0, .ref (aL 0)), (1, .long x1), (3, .long x3)] 3 dX1_addBelow_32 rfl rfl (by decide) rfl ?_
      refine v_goto (tgt := 3) C dX1_addBelow_35 (by decide) ?_
      refine v_perm [1, 2, 3, 0] rfl ?_
      cases h
      exact hl _ rfl
    · refine v_aload_n C 0 dX1_addBelow_21 rfl rfl ?_
      refine v_get C 0 5 iuX1 rfl rfl (by decide) m1_77 rfl rfl dX1_addBelow_22 ?_
      refine v_iload C 3 dX1_addBelow_25 rfl ?_
      refine v_dup2 C dX1_addBelow_27 rfl rfl ?_
      refine v_lald C 6 rfl dX1_addBelow_28 h (fun h => ?_)
      refine v_lload_n C 2 dX1_addBelow_29 rfl rfl ?_
      refine v_lor C dX1_addBelow_30 ?_
      refine v_last C (wL cI cJ aL netOf_L left_L right_L trackOf_L touched_L (vp_updL below_L x5.toNatClampNeg ((below_L x5.toNatClampNeg) ||| x3)) byLeft_L size_L tracks_L) 6 rfl dX1_addBelow_31 h rfl (fun h => ?_)
      refine v_iinc C [(5, .int (x5 + 1)), (0, .ref (aL 0)), (1, .long x1), (3, .long x3)] 3 dX1_addBelow_32 rfl rfl (by decide) rfl ?_
      refine v_goto (tgt := 3) C dX1_addBelow_35 (by decide) ?_
      refine v_perm [1, 2, 3, 0] rfl ?_
      cases h
      exact hl _ rfl
set_option maxHeartbeats 4000000 in
set_option maxRecDepth 100000 in
theorem t_X1_addBelow_L3 {p : Program} {l : Launch} {e : Env} {s : State} {m : MethodId} {args : Array Value} {below : List Frame} {meth : Method} {c : Code} {D : va_G} {A : Nat → Prop} {cI cJ : ClassId} {Q : State → Prop} (C : Cx p s m args c cX1_addBelow 6 RX1 D A cI cJ) {aL : Nat → Nat} {x1 : Int64} {x3 : Int64} {netOf_L : (Nat → Int32)} {left_L : (Nat → Int32)} {right_L : (Nat → Int32)} {trackOf_L : (Nat → Int32)} {touched_L : (Nat → Int32)} {byLeft_L : (Nat → Int32)} {size_L : Int32} {tracks_L : Int32} {n8 : Nat} {s9 : (Int32 × (Nat → Int64))} {o8 : (Nat → Int64)} (h : lp (f_X1_addBelow_B3 x1 x3 size_L) n8 s9 = some o8) (hk : V p l e (rmO 1 22) s m args below meth c 6 D A 0 0 Q 38 [] [] (wL cI cJ aL netOf_L left_L right_L trackOf_L touched_L o8 byLeft_L size_L tracks_L)) : V p l e (rmO 1 22) s m args below meth c 6 D A 0 0 Q 3 [(0, .ref (aL 0)), (1, .long x1), (3, .long x3), (5, .int s9.1)] [] (wL cI cJ aL netOf_L left_L right_L trackOf_L touched_L s9.2 byLeft_L size_L tracks_L) := lp_ok (Pσ := fun s8 => V p l e (rmO 1 22) s m args below meth c 6 D A 0 0 Q 3 [(0, .ref (aL 0)), (1, .long x1), (3, .long x3), (5, .int s8.1)] [] (wL cI cJ aL netOf_L left_L right_L trackOf_L touched_L s8.2 byLeft_L size_L tracks_L)) (Pρ := fun r8 => V p l e (rmO 1 22) s m args below meth c 6 D A 0 0 Q 38 [] [] (wL cI cJ aL netOf_L left_L right_L trackOf_L touched_L r8 byLeft_L size_L tracks_L)) (fun s o h hl hx => t_X1_addBelow_B3 C s o h hl hx) n8 s9 o8 h hk
set_option maxHeartbeats 4000000 in
set_option maxRecDepth 100000 in
theorem c_X1_addBelow (l : Launch) (D : va_G) (cI cJ : ClassId) (aL : Nat → Nat) (netOf_L : (Nat → Int32)) (left_L : (Nat → Int32)) (right_L : (Nat → Int32)) (trackOf_L : (Nat → Int32)) (touched_L : (Nat → Int32)) (below_L : (Nat → Int64)) (byLeft_L : (Nat → Int32)) (size_L : Int32) (tracks_L : Int32) (x1 : Int64) (x3 : Int64) (below_L' : (Nat → Int64)) (h : f_X1_addBelow below_L size_L x1 x3 = some below_L') : Ctv l D cI cJ yX1_addBelow cX1_addBelow 6 none 1 22 [.ref (aL 0), .long x1, .long x3] (wL cI cJ aL netOf_L left_L right_L trackOf_L touched_L below_L byLeft_L size_L tracks_L) (wL cI cJ aL netOf_L left_L right_L trackOf_L touched_L below_L' byLeft_L size_L tracks_L) := by
  refine mk_v [(0, .ref (aL 0)), (1, .long x1), (3, .long x3)] (by decide) rfl (Nat.le_of_ble_eq_true rfl) rfl (fun p e s m args below meth c A Q C hk => ?_)
  unfold f_X1_addBelow at h
  refine v_iconst (v := 0) C dX1_addBelow_0 (by decide) ?_
  refine v_istore C [(5, .int 0), (0, .ref (aL 0)), (1, .long x1), (3, .long x3)] dX1_addBelow_1 (by decide) rfl ?_
  obtain ⟨r, h1, h⟩ := bind_el h
  refine v_perm [1, 2, 3, 0] rfl ?_
  obtain ⟨below_L_2, rfl⟩ : ∃ z, z = r := ⟨_, rfl⟩
  refine t_X1_addBelow_L3 C (s9 := (0, below_L)) h1 ?_
  show V p l e (rmO 1 22) s m args below meth c 6 D A 0 0 Q 38 [] [] (wL cI cJ aL netOf_L left_L right_L trackOf_L touched_L below_L_2 byLeft_L size_L tracks_L)
  try dsimp only at h
  cases h
  exact hk _ _ dX1_addBelow_38
def f_X1_findBelow_B10 (netOf_L : (Nat → Int32)) (touched_L : (Nat → Int32)) (size_L : Int32) (top_P : (Nat → Int32)) (bottom_P : (Nat → Int32)) : (Int32 × (Nat → Int64)) → Option ((Int32 × (Nat → Int64)) ⊕ (Nat → Int64))
  | (x2, below_L) => if 20 ≤ x2 then (some (.inr below_L)) else (bnd x2 20 (bnd x2 20 (if (top_P x2.toNatClampNeg) = (bottom_P x2.toNatClampNeg) then (some (.inl (x2 + 1, below_L))) else ((f_X1_touching netOf_L touched_L size_L x2 (top_P x2.toNatClampNeg)).bind (fun r => match r with | r_2 => (f_X1_touching netOf_L touched_L size_L x2 (bottom_P x2.toNatClampNeg)).bind (fun r => match r with | r_3 => (f_X1_addBelow below_L size_L r_2 r_3).bind (fun r => match r with | below_L_4 => some (.inl (x2 + 1, below_L_4)))))))))
def f_X1_findBelow (netOf_L : (Nat → Int32)) (touched_L : (Nat → Int32)) (below_L : (Nat → Int64)) (size_L : Int32) (top_P : (Nat → Int32)) (bottom_P : (Nat → Int32)) : Option (Nat → Int64) := (f_J7_fill_d0a16 below_L 0).bind (fun r => match r with | below_L_1 => (lp (f_X1_findBelow_B10 netOf_L touched_L size_L top_P bottom_P) 64 (0, below_L_1)).bind (fun r => match r with | below_L_5 => some below_L_5))
theorem cw_X1_findBelow : CWv yX1_findBelow cX1_findBelow 5 none RX1 1 := ⟨m1_199, ms1_13, m1_4, m1_200, rfl, by decide, by decide, by decide +kernel⟩
set_option maxHeartbeats 4000000 in
set_option maxRecDepth 100000 in
theorem t_X1_findBelow_B10 {p : Program} {l : Launch} {e : Env} {s : State} {m : MethodId} {args : Array Value} {below : List Frame} {meth : Method} {c : Code} {D : va_G} {A : Nat → Prop} {cI cJ : ClassId} {Q : State → Prop} (C : Cx p s m args c cX1_findBelow 5 RX1 D A cI cJ) {aL : Nat → Nat} {aP : Nat → Nat} {netOf_L : (Nat → Int32)} {left_L : (Nat → Int32)} {right_L : (Nat → Int32)} {trackOf_L : (Nat → Int32)} {touched_L : (Nat → Int32)} {byLeft_L : (Nat → Int32)} {size_L : Int32} {tracks_L : Int32} {top_P : (Nat → Int32)} {bottom_P : (Nat → Int32)} (s8 : (Int32 × (Nat → Int64))) (o8 : (Int32 × (Nat → Int64)) ⊕ (Nat → Int64)) (h : f_X1_findBelow_B10 netOf_L touched_L size_L top_P bottom_P s8 = some o8) (hl : ∀ s8, o8 = .inl s8 → V p l e (rmO 2 48) s m args below meth c 5 D A 0 0 Q 10 [(0, .ref (aL 0)), (1, .ref (aP 0)), (2, .int s8.1)] [] (wLP cI cJ aL aP netOf_L left_L right_L trackOf_L touched_L s8.2 byLeft_L size_L tracks_L top_P bottom_P)) (hx : ∀ r8, o8 = .inr r8 → V p l e (rmO 2 48) s m args below meth c 5 D A 0 0 Q 60 [] [] (wLP cI cJ aL aP netOf_L left_L right_L trackOf_L touched_L r8 byLeft_L size_L tracks_L top_P bottom_P)) : V p l e (rmO 2 48) s m args below meth c 5 D A 0 0 Q 10 [(0, .ref (aL 0)), (1, .ref (aP 0)), (2, .int s8.1)] [] (wLP cI cJ aL aP netOf_L left_L right_L trackOf_L touched_L s8.2 byLeft_L size_L tracks_L top_P bottom_P) := by
  obtain ⟨x2, below_L⟩ := s8
  unfold f_X1_findBelow_B10 at h
  show V p l e (rmO 2 48) s m args below meth c 5 D A 0 0 Q 10 [(0, .ref (aL 0)), (1, .ref (aP 0)), (2, .int x2)] [] (wLP cI cJ aL aP netOf_L left_L right_L trackOf_L touched_L below_L byLeft_L size_L tracks_L top_P bottom_P)
  refine v_iload_n C 2 dX1_findBelow_10 rfl rfl ?_
  refine v_bipush (v := 20) C dX1_findBelow_11 (by decide) ?_
  refine v_icmp_ge (tgt := 60) C dX1_findBelow_13 (by decide) h (fun h => ?_) (fun h => ?_)
  · refine v_perm [] rfl ?_
    cases h
    exact hx _ rfl
  · refine v_aload_n C 1 dX1_findBelow_16 rfl rfl ?_
    refine v_getN C 8 0 iuX0 rfl rfl (by decide) nw_1 rfl rfl dX1_findBelow_17 ?_
    refine v_iload_n C 2 dX1_findBelow_20 rfl rfl ?_
    refine v_iald C 9 rfl dX1_findBelow_21 h (fun h => ?_)
    refine v_istore_n C [(3, .int (top_P x2.toNatClampNeg)), (0, .ref (aL 0)), (1, .ref (aP 0)), (2, .int x2)] dX1_findBelow_22 rfl (by decide) rfl ?_
    refine v_aload_n C 2 dX1_findBelow_23 rfl rfl ?_
    refine v_getN C 8 1 iuX0 rfl rfl (by decide) nw_3 rfl rfl dX1_findBelow_24 ?_
    refine v_iload_n C 3 dX1_findBelow_27 rfl rfl ?_
    refine v_iald C 10 rfl dX1_findBelow_28 h (fun h => ?_)
    refine v_istore C [(4, .int (bottom_P x2.toNatClampNeg)), (3, .int (top_P x2.toNatClampNeg)), (0, .ref (aL 0)), (1, .ref (aP 0)), (2, .int x2)] dX1_findBelow_29 (by decide) rfl ?_
    refine v_iload_n C 1 dX1_findBelow_31 rfl rfl ?_
    refine v_iload C 0 dX1_findBelow_32 rfl ?_
    refine v_icmp_eq (tgt := 54) C dX1_findBelow_34 (by decide) h (fun h => ?_) (fun h => ?_)
    · refine v_iinc C [(2, .int (x2 + 1)), (4, .int (bottom_P x2.toNatClampNeg)), (3, .int (top_P x2.toNatClampNeg)), (0, .ref (aL 0)), (1, .ref (aP 0))] 4 dX1_findBelow_54 rfl rfl (by decide) rfl ?_
      refine v_goto (tgt := 10) C dX1_findBelow_57 (by decide) ?_
      refine v_perm [3, 4, 0] rfl ?_
      cases h
      exact hl _ rfl
    · refine v_aload_n C 2 dX1_findBelow_37 rfl rfl ?_
      refine v_aload_n C 2 dX1_findBelow_38 rfl rfl ?_
      refine v_iload_n C 4 dX1_findBelow_39 rfl rfl ?_
      refine v_iload_n C 1 dX1_findBelow_40 rfl rfl ?_
      obtain ⟨r, h1, h⟩ := bind_el h
      obtain ⟨r_2, rfl⟩ : ∃ z, z = r := ⟨_, rfl⟩
      try dsimp only at h
      refine v_callVl (As := [.int x2, .int (top_P x2.toNatClampNeg)]) (st := [.ref (aL 0)]) (wr := [(aP 0, .inr (0, [.ref (aP 1), .ref (aP 2)])), (aP 1, .inl (cI, 20, .inl top_P)), (aP 2, .inl (cI, 20, .inl bottom_P))]) (w1 := (wL cI cJ aL netOf_L left_L right_L trackOf_L touched_L below_L byLeft_L size_L tracks_L)) (ws' := (wLP cI cJ aL aP netOf_L left_L right_L trackOf_L touched_L below_L byLeft_L size_L tracks_L top_P bottom_P)) (isC := [0, 1, 2, 3, 4, 5, 6, 7]) (isR := [8, 9, 10]) (pm := [3, 4, 5, 6, 7, 8, 9, 10, 0, 1, 2]) C (c_X1_touching l D cI cJ aL netOf_L left_L right_L trackOf_L touched_L below_L byLeft_L size_L tracks_L x2 (top_P x2.toNatClampNeg) r_2 h1) cw_X1_touching 0 rfl rfl m1_204 dX1_findBelow_41 rfl ⟨Nat.le_of_ble_eq_true rfl, Nat.le_of_ble_eq_true rfl⟩ (Nat.le_of_ble_eq_true rfl) ⟨Nat.le_refl 0, Nat.le_refl 0⟩ ⟨rfl, rfl, rfl, rfl, by decide, rfl, rfl⟩ ?_
      refine v_aload_n C 2 dX1_findBelow_44 rfl rfl ?_
      refine v_iload_n C 4 dX1_findBelow_45 rfl rfl ?_
      refine v_iload C 0 dX1_findBelow_46 rfl ?_
      obtain ⟨r, h1, h⟩ := bind_el h
      obtain ⟨r_3, rfl⟩ : ∃ z, z = r := ⟨_, rfl⟩
      try dsimp only at h
      refine v_callVl (As := [.int x2, .int (bottom_P x2.toNatClampNeg)]) (st := [.long r_2, .ref (aL 0)]) (wr := [(aP 0, .inr (0, [.ref (aP 1), .ref (aP 2)])), (aP 1, .inl (cI, 20, .inl top_P)), (aP 2, .inl (cI, 20, .inl bottom_P))]) (w1 := (wL cI cJ aL netOf_L left_L right_L trackOf_L touched_L below_L byLeft_L size_L tracks_L)) (ws' := (wLP cI cJ aL aP netOf_L left_L right_L trackOf_L touched_L below_L byLeft_L size_L tracks_L top_P bottom_P)) (isC := [0, 1, 2, 3, 4, 5, 6, 7]) (isR := [8, 9, 10]) (pm := [3, 4, 5, 6, 7, 8, 9, 10, 0, 1, 2]) C (c_X1_touching l D cI cJ aL netOf_L left_L right_L trackOf_L touched_L below_L byLeft_L size_L tracks_L x2 (bottom_P x2.toNatClampNeg) r_3 h1) cw_X1_touching 0 rfl rfl m1_204 dX1_findBelow_48 rfl ⟨Nat.le_of_ble_eq_true rfl, Nat.le_of_ble_eq_true rfl⟩ (Nat.le_of_ble_eq_true rfl) ⟨Nat.le_refl 0, Nat.le_refl 0⟩ ⟨rfl, rfl, rfl, rfl, by decide, rfl, rfl⟩ ?_
      obtain ⟨r, h1, h⟩ := bind_el h
      obtain ⟨below_L_4, rfl⟩ : ∃ z, z = r := ⟨_, rfl⟩
      try dsimp only at h
      refine v_callVv (As := [.long r_2, .long r_3]) (st := []) (wr := [(aP 0, .inr (0, [.ref (aP 1), .ref (aP 2)])), (aP 1, .inl (cI, 20, .inl top_P)), (aP 2, .inl (cI, 20, .inl bottom_P))]) (w1 := (wL cI cJ aL netOf_L left_L right_L trackOf_L touched_L below_L_4 byLeft_L size_L tracks_L)) (ws' := (wLP cI cJ aL aP netOf_L left_L right_L trackOf_L touched_L below_L_4 byLeft_L size_L tracks_L top_P bottom_P)) (isC := [0, 1, 2, 3, 4, 5, 6, 7]) (isR := [8, 9, 10]) (pm := [3, 4, 5, 6, 7, 8, 9, 10, 0, 1, 2]) C (c_X1_addBelow l D cI cJ aL netOf_L left_L right_L trackOf_L touched_L below_L byLeft_L size_L tracks_L r_2 r_3 below_L_4 h1) cw_X1_addBelow 0 rfl rfl m1_212 dX1_findBelow_51 rfl ⟨Nat.le_of_ble_eq_true rfl, Nat.le_of_ble_eq_true rfl⟩ (Nat.le_of_ble_eq_true rfl) ⟨Nat.le_refl 0, Nat.le_refl 0⟩ ⟨rfl, rfl, rfl, rfl, by decide, rfl, rfl⟩ ?_
      refine v_iinc C [(2, .int (x2 + 1)), (4, .int (bottom_P x2.toNatClampNeg)), (3, .int (top_P x2.toNatClampNeg)), (0, .ref (aL 0)), (1, .ref (aP 0))] 4 dX1_findBelow_54 rfl rfl (by decide) rfl ?_
      refine v_goto (tgt := 10) C dX1_findBelow_57 (by decide) ?_
      refine v_perm [3, 4, 0] rfl ?_
      cases h
      exact hl _ rfl
set_option maxHeartbeats 4000000 in
set_option maxRecDepth 100000 in
theorem t_X1_findBelow_L10 {p : Program} {l : Launch} {e : Env} {s : State} {m : MethodId} {args : Array Value} {below : List Frame} {meth : Method} {c : Code} {D : va_G} {A : Nat → Prop} {cI cJ : ClassId} {Q : State → Prop} (C : Cx p s m args c cX1_findBelow 5 RX1 D A cI cJ) {aL : Nat → Nat} {aP : Nat → Nat} {netOf_L : (Nat → Int32)} {left_L : (Nat → Int32)} {right_L : (Nat → Int32)} {trackOf_L : (Nat → Int32)} {touched_L : (Nat → Int32)} {byLeft_L : (Nat → Int32)} {size_L : Int32} {tracks_L : Int32} {top_P : (Nat → Int32)} {bottom_P : (Nat → Int32)} {n8 : Nat} {s9 : (Int32 × (Nat → Int64))} {o8 : (Nat → Int64)} (h : lp (f_X1_findBelow_B10 netOf_L touched_L size_L top_P bottom_P) n8 s9 = some o8) (hk : V p l e (rmO 2 48) s m args below meth c 5 D A 0 0 Q 60 [] [] (wLP cI cJ aL aP netOf_L left_L right_L trackOf_L touched_L o8 byLeft_L size_L tracks_L top_P bottom_P)) : V p l e (rmO 2 48) s m args below meth c 5 D A 0 0 Q 10 [(0, .ref (aL 0)), (1, .ref (aP 0)), (2, .int s9.1)] [] (wLP cI cJ aL aP netOf_L left_L right_L trackOf_L touched_L s9.2 byLeft_L size_L tracks_L top_P bottom_P) := lp_ok (Pσ := fun s8 => V p l e (rmO 2 48) s m args below meth c 5 D A 0 0 Q 10 [(0, .ref (aL 0)), (1, .ref (aP 0)), (2, .int s8.1)] [] (wLP cI cJ aL aP netOf_L left_L right_L trackOf_L touched_L s8.2 byLeft_L size_L tracks_L top_P bottom_P)) (Pρ := fun r8 => V p l e (rmO 2 48) s m args below meth c 5 D A 0 0 Q 60 [] [] (wLP cI cJ aL aP netOf_L left_L right_L trackOf_L touched_L r8 byLeft_L size_L tracks_L top_P bottom_P)) (fun s o h hl hx => t_X1_findBelow_B10 C s o h hl hx) n8 s9 o8 h hk
set_option maxHeartbeats 4000000 in
set_option maxRecDepth 100000 in
theorem c_X1_findBelow (l : Launch) (D : va_G) (cI cJ : ClassId) (aL : Nat → Nat) (aP : Nat → Nat) (netOf_L : (Nat → Int32)) (left_L : (Nat → Int32)) (right_L : (Nat → Int32)) (trackOf_L : (Nat → Int32)) (touched_L : (Nat → Int32)) (below_L : (Nat → Int64)) (byLeft_L : (Nat → Int32)) (size_L : Int32) (tracks_L : Int32) (top_P : (Nat → Int32)) (bottom_P : (Nat → Int32)) (below_L' : (Nat → Int64)) (h : f_X1_findBelow netOf_L touched_L below_L size_L top_P bottom_P = some below_L') : Ctv l D cI cJ yX1_findBelow cX1_findBelow 5 none 2 48 [.ref (aL 0), .ref (aP 0)] (wLP cI cJ aL aP netOf_L left_L right_L trackOf_L touched_L below_L byLeft_L size_L tracks_L top_P bottom_P) (wLP cI cJ aL aP netOf_L left_L right_L trackOf_L touched_L below_L' byLeft_L size_L tracks_L top_P bottom_P) := by
  refine mk_v [(0, .ref (aL 0)), (1, .ref (aP 0))] (by decide) rfl (Nat.le_of_ble_eq_true rfl) rfl (fun p e s m args below meth c A Q C hk => ?_)
  unfold f_X1_findBelow at h
  refine v_aload_n C 0 dX1_findBelow_0 rfl rfl ?_
  refine v_get C 0 5 iuX1 rfl rfl (by decide) m1_77 rfl rfl dX1_findBelow_1 ?_
  refine v_lconst (v := 0) C dX1_findBelow_4 (by decide) ?_
  obtain ⟨r, h1, h⟩ := bind_el h
  obtain ⟨below_L_1, rfl⟩ : ∃ z, z = r := ⟨_, rfl⟩
  try dsimp only at h
  refine v_callSv (As := [.ref (aL 6), .long 0]) (st := []) (wr := [(aL 0, .inr (1, [.ref (aL 1), .ref (aL 2), .ref (aL 3), .ref (aL 4), .ref (aL 5), .ref (aL 6), .ref (aL 7), .int size_L, .int tracks_L])), (aL 1, .inl (cI, 38, .inl netOf_L)), (aL 2, .inl (cI, 38, .inl left_L)), (aL 3, .inl (cI, 38, .inl right_L)), (aL 4, .inl (cI, 38, .inl trackOf_L)), (aL 5, .inl (cI, 38, .inl touched_L)), (aL 7, .inl (cI, 38, .inl byLeft_L)), (aP 0, .inr (0, [.ref (aP 1), .ref (aP 2)])), (aP 1, .inl (cI, 20, .inl top_P)), (aP 2, .inl (cI, 20, .inl bottom_P))]) (w1 := (wAJ cI cJ (fun _ => aL 6) below_L_1)) (ws' := (wLP cI cJ aL aP netOf_L left_L right_L trackOf_L touched_L below_L_1 byLeft_L size_L tracks_L top_P bottom_P)) (isC := [6]) (isR := [0, 1, 2, 3, 4, 5, 7, 8, 9, 10]) (pm := [0, 1, 2, 3, 4, 5, 10, 6, 7, 8, 9]) C (c_J7_fill_d0a16 l D cI cJ (fun _ => aL 6) below_L 0 below_L_1 h1) cw_J7_fill_d0a16 m1_201 dX1_findBelow_5 rfl ⟨Nat.le_of_ble_eq_true rfl, Nat.le_of_ble_eq_true rfl⟩ (Nat.le_of_ble_eq_true rfl) ⟨Nat.le_refl 0, Nat.le_refl 0⟩ ⟨rfl, rfl, rfl, rfl, by decide, rfl, rfl⟩ ?_
  refine v_iconst (v := 0) C dX1_findBelow_8 (by decide) ?_
  refine v_istore_n C [(2, .int 0), (0, .ref (aL 0)), (1, .ref (aP 0))] dX1_findBelow_9 rfl (by decide) rfl ?_
  obtain ⟨r, h1, h⟩ := bind_el h
  refine v_perm [1, 2, 0] rfl ?_
  obtain ⟨below_L_5, rfl⟩ : ∃ z, z = r := ⟨_, rfl⟩
  refine t_X1_findBelow_L10 C (s9 := (0, below_L_1)) h1 ?_
  show V p l e (rmO 2 48) s m args below meth c 5 D A 0 0 Q 60 [] [] (wLP cI cJ aL aP netOf_L left_L right_L trackOf_L touched_L below_L_5 byLeft_L size_L tracks_L top_P bottom_P)
  try dsimp only at h
  cases h
  exact hk _ _ dX1_findBelow_60
def f_X1_draw_B6 (x2 : Int32) (top_P : (Nat → Int32)) (bottom_P : (Nat → Int32)) : (Int32 × (Nat → Int32) × (Nat → Int32) × (Nat → Int32) × (Nat → Int32) × Int32) → Option ((Int32 × (Nat → Int32) × (Nat → Int32) × (Nat → Int32) × (Nat → Int32) × Int32) ⊕ ((Nat → Int32) × (Nat → Int32) × (Nat → Int32) × (Nat → Int32) × Int32))
  | (x3, netOf_L, left_L, right_L, touched_L, size_L) => if 9 < x3 then (some (.inr (netOf_L, left_L, right_L, touched_L, size_L))) else ((f_X0_isLong top_P bottom_P x3).bind (fun r => match r with | r_3 => if r_3 = 0 then (some (.inl (x3 + 1, netOf_L, left_L, right_L, touched_L, size_L))) else (if x2 = 0 then ((f_X1_addWhole netOf_L left_L right_L touched_L size_L top_P bottom_P x3).bind (fun r => match r with | (netOf_L_4, left_L_5, right_L_6, touched_L_7, size_L_8) => some (.inl (x3 + 1, netOf_L_4, left_L_5, right_L_6, touched_L_7, size_L_8)))) else ((f_X1_addPieces netOf_L left_L right_L touched_L size_L top_P bottom_P x3).bind (fun r => match r with | (netOf_L_9, left_L_10, right_L_11, touched_L_12, size_L_13) => some (.inl (x3 + 1, netOf_L_9, left_L_10, right_L_11, touched_L_12, size_L_13)))))))
def f_X1_draw (netOf_L : (Nat → Int32)) (left_L : (Nat → Int32)) (right_L : (Nat → Int32)) (touched_L : (Nat → Int32)) (below_L : (Nat → Int64)) (top_P : (Nat → Int32)) (bottom_P : (Nat → Int32)) (x2 : Int32) : Option ((Nat → Int32) × (Nat → Int32) × (Nat → Int32) × (Nat → Int32) × (Nat → Int64) × Int32 × Int32) := (f_X1_clear).bind (fun r => match r with | (size_L_1, tracks_L_2) => (lp (f_X1_draw_B6 x2 top_P bottom_P) 64 (1, netOf_L, left_L, right_L, touched_L, size_L_1)).bind (fun r => match r with | (netOf_L_14, left_L_15, right_L_16, touched_L_17, size_L_18) => (f_X1_findBelow netOf_L_14 touched_L_17 below_L size_L_18 top_P bottom_P).bind (fun r => match r with | below_L_19 => some (netOf_L_14, left_L_15, right_L_16, touched_L_17, below_L_19, size_L_18, tracks_L_2))))
theorem cw_X1_draw : CWv yX1_draw cX1_draw 4 none RX1 2 := ⟨m1_175, ms1_8, m1_4, m1_176, rfl, by decide, by decide, by decide +kernel⟩
set_option maxHeartbeats 4000000 in
set_option maxRecDepth 100000 in
theorem t_X1_draw_B6 {p : Program} {l : Launch} {e : Env} {s : State} {m : MethodId} {args : Array Value} {below : List Frame} {meth : Method} {c : Code} {D : va_G} {A : Nat → Prop} {cI cJ : ClassId} {Q : State → Prop} (C : Cx p s m args c cX1_draw 4 RX1 D A cI cJ) {aL : Nat → Nat} {aP : Nat → Nat} {x2 : Int32} {trackOf_L : (Nat → Int32)} {below_L : (Nat → Int64)} {byLeft_L : (Nat → Int32)} {tracks_L : Int32} {top_P : (Nat → Int32)} {bottom_P : (Nat → Int32)} (s8 : (Int32 × (Nat → Int32) × (Nat → Int32) × (Nat → Int32) × (Nat → Int32) × Int32)) (o8 : (Int32 × (Nat → Int32) × (Nat → Int32) × (Nat → Int32) × (Nat → Int32) × Int32) ⊕ ((Nat → Int32) × (Nat → Int32) × (Nat → Int32) × (Nat → Int32) × Int32)) (h : f_X1_draw_B6 x2 top_P bottom_P s8 = some o8) (hl : ∀ s8, o8 = .inl s8 → V p l e (rmO 4 87) s m args below meth c 4 D A 0 0 Q 6 [(0, .ref (aL 0)), (1, .ref (aP 0)), (2, .int x2), (3, .int s8.1)] [] (wLP cI cJ aL aP s8.2.1 s8.2.2.1 s8.2.2.2.1 trackOf_L s8.2.2.2.2.1 below_L byLeft_L s8.2.2.2.2.2 tracks_L top_P bottom_P)) (hx : ∀ r8, o8 = .inr r8 → V p l e (rmO 4 87) s m args below meth c 4 D A 0 0 Q 45 [(0, .ref (aL 0)), (1, .ref (aP 0))] [] (wLP cI cJ aL aP r8.1 r8.2.1 r8.2.2.1 trackOf_L r8.2.2.2.1 below_L byLeft_L r8.2.2.2.2 tracks_L top_P bottom_P)) : V p l e (rmO 4 87) s m args below meth c 4 D A 0 0 Q 6 [(0, .ref (aL 0)), (1, .ref (aP 0)), (2, .int x2), (3, .int s8.1)] [] (wLP cI cJ aL aP s8.2.1 s8.2.2.1 s8.2.2.2.1 trackOf_L s8.2.2.2.2.1 below_L byLeft_L s8.2.2.2.2.2 tracks_L top_P bottom_P) := by
  obtain ⟨x3, netOf_L, left_L, right_L, touched_L, size_L⟩ := s8
  unfold f_X1_draw_B6 at h
  show V p l e (rmO 4 87) s m args below meth c 4 D A 0 0 Q 6 [(0, .ref (aL 0)), (1, .ref (aP 0)), (2, .int x2), (3, .int x3)] [] (wLP cI cJ aL aP netOf_L left_L right_L trackOf_L touched_L below_L byLeft_L size_L tracks_L top_P bottom_P)
  refine v_iload_n C 3 dX1_draw_6 rfl rfl ?_
  refine v_bipush (v := 9) C dX1_draw_7 (by decide) ?_
  refine v_icmp_gt (tgt := 45) C dX1_draw_9 (by decide) h (fun h => ?_) (fun h => ?_)
  · refine v_perm [0, 1] rfl ?_
    cases h
    exact hx _ rfl
  · refine v_aload_n C 1 dX1_draw_12 rfl rfl ?_
    refine v_iload_n C 3 dX1_draw_13 rfl rfl ?_
    obtain ⟨r, h1, h⟩ := bind_el h
    obtain ⟨r_3, rfl⟩ : ∃ z, z = r := ⟨_, rfl⟩
    try dsimp only at h
    refine v_callNi (As := [.int x3]) (st := []) (wr := [(aL 0, .inr (1, [.ref (aL 1), .ref (aL 2), .ref (aL 3), .ref (aL 4), .ref (aL 5), .ref (aL 6), .ref (aL 7), .int size_L, .int tracks_L])), (aL 1, .inl (cI, 38, .inl netOf_L)), (aL 2, .inl (cI, 38, .inl left_L)), (aL 3, .inl (cI, 38, .inl right_L)), (aL 4, .inl (cI, 38, .inl trackOf_L)), (aL 5, .inl (cI, 38, .inl touched_L)), (aL 6, .inl (cJ, 38, .inr (.inl below_L))), (aL 7, .inl (cI, 38, .inl byLeft_L))]) (w1 := (wP cI cJ aP top_P bottom_P)) (ws' := (wLP cI cJ aL aP netOf_L left_L right_L trackOf_L touched_L below_L byLeft_L size_L tracks_L top_P bottom_P)) (isC := [8, 9, 10]) (isR := [0, 1, 2, 3, 4, 5, 6, 7]) (pm := [0, 1, 2, 3, 4, 5, 6, 7, 8, 9, 10]) C (c_X0_isLong l D cI cJ aP top_P bottom_P x3 r_3 h1) cw_X0_isLong 0 rfl rfl nw_18 dX1_draw_14 rfl ⟨Nat.le_of_ble_eq_true rfl, Nat.le_of_ble_eq_true rfl⟩ (Nat.le_of_ble_eq_true rfl) ⟨Nat.le_refl 0, Nat.le_refl 0⟩ ⟨rfl, rfl, rfl, rfl, by decide, rfl, rfl⟩ ?_
    refine v_if_eq (tgt := 39) C dX1_draw_17 (by decide) h (fun h => ?_) (fun h => ?_)
    · refine v_iinc C [(3, .int (x3 + 1)), (0, .ref (aL 0)), (1, .ref (aP 0)), (2, .int x2)] 3 dX1_draw_39 rfl rfl (by decide) rfl ?_
      refine v_goto (tgt := 6) C dX1_draw_42 (by decide) ?_
      refine v_perm [1, 2, 3, 0] rfl ?_
      cases h
      exact hl _ rfl
    · refine v_iload_n C 2 dX1_draw_20 rfl rfl ?_
      refine v_if_eq (tgt := 33) C dX1_draw_21 (by decide) h (fun h => ?_) (fun h => ?_)
      · refine v_aload_n C 0 dX1_draw_33 rfl rfl ?_
        refine v_aload_n C 1 dX1_draw_34 rfl rfl ?_
        refine v_iload_n C 3 dX1_draw_35 rfl rfl ?_
        obtain ⟨r, h1, h⟩ := bind_el h
        obtain ⟨netOf_L_4, left_L_5, right_L_6, touched_L_7, size_L_8⟩ := r
        try dsimp only at h
        refine v_callVv (As := [.ref (aP 0), .int x3]) (st := []) (wr := []) (w1 := (wLP cI cJ aL aP netOf_L_4 left_L_5 right_L_6 trackOf_L touched_L_7 below_L byLeft_L size_L_8 tracks_L top_P bottom_P)) (ws' := (wLP cI cJ aL aP netOf_L_4 left_L_5 right_L_6 trackOf_L touched_L_7 below_L byLeft_L size_L_8 tracks_L top_P bottom_P)) (isC := [0, 1, 2, 3, 4, 5, 6, 7, 8, 9, 10]) (isR := []) (pm := [0, 1, 2, 3, 4, 5, 6, 7, 8, 9, 10]) C (c_X1_addWhole l D cI cJ aL aP netOf_L left_L right_L trackOf_L touched_L below_L byLeft_L size_L tracks_L top_P bottom_P x3 netOf_L_4 left_L_5 right_L_6 touched_L_7 size_L_8 h1) cw_X1_addWhole 0 rfl rfl m1_191 dX1_draw_36 rfl ⟨Nat.le_of_ble_eq_true rfl, Nat.le_of_ble_eq_true rfl⟩ (Nat.le_of_ble_eq_true rfl) ⟨Nat.le_refl 0, Nat.le_refl 0⟩ ⟨rfl, rfl, rfl, rfl, by decide, rfl, rfl⟩ ?_
        refine v_iinc C [(3, .int (x3 + 1)), (0, .ref (aL 0)), (1, .ref (aP 0)), (2, .int x2)] 3 dX1_draw_39 rfl rfl (by decide) rfl ?_
        refine v_goto (tgt := 6) C dX1_draw_42 (by decide) ?_
        refine v_perm [1, 2, 3, 0] rfl ?_
        cases h
        exact hl _ rfl
      · refine v_aload_n C 0 dX1_draw_24 rfl rfl ?_
        refine v_aload_n C 1 dX1_draw_25 rfl rfl ?_
        refine v_iload_n C 3 dX1_draw_26 rfl rfl ?_
        obtain ⟨r, h1, h⟩ := bind_el h
        obtain ⟨netOf_L_9, left_L_10, right_L_11, touched_L_12, size_L_13⟩ := r
        try dsimp only at h
        refine v_callVv (As := [.ref (aP 0), .int x3]) (st := []) (wr := []) (w1 := (wLP cI cJ aL aP netOf_L_9 left_L_10 right_L_11 trackOf_L touched_L_12 below_L byLeft_L size_L_13 tracks_L top_P bottom_P)) (ws' := (wLP cI cJ aL aP netOf_L_9 left_L_10 right_L_11 trackOf_L touched_L_12 below_L byLeft_L size_L_13 tracks_L top_P bottom_P)) (isC := [0, 1, 2, 3, 4, 5, 6, 7, 8, 9, 10]) (isR := []) (pm := [0, 1, 2, 3, 4, 5, 6, 7, 8, 9, 10]) C (c_X1_addPieces l D cI cJ aL aP netOf_L left_L right_L trackOf_L touched_L below_L byLeft_L size_L tracks_L top_P bottom_P x3 netOf_L_9 left_L_10 right_L_11 touched_L_12 size_L_13 h1) cw_X1_addPieces 0 rfl rfl m1_182 dX1_draw_27 rfl ⟨Nat.le_of_ble_eq_true rfl, Nat.le_of_ble_eq_true rfl⟩ (Nat.le_of_ble_eq_true rfl) ⟨Nat.le_refl 0, Nat.le_refl 0⟩ ⟨rfl, rfl, rfl, rfl, by decide, rfl, rfl⟩ ?_
        refine v_goto (tgt := 39) C dX1_draw_30 (by decide) ?_
        refine v_iinc C [(3, .int (x3 + 1)), (0, .ref (aL 0)), (1, .ref (aP 0)), (2, .int x2)] 3 dX1_draw_39 rfl rfl (by decide) rfl ?_
        refine v_goto (tgt := 6) C dX1_draw_42 (by decide) ?_
        refine v_perm [1, 2, 3, 0] rfl ?_
        cases h
        exact hl _ rfl
set_option maxHeartbeats 4000000 in
set_option maxRecDepth 100000 in
theorem t_X1_draw_L6 {p : Program} {l : Launch} {e : Env} {s : State} {m : MethodId} {args : Array Value} {below : List Frame} {meth : Method} {c : Code} {D : va_G} {A : Nat → Prop} {cI cJ : ClassId} {Q : State → Prop} (C : Cx p s m args c cX1_draw 4 RX1 D A cI cJ) {aL : Nat → Nat} {aP : Nat → Nat} {x2 : Int32} {trackOf_L : (Nat → Int32)} {below_L : (Nat → Int64)} {byLeft_L : (Nat → Int32)} {tracks_L : Int32} {top_P : (Nat → Int32)} {bottom_P : (Nat → Int32)} {n8 : Nat} {s9 : (Int32 × (Nat → Int32) × (Nat → Int32) × (Nat → Int32) × (Nat → Int32) × Int32)} {o8 : ((Nat → Int32) × (Nat → Int32) × (Nat → Int32) × (Nat → Int32) × Int32)} (h : lp (f_X1_draw_B6 x2 top_P bottom_P) n8 s9 = some o8) (hk : V p l e (rmO 4 87) s m args below meth c 4 D A 0 0 Q 45 [(0, .ref (aL 0)), (1, .ref (aP 0))] [] (wLP cI cJ aL aP o8.1 o8.2.1 o8.2.2.1 trackOf_L o8.2.2.2.1 below_L byLeft_L o8.2.2.2.2 tracks_L top_P bottom_P)) : V p l e (rmO 4 87) s m args below meth c 4 D A 0 0 Q 6 [(0, .ref (aL 0)), (1, .ref (aP 0)), (2, .int x2), (3, .int s9.1)] [] (wLP cI cJ aL aP s9.2.1 s9.2.2.1 s9.2.2.2.1 trackOf_L s9.2.2.2.2.1 below_L byLeft_L s9.2.2.2.2.2 tracks_L top_P bottom_P) := lp_ok (Pσ := fun s8 => V p l e (rmO 4 87) s m args below meth c 4 D A 0 0 Q 6 [(0, .ref (aL 0)), (1, .ref (aP 0)), (2, .int x2), (3, .int s8.1)] [] (wLP cI cJ aL aP s8.2.1 s8.2.2.1 s8.2.2.2.1 trackOf_L s8.2.2.2.2.1 below_L byLeft_L s8.2.2.2.2.2 tracks_L top_P bottom_P)) (Pρ := fun r8 => V p l e (rmO 4 87) s m args below meth c 4 D A 0 0 Q 45 [(0, .ref (aL 0)), (1, .ref (aP 0))] [] (wLP cI cJ aL aP r8.1 r8.2.1 r8.2.2.1 trackOf_L r8.2.2.2.1 below_L byLeft_L r8.2.2.2.2 tracks_L top_P bottom_P)) (fun s o h hl hx => t_X1_draw_B6 C s o h hl hx) n8 s9 o8 h hk
set_option maxHeartbeats 4000000 in
set_option maxRecDepth 100000 in
theorem c_X1_draw (l : Launch) (D : va_G) (cI cJ : ClassId) (aL : Nat → Nat) (aP : Nat → Nat) (netOf_L : (Nat → Int32)) (left_L : (Nat → Int32)) (right_L : (Nat → Int32)) (trackOf_L : (Nat → Int32)) (touched_L : (Nat → Int32)) (below_L : (Nat → Int64)) (byLeft_L : (Nat → Int32)) (size_L : Int32) (tracks_L : Int32) (top_P : (Nat → Int32)) (bottom_P : (Nat → Int32)) (x2 : Int32) (netOf_L' : (Nat → Int32)) (left_L' : (Nat → Int32)) (right_L' : (Nat → Int32)) (touched_L' : (Nat → Int32)) (below_L' : (Nat → Int64)) (size_L' : Int32) (tracks_L' : Int32) (h : f_X1_draw netOf_L left_L right_L touched_L below_L top_P bottom_P x2 = some (netOf_L', left_L', right_L', touched_L', below_L', size_L', tracks_L')) : Ctv l D cI cJ yX1_draw cX1_draw 4 none 4 87 [.ref (aL 0), .ref (aP 0), .int x2] (wLP cI cJ aL aP netOf_L left_L right_L trackOf_L touched_L below_L byLeft_L size_L tracks_L top_P bottom_P) (wLP cI cJ aL aP netOf_L' left_L' right_L' trackOf_L touched_L' below_L' byLeft_L size_L' tracks_L' top_P bottom_P) := by
  refine mk_v [(0, .ref (aL 0)), (1, .ref (aP 0)), (2, .int x2)] (by decide) rfl (Nat.le_of_ble_eq_true rfl) rfl (fun p e s m args below meth c A Q C hk => ?_)
  unfold f_X1_draw at h
  refine v_aload_n C 0 dX1_draw_0 rfl rfl ?_
  obtain ⟨r, h1, h⟩ := bind_el h
  obtain ⟨size_L_1, tracks_L_2⟩ := r
  try dsimp only at h
  refine v_callVv (As := []) (st := []) (wr := [(aP 0, .inr (0, [.ref (aP 1), .ref (aP 2)])), (aP 1, .inl (cI, 20, .inl top_P)), (aP 2, .inl (cI, 20, .inl bottom_P))]) (w1 := (wL cI cJ aL netOf_L left_L right_L trackOf_L touched_L below_L byLeft_L size_L_1 tracks_L_2)) (ws' := (wLP cI cJ aL aP netOf_L left_L right_L trackOf_L touched_L below_L byLeft_L size_L_1 tracks_L_2 top_P bottom_P)) (isC := [0, 1, 2, 3, 4, 5, 6, 7]) (isR := [8, 9, 10]) (pm := [3, 4, 5, 6, 7, 8, 9, 10, 0, 1, 2]) C (c_X1_clear l D cI cJ aL netOf_L left_L right_L trackOf_L touched_L below_L byLeft_L size_L tracks_L size_L_1 tracks_L_2 h1) cw_X1_clear 0 rfl rfl m1_177 dX1_draw_1 rfl ⟨Nat.le_of_ble_eq_true rfl, Nat.le_of_ble_eq_true rfl⟩ (Nat.le_of_ble_eq_true rfl) ⟨Nat.le_refl 0, Nat.le_refl 0⟩ ⟨rfl, rfl, rfl, rfl, by decide, rfl, rfl⟩ ?_
  refine v_iconst (v := 1) C dX1_draw_4 (by decide) ?_
  refine v_istore_n C [(3, .int 1), (0, .ref (aL 0)), (1, .ref (aP 0)), (2, .int x2)] dX1_draw_5 rfl (by decide) rfl ?_
  obtain ⟨r, h1, h⟩ := bind_el h
  refine v_perm [1, 2, 3, 0] rfl ?_
  obtain ⟨netOf_L_14, left_L_15, right_L_16, touched_L_17, size_L_18⟩ := r
  refine t_X1_draw_L6 C (s9 := (1, netOf_L, left_L, right_L, touched_L, size_L_1)) h1 ?_
  show V p l e (rmO 4 87) s m args below meth c 4 D A 0 0 Q 45 [(0, .ref (aL 0)), (1, .ref (aP 0))] [] (wLP cI cJ aL aP netOf_L_14 left_L_15 right_L_16 trackOf_L touched_L_17 below_L byLeft_L size_L_18 tracks_L_2 top_P bottom_P)
  try dsimp only at h
  refine v_aload_n C 0 dX1_draw_45 rfl rfl ?_
  refine v_aload_n C 1 dX1_draw_46 rfl rfl ?_
  obtain ⟨r, h1, h⟩ := bind_el h
  obtain ⟨below_L_19, rfl⟩ : ∃ z, z = r := ⟨_, rfl⟩
  try dsimp only at h
  refine v_callVv (As := [.ref (aP 0)]) (st := []) (wr := []) (w1 := (wLP cI cJ aL aP netOf_L_14 left_L_15 right_L_16 trackOf_L touched_L_17 below_L_19 byLeft_L size_L_18 tracks_L_2 top_P bottom_P)) (ws' := (wLP cI cJ aL aP netOf_L_14 left_L_15 right_L_16 trackOf_L touched_L_17 below_L_19 byLeft_L size_L_18 tracks_L_2 top_P bottom_P)) (isC := [0, 1, 2, 3, 4, 5, 6, 7, 8, 9, 10]) (isR := []) (pm := [0, 1, 2, 3, 4, 5, 6, 7, 8, 9, 10]) C (c_X1_findBelow l D cI cJ aL aP netOf_L_14 left_L_15 right_L_16 trackOf_L touched_L_17 below_L byLeft_L size_L_18 tracks_L_2 top_P bottom_P below_L_19 h1) cw_X1_findBelow 0 rfl rfl m1_197 dX1_draw_47 rfl ⟨Nat.le_of_ble_eq_true rfl, Nat.le_of_ble_eq_true rfl⟩ (Nat.le_of_ble_eq_true rfl) ⟨Nat.le_refl 0, Nat.le_refl 0⟩ ⟨rfl, rfl, rfl, rfl, by decide, rfl, rfl⟩ ?_
  cases h
  exact hk _ _ dX1_draw_50
def f_X1_countPairs_B4 (below_L : (Nat → Int64)) (size_L : Int32) : (Int32 × Int32) → Option ((Int32 × Int32) ⊕ Int32)
  | (x1, x2) => if size_L ≤ x2 then (some (.inr x1)) else (bnd x2 38 ((f_J13_bitCount_95d88 (below_L x2.toNatClampNeg)).bind (fun r => match r with | r_1 => some (.inl (x1 + r_1, x2 + 1)))))
def f_X1_countPairs (below_L : (Nat → Int64)) (size_L : Int32) : Option Int32 := (lp (f_X1_countPairs_B4 below_L size_L) 64 (0, 0)).bind (fun r => match r with | x1_2 => some x1_2)
theorem cw_X1_countPairs : CWv yX1_countPairs cX1_countPairs 3 (some .int) RX1 0 := ⟨m1_221, ms2_1, m1_4, m1_222, rfl, by decide, by decide, by decide +kernel⟩
set_option maxHeartbeats 4000000 in
set_option maxRecDepth 100000 in
theorem t_X1_countPairs_B4 {p : Program} {l : Launch} {e : Env} {s : State} {m : MethodId} {args : Array Value} {below : List Frame} {meth : Method} {c : Code} {D : va_G} {A : Nat → Prop} {cI cJ : ClassId} {Q : State → Prop} (C : Cx p s m args c cX1_countPairs 3 RX1 D A cI cJ) {aL : Nat → Nat} {netOf_L : (Nat → Int32)} {left_L : (Nat → Int32)} {right_L : (Nat → Int32)} {trackOf_L : (Nat → Int32)} {touched_L : (Nat → Int32)} {below_L : (Nat → Int64)} {byLeft_L : (Nat → Int32)} {size_L : Int32} {tracks_L : Int32} (s8 : (Int32 × Int32)) (o8 : (Int32 × Int32) ⊕ Int32) (h : f_X1_countPairs_B4 below_L size_L s8 = some o8) (hl : ∀ s8, o8 = .inl s8 → V p l e (rmO 1 21) s m args below meth c 3 D A 0 0 Q 4 [(0, .ref (aL 0)), (1, .int s8.1), (2, .int s8.2)] [] (wL cI cJ aL netOf_L left_L right_L trackOf_L touched_L below_L byLeft_L size_L tracks_L)) (hx : ∀ r8, o8 = .inr r8 → V p l e (rmO 1 21) s m args below meth c 3 D A 0 0 Q 30 [(1, .int r8)] [] (wL cI cJ aL netOf_L left_L right_L trackOf_L touched_L below_L byLeft_L size_L tracks_L)) : V p l e (rmO 1 21) s m args below meth c 3 D A 0 0 Q 4 [(0, .ref (aL 0)), (1, .int s8.1), (2, .int s8.2)] [] (wL cI cJ aL netOf_L left_L right_L trackOf_L touched_L below_L byLeft_L size_L tracks_L) := by
  obtain ⟨x1, x2⟩ := s8
  unfold f_X1_countPairs_B4 at h
  show V p l e (rmO 1 21) s m args below meth c 3 D A 0 0 Q 4 [(0, .ref (aL 0)), (1, .int x1), (2, .int x2)] [] (wL cI cJ aL netOf_L left_L right_L trackOf_L touched_L below_L byLeft_L size_L tracks_L)
  refine v_iload_n C 2 dX1_countPairs_4 rfl rfl ?_
  refine v_aload_n C 0 dX1_countPairs_5 rfl rfl ?_
  refine v_get C 0 7 iuX1 rfl rfl (by decide) m1_80 rfl rfl dX1_countPairs_6 ?_
  refine v_icmp_ge (tgt := 30) C dX1_countPairs_9 (by decide) h (fun h => ?_) (fun h => ?_)
  · refine v_perm [1] rfl ?_
    cases h
    exact hx _ rfl
  · refine v_iload_n C 1 dX1_countPairs_12 rfl rfl ?_
    refine v_aload_n C 0 dX1_countPairs_13 rfl rfl ?_
    refine v_get C 0 5 iuX1 rfl rfl (by decide) m1_77 rfl rfl dX1_countPairs_14 ?_
    refine v_iload_n C 2 dX1_countPairs_17 rfl rfl ?_
    refine v_lald C 6 rfl dX1_countPairs_18 h (fun h => ?_)
    obtain ⟨r, h1, h⟩ := bind_el h
    obtain ⟨r_1, rfl⟩ : ∃ z, z = r := ⟨_, rfl⟩
    try dsimp only at h
    refine v_callSi (As := [.long (below_L x2.toNatClampNeg)]) (st := [.int x1]) (wr := [(aL 0, .inr (1, [.ref (aL 1), .ref (aL 2), .ref (aL 3), .ref (aL 4), .ref (aL 5), .ref (aL 6), .ref (aL 7), .int size_L, .int tracks_L])), (aL 1, .inl (cI, 38, .inl netOf_L)), (aL 2, .inl (cI, 38, .inl left_L)), (aL 3, .inl (cI, 38, .inl right_L)), (aL 4, .inl (cI, 38, .inl trackOf_L)), (aL 5, .inl (cI, 38, .inl touched_L)), (aL 6, .inl (cJ, 38, .inr (.inl below_L))), (aL 7, .inl (cI, 38, .inl byLeft_L))]) (w1 := []) (ws' := (wL cI cJ aL netOf_L left_L right_L trackOf_L touched_L below_L byLeft_L size_L tracks_L)) (isC := []) (isR := [0, 1, 2, 3, 4, 5, 6, 7]) (pm := [0, 1, 2, 3, 4, 5, 6, 7]) C (c_J13_bitCount_95d88 l D cI cJ (below_L x2.toNatClampNeg) r_1 h1) cw_J13_bitCount_95d88 m1_223 dX1_countPairs_19 rfl ⟨Nat.le_of_ble_eq_true rfl, Nat.le_of_ble_eq_true rfl⟩ (Nat.le_of_ble_eq_true rfl) ⟨Nat.le_refl 0, Nat.le_refl 0⟩ ⟨rfl, rfl, rfl, rfl, by decide, rfl, rfl⟩ ?_
    refine v_iadd C dX1_countPairs_22 ?_
    refine v_istore_n C [(1, .int (x1 + r_1)), (0, .ref (aL 0)), (2, .int x2)] dX1_countPairs_23 rfl (by decide) rfl ?_
    refine v_iinc C [(2, .int (x2 + 1)), (1, .int (x1 + r_1)), (0, .ref (aL 0))] 2 dX1_countPairs_24 rfl rfl (by decide) rfl ?_
    refine v_goto (tgt := 4) C dX1_countPairs_27 (by decide) ?_
    refine v_perm [2, 1, 0] rfl ?_
    cases h
    exact hl _ rfl
set_option maxHeartbeats 4000000 in
set_option maxRecDepth 100000 in
theorem t_X1_countPairs_L4 {p : Program} {l : Launch} {e : Env} {s : State} {m : MethodId} {args : Array Value} {below : List Frame} {meth : Method} {c : Code} {D : va_G} {A : Nat → Prop} {cI cJ : ClassId} {Q : State → Prop} (C : Cx p s m args c cX1_countPairs 3 RX1 D A cI cJ) {aL : Nat → Nat} {netOf_L : (Nat → Int32)} {left_L : (Nat → Int32)} {right_L : (Nat → Int32)} {trackOf_L : (Nat → Int32)} {touched_L : (Nat → Int32)} {below_L : (Nat → Int64)} {byLeft_L : (Nat → Int32)} {size_L : Int32} {tracks_L : Int32} {n8 : Nat} {s9 : (Int32 × Int32)} {o8 : Int32} (h : lp (f_X1_countPairs_B4 below_L size_L) n8 s9 = some o8) (hk : V p l e (rmO 1 21) s m args below meth c 3 D A 0 0 Q 30 [(1, .int o8)] [] (wL cI cJ aL netOf_L left_L right_L trackOf_L touched_L below_L byLeft_L size_L tracks_L)) : V p l e (rmO 1 21) s m args below meth c 3 D A 0 0 Q 4 [(0, .ref (aL 0)), (1, .int s9.1), (2, .int s9.2)] [] (wL cI cJ aL netOf_L left_L right_L trackOf_L touched_L below_L byLeft_L size_L tracks_L) := lp_ok (Pσ := fun s8 => V p l e (rmO 1 21) s m args below meth c 3 D A 0 0 Q 4 [(0, .ref (aL 0)), (1, .int s8.1), (2, .int s8.2)] [] (wL cI cJ aL netOf_L left_L right_L trackOf_L touched_L below_L byLeft_L size_L tracks_L)) (Pρ := fun r8 => V p l e (rmO 1 21) s m args below meth c 3 D A 0 0 Q 30 [(1, .int r8)] [] (wL cI cJ aL netOf_L left_L right_L trackOf_L touched_L below_L byLeft_L size_L tracks_L)) (fun s o h hl hx => t_X1_countPairs_B4 C s o h hl hx) n8 s9 o8 h hk
set_option maxHeartbeats 4000000 in
set_option maxRecDepth 100000 in
theorem c_X1_countPairs (l : Launch) (D : va_G) (cI cJ : ClassId) (aL : Nat → Nat) (netOf_L : (Nat → Int32)) (left_L : (Nat → Int32)) (right_L : (Nat → Int32)) (trackOf_L : (Nat → Int32)) (touched_L : (Nat → Int32)) (below_L : (Nat → Int64)) (byLeft_L : (Nat → Int32)) (size_L : Int32) (tracks_L : Int32) (r : Int32) (h : f_X1_countPairs below_L size_L = some r) : Cti l D cI cJ yX1_countPairs cX1_countPairs 3 (some .int) 1 21 [.ref (aL 0)] (wL cI cJ aL netOf_L left_L right_L trackOf_L touched_L below_L byLeft_L size_L tracks_L) (wL cI cJ aL netOf_L left_L right_L trackOf_L touched_L below_L byLeft_L size_L tracks_L) r := by
  refine mk_i [(0, .ref (aL 0))] (by decide) rfl (Nat.le_of_ble_eq_true rfl) rfl (fun p e s m args below meth c A Q C hk => ?_)
  unfold f_X1_countPairs at h
  refine v_iconst (v := 0) C dX1_countPairs_0 (by decide) ?_
  refine v_istore_n C [(1, .int 0), (0, .ref (aL 0))] dX1_countPairs_1 rfl (by decide) rfl ?_
  refine v_iconst (v := 0) C dX1_countPairs_2 (by decide) ?_
  refine v_istore_n C [(2, .int 0), (1, .int 0), (0, .ref (aL 0))] dX1_countPairs_3 rfl (by decide) rfl ?_
  obtain ⟨r, h1, h⟩ := bind_el h
  refine v_perm [2, 1, 0] rfl ?_
  obtain ⟨x1_2, rfl⟩ : ∃ z, z = r := ⟨_, rfl⟩
  refine t_X1_countPairs_L4 C (s9 := (0, 0)) h1 ?_
  show V p l e (rmO 1 21) s m args below meth c 3 D A 0 0 Q 30 [(1, .int x1_2)] [] (wL cI cJ aL netOf_L left_L right_L trackOf_L touched_L below_L byLeft_L size_L tracks_L)
  try dsimp only at h
  refine v_iload_n C 0 dX1_countPairs_30 rfl rfl ?_
  cases h
  exact hk _ _ dX1_countPairs_31
def f_X1_sortByLeft_B12 (x2 : Int32) (left_L : (Nat → Int32)) (size_L : Int32) : (Int32 × Int32 × (Nat → Int32)) → Option ((Int32 × Int32 × (Nat → Int32)) ⊕ (Int32 × (Nat → Int32)))
  | (x1, x3, byLeft_L) => if size_L ≤ x3 then (some (.inr (x1, byLeft_L))) else (bnd x3 38 (if (left_L x3.toNatClampNeg) = x2 then (bnd x1 38 (some (.inl (x1 + 1, x3 + 1, upd byLeft_L x1.toNatClampNeg x3)))) else (some (.inl (x1, x3 + 1, byLeft_L)))))
def f_X1_sortByLeft_B4 (left_L : (Nat → Int32)) (size_L : Int32) : (Int32 × Int32 × (Nat → Int32)) → Option ((Int32 × Int32 × (Nat → Int32)) ⊕ (Nat → Int32))
  | (x1, x2, byLeft_L) => if 20 ≤ x2 then (some (.inr byLeft_L)) else ((lp (f_X1_sortByLeft_B12 x2 left_L size_L) 64 (x1, 0, byLeft_L)).bind (fun r => match r with | (x1_1, byLeft_L_2) => some (.inl (x1_1, x2 + 1, byLeft_L_2))))
def f_X1_sortByLeft (left_L : (Nat → Int32)) (byLeft_L : (Nat → Int32)) (size_L : Int32) : Option (Nat → Int32) := (lp (f_X1_sortByLeft_B4 left_L size_L) 64 (0, 0, byLeft_L)).bind (fun r => match r with | byLeft_L_3 => some byLeft_L_3)
theorem cw_X1_sortByLeft : CWv yX1_sortByLeft cX1_sortByLeft 4 none RX1 0 := ⟨m2_180, ms3_0, m1_4, m2_181, rfl, by decide, by decide, by decide +kernel⟩
set_option maxHeartbeats 4000000 in
set_option maxRecDepth 100000 in
theorem t_X1_sortByLeft_B12 {p : Program} {l : Launch} {e : Env} {s : State} {m : MethodId} {args : Array Value} {below : List Frame} {meth : Method} {c : Code} {D : va_G} {A : Nat → Prop} {cI cJ : ClassId} {Q : State → Prop} (C : Cx p s m args c cX1_sortByLeft 4 RX1 D A cI cJ) {aL : Nat → Nat} {x2 : Int32} {netOf_L : (Nat → Int32)} {left_L : (Nat → Int32)} {right_L : (Nat → Int32)} {trackOf_L : (Nat → Int32)} {touched_L : (Nat → Int32)} {below_L : (Nat → Int64)} {size_L : Int32} {tracks_L : Int32} (s8 : (Int32 × Int32 × (Nat → Int32))) (o8 : (Int32 × Int32 × (Nat → Int32)) ⊕ (Int32 × (Nat → Int32))) (h : f_X1_sortByLeft_B12 x2 left_L size_L s8 = some o8) (hl : ∀ s8, o8 = .inl s8 → V p l e (rmO 0 0) s m args below meth c 4 D A 0 0 Q 12 [(0, .ref (aL 0)), (1, .int s8.1), (2, .int x2), (3, .int s8.2.1)] [] (wL cI cJ aL netOf_L left_L right_L trackOf_L touched_L below_L s8.2.2 size_L tracks_L)) (hx : ∀ r8, o8 = .inr r8 → V p l e (rmO 0 0) s m args below meth c 4 D A 0 0 Q 46 [(0, .ref (aL 0)), (1, .int r8.1), (2, .int x2)] [] (wL cI cJ aL netOf_L left_L right_L trackOf_L touched_L below_L r8.2 size_L tracks_L)) : V p l e (rmO 0 0) s m args below meth c 4 D A 0 0 Q 12 [(0, .ref (aL 0)), (1, .int s8.1), (2, .int x2), (3, .int s8.2.1)] [] (wL cI cJ aL netOf_L left_L right_L trackOf_L touched_L below_L s8.2.2 size_L tracks_L) := by
  obtain ⟨x1, x3, byLeft_L⟩ := s8
  unfold f_X1_sortByLeft_B12 at h
  show V p l e (rmO 0 0) s m args below meth c 4 D A 0 0 Q 12 [(0, .ref (aL 0)), (1, .int x1), (2, .int x2), (3, .int x3)] [] (wL cI cJ aL netOf_L left_L right_L trackOf_L touched_L below_L byLeft_L size_L tracks_L)
  refine v_iload_n C 3 dX1_sortByLeft_12 rfl rfl ?_
  refine v_aload_n C 0 dX1_sortByLeft_13 rfl rfl ?_
  refine v_get C 0 7 iuX1 rfl rfl (by decide) m1_80 rfl rfl dX1_sortByLeft_14 ?_
  refine v_icmp_ge (tgt := 46) C dX1_sortByLeft_17 (by decide) h (fun h => ?_) (fun h => ?_)
  · refine v_perm [0, 1, 2] rfl ?_
    cases h
    exact hx _ rfl
  · refine v_aload_n C 0 dX1_sortByLeft_20 rfl rfl ?_
    refine v_get C 0 1 iuX1 rfl rfl (by decide) m1_70 rfl rfl dX1_sortByLeft_21 ?_
    refine v_iload_n C 3 dX1_sortByLeft_24 rfl rfl ?_
    refine v_iald C 2 rfl dX1_sortByLeft_25 h (fun h => ?_)
    refine v_iload_n C 2 dX1_sortByLeft_26 rfl rfl ?_
    refine v_icmp_ne (tgt := 40) C dX1_sortByLeft_27 (by decide) h (fun h => ?_) (fun h => ?_)
    · refine v_aload_n C 0 dX1_sortByLeft_30 rfl rfl ?_
      refine v_get C 0 6 iuX1 rfl rfl (by decide) m1_79 rfl rfl dX1_sortByLeft_31 ?_
      refine v_iload_n C 1 dX1_sortByLeft_34 rfl rfl ?_
      refine v_iload_n C 3 dX1_sortByLeft_35 rfl rfl ?_
      refine v_iast C (wL cI cJ aL netOf_L left_L right_L trackOf_L touched_L below_L (upd byLeft_L x1.toNatClampNeg x3) size_L tracks_L) 7 rfl dX1_sortByLeft_36 h rfl (fun h => ?_)
      refine v_iinc C [(1, .int (x1 + 1)), (0, .ref (aL 0)), (2, .int x2), (3, .int x3)] 1 dX1_sortByLeft_37 rfl rfl (by decide) rfl ?_
      refine v_iinc C [(3, .int (x3 + 1)), (1, .int (x1 + 1)), (0, .ref (aL 0)), (2, .int x2)] 3 dX1_sortByLeft_40 rfl rfl (by decide) rfl ?_
      refine v_goto (tgt := 12) C dX1_sortByLeft_43 (by decide) ?_
      refine v_perm [2, 1, 3, 0] rfl ?_
      cases h
      exact hl _ rfl
    · refine v_iinc C [(3, .int (x3 + 1)), (0, .ref (aL 0)), (1, .int x1), (2, .int x2)] 3 dX1_sortByLeft_40 rfl rfl (by decide) rfl ?_
      refine v_goto (tgt := 12) C dX1_sortByLeft_43 (by decide) ?_
      refine v_perm [1, 2, 3, 0] rfl ?_
      cases h
      exact hl _ rfl
set_option maxHeartbeats 4000000 in
set_option maxRecDepth 100000 in
theorem t_X1_sortByLeft_L12 {p : Program} {l : Launch} {e : Env} {s : State} {m : MethodId} {args : Array Value} {below : List Frame} {meth : Method} {c : Code} {D : va_G} {A : Nat → Prop} {cI cJ : ClassId} {Q : State → Prop} (C : Cx p s m args c cX1_sortByLeft 4 RX1 D A cI cJ) {aL : Nat → Nat} {x2 : Int32} {netOf_L : (Nat → Int32)} {left_L : (Nat → Int32)} {right_L : (Nat → Int32)} {trackOf_L : (Nat → Int32)} {touched_L : (Nat → Int32)} {below_L : (Nat → Int64)} {size_L : Int32} {tracks_L : Int32} {n8 : Nat} {s9 : (Int32 × Int32 × (Nat → Int32))} {o8 : (Int32 × (Nat → Int32))} (h : lp (f_X1_sortByLeft_B12 x2 left_L size_L) n8 s9 = some o8) (hk : V p l e (rmO 0 0) s m args below meth c 4 D A 0 0 Q 46 [(0, .ref (aL 0)), (1, .int o8.1), (2, .int x2)] [] (wL cI cJ aL netOf_L left_L right_L trackOf_L touched_L below_L o8.2 size_L tracks_L)) : V p l e (rmO 0 0) s m args below meth c 4 D A 0 0 Q 12 [(0, .ref (aL 0)), (1, .int s9.1), (2, .int x2), (3, .int s9.2.1)] [] (wL cI cJ aL netOf_L left_L right_L trackOf_L touched_L below_L s9.2.2 size_L tracks_L) := lp_ok (Pσ := fun s8 => V p l e (rmO 0 0) s m args below meth c 4 D A 0 0 Q 12 [(0, .ref (aL 0)), (1, .int s8.1), (2, .int x2), (3, .int s8.2.1)] [] (wL cI cJ aL netOf_L left_L right_L trackOf_L touched_L below_L s8.2.2 size_L tracks_L)) (Pρ := fun r8 => V p l e (rmO 0 0) s m args below meth c 4 D A 0 0 Q 46 [(0, .ref (aL 0)), (1, .int r8.1), (2, .int x2)] [] (wL cI cJ aL netOf_L left_L right_L trackOf_L touched_L below_L r8.2 size_L tracks_L)) (fun s o h hl hx => t_X1_sortByLeft_B12 C s o h hl hx) n8 s9 o8 h hk
set_option maxHeartbeats 4000000 in
set_option maxRecDepth 100000 in
theorem t_X1_sortByLeft_B4 {p : Program} {l : Launch} {e : Env} {s : State} {m : MethodId} {args : Array Value} {below : List Frame} {meth : Method} {c : Code} {D : va_G} {A : Nat → Prop} {cI cJ : ClassId} {Q : State → Prop} (C : Cx p s m args c cX1_sortByLeft 4 RX1 D A cI cJ) {aL : Nat → Nat} {netOf_L : (Nat → Int32)} {left_L : (Nat → Int32)} {right_L : (Nat → Int32)} {trackOf_L : (Nat → Int32)} {touched_L : (Nat → Int32)} {below_L : (Nat → Int64)} {size_L : Int32} {tracks_L : Int32} (s8 : (Int32 × Int32 × (Nat → Int32))) (o8 : (Int32 × Int32 × (Nat → Int32)) ⊕ (Nat → Int32)) (h : f_X1_sortByLeft_B4 left_L size_L s8 = some o8) (hl : ∀ s8, o8 = .inl s8 → V p l e (rmO 0 0) s m args below meth c 4 D A 0 0 Q 4 [(0, .ref (aL 0)), (1, .int s8.1), (2, .int s8.2.1)] [] (wL cI cJ aL netOf_L left_L right_L trackOf_L touched_L below_L s8.2.2 size_L tracks_L)) (hx : ∀ r8, o8 = .inr r8 → V p l e (rmO 0 0) s m args below meth c 4 D A 0 0 Q 52 [] [] (wL cI cJ aL netOf_L left_L right_L trackOf_L touched_L below_L r8 size_L tracks_L)) : V p l e (rmO 0 0) s m args below meth c 4 D A 0 0 Q 4 [(0, .ref (aL 0)), (1, .int s8.1), (2, .int s8.2.1)] [] (wL cI cJ aL netOf_L left_L right_L trackOf_L touched_L below_L s8.2.2 size_L tracks_L) := by
  obtain ⟨x1, x2, byLeft_L⟩ := s8
  unfold f_X1_sortByLeft_B4 at h
  show V p l e (rmO 0 0) s m args below meth c 4 D A 0 0 Q 4 [(0, .ref (aL 0)), (1, .int x1), (2, .int x2)] [] (wL cI cJ aL netOf_L left_L right_L trackOf_L touched_L below_L byLeft_L size_L tracks_L)
  refine v_iload_n C 2 dX1_sortByLeft_4 rfl rfl ?_
  refine v_bipush (v := 20) C dX1_sortByLeft_5 (by decide) ?_
  refine v_icmp_ge (tgt := 52) C dX1_sortByLeft_7 (by decide) h (fun h => ?_) (fun h => ?_)
  · refine v_perm [] rfl ?_
    cases h
    exact hx _ rfl
  · refine v_iconst (v := 0) C dX1_sortByLeft_10 (by decide) ?_
    refine v_istore_n C [(3, .int 0), (0, .ref (aL 0)), (1, .int x1), (2, .int x2)] dX1_sortByLeft_11 rfl (by decide) rfl ?_
    obtain ⟨r, h1, h⟩ := bind_el h
    refine v_perm [1, 2, 3, 0] rfl ?_
    obtain ⟨x1_1, byLeft_L_2⟩ := r
    refine t_X1_sortByLeft_L12 C (s9 := (x1, 0, byLeft_L)) h1 ?_
    show V p l e (rmO 0 0) s m args below meth c 4 D A 0 0 Q 46 [(0, .ref (aL 0)), (1, .int x1_1), (2, .int x2)] [] (wL cI cJ aL netOf_L left_L right_L trackOf_L touched_L below_L byLeft_L_2 size_L tracks_L)
    try dsimp only at h
    refine v_iinc C [(2, .int (x2 + 1)), (0, .ref (aL 0)), (1, .int x1_1)] 2 dX1_sortByLeft_46 rfl rfl (by decide) rfl ?_
    refine v_goto (tgt := 4) C dX1_sortByLeft_49 (by decide) ?_
    refine v_perm [1, 2, 0] rfl ?_
    cases h
    exact hl _ rfl
set_option maxHeartbeats 4000000 in
set_option maxRecDepth 100000 in
theorem t_X1_sortByLeft_L4 {p : Program} {l : Launch} {e : Env} {s : State} {m : MethodId} {args : Array Value} {below : List Frame} {meth : Method} {c : Code} {D : va_G} {A : Nat → Prop} {cI cJ : ClassId} {Q : State → Prop} (C : Cx p s m args c cX1_sortByLeft 4 RX1 D A cI cJ) {aL : Nat → Nat} {netOf_L : (Nat → Int32)} {left_L : (Nat → Int32)} {right_L : (Nat → Int32)} {trackOf_L : (Nat → Int32)} {touched_L : (Nat → Int32)} {below_L : (Nat → Int64)} {size_L : Int32} {tracks_L : Int32} {n8 : Nat} {s9 : (Int32 × Int32 × (Nat → Int32))} {o8 : (Nat → Int32)} (h : lp (f_X1_sortByLeft_B4 left_L size_L) n8 s9 = some o8) (hk : V p l e (rmO 0 0) s m args below meth c 4 D A 0 0 Q 52 [] [] (wL cI cJ aL netOf_L left_L right_L trackOf_L touched_L below_L o8 size_L tracks_L)) : V p l e (rmO 0 0) s m args below meth c 4 D A 0 0 Q 4 [(0, .ref (aL 0)), (1, .int s9.1), (2, .int s9.2.1)] [] (wL cI cJ aL netOf_L left_L right_L trackOf_L touched_L below_L s9.2.2 size_L tracks_L) := lp_ok (Pσ := fun s8 => V p l e (rmO 0 0) s m args below meth c 4 D A 0 0 Q 4 [(0, .ref (aL 0)), (1, .int s8.1), (2, .int s8.2.1)] [] (wL cI cJ aL netOf_L left_L right_L trackOf_L touched_L below_L s8.2.2 size_L tracks_L)) (Pρ := fun r8 => V p l e (rmO 0 0) s m args below meth c 4 D A 0 0 Q 52 [] [] (wL cI cJ aL netOf_L left_L right_L trackOf_L touched_L below_L r8 size_L tracks_L)) (fun s o h hl hx => t_X1_sortByLeft_B4 C s o h hl hx) n8 s9 o8 h hk
set_option maxHeartbeats 4000000 in
set_option maxRecDepth 100000 in
theorem c_X1_sortByLeft (l : Launch) (D : va_G) (cI cJ : ClassId) (aL : Nat → Nat) (netOf_L : (Nat → Int32)) (left_L : (Nat → Int32)) (right_L : (Nat → Int32)) (trackOf_L : (Nat → Int32)) (touched_L : (Nat → Int32)) (below_L : (Nat → Int64)) (byLeft_L : (Nat → Int32)) (size_L : Int32) (tracks_L : Int32) (byLeft_L' : (Nat → Int32)) (h : f_X1_sortByLeft left_L byLeft_L size_L = some byLeft_L') : Ctv l D cI cJ yX1_sortByLeft cX1_sortByLeft 4 none 0 0 [.ref (aL 0)] (wL cI cJ aL netOf_L left_L right_L trackOf_L touched_L below_L byLeft_L size_L tracks_L) (wL cI cJ aL netOf_L left_L right_L trackOf_L touched_L below_L byLeft_L' size_L tracks_L) := by
  refine mk_v [(0, .ref (aL 0))] (by decide) rfl (Nat.le_of_ble_eq_true rfl) rfl (fun p e s m args below meth c A Q C hk => ?_)
  unfold f_X1_sortByLeft at h
  refine v_iconst (v := 0) C dX1_sortByLeft_0 (by decide) ?_
  refine v_istore_n C [(1, .int 0), (0, .ref (aL 0))] dX1_sortByLeft_1 rfl (by decide) rfl ?_
  refine v_iconst (v := 0) C dX1_sortByLeft_2 (by decide) ?_
  refine v_istore_n C [(2, .int 0), (1, .int 0), (0, .ref (aL 0))] dX1_sortByLeft_3 rfl (by decide) rfl ?_
  obtain ⟨r, h1, h⟩ := bind_el h
  refine v_perm [2, 1, 0] rfl ?_
  obtain ⟨byLeft_L_3, rfl⟩ : ∃ z, z = r := ⟨_, rfl⟩
  refine t_X1_sortByLeft_L4 C (s9 := (0, 0, byLeft_L)) h1 ?_
  show V p l e (rmO 0 0) s m args below meth c 4 D A 0 0 Q 52 [] [] (wL cI cJ aL netOf_L left_L right_L trackOf_L touched_L below_L byLeft_L_3 size_L tracks_L)
  try dsimp only at h
  cases h
  exact hk _ _ dX1_sortByLeft_52
def f_X1_belowAnyOf_B5 (x1 : Int64) (below_L : (Nat → Int64)) (size_L : Int32) : (Int64 × Int32) → Option ((Int64 × Int32) ⊕ Int64)
  | (x3, x5) => if size_L ≤ x5 then (some (.inr x3)) else ((f_X1_isIn x1 x5).bind (fun r => match r with | r_1 => if r_1 = 0 then (some (.inl (x3, x5 + 1))) else (bnd x5 38 (some (.inl ((x3 ||| (below_L x5.toNatClampNeg), x5 + 1)))))))
def f_X1_belowAnyOf (below_L : (Nat → Int64)) (size_L : Int32) (x1 : Int64) : Option Int64 := (lp (f_X1_belowAnyOf_B5 x1 below_L size_L) 64 (0, 0)).bind (fun r => match r with | x3_2 => some x3_2)
theorem cw_X1_belowAnyOf : CWv yX1_belowAnyOf cX1_belowAnyOf 6 (some .long) RX1 1 := ⟨m2_184, ms3_1, m1_4, m2_185, rfl, by decide, by decide, by decide +kernel⟩
set_option maxHeartbeats 4000000 in
set_option maxRecDepth 100000 in
theorem t_X1_belowAnyOf_B5 {p : Program} {l : Launch} {e : Env} {s : State} {m : MethodId} {args : Array Value} {below : List Frame} {meth : Method} {c : Code} {D : va_G} {A : Nat → Prop} {cI cJ : ClassId} {Q : State → Prop} (C : Cx p s m args c cX1_belowAnyOf 6 RX1 D A cI cJ) {aL : Nat → Nat} {x1 : Int64} {netOf_L : (Nat → Int32)} {left_L : (Nat → Int32)} {right_L : (Nat → Int32)} {trackOf_L : (Nat → Int32)} {touched_L : (Nat → Int32)} {below_L : (Nat → Int64)} {byLeft_L : (Nat → Int32)} {size_L : Int32} {tracks_L : Int32} (s8 : (Int64 × Int32)) (o8 : (Int64 × Int32) ⊕ Int64) (h : f_X1_belowAnyOf_B5 x1 below_L size_L s8 = some o8) (hl : ∀ s8, o8 = .inl s8 → V p l e (rmO 1 22) s m args below meth c 6 D A 0 0 Q 5 [(0, .ref (aL 0)), (1, .long x1), (3, .long s8.1), (5, .int s8.2)] [] (wL cI cJ aL netOf_L left_L right_L trackOf_L touched_L below_L byLeft_L size_L tracks_L)) (hx : ∀ r8, o8 = .inr r8 → V p l e (rmO 1 22) s m args below meth c 6 D A 0 0 Q 39 [(3, .long r8)] [] (wL cI cJ aL netOf_L left_L right_L trackOf_L touched_L below_L byLeft_L size_L tracks_L)) : V p l e (rmO 1 22) s m args below meth c 6 D A 0 0 Q 5 [(0, .ref (aL 0)), (1, .long x1), (3, .long s8.1), (5, .int s8.2)] [] (wL cI cJ aL netOf_L left_L right_L trackOf_L touched_L below_L byLeft_L size_L tracks_L) := by
  obtain ⟨x3, x5⟩ := s8
  unfold f_X1_belowAnyOf_B5 at h
  show V p l e (rmO 1 22) s m args below meth c 6 D A 0 0 Q 5 [(0, .ref (aL 0)), (1, .long x1), (3, .long x3), (5, .int x5)] [] (wL cI cJ aL netOf_L left_L right_L trackOf_L touched_L below_L byLeft_L size_L tracks_L)
  refine v_iload C 3 dX1_belowAnyOf_5 rfl ?_
  refine v_aload_n C 0 dX1_belowAnyOf_7 rfl rfl ?_
  refine v_get C 0 7 iuX1 rfl rfl (by decide) m1_80 rfl rfl dX1_belowAnyOf_8 ?_
  refine v_icmp_ge (tgt := 39) C dX1_belowAnyOf_11 (by decide) h (fun h => ?_) (fun h => ?_)
  · refine v_perm [2] rfl ?_
    cases h
    exact hx _ rfl
  · refine v_lload_n C 1 dX1_belowAnyOf_14 rfl rfl ?_
    refine v_iload C 3 dX1_belowAnyOf_15 rfl ?_
    obtain ⟨r, h1, h⟩ := bind_el h
    obtain ⟨r_1, rfl⟩ : ∃ z, z = r := ⟨_, rfl⟩
    try dsimp only at h
    refine v_callSi (As := [.long x1, .int x5]) (st := []) (wr := [(aL 0, .inr (1, [.ref (aL 1), .ref (aL 2), .ref (aL 3), .ref (aL 4), .ref (aL 5), .ref (aL 6), .ref (aL 7), .int size_L, .int tracks_L])), (aL 1, .inl (cI, 38, .inl netOf_L)), (aL 2, .inl (cI, 38, .inl left_L)), (aL 3, .inl (cI, 38, .inl right_L)), (aL 4, .inl (cI, 38, .inl trackOf_L)), (aL 5, .inl (cI, 38, .inl touched_L)), (aL 6, .inl (cJ, 38, .inr (.inl below_L))), (aL 7, .inl (cI, 38, .inl byLeft_L))]) (w1 := []) (ws' := (wL cI cJ aL netOf_L left_L right_L trackOf_L touched_L below_L byLeft_L size_L tracks_L)) (isC := []) (isR := [0, 1, 2, 3, 4, 5, 6, 7]) (pm := [0, 1, 2, 3, 4, 5, 6, 7]) C (c_X1_isIn l D cI cJ x1 x5 r_1 h1) cw_X1_isIn m1_216 dX1_belowAnyOf_17 rfl ⟨Nat.le_of_ble_eq_true rfl, Nat.le_of_ble_eq_true rfl⟩ (Nat.le_of_ble_eq_true rfl) ⟨Nat.le_refl 0, Nat.le_refl 0⟩ ⟨rfl, rfl, rfl, rfl, by decide, rfl, rfl⟩ ?_
    refine v_if_eq (tgt := 33) C dX1_belowAnyOf_20 (by decide) h (fun h => ?_) (fun h => ?_)
    · refine v_iinc C [(5, .int (x5 + 1)), (0, .ref (aL 0)), (1, .long x1), (3, .long x3)] 3 dX1_belowAnyOf_33 rfl rfl (by decide) rfl ?_
      refine v_goto (tgt := 5) C dX1_belowAnyOf_36 (by decide) ?_
      refine v_perm [1, 2, 3, 0] rfl ?_
      cases h
      exact hl _ rfl
    · refine v_lload_n C 2 dX1_belowAnyOf_23 rfl rfl ?_
      refine v_aload_n C 0 dX1_belowAnyOf_24 rfl rfl ?_
      refine v_get C 0 5 iuX1 rfl rfl (by decide) m1_77 rfl rfl dX1_belowAnyOf_25 ?_
      refine v_iload C 3 dX1_belowAnyOf_28 rfl ?_
      refine v_lald C 6 rfl dX1_belowAnyOf_30 h (fun h => ?_)
      refine v_lor C dX1_belowAnyOf_31 ?_
      refine v_lstore_n C [(3, .long (x3 ||| (below_L x5.toNatClampNeg))), (0, .ref (aL 0)), (1, .long x1), (5, .int x5)] dX1_belowAnyOf_32 rfl (by decide) rfl ?_
      refine v_iinc C [(5, .int (x5 + 1)), (3, .long (x3 ||| (below_L x5.toNatClampNeg))), (0, .ref (aL 0)), (1, .long x1)] 3 dX1_belowAnyOf_33 rfl rfl (by decide) rfl ?_
      refine v_goto (tgt := 5) C dX1_belowAnyOf_36 (by decide) ?_
      refine v_perm [2, 3, 1, 0] rfl ?_
      cases h
      exact hl _ rfl
set_option maxHeartbeats 4000000 in
set_option maxRecDepth 100000 in
theorem t_X1_belowAnyOf_L5 {p : Program} {l : Launch} {e : Env} {s : State} {m : MethodId} {args : Array Value} {below : List Frame} {meth : Method} {c : Code} {D : va_G} {A : Nat → Prop} {cI cJ : ClassId} {Q : State → Prop} (C : Cx p s m args c cX1_belowAnyOf 6 RX1 D A cI cJ) {aL : Nat → Nat} {x1 : Int64} {netOf_L : (Nat → Int32)} {left_L : (Nat → Int32)} {right_L : (Nat → Int32)} {trackOf_L : (Nat → Int32)} {touched_L : (Nat → Int32)} {below_L : (Nat → Int64)} {byLeft_L : (Nat → Int32)} {size_L : Int32} {tracks_L : Int32} {n8 : Nat} {s9 : (Int64 × Int32)} {o8 : Int64} (h : lp (f_X1_belowAnyOf_B5 x1 below_L size_L) n8 s9 = some o8) (hk : V p l e (rmO 1 22) s m args below meth c 6 D A 0 0 Q 39 [(3, .long o8)] [] (wL cI cJ aL netOf_L left_L right_L trackOf_L touched_L below_L byLeft_L size_L tracks_L)) : V p l e (rmO 1 22) s m args below meth c 6 D A 0 0 Q 5 [(0, .ref (aL 0)), (1, .long x1), (3, .long s9.1), (5, .int s9.2)] [] (wL cI cJ aL netOf_L left_L right_L trackOf_L touched_L below_L byLeft_L size_L tracks_L) := lp_ok (Pσ := fun s8 => V p l e (rmO 1 22) s m args below meth c 6 D A 0 0 Q 5 [(0, .ref (aL 0)), (1, .long x1), (3, .long s8.1), (5, .int s8.2)] [] (wL cI cJ aL netOf_L left_L right_L trackOf_L touched_L below_L byLeft_L size_L tracks_L)) (Pρ := fun r8 => V p l e (rmO 1 22) s m args below meth c 6 D A 0 0 Q 39 [(3, .long r8)] [] (wL cI cJ aL netOf_L left_L right_L trackOf_L touched_L below_L byLeft_L size_L tracks_L)) (fun s o h hl hx => t_X1_belowAnyOf_B5 C s o h hl hx) n8 s9 o8 h hk
set_option maxHeartbeats 4000000 in
set_option maxRecDepth 100000 in
theorem c_X1_belowAnyOf (l : Launch) (D : va_G) (cI cJ : ClassId) (aL : Nat → Nat) (netOf_L : (Nat → Int32)) (left_L : (Nat → Int32)) (right_L : (Nat → Int32)) (trackOf_L : (Nat → Int32)) (touched_L : (Nat → Int32)) (below_L : (Nat → Int64)) (byLeft_L : (Nat → Int32)) (size_L : Int32) (tracks_L : Int32) (x1 : Int64) (r : Int64) (h : f_X1_belowAnyOf below_L size_L x1 = some r) : Ctl l D cI cJ yX1_belowAnyOf cX1_belowAnyOf 6 (some .long) 1 22 [.ref (aL 0), .long x1] (wL cI cJ aL netOf_L left_L right_L trackOf_L touched_L below_L byLeft_L size_L tracks_L) (wL cI cJ aL netOf_L left_L right_L trackOf_L touched_L below_L byLeft_L size_L tracks_L) r := by
  refine mk_l [(0, .ref (aL 0)), (1, .long x1)] (by decide) rfl (Nat.le_of_ble_eq_true rfl) rfl (fun p e s m args below meth c A Q C hk => ?_)
  unfold f_X1_belowAnyOf at h
  refine v_lconst (v := 0) C dX1_belowAnyOf_0 (by decide) ?_
  refine v_lstore_n C [(3, .long 0), (0, .ref (aL 0)), (1, .long x1)] dX1_belowAnyOf_1 rfl (by decide) rfl ?_
  refine v_iconst (v := 0) C dX1_belowAnyOf_2 (by decide) ?_
  refine v_istore C [(5, .int 0), (3, .long 0), (0, .ref (aL 0)), (1, .long x1)] dX1_belowAnyOf_3 (by decide) rfl ?_
  obtain ⟨r, h1, h⟩ := bind_el h
  refine v_perm [2, 3, 1, 0] rfl ?_
  obtain ⟨x3_2, rfl⟩ : ∃ z, z = r := ⟨_, rfl⟩
  refine t_X1_belowAnyOf_L5 C (s9 := (0, 0)) h1 ?_
  show V p l e (rmO 1 22) s m args below meth c 6 D A 0 0 Q 39 [(3, .long x3_2)] [] (wL cI cJ aL netOf_L left_L right_L trackOf_L touched_L below_L byLeft_L size_L tracks_L)
  try dsimp only at h
  refine v_lload_n C 0 dX1_belowAnyOf_39 rfl rfl ?_
  cases h
  exact hk _ _ dX1_belowAnyOf_40
def f_X1_fitsBehind (netOf_L : (Nat → Int32)) (left_L : (Nat → Int32)) (right_L : (Nat → Int32)) (x1 : Int32) (x2 : Int32) : Option Int32 := if x1 = (-1) then (some 1) else (bnd x2 38 (bnd x1 38 (if (left_L x2.toNatClampNeg) ≤ (right_L x1.toNatClampNeg) then (bnd x2 38 (bnd x1 38 (if (left_L x2.toNatClampNeg) = (right_L x1.toNatClampNeg) then (bnd x2 38 (bnd x1 38 (if (netOf_L x2.toNatClampNeg) = (netOf_L x1.toNatClampNeg) then (some 1) else (some 0)))) else (some 0)))) else (some 1))))
theorem cw_X1_fitsBehind : CWv yX1_fitsBehind cX1_fitsBehind 3 (some .boolean) RX1 2 := ⟨m2_193, ms3_3, m1_4, m2_194, rfl, by decide, by decide, by decide +kernel⟩
set_option maxHeartbeats 4000000 in
set_option maxRecDepth 100000 in
theorem c_X1_fitsBehind (l : Launch) (D : va_G) (cI cJ : ClassId) (aL : Nat → Nat) (netOf_L : (Nat → Int32)) (left_L : (Nat → Int32)) (right_L : (Nat → Int32)) (trackOf_L : (Nat → Int32)) (touched_L : (Nat → Int32)) (below_L : (Nat → Int64)) (byLeft_L : (Nat → Int32)) (size_L : Int32) (tracks_L : Int32) (x1 : Int32) (x2 : Int32) (r : Int32) (h : f_X1_fitsBehind netOf_L left_L right_L x1 x2 = some r) : Cti l D cI cJ yX1_fitsBehind cX1_fitsBehind 3 (some .boolean) 0 0 [.ref (aL 0), .int x1, .int x2] (wL cI cJ aL netOf_L left_L right_L trackOf_L touched_L below_L byLeft_L size_L tracks_L) (wL cI cJ aL netOf_L left_L right_L trackOf_L touched_L below_L byLeft_L size_L tracks_L) r := by
  refine mk_z [(0, .ref (aL 0)), (1, .int x1), (2, .int x2)] (by decide) rfl (Nat.le_of_ble_eq_true rfl) rfl (fun p e s m args below meth c A Q C hk => ?_)
  unfold f_X1_fitsBehind at h
  refine v_iload_n C 1 dX1_fitsBehind_0 rfl rfl ?_
  refine v_iconst (v := (-1)) C dX1_fitsBehind_1 (by decide) ?_
  refine v_icmp_eq (tgt := 20) C dX1_fitsBehind_2 (by decide) h (fun h => ?_) (fun h => ?_)
  · refine v_iconst (v := 1) C dX1_fitsBehind_20 (by decide) ?_
    cases h
    exact hk _ _ dX1_fitsBehind_21 (Or.inr rfl)
  · refine v_aload_n C 0 dX1_fitsBehind_5 rfl rfl ?_
    refine v_get C 0 1 iuX1 rfl rfl (by decide) m1_70 rfl rfl dX1_fitsBehind_6 ?_
    refine v_iload_n C 2 dX1_fitsBehind_9 rfl rfl ?_
    refine v_iald C 2 rfl dX1_fitsBehind_10 h (fun h => ?_)
    refine v_aload_n C 0 dX1_fitsBehind_11 rfl rfl ?_
    refine v_get C 0 2 iuX1 rfl rfl (by decide) m1_72 rfl rfl dX1_fitsBehind_12 ?_
    refine v_iload_n C 1 dX1_fitsBehind_15 rfl rfl ?_
    refine v_iald C 3 rfl dX1_fitsBehind_16 h (fun h => ?_)
    refine v_icmp_le (tgt := 22) C dX1_fitsBehind_17 (by decide) h (fun h => ?_) (fun h => ?_)
    · refine v_aload_n C 0 dX1_fitsBehind_22 rfl rfl ?_
      refine v_get C 0 1 iuX1 rfl rfl (by decide) m1_70 rfl rfl dX1_fitsBehind_23 ?_
      refine v_iload_n C 2 dX1_fitsBehind_26 rfl rfl ?_
      refine v_iald C 2 rfl dX1_fitsBehind_27 h (fun h => ?_)
      refine v_aload_n C 0 dX1_fitsBehind_28 rfl rfl ?_
      refine v_get C 0 2 iuX1 rfl rfl (by decide) m1_72 rfl rfl dX1_fitsBehind_29 ?_
      refine v_iload_n C 1 dX1_fitsBehind_32 rfl rfl ?_
      refine v_iald C 3 rfl dX1_fitsBehind_33 h (fun h => ?_)
      refine v_icmp_ne (tgt := 56) C dX1_fitsBehind_34 (by decide) h (fun h => ?_) (fun h => ?_)
      · refine v_aload_n C 0 dX1_fitsBehind_37 rfl rfl ?_
        refine v_get C 0 0 iuX1 rfl rfl (by decide) m1_68 rfl rfl dX1_fitsBehind_38 ?_
        refine v_iload_n C 2 dX1_fitsBehind_41 rfl rfl ?_
        refine v_iald C 1 rfl dX1_fitsBehind_42 h (fun h => ?_)
        refine v_aload_n C 0 dX1_fitsBehind_43 rfl rfl ?_
        refine v_get C 0 0 iuX1 rfl rfl (by decide) m1_68 rfl rfl dX1_fitsBehind_44 ?_
        refine v_iload_n C 1 dX1_fitsBehind_47 rfl rfl ?_
        refine v_iald C 1 rfl dX1_fitsBehind_48 h (fun h => ?_)
        refine v_icmp_ne (tgt := 56) C dX1_fitsBehind_49 (by decide) h (fun h => ?_) (fun h => ?_)
        · refine v_iconst (v := 1) C dX1_fitsBehind_52 (by decide) ?_
          refine v_goto (tgt := 57) C dX1_fitsBehind_53 (by decide) ?_
          cases h
          exact hk _ _ dX1_fitsBehind_57 (Or.inr rfl)
        · refine v_iconst (v := 0) C dX1_fitsBehind_56 (by decide) ?_
          cases h
          exact hk _ _ dX1_fitsBehind_57 (Or.inl rfl)
      · refine v_iconst (v := 0) C dX1_fitsBehind_56 (by decide) ?_
        cases h
        exact hk _ _ dX1_fitsBehind_57 (Or.inl rfl)
    · refine v_iconst (v := 1) C dX1_fitsBehind_20 (by decide) ?_
      cases h
      exact hk _ _ dX1_fitsBehind_21 (Or.inr rfl)
def f_X1_fillTrack_B8 (x1 : Int64) (netOf_L : (Nat → Int32)) (left_L : (Nat → Int32)) (right_L : (Nat → Int32)) (byLeft_L : (Nat → Int32)) (size_L : Int32) (tracks_L : Int32) : (Int64 × Int32 × Int32 × (Nat → Int32)) → Option ((Int64 × Int32 × Int32 × (Nat → Int32)) ⊕ (Int64 × (Nat → Int32)))
  | (x3, x5, x6, trackOf_L) => if size_L ≤ x6 then (some (.inr (x3, trackOf_L))) else (bnd x6 38 ((f_X1_isIn x1 (byLeft_L x6.toNatClampNeg)).bind (fun r => match r with | r_1 => if r_1 = 0 then (some (.inl (x3, x5, x6 + 1, trackOf_L))) else ((f_X1_fitsBehind netOf_L left_L right_L x5 (byLeft_L x6.toNatClampNeg)).bind (fun r => match r with | r_2 => if r_2 = 0 then (some (.inl (x3, x5, x6 + 1, trackOf_L))) else (bnd (byLeft_L x6.toNatClampNeg) 38 (some (.inl ((x3 ||| ((1 : Int64) <<< ((byLeft_L x6.toNatClampNeg).toInt64 &&& 63)), byLeft_L x6.toNatClampNeg, x6 + 1, upd trackOf_L (byLeft_L x6.toNatClampNeg).toNatClampNeg tracks_L))))))))))
def f_X1_fillTrack (netOf_L : (Nat → Int32)) (left_L : (Nat → Int32)) (right_L : (Nat → Int32)) (trackOf_L : (Nat → Int32)) (byLeft_L : (Nat → Int32)) (size_L : Int32) (tracks_L : Int32) (x1 : Int64) : Option (Int64 × (Nat → Int32)) := (lp (f_X1_fillTrack_B8 x1 netOf_L left_L right_L byLeft_L size_L tracks_L) 64 ((0, (-1), 0, trackOf_L))).bind (fun r => match r with | (x3_3, trackOf_L_4) => some (x3_3, trackOf_L_4))
theorem cw_X1_fillTrack : CWv yX1_fillTrack cX1_fillTrack 8 (some .long) RX1 1 := ⟨m2_189, ms3_2, m1_4, m2_190, rfl, by decide, by decide, by decide +kernel⟩
set_option maxHeartbeats 4000000 in
set_option maxRecDepth 100000 in
theorem t_X1_fillTrack_B8 {p : Program} {l : Launch} {e : Env} {s : State} {m : MethodId} {args : Array Value} {below : List Frame} {meth : Method} {c : Code} {D : va_G} {A : Nat → Prop} {cI cJ : ClassId} {Q : State → Prop} (C : Cx p s m args c cX1_fillTrack 8 RX1 D A cI cJ) {aL : Nat → Nat} {x1 : Int64} {netOf_L : (Nat → Int32)} {left_L : (Nat → Int32)} {right_L : (Nat → Int32)} {touched_L : (Nat → Int32)} {below_L : (Nat → Int64)} {byLeft_L : (Nat → Int32)} {size_L : Int32} {tracks_L : Int32} (s8 : (Int64 × Int32 × Int32 × (Nat → Int32))) (o8 : (Int64 × Int32 × Int32 × (Nat → Int32)) ⊕ (Int64 × (Nat → Int32))) (h : f_X1_fillTrack_B8 x1 netOf_L left_L right_L byLeft_L size_L tracks_L s8 = some o8) (hl : ∀ s8, o8 = .inl s8 → V p l e (rmO 1 22) s m args below meth c 8 D A 0 0 Q 8 [(0, .ref (aL 0)), (1, .long x1), (3, .long s8.1), (5, .int s8.2.1), (6, .int s8.2.2.1)] [] (wL cI cJ aL netOf_L left_L right_L s8.2.2.2 touched_L below_L byLeft_L size_L tracks_L)) (hx : ∀ r8, o8 = .inr r8 → V p l e (rmO 1 22) s m args below meth c 8 D A 0 0 Q 74 [(3, .long r8.1)] [] (wL cI cJ aL netOf_L left_L right_L r8.2 touched_L below_L byLeft_L size_L tracks_L)) : V p l e (rmO 1 22) s m args below meth c 8 D A 0 0 Q 8 [(0, .ref (aL 0)), (1, .long x1), (3, .long s8.1), (5, .int s8.2.1), (6, .int s8.2.2.1)] [] (wL cI cJ aL netOf_L left_L right_L s8.2.2.2 touched_L below_L byLeft_L size_L tracks_L) := by
  obtain ⟨x3, x5, x6, trackOf_L⟩ := s8
  unfold f_X1_fillTrack_B8 at h
  show V p l e (rmO 1 22) s m args below meth c 8 D A 0 0 Q 8 [(0, .ref (aL 0)), (1, .long x1), (3, .long x3), (5, .int x5), (6, .int x6)] [] (wL cI cJ aL netOf_L left_L right_L trackOf_L touched_L below_L byLeft_L size_L tracks_L)
  refine v_iload C 4 dX1_fillTrack_8 rfl ?_
  refine v_aload_n C 0 dX1_fillTrack_10 rfl rfl ?_
  refine v_get C 0 7 iuX1 rfl rfl (by decide) m1_80 rfl rfl dX1_fillTrack_11 ?_
  refine v_icmp_ge (tgt := 74) C dX1_fillTrack_14 (by decide) h (fun h => ?_) (fun h => ?_)
  · refine v_perm [2] rfl ?_
    cases h
    exact hx _ rfl
  · refine v_aload_n C 0 dX1_fillTrack_17 rfl rfl ?_
    refine v_get C 0 6 iuX1 rfl rfl (by decide) m1_79 rfl rfl dX1_fillTrack_18 ?_
    refine v_iload C 4 dX1_fillTrack_21 rfl ?_
    refine v_iald C 7 rfl dX1_fillTrack_23 h (fun h => ?_)
    refine v_istore C [(7, .int (byLeft_L x6.toNatClampNeg)), (0, .ref (aL 0)), (1, .long x1), (3, .long x3), (5, .int x5), (6, .int x6)] dX1_fillTrack_24 (by decide) rfl ?_
    refine v_lload_n C 2 dX1_fillTrack_26 rfl rfl ?_
    refine v_iload C 0 dX1_fillTrack_27 rfl ?_
    obtain ⟨r, h1, h⟩ := bind_el h
    obtain ⟨r_1, rfl⟩ : ∃ z, z = r := ⟨_, rfl⟩
    try dsimp only at h
    refine v_callSi (As := [.long x1, .int (byLeft_L x6.toNatClampNeg)]) (st := []) (wr := [(aL 0, .inr (1, [.ref (aL 1), .ref (aL 2), .ref (aL 3), .ref (aL 4), .ref (aL 5), .ref (aL 6), .ref (aL 7), .int size_L, .int tracks_L])), (aL 1, .inl (cI, 38, .inl netOf_L)), (aL 2, .inl (cI, 38, .inl left_L)), (aL 3, .inl (cI, 38, .inl right_L)), (aL 4, .inl (cI, 38, .inl trackOf_L)), (aL 5, .inl (cI, 38, .inl touched_L)), (aL 6, .inl (cJ, 38, .inr (.inl below_L))), (aL 7, .inl (cI, 38, .inl byLeft_L))]) (w1 := []) (ws' := (wL cI cJ aL netOf_L left_L right_L trackOf_L touched_L below_L byLeft_L size_L tracks_L)) (isC := []) (isR := [0, 1, 2, 3, 4, 5, 6, 7]) (pm := [0, 1, 2, 3, 4, 5, 6, 7]) C (c_X1_isIn l D cI cJ x1 (byLeft_L x6.toNatClampNeg) r_1 h1) cw_X1_isIn m1_216 dX1_fillTrack_29 rfl ⟨Nat.le_of_ble_eq_true rfl, Nat.le_of_ble_eq_true rfl⟩ (Nat.le_of_ble_eq_true rfl) ⟨Nat.le_refl 0, Nat.le_refl 0⟩ ⟨rfl, rfl, rfl, rfl, by decide, rfl, rfl⟩ ?_
    refine v_if_eq (tgt := 68) C dX1_fillTrack_32 (by decide) h (fun h => ?_) (fun h => ?_)
    · refine v_iinc C [(6, .int (x6 + 1)), (7, .int (byLeft_L x6.toNatClampNeg)), (0, .ref (aL 0)), (1, .long x1), (3, .long x3), (5, .int x5)] 5 dX1_fillTrack_68 rfl rfl (by decide) rfl ?_
      refine v_goto (tgt := 8) C dX1_fillTrack_71 (by decide) ?_
      refine v_perm [2, 3, 4, 5, 0] rfl ?_
      cases h
      exact hl _ rfl
    · refine v_aload_n C 1 dX1_fillTrack_35 rfl rfl ?_
      refine v_iload C 4 dX1_fillTrack_36 rfl ?_
      refine v_iload C 0 dX1_fillTrack_38 rfl ?_
      obtain ⟨r, h1, h⟩ := bind_el h
      obtain ⟨r_2, rfl⟩ : ∃ z, z = r := ⟨_, rfl⟩
      try dsimp only at h
      refine v_callVi (As := [.int x5, .int (byLeft_L x6.toNatClampNeg)]) (st := []) (wr := []) (w1 := (wL cI cJ aL netOf_L left_L right_L trackOf_L touched_L below_L byLeft_L size_L tracks_L)) (ws' := (wL cI cJ aL netOf_L left_L right_L trackOf_L touched_L below_L byLeft_L size_L tracks_L)) (isC := [0, 1, 2, 3, 4, 5, 6, 7]) (isR := []) (pm := [0, 1, 2, 3, 4, 5, 6, 7]) C (c_X1_fitsBehind l D cI cJ aL netOf_L left_L right_L trackOf_L touched_L below_L byLeft_L size_L tracks_L x5 (byLeft_L x6.toNatClampNeg) r_2 h1) cw_X1_fitsBehind 0 rfl rfl m2_191 dX1_fillTrack_40 rfl ⟨Nat.le_of_ble_eq_true rfl, Nat.le_of_ble_eq_true rfl⟩ (Nat.le_of_ble_eq_true rfl) ⟨Nat.le_refl 0, Nat.le_refl 0⟩ ⟨rfl, rfl, rfl, rfl, by decide, rfl, rfl⟩ ?_
      refine v_if_eq (tgt := 68) C dX1_fillTrack_43 (by decide) h (fun h => ?_) (fun h => ?_)
      · refine v_iinc C [(6, .int (x6 + 1)), (7, .int (byLeft_L x6.toNatClampNeg)), (0, .ref (aL 0)), (1, .long x1), (3, .long x3), (5, .int x5)] 5 dX1_fillTrack_68 rfl rfl (by decide) rfl ?_
        refine v_goto (tgt := 8) C dX1_fillTrack_71 (by decide) ?_
        refine v_perm [2, 3, 4, 5, 0] rfl ?_
        cases h
        exact hl _ rfl
      · refine v_aload_n C 1 dX1_fillTrack_46 rfl rfl ?_
        refine v_get C 0 3 iuX1 rfl rfl (by decide) m1_74 rfl rfl dX1_fillTrack_47 ?_
        refine v_iload C 0 dX1_fillTrack_50 rfl ?_
        refine v_aload_n C 1 dX1_fillTrack_52 rfl rfl ?_
        refine v_get C 0 8 iuX1 rfl rfl (by decide) m1_83 rfl rfl dX1_fillTrack_53 ?_
        refine v_iast C (wL cI cJ aL netOf_L left_L right_L (upd trackOf_L (byLeft_L x6.toNatClampNeg).toNatClampNeg tracks_L) touched_L below_L byLeft_L size_L tracks_L) 4 rfl dX1_fillTrack_56 h rfl (fun h => ?_)
        refine v_lload_n C 3 dX1_fillTrack_57 rfl rfl ?_
        refine v_lconst (v := 1) C dX1_fillTrack_58 (by decide) ?_
        refine v_iload C 0 dX1_fillTrack_59 rfl ?_
        refine v_lshl C dX1_fillTrack_61 ?_
        refine v_lor C dX1_fillTrack_62 ?_
        refine v_lstore_n C [(3, .long (x3 ||| ((1 : Int64) <<< ((byLeft_L x6.toNatClampNeg).toInt64 &&& 63)))), (7, .int (byLeft_L x6.toNatClampNeg)), (0, .ref (aL 0)), (1, .long x1), (5, .int x5), (6, .int x6)] dX1_fillTrack_63 rfl (by decide) rfl ?_
        refine v_iload C 1 dX1_fillTrack_64 rfl ?_
        refine v_istore C [(5, .int (byLeft_L x6.toNatClampNeg)), (3, .long (x3 ||| ((1 : Int64) <<< ((byLeft_L x6.toNatClampNeg).toInt64 &&& 63)))), (7, .int (byLeft_L x6.toNatClampNeg)), (0, .ref (aL 0)), (1, .long x1), (6, .int x6)] dX1_fillTrack_66 (by decide) rfl ?_
        refine v_iinc C [(6, .int (x6 + 1)), (5, .int (byLeft_L x6.toNatClampNeg)), (3, .long (x3 ||| ((1 : Int64) <<< ((byLeft_L x6.toNatClampNeg).toInt64 &&& 63)))), (7, .int (byLeft_L x6.toNatClampNeg)), (0, .ref (aL 0)), (1, .long x1)] 5 dX1_fillTrack_68 rfl rfl (by decide) rfl ?_
        refine v_goto (tgt := 8) C dX1_fillTrack_71 (by decide) ?_
        refine v_perm [4, 5, 2, 1, 0] rfl ?_
        cases h
        exact hl _ rfl
set_option maxHeartbeats 4000000 in
set_option maxRecDepth 100000 in
theorem t_X1_fillTrack_L8 {p : Program} {l : Launch} {e : Env} {s : State} {m : MethodId} {args : Array Value} {below : List Frame} {meth : Method} {c : Code} {D : va_G} {A : Nat → Prop} {cI cJ : ClassId} {Q : State → Prop} (C : Cx p s m args c cX1_fillTrack 8 RX1 D A cI cJ) {aL : Nat → Nat} {x1 : Int64} {netOf_L : (Nat → Int32)} {left_L : (Nat → Int32)} {right_L : (Nat → Int32)} {touched_L : (Nat → Int32)} {below_L : (Nat → Int64)} {byLeft_L : (Nat → Int32)} {size_L : Int32} {tracks_L : Int32} {n8 : Nat} {s9 : (Int64 × Int32 × Int32 × (Nat → Int32))} {o8 : (Int64 × (Nat → Int32))} (h : lp (f_X1_fillTrack_B8 x1 netOf_L left_L right_L byLeft_L size_L tracks_L) n8 s9 = some o8) (hk : V p l e (rmO 1 22) s m args below meth c 8 D A 0 0 Q 74 [(3, .long o8.1)] [] (wL cI cJ aL netOf_L left_L right_L o8.2 touched_L below_L byLeft_L size_L tracks_L)) : V p l e (rmO 1 22) s m args below meth c 8 D A 0 0 Q 8 [(0, .ref (aL 0)), (1, .long x1), (3, .long s9.1), (5, .int s9.2.1), (6, .int s9.2.2.1)] [] (wL cI cJ aL netOf_L left_L right_L s9.2.2.2 touched_L below_L byLeft_L size_L tracks_L) := lp_ok (Pσ := fun s8 => V p l e (rmO 1 22) s m args below meth c 8 D A 0 0 Q 8 [(0, .ref (aL 0)), (1, .long x1), (3, .long s8.1), (5, .int s8.2.1), (6, .int s8.2.2.1)] [] (wL cI cJ aL netOf_L left_L right_L s8.2.2.2 touched_L below_L byLeft_L size_L tracks_L)) (Pρ := fun r8 => V p l e (rmO 1 22) s m args below meth c 8 D A 0 0 Q 74 [(3, .long r8.1)] [] (wL cI cJ aL netOf_L left_L right_L r8.2 touched_L below_L byLeft_L size_L tracks_L)) (fun s o h hl hx => t_X1_fillTrack_B8 C s o h hl hx) n8 s9 o8 h hk
set_option maxHeartbeats 4000000 in
set_option maxRecDepth 100000 in
theorem c_X1_fillTrack (l : Launch) (D : va_G) (cI cJ : ClassId) (aL : Nat → Nat) (netOf_L : (Nat → Int32)) (left_L : (Nat → Int32)) (right_L : (Nat → Int32)) (trackOf_L : (Nat → Int32)) (touched_L : (Nat → Int32)) (below_L : (Nat → Int64)) (byLeft_L : (Nat → Int32)) (size_L : Int32) (tracks_L : Int32) (x1 : Int64) (r : Int64) (trackOf_L' : (Nat → Int32)) (h : f_X1_fillTrack netOf_L left_L right_L trackOf_L byLeft_L size_L tracks_L x1 = some (r, trackOf_L')) : Ctl l D cI cJ yX1_fillTrack cX1_fillTrack 8 (some .long) 1 22 [.ref (aL 0), .long x1] (wL cI cJ aL netOf_L left_L right_L trackOf_L touched_L below_L byLeft_L size_L tracks_L) (wL cI cJ aL netOf_L left_L right_L trackOf_L' touched_L below_L byLeft_L size_L tracks_L) r := by
  refine mk_l [(0, .ref (aL 0)), (1, .long x1)] (by decide) rfl (Nat.le_of_ble_eq_true rfl) rfl (fun p e s m args below meth c A Q C hk => ?_)
  unfold f_X1_fillTrack at h
  refine v_lconst (v := 0) C dX1_fillTrack_0 (by decide) ?_
  refine v_lstore_n C [(3, .long 0), (0, .ref (aL 0)), (1, .long x1)] dX1_fillTrack_1 rfl (by decide) rfl ?_
  refine v_iconst (v := (-1)) C dX1_fillTrack_2 (by decide) ?_
  refine v_istore C [(5, .int (-1)), (3, .long 0), (0, .ref (aL 0)), (1, .long x1)] dX1_fillTrack_3 (by decide) rfl ?_
  refine v_iconst (v := 0) C dX1_fillTrack_5 (by decide) ?_
  refine v_istore C [(6, .int 0), (5, .int (-1)), (3, .long 0), (0, .ref (aL 0)), (1, .long x1)] dX1_fillTrack_6 (by decide) rfl ?_
  obtain ⟨r, h1, h⟩ := bind_el h
  refine v_perm [3, 4, 2, 1, 0] rfl ?_
  obtain ⟨x3_3, trackOf_L_4⟩ := r
  refine t_X1_fillTrack_L8 C (s9 := (0, (-1), 0, trackOf_L)) h1 ?_
  show V p l e (rmO 1 22) s m args below meth c 8 D A 0 0 Q 74 [(3, .long x3_3)] [] (wL cI cJ aL netOf_L left_L right_L trackOf_L_4 touched_L below_L byLeft_L size_L tracks_L)
  try dsimp only at h
  refine v_lload_n C 0 dX1_fillTrack_74 rfl rfl ?_
  cases h
  exact hk _ _ dX1_fillTrack_75
def f_X1_fillTracks_B18 (netOf_L : (Nat → Int32)) (left_L : (Nat → Int32)) (right_L : (Nat → Int32)) (below_L : (Nat → Int64)) (byLeft_L : (Nat → Int32)) (size_L : Int32) : (Int64 × (Nat → Int32) × Int32) → Option ((Int64 × (Nat → Int32) × Int32) ⊕ ((Nat → Int32) × Int32))
  | (x1, trackOf_L, tracks_L) => if (lg_cmp x1 0) = 0 then (some (.inr (trackOf_L, tracks_L))) else (if size_L ≤ tracks_L then (some (.inr (trackOf_L, tracks_L))) else ((f_X1_belowAnyOf below_L size_L x1).bind (fun r => match r with | r_2 => (f_X1_fillTrack netOf_L left_L right_L trackOf_L byLeft_L size_L tracks_L (x1 &&& (r_2 ^^^ (-1)))).bind (fun r => match r with | (r_3, trackOf_L_4) => some (.inl ((x1 &&& (r_3 ^^^ (-1)), trackOf_L_4, tracks_L + 1)))))))
def f_X1_fillTracks (netOf_L : (Nat → Int32)) (left_L : (Nat → Int32)) (right_L : (Nat → Int32)) (trackOf_L : (Nat → Int32)) (below_L : (Nat → Int64)) (byLeft_L : (Nat → Int32)) (size_L : Int32) : Option ((Nat → Int32) × (Nat → Int32) × Int32) := (f_X1_sortByLeft left_L byLeft_L size_L).bind (fun r => match r with | byLeft_L_1 => (lp (f_X1_fillTracks_B18 netOf_L left_L right_L below_L byLeft_L_1 size_L) 64 ((((1 : Int64) <<< (size_L.toInt64 &&& 63)) - 1, trackOf_L, 0))).bind (fun r => match r with | (trackOf_L_5, tracks_L_6) => some (trackOf_L_5, byLeft_L_1, tracks_L_6)))
theorem cw_X1_fillTracks : CWv yX1_fillTracks cX1_fillTracks 3 none RX1 0 := ⟨m2_176, ms2_15, m1_4, m2_177, rfl, by decide, by decide, by decide +kernel⟩
set_option maxHeartbeats 4000000 in
set_option maxRecDepth 100000 in
theorem t_X1_fillTracks_B18 {p : Program} {l : Launch} {e : Env} {s : State} {m : MethodId} {args : Array Value} {below : List Frame} {meth : Method} {c : Code} {D : va_G} {A : Nat → Prop} {cI cJ : ClassId} {Q : State → Prop} (C : Cx p s m args c cX1_fillTracks 3 RX1 D A cI cJ) {aL : Nat → Nat} {netOf_L : (Nat → Int32)} {left_L : (Nat → Int32)} {right_L : (Nat → Int32)} {touched_L : (Nat → Int32)} {below_L : (Nat → Int64)} {byLeft_L : (Nat → Int32)} {size_L : Int32} (s8 : (Int64 × (Nat → Int32) × Int32)) (o8 : (Int64 × (Nat → Int32) × Int32) ⊕ ((Nat → Int32) × Int32)) (h : f_X1_fillTracks_B18 netOf_L left_L right_L below_L byLeft_L size_L s8 = some o8) (hl : ∀ s8, o8 = .inl s8 → V p l e (rmO 2 49) s m args below meth c 3 D A 0 0 Q 18 [(0, .ref (aL 0)), (1, .long s8.1)] [] (wL cI cJ aL netOf_L left_L right_L s8.2.1 touched_L below_L byLeft_L size_L s8.2.2)) (hx : ∀ r8, o8 = .inr r8 → V p l e (rmO 2 49) s m args below meth c 3 D A 0 0 Q 70 [] [] (wL cI cJ aL netOf_L left_L right_L r8.1 touched_L below_L byLeft_L size_L r8.2)) : V p l e (rmO 2 49) s m args below meth c 3 D A 0 0 Q 18 [(0, .ref (aL 0)), (1, .long s8.1)] [] (wL cI cJ aL netOf_L left_L right_L s8.2.1 touched_L below_L byLeft_L size_L s8.2.2) := by
  obtain ⟨x1, trackOf_L, tracks_L⟩ := s8
  unfold f_X1_fillTracks_B18 at h
  show V p l e (rmO 2 49) s m args below meth c 3 D A 0 0 Q 18 [(0, .ref (aL 0)), (1, .long x1)] [] (wL cI cJ aL netOf_L left_L right_L trackOf_L touched_L below_L byLeft_L size_L tracks_L)
  refine v_lload_n C 1 dX1_fillTracks_18 rfl rfl ?_
  refine v_lconst (v := 0) C dX1_fillTracks_19 (by decide) ?_
  refine v_lcmp C dX1_fillTracks_20 ?_
  refine v_if_eq (tgt := 70) C dX1_fillTracks_21 (by decide) h (fun h => ?_) (fun h => ?_)
  · refine v_perm [] rfl ?_
    cases h
    exact hx _ rfl
  · refine v_aload_n C 0 dX1_fillTracks_24 rfl rfl ?_
    refine v_get C 0 8 iuX1 rfl rfl (by decide) m1_83 rfl rfl dX1_fillTracks_25 ?_
    refine v_aload_n C 0 dX1_fillTracks_28 rfl rfl ?_
    refine v_get C 0 7 iuX1 rfl rfl (by decide) m1_80 rfl rfl dX1_fillTracks_29 ?_
    refine v_icmp_ge (tgt := 70) C dX1_fillTracks_32 (by decide) h (fun h => ?_) (fun h => ?_)
    · refine v_perm [] rfl ?_
      cases h
      exact hx _ rfl
    · refine v_lload_n C 1 dX1_fillTracks_35 rfl rfl ?_
      refine v_aload_n C 0 dX1_fillTracks_36 rfl rfl ?_
      refine v_lload_n C 1 dX1_fillTracks_37 rfl rfl ?_
      refine v_aload_n C 0 dX1_fillTracks_38 rfl rfl ?_
      refine v_lload_n C 1 dX1_fillTracks_39 rfl rfl ?_
      obtain ⟨r, h1, h⟩ := bind_el h
      obtain ⟨r_2, rfl⟩ : ∃ z, z = r := ⟨_, rfl⟩
      try dsimp only at h
      refine v_callVl (As := [.long x1]) (st := [.long x1, .ref (aL 0), .long x1]) (wr := []) (w1 := (wL cI cJ aL netOf_L left_L right_L trackOf_L touched_L below_L byLeft_L size_L tracks_L)) (ws' := (wL cI cJ aL netOf_L left_L right_L trackOf_L touched_L below_L byLeft_L size_L tracks_L)) (isC := [0, 1, 2, 3, 4, 5, 6, 7]) (isR := []) (pm := [0, 1, 2, 3, 4, 5, 6, 7]) C (c_X1_belowAnyOf l D cI cJ aL netOf_L left_L right_L trackOf_L touched_L below_L byLeft_L size_L tracks_L x1 r_2 h1) cw_X1_belowAnyOf 0 rfl rfl m2_182 dX1_fillTracks_40 rfl ⟨Nat.le_of_ble_eq_true rfl, Nat.le_of_ble_eq_true rfl⟩ (Nat.le_of_ble_eq_true rfl) ⟨Nat.le_refl 0, Nat.le_refl 0⟩ ⟨rfl, rfl, rfl, rfl, by decide, rfl, rfl⟩ ?_
      refine v_ldc2 (v := (-1)) C m2_186 dX1_fillTracks_43 ?_
      refine v_lxor C dX1_fillTracks_46 ?_
      refine v_land C dX1_fillTracks_47 ?_
      obtain ⟨r, h1, h⟩ := bind_el h
      obtain ⟨r_3, trackOf_L_4⟩ := r
      try dsimp only at h
      refine v_callVl (As := [.long (x1 &&& (r_2 ^^^ (-1)))]) (st := [.long x1]) (wr := []) (w1 := (wL cI cJ aL netOf_L left_L right_L trackOf_L_4 touched_L below_L byLeft_L size_L tracks_L)) (ws' := (wL cI cJ aL netOf_L left_L right_L trackOf_L_4 touched_L below_L byLeft_L size_L tracks_L)) (isC := [0, 1, 2, 3, 4, 5, 6, 7]) (isR := []) (pm := [0, 1, 2, 3, 4, 5, 6, 7]) C (c_X1_fillTrack l D cI cJ aL netOf_L left_L right_L trackOf_L touched_L below_L byLeft_L size_L tracks_L (x1 &&& (r_2 ^^^ (-1))) r_3 trackOf_L_4 h1) cw_X1_fillTrack 0 rfl rfl m2_187 dX1_fillTracks_48 rfl ⟨Nat.le_of_ble_eq_true rfl, Nat.le_of_ble_eq_true rfl⟩ (Nat.le_of_ble_eq_true rfl) ⟨Nat.le_refl 0, Nat.le_refl 0⟩ ⟨rfl, rfl, rfl, rfl, by decide, rfl, rfl⟩ ?_
      refine v_ldc2 (v := (-1)) C m2_186 dX1_fillTracks_51 ?_
      refine v_lxor C dX1_fillTracks_54 ?_
      refine v_land C dX1_fillTracks_55 ?_
      refine v_lstore_n C [(1, .long (x1 &&& (r_3 ^^^ (-1)))), (0, .ref (aL 0))] dX1_fillTracks_56 rfl (by decide) rfl ?_
      refine v_aload_n C 1 dX1_fillTracks_57 rfl rfl ?_
      refine v_dup C dX1_fillTracks_58 rfl ?_
      refine v_get C 0 8 iuX1 rfl rfl (by decide) m1_83 rfl rfl dX1_fillTracks_59 ?_
      refine v_iconst (v := 1) C dX1_fillTracks_62 (by decide) ?_
      refine v_iadd C dX1_fillTracks_63 ?_
      refine v_put C (wL cI cJ aL netOf_L left_L right_L trackOf_L_4 touched_L below_L byLeft_L size_L (tracks_L + 1)) 0 8 iuX1 tyX1_ok nmX1 rfl rfl (by decide) m1_83 rfl rfl rfl rfl rfl (Nat.le_of_ble_eq_true rfl) dX1_fillTracks_64 rfl ?_
      refine v_goto (tgt := 18) C dX1_fillTracks_67 (by decide) ?_
      refine v_perm [1, 0] rfl ?_
      cases h
      exact hl _ rfl
set_option maxHeartbeats 4000000 in
set_option maxRecDepth 100000 in
theorem t_X1_fillTracks_L18 {p : Program} {l : Launch} {e : Env} {s : State} {m : MethodId} {args : Array Value} {below : List Frame} {meth : Method} {c : Code} {D : va_G} {A : Nat → Prop} {cI cJ : ClassId} {Q : State → Prop} (C : Cx p s m args c cX1_fillTracks 3 RX1 D A cI cJ) {aL : Nat → Nat} {netOf_L : (Nat → Int32)} {left_L : (Nat → Int32)} {right_L : (Nat → Int32)} {touched_L : (Nat → Int32)} {below_L : (Nat → Int64)} {byLeft_L : (Nat → Int32)} {size_L : Int32} {n8 : Nat} {s9 : (Int64 × (Nat → Int32) × Int32)} {o8 : ((Nat → Int32) × Int32)} (h : lp (f_X1_fillTracks_B18 netOf_L left_L right_L below_L byLeft_L size_L) n8 s9 = some o8) (hk : V p l e (rmO 2 49) s m args below meth c 3 D A 0 0 Q 70 [] [] (wL cI cJ aL netOf_L left_L right_L o8.1 touched_L below_L byLeft_L size_L o8.2)) : V p l e (rmO 2 49) s m args below meth c 3 D A 0 0 Q 18 [(0, .ref (aL 0)), (1, .long s9.1)] [] (wL cI cJ aL netOf_L left_L right_L s9.2.1 touched_L below_L byLeft_L size_L s9.2.2) := lp_ok (Pσ := fun s8 => V p l e (rmO 2 49) s m args below meth c 3 D A 0 0 Q 18 [(0, .ref (aL 0)), (1, .long s8.1)] [] (wL cI cJ aL netOf_L left_L right_L s8.2.1 touched_L below_L byLeft_L size_L s8.2.2)) (Pρ := fun r8 => V p l e (rmO 2 49) s m args below meth c 3 D A 0 0 Q 70 [] [] (wL cI cJ aL netOf_L left_L right_L r8.1 touched_L below_L byLeft_L size_L r8.2)) (fun s o h hl hx => t_X1_fillTracks_B18 C s o h hl hx) n8 s9 o8 h hk
set_option maxHeartbeats 4000000 in
set_option maxRecDepth 100000 in
theorem c_X1_fillTracks (l : Launch) (D : va_G) (cI cJ : ClassId) (aL : Nat → Nat) (netOf_L : (Nat → Int32)) (left_L : (Nat → Int32)) (right_L : (Nat → Int32)) (trackOf_L : (Nat → Int32)) (touched_L : (Nat → Int32)) (below_L : (Nat → Int64)) (byLeft_L : (Nat → Int32)) (size_L : Int32) (tracks_L : Int32) (trackOf_L' : (Nat → Int32)) (byLeft_L' : (Nat → Int32)) (tracks_L' : Int32) (h : f_X1_fillTracks netOf_L left_L right_L trackOf_L below_L byLeft_L size_L = some (trackOf_L', byLeft_L', tracks_L')) : Ctv l D cI cJ yX1_fillTracks cX1_fillTracks 3 none 2 49 [.ref (aL 0)] (wL cI cJ aL netOf_L left_L right_L trackOf_L touched_L below_L byLeft_L size_L tracks_L) (wL cI cJ aL netOf_L left_L right_L trackOf_L' touched_L below_L byLeft_L' size_L tracks_L') := by
  refine mk_v [(0, .ref (aL 0))] (by decide) rfl (Nat.le_of_ble_eq_true rfl) rfl (fun p e s m args below meth c A Q C hk => ?_)
  unfold f_X1_fillTracks at h
  refine v_aload_n C 0 dX1_fillTracks_0 rfl rfl ?_
  obtain ⟨r, h1, h⟩ := bind_el h
  obtain ⟨byLeft_L_1, rfl⟩ : ∃ z, z = r := ⟨_, rfl⟩
  try dsimp only at h
  refine v_callVv (As := []) (st := []) (wr := []) (w1 := (wL cI cJ aL netOf_L left_L right_L trackOf_L touched_L below_L byLeft_L_1 size_L tracks_L)) (ws' := (wL cI cJ aL netOf_L left_L right_L trackOf_L touched_L below_L byLeft_L_1 size_L tracks_L)) (isC := [0, 1, 2, 3, 4, 5, 6, 7]) (isR := []) (pm := [0, 1, 2, 3, 4, 5, 6, 7]) C (c_X1_sortByLeft l D cI cJ aL netOf_L left_L right_L trackOf_L touched_L below_L byLeft_L size_L tracks_L byLeft_L_1 h1) cw_X1_sortByLeft 0 rfl rfl m2_178 dX1_fillTracks_1 rfl ⟨Nat.le_of_ble_eq_true rfl, Nat.le_of_ble_eq_true rfl⟩ (Nat.le_of_ble_eq_true rfl) ⟨Nat.le_refl 0, Nat.le_refl 0⟩ ⟨rfl, rfl, rfl, rfl, by decide, rfl, rfl⟩ ?_
  refine v_lconst (v := 1) C dX1_fillTracks_4 (by decide) ?_
  refine v_aload_n C 0 dX1_fillTracks_5 rfl rfl ?_
  refine v_get C 0 7 iuX1 rfl rfl (by decide) m1_80 rfl rfl dX1_fillTracks_6 ?_
  refine v_lshl C dX1_fillTracks_9 ?_
  refine v_lconst (v := 1) C dX1_fillTracks_10 (by decide) ?_
  refine v_lsub C dX1_fillTracks_11 ?_
  refine v_lstore_n C [(1, .long (((1 : Int64) <<< (size_L.toInt64 &&& 63)) - 1)), (0, .ref (aL 0))] dX1_fillTracks_12 rfl (by decide) rfl ?_
  refine v_aload_n C 1 dX1_fillTracks_13 rfl rfl ?_
  refine v_iconst (v := 0) C dX1_fillTracks_14 (by decide) ?_
  refine v_put C (wL cI cJ aL netOf_L left_L right_L trackOf_L touched_L below_L byLeft_L_1 size_L 0) 0 8 iuX1 tyX1_ok nmX1 rfl rfl (by decide) m1_83 rfl rfl rfl rfl rfl (Nat.le_of_ble_eq_true rfl) dX1_fillTracks_15 rfl ?_
  obtain ⟨r, h1, h⟩ := bind_el h
  refine v_perm [1, 0] rfl ?_
  obtain ⟨trackOf_L_5, tracks_L_6⟩ := r
  refine t_X1_fillTracks_L18 C (s9 := (((1 : Int64) <<< (size_L.toInt64 &&& 63)) - 1, trackOf_L, 0)) h1 ?_
  show V p l e (rmO 2 49) s m args below meth c 3 D A 0 0 Q 70 [] [] (wL cI cJ aL netOf_L left_L right_L trackOf_L_5 touched_L below_L byLeft_L_1 size_L tracks_L_6)
  try dsimp only at h
  cases h
  exact hk _ _ dX1_fillTracks_70
def f_X1_netOn_B2 (x1 : Int32) (x2 : Int32) (left_L : (Nat → Int32)) (right_L : (Nat → Int32)) (trackOf_L : (Nat → Int32)) (size_L : Int32) : Int32 → Option (Int32 ⊕ (Unit ⊕ Int32))
  | x3 => if size_L ≤ x3 then (some (.inr (.inl ()))) else (bnd x3 38 (if (trackOf_L x3.toNatClampNeg) = x1 then (bnd x3 38 (if x2 < (left_L x3.toNatClampNeg) then (some (.inl (x3 + 1))) else (bnd x3 38 (if (right_L x3.toNatClampNeg) < x2 then (some (.inl (x3 + 1))) else (some (.inr (.inr x3))))))) else (some (.inl (x3 + 1)))))
def f_X1_netOn (netOf_L : (Nat → Int32)) (left_L : (Nat → Int32)) (right_L : (Nat → Int32)) (trackOf_L : (Nat → Int32)) (size_L : Int32) (x1 : Int32) (x2 : Int32) : Option Int32 := (lp (f_X1_netOn_B2 x1 x2 left_L right_L trackOf_L size_L) 64 0).bind (fun r => match r with | .inl _ => some 0 | .inr x3_1 => bnd x3_1 38 (some (netOf_L x3_1.toNatClampNeg)))
theorem cw_X1_netOn : CWv yX1_netOn cX1_netOn 4 (some .int) RX1 2 := ⟨m1_239, ms2_3, m1_4, m2_0, rfl, by decide, by decide, by decide +kernel⟩
set_option maxHeartbeats 4000000 in
set_option maxRecDepth 100000 in
theorem t_X1_netOn_B2 {p : Program} {l : Launch} {e : Env} {s : State} {m : MethodId} {args : Array Value} {below : List Frame} {meth : Method} {c : Code} {D : va_G} {A : Nat → Prop} {cI cJ : ClassId} {Q : State → Prop} (C : Cx p s m args c cX1_netOn 4 RX1 D A cI cJ) {aL : Nat → Nat} {x1 : Int32} {x2 : Int32} {netOf_L : (Nat → Int32)} {left_L : (Nat → Int32)} {right_L : (Nat → Int32)} {trackOf_L : (Nat → Int32)} {touched_L : (Nat → Int32)} {below_L : (Nat → Int64)} {byLeft_L : (Nat → Int32)} {size_L : Int32} {tracks_L : Int32} (s8 : Int32) (o8 : Int32 ⊕ (Unit ⊕ Int32)) (h : f_X1_netOn_B2 x1 x2 left_L right_L trackOf_L size_L s8 = some o8) (hl : ∀ s8, o8 = .inl s8 → V p l e (rmO 0 0) s m args below meth c 4 D A 0 0 Q 2 [(0, .ref (aL 0)), (1, .int x1), (2, .int x2), (3, .int s8)] [] (wL cI cJ aL netOf_L left_L right_L trackOf_L touched_L below_L byLeft_L size_L tracks_L)) (hx0 : ∀ r8, o8 = .inr (.inl r8) → V p l e (rmO 0 0) s m args below meth c 4 D A 0 0 Q 53 [] [] (wL cI cJ aL netOf_L left_L right_L trackOf_L touched_L below_L byLeft_L size_L tracks_L)) (hx1 : ∀ r8, o8 = .inr (.inr r8) → V p l e (rmO 0 0) s m args below meth c 4 D A 0 0 Q 40 [(0, .ref (aL 0)), (3, .int r8)] [] (wL cI cJ aL netOf_L left_L right_L trackOf_L touched_L below_L byLeft_L size_L tracks_L)) : V p l e (rmO 0 0) s m args below meth c 4 D A 0 0 Q 2 [(0, .ref (aL 0)), (1, .int x1), (2, .int x2), (3, .int s8)] [] (wL cI cJ aL netOf_L left_L right_L trackOf_L touched_L below_L byLeft_L size_L tracks_L) := by
  obtain ⟨x3, rfl⟩ : ∃ z, z = s8 := ⟨_, rfl⟩
  unfold f_X1_netOn_B2 at h
  show V p l e (rmO 0 0) s m args below meth c 4 D A 0 0 Q 2 [(0, .ref (aL 0)), (1, .int x1), (2, .int x2), (3, .int x3)] [] (wL cI cJ aL netOf_L left_L right_L trackOf_L touched_L below_L byLeft_L size_L tracks_L)
  refine v_iload_n C 3 dX1_netOn_2 rfl rfl ?_
  refine v_aload_n C 0 dX1_netOn_3 rfl rfl ?_
  refine v_get C 0 7 iuX1 rfl rfl (by decide) m1_80 rfl rfl dX1_netOn_4 ?_
  refine v_icmp_ge (tgt := 53) C dX1_netOn_7 (by decide) h (fun h => ?_) (fun h => ?_)
  · refine v_perm [] rfl ?_
    cases h
    exact hx0 _ rfl
  · refine v_aload_n C 0 dX1_netOn_10 rfl rfl ?_
    refine v_get C 0 3 iuX1 rfl rfl (by decide) m1_74 rfl rfl dX1_netOn_11 ?_
    refine v_iload_n C 3 dX1_netOn_14 rfl rfl ?_
    refine v_iald C 4 rfl dX1_netOn_15 h (fun h => ?_)
    refine v_iload_n C 1 dX1_netOn_16 rfl rfl ?_
    refine v_icmp_ne (tgt := 47) C dX1_netOn_17 (by decide) h (fun h => ?_) (fun h => ?_)
    · refine v_aload_n C 0 dX1_netOn_20 rfl rfl ?_
      refine v_get C 0 1 iuX1 rfl rfl (by decide) m1_70 rfl rfl dX1_netOn_21 ?_
      refine v_iload_n C 3 dX1_netOn_24 rfl rfl ?_
      refine v_iald C 2 rfl dX1_netOn_25 h (fun h => ?_)
      refine v_iload_n C 2 dX1_netOn_26 rfl rfl ?_
      refine v_icmp_gt (tgt := 47) C dX1_netOn_27 (by decide) h (fun h => ?_) (fun h => ?_)
      · refine v_iinc C [(3, .int (x3 + 1)), (0, .ref (aL 0)), (1, .int x1), (2, .int x2)] 3 dX1_netOn_47 rfl rfl (by decide) rfl ?_
        refine v_goto (tgt := 2) C dX1_netOn_50 (by decide) ?_
        refine v_perm [1, 2, 3, 0] rfl ?_
        cases h
        exact hl _ rfl
      · refine v_iload_n C 2 dX1_netOn_30 rfl rfl ?_
        refine v_aload_n C 0 dX1_netOn_31 rfl rfl ?_
        refine v_get C 0 2 iuX1 rfl rfl (by decide) m1_72 rfl rfl dX1_netOn_32 ?_
        refine v_iload_n C 3 dX1_netOn_35 rfl rfl ?_
        refine v_iald C 3 rfl dX1_netOn_36 h (fun h => ?_)
        refine v_icmp_gt (tgt := 47) C dX1_netOn_37 (by decide) h (fun h => ?_) (fun h => ?_)
        · refine v_iinc C [(3, .int (x3 + 1)), (0, .ref (aL 0)), (1, .int x1), (2, .int x2)] 3 dX1_netOn_47 rfl rfl (by decide) rfl ?_
          refine v_goto (tgt := 2) C dX1_netOn_50 (by decide) ?_
          refine v_perm [1, 2, 3, 0] rfl ?_
          cases h
          exact hl _ rfl
        · refine v_perm [0, 3] rfl ?_
          cases h
          exact hx1 _ rfl
    · refine v_iinc C [(3, .int (x3 + 1)), (0, .ref (aL 0)), (1, .int x1), (2, .int x2)] 3 dX1_netOn_47 rfl rfl (by decide) rfl ?_
      refine v_goto (tgt := 2) C dX1_netOn_50 (by decide) ?_
      refine v_perm [1, 2, 3, 0] rfl ?_
      cases h
      exact hl _ rfl
set_option maxHeartbeats 4000000 in
set_option maxRecDepth 100000 in
theorem t_X1_netOn_L2 {p : Program} {l : Launch} {e : Env} {s : State} {m : MethodId} {args : Array Value} {below : List Frame} {meth : Method} {c : Code} {D : va_G} {A : Nat → Prop} {cI cJ : ClassId} {Q : State → Prop} (C : Cx p s m args c cX1_netOn 4 RX1 D A cI cJ) {aL : Nat → Nat} {x1 : Int32} {x2 : Int32} {netOf_L : (Nat → Int32)} {left_L : (Nat → Int32)} {right_L : (Nat → Int32)} {trackOf_L : (Nat → Int32)} {touched_L : (Nat → Int32)} {below_L : (Nat → Int64)} {byLeft_L : (Nat → Int32)} {size_L : Int32} {tracks_L : Int32} {n8 : Nat} {s9 : Int32} {o8 : (Unit ⊕ Int32)} (h : lp (f_X1_netOn_B2 x1 x2 left_L right_L trackOf_L size_L) n8 s9 = some o8) (hk : (Sum.elim (fun r8 => V p l e (rmO 0 0) s m args below meth c 4 D A 0 0 Q 53 [] [] (wL cI cJ aL netOf_L left_L right_L trackOf_L touched_L below_L byLeft_L size_L tracks_L)) (fun r8 => V p l e (rmO 0 0) s m args below meth c 4 D A 0 0 Q 40 [(0, .ref (aL 0)), (3, .int r8)] [] (wL cI cJ aL netOf_L left_L right_L trackOf_L touched_L below_L byLeft_L size_L tracks_L))) o8) : V p l e (rmO 0 0) s m args below meth c 4 D A 0 0 Q 2 [(0, .ref (aL 0)), (1, .int x1), (2, .int x2), (3, .int s9)] [] (wL cI cJ aL netOf_L left_L right_L trackOf_L touched_L below_L byLeft_L size_L tracks_L) := lp_ok (Pσ := fun s8 => V p l e (rmO 0 0) s m args below meth c 4 D A 0 0 Q 2 [(0, .ref (aL 0)), (1, .int x1), (2, .int x2), (3, .int s8)] [] (wL cI cJ aL netOf_L left_L right_L trackOf_L touched_L below_L byLeft_L size_L tracks_L)) (Pρ := Sum.elim (fun r8 => V p l e (rmO 0 0) s m args below meth c 4 D A 0 0 Q 53 [] [] (wL cI cJ aL netOf_L left_L right_L trackOf_L touched_L below_L byLeft_L size_L tracks_L)) (fun r8 => V p l e (rmO 0 0) s m args below meth c 4 D A 0 0 Q 40 [(0, .ref (aL 0)), (3, .int r8)] [] (wL cI cJ aL netOf_L left_L right_L trackOf_L touched_L below_L byLeft_L size_L tracks_L))) (fun s o h hl hx => t_X1_netOn_B2 C s o h hl (fun r e => hx _ e) (fun r e => hx _ e)) n8 s9 o8 h hk
set_option maxHeartbeats 4000000 in
set_option maxRecDepth 100000 in
theorem c_X1_netOn (l : Launch) (D : va_G) (cI cJ : ClassId) (aL : Nat → Nat) (netOf_L : (Nat → Int32)) (left_L : (Nat → Int32)) (right_L : (Nat → Int32)) (trackOf_L : (Nat → Int32)) (touched_L : (Nat → Int32)) (below_L : (Nat → Int64)) (byLeft_L : (Nat → Int32)) (size_L : Int32) (tracks_L : Int32) (x1 : Int32) (x2 : Int32) (r : Int32) (h : f_X1_netOn netOf_L left_L right_L trackOf_L size_L x1 x2 = some r) : Cti l D cI cJ yX1_netOn cX1_netOn 4 (some .int) 0 0 [.ref (aL 0), .int x1, .int x2] (wL cI cJ aL netOf_L left_L right_L trackOf_L touched_L below_L byLeft_L size_L tracks_L) (wL cI cJ aL netOf_L left_L right_L trackOf_L touched_L below_L byLeft_L size_L tracks_L) r := by
  refine mk_i [(0, .ref (aL 0)), (1, .int x1), (2, .int x2)] (by decide) rfl (Nat.le_of_ble_eq_true rfl) rfl (fun p e s m args below meth c A Q C hk => ?_)
  unfold f_X1_netOn at h
  refine v_iconst (v := 0) C dX1_netOn_0 (by decide) ?_
  refine v_istore_n C [(3, .int 0), (0, .ref (aL 0)), (1, .int x1), (2, .int x2)] dX1_netOn_1 rfl (by decide) rfl ?_
  obtain ⟨r, h1, h⟩ := bind_el h
  refine v_perm [1, 2, 3, 0] rfl ?_
  rcases r with _ | ⟨x3_1⟩
  · refine t_X1_netOn_L2 C (s9 := 0) h1 ?_
    show V p l e (rmO 0 0) s m args below meth c 4 D A 0 0 Q 53 [] [] (wL cI cJ aL netOf_L left_L right_L trackOf_L touched_L below_L byLeft_L size_L tracks_L)
    try dsimp only at h
    refine v_iconst (v := 0) C dX1_netOn_53 (by decide) ?_
    cases h
    exact hk _ _ dX1_netOn_54
  · refine t_X1_netOn_L2 C (s9 := 0) h1 ?_
    show V p l e (rmO 0 0) s m args below meth c 4 D A 0 0 Q 40 [(0, .ref (aL 0)), (3, .int x3_1)] [] (wL cI cJ aL netOf_L left_L right_L trackOf_L touched_L below_L byLeft_L size_L tracks_L)
    try dsimp only at h
    refine v_aload_n C 0 dX1_netOn_40 rfl rfl ?_
    refine v_get C 0 0 iuX1 rfl rfl (by decide) m1_68 rfl rfl dX1_netOn_41 ?_
    refine v_iload_n C 1 dX1_netOn_44 rfl rfl ?_
    refine v_iald C 1 rfl dX1_netOn_45 h (fun h => ?_)
    cases h
    exact hk _ _ dX1_netOn_46
def f_X1_touchesOn_B3 (x1 : Int32) (x2 : Int32) (x3 : Int32) (netOf_L : (Nat → Int32)) (trackOf_L : (Nat → Int32)) (touched_L : (Nat → Int32)) (size_L : Int32) : Int32 → Option (Int32 ⊕ (Unit ⊕ Unit))
  | x4 => if size_L ≤ x4 then (some (.inr (.inl ()))) else (bnd x4 38 (if (trackOf_L x4.toNatClampNeg) = x1 then ((f_X1_touches netOf_L touched_L x4 x2 x3).bind (fun r => match r with | r_1 => if r_1 = 0 then (some (.inl (x4 + 1))) else (some (.inr (.inr ()))))) else (some (.inl (x4 + 1)))))
def f_X1_touchesOn (netOf_L : (Nat → Int32)) (trackOf_L : (Nat → Int32)) (touched_L : (Nat → Int32)) (size_L : Int32) (x1 : Int32) (x2 : Int32) (x3 : Int32) : Option Int32 := (lp (f_X1_touchesOn_B3 x1 x2 x3 netOf_L trackOf_L touched_L size_L) 64 0).bind (fun r => match r with | .inl _ => some 0 | .inr _ => some 1)
theorem cw_X1_touchesOn : CWv yX1_touchesOn cX1_touchesOn 5 (some .boolean) RX1 3 := ⟨m3_22, ms3_9, m1_4, m3_23, rfl, by decide, by decide, by decide +kernel⟩
set_option maxHeartbeats 4000000 in
set_option maxRecDepth 100000 in
theorem t_X1_touchesOn_B3 {p : Program} {l : Launch} {e : Env} {s : State} {m : MethodId} {args : Array Value} {below : List Frame} {meth : Method} {c : Code} {D : va_G} {A : Nat → Prop} {cI cJ : ClassId} {Q : State → Prop} (C : Cx p s m args c cX1_touchesOn 5 RX1 D A cI cJ) {aL : Nat → Nat} {x1 : Int32} {x2 : Int32} {x3 : Int32} {netOf_L : (Nat → Int32)} {left_L : (Nat → Int32)} {right_L : (Nat → Int32)} {trackOf_L : (Nat → Int32)} {touched_L : (Nat → Int32)} {below_L : (Nat → Int64)} {byLeft_L : (Nat → Int32)} {size_L : Int32} {tracks_L : Int32} (s8 : Int32) (o8 : Int32 ⊕ (Unit ⊕ Unit)) (h : f_X1_touchesOn_B3 x1 x2 x3 netOf_L trackOf_L touched_L size_L s8 = some o8) (hl : ∀ s8, o8 = .inl s8 → V p l e (rmO 1 23) s m args below meth c 5 D A 0 0 Q 3 [(0, .ref (aL 0)), (1, .int x1), (2, .int x2), (3, .int x3), (4, .int s8)] [] (wL cI cJ aL netOf_L left_L right_L trackOf_L touched_L below_L byLeft_L size_L tracks_L)) (hx0 : ∀ r8, o8 = .inr (.inl r8) → V p l e (rmO 1 23) s m args below meth c 5 D A 0 0 Q 42 [] [] (wL cI cJ aL netOf_L left_L right_L trackOf_L touched_L below_L byLeft_L size_L tracks_L)) (hx1 : ∀ r8, o8 = .inr (.inr r8) → V p l e (rmO 1 23) s m args below meth c 5 D A 0 0 Q 34 [] [] (wL cI cJ aL netOf_L left_L right_L trackOf_L touched_L below_L byLeft_L size_L tracks_L)) : V p l e (rmO 1 23) s m args below meth c 5 D A 0 0 Q 3 [(0, .ref (aL 0)), (1, .int x1), (2, .int x2), (3, .int x3), (4, .int s8)] [] (wL cI cJ aL netOf_L left_L right_L trackOf_L touched_L below_L byLeft_L size_L tracks_L) := by
  obtain ⟨x4, rfl⟩ : ∃ z, z = s8 := ⟨_, rfl⟩
  unfold f_X1_touchesOn_B3 at h
  show V p l e (rmO 1 23) s m args below meth c 5 D A 0 0 Q 3 [(0, .ref (aL 0)), (1, .int x1), (2, .int x2), (3, .int x3), (4, .int x4)] [] (wL cI cJ aL netOf_L left_L right_L trackOf_L touched_L below_L byLeft_L size_L tracks_L)
  refine v_iload C 4 dX1_touchesOn_3 rfl ?_
  refine v_aload_n C 0 dX1_touchesOn_5 rfl rfl ?_
  refine v_get C 0 7 iuX1 rfl rfl (by decide) m1_80 rfl rfl dX1_touchesOn_6 ?_
  refine v_icmp_ge (tgt := 42) C dX1_touchesOn_9 (by decide) h (fun h => ?_) (fun h => ?_)
  · refine v_perm [] rfl ?_
    cases h
    exact hx0 _ rfl
  · refine v_aload_n C 0 dX1_touchesOn_12 rfl rfl ?_
    refine v_get C 0 3 iuX1 rfl rfl (by decide) m1_74 rfl rfl dX1_touchesOn_13 ?_
    refine v_iload C 4 dX1_touchesOn_16 rfl ?_
    refine v_iald C 4 rfl dX1_touchesOn_18 h (fun h => ?_)
    refine v_iload_n C 1 dX1_touchesOn_19 rfl rfl ?_
    refine v_icmp_ne (tgt := 36) C dX1_touchesOn_20 (by decide) h (fun h => ?_) (fun h => ?_)
    · refine v_aload_n C 0 dX1_touchesOn_23 rfl rfl ?_
      refine v_iload C 4 dX1_touchesOn_24 rfl ?_
      refine v_iload_n C 2 dX1_touchesOn_26 rfl rfl ?_
      refine v_iload_n C 3 dX1_touchesOn_27 rfl rfl ?_
      obtain ⟨r, h1, h⟩ := bind_el h
      obtain ⟨r_1, rfl⟩ : ∃ z, z = r := ⟨_, rfl⟩
      try dsimp only at h
      refine v_callVi (As := [.int x4, .int x2, .int x3]) (st := []) (wr := []) (w1 := (wL cI cJ aL netOf_L left_L right_L trackOf_L touched_L below_L byLeft_L size_L tracks_L)) (ws' := (wL cI cJ aL netOf_L left_L right_L trackOf_L touched_L below_L byLeft_L size_L tracks_L)) (isC := [0, 1, 2, 3, 4, 5, 6, 7]) (isR := []) (pm := [0, 1, 2, 3, 4, 5, 6, 7]) C (c_X1_touches l D cI cJ aL netOf_L left_L right_L trackOf_L touched_L below_L byLeft_L size_L tracks_L x4 x2 x3 r_1 h1) cw_X1_touches 0 rfl rfl m1_208 dX1_touchesOn_28 rfl ⟨Nat.le_of_ble_eq_true rfl, Nat.le_of_ble_eq_true rfl⟩ (Nat.le_of_ble_eq_true rfl) ⟨Nat.le_refl 0, Nat.le_refl 0⟩ ⟨rfl, rfl, rfl, rfl, by decide, rfl, rfl⟩ ?_
      refine v_if_eq (tgt := 36) C dX1_touchesOn_31 (by decide) h (fun h => ?_) (fun h => ?_)
      · refine v_iinc C [(4, .int (x4 + 1)), (0, .ref (aL 0)), (1, .int x1), (2, .int x2), (3, .int x3)] 4 dX1_touchesOn_36 rfl rfl (by decide) rfl ?_
        refine v_goto (tgt := 3) C dX1_touchesOn_39 (by decide) ?_
        refine v_perm [1, 2, 3, 4, 0] rfl ?_
        cases h
        exact hl _ rfl
      · refine v_perm [] rfl ?_
        cases h
        exact hx1 _ rfl
    · refine v_iinc C [(4, .int (x4 + 1)), (0, .ref (aL 0)), (1, .int x1), (2, .int x2), (3, .int x3)] 4 dX1_touchesOn_36 rfl rfl (by decide) rfl ?_
      refine v_goto (tgt := 3) C dX1_touchesOn_39 (by decide) ?_
      refine v_perm [1, 2, 3, 4, 0] rfl ?_
      cases h
      exact hl _ rfl
set_option maxHeartbeats 4000000 in
set_option maxRecDepth 100000 in
theorem t_X1_touchesOn_L3 {p : Program} {l : Launch} {e : Env} {s : State} {m : MethodId} {args : Array Value} {below : List Frame} {meth : Method} {c : Code} {D : va_G} {A : Nat → Prop} {cI cJ : ClassId} {Q : State → Prop} (C : Cx p s m args c cX1_touchesOn 5 RX1 D A cI cJ) {aL : Nat → Nat} {x1 : Int32} {x2 : Int32} {x3 : Int32} {netOf_L : (Nat → Int32)} {left_L : (Nat → Int32)} {right_L : (Nat → Int32)} {trackOf_L : (Nat → Int32)} {touched_L : (Nat → Int32)} {below_L : (Nat → Int64)} {byLeft_L : (Nat → Int32)} {size_L : Int32} {tracks_L : Int32} {n8 : Nat} {s9 : Int32} {o8 : (Unit ⊕ Unit)} (h : lp (f_X1_touchesOn_B3 x1 x2 x3 netOf_L trackOf_L touched_L size_L) n8 s9 = some o8) (hk : (Sum.elim (fun r8 => V p l e (rmO 1 23) s m args below meth c 5 D A 0 0 Q 42 [] [] (wL cI cJ aL netOf_L left_L right_L trackOf_L touched_L below_L byLeft_L size_L tracks_L)) (fun r8 => V p l e (rmO 1 23) s m args below meth c 5 D A 0 0 Q 34 [] [] (wL cI cJ aL netOf_L left_L right_L trackOf_L touched_L below_L byLeft_L size_L tracks_L))) o8) : V p l e (rmO 1 23) s m args below meth c 5 D A 0 0 Q 3 [(0, .ref (aL 0)), (1, .int x1), (2, .int x2), (3, .int x3), (4, .int s9)] [] (wL cI cJ aL netOf_L left_L right_L trackOf_L touched_L below_L byLeft_L size_L tracks_L) := lp_ok (Pσ := fun s8 => V p l e (rmO 1 23) s m args below meth c 5 D A 0 0 Q 3 [(0, .ref (aL 0)), (1, .int x1), (2, .int x2), (3, .int x3), (4, .int s8)] [] (wL cI cJ aL netOf_L left_L right_L trackOf_L touched_L below_L byLeft_L size_L tracks_L)) (Pρ := Sum.elim (fun r8 => V p l e (rmO 1 23) s m args below meth c 5 D A 0 0 Q 42 [] [] (wL cI cJ aL netOf_L left_L right_L trackOf_L touched_L below_L byLeft_L size_L tracks_L)) (fun r8 => V p l e (rmO 1 23) s m args below meth c 5 D A 0 0 Q 34 [] [] (wL cI cJ aL netOf_L left_L right_L trackOf_L touched_L below_L byLeft_L size_L tracks_L))) (fun s o h hl hx => t_X1_touchesOn_B3 C s o h hl (fun r e => hx _ e) (fun r e => hx _ e)) n8 s9 o8 h hk
set_option maxHeartbeats 4000000 in
set_option maxRecDepth 100000 in
theorem c_X1_touchesOn (l : Launch) (D : va_G) (cI cJ : ClassId) (aL : Nat → Nat) (netOf_L : (Nat → Int32)) (left_L : (Nat → Int32)) (right_L : (Nat → Int32)) (trackOf_L : (Nat → Int32)) (touched_L : (Nat → Int32)) (below_L : (Nat → Int64)) (byLeft_L : (Nat → Int32)) (size_L : Int32) (tracks_L : Int32) (x1 : Int32) (x2 : Int32) (x3 : Int32) (r : Int32) (h : f_X1_touchesOn netOf_L trackOf_L touched_L size_L x1 x2 x3 = some r) : Cti l D cI cJ yX1_touchesOn cX1_touchesOn 5 (some .boolean) 1 23 [.ref (aL 0), .int x1, .int x2, .int x3] (wL cI cJ aL netOf_L left_L right_L trackOf_L touched_L below_L byLeft_L size_L tracks_L) (wL cI cJ aL netOf_L left_L right_L trackOf_L touched_L below_L byLeft_L size_L tracks_L) r := by
  refine mk_z [(0, .ref (aL 0)), (1, .int x1), (2, .int x2), (3, .int x3)] (by decide) rfl (Nat.le_of_ble_eq_true rfl) rfl (fun p e s m args below meth c A Q C hk => ?_)
  unfold f_X1_touchesOn at h
  refine v_iconst (v := 0) C dX1_touchesOn_0 (by decide) ?_
  refine v_istore C [(4, .int 0), (0, .ref (aL 0)), (1, .int x1), (2, .int x2), (3, .int x3)] dX1_touchesOn_1 (by decide) rfl ?_
  obtain ⟨r, h1, h⟩ := bind_el h
  refine v_perm [1, 2, 3, 4, 0] rfl ?_
  rcases r with _ | _
  · refine t_X1_touchesOn_L3 C (s9 := 0) h1 ?_
    show V p l e (rmO 1 23) s m args below meth c 5 D A 0 0 Q 42 [] [] (wL cI cJ aL netOf_L left_L right_L trackOf_L touched_L below_L byLeft_L size_L tracks_L)
    try dsimp only at h
    refine v_iconst (v := 0) C dX1_touchesOn_42 (by decide) ?_
    cases h
    exact hk _ _ dX1_touchesOn_43 (Or.inl rfl)
  · refine t_X1_touchesOn_L3 C (s9 := 0) h1 ?_
    show V p l e (rmO 1 23) s m args below meth c 5 D A 0 0 Q 34 [] [] (wL cI cJ aL netOf_L left_L right_L trackOf_L touched_L below_L byLeft_L size_L tracks_L)
    try dsimp only at h
    refine v_iconst (v := 1) C dX1_touchesOn_34 (by decide) ?_
    cases h
    exact hk _ _ dX1_touchesOn_35 (Or.inr rfl)
def f_X1_greatestTrack_B5 (x1 : Int32) (x2 : Int32) (netOf_L : (Nat → Int32)) (trackOf_L : (Nat → Int32)) (touched_L : (Nat → Int32)) (size_L : Int32) : (Int32 × Int32) → Option ((Int32 × Int32) ⊕ Int32)
  | (x3, x4) => if size_L ≤ x4 then (some (.inr x3)) else ((f_X1_touches netOf_L touched_L x4 x2 x1).bind (fun r => match r with | r_1 => if r_1 = 0 then (some (.inl (x3, x4 + 1))) else (bnd x4 38 (some (.inl ((if x3 < (trackOf_L x4.toNatClampNeg) then (trackOf_L x4.toNatClampNeg) else x3, x4 + 1)))))))
def f_X1_greatestTrack (netOf_L : (Nat → Int32)) (trackOf_L : (Nat → Int32)) (touched_L : (Nat → Int32)) (size_L : Int32) (x1 : Int32) (x2 : Int32) : Option Int32 := (lp (f_X1_greatestTrack_B5 x1 x2 netOf_L trackOf_L touched_L size_L) 64 (((-1), 0))).bind (fun r => match r with | x3_2 => some x3_2)
theorem cw_X1_greatestTrack : CWv yX1_greatestTrack cX1_greatestTrack 5 (some .int) RX1 2 := ⟨m2_239, ms3_6, m1_4, m3_0, rfl, by decide, by decide, by decide +kernel⟩
set_option maxHeartbeats 4000000 in
set_option maxRecDepth 100000 in
theorem t_X1_greatestTrack_B5 {p : Program} {l : Launch} {e : Env} {s : State} {m : MethodId} {args : Array Value} {below : List Frame} {meth : Method} {c : Code} {D : va_G} {A : Nat → Prop} {cI cJ : ClassId} {Q : State → Prop} (C : Cx p s m args c cX1_greatestTrack 5 RX1 D A cI cJ) {aL : Nat → Nat} {x1 : Int32} {x2 : Int32} {netOf_L : (Nat → Int32)} {left_L : (Nat → Int32)} {right_L : (Nat → Int32)} {trackOf_L : (Nat → Int32)} {touched_L : (Nat → Int32)} {below_L : (Nat → Int64)} {byLeft_L : (Nat → Int32)} {size_L : Int32} {tracks_L : Int32} (s8 : (Int32 × Int32)) (o8 : (Int32 × Int32) ⊕ Int32) (h : f_X1_greatestTrack_B5 x1 x2 netOf_L trackOf_L touched_L size_L s8 = some o8) (hl : ∀ s8, o8 = .inl s8 → V p l e (rmO 1 23) s m args below meth c 5 D A 0 0 Q 5 [(0, .ref (aL 0)), (1, .int x1), (2, .int x2), (3, .int s8.1), (4, .int s8.2)] [] (wL cI cJ aL netOf_L left_L right_L trackOf_L touched_L below_L byLeft_L size_L tracks_L)) (hx : ∀ r8, o8 = .inr r8 → V p l e (rmO 1 23) s m args below meth c 5 D A 0 0 Q 43 [(3, .int r8)] [] (wL cI cJ aL netOf_L left_L right_L trackOf_L touched_L below_L byLeft_L size_L tracks_L)) : V p l e (rmO 1 23) s m args below meth c 5 D A 0 0 Q 5 [(0, .ref (aL 0)), (1, .int x1), (2, .int x2), (3, .int s8.1), (4, .int s8.2)] [] (wL cI cJ aL netOf_L left_L right_L trackOf_L touched_L below_L byLeft_L size_L tracks_L) := by
  obtain ⟨x3, x4⟩ := s8
  unfold f_X1_greatestTrack_B5 at h
  show V p l e (rmO 1 23) s m args below meth c 5 D A 0 0 Q 5 [(0, .ref (aL 0)), (1, .int x1), (2, .int x2), (3, .int x3), (4, .int x4)] [] (wL cI cJ aL netOf_L left_L right_L trackOf_L touched_L below_L byLeft_L size_L tracks_L)
  refine v_iload C 4 dX1_greatestTrack_5 rfl ?_
  refine v_aload_n C 0 dX1_greatestTrack_7 rfl rfl ?_
  refine v_get C 0 7 iuX1 rfl rfl (by decide) m1_80 rfl rfl dX1_greatestTrack_8 ?_
  refine v_icmp_ge (tgt := 43) C dX1_greatestTrack_11 (by decide) h (fun h => ?_) (fun h => ?_)
  · refine v_perm [3] rfl ?_
    cases h
    exact hx _ rfl
  · refine v_aload_n C 0 dX1_greatestTrack_14 rfl rfl ?_
    refine v_iload C 4 dX1_greatestTrack_15 rfl ?_
    refine v_iload_n C 2 dX1_greatestTrack_17 rfl rfl ?_
    refine v_iload_n C 1 dX1_greatestTrack_18 rfl rfl ?_
    obtain ⟨r, h1, h⟩ := bind_el h
    obtain ⟨r_1, rfl⟩ : ∃ z, z = r := ⟨_, rfl⟩
    try dsimp only at h
    refine v_callVi (As := [.int x4, .int x2, .int x1]) (st := []) (wr := []) (w1 := (wL cI cJ aL netOf_L left_L right_L trackOf_L touched_L below_L byLeft_L size_L tracks_L)) (ws' := (wL cI cJ aL netOf_L left_L right_L trackOf_L touched_L below_L byLeft_L size_L tracks_L)) (isC := [0, 1, 2, 3, 4, 5, 6, 7]) (isR := []) (pm := [0, 1, 2, 3, 4, 5, 6, 7]) C (c_X1_touches l D cI cJ aL netOf_L left_L right_L trackOf_L touched_L below_L byLeft_L size_L tracks_L x4 x2 x1 r_1 h1) cw_X1_touches 0 rfl rfl m1_208 dX1_greatestTrack_19 rfl ⟨Nat.le_of_ble_eq_true rfl, Nat.le_of_ble_eq_true rfl⟩ (Nat.le_of_ble_eq_true rfl) ⟨Nat.le_refl 0, Nat.le_refl 0⟩ ⟨rfl, rfl, rfl, rfl, by decide, rfl, rfl⟩ ?_
    refine v_if_eq (tgt := 37) C dX1_greatestTrack_22 (by decide) h (fun h => ?_) (fun h => ?_)
    · refine v_iinc C [(4, .int (x4 + 1)), (0, .ref (aL 0)), (1, .int x1), (2, .int x2), (3, .int x3)] 4 dX1_greatestTrack_37 rfl rfl (by decide) rfl ?_
      refine v_goto (tgt := 5) C dX1_greatestTrack_40 (by decide) ?_
      refine v_perm [1, 2, 3, 4, 0] rfl ?_
      cases h
      exact hl _ rfl
    · refine v_iload_n C 3 dX1_greatestTrack_25 rfl rfl ?_
      refine v_aload_n C 0 dX1_greatestTrack_26 rfl rfl ?_
      refine v_get C 0 3 iuX1 rfl rfl (by decide) m1_74 rfl rfl dX1_greatestTrack_27 ?_
      refine v_iload C 4 dX1_greatestTrack_30 rfl ?_
      refine v_iald C 4 rfl dX1_greatestTrack_32 h (fun h => ?_)
      refine v_mmax C m3_1 dX1_greatestTrack_33 (Nat.le_of_ble_eq_true rfl) (Nat.le_of_ble_eq_true rfl) ⟨Nat.le_refl 0, Nat.le_refl 0⟩ ?_
      refine v_istore_n C [(3, .int (if x3 < (trackOf_L x4.toNatClampNeg) then (trackOf_L x4.toNatClampNeg) else x3)), (0, .ref (aL 0)), (1, .int x1), (2, .int x2), (4, .int x4)] dX1_greatestTrack_36 rfl (by decide) rfl ?_
      refine v_iinc C [(4, .int (x4 + 1)), (3, .int (if x3 < (trackOf_L x4.toNatClampNeg) then (trackOf_L x4.toNatClampNeg) else x3)), (0, .ref (aL 0)), (1, .int x1), (2, .int x2)] 4 dX1_greatestTrack_37 rfl rfl (by decide) rfl ?_
      refine v_goto (tgt := 5) C dX1_greatestTrack_40 (by decide) ?_
      refine v_perm [2, 3, 4, 1, 0] rfl ?_
      cases h
      exact hl _ rfl
set_option maxHeartbeats 4000000 in
set_option maxRecDepth 100000 in
theorem t_X1_greatestTrack_L5 {p : Program} {l : Launch} {e : Env} {s : State} {m : MethodId} {args : Array Value} {below : List Frame} {meth : Method} {c : Code} {D : va_G} {A : Nat → Prop} {cI cJ : ClassId} {Q : State → Prop} (C : Cx p s m args c cX1_greatestTrack 5 RX1 D A cI cJ) {aL : Nat → Nat} {x1 : Int32} {x2 : Int32} {netOf_L : (Nat → Int32)} {left_L : (Nat → Int32)} {right_L : (Nat → Int32)} {trackOf_L : (Nat → Int32)} {touched_L : (Nat → Int32)} {below_L : (Nat → Int64)} {byLeft_L : (Nat → Int32)} {size_L : Int32} {tracks_L : Int32} {n8 : Nat} {s9 : (Int32 × Int32)} {o8 : Int32} (h : lp (f_X1_greatestTrack_B5 x1 x2 netOf_L trackOf_L touched_L size_L) n8 s9 = some o8) (hk : V p l e (rmO 1 23) s m args below meth c 5 D A 0 0 Q 43 [(3, .int o8)] [] (wL cI cJ aL netOf_L left_L right_L trackOf_L touched_L below_L byLeft_L size_L tracks_L)) : V p l e (rmO 1 23) s m args below meth c 5 D A 0 0 Q 5 [(0, .ref (aL 0)), (1, .int x1), (2, .int x2), (3, .int s9.1), (4, .int s9.2)] [] (wL cI cJ aL netOf_L left_L right_L trackOf_L touched_L below_L byLeft_L size_L tracks_L) := lp_ok (Pσ := fun s8 => V p l e (rmO 1 23) s m args below meth c 5 D A 0 0 Q 5 [(0, .ref (aL 0)), (1, .int x1), (2, .int x2), (3, .int s8.1), (4, .int s8.2)] [] (wL cI cJ aL netOf_L left_L right_L trackOf_L touched_L below_L byLeft_L size_L tracks_L)) (Pρ := fun r8 => V p l e (rmO 1 23) s m args below meth c 5 D A 0 0 Q 43 [(3, .int r8)] [] (wL cI cJ aL netOf_L left_L right_L trackOf_L touched_L below_L byLeft_L size_L tracks_L)) (fun s o h hl hx => t_X1_greatestTrack_B5 C s o h hl hx) n8 s9 o8 h hk
set_option maxHeartbeats 4000000 in
set_option maxRecDepth 100000 in
theorem c_X1_greatestTrack (l : Launch) (D : va_G) (cI cJ : ClassId) (aL : Nat → Nat) (netOf_L : (Nat → Int32)) (left_L : (Nat → Int32)) (right_L : (Nat → Int32)) (trackOf_L : (Nat → Int32)) (touched_L : (Nat → Int32)) (below_L : (Nat → Int64)) (byLeft_L : (Nat → Int32)) (size_L : Int32) (tracks_L : Int32) (x1 : Int32) (x2 : Int32) (r : Int32) (h : f_X1_greatestTrack netOf_L trackOf_L touched_L size_L x1 x2 = some r) : Cti l D cI cJ yX1_greatestTrack cX1_greatestTrack 5 (some .int) 1 23 [.ref (aL 0), .int x1, .int x2] (wL cI cJ aL netOf_L left_L right_L trackOf_L touched_L below_L byLeft_L size_L tracks_L) (wL cI cJ aL netOf_L left_L right_L trackOf_L touched_L below_L byLeft_L size_L tracks_L) r := by
  refine mk_i [(0, .ref (aL 0)), (1, .int x1), (2, .int x2)] (by decide) rfl (Nat.le_of_ble_eq_true rfl) rfl (fun p e s m args below meth c A Q C hk => ?_)
  unfold f_X1_greatestTrack at h
  refine v_iconst (v := (-1)) C dX1_greatestTrack_0 (by decide) ?_
  refine v_istore_n C [(3, .int (-1)), (0, .ref (aL 0)), (1, .int x1), (2, .int x2)] dX1_greatestTrack_1 rfl (by decide) rfl ?_
  refine v_iconst (v := 0) C dX1_greatestTrack_2 (by decide) ?_
  refine v_istore C [(4, .int 0), (3, .int (-1)), (0, .ref (aL 0)), (1, .int x1), (2, .int x2)] dX1_greatestTrack_3 (by decide) rfl ?_
  obtain ⟨r, h1, h⟩ := bind_el h
  refine v_perm [2, 3, 4, 1, 0] rfl ?_
  obtain ⟨x3_2, rfl⟩ : ∃ z, z = r := ⟨_, rfl⟩
  refine t_X1_greatestTrack_L5 C (s9 := ((-1), 0)) h1 ?_
  show V p l e (rmO 1 23) s m args below meth c 5 D A 0 0 Q 43 [(3, .int x3_2)] [] (wL cI cJ aL netOf_L left_L right_L trackOf_L touched_L below_L byLeft_L size_L tracks_L)
  try dsimp only at h
  refine v_iload_n C 0 dX1_greatestTrack_43 rfl rfl ?_
  cases h
  exact hk _ _ dX1_greatestTrack_44
def f_X1_leastTrack_B8 (x1 : Int32) (x2 : Int32) (netOf_L : (Nat → Int32)) (trackOf_L : (Nat → Int32)) (touched_L : (Nat → Int32)) (size_L : Int32) : (Int32 × Int32) → Option ((Int32 × Int32) ⊕ Int32)
  | (x3, x4) => if size_L ≤ x4 then (some (.inr x3)) else ((f_X1_touches netOf_L touched_L x4 x2 x1).bind (fun r => match r with | r_1 => if r_1 = 0 then (some (.inl (x3, x4 + 1))) else (bnd x4 38 (some (.inl ((if (trackOf_L x4.toNatClampNeg) < x3 then (trackOf_L x4.toNatClampNeg) else x3, x4 + 1)))))))
def f_X1_leastTrack (netOf_L : (Nat → Int32)) (trackOf_L : (Nat → Int32)) (touched_L : (Nat → Int32)) (size_L : Int32) (tracks_L : Int32) (x1 : Int32) (x2 : Int32) : Option Int32 := (lp (f_X1_leastTrack_B8 x1 x2 netOf_L trackOf_L touched_L size_L) 64 (tracks_L, 0)).bind (fun r => match r with | x3_2 => some x3_2)
theorem cw_X1_leastTrack : CWv yX1_leastTrack cX1_leastTrack 5 (some .int) RX1 2 := ⟨m3_4, ms3_7, m1_4, m3_5, rfl, by decide, by decide, by decide +kernel⟩
set_option maxHeartbeats 4000000 in
set_option maxRecDepth 100000 in
theorem t_X1_leastTrack_B8 {p : Program} {l : Launch} {e : Env} {s : State} {m : MethodId} {args : Array Value} {below : List Frame} {meth : Method} {c : Code} {D : va_G} {A : Nat → Prop} {cI cJ : ClassId} {Q : State → Prop} (C : Cx p s m args c cX1_leastTrack 5 RX1 D A cI cJ) {aL : Nat → Nat} {x1 : Int32} {x2 : Int32} {netOf_L : (Nat → Int32)} {left_L : (Nat → Int32)} {right_L : (Nat → Int32)} {trackOf_L : (Nat → Int32)} {touched_L : (Nat → Int32)} {below_L : (Nat → Int64)} {byLeft_L : (Nat → Int32)} {size_L : Int32} {tracks_L : Int32} (s8 : (Int32 × Int32)) (o8 : (Int32 × Int32) ⊕ Int32) (h : f_X1_leastTrack_B8 x1 x2 netOf_L trackOf_L touched_L size_L s8 = some o8) (hl : ∀ s8, o8 = .inl s8 → V p l e (rmO 1 23) s m args below meth c 5 D A 0 0 Q 8 [(0, .ref (aL 0)), (1, .int x1), (2, .int x2), (3, .int s8.1), (4, .int s8.2)] [] (wL cI cJ aL netOf_L left_L right_L trackOf_L touched_L below_L byLeft_L size_L tracks_L)) (hx : ∀ r8, o8 = .inr r8 → V p l e (rmO 1 23) s m args below meth c 5 D A 0 0 Q 46 [(3, .int r8)] [] (wL cI cJ aL netOf_L left_L right_L trackOf_L touched_L below_L byLeft_L size_L tracks_L)) : V p l e (rmO 1 23) s m args below meth c 5 D A 0 0 Q 8 [(0, .ref (aL 0)), (1, .int x1), (2, .int x2), (3, .int s8.1), (4, .int s8.2)] [] (wL cI cJ aL netOf_L left_L right_L trackOf_L touched_L below_L byLeft_L size_L tracks_L) := by
  obtain ⟨x3, x4⟩ := s8
  unfold f_X1_leastTrack_B8 at h
  show V p l e (rmO 1 23) s m args below meth c 5 D A 0 0 Q 8 [(0, .ref (aL 0)), (1, .int x1), (2, .int x2), (3, .int x3), (4, .int x4)] [] (wL cI cJ aL netOf_L left_L right_L trackOf_L touched_L below_L byLeft_L size_L tracks_L)
  refine v_iload C 4 dX1_leastTrack_8 rfl ?_
  refine v_aload_n C 0 dX1_leastTrack_10 rfl rfl ?_
  refine v_get C 0 7 iuX1 rfl rfl (by decide) m1_80 rfl rfl dX1_leastTrack_11 ?_
  refine v_icmp_ge (tgt := 46) C dX1_leastTrack_14 (by decide) h (fun h => ?_) (fun h => ?_)
  · refine v_perm [3] rfl ?_
    cases h
    exact hx _ rfl
  · refine v_aload_n C 0 dX1_leastTrack_17 rfl rfl ?_
    refine v_iload C 4 dX1_leastTrack_18 rfl ?_
    refine v_iload_n C 2 dX1_leastTrack_20 rfl rfl ?_
    refine v_iload_n C 1 dX1_leastTrack_21 rfl rfl ?_
    obtain ⟨r, h1, h⟩ := bind_el h
    obtain ⟨r_1, rfl⟩ : ∃ z, z = r := ⟨_, rfl⟩
    try dsimp only at h
    refine v_callVi (As := [.int x4, .int x2, .int x1]) (st := []) (wr := []) (w1 := (wL cI cJ aL netOf_L left_L right_L trackOf_L touched_L below_L byLeft_L size_L tracks_L)) (ws' := (wL cI cJ aL netOf_L left_L right_L trackOf_L touched_L below_L byLeft_L size_L tracks_L)) (isC := [0, 1, 2, 3, 4, 5, 6, 7]) (isR := []) (pm := [0, 1, 2, 3, 4, 5, 6, 7]) C (c_X1_touches l D cI cJ aL netOf_L left_L right_L trackOf_L touched_L below_L byLeft_L size_L tracks_L x4 x2 x1 r_1 h1) cw_X1_touches 0 rfl rfl m1_208 dX1_leastTrack_22 rfl ⟨Nat.le_of_ble_eq_true rfl, Nat.le_of_ble_eq_true rfl⟩ (Nat.le_of_ble_eq_true rfl) ⟨Nat.le_refl 0, Nat.le_refl 0⟩ ⟨rfl, rfl, rfl, rfl, by decide, rfl, rfl⟩ ?_
    refine v_if_eq (tgt := 40) C dX1_leastTrack_25 (by decide) h (fun h => ?_) (fun h => ?_)
    · refine v_iinc C [(4, .int (x4 + 1)), (0, .ref (aL 0)), (1, .int x1), (2, .int x2), (3, .int x3)] 4 dX1_leastTrack_40 rfl rfl (by decide) rfl ?_
      refine v_goto (tgt := 8) C dX1_leastTrack_43 (by decide) ?_
      refine v_perm [1, 2, 3, 4, 0] rfl ?_
      cases h
      exact hl _ rfl
    · refine v_iload_n C 3 dX1_leastTrack_28 rfl rfl ?_
      refine v_aload_n C 0 dX1_leastTrack_29 rfl rfl ?_
      refine v_get C 0 3 iuX1 rfl rfl (by decide) m1_74 rfl rfl dX1_leastTrack_30 ?_
      refine v_iload C 4 dX1_leastTrack_33 rfl ?_
      refine v_iald C 4 rfl dX1_leastTrack_35 h (fun h => ?_)
      refine v_mmin C m3_6 dX1_leastTrack_36 (Nat.le_of_ble_eq_true rfl) (Nat.le_of_ble_eq_true rfl) ⟨Nat.le_refl 0, Nat.le_refl 0⟩ ?_
      refine v_istore_n C [(3, .int (if (trackOf_L x4.toNatClampNeg) < x3 then (trackOf_L x4.toNatClampNeg) else x3)), (0, .ref (aL 0)), (1, .int x1), (2, .int x2), (4, .int x4)] dX1_leastTrack_39 rfl (by decide) rfl ?_
      refine v_iinc C [(4, .int (x4 + 1)), (3, .int (if (trackOf_L x4.toNatClampNeg) < x3 then (trackOf_L x4.toNatClampNeg) else x3)), (0, .ref (aL 0)), (1, .int x1), (2, .int x2)] 4 dX1_leastTrack_40 rfl rfl (by decide) rfl ?_
      refine v_goto (tgt := 8) C dX1_leastTrack_43 (by decide) ?_
      refine v_perm [2, 3, 4, 1, 0] rfl ?_
      cases h
      exact hl _ rfl
set_option maxHeartbeats 4000000 in
set_option maxRecDepth 100000 in
theorem t_X1_leastTrack_L8 {p : Program} {l : Launch} {e : Env} {s : State} {m : MethodId} {args : Array Value} {below : List Frame} {meth : Method} {c : Code} {D : va_G} {A : Nat → Prop} {cI cJ : ClassId} {Q : State → Prop} (C : Cx p s m args c cX1_leastTrack 5 RX1 D A cI cJ) {aL : Nat → Nat} {x1 : Int32} {x2 : Int32} {netOf_L : (Nat → Int32)} {left_L : (Nat → Int32)} {right_L : (Nat → Int32)} {trackOf_L : (Nat → Int32)} {touched_L : (Nat → Int32)} {below_L : (Nat → Int64)} {byLeft_L : (Nat → Int32)} {size_L : Int32} {tracks_L : Int32} {n8 : Nat} {s9 : (Int32 × Int32)} {o8 : Int32} (h : lp (f_X1_leastTrack_B8 x1 x2 netOf_L trackOf_L touched_L size_L) n8 s9 = some o8) (hk : V p l e (rmO 1 23) s m args below meth c 5 D A 0 0 Q 46 [(3, .int o8)] [] (wL cI cJ aL netOf_L left_L right_L trackOf_L touched_L below_L byLeft_L size_L tracks_L)) : V p l e (rmO 1 23) s m args below meth c 5 D A 0 0 Q 8 [(0, .ref (aL 0)), (1, .int x1), (2, .int x2), (3, .int s9.1), (4, .int s9.2)] [] (wL cI cJ aL netOf_L left_L right_L trackOf_L touched_L below_L byLeft_L size_L tracks_L) := lp_ok (Pσ := fun s8 => V p l e (rmO 1 23) s m args below meth c 5 D A 0 0 Q 8 [(0, .ref (aL 0)), (1, .int x1), (2, .int x2), (3, .int s8.1), (4, .int s8.2)] [] (wL cI cJ aL netOf_L left_L right_L trackOf_L touched_L below_L byLeft_L size_L tracks_L)) (Pρ := fun r8 => V p l e (rmO 1 23) s m args below meth c 5 D A 0 0 Q 46 [(3, .int r8)] [] (wL cI cJ aL netOf_L left_L right_L trackOf_L touched_L below_L byLeft_L size_L tracks_L)) (fun s o h hl hx => t_X1_leastTrack_B8 C s o h hl hx) n8 s9 o8 h hk
set_option maxHeartbeats 4000000 in
set_option maxRecDepth 100000 in
theorem c_X1_leastTrack (l : Launch) (D : va_G) (cI cJ : ClassId) (aL : Nat → Nat) (netOf_L : (Nat → Int32)) (left_L : (Nat → Int32)) (right_L : (Nat → Int32)) (trackOf_L : (Nat → Int32)) (touched_L : (Nat → Int32)) (below_L : (Nat → Int64)) (byLeft_L : (Nat → Int32)) (size_L : Int32) (tracks_L : Int32) (x1 : Int32) (x2 : Int32) (r : Int32) (h : f_X1_leastTrack netOf_L trackOf_L touched_L size_L tracks_L x1 x2 = some r) : Cti l D cI cJ yX1_leastTrack cX1_leastTrack 5 (some .int) 1 23 [.ref (aL 0), .int x1, .int x2] (wL cI cJ aL netOf_L left_L right_L trackOf_L touched_L below_L byLeft_L size_L tracks_L) (wL cI cJ aL netOf_L left_L right_L trackOf_L touched_L below_L byLeft_L size_L tracks_L) r := by
  refine mk_i [(0, .ref (aL 0)), (1, .int x1), (2, .int x2)] (by decide) rfl (Nat.le_of_ble_eq_true rfl) rfl (fun p e s m args below meth c A Q C hk => ?_)
  unfold f_X1_leastTrack at h
  refine v_aload_n C 0 dX1_leastTrack_0 rfl rfl ?_
  refine v_get C 0 8 iuX1 rfl rfl (by decide) m1_83 rfl rfl dX1_leastTrack_1 ?_
  refine v_istore_n C [(3, .int tracks_L), (0, .ref (aL 0)), (1, .int x1), (2, .int x2)] dX1_leastTrack_4 rfl (by decide) rfl ?_
  refine v_iconst (v := 0) C dX1_leastTrack_5 (by decide) ?_
  refine v_istore C [(4, .int 0), (3, .int tracks_L), (0, .ref (aL 0)), (1, .int x1), (2, .int x2)] dX1_leastTrack_6 (by decide) rfl ?_
  obtain ⟨r, h1, h⟩ := bind_el h
  refine v_perm [2, 3, 4, 1, 0] rfl ?_
  obtain ⟨x3_2, rfl⟩ : ∃ z, z = r := ⟨_, rfl⟩
  refine t_X1_leastTrack_L8 C (s9 := (tracks_L, 0)) h1 ?_
  show V p l e (rmO 1 23) s m args below meth c 5 D A 0 0 Q 46 [(3, .int x3_2)] [] (wL cI cJ aL netOf_L left_L right_L trackOf_L touched_L below_L byLeft_L size_L tracks_L)
  try dsimp only at h
  refine v_iload_n C 0 dX1_leastTrack_46 rfl rfl ?_
  cases h
  exact hk _ _ dX1_leastTrack_47
def f_X1_countPoints_B14 (x2 : Int32) (netOf_L : (Nat → Int32)) (left_L : (Nat → Int32)) (right_L : (Nat → Int32)) (trackOf_L : (Nat → Int32)) (size_L : Int32) : (Int32 × Int32) → Option ((Int32 × Int32) ⊕ Int32)
  | (x1, x3) => if 20 ≤ x3 then (some (.inr x1)) else ((f_X1_netOn netOf_L left_L right_L trackOf_L size_L x2 x3).bind (fun r => match r with | r_1 => if r_1 = 0 then (some (.inl (x1, x3 + 1))) else (some (.inl (x1 + 1, x3 + 1)))))
def f_X1_countPoints_B4 (netOf_L : (Nat → Int32)) (left_L : (Nat → Int32)) (right_L : (Nat → Int32)) (trackOf_L : (Nat → Int32)) (size_L : Int32) (tracks_L : Int32) : (Int32 × Int32) → Option ((Int32 × Int32) ⊕ Int32)
  | (x1, x2) => if tracks_L ≤ x2 then (some (.inr x1)) else ((lp (f_X1_countPoints_B14 x2 netOf_L left_L right_L trackOf_L size_L) 64 (x1, 0)).bind (fun r => match r with | x1_2 => some (.inl (x1_2, x2 + 1))))
def f_X1_countPoints (netOf_L : (Nat → Int32)) (left_L : (Nat → Int32)) (right_L : (Nat → Int32)) (trackOf_L : (Nat → Int32)) (size_L : Int32) (tracks_L : Int32) : Option Int32 := (lp (f_X1_countPoints_B4 netOf_L left_L right_L trackOf_L size_L tracks_L) 64 (0, 0)).bind (fun r => match r with | x1_3 => some x1_3)
theorem cw_X1_countPoints : CWv yX1_countPoints cX1_countPoints 4 (some .int) RX1 0 := ⟨m1_235, ms2_2, m1_4, m1_236, rfl, by decide, by decide, by decide +kernel⟩
set_option maxHeartbeats 4000000 in
set_option maxRecDepth 100000 in
theorem t_X1_countPoints_B14 {p : Program} {l : Launch} {e : Env} {s : State} {m : MethodId} {args : Array Value} {below : List Frame} {meth : Method} {c : Code} {D : va_G} {A : Nat → Prop} {cI cJ : ClassId} {Q : State → Prop} (C : Cx p s m args c cX1_countPoints 4 RX1 D A cI cJ) {aL : Nat → Nat} {x2 : Int32} {netOf_L : (Nat → Int32)} {left_L : (Nat → Int32)} {right_L : (Nat → Int32)} {trackOf_L : (Nat → Int32)} {touched_L : (Nat → Int32)} {below_L : (Nat → Int64)} {byLeft_L : (Nat → Int32)} {size_L : Int32} {tracks_L : Int32} (s8 : (Int32 × Int32)) (o8 : (Int32 × Int32) ⊕ Int32) (h : f_X1_countPoints_B14 x2 netOf_L left_L right_L trackOf_L size_L s8 = some o8) (hl : ∀ s8, o8 = .inl s8 → V p l e (rmO 1 23) s m args below meth c 4 D A 0 0 Q 14 [(0, .ref (aL 0)), (1, .int s8.1), (2, .int x2), (3, .int s8.2)] [] (wL cI cJ aL netOf_L left_L right_L trackOf_L touched_L below_L byLeft_L size_L tracks_L)) (hx : ∀ r8, o8 = .inr r8 → V p l e (rmO 1 23) s m args below meth c 4 D A 0 0 Q 38 [(0, .ref (aL 0)), (1, .int r8), (2, .int x2)] [] (wL cI cJ aL netOf_L left_L right_L trackOf_L touched_L below_L byLeft_L size_L tracks_L)) : V p l e (rmO 1 23) s m args below meth c 4 D A 0 0 Q 14 [(0, .ref (aL 0)), (1, .int s8.1), (2, .int x2), (3, .int s8.2)] [] (wL cI cJ aL netOf_L left_L right_L trackOf_L touched_L below_L byLeft_L size_L tracks_L) := by
  obtain ⟨x1, x3⟩ := s8
  unfold f_X1_countPoints_B14 at h
  show V p l e (rmO 1 23) s m args below meth c 4 D A 0 0 Q 14 [(0, .ref (aL 0)), (1, .int x1), (2, .int x2), (3, .int x3)] [] (wL cI cJ aL netOf_L left_L right_L trackOf_L touched_L below_L byLeft_L size_L tracks_L)
  refine v_iload_n C 3 dX1_countPoints_14 rfl rfl ?_
  refine v_bipush (v := 20) C dX1_countPoints_15 (by decide) ?_
  refine v_icmp_ge (tgt := 38) C dX1_countPoints_17 (by decide) h (fun h => ?_) (fun h => ?_)
  · refine v_perm [0, 1, 2] rfl ?_
    cases h
    exact hx _ rfl
  · refine v_aload_n C 0 dX1_countPoints_20 rfl rfl ?_
    refine v_iload_n C 2 dX1_countPoints_21 rfl rfl ?_
    refine v_iload_n C 3 dX1_countPoints_22 rfl rfl ?_
    obtain ⟨r, h1, h⟩ := bind_el h
    obtain ⟨r_1, rfl⟩ : ∃ z, z = r := ⟨_, rfl⟩
    try dsimp only at h
    refine v_callVi (As := [.int x2, .int x3]) (st := []) (wr := []) (w1 := (wL cI cJ aL netOf_L left_L right_L trackOf_L touched_L below_L byLeft_L size_L tracks_L)) (ws' := (wL cI cJ aL netOf_L left_L right_L trackOf_L touched_L below_L byLeft_L size_L tracks_L)) (isC := [0, 1, 2, 3, 4, 5, 6, 7]) (isR := []) (pm := [0, 1, 2, 3, 4, 5, 6, 7]) C (c_X1_netOn l D cI cJ aL netOf_L left_L right_L trackOf_L touched_L below_L byLeft_L size_L tracks_L x2 x3 r_1 h1) cw_X1_netOn 0 rfl rfl m1_237 dX1_countPoints_23 rfl ⟨Nat.le_of_ble_eq_true rfl, Nat.le_of_ble_eq_true rfl⟩ (Nat.le_of_ble_eq_true rfl) ⟨Nat.le_refl 0, Nat.le_refl 0⟩ ⟨rfl, rfl, rfl, rfl, by decide, rfl, rfl⟩ ?_
    refine v_if_eq (tgt := 32) C dX1_countPoints_26 (by decide) h (fun h => ?_) (fun h => ?_)
    · refine v_iinc C [(3, .int (x3 + 1)), (0, .ref (aL 0)), (1, .int x1), (2, .int x2)] 3 dX1_countPoints_32 rfl rfl (by decide) rfl ?_
      refine v_goto (tgt := 14) C dX1_countPoints_35 (by decide) ?_
      refine v_perm [1, 2, 3, 0] rfl ?_
      cases h
      exact hl _ rfl
    · refine v_iinc C [(1, .int (x1 + 1)), (0, .ref (aL 0)), (2, .int x2), (3, .int x3)] 1 dX1_countPoints_29 rfl rfl (by decide) rfl ?_
      refine v_iinc C [(3, .int (x3 + 1)), (1, .int (x1 + 1)), (0, .ref (aL 0)), (2, .int x2)] 3 dX1_countPoints_32 rfl rfl (by decide) rfl ?_
      refine v_goto (tgt := 14) C dX1_countPoints_35 (by decide) ?_
      refine v_perm [2, 1, 3, 0] rfl ?_
      cases h
      exact hl _ rfl
set_option maxHeartbeats 4000000 in
set_option maxRecDepth 100000 in
theorem t_X1_countPoints_L14 {p : Program} {l : Launch} {e : Env} {s : State} {m : MethodId} {args : Array Value} {below : List Frame} {meth : Method} {c : Code} {D : va_G} {A : Nat → Prop} {cI cJ : ClassId} {Q : State → Prop} (C : Cx p s m args c cX1_countPoints 4 RX1 D A cI cJ) {aL : Nat → Nat} {x2 : Int32} {netOf_L : (Nat → Int32)} {left_L : (Nat → Int32)} {right_L : (Nat → Int32)} {trackOf_L : (Nat → Int32)} {touched_L : (Nat → Int32)} {below_L : (Nat → Int64)} {byLeft_L : (Nat → Int32)} {size_L : Int32} {tracks_L : Int32} {n8 : Nat} {s9 : (Int32 × Int32)} {o8 : Int32} (h : lp (f_X1_countPoints_B14 x2 netOf_L left_L right_L trackOf_L size_L) n8 s9 = some o8) (hk : V p l e (rmO 1 23) s m args below meth c 4 D A 0 0 Q 38 [(0, .ref (aL 0)), (1, .int o8), (2, .int x2)] [] (wL cI cJ aL netOf_L left_L right_L trackOf_L touched_L below_L byLeft_L size_L tracks_L)) : V p l e (rmO 1 23) s m args below meth c 4 D A 0 0 Q 14 [(0, .ref (aL 0)), (1, .int s9.1), (2, .int x2), (3, .int s9.2)] [] (wL cI cJ aL netOf_L left_L right_L trackOf_L touched_L below_L byLeft_L size_L tracks_L) := lp_ok (Pσ := fun s8 => V p l e (rmO 1 23) s m args below meth c 4 D A 0 0 Q 14 [(0, .ref (aL 0)), (1, .int s8.1), (2, .int x2), (3, .int s8.2)] [] (wL cI cJ aL netOf_L left_L right_L trackOf_L touched_L below_L byLeft_L size_L tracks_L)) (Pρ := fun r8 => V p l e (rmO 1 23) s m args below meth c 4 D A 0 0 Q 38 [(0, .ref (aL 0)), (1, .int r8), (2, .int x2)] [] (wL cI cJ aL netOf_L left_L right_L trackOf_L touched_L below_L byLeft_L size_L tracks_L)) (fun s o h hl hx => t_X1_countPoints_B14 C s o h hl hx) n8 s9 o8 h hk
set_option maxHeartbeats 4000000 in
set_option maxRecDepth 100000 in
theorem t_X1_countPoints_B4 {p : Program} {l : Launch} {e : Env} {s : State} {m : MethodId} {args : Array Value} {below : List Frame} {meth : Method} {c : Code} {D : va_G} {A : Nat → Prop} {cI cJ : ClassId} {Q : State → Prop} (C : Cx p s m args c cX1_countPoints 4 RX1 D A cI cJ) {aL : Nat → Nat} {netOf_L : (Nat → Int32)} {left_L : (Nat → Int32)} {right_L : (Nat → Int32)} {trackOf_L : (Nat → Int32)} {touched_L : (Nat → Int32)} {below_L : (Nat → Int64)} {byLeft_L : (Nat → Int32)} {size_L : Int32} {tracks_L : Int32} (s8 : (Int32 × Int32)) (o8 : (Int32 × Int32) ⊕ Int32) (h : f_X1_countPoints_B4 netOf_L left_L right_L trackOf_L size_L tracks_L s8 = some o8) (hl : ∀ s8, o8 = .inl s8 → V p l e (rmO 1 23) s m args below meth c 4 D A 0 0 Q 4 [(0, .ref (aL 0)), (1, .int s8.1), (2, .int s8.2)] [] (wL cI cJ aL netOf_L left_L right_L trackOf_L touched_L below_L byLeft_L size_L tracks_L)) (hx : ∀ r8, o8 = .inr r8 → V p l e (rmO 1 23) s m args below meth c 4 D A 0 0 Q 44 [(1, .int r8)] [] (wL cI cJ aL netOf_L left_L right_L trackOf_L touched_L below_L byLeft_L size_L tracks_L)) : V p l e (rmO 1 23) s m args below meth c 4 D A 0 0 Q 4 [(0, .ref (aL 0)), (1, .int s8.1), (2, .int s8.2)] [] (wL cI cJ aL netOf_L left_L right_L trackOf_L touched_L below_L byLeft_L size_L tracks_L) := by
  obtain ⟨x1, x2⟩ := s8
  unfold f_X1_countPoints_B4 at h
  show V p l e (rmO 1 23) s m args below meth c 4 D A 0 0 Q 4 [(0, .ref (aL 0)), (1, .int x1), (2, .int x2)] [] (wL cI cJ aL netOf_L left_L right_L trackOf_L touched_L below_L byLeft_L size_L tracks_L)
  refine v_iload_n C 2 dX1_countPoints_4 rfl rfl ?_
  refine v_aload_n C 0 dX1_countPoints_5 rfl rfl ?_
  refine v_get C 0 8 iuX1 rfl rfl (by decide) m1_83 rfl rfl dX1_countPoints_6 ?_
  refine v_icmp_ge (tgt := 44) C dX1_countPoints_9 (by decide) h (fun h => ?_) (fun h => ?_)
  · refine v_perm [1] rfl ?_
    cases h
    exact hx _ rfl
  · refine v_iconst (v := 0) C dX1_countPoints_12 (by decide) ?_
    refine v_istore_n C [(3, .int 0), (0, .ref (aL 0)), (1, .int x1), (2, .int x2)] dX1_countPoints_13 rfl (by decide) rfl ?_
    obtain ⟨r, h1, h⟩ := bind_el h
    refine v_perm [1, 2, 3, 0] rfl ?_
    obtain ⟨x1_2, rfl⟩ : ∃ z, z = r := ⟨_, rfl⟩
    refine t_X1_countPoints_L14 C (s9 := (x1, 0)) h1 ?_
    show V p l e (rmO 1 23) s m args below meth c 4 D A 0 0 Q 38 [(0, .ref (aL 0)), (1, .int x1_2), (2, .int x2)] [] (wL cI cJ aL netOf_L left_L right_L trackOf_L touched_L below_L byLeft_L size_L tracks_L)
    try dsimp only at h
    refine v_iinc C [(2, .int (x2 + 1)), (0, .ref (aL 0)), (1, .int x1_2)] 2 dX1_countPoints_38 rfl rfl (by decide) rfl ?_
    refine v_goto (tgt := 4) C dX1_countPoints_41 (by decide) ?_
    refine v_perm [1, 2, 0] rfl ?_
    cases h
    exact hl _ rfl
set_option maxHeartbeats 4000000 in
set_option maxRecDepth 100000 in
theorem t_X1_countPoints_L4 {p : Program} {l : Launch} {e : Env} {s : State} {m : MethodId} {args : Array Value} {below : List Frame} {meth : Method} {c : Code} {D : va_G} {A : Nat → Prop} {cI cJ : ClassId} {Q : State → Prop} (C : Cx p s m args c cX1_countPoints 4 RX1 D A cI cJ) {aL : Nat → Nat} {netOf_L : (Nat → Int32)} {left_L : (Nat → Int32)} {right_L : (Nat → Int32)} {trackOf_L : (Nat → Int32)} {touched_L : (Nat → Int32)} {below_L : (Nat → Int64)} {byLeft_L : (Nat → Int32)} {size_L : Int32} {tracks_L : Int32} {n8 : Nat} {s9 : (Int32 × Int32)} {o8 : Int32} (h : lp (f_X1_countPoints_B4 netOf_L left_L right_L trackOf_L size_L tracks_L) n8 s9 = some o8) (hk : V p l e (rmO 1 23) s m args below meth c 4 D A 0 0 Q 44 [(1, .int o8)] [] (wL cI cJ aL netOf_L left_L right_L trackOf_L touched_L below_L byLeft_L size_L tracks_L)) : V p l e (rmO 1 23) s m args below meth c 4 D A 0 0 Q 4 [(0, .ref (aL 0)), (1, .int s9.1), (2, .int s9.2)] [] (wL cI cJ aL netOf_L left_L right_L trackOf_L touched_L below_L byLeft_L size_L tracks_L) := lp_ok (Pσ := fun s8 => V p l e (rmO 1 23) s m args below meth c 4 D A 0 0 Q 4 [(0, .ref (aL 0)), (1, .int s8.1), (2, .int s8.2)] [] (wL cI cJ aL netOf_L left_L right_L trackOf_L touched_L below_L byLeft_L size_L tracks_L)) (Pρ := fun r8 => V p l e (rmO 1 23) s m args below meth c 4 D A 0 0 Q 44 [(1, .int r8)] [] (wL cI cJ aL netOf_L left_L right_L trackOf_L touched_L below_L byLeft_L size_L tracks_L)) (fun s o h hl hx => t_X1_countPoints_B4 C s o h hl hx) n8 s9 o8 h hk
set_option maxHeartbeats 4000000 in
set_option maxRecDepth 100000 in
theorem c_X1_countPoints (l : Launch) (D : va_G) (cI cJ : ClassId) (aL : Nat → Nat) (netOf_L : (Nat → Int32)) (left_L : (Nat → Int32)) (right_L : (Nat → Int32)) (trackOf_L : (Nat → Int32)) (touched_L : (Nat → Int32)) (below_L : (Nat → Int64)) (byLeft_L : (Nat → Int32)) (size_L : Int32) (tracks_L : Int32) (r : Int32) (h : f_X1_countPoints netOf_L left_L right_L trackOf_L size_L tracks_L = some r) : Cti l D cI cJ yX1_countPoints cX1_countPoints 4 (some .int) 1 23 [.ref (aL 0)] (wL cI cJ aL netOf_L left_L right_L trackOf_L touched_L below_L byLeft_L size_L tracks_L) (wL cI cJ aL netOf_L left_L right_L trackOf_L touched_L below_L byLeft_L size_L tracks_L) r := by
  refine mk_i [(0, .ref (aL 0))] (by decide) rfl (Nat.le_of_ble_eq_true rfl) rfl (fun p e s m args below meth c A Q C hk => ?_)
  unfold f_X1_countPoints at h
  refine v_iconst (v := 0) C dX1_countPoints_0 (by decide) ?_
  refine v_istore_n C [(1, .int 0), (0, .ref (aL 0))] dX1_countPoints_1 rfl (by decide) rfl ?_
  refine v_iconst (v := 0) C dX1_countPoints_2 (by decide) ?_
  refine v_istore_n C [(2, .int 0), (1, .int 0), (0, .ref (aL 0))] dX1_countPoints_3 rfl (by decide) rfl ?_
  obtain ⟨r, h1, h⟩ := bind_el h
  refine v_perm [2, 1, 0] rfl ?_
  obtain ⟨x1_3, rfl⟩ : ∃ z, z = r := ⟨_, rfl⟩
  refine t_X1_countPoints_L4 C (s9 := (0, 0)) h1 ?_
  show V p l e (rmO 1 23) s m args below meth c 4 D A 0 0 Q 44 [(1, .int x1_3)] [] (wL cI cJ aL netOf_L left_L right_L trackOf_L touched_L below_L byLeft_L size_L tracks_L)
  try dsimp only at h
  refine v_iload_n C 0 dX1_countPoints_44 rfl rfl ?_
  cases h
  exact hk _ _ dX1_countPoints_45
