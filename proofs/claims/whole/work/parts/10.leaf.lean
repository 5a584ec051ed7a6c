/-! ===== the bytecode of these methods, walked (by program): J6_bitCount_0f7a4 J13_bitCount_95d88 J7_fill_53178 J7_fill_d0a16 X12_isIn X12_most X12_has X12_bits X12_copies X11_isPlace X11_isShelf X11_isEither X11_isSomeStones X11_digitsBehind X11_powerOf X11_commonDivisor X12_gcd X4_has X8_clear X8_holdKind X8_isEmpty X8_isRow X8_hasPlace X8_hasSpan X8_write X3_drawn X3_placeOf X12_drawn X12_costBy X12_thrown X12_kind X12_figure X4_noteAt X10_weight X10_bears X10_price X10_manner X7_weight X7_bears X7_manner X6_weight X6_bears X0_manner X1_manner ===== -/
theorem kJ6_bitCount_0f7a4_0 : zD cJ6_bitCount_0f7a4 0 1 (.iload_n 0) 1 := by decide +kernel
theorem kJ6_bitCount_0f7a4_1 : zD cJ6_bitCount_0f7a4 1 2 (.iload_n 0) 1 := by decide +kernel
theorem kJ6_bitCount_0f7a4_2 : zD cJ6_bitCount_0f7a4 2 3 (.iconst 1) 1 := by decide +kernel
theorem kJ6_bitCount_0f7a4_3 : zD cJ6_bitCount_0f7a4 3 4 (.iushr) 1 := by decide +kernel
theorem kJ6_bitCount_0f7a4_4 : zD cJ6_bitCount_0f7a4 4 7 (.ldc_w 265) 3 := by decide +kernel
theorem kJ6_bitCount_0f7a4_7 : zD cJ6_bitCount_0f7a4 7 8 (.iand) 1 := by decide +kernel
theorem kJ6_bitCount_0f7a4_8 : zD cJ6_bitCount_0f7a4 8 9 (.isub) 1 := by decide +kernel
theorem kJ6_bitCount_0f7a4_9 : zD cJ6_bitCount_0f7a4 9 10 (.istore_n 0) 1 := by decide +kernel
theorem kJ6_bitCount_0f7a4_10 : zD cJ6_bitCount_0f7a4 10 11 (.iload_n 0) 1 := by decide +kernel
theorem kJ6_bitCount_0f7a4_11 : zD cJ6_bitCount_0f7a4 11 14 (.ldc_w 266) 3 := by decide +kernel
theorem kJ6_bitCount_0f7a4_14 : zD cJ6_bitCount_0f7a4 14 15 (.iand) 1 := by decide +kernel
theorem kJ6_bitCount_0f7a4_15 : zD cJ6_bitCount_0f7a4 15 16 (.iload_n 0) 1 := by decide +kernel
theorem kJ6_bitCount_0f7a4_16 : zD cJ6_bitCount_0f7a4 16 17 (.iconst 2) 1 := by decide +kernel
theorem kJ6_bitCount_0f7a4_17 : zD cJ6_bitCount_0f7a4 17 18 (.iushr) 1 := by decide +kernel
theorem kJ6_bitCount_0f7a4_18 : zD cJ6_bitCount_0f7a4 18 21 (.ldc_w 266) 3 := by decide +kernel
theorem kJ6_bitCount_0f7a4_21 : zD cJ6_bitCount_0f7a4 21 22 (.iand) 1 := by decide +kernel
theorem kJ6_bitCount_0f7a4_22 : zD cJ6_bitCount_0f7a4 22 23 (.iadd) 1 := by decide +kernel
theorem kJ6_bitCount_0f7a4_23 : zD cJ6_bitCount_0f7a4 23 24 (.istore_n 0) 1 := by decide +kernel
theorem kJ6_bitCount_0f7a4_24 : zD cJ6_bitCount_0f7a4 24 25 (.iload_n 0) 1 := by decide +kernel
theorem kJ6_bitCount_0f7a4_25 : zD cJ6_bitCount_0f7a4 25 26 (.iload_n 0) 1 := by decide +kernel
theorem kJ6_bitCount_0f7a4_26 : zD cJ6_bitCount_0f7a4 26 27 (.iconst 4) 1 := by decide +kernel
theorem kJ6_bitCount_0f7a4_27 : zD cJ6_bitCount_0f7a4 27 28 (.iushr) 1 := by decide +kernel
theorem kJ6_bitCount_0f7a4_28 : zD cJ6_bitCount_0f7a4 28 29 (.iadd) 1 := by decide +kernel
theorem kJ6_bitCount_0f7a4_29 : zD cJ6_bitCount_0f7a4 29 32 (.ldc_w 267) 3 := by decide +kernel
theorem kJ6_bitCount_0f7a4_32 : zD cJ6_bitCount_0f7a4 32 33 (.iand) 1 := by decide +kernel
theorem kJ6_bitCount_0f7a4_33 : zD cJ6_bitCount_0f7a4 33 34 (.istore_n 0) 1 := by decide +kernel
theorem kJ6_bitCount_0f7a4_34 : zD cJ6_bitCount_0f7a4 34 35 (.iload_n 0) 1 := by decide +kernel
theorem kJ6_bitCount_0f7a4_35 : zD cJ6_bitCount_0f7a4 35 36 (.iload_n 0) 1 := by decide +kernel
theorem kJ6_bitCount_0f7a4_36 : zD cJ6_bitCount_0f7a4 36 38 (.bipush 8) 2 := by decide +kernel
theorem kJ6_bitCount_0f7a4_38 : zD cJ6_bitCount_0f7a4 38 39 (.iushr) 1 := by decide +kernel
theorem kJ6_bitCount_0f7a4_39 : zD cJ6_bitCount_0f7a4 39 40 (.iadd) 1 := by decide +kernel
theorem kJ6_bitCount_0f7a4_40 : zD cJ6_bitCount_0f7a4 40 41 (.istore_n 0) 1 := by decide +kernel
theorem kJ6_bitCount_0f7a4_41 : zD cJ6_bitCount_0f7a4 41 42 (.iload_n 0) 1 := by decide +kernel
theorem kJ6_bitCount_0f7a4_42 : zD cJ6_bitCount_0f7a4 42 43 (.iload_n 0) 1 := by decide +kernel
theorem kJ6_bitCount_0f7a4_43 : zD cJ6_bitCount_0f7a4 43 45 (.bipush 16) 2 := by decide +kernel
theorem kJ6_bitCount_0f7a4_45 : zD cJ6_bitCount_0f7a4 45 46 (.iushr) 1 := by decide +kernel
theorem kJ6_bitCount_0f7a4_46 : zD cJ6_bitCount_0f7a4 46 47 (.iadd) 1 := by decide +kernel
theorem kJ6_bitCount_0f7a4_47 : zD cJ6_bitCount_0f7a4 47 48 (.istore_n 0) 1 := by decide +kernel
theorem kJ6_bitCount_0f7a4_48 : zD cJ6_bitCount_0f7a4 48 49 (.iload_n 0) 1 := by decide +kernel
theorem kJ6_bitCount_0f7a4_49 : zD cJ6_bitCount_0f7a4 49 51 (.bipush 63) 2 := by decide +kernel
theorem kJ6_bitCount_0f7a4_51 : zD cJ6_bitCount_0f7a4 51 52 (.iand) 1 := by decide +kernel
theorem kJ6_bitCount_0f7a4_52 : zD cJ6_bitCount_0f7a4 52 53 (.ireturn) 1 := by decide +kernel
set_option maxRecDepth 10000 in
theorem wJ6_bitCount_0f7a4_0 {G : ZG} {d : Nat} {h : ZH} {Q : Option ZV → ZH → Prop} {x0 : Int32} 
  (H : ∀ y1 : Int32, y1 = (x0 - ((((x0).toUInt32 >>> ((1 : Int32).toUInt32 &&& Int32.toUInt32 31)).toInt32) &&& 1431655765)) → ∀ y2 : Int32, y2 = ((y1 &&& 858993459) + ((((y1).toUInt32 >>> ((2 : Int32).toUInt32 &&& Int32.toUInt32 31)).toInt32) &&& 858993459)) → ∀ y3 : Int32, y3 = ((y2 + (((y2).toUInt32 >>> ((4 : Int32).toUInt32 &&& Int32.toUInt32 31)).toInt32)) &&& 252645135) → ∀ y4 : Int32, y4 = (y3 + (((y3).toUInt32 >>> ((8 : Int32).toUInt32 &&& Int32.toUInt32 31)).toInt32)) → ∀ y5 : Int32, y5 = (y4 + (((y4).toUInt32 >>> ((16 : Int32).toUInt32 &&& Int32.toUInt32 31)).toInt32)) → Q (some (zi (y5 &&& 63))) h) :
  zT G (d + 1) mJ6_bitCount_0f7a4 0 [zi x0] [] h Q := by
  refine zt_iload_n kJ6_bitCount_0f7a4_0 rfl ?_
  refine zt_iload_n kJ6_bitCount_0f7a4_1 rfl ?_
  refine zt_iconst (v := 1) kJ6_bitCount_0f7a4_2 rfl ?_
  refine zt_iushr kJ6_bitCount_0f7a4_3 ?_
  refine zt_ldcw (v := 1431655765) kJ6_bitCount_0f7a4_4 wm_303 ?_
  refine zt_iand kJ6_bitCount_0f7a4_7 ?_
  refine zt_isub kJ6_bitCount_0f7a4_8 ?_
  refine zt_topi (fun y1 ey1 => ?_)
  replace H := H y1 ey1
  refine zt_istore_n (L' := [zi y1]) kJ6_bitCount_0f7a4_9 (by decide) rfl ?_
  refine zt_iload_n kJ6_bitCount_0f7a4_10 rfl ?_
  refine zt_ldcw (v := 858993459) kJ6_bitCount_0f7a4_11 wm_304 ?_
  refine zt_iand kJ6_bitCount_0f7a4_14 ?_
  refine zt_iload_n kJ6_bitCount_0f7a4_15 rfl ?_
  refine zt_iconst (v := 2) kJ6_bitCount_0f7a4_16 rfl ?_
  refine zt_iushr kJ6_bitCount_0f7a4_17 ?_
  refine zt_ldcw (v := 858993459) kJ6_bitCount_0f7a4_18 wm_304 ?_
  refine zt_iand kJ6_bitCount_0f7a4_21 ?_
  refine zt_iadd kJ6_bitCount_0f7a4_22 ?_
  refine zt_topi (fun y2 ey2 => ?_)
  replace H := H y2 ey2
  refine zt_istore_n (L' := [zi y2]) kJ6_bitCount_0f7a4_23 (by decide) rfl ?_
  refine zt_iload_n kJ6_bitCount_0f7a4_24 rfl ?_
  refine zt_iload_n kJ6_bitCount_0f7a4_25 rfl ?_
  refine zt_iconst (v := 4) kJ6_bitCount_0f7a4_26 rfl ?_
  refine zt_iushr kJ6_bitCount_0f7a4_27 ?_
  refine zt_iadd kJ6_bitCount_0f7a4_28 ?_
  refine zt_ldcw (v := 252645135) kJ6_bitCount_0f7a4_29 wm_305 ?_
  refine zt_iand kJ6_bitCount_0f7a4_32 ?_
  refine zt_topi (fun y3 ey3 => ?_)
  replace H := H y3 ey3
  refine zt_istore_n (L' := [zi y3]) kJ6_bitCount_0f7a4_33 (by decide) rfl ?_
  refine zt_iload_n kJ6_bitCount_0f7a4_34 rfl ?_
  refine zt_iload_n kJ6_bitCount_0f7a4_35 rfl ?_
  refine zt_bipush (v := 8) kJ6_bitCount_0f7a4_36 rfl ?_
  refine zt_iushr kJ6_bitCount_0f7a4_38 ?_
  refine zt_iadd kJ6_bitCount_0f7a4_39 ?_
  refine zt_topi (fun y4 ey4 => ?_)
  replace H := H y4 ey4
  refine zt_istore_n (L' := [zi y4]) kJ6_bitCount_0f7a4_40 (by decide) rfl ?_
  refine zt_iload_n kJ6_bitCount_0f7a4_41 rfl ?_
  refine zt_iload_n kJ6_bitCount_0f7a4_42 rfl ?_
  refine zt_bipush (v := 16) kJ6_bitCount_0f7a4_43 rfl ?_
  refine zt_iushr kJ6_bitCount_0f7a4_45 ?_
  refine zt_iadd kJ6_bitCount_0f7a4_46 ?_
  refine zt_topi (fun y5 ey5 => ?_)
  replace H := H y5 ey5
  refine zt_istore_n (L' := [zi y5]) kJ6_bitCount_0f7a4_47 (by decide) rfl ?_
  refine zt_iload_n kJ6_bitCount_0f7a4_48 rfl ?_
  refine zt_bipush (v := 63) kJ6_bitCount_0f7a4_49 rfl ?_
  refine zt_iand kJ6_bitCount_0f7a4_51 ?_
  exact zt_iret kJ6_bitCount_0f7a4_52 rfl H

theorem kJ13_bitCount_95d88_0 : zD cJ13_bitCount_95d88 0 1 (.lload_n 0) 1 := by decide +kernel
theorem kJ13_bitCount_95d88_1 : zD cJ13_bitCount_95d88 1 2 (.lload_n 0) 1 := by decide +kernel
theorem kJ13_bitCount_95d88_2 : zD cJ13_bitCount_95d88 2 3 (.iconst 1) 1 := by decide +kernel
theorem kJ13_bitCount_95d88_3 : zD cJ13_bitCount_95d88 3 4 (.lushr) 1 := by decide +kernel
theorem kJ13_bitCount_95d88_4 : zD cJ13_bitCount_95d88 4 7 (.ldc2_w 314) 3 := by decide +kernel
theorem kJ13_bitCount_95d88_7 : zD cJ13_bitCount_95d88 7 8 (.land) 1 := by decide +kernel
theorem kJ13_bitCount_95d88_8 : zD cJ13_bitCount_95d88 8 9 (.lsub) 1 := by decide +kernel
theorem kJ13_bitCount_95d88_9 : zD cJ13_bitCount_95d88 9 10 (.lstore_n 0) 1 := by decide +kernel
theorem kJ13_bitCount_95d88_10 : zD cJ13_bitCount_95d88 10 11 (.lload_n 0) 1 := by decide +kernel
theorem kJ13_bitCount_95d88_11 : zD cJ13_bitCount_95d88 11 14 (.ldc2_w 316) 3 := by decide +kernel
theorem kJ13_bitCount_95d88_14 : zD cJ13_bitCount_95d88 14 15 (.land) 1 := by decide +kernel
theorem kJ13_bitCount_95d88_15 : zD cJ13_bitCount_95d88 15 16 (.lload_n 0) 1 := by decide +kernel
theorem kJ13_bitCount_95d88_16 : zD cJ13_bitCount_95d88 16 17 (.iconst 2) 1 := by decide +kernel
theorem kJ13_bitCount_95d88_17 : zD cJ13_bitCount_95d88 17 18 (.lushr) 1 := by decide +kernel
theorem kJ13_bitCount_95d88_18 : zD cJ13_bitCount_95d88 18 21 (.ldc2_w 316) 3 := by decide +kernel
theorem kJ13_bitCount_95d88_21 : zD cJ13_bitCount_95d88 21 22 (.land) 1 := by decide +kernel
theorem kJ13_bitCount_95d88_22 : zD cJ13_bitCount_95d88 22 23 (.ladd) 1 := by decide +kernel
theorem kJ13_bitCount_95d88_23 : zD cJ13_bitCount_95d88 23 24 (.lstore_n 0) 1 := by decide +kernel
theorem kJ13_bitCount_95d88_24 : zD cJ13_bitCount_95d88 24 25 (.lload_n 0) 1 := by decide +kernel
theorem kJ13_bitCount_95d88_25 : zD cJ13_bitCount_95d88 25 26 (.lload_n 0) 1 := by decide +kernel
theorem kJ13_bitCount_95d88_26 : zD cJ13_bitCount_95d88 26 27 (.iconst 4) 1 := by decide +kernel
theorem kJ13_bitCount_95d88_27 : zD cJ13_bitCount_95d88 27 28 (.lushr) 1 := by decide +kernel
theorem kJ13_bitCount_95d88_28 : zD cJ13_bitCount_95d88 28 29 (.ladd) 1 := by decide +kernel
theorem kJ13_bitCount_95d88_29 : zD cJ13_bitCount_95d88 29 32 (.ldc2_w 318) 3 := by decide +kernel
theorem kJ13_bitCount_95d88_32 : zD cJ13_bitCount_95d88 32 33 (.land) 1 := by decide +kernel
theorem kJ13_bitCount_95d88_33 : zD cJ13_bitCount_95d88 33 34 (.lstore_n 0) 1 := by decide +kernel
theorem kJ13_bitCount_95d88_34 : zD cJ13_bitCount_95d88 34 35 (.lload_n 0) 1 := by decide +kernel
theorem kJ13_bitCount_95d88_35 : zD cJ13_bitCount_95d88 35 36 (.lload_n 0) 1 := by decide +kernel
theorem kJ13_bitCount_95d88_36 : zD cJ13_bitCount_95d88 36 38 (.bipush 8) 2 := by decide +kernel
theorem kJ13_bitCount_95d88_38 : zD cJ13_bitCount_95d88 38 39 (.lushr) 1 := by decide +kernel
theorem kJ13_bitCount_95d88_39 : zD cJ13_bitCount_95d88 39 40 (.ladd) 1 := by decide +kernel
theorem kJ13_bitCount_95d88_40 : zD cJ13_bitCount_95d88 40 41 (.lstore_n 0) 1 := by decide +kernel
theorem kJ13_bitCount_95d88_41 : zD cJ13_bitCount_95d88 41 42 (.lload_n 0) 1 := by decide +kernel
theorem kJ13_bitCount_95d88_42 : zD cJ13_bitCount_95d88 42 43 (.lload_n 0) 1 := by decide +kernel
theorem kJ13_bitCount_95d88_43 : zD cJ13_bitCount_95d88 43 45 (.bipush 16) 2 := by decide +kernel
theorem kJ13_bitCount_95d88_45 : zD cJ13_bitCount_95d88 45 46 (.lushr) 1 := by decide +kernel
theorem kJ13_bitCount_95d88_46 : zD cJ13_bitCount_95d88 46 47 (.ladd) 1 := by decide +kernel
theorem kJ13_bitCount_95d88_47 : zD cJ13_bitCount_95d88 47 48 (.lstore_n 0) 1 := by decide +kernel
theorem kJ13_bitCount_95d88_48 : zD cJ13_bitCount_95d88 48 49 (.lload_n 0) 1 := by decide +kernel
theorem kJ13_bitCount_95d88_49 : zD cJ13_bitCount_95d88 49 50 (.lload_n 0) 1 := by decide +kernel
theorem kJ13_bitCount_95d88_50 : zD cJ13_bitCount_95d88 50 52 (.bipush 32) 2 := by decide +kernel
theorem kJ13_bitCount_95d88_52 : zD cJ13_bitCount_95d88 52 53 (.lushr) 1 := by decide +kernel
theorem kJ13_bitCount_95d88_53 : zD cJ13_bitCount_95d88 53 54 (.ladd) 1 := by decide +kernel
theorem kJ13_bitCount_95d88_54 : zD cJ13_bitCount_95d88 54 55 (.lstore_n 0) 1 := by decide +kernel
theorem kJ13_bitCount_95d88_55 : zD cJ13_bitCount_95d88 55 56 (.lload_n 0) 1 := by decide +kernel
theorem kJ13_bitCount_95d88_56 : zD cJ13_bitCount_95d88 56 57 (.l2i) 1 := by decide +kernel
theorem kJ13_bitCount_95d88_57 : zD cJ13_bitCount_95d88 57 59 (.bipush 127) 2 := by decide +kernel
theorem kJ13_bitCount_95d88_59 : zD cJ13_bitCount_95d88 59 60 (.iand) 1 := by decide +kernel
theorem kJ13_bitCount_95d88_60 : zD cJ13_bitCount_95d88 60 61 (.ireturn) 1 := by decide +kernel
set_option maxRecDepth 10000 in
theorem wJ13_bitCount_95d88_0 {G : ZG} {d : Nat} {h : ZH} {Q : Option ZV → ZH → Prop} {x0 : Int64} 
  (H : ∀ y1 : Int64, y1 = (x0 - ((((x0).toUInt64 >>> (((1 : Int32)).toInt64.toUInt64 &&& Int64.toUInt64 63)).toInt64) &&& 6148914691236517205)) → ∀ y2 : Int64, y2 = ((y1 &&& 3689348814741910323) + ((((y1).toUInt64 >>> (((2 : Int32)).toInt64.toUInt64 &&& Int64.toUInt64 63)).toInt64) &&& 3689348814741910323)) → ∀ y3 : Int64, y3 = ((y2 + (((y2).toUInt64 >>> (((4 : Int32)).toInt64.toUInt64 &&& Int64.toUInt64 63)).toInt64)) &&& 1085102592571150095) → ∀ y4 : Int64, y4 = (y3 + (((y3).toUInt64 >>> (((8 : Int32)).toInt64.toUInt64 &&& Int64.toUInt64 63)).toInt64)) → ∀ y5 : Int64, y5 = (y4 + (((y4).toUInt64 >>> (((16 : Int32)).toInt64.toUInt64 &&& Int64.toUInt64 63)).toInt64)) → ∀ y6 : Int64, y6 = (y5 + (((y5).toUInt64 >>> (((32 : Int32)).toInt64.toUInt64 &&& Int64.toUInt64 63)).toInt64)) → Q (some (zi ((y6).toInt32 &&& 127))) h) :
  zT G (d + 1) mJ13_bitCount_95d88 0 [zl x0, zu] [] h Q := by
  refine zt_lload_n kJ13_bitCount_95d88_0 rfl ?_
  refine zt_lload_n kJ13_bitCount_95d88_1 rfl ?_
  refine zt_iconst (v := 1) kJ13_bitCount_95d88_2 rfl ?_
  refine zt_lushr kJ13_bitCount_95d88_3 ?_
  refine zt_ldc2 (v := 6148914691236517205) kJ13_bitCount_95d88_4 wm_616 ?_
  refine zt_land kJ13_bitCount_95d88_7 ?_
  refine zt_lsub kJ13_bitCount_95d88_8 ?_
  refine zt_topl (fun y1 ey1 => ?_)
  replace H := H y1 ey1
  refine zt_lstore_n (L' := [zl y1, zu]) kJ13_bitCount_95d88_9 (by decide) rfl ?_
  refine zt_lload_n kJ13_bitCount_95d88_10 rfl ?_
  refine zt_ldc2 (v := 3689348814741910323) kJ13_bitCount_95d88_11 wm_617 ?_
  refine zt_land kJ13_bitCount_95d88_14 ?_
  refine zt_lload_n kJ13_bitCount_95d88_15 rfl ?_
  refine zt_iconst (v := 2) kJ13_bitCount_95d88_16 rfl ?_
  refine zt_lushr kJ13_bitCount_95d88_17 ?_
  refine zt_ldc2 (v := 3689348814741910323) kJ13_bitCount_95d88_18 wm_617 ?_
  refine zt_land kJ13_bitCount_95d88_21 ?_
  refine zt_ladd kJ13_bitCount_95d88_22 ?_
  refine zt_topl (fun y2 ey2 => ?_)
  replace H := H y2 ey2
  refine zt_lstore_n (L' := [zl y2, zu]) kJ13_bitCount_95d88_23 (by decide) rfl ?_
  refine zt_lload_n kJ13_bitCount_95d88_24 rfl ?_
  refine zt_lload_n kJ13_bitCount_95d88_25 rfl ?_
  refine zt_iconst (v := 4) kJ13_bitCount_95d88_26 rfl ?_
  refine zt_lushr kJ13_bitCount_95d88_27 ?_
  refine zt_ladd kJ13_bitCount_95d88_28 ?_
  refine zt_ldc2 (v := 1085102592571150095) kJ13_bitCount_95d88_29 wm_618 ?_
  refine zt_land kJ13_bitCount_95d88_32 ?_
  refine zt_topl (fun y3 ey3 => ?_)
  replace H := H y3 ey3
  refine zt_lstore_n (L' := [zl y3, zu]) kJ13_bitCount_95d88_33 (by decide) rfl ?_
  refine zt_lload_n kJ13_bitCount_95d88_34 rfl ?_
  refine zt_lload_n kJ13_bitCount_95d88_35 rfl ?_
  refine zt_bipush (v := 8) kJ13_bitCount_95d88_36 rfl ?_
  refine zt_lushr kJ13_bitCount_95d88_38 ?_
  refine zt_ladd kJ13_bitCount_95d88_39 ?_
  refine zt_topl (fun y4 ey4 => ?_)
  replace H := H y4 ey4
  refine zt_lstore_n (L' := [zl y4, zu]) kJ13_bitCount_95d88_40 (by decide) rfl ?_
  refine zt_lload_n kJ13_bitCount_95d88_41 rfl ?_
  refine zt_lload_n kJ13_bitCount_95d88_42 rfl ?_
  refine zt_bipush (v := 16) kJ13_bitCount_95d88_43 rfl ?_
  refine zt_lushr kJ13_bitCount_95d88_45 ?_
  refine zt_ladd kJ13_bitCount_95d88_46 ?_
  refine zt_topl (fun y5 ey5 => ?_)
  replace H := H y5 ey5
  refine zt_lstore_n (L' := [zl y5, zu]) kJ13_bitCount_95d88_47 (by decide) rfl ?_
  refine zt_lload_n kJ13_bitCount_95d88_48 rfl ?_
  refine zt_lload_n kJ13_bitCount_95d88_49 rfl ?_
  refine zt_bipush (v := 32) kJ13_bitCount_95d88_50 rfl ?_
  refine zt_lushr kJ13_bitCount_95d88_52 ?_
  refine zt_ladd kJ13_bitCount_95d88_53 ?_
  refine zt_topl (fun y6 ey6 => ?_)
  replace H := H y6 ey6
  refine zt_lstore_n (L' := [zl y6, zu]) kJ13_bitCount_95d88_54 (by decide) rfl ?_
  refine zt_lload_n kJ13_bitCount_95d88_55 rfl ?_
  refine zt_l2i kJ13_bitCount_95d88_56 ?_
  refine zt_bipush (v := 127) kJ13_bitCount_95d88_57 rfl ?_
  refine zt_iand kJ13_bitCount_95d88_59 ?_
  exact zt_iret kJ13_bitCount_95d88_60 rfl H

theorem kJ7_fill_53178_0 : zD cJ7_fill_53178 0 1 (.iconst 0) 1 := by decide +kernel
theorem kJ7_fill_53178_1 : zD cJ7_fill_53178 1 2 (.istore_n 2) 1 := by decide +kernel
theorem kJ7_fill_53178_2 : zD cJ7_fill_53178 2 3 (.aload_n 0) 1 := by decide +kernel
theorem kJ7_fill_53178_3 : zD cJ7_fill_53178 3 4 (.arraylength) 1 := by decide +kernel
theorem kJ7_fill_53178_4 : zD cJ7_fill_53178 4 5 (.istore_n 3) 1 := by decide +kernel
theorem kJ7_fill_53178_5 : zD cJ7_fill_53178 5 6 (.iload_n 2) 1 := by decide +kernel
theorem kJ7_fill_53178_6 : zD cJ7_fill_53178 6 7 (.iload_n 3) 1 := by decide +kernel
theorem kJ7_fill_53178_7 : zB cJ7_fill_53178 7 10 20 (.if_icmp .ge 13) 13 := by decide +kernel
theorem kJ7_fill_53178_10 : zD cJ7_fill_53178 10 11 (.aload_n 0) 1 := by decide +kernel
theorem kJ7_fill_53178_11 : zD cJ7_fill_53178 11 12 (.iload_n 2) 1 := by decide +kernel
theorem kJ7_fill_53178_12 : zD cJ7_fill_53178 12 13 (.iload_n 1) 1 := by decide +kernel
theorem kJ7_fill_53178_13 : zD cJ7_fill_53178 13 14 (.iastore) 1 := by decide +kernel
theorem kJ7_fill_53178_14 : zD cJ7_fill_53178 14 17 (.iinc 2 1) 3 := by decide +kernel
theorem kJ7_fill_53178_17 : zB cJ7_fill_53178 17 20 5 (.goto (-12)) (-12) := by decide +kernel
theorem kJ7_fill_53178_20 : zD cJ7_fill_53178 20 21 (.return_) 1 := by decide +kernel
set_option maxRecDepth 10000 in
theorem wJ7_fill_53178_0 {G : ZG} {d : Nat} {h : ZH} {Q : Option ZV → ZH → Prop} {a0 i0 n0 : Nat} {x1 : Int32} (hk0 : zkd a0 i0 = .inr (0, n0)) (hi0 : i0 < zcnt a0)
  (H : zT G (d + 1) mJ7_fill_53178 5 [zr a0 i0, zi x1, zi 0, zi (Int32.ofNat n0)] [] h Q) :
  zT G (d + 1) mJ7_fill_53178 0 [zr a0 i0, zi x1, zu, zu] [] h Q := by
  refine zt_iconst (v := 0) kJ7_fill_53178_0 rfl ?_
  refine zt_istore_n (L' := [zr a0 i0, zi x1, zi 0, zu]) kJ7_fill_53178_1 (by decide) rfl ?_
  refine zt_aload_n kJ7_fill_53178_2 rfl ?_
  refine zt_alen kJ7_fill_53178_3 hk0 (by decide) hi0 rfl ?_
  refine zt_istore_n (L' := [zr a0 i0, zi x1, zi 0, zi (Int32.ofNat n0)]) kJ7_fill_53178_4 (by decide) rfl ?_
  exact H

set_option maxRecDepth 10000 in
theorem wJ7_fill_53178_5 {G : ZG} {d : Nat} {h : ZH} {Q : Option ZV → ZH → Prop} {a0 i0 n0 : Nat} {x1 : Int32} {x2 : Int32} {x3 : Int32} (hk0 : zkd a0 i0 = .inr (0, n0)) (hi0 : i0 < zcnt a0)
  (H : (x3 ≤ x2 → Q none h) ∧ (¬ x3 ≤ x2 → vp_in x2 n0 ∧ (∀ h1 : ZH, h1 = zs1 h a0 i0 x2.toNatClampNeg x1 → zT G (d + 1) mJ7_fill_53178 5 [zr a0 i0, zi x1, zi (x2 + 1), zi x3] [] h1 Q))) :
  zT G (d + 1) mJ7_fill_53178 5 [zr a0 i0, zi x1, zi x2, zi x3] [] h Q := by
  refine zt_iload_n kJ7_fill_53178_5 rfl ?_
  refine zt_iload_n kJ7_fill_53178_6 rfl ?_
  refine zt_icmp_ge kJ7_fill_53178_7 (fun c => ?_) (fun c => ?_)
  · replace H := H.1 c
    exact zt_vret kJ7_fill_53178_20 rfl H
  · replace H := H.2 c
    refine zt_aload_n kJ7_fill_53178_10 rfl ?_
    refine zt_iload_n kJ7_fill_53178_11 rfl ?_
    refine zt_iload_n kJ7_fill_53178_12 rfl ?_
    obtain ⟨hv, H⟩ := H
    refine zt_iast kJ7_fill_53178_13 hk0 hi0 hv ?_
    refine zt_heap (fun h1 eh1 => ?_)
    replace H := H h1 eh1
    refine zt_iinc (v := (x2 + 1)) (L' := [zr a0 i0, zi x1, zi (x2 + 1), zi x3]) kJ7_fill_53178_14 rfl rfl (by decide) rfl ?_
    refine zt_goto kJ7_fill_53178_17 ?_
    exact H

theorem kJ7_fill_d0a16_0 : zD cJ7_fill_d0a16 0 1 (.iconst 0) 1 := by decide +kernel
theorem kJ7_fill_d0a16_1 : zD cJ7_fill_d0a16 1 2 (.istore_n 3) 1 := by decide +kernel
theorem kJ7_fill_d0a16_2 : zD cJ7_fill_d0a16 2 3 (.aload_n 0) 1 := by decide +kernel
theorem kJ7_fill_d0a16_3 : zD cJ7_fill_d0a16 3 4 (.arraylength) 1 := by decide +kernel
theorem kJ7_fill_d0a16_4 : zD cJ7_fill_d0a16 4 6 (.istore 4) 2 := by decide +kernel
theorem kJ7_fill_d0a16_6 : zD cJ7_fill_d0a16 6 7 (.iload_n 3) 1 := by decide +kernel
theorem kJ7_fill_d0a16_7 : zD cJ7_fill_d0a16 7 9 (.iload 4) 2 := by decide +kernel
theorem kJ7_fill_d0a16_9 : zB cJ7_fill_d0a16 9 12 22 (.if_icmp .ge 13) 13 := by decide +kernel
theorem kJ7_fill_d0a16_12 : zD cJ7_fill_d0a16 12 13 (.aload_n 0) 1 := by decide +kernel
theorem kJ7_fill_d0a16_13 : zD cJ7_fill_d0a16 13 14 (.iload_n 3) 1 := by decide +kernel
theorem kJ7_fill_d0a16_14 : zD cJ7_fill_d0a16 14 15 (.lload_n 1) 1 := by decide +kernel
theorem kJ7_fill_d0a16_15 : zD cJ7_fill_d0a16 15 16 (.lastore) 1 := by decide +kernel
theorem kJ7_fill_d0a16_16 : zD cJ7_fill_d0a16 16 19 (.iinc 3 1) 3 := by decide +kernel
theorem kJ7_fill_d0a16_19 : zB cJ7_fill_d0a16 19 22 6 (.goto (-13)) (-13) := by decide +kernel
theorem kJ7_fill_d0a16_22 : zD cJ7_fill_d0a16 22 23 (.return_) 1 := by decide +kernel
set_option maxRecDepth 10000 in
theorem wJ7_fill_d0a16_0 {G : ZG} {d : Nat} {h : ZH} {Q : Option ZV → ZH → Prop} {a0 i0 n0 : Nat} {x1 : Int64} (hk0 : zkd a0 i0 = .inr (1, n0)) (hi0 : i0 < zcnt a0)
  (H : zT G (d + 1) mJ7_fill_d0a16 6 [zr a0 i0, zl x1, zu, zi 0, zi (Int32.ofNat n0)] [] h Q) :
  zT G (d + 1) mJ7_fill_d0a16 0 [zr a0 i0, zl x1, zu, zu, zu] [] h Q := by
  refine zt_iconst (v := 0) kJ7_fill_d0a16_0 rfl ?_
  refine zt_istore_n (L' := [zr a0 i0, zl x1, zu, zi 0, zu]) kJ7_fill_d0a16_1 (by decide) rfl ?_
  refine zt_aload_n kJ7_fill_d0a16_2 rfl ?_
  refine zt_alen kJ7_fill_d0a16_3 hk0 (by decide) hi0 rfl ?_
  refine zt_istore (L' := [zr a0 i0, zl x1, zu, zi 0, zi (Int32.ofNat n0)]) kJ7_fill_d0a16_4 (by decide) rfl ?_
  exact H

set_option maxRecDepth 10000 in
theorem wJ7_fill_d0a16_6 {G : ZG} {d : Nat} {h : ZH} {Q : Option ZV → ZH → Prop} {a0 i0 n0 : Nat} {x1 : Int64} {x3 : Int32} {x4 : Int32} (hk0 : zkd a0 i0 = .inr (1, n0)) (hi0 : i0 < zcnt a0)
  (H : (x4 ≤ x3 → Q none h) ∧ (¬ x4 ≤ x3 → vp_in x3 n0 ∧ (∀ h1 : ZH, h1 = zs2 h a0 i0 x3.toNatClampNeg x1 → zT G (d + 1) mJ7_fill_d0a16 6 [zr a0 i0, zl x1, zu, zi (x3 + 1), zi x4] [] h1 Q))) :
  zT G (d + 1) mJ7_fill_d0a16 6 [zr a0 i0, zl x1, zu, zi x3, zi x4] [] h Q := by
  refine zt_iload_n kJ7_fill_d0a16_6 rfl ?_
  refine zt_iload kJ7_fill_d0a16_7 rfl ?_
  refine zt_icmp_ge kJ7_fill_d0a16_9 (fun c => ?_) (fun c => ?_)
  · replace H := H.1 c
    exact zt_vret kJ7_fill_d0a16_22 rfl H
  · replace H := H.2 c
    refine zt_aload_n kJ7_fill_d0a16_12 rfl ?_
    refine zt_iload_n kJ7_fill_d0a16_13 rfl ?_
    refine zt_lload_n kJ7_fill_d0a16_14 rfl ?_
    obtain ⟨hv, H⟩ := H
    refine zt_last kJ7_fill_d0a16_15 hk0 hi0 hv ?_
    refine zt_heap (fun h1 eh1 => ?_)
    replace H := H h1 eh1
    refine zt_iinc (v := (x3 + 1)) (L' := [zr a0 i0, zl x1, zu, zi (x3 + 1), zi x4]) kJ7_fill_d0a16_16 rfl rfl (by decide) rfl ?_
    refine zt_goto kJ7_fill_d0a16_19 ?_
    exact H

theorem kX12_isIn_0 : zD cX12_isIn 0 1 (.iload_n 0) 1 := by decide +kernel
theorem kX12_isIn_1 : zD cX12_isIn 1 2 (.iload_n 1) 1 := by decide +kernel
theorem kX12_isIn_2 : zB cX12_isIn 2 5 14 (.if_icmp .lt 12) 12 := by decide +kernel
theorem kX12_isIn_5 : zD cX12_isIn 5 6 (.iload_n 0) 1 := by decide +kernel
theorem kX12_isIn_6 : zD cX12_isIn 6 7 (.iload_n 2) 1 := by decide +kernel
theorem kX12_isIn_7 : zB cX12_isIn 7 10 14 (.if_icmp .gt 7) 7 := by decide +kernel
theorem kX12_isIn_10 : zD cX12_isIn 10 11 (.iconst 1) 1 := by decide +kernel
theorem kX12_isIn_11 : zB cX12_isIn 11 14 15 (.goto 4) 4 := by decide +kernel
theorem kX12_isIn_14 : zD cX12_isIn 14 15 (.iconst 0) 1 := by decide +kernel
theorem kX12_isIn_15 : zD cX12_isIn 15 16 (.ireturn) 1 := by decide +kernel
set_option maxRecDepth 10000 in
theorem wX12_isIn_0 {G : ZG} {d : Nat} {h : ZH} {Q : Option ZV → ZH → Prop} {x0 : Int32} {x1 : Int32} {x2 : Int32} 
  (H : (x0 < x1 → Q (some (zi 0)) h) ∧ (¬ x0 < x1 → (x2 < x0 → Q (some (zi 0)) h) ∧ (¬ x2 < x0 → Q (some (zi 1)) h))) :
  zT G (d + 1) mX12_isIn 0 [zi x0, zi x1, zi x2] [] h Q := by
  refine zt_iload_n kX12_isIn_0 rfl ?_
  refine zt_iload_n kX12_isIn_1 rfl ?_
  refine zt_icmp_lt kX12_isIn_2 (fun c => ?_) (fun c => ?_)
  · replace H := H.1 c
    refine zt_iconst (v := 0) kX12_isIn_14 rfl ?_
    exact zt_zret kX12_isIn_15 rfl (by decide) H
  · replace H := H.2 c
    refine zt_iload_n kX12_isIn_5 rfl ?_
    refine zt_iload_n kX12_isIn_6 rfl ?_
    refine zt_icmp_gt kX12_isIn_7 (fun c => ?_) (fun c => ?_)
    · replace H := H.1 c
      refine zt_iconst (v := 0) kX12_isIn_14 rfl ?_
      exact zt_zret kX12_isIn_15 rfl (by decide) H
    · replace H := H.2 c
      refine zt_iconst (v := 1) kX12_isIn_10 rfl ?_
      refine zt_goto kX12_isIn_11 ?_
      exact zt_zret kX12_isIn_15 rfl (by decide) H

theorem kX12_most_0 : zD cX12_most 0 1 (.iload_n 0) 1 := by decide +kernel
theorem kX12_most_1 : zD cX12_most 1 2 (.iload_n 1) 1 := by decide +kernel
theorem kX12_most_2 : zB cX12_most 2 5 9 (.if_icmp .le 7) 7 := by decide +kernel
theorem kX12_most_5 : zD cX12_most 5 6 (.iload_n 0) 1 := by decide +kernel
theorem kX12_most_6 : zB cX12_most 6 9 10 (.goto 4) 4 := by decide +kernel
theorem kX12_most_9 : zD cX12_most 9 10 (.iload_n 1) 1 := by decide +kernel
theorem kX12_most_10 : zD cX12_most 10 11 (.ireturn) 1 := by decide +kernel
set_option maxRecDepth 10000 in
theorem wX12_most_0 {G : ZG} {d : Nat} {h : ZH} {Q : Option ZV → ZH → Prop} {x0 : Int32} {x1 : Int32} 
  (H : (x0 ≤ x1 → Q (some (zi x1)) h) ∧ (¬ x0 ≤ x1 → Q (some (zi x0)) h)) :
  zT G (d + 1) mX12_most 0 [zi x0, zi x1] [] h Q := by
  refine zt_iload_n kX12_most_0 rfl ?_
  refine zt_iload_n kX12_most_1 rfl ?_
  refine zt_icmp_le kX12_most_2 (fun c => ?_) (fun c => ?_)
  · replace H := H.1 c
    refine zt_iload_n kX12_most_9 rfl ?_
    exact zt_iret kX12_most_10 rfl H
  · replace H := H.2 c
    refine zt_iload_n kX12_most_5 rfl ?_
    refine zt_goto kX12_most_6 ?_
    exact zt_iret kX12_most_10 rfl H

theorem kX12_has_0 : zD cX12_has 0 1 (.iload_n 0) 1 := by decide +kernel
theorem kX12_has_1 : zD cX12_has 1 2 (.iload_n 1) 1 := by decide +kernel
theorem kX12_has_2 : zD cX12_has 2 3 (.ishr) 1 := by decide +kernel
theorem kX12_has_3 : zD cX12_has 3 4 (.iconst 1) 1 := by decide +kernel
theorem kX12_has_4 : zD cX12_has 4 5 (.iand) 1 := by decide +kernel
theorem kX12_has_5 : zD cX12_has 5 6 (.iconst 1) 1 := by decide +kernel
theorem kX12_has_6 : zB cX12_has 6 9 13 (.if_icmp .ne 7) 7 := by decide +kernel
theorem kX12_has_9 : zD cX12_has 9 10 (.iconst 1) 1 := by decide +kernel
theorem kX12_has_10 : zB cX12_has 10 13 14 (.goto 4) 4 := by decide +kernel
theorem kX12_has_13 : zD cX12_has 13 14 (.iconst 0) 1 := by decide +kernel
theorem kX12_has_14 : zD cX12_has 14 15 (.ireturn) 1 := by decide +kernel
set_option maxRecDepth 10000 in
theorem wX12_has_0 {G : ZG} {d : Nat} {h : ZH} {Q : Option ZV → ZH → Prop} {x0 : Int32} {x1 : Int32} 
  (H : (¬ ((x0 >>> (x1 &&& 31)) &&& 1) = 1 → Q (some (zi 0)) h) ∧ (((x0 >>> (x1 &&& 31)) &&& 1) = 1 → Q (some (zi 1)) h)) :
  zT G (d + 1) mX12_has 0 [zi x0, zi x1] [] h Q := by
  refine zt_iload_n kX12_has_0 rfl ?_
  refine zt_iload_n kX12_has_1 rfl ?_
  refine zt_ishr kX12_has_2 ?_
  refine zt_iconst (v := 1) kX12_has_3 rfl ?_
  refine zt_iand kX12_has_4 ?_
  refine zt_iconst (v := 1) kX12_has_5 rfl ?_
  refine zt_icmp_ne kX12_has_6 (fun c => ?_) (fun c => ?_)
  · replace H := H.1 c
    refine zt_iconst (v := 0) kX12_has_13 rfl ?_
    exact zt_zret kX12_has_14 rfl (by decide) H
  · replace H := H.2 c
    refine zt_iconst (v := 1) kX12_has_9 rfl ?_
    refine zt_goto kX12_has_10 ?_
    exact zt_zret kX12_has_14 rfl (by decide) H

theorem kX12_bits_0 : zD cX12_bits 0 1 (.iconst 0) 1 := by decide +kernel
theorem kX12_bits_1 : zD cX12_bits 1 2 (.istore_n 1) 1 := by decide +kernel
theorem kX12_bits_2 : zD cX12_bits 2 3 (.iconst 0) 1 := by decide +kernel
theorem kX12_bits_3 : zD cX12_bits 3 4 (.istore_n 2) 1 := by decide +kernel
theorem kX12_bits_4 : zD cX12_bits 4 5 (.iload_n 2) 1 := by decide +kernel
theorem kX12_bits_5 : zD cX12_bits 5 7 (.bipush 12) 2 := by decide +kernel
theorem kX12_bits_7 : zB cX12_bits 7 10 24 (.if_icmp .ge 17) 17 := by decide +kernel
theorem kX12_bits_10 : zD cX12_bits 10 11 (.iload_n 1) 1 := by decide +kernel
theorem kX12_bits_11 : zD cX12_bits 11 12 (.iload_n 0) 1 := by decide +kernel
theorem kX12_bits_12 : zD cX12_bits 12 13 (.iload_n 2) 1 := by decide +kernel
theorem kX12_bits_13 : zD cX12_bits 13 14 (.ishr) 1 := by decide +kernel
theorem kX12_bits_14 : zD cX12_bits 14 15 (.iconst 1) 1 := by decide +kernel
theorem kX12_bits_15 : zD cX12_bits 15 16 (.iand) 1 := by decide +kernel
theorem kX12_bits_16 : zD cX12_bits 16 17 (.iadd) 1 := by decide +kernel
theorem kX12_bits_17 : zD cX12_bits 17 18 (.istore_n 1) 1 := by decide +kernel
theorem kX12_bits_18 : zD cX12_bits 18 21 (.iinc 2 1) 3 := by decide +kernel
theorem kX12_bits_21 : zB cX12_bits 21 24 4 (.goto (-17)) (-17) := by decide +kernel
theorem kX12_bits_24 : zD cX12_bits 24 25 (.iload_n 1) 1 := by decide +kernel
theorem kX12_bits_25 : zD cX12_bits 25 26 (.ireturn) 1 := by decide +kernel
set_option maxRecDepth 10000 in
theorem wX12_bits_0 {G : ZG} {d : Nat} {h : ZH} {Q : Option ZV → ZH → Prop} {x0 : Int32} 
  (H : zT G (d + 1) mX12_bits 4 [zi x0, zi 0, zi 0] [] h Q) :
  zT G (d + 1) mX12_bits 0 [zi x0, zu, zu] [] h Q := by
  refine zt_iconst (v := 0) kX12_bits_0 rfl ?_
  refine zt_istore_n (L' := [zi x0, zi 0, zu]) kX12_bits_1 (by decide) rfl ?_
  refine zt_iconst (v := 0) kX12_bits_2 rfl ?_
  refine zt_istore_n (L' := [zi x0, zi 0, zi 0]) kX12_bits_3 (by decide) rfl ?_
  exact H

set_option maxRecDepth 10000 in
theorem wX12_bits_4 {G : ZG} {d : Nat} {h : ZH} {Q : Option ZV → ZH → Prop} {x0 : Int32} {x1 : Int32} {x2 : Int32} 
  (H : (12 ≤ x2 → Q (some (zi x1)) h) ∧ (¬ 12 ≤ x2 → zT G (d + 1) mX12_bits 4 [zi x0, zi (x1 + ((x0 >>> (x2 &&& 31)) &&& 1)), zi (x2 + 1)] [] h Q)) :
  zT G (d + 1) mX12_bits 4 [zi x0, zi x1, zi x2] [] h Q := by
  refine zt_iload_n kX12_bits_4 rfl ?_
  refine zt_bipush (v := 12) kX12_bits_5 rfl ?_
  refine zt_icmp_ge kX12_bits_7 (fun c => ?_) (fun c => ?_)
  · replace H := H.1 c
    refine zt_iload_n kX12_bits_24 rfl ?_
    exact zt_iret kX12_bits_25 rfl H
  · replace H := H.2 c
    refine zt_iload_n kX12_bits_10 rfl ?_
    refine zt_iload_n kX12_bits_11 rfl ?_
    refine zt_iload_n kX12_bits_12 rfl ?_
    refine zt_ishr kX12_bits_13 ?_
    refine zt_iconst (v := 1) kX12_bits_14 rfl ?_
    refine zt_iand kX12_bits_15 ?_
    refine zt_iadd kX12_bits_16 ?_
    refine zt_istore_n (L' := [zi x0, zi (x1 + ((x0 >>> (x2 &&& 31)) &&& 1)), zi x2]) kX12_bits_17 (by decide) rfl ?_
    refine zt_iinc (v := (x2 + 1)) (L' := [zi x0, zi (x1 + ((x0 >>> (x2 &&& 31)) &&& 1)), zi (x2 + 1)]) kX12_bits_18 rfl rfl (by decide) rfl ?_
    refine zt_goto kX12_bits_21 ?_
    exact H

theorem kX12_copies_0 : zD cX12_copies 0 1 (.iconst 0) 1 := by decide +kernel
theorem kX12_copies_1 : zD cX12_copies 1 2 (.istore_n 2) 1 := by decide +kernel
theorem kX12_copies_2 : zD cX12_copies 2 3 (.iload_n 2) 1 := by decide +kernel
theorem kX12_copies_3 : zD cX12_copies 3 5 (.bipush 26) 2 := by decide +kernel
theorem kX12_copies_5 : zB cX12_copies 5 8 20 (.if_icmp .ge 15) 15 := by decide +kernel
theorem kX12_copies_8 : zD cX12_copies 8 9 (.aload_n 1) 1 := by decide +kernel
theorem kX12_copies_9 : zD cX12_copies 9 10 (.iload_n 2) 1 := by decide +kernel
theorem kX12_copies_10 : zD cX12_copies 10 11 (.aload_n 0) 1 := by decide +kernel
theorem kX12_copies_11 : zD cX12_copies 11 12 (.iload_n 2) 1 := by decide +kernel
theorem kX12_copies_12 : zD cX12_copies 12 13 (.iaload) 1 := by decide +kernel
theorem kX12_copies_13 : zD cX12_copies 13 14 (.iastore) 1 := by decide +kernel
theorem kX12_copies_14 : zD cX12_copies 14 17 (.iinc 2 1) 3 := by decide +kernel
theorem kX12_copies_17 : zB cX12_copies 17 20 2 (.goto (-15)) (-15) := by decide +kernel
theorem kX12_copies_20 : zD cX12_copies 20 21 (.return_) 1 := by decide +kernel
set_option maxRecDepth 10000 in
theorem wX12_copies_0 {G : ZG} {d : Nat} {h : ZH} {Q : Option ZV → ZH → Prop} {a0 i0 n0 : Nat} {a1 i1 n1 : Nat} (hk0 : zkd a0 i0 = .inr (0, n0)) (hi0 : i0 < zcnt a0) (hk1 : zkd a1 i1 = .inr (0, n1)) (hi1 : i1 < zcnt a1)
  (H : zT G (d + 1) mX12_copies 2 [zr a0 i0, zr a1 i1, zi 0] [] h Q) :
  zT G (d + 1) mX12_copies 0 [zr a0 i0, zr a1 i1, zu] [] h Q := by
  refine zt_iconst (v := 0) kX12_copies_0 rfl ?_
  refine zt_istore_n (L' := [zr a0 i0, zr a1 i1, zi 0]) kX12_copies_1 (by decide) rfl ?_
  exact H

set_option maxRecDepth 10000 in
theorem wX12_copies_2 {G : ZG} {d : Nat} {h : ZH} {Q : Option ZV → ZH → Prop} {a0 i0 n0 : Nat} {a1 i1 n1 : Nat} {x2 : Int32} (hk0 : zkd a0 i0 = .inr (0, n0)) (hi0 : i0 < zcnt a0) (hk1 : zkd a1 i1 = .inr (0, n1)) (hi1 : i1 < zcnt a1)
  (H : (26 ≤ x2 → Q none h) ∧ (¬ 26 ≤ x2 → vp_in x2 n0 ∧ vp_in x2 n1 ∧ (∀ h1 : ZH, h1 = zs1 h a1 i1 x2.toNatClampNeg (h.1 a0 i0 x2.toNatClampNeg) → zT G (d + 1) mX12_copies 2 [zr a0 i0, zr a1 i1, zi (x2 + 1)] [] h1 Q))) :
  zT G (d + 1) mX12_copies 2 [zr a0 i0, zr a1 i1, zi x2] [] h Q := by
  refine zt_iload_n kX12_copies_2 rfl ?_
  refine zt_bipush (v := 26) kX12_copies_3 rfl ?_
  refine zt_icmp_ge kX12_copies_5 (fun c => ?_) (fun c => ?_)
  · replace H := H.1 c
    exact zt_vret kX12_copies_20 rfl H
  · replace H := H.2 c
    refine zt_aload_n kX12_copies_8 rfl ?_
    refine zt_iload_n kX12_copies_9 rfl ?_
    refine zt_aload_n kX12_copies_10 rfl ?_
    refine zt_iload_n kX12_copies_11 rfl ?_
    obtain ⟨hv, H⟩ := H
    refine zt_iald kX12_copies_12 hk0 hi0 hv ?_
    obtain ⟨hv, H⟩ := H
    refine zt_iast kX12_copies_13 hk1 hi1 hv ?_
    refine zt_heap (fun h1 eh1 => ?_)
    replace H := H h1 eh1
    refine zt_iinc (v := (x2 + 1)) (L' := [zr a0 i0, zr a1 i1, zi (x2 + 1)]) kX12_copies_14 rfl rfl (by decide) rfl ?_
    refine zt_goto kX12_copies_17 ?_
    exact H

theorem kX11_isPlace_0 : zD cX11_isPlace 0 1 (.iload_n 0) 1 := by decide +kernel
theorem kX11_isPlace_1 : zB cX11_isPlace 1 4 14 (.ifCond .lt 13) 13 := by decide +kernel
theorem kX11_isPlace_4 : zD cX11_isPlace 4 5 (.iload_n 0) 1 := by decide +kernel
theorem kX11_isPlace_5 : zD cX11_isPlace 5 7 (.bipush 12) 2 := by decide +kernel
theorem kX11_isPlace_7 : zB cX11_isPlace 7 10 14 (.if_icmp .ge 7) 7 := by decide +kernel
theorem kX11_isPlace_10 : zD cX11_isPlace 10 11 (.iconst 1) 1 := by decide +kernel
theorem kX11_isPlace_11 : zB cX11_isPlace 11 14 15 (.goto 4) 4 := by decide +kernel
theorem kX11_isPlace_14 : zD cX11_isPlace 14 15 (.iconst 0) 1 := by decide +kernel
theorem kX11_isPlace_15 : zD cX11_isPlace 15 16 (.ireturn) 1 := by decide +kernel
set_option maxRecDepth 10000 in
theorem wX11_isPlace_0 {G : ZG} {d : Nat} {h : ZH} {Q : Option ZV → ZH → Prop} {x0 : Int32} 
  (H : (x0 < 0 → Q (some (zi 0)) h) ∧ (¬ x0 < 0 → (12 ≤ x0 → Q (some (zi 0)) h) ∧ (¬ 12 ≤ x0 → Q (some (zi 1)) h))) :
  zT G (d + 1) mX11_isPlace 0 [zi x0] [] h Q := by
  refine zt_iload_n kX11_isPlace_0 rfl ?_
  refine zt_if_lt kX11_isPlace_1 (fun c => ?_) (fun c => ?_)
  · replace H := H.1 c
    refine zt_iconst (v := 0) kX11_isPlace_14 rfl ?_
    exact zt_zret kX11_isPlace_15 rfl (by decide) H
  · replace H := H.2 c
    refine zt_iload_n kX11_isPlace_4 rfl ?_
    refine zt_bipush (v := 12) kX11_isPlace_5 rfl ?_
    refine zt_icmp_ge kX11_isPlace_7 (fun c => ?_) (fun c => ?_)
    · replace H := H.1 c
      refine zt_iconst (v := 0) kX11_isPlace_14 rfl ?_
      exact zt_zret kX11_isPlace_15 rfl (by decide) H
    · replace H := H.2 c
      refine zt_iconst (v := 1) kX11_isPlace_10 rfl ?_
      refine zt_goto kX11_isPlace_11 ?_
      exact zt_zret kX11_isPlace_15 rfl (by decide) H

theorem kX11_isShelf_0 : zD cX11_isShelf 0 1 (.iload_n 0) 1 := by decide +kernel
theorem kX11_isShelf_1 : zB cX11_isShelf 1 4 14 (.ifCond .lt 13) 13 := by decide +kernel
theorem kX11_isShelf_4 : zD cX11_isShelf 4 5 (.iload_n 0) 1 := by decide +kernel
theorem kX11_isShelf_5 : zD cX11_isShelf 5 7 (.bipush 8) 2 := by decide +kernel
theorem kX11_isShelf_7 : zB cX11_isShelf 7 10 14 (.if_icmp .ge 7) 7 := by decide +kernel
theorem kX11_isShelf_10 : zD cX11_isShelf 10 11 (.iconst 1) 1 := by decide +kernel
theorem kX11_isShelf_11 : zB cX11_isShelf 11 14 15 (.goto 4) 4 := by decide +kernel
theorem kX11_isShelf_14 : zD cX11_isShelf 14 15 (.iconst 0) 1 := by decide +kernel
theorem kX11_isShelf_15 : zD cX11_isShelf 15 16 (.ireturn) 1 := by decide +kernel
set_option maxRecDepth 10000 in
theorem wX11_isShelf_0 {G : ZG} {d : Nat} {h : ZH} {Q : Option ZV → ZH → Prop} {x0 : Int32} 
  (H : (x0 < 0 → Q (some (zi 0)) h) ∧ (¬ x0 < 0 → (8 ≤ x0 → Q (some (zi 0)) h) ∧ (¬ 8 ≤ x0 → Q (some (zi 1)) h))) :
  zT G (d + 1) mX11_isShelf 0 [zi x0] [] h Q := by
  refine zt_iload_n kX11_isShelf_0 rfl ?_
  refine zt_if_lt kX11_isShelf_1 (fun c => ?_) (fun c => ?_)
  · replace H := H.1 c
    refine zt_iconst (v := 0) kX11_isShelf_14 rfl ?_
    exact zt_zret kX11_isShelf_15 rfl (by decide) H
  · replace H := H.2 c
    refine zt_iload_n kX11_isShelf_4 rfl ?_
    refine zt_bipush (v := 8) kX11_isShelf_5 rfl ?_
    refine zt_icmp_ge kX11_isShelf_7 (fun c => ?_) (fun c => ?_)
    · replace H := H.1 c
      refine zt_iconst (v := 0) kX11_isShelf_14 rfl ?_
      exact zt_zret kX11_isShelf_15 rfl (by decide) H
    · replace H := H.2 c
      refine zt_iconst (v := 1) kX11_isShelf_10 rfl ?_
      refine zt_goto kX11_isShelf_11 ?_
      exact zt_zret kX11_isShelf_15 rfl (by decide) H

theorem kX11_isEither_0 : zD cX11_isEither 0 1 (.iload_n 0) 1 := by decide +kernel
theorem kX11_isEither_1 : zB cX11_isEither 1 4 9 (.ifCond .eq 8) 8 := by decide +kernel
theorem kX11_isEither_4 : zD cX11_isEither 4 5 (.iload_n 0) 1 := by decide +kernel
theorem kX11_isEither_5 : zD cX11_isEither 5 6 (.iconst 1) 1 := by decide +kernel
theorem kX11_isEither_6 : zB cX11_isEither 6 9 13 (.if_icmp .ne 7) 7 := by decide +kernel
theorem kX11_isEither_9 : zD cX11_isEither 9 10 (.iconst 1) 1 := by decide +kernel
theorem kX11_isEither_10 : zB cX11_isEither 10 13 14 (.goto 4) 4 := by decide +kernel
theorem kX11_isEither_13 : zD cX11_isEither 13 14 (.iconst 0) 1 := by decide +kernel
theorem kX11_isEither_14 : zD cX11_isEither 14 15 (.ireturn) 1 := by decide +kernel
set_option maxRecDepth 10000 in
theorem wX11_isEither_0 {G : ZG} {d : Nat} {h : ZH} {Q : Option ZV → ZH → Prop} {x0 : Int32} 
  (H : (x0 = 0 → Q (some (zi 1)) h) ∧ (¬ x0 = 0 → (¬ x0 = 1 → Q (some (zi 0)) h) ∧ (x0 = 1 → Q (some (zi 1)) h))) :
  zT G (d + 1) mX11_isEither 0 [zi x0] [] h Q := by
  refine zt_iload_n kX11_isEither_0 rfl ?_
  refine zt_if_eq kX11_isEither_1 (fun c => ?_) (fun c => ?_)
  · replace H := H.1 c
    refine zt_iconst (v := 1) kX11_isEither_9 rfl ?_
    refine zt_goto kX11_isEither_10 ?_
    exact zt_zret kX11_isEither_14 rfl (by decide) H
  · replace H := H.2 c
    refine zt_iload_n kX11_isEither_4 rfl ?_
    refine zt_iconst (v := 1) kX11_isEither_5 rfl ?_
    refine zt_icmp_ne kX11_isEither_6 (fun c => ?_) (fun c => ?_)
    · replace H := H.1 c
      refine zt_iconst (v := 0) kX11_isEither_13 rfl ?_
      exact zt_zret kX11_isEither_14 rfl (by decide) H
    · replace H := H.2 c
      refine zt_iconst (v := 1) kX11_isEither_9 rfl ?_
      refine zt_goto kX11_isEither_10 ?_
      exact zt_zret kX11_isEither_14 rfl (by decide) H

theorem kX11_isSomeStones_0 : zD cX11_isSomeStones 0 1 (.iload_n 0) 1 := by decide +kernel
theorem kX11_isSomeStones_1 : zD cX11_isSomeStones 1 2 (.iconst 1) 1 := by decide +kernel
theorem kX11_isSomeStones_2 : zB cX11_isSomeStones 2 5 15 (.if_icmp .lt 13) 13 := by decide +kernel
theorem kX11_isSomeStones_5 : zD cX11_isSomeStones 5 6 (.iload_n 0) 1 := by decide +kernel
theorem kX11_isSomeStones_6 : zD cX11_isSomeStones 6 8 (.bipush 12) 2 := by decide +kernel
theorem kX11_isSomeStones_8 : zB cX11_isSomeStones 8 11 15 (.if_icmp .gt 7) 7 := by decide +kernel
theorem kX11_isSomeStones_11 : zD cX11_isSomeStones 11 12 (.iconst 1) 1 := by decide +kernel
theorem kX11_isSomeStones_12 : zB cX11_isSomeStones 12 15 16 (.goto 4) 4 := by decide +kernel
theorem kX11_isSomeStones_15 : zD cX11_isSomeStones 15 16 (.iconst 0) 1 := by decide +kernel
theorem kX11_isSomeStones_16 : zD cX11_isSomeStones 16 17 (.ireturn) 1 := by decide +kernel
set_option maxRecDepth 10000 in
theorem wX11_isSomeStones_0 {G : ZG} {d : Nat} {h : ZH} {Q : Option ZV → ZH → Prop} {x0 : Int32} 
  (H : (x0 < 1 → Q (some (zi 0)) h) ∧ (¬ x0 < 1 → (12 < x0 → Q (some (zi 0)) h) ∧ (¬ 12 < x0 → Q (some (zi 1)) h))) :
  zT G (d + 1) mX11_isSomeStones 0 [zi x0] [] h Q := by
  refine zt_iload_n kX11_isSomeStones_0 rfl ?_
  refine zt_iconst (v := 1) kX11_isSomeStones_1 rfl ?_
  refine zt_icmp_lt kX11_isSomeStones_2 (fun c => ?_) (fun c => ?_)
  · replace H := H.1 c
    refine zt_iconst (v := 0) kX11_isSomeStones_15 rfl ?_
    exact zt_zret kX11_isSomeStones_16 rfl (by decide) H
  · replace H := H.2 c
    refine zt_iload_n kX11_isSomeStones_5 rfl ?_
    refine zt_bipush (v := 12) kX11_isSomeStones_6 rfl ?_
    refine zt_icmp_gt kX11_isSomeStones_8 (fun c => ?_) (fun c => ?_)
    · replace H := H.1 c
      refine zt_iconst (v := 0) kX11_isSomeStones_15 rfl ?_
      exact zt_zret kX11_isSomeStones_16 rfl (by decide) H
    · replace H := H.2 c
      refine zt_iconst (v := 1) kX11_isSomeStones_11 rfl ?_
      refine zt_goto kX11_isSomeStones_12 ?_
      exact zt_zret kX11_isSomeStones_16 rfl (by decide) H

theorem kX11_digitsBehind_0 : zD cX11_digitsBehind 0 1 (.iload_n 0) 1 := by decide +kernel
theorem kX11_digitsBehind_1 : zD cX11_digitsBehind 1 3 (.bipush 115) 2 := by decide +kernel
theorem kX11_digitsBehind_3 : zB cX11_digitsBehind 3 6 8 (.if_icmp .ne 5) 5 := by decide +kernel
theorem kX11_digitsBehind_6 : zD cX11_digitsBehind 6 7 (.iconst 4) 1 := by decide +kernel
theorem kX11_digitsBehind_7 : zD cX11_digitsBehind 7 8 (.ireturn) 1 := by decide +kernel
theorem kX11_digitsBehind_8 : zD cX11_digitsBehind 8 9 (.iload_n 0) 1 := by decide +kernel
theorem kX11_digitsBehind_9 : zD cX11_digitsBehind 9 11 (.bipush 120) 2 := by decide +kernel
theorem kX11_digitsBehind_11 : zB cX11_digitsBehind 11 14 20 (.if_icmp .eq 9) 9 := by decide +kernel
theorem kX11_digitsBehind_14 : zD cX11_digitsBehind 14 15 (.iload_n 0) 1 := by decide +kernel
theorem kX11_digitsBehind_15 : zD cX11_digitsBehind 15 17 (.bipush 112) 2 := by decide +kernel
theorem kX11_digitsBehind_17 : zB cX11_digitsBehind 17 20 24 (.if_icmp .ne 7) 7 := by decide +kernel
theorem kX11_digitsBehind_20 : zD cX11_digitsBehind 20 21 (.iconst 2) 1 := by decide +kernel
theorem kX11_digitsBehind_21 : zB cX11_digitsBehind 21 24 25 (.goto 4) 4 := by decide +kernel
theorem kX11_digitsBehind_24 : zD cX11_digitsBehind 24 25 (.iconst 0) 1 := by decide +kernel
theorem kX11_digitsBehind_25 : zD cX11_digitsBehind 25 26 (.ireturn) 1 := by decide +kernel
set_option maxRecDepth 10000 in
theorem wX11_digitsBehind_0 {G : ZG} {d : Nat} {h : ZH} {Q : Option ZV → ZH → Prop} {x0 : Int32} 
  (H : (¬ x0 = 115 → (x0 = 120 → Q (some (zi 2)) h) ∧ (¬ x0 = 120 → (¬ x0 = 112 → Q (some (zi 0)) h) ∧ (x0 = 112 → Q (some (zi 2)) h))) ∧ (x0 = 115 → Q (some (zi 4)) h)) :
  zT G (d + 1) mX11_digitsBehind 0 [zi x0] [] h Q := by
  refine zt_iload_n kX11_digitsBehind_0 rfl ?_
  refine zt_bipush (v := 115) kX11_digitsBehind_1 rfl ?_
  refine zt_icmp_ne kX11_digitsBehind_3 (fun c => ?_) (fun c => ?_)
  · replace H := H.1 c
    refine zt_iload_n kX11_digitsBehind_8 rfl ?_
    refine zt_bipush (v := 120) kX11_digitsBehind_9 rfl ?_
    refine zt_icmp_eq kX11_digitsBehind_11 (fun c => ?_) (fun c => ?_)
    · replace H := H.1 c
      refine zt_iconst (v := 2) kX11_digitsBehind_20 rfl ?_
      refine zt_goto kX11_digitsBehind_21 ?_
      exact zt_iret kX11_digitsBehind_25 rfl H
    · replace H := H.2 c
      refine zt_iload_n kX11_digitsBehind_14 rfl ?_
      refine zt_bipush (v := 112) kX11_digitsBehind_15 rfl ?_
      refine zt_icmp_ne kX11_digitsBehind_17 (fun c => ?_) (fun c => ?_)
      · replace H := H.1 c
        refine zt_iconst (v := 0) kX11_digitsBehind_24 rfl ?_
        exact zt_iret kX11_digitsBehind_25 rfl H
      · replace H := H.2 c
        refine zt_iconst (v := 2) kX11_digitsBehind_20 rfl ?_
        refine zt_goto kX11_digitsBehind_21 ?_
        exact zt_iret kX11_digitsBehind_25 rfl H
  · replace H := H.2 c
    refine zt_iconst (v := 4) kX11_digitsBehind_6 rfl ?_
    exact zt_iret kX11_digitsBehind_7 rfl H

theorem kX11_powerOf_0 : zD cX11_powerOf 0 1 (.lconst 1) 1 := by decide +kernel
theorem kX11_powerOf_1 : zD cX11_powerOf 1 2 (.lstore_n 2) 1 := by decide +kernel
theorem kX11_powerOf_2 : zD cX11_powerOf 2 3 (.iconst 0) 1 := by decide +kernel
theorem kX11_powerOf_3 : zD cX11_powerOf 3 5 (.istore 4) 2 := by decide +kernel
theorem kX11_powerOf_5 : zD cX11_powerOf 5 7 (.iload 4) 2 := by decide +kernel
theorem kX11_powerOf_7 : zD cX11_powerOf 7 8 (.iload_n 1) 1 := by decide +kernel
theorem kX11_powerOf_8 : zB cX11_powerOf 8 11 22 (.if_icmp .ge 14) 14 := by decide +kernel
theorem kX11_powerOf_11 : zD cX11_powerOf 11 12 (.lload_n 2) 1 := by decide +kernel
theorem kX11_powerOf_12 : zD cX11_powerOf 12 13 (.iload_n 0) 1 := by decide +kernel
theorem kX11_powerOf_13 : zD cX11_powerOf 13 14 (.i2l) 1 := by decide +kernel
theorem kX11_powerOf_14 : zD cX11_powerOf 14 15 (.lmul) 1 := by decide +kernel
theorem kX11_powerOf_15 : zD cX11_powerOf 15 16 (.lstore_n 2) 1 := by decide +kernel
theorem kX11_powerOf_16 : zD cX11_powerOf 16 19 (.iinc 4 1) 3 := by decide +kernel
theorem kX11_powerOf_19 : zB cX11_powerOf 19 22 5 (.goto (-14)) (-14) := by decide +kernel
theorem kX11_powerOf_22 : zD cX11_powerOf 22 23 (.lload_n 2) 1 := by decide +kernel
theorem kX11_powerOf_23 : zD cX11_powerOf 23 24 (.lreturn) 1 := by decide +kernel
set_option maxRecDepth 10000 in
theorem wX11_powerOf_0 {G : ZG} {d : Nat} {h : ZH} {Q : Option ZV → ZH → Prop} {x0 : Int32} {x1 : Int32} 
  (H : zT G (d + 1) mX11_powerOf 5 [zi x0, zi x1, zl 1, zu, zi 0] [] h Q) :
  zT G (d + 1) mX11_powerOf 0 [zi x0, zi x1, zu, zu, zu] [] h Q := by
  refine zt_lconst (v := 1) kX11_powerOf_0 rfl ?_
  refine zt_lstore_n (L' := [zi x0, zi x1, zl 1, zu, zu]) kX11_powerOf_1 (by decide) rfl ?_
  refine zt_iconst (v := 0) kX11_powerOf_2 rfl ?_
  refine zt_istore (L' := [zi x0, zi x1, zl 1, zu, zi 0]) kX11_powerOf_3 (by decide) rfl ?_
  exact H

set_option maxRecDepth 10000 in
theorem wX11_powerOf_5 {G : ZG} {d : Nat} {h : ZH} {Q : Option ZV → ZH → Prop} {x0 : Int32} {x1 : Int32} {x2 : Int64} {x4 : Int32} 
  (H : (x1 ≤ x4 → Q (some (zl x2)) h) ∧ (¬ x1 ≤ x4 → zT G (d + 1) mX11_powerOf 5 [zi x0, zi x1, zl (x2 * (x0).toInt64), zu, zi (x4 + 1)] [] h Q)) :
  zT G (d + 1) mX11_powerOf 5 [zi x0, zi x1, zl x2, zu, zi x4] [] h Q := by
  refine zt_iload kX11_powerOf_5 rfl ?_
  refine zt_iload_n kX11_powerOf_7 rfl ?_
  refine zt_icmp_ge kX11_powerOf_8 (fun c => ?_) (fun c => ?_)
  · replace H := H.1 c
    refine zt_lload_n kX11_powerOf_22 rfl ?_
    exact zt_lret kX11_powerOf_23 rfl H
  · replace H := H.2 c
    refine zt_lload_n kX11_powerOf_11 rfl ?_
    refine zt_iload_n kX11_powerOf_12 rfl ?_
    refine zt_i2l kX11_powerOf_13 ?_
    refine zt_lmul kX11_powerOf_14 ?_
    refine zt_lstore_n (L' := [zi x0, zi x1, zl (x2 * (x0).toInt64), zu, zi x4]) kX11_powerOf_15 (by decide) rfl ?_
    refine zt_iinc (v := (x4 + 1)) (L' := [zi x0, zi x1, zl (x2 * (x0).toInt64), zu, zi (x4 + 1)]) kX11_powerOf_16 rfl rfl (by decide) rfl ?_
    refine zt_goto kX11_powerOf_19 ?_
    exact H

theorem kX11_commonDivisor_0 : zD cX11_commonDivisor 0 1 (.lload_n 2) 1 := by decide +kernel
theorem kX11_commonDivisor_1 : zD cX11_commonDivisor 1 3 (.lstore 4) 2 := by decide +kernel
theorem kX11_commonDivisor_3 : zD cX11_commonDivisor 3 4 (.lload_n 0) 1 := by decide +kernel
theorem kX11_commonDivisor_4 : zD cX11_commonDivisor 4 6 (.lstore 6) 2 := by decide +kernel
theorem kX11_commonDivisor_6 : zD cX11_commonDivisor 6 7 (.iconst 0) 1 := by decide +kernel
theorem kX11_commonDivisor_7 : zD cX11_commonDivisor 7 9 (.istore 8) 2 := by decide +kernel
theorem kX11_commonDivisor_9 : zD cX11_commonDivisor 9 11 (.iload 8) 2 := by decide +kernel
theorem kX11_commonDivisor_11 : zD cX11_commonDivisor 11 14 (.sipush 200) 3 := by decide +kernel
theorem kX11_commonDivisor_14 : zB cX11_commonDivisor 14 17 45 (.if_icmp .ge 31) 31 := by decide +kernel
theorem kX11_commonDivisor_17 : zD cX11_commonDivisor 17 19 (.lload 6) 2 := by decide +kernel
theorem kX11_commonDivisor_19 : zD cX11_commonDivisor 19 20 (.lconst 0) 1 := by decide +kernel
theorem kX11_commonDivisor_20 : zD cX11_commonDivisor 20 21 (.lcmp) 1 := by decide +kernel
theorem kX11_commonDivisor_21 : zB cX11_commonDivisor 21 24 45 (.ifCond .eq 24) 24 := by decide +kernel
theorem kX11_commonDivisor_24 : zD cX11_commonDivisor 24 26 (.lload 4) 2 := by decide +kernel
theorem kX11_commonDivisor_26 : zD cX11_commonDivisor 26 28 (.lload 6) 2 := by decide +kernel
theorem kX11_commonDivisor_28 : zD cX11_commonDivisor 28 29 (.lrem) 1 := by decide +kernel
theorem kX11_commonDivisor_29 : zD cX11_commonDivisor 29 31 (.lstore 9) 2 := by decide +kernel
theorem kX11_commonDivisor_31 : zD cX11_commonDivisor 31 33 (.lload 6) 2 := by decide +kernel
theorem kX11_commonDivisor_33 : zD cX11_commonDivisor 33 35 (.lstore 4) 2 := by decide +kernel
theorem kX11_commonDivisor_35 : zD cX11_commonDivisor 35 37 (.lload 9) 2 := by decide +kernel
theorem kX11_commonDivisor_37 : zD cX11_commonDivisor 37 39 (.lstore 6) 2 := by decide +kernel
theorem kX11_commonDivisor_39 : zD cX11_commonDivisor 39 42 (.iinc 8 1) 3 := by decide +kernel
theorem kX11_commonDivisor_42 : zB cX11_commonDivisor 42 45 9 (.goto (-33)) (-33) := by decide +kernel
theorem kX11_commonDivisor_45 : zD cX11_commonDivisor 45 47 (.lload 4) 2 := by decide +kernel
theorem kX11_commonDivisor_47 : zD cX11_commonDivisor 47 48 (.lreturn) 1 := by decide +kernel
set_option maxRecDepth 10000 in
theorem wX11_commonDivisor_0 {G : ZG} {d : Nat} {h : ZH} {Q : Option ZV → ZH → Prop} {x0 : Int64} {x2 : Int64} 
  (H : zT G (d + 1) mX11_commonDivisor 9 [zl x0, zu, zl x2, zu, zl x2, zu, zl x0, zu, zi 0, zu, zu] [] h Q) :
  zT G (d + 1) mX11_commonDivisor 0 [zl x0, zu, zl x2, zu, zu, zu, zu, zu, zu, zu, zu] [] h Q := by
  refine zt_lload_n kX11_commonDivisor_0 rfl ?_
  refine zt_lstore (L' := [zl x0, zu, zl x2, zu, zl x2, zu, zu, zu, zu, zu, zu]) kX11_commonDivisor_1 (by decide) rfl ?_
  refine zt_lload_n kX11_commonDivisor_3 rfl ?_
  refine zt_lstore (L' := [zl x0, zu, zl x2, zu, zl x2, zu, zl x0, zu, zu, zu, zu]) kX11_commonDivisor_4 (by decide) rfl ?_
  refine zt_iconst (v := 0) kX11_commonDivisor_6 rfl ?_
  refine zt_istore (L' := [zl x0, zu, zl x2, zu, zl x2, zu, zl x0, zu, zi 0, zu, zu]) kX11_commonDivisor_7 (by decide) rfl ?_
  exact H

set_option maxRecDepth 10000 in
theorem wX11_commonDivisor_9 {G : ZG} {d : Nat} {h : ZH} {Q : Option ZV → ZH → Prop} {x0 : Int64} {x2 : Int64} {x4 : Int64} {x6 : Int64} {x8 : Int32} 
  (H : (200 ≤ x8 → Q (some (zl x4)) h) ∧ (¬ 200 ≤ x8 → ((lg_cmp x6 0) = 0 → Q (some (zl x4)) h) ∧ (¬ (lg_cmp x6 0) = 0 → (¬ x6 = (0 : Int64)) ∧ zT G (d + 1) mX11_commonDivisor 9 [zl x0, zu, zl x2, zu, zl x6, zu, zl (x4 - x4 / x6 * x6), zu, zi (x8 + 1), zu, zu] [] h Q))) :
  zT G (d + 1) mX11_commonDivisor 9 [zl x0, zu, zl x2, zu, zl x4, zu, zl x6, zu, zi x8, zu, zu] [] h Q := by
  refine zt_iload kX11_commonDivisor_9 rfl ?_
  refine zt_sipush (v := 200) kX11_commonDivisor_11 rfl ?_
  refine zt_icmp_ge kX11_commonDivisor_14 (fun c => ?_) (fun c => ?_)
  · replace H := H.1 c
    refine zt_lload kX11_commonDivisor_45 rfl ?_
    exact zt_lret kX11_commonDivisor_47 rfl H
  · replace H := H.2 c
    refine zt_lload kX11_commonDivisor_17 rfl ?_
    refine zt_lconst (v := 0) kX11_commonDivisor_19 rfl ?_
    refine zt_lcmp kX11_commonDivisor_20 ?_
    refine zt_if_eq kX11_commonDivisor_21 (fun c => ?_) (fun c => ?_)
    · replace H := H.1 c
      refine zt_lload kX11_commonDivisor_45 rfl ?_
      exact zt_lret kX11_commonDivisor_47 rfl H
    · replace H := H.2 c
      refine zt_lload kX11_commonDivisor_24 rfl ?_
      refine zt_lload kX11_commonDivisor_26 rfl ?_
      obtain ⟨hne, H⟩ := H
      refine zt_lrem kX11_commonDivisor_28 hne ?_
      refine zt_lstore (L' := [zl x0, zu, zl x2, zu, zl x4, zu, zl x6, zu, zi x8, zl (x4 - x4 / x6 * x6), zu]) kX11_commonDivisor_29 (by decide) rfl ?_
      refine zt_lload kX11_commonDivisor_31 rfl ?_
      refine zt_lstore (L' := [zl x0, zu, zl x2, zu, zl x6, zu, zl x6, zu, zi x8, zl (x4 - x4 / x6 * x6), zu]) kX11_commonDivisor_33 (by decide) rfl ?_
      refine zt_lload kX11_commonDivisor_35 rfl ?_
      refine zt_lstore (L' := [zl x0, zu, zl x2, zu, zl x6, zu, zl (x4 - x4 / x6 * x6), zu, zi x8, zl (x4 - x4 / x6 * x6), zu]) kX11_commonDivisor_37 (by decide) rfl ?_
      refine zt_iinc (v := (x8 + 1)) (L' := [zl x0, zu, zl x2, zu, zl x6, zu, zl (x4 - x4 / x6 * x6), zu, zi (x8 + 1), zl (x4 - x4 / x6 * x6), zu]) kX11_commonDivisor_39 rfl rfl (by decide) rfl ?_
      refine zt_goto kX11_commonDivisor_42 ?_
      exact zt_sub [zl x0, zu, zl x2, zu, zl x6, zu, zl (x4 - x4 / x6 * x6), zu, zi (x8 + 1), zu, zu] ⟨rfl, ⟨rfl, ⟨rfl, ⟨rfl, ⟨rfl, trivial⟩⟩⟩⟩⟩ H

theorem kX12_gcd_0 : zD cX12_gcd 0 1 (.lload_n 0) 1 := by decide +kernel
theorem kX12_gcd_1 : zD cX12_gcd 1 3 (.lstore 4) 2 := by decide +kernel
theorem kX12_gcd_3 : zD cX12_gcd 3 4 (.lload_n 2) 1 := by decide +kernel
theorem kX12_gcd_4 : zD cX12_gcd 4 6 (.lstore 6) 2 := by decide +kernel
theorem kX12_gcd_6 : zD cX12_gcd 6 8 (.lload 6) 2 := by decide +kernel
theorem kX12_gcd_8 : zD cX12_gcd 8 9 (.lconst 0) 1 := by decide +kernel
theorem kX12_gcd_9 : zD cX12_gcd 9 10 (.lcmp) 1 := by decide +kernel
theorem kX12_gcd_10 : zB cX12_gcd 10 13 31 (.ifCond .eq 21) 21 := by decide +kernel
theorem kX12_gcd_13 : zD cX12_gcd 13 15 (.lload 4) 2 := by decide +kernel
theorem kX12_gcd_15 : zD cX12_gcd 15 17 (.lload 6) 2 := by decide +kernel
theorem kX12_gcd_17 : zD cX12_gcd 17 18 (.lrem) 1 := by decide +kernel
theorem kX12_gcd_18 : zD cX12_gcd 18 20 (.lstore 8) 2 := by decide +kernel
theorem kX12_gcd_20 : zD cX12_gcd 20 22 (.lload 6) 2 := by decide +kernel
theorem kX12_gcd_22 : zD cX12_gcd 22 24 (.lstore 4) 2 := by decide +kernel
theorem kX12_gcd_24 : zD cX12_gcd 24 26 (.lload 8) 2 := by decide +kernel
theorem kX12_gcd_26 : zD cX12_gcd 26 28 (.lstore 6) 2 := by decide +kernel
theorem kX12_gcd_28 : zB cX12_gcd 28 31 6 (.goto (-22)) (-22) := by decide +kernel
theorem kX12_gcd_31 : zD cX12_gcd 31 33 (.lload 4) 2 := by decide +kernel
theorem kX12_gcd_33 : zD cX12_gcd 33 34 (.lreturn) 1 := by decide +kernel
set_option maxRecDepth 10000 in
theorem wX12_gcd_0 {G : ZG} {d : Nat} {h : ZH} {Q : Option ZV → ZH → Prop} {x0 : Int64} {x2 : Int64} 
  (H : zT G (d + 1) mX12_gcd 6 [zl x0, zu, zl x2, zu, zl x0, zu, zl x2, zu, zu, zu] [] h Q) :
  zT G (d + 1) mX12_gcd 0 [zl x0, zu, zl x2, zu, zu, zu, zu, zu, zu, zu] [] h Q := by
  refine zt_lload_n kX12_gcd_0 rfl ?_
  refine zt_lstore (L' := [zl x0, zu, zl x2, zu, zl x0, zu, zu, zu, zu, zu]) kX12_gcd_1 (by decide) rfl ?_
  refine zt_lload_n kX12_gcd_3 rfl ?_
  refine zt_lstore (L' := [zl x0, zu, zl x2, zu, zl x0, zu, zl x2, zu, zu, zu]) kX12_gcd_4 (by decide) rfl ?_
  exact H

set_option maxRecDepth 10000 in
theorem wX12_gcd_6 {G : ZG} {d : Nat} {h : ZH} {Q : Option ZV → ZH → Prop} {x0 : Int64} {x2 : Int64} {x4 : Int64} {x6 : Int64} 
  (H : ((lg_cmp x6 0) = 0 → Q (some (zl x4)) h) ∧ (¬ (lg_cmp x6 0) = 0 → (¬ x6 = (0 : Int64)) ∧ zT G (d + 1) mX12_gcd 6 [zl x0, zu, zl x2, zu, zl x6, zu, zl (x4 - x4 / x6 * x6), zu, zu, zu] [] h Q)) :
  zT G (d + 1) mX12_gcd 6 [zl x0, zu, zl x2, zu, zl x4, zu, zl x6, zu, zu, zu] [] h Q := by
  refine zt_lload kX12_gcd_6 rfl ?_
  refine zt_lconst (v := 0) kX12_gcd_8 rfl ?_
  refine zt_lcmp kX12_gcd_9 ?_
  refine zt_if_eq kX12_gcd_10 (fun c => ?_) (fun c => ?_)
  · replace H := H.1 c
    refine zt_lload kX12_gcd_31 rfl ?_
    exact zt_lret kX12_gcd_33 rfl H
  · replace H := H.2 c
    refine zt_lload kX12_gcd_13 rfl ?_
    refine zt_lload kX12_gcd_15 rfl ?_
    obtain ⟨hne, H⟩ := H
    refine zt_lrem kX12_gcd_17 hne ?_
    refine zt_lstore (L' := [zl x0, zu, zl x2, zu, zl x4, zu, zl x6, zu, zl (x4 - x4 / x6 * x6), zu]) kX12_gcd_18 (by decide) rfl ?_
    refine zt_lload kX12_gcd_20 rfl ?_
    refine zt_lstore (L' := [zl x0, zu, zl x2, zu, zl x6, zu, zl x6, zu, zl (x4 - x4 / x6 * x6), zu]) kX12_gcd_22 (by decide) rfl ?_
    refine zt_lload kX12_gcd_24 rfl ?_
    refine zt_lstore (L' := [zl x0, zu, zl x2, zu, zl x6, zu, zl (x4 - x4 / x6 * x6), zu, zl (x4 - x4 / x6 * x6), zu]) kX12_gcd_26 (by decide) rfl ?_
    refine zt_goto kX12_gcd_28 ?_
    exact zt_sub [zl x0, zu, zl x2, zu, zl x6, zu, zl (x4 - x4 / x6 * x6), zu, zu, zu] ⟨rfl, ⟨rfl, ⟨rfl, ⟨rfl, trivial⟩⟩⟩⟩ H

theorem kX4_has_0 : zD cX4_has 0 1 (.iload_n 0) 1 := by decide +kernel
theorem kX4_has_1 : zD cX4_has 1 2 (.iload_n 1) 1 := by decide +kernel
theorem kX4_has_2 : zD cX4_has 2 3 (.ishr) 1 := by decide +kernel
theorem kX4_has_3 : zD cX4_has 3 4 (.iconst 1) 1 := by decide +kernel
theorem kX4_has_4 : zD cX4_has 4 5 (.iand) 1 := by decide +kernel
theorem kX4_has_5 : zB cX4_has 5 8 12 (.ifCond .eq 7) 7 := by decide +kernel
theorem kX4_has_8 : zD cX4_has 8 9 (.iconst 1) 1 := by decide +kernel
theorem kX4_has_9 : zB cX4_has 9 12 13 (.goto 4) 4 := by decide +kernel
theorem kX4_has_12 : zD cX4_has 12 13 (.iconst 0) 1 := by decide +kernel
theorem kX4_has_13 : zD cX4_has 13 14 (.ireturn) 1 := by decide +kernel
set_option maxRecDepth 10000 in
theorem wX4_has_0 {G : ZG} {d : Nat} {h : ZH} {Q : Option ZV → ZH → Prop} {x0 : Int32} {x1 : Int32} 
  (H : (((x0 >>> (x1 &&& 31)) &&& 1) = 0 → Q (some (zi 0)) h) ∧ (¬ ((x0 >>> (x1 &&& 31)) &&& 1) = 0 → Q (some (zi 1)) h)) :
  zT G (d + 1) mX4_has 0 [zi x0, zi x1] [] h Q := by
  refine zt_iload_n kX4_has_0 rfl ?_
  refine zt_iload_n kX4_has_1 rfl ?_
  refine zt_ishr kX4_has_2 ?_
  refine zt_iconst (v := 1) kX4_has_3 rfl ?_
  refine zt_iand kX4_has_4 ?_
  refine zt_if_eq kX4_has_5 (fun c => ?_) (fun c => ?_)
  · replace H := H.1 c
    refine zt_iconst (v := 0) kX4_has_12 rfl ?_
    exact zt_zret kX4_has_13 rfl (by decide) H
  · replace H := H.2 c
    refine zt_iconst (v := 1) kX4_has_8 rfl ?_
    refine zt_goto kX4_has_9 ?_
    exact zt_zret kX4_has_13 rfl (by decide) H

theorem kX8_clear_0 : zD cX8_clear 0 1 (.aload_n 0) 1 := by decide +kernel
theorem kX8_clear_1 : zD cX8_clear 1 2 (.iconst 0) 1 := by decide +kernel
theorem kX8_clear_2 : zD cX8_clear 2 5 (.putfield 11) 3 := by decide +kernel
theorem kX8_clear_5 : zD cX8_clear 5 6 (.aload_n 0) 1 := by decide +kernel
theorem kX8_clear_6 : zD cX8_clear 6 7 (.iconst 0) 1 := by decide +kernel
theorem kX8_clear_7 : zD cX8_clear 7 10 (.putfield 24) 3 := by decide +kernel
theorem kX8_clear_10 : zD cX8_clear 10 11 (.return_) 1 := by decide +kernel
set_option maxRecDepth 10000 in
theorem wX8_clear_0 {G : ZG} {d : Nat} {h : ZH} {Q : Option ZV → ZH → Prop} {i0 : Nat} (hi0 : i0 < zcnt 3)
  (H : ∀ h1 : ZH, h1 = zs1 h 3 i0 0 0 → ∀ h2 : ZH, h2 = zs1 h1 3 i0 4 0 → Q none h2) :
  zT G (d + 1) mX8_clear 0 [zr 3 i0] [] h Q := by
  refine zt_aload_n kX8_clear_0 rfl ?_
  refine zt_iconst (v := 0) kX8_clear_1 rfl ?_
  refine zt_put kX8_clear_2 fRX8_11 pRX8_0 rfl hi0 rfl ?_
  refine zt_heap (fun h1 eh1 => ?_)
  replace H := H h1 eh1
  refine zt_aload_n kX8_clear_5 rfl ?_
  refine zt_iconst (v := 0) kX8_clear_6 rfl ?_
  refine zt_put kX8_clear_7 fRX8_24 pRX8_4 rfl hi0 rfl ?_
  refine zt_heap (fun h2 eh2 => ?_)
  replace H := H h2 eh2
  exact zt_vret kX8_clear_10 rfl H

theorem kX8_holdKind_0 : zD cX8_holdKind 0 1 (.aload_n 0) 1 := by decide +kernel
theorem kX8_holdKind_1 : zD cX8_holdKind 1 2 (.iconst 1) 1 := by decide +kernel
theorem kX8_holdKind_2 : zD cX8_holdKind 2 5 (.putfield 11) 3 := by decide +kernel
theorem kX8_holdKind_5 : zD cX8_holdKind 5 6 (.aload_n 0) 1 := by decide +kernel
theorem kX8_holdKind_6 : zD cX8_holdKind 6 7 (.iload_n 1) 1 := by decide +kernel
theorem kX8_holdKind_7 : zD cX8_holdKind 7 10 (.putfield 15) 3 := by decide +kernel
theorem kX8_holdKind_10 : zD cX8_holdKind 10 11 (.aload_n 0) 1 := by decide +kernel
theorem kX8_holdKind_11 : zD cX8_holdKind 11 12 (.iload_n 2) 1 := by decide +kernel
theorem kX8_holdKind_12 : zD cX8_holdKind 12 15 (.putfield 18) 3 := by decide +kernel
theorem kX8_holdKind_15 : zD cX8_holdKind 15 16 (.aload_n 0) 1 := by decide +kernel
theorem kX8_holdKind_16 : zD cX8_holdKind 16 17 (.iconst 0) 1 := by decide +kernel
theorem kX8_holdKind_17 : zD cX8_holdKind 17 20 (.putfield 24) 3 := by decide +kernel
theorem kX8_holdKind_20 : zD cX8_holdKind 20 21 (.return_) 1 := by decide +kernel
set_option maxRecDepth 10000 in
theorem wX8_holdKind_0 {G : ZG} {d : Nat} {h : ZH} {Q : Option ZV → ZH → Prop} {i0 : Nat} {x1 : Int32} {x2 : Int32} (hi0 : i0 < zcnt 3)
  (H : ∀ h1 : ZH, h1 = zs1 h 3 i0 0 1 → ∀ h2 : ZH, h2 = zs1 h1 3 i0 1 x1 → ∀ h3 : ZH, h3 = zs1 h2 3 i0 2 x2 → ∀ h4 : ZH, h4 = zs1 h3 3 i0 4 0 → Q none h4) :
  zT G (d + 1) mX8_holdKind 0 [zr 3 i0, zi x1, zi x2] [] h Q := by
  refine zt_aload_n kX8_holdKind_0 rfl ?_
  refine zt_iconst (v := 1) kX8_holdKind_1 rfl ?_
  refine zt_put kX8_holdKind_2 fRX8_11 pRX8_0 rfl hi0 rfl ?_
  refine zt_heap (fun h1 eh1 => ?_)
  replace H := H h1 eh1
  refine zt_aload_n kX8_holdKind_5 rfl ?_
  refine zt_iload_n kX8_holdKind_6 rfl ?_
  refine zt_put kX8_holdKind_7 fRX8_15 pRX8_1 rfl hi0 rfl ?_
  refine zt_heap (fun h2 eh2 => ?_)
  replace H := H h2 eh2
  refine zt_aload_n kX8_holdKind_10 rfl ?_
  refine zt_iload_n kX8_holdKind_11 rfl ?_
  refine zt_put kX8_holdKind_12 fRX8_18 pRX8_2 rfl hi0 rfl ?_
  refine zt_heap (fun h3 eh3 => ?_)
  replace H := H h3 eh3
  refine zt_aload_n kX8_holdKind_15 rfl ?_
  refine zt_iconst (v := 0) kX8_holdKind_16 rfl ?_
  refine zt_put kX8_holdKind_17 fRX8_24 pRX8_4 rfl hi0 rfl ?_
  refine zt_heap (fun h4 eh4 => ?_)
  replace H := H h4 eh4
  exact zt_vret kX8_holdKind_20 rfl H

theorem kX8_isEmpty_0 : zD cX8_isEmpty 0 1 (.aload_n 0) 1 := by decide +kernel
theorem kX8_isEmpty_1 : zD cX8_isEmpty 1 4 (.getfield 11) 3 := by decide +kernel
theorem kX8_isEmpty_4 : zB cX8_isEmpty 4 7 11 (.ifCond .ne 7) 7 := by decide +kernel
theorem kX8_isEmpty_7 : zD cX8_isEmpty 7 8 (.iconst 1) 1 := by decide +kernel
theorem kX8_isEmpty_8 : zB cX8_isEmpty 8 11 12 (.goto 4) 4 := by decide +kernel
theorem kX8_isEmpty_11 : zD cX8_isEmpty 11 12 (.iconst 0) 1 := by decide +kernel
theorem kX8_isEmpty_12 : zD cX8_isEmpty 12 13 (.ireturn) 1 := by decide +kernel
set_option maxRecDepth 10000 in
theorem wX8_isEmpty_0 {G : ZG} {d : Nat} {h : ZH} {Q : Option ZV → ZH → Prop} {i0 : Nat} (hi0 : i0 < zcnt 3)
  (H : (¬ (h.1 3 i0 0) = 0 → Q (some (zi 0)) h) ∧ ((h.1 3 i0 0) = 0 → Q (some (zi 1)) h)) :
  zT G (d + 1) mX8_isEmpty 0 [zr 3 i0] [] h Q := by
  refine zt_aload_n kX8_isEmpty_0 rfl ?_
  refine zt_get (v := zi (h.1 3 i0 0)) kX8_isEmpty_1 fRX8_11 rfl hi0 rfl ?_
  refine zt_if_ne kX8_isEmpty_4 (fun c => ?_) (fun c => ?_)
  · replace H := H.1 c
    refine zt_iconst (v := 0) kX8_isEmpty_11 rfl ?_
    exact zt_zret kX8_isEmpty_12 rfl (by decide) H
  · replace H := H.2 c
    refine zt_iconst (v := 1) kX8_isEmpty_7 rfl ?_
    refine zt_goto kX8_isEmpty_8 ?_
    exact zt_zret kX8_isEmpty_12 rfl (by decide) H

theorem kX8_isRow_0 : zD cX8_isRow 0 1 (.aload_n 0) 1 := by decide +kernel
theorem kX8_isRow_1 : zD cX8_isRow 1 4 (.getfield 11) 3 := by decide +kernel
theorem kX8_isRow_4 : zD cX8_isRow 4 5 (.iconst 2) 1 := by decide +kernel
theorem kX8_isRow_5 : zB cX8_isRow 5 8 12 (.if_icmp .ne 7) 7 := by decide +kernel
theorem kX8_isRow_8 : zD cX8_isRow 8 9 (.iconst 1) 1 := by decide +kernel
theorem kX8_isRow_9 : zB cX8_isRow 9 12 13 (.goto 4) 4 := by decide +kernel
theorem kX8_isRow_12 : zD cX8_isRow 12 13 (.iconst 0) 1 := by decide +kernel
theorem kX8_isRow_13 : zD cX8_isRow 13 14 (.ireturn) 1 := by decide +kernel
set_option maxRecDepth 10000 in
theorem wX8_isRow_0 {G : ZG} {d : Nat} {h : ZH} {Q : Option ZV → ZH → Prop} {i0 : Nat} (hi0 : i0 < zcnt 3)
  (H : (¬ (h.1 3 i0 0) = 2 → Q (some (zi 0)) h) ∧ ((h.1 3 i0 0) = 2 → Q (some (zi 1)) h)) :
  zT G (d + 1) mX8_isRow 0 [zr 3 i0] [] h Q := by
  refine zt_aload_n kX8_isRow_0 rfl ?_
  refine zt_get (v := zi (h.1 3 i0 0)) kX8_isRow_1 fRX8_11 rfl hi0 rfl ?_
  refine zt_iconst (v := 2) kX8_isRow_4 rfl ?_
  refine zt_icmp_ne kX8_isRow_5 (fun c => ?_) (fun c => ?_)
  · replace H := H.1 c
    refine zt_iconst (v := 0) kX8_isRow_12 rfl ?_
    exact zt_zret kX8_isRow_13 rfl (by decide) H
  · replace H := H.2 c
    refine zt_iconst (v := 1) kX8_isRow_8 rfl ?_
    refine zt_goto kX8_isRow_9 ?_
    exact zt_zret kX8_isRow_13 rfl (by decide) H

theorem kX8_hasPlace_0 : zD cX8_hasPlace 0 1 (.iload_n 1) 1 := by decide +kernel
theorem kX8_hasPlace_1 : zB cX8_hasPlace 1 4 16 (.ifCond .lt 15) 15 := by decide +kernel
theorem kX8_hasPlace_4 : zD cX8_hasPlace 4 5 (.iload_n 1) 1 := by decide +kernel
theorem kX8_hasPlace_5 : zD cX8_hasPlace 5 6 (.aload_n 0) 1 := by decide +kernel
theorem kX8_hasPlace_6 : zD cX8_hasPlace 6 9 (.getfield 24) 3 := by decide +kernel
theorem kX8_hasPlace_9 : zB cX8_hasPlace 9 12 16 (.if_icmp .ge 7) 7 := by decide +kernel
theorem kX8_hasPlace_12 : zD cX8_hasPlace 12 13 (.iconst 1) 1 := by decide +kernel
theorem kX8_hasPlace_13 : zB cX8_hasPlace 13 16 17 (.goto 4) 4 := by decide +kernel
theorem kX8_hasPlace_16 : zD cX8_hasPlace 16 17 (.iconst 0) 1 := by decide +kernel
theorem kX8_hasPlace_17 : zD cX8_hasPlace 17 18 (.ireturn) 1 := by decide +kernel
set_option maxRecDepth 10000 in
theorem wX8_hasPlace_0 {G : ZG} {d : Nat} {h : ZH} {Q : Option ZV → ZH → Prop} {i0 : Nat} {x1 : Int32} (hi0 : i0 < zcnt 3)
  (H : (x1 < 0 → Q (some (zi 0)) h) ∧ (¬ x1 < 0 → ((h.1 3 i0 4) ≤ x1 → Q (some (zi 0)) h) ∧ (¬ (h.1 3 i0 4) ≤ x1 → Q (some (zi 1)) h))) :
  zT G (d + 1) mX8_hasPlace 0 [zr 3 i0, zi x1] [] h Q := by
  refine zt_iload_n kX8_hasPlace_0 rfl ?_
  refine zt_if_lt kX8_hasPlace_1 (fun c => ?_) (fun c => ?_)
  · replace H := H.1 c
    refine zt_iconst (v := 0) kX8_hasPlace_16 rfl ?_
    exact zt_zret kX8_hasPlace_17 rfl (by decide) H
  · replace H := H.2 c
    refine zt_iload_n kX8_hasPlace_4 rfl ?_
    refine zt_aload_n kX8_hasPlace_5 rfl ?_
    refine zt_get (v := zi (h.1 3 i0 4)) kX8_hasPlace_6 fRX8_24 rfl hi0 rfl ?_
    refine zt_icmp_ge kX8_hasPlace_9 (fun c => ?_) (fun c => ?_)
    · replace H := H.1 c
      refine zt_iconst (v := 0) kX8_hasPlace_16 rfl ?_
      exact zt_zret kX8_hasPlace_17 rfl (by decide) H
    · replace H := H.2 c
      refine zt_iconst (v := 1) kX8_hasPlace_12 rfl ?_
      refine zt_goto kX8_hasPlace_13 ?_
      exact zt_zret kX8_hasPlace_17 rfl (by decide) H

theorem kX8_hasSpan_0 : zD cX8_hasSpan 0 1 (.iload_n 1) 1 := by decide +kernel
theorem kX8_hasSpan_1 : zB cX8_hasSpan 1 4 30 (.ifCond .lt 29) 29 := by decide +kernel
theorem kX8_hasSpan_4 : zD cX8_hasSpan 4 5 (.iload_n 2) 1 := by decide +kernel
theorem kX8_hasSpan_5 : zB cX8_hasSpan 5 8 30 (.ifCond .lt 25) 25 := by decide +kernel
theorem kX8_hasSpan_8 : zD cX8_hasSpan 8 9 (.iload_n 1) 1 := by decide +kernel
theorem kX8_hasSpan_9 : zD cX8_hasSpan 9 10 (.aload_n 0) 1 := by decide +kernel
theorem kX8_hasSpan_10 : zD cX8_hasSpan 10 13 (.getfield 24) 3 := by decide +kernel
theorem kX8_hasSpan_13 : zB cX8_hasSpan 13 16 30 (.if_icmp .gt 17) 17 := by decide +kernel
theorem kX8_hasSpan_16 : zD cX8_hasSpan 16 17 (.iload_n 2) 1 := by decide +kernel
theorem kX8_hasSpan_17 : zD cX8_hasSpan 17 18 (.aload_n 0) 1 := by decide +kernel
theorem kX8_hasSpan_18 : zD cX8_hasSpan 18 21 (.getfield 24) 3 := by decide +kernel
theorem kX8_hasSpan_21 : zD cX8_hasSpan 21 22 (.iload_n 1) 1 := by decide +kernel
theorem kX8_hasSpan_22 : zD cX8_hasSpan 22 23 (.isub) 1 := by decide +kernel
theorem kX8_hasSpan_23 : zB cX8_hasSpan 23 26 30 (.if_icmp .gt 7) 7 := by decide +kernel
theorem kX8_hasSpan_26 : zD cX8_hasSpan 26 27 (.iconst 1) 1 := by decide +kernel
theorem kX8_hasSpan_27 : zB cX8_hasSpan 27 30 31 (.goto 4) 4 := by decide +kernel
theorem kX8_hasSpan_30 : zD cX8_hasSpan 30 31 (.iconst 0) 1 := by decide +kernel
theorem kX8_hasSpan_31 : zD cX8_hasSpan 31 32 (.ireturn) 1 := by decide +kernel
set_option maxRecDepth 10000 in
theorem wX8_hasSpan_0 {G : ZG} {d : Nat} {h : ZH} {Q : Option ZV → ZH → Prop} {i0 : Nat} {x1 : Int32} {x2 : Int32} (hi0 : i0 < zcnt 3)
  (H : (x1 < 0 → Q (some (zi 0)) h) ∧ (¬ x1 < 0 → (x2 < 0 → Q (some (zi 0)) h) ∧ (¬ x2 < 0 → ((h.1 3 i0 4) < x1 → Q (some (zi 0)) h) ∧ (¬ (h.1 3 i0 4) < x1 → (((h.1 3 i0 4) - x1) < x2 → Q (some (zi 0)) h) ∧ (¬ ((h.1 3 i0 4) - x1) < x2 → Q (some (zi 1)) h))))) :
  zT G (d + 1) mX8_hasSpan 0 [zr 3 i0, zi x1, zi x2] [] h Q := by
  refine zt_iload_n kX8_hasSpan_0 rfl ?_
  refine zt_if_lt kX8_hasSpan_1 (fun c => ?_) (fun c => ?_)
  · replace H := H.1 c
    refine zt_iconst (v := 0) kX8_hasSpan_30 rfl ?_
    exact zt_zret kX8_hasSpan_31 rfl (by decide) H
  · replace H := H.2 c
    refine zt_iload_n kX8_hasSpan_4 rfl ?_
    refine zt_if_lt kX8_hasSpan_5 (fun c => ?_) (fun c => ?_)
    · replace H := H.1 c
      refine zt_iconst (v := 0) kX8_hasSpan_30 rfl ?_
      exact zt_zret kX8_hasSpan_31 rfl (by decide) H
    · replace H := H.2 c
      refine zt_iload_n kX8_hasSpan_8 rfl ?_
      refine zt_aload_n kX8_hasSpan_9 rfl ?_
      refine zt_get (v := zi (h.1 3 i0 4)) kX8_hasSpan_10 fRX8_24 rfl hi0 rfl ?_
      refine zt_icmp_gt kX8_hasSpan_13 (fun c => ?_) (fun c => ?_)
      · replace H := H.1 c
        refine zt_iconst (v := 0) kX8_hasSpan_30 rfl ?_
        exact zt_zret kX8_hasSpan_31 rfl (by decide) H
      · replace H := H.2 c
        refine zt_iload_n kX8_hasSpan_16 rfl ?_
        refine zt_aload_n kX8_hasSpan_17 rfl ?_
        refine zt_get (v := zi (h.1 3 i0 4)) kX8_hasSpan_18 fRX8_24 rfl hi0 rfl ?_
        refine zt_iload_n kX8_hasSpan_21 rfl ?_
        refine zt_isub kX8_hasSpan_22 ?_
        refine zt_icmp_gt kX8_hasSpan_23 (fun c => ?_) (fun c => ?_)
        · replace H := H.1 c
          refine zt_iconst (v := 0) kX8_hasSpan_30 rfl ?_
          exact zt_zret kX8_hasSpan_31 rfl (by decide) H
        · replace H := H.2 c
          refine zt_iconst (v := 1) kX8_hasSpan_26 rfl ?_
          refine zt_goto kX8_hasSpan_27 ?_
          exact zt_zret kX8_hasSpan_31 rfl (by decide) H

theorem kX8_write_0 : zD cX8_write 0 1 (.aload_n 0) 1 := by decide +kernel
theorem kX8_write_1 : zD cX8_write 1 4 (.getfield 21) 3 := by decide +kernel
theorem kX8_write_4 : zB cX8_write 4 7 18 (.ifCond .ne 14) 14 := by decide +kernel
theorem kX8_write_7 : zD cX8_write 7 8 (.aload_n 0) 1 := by decide +kernel
theorem kX8_write_8 : zD cX8_write 8 11 (.getfield 27) 3 := by decide +kernel
theorem kX8_write_11 : zD cX8_write 11 12 (.iload_n 1) 1 := by decide +kernel
theorem kX8_write_12 : zD cX8_write 12 13 (.iload_n 2) 1 := by decide +kernel
theorem kX8_write_13 : zD cX8_write 13 14 (.i2b) 1 := by decide +kernel
theorem kX8_write_14 : zD cX8_write 14 15 (.iastore) 1 := by decide +kernel
theorem kX8_write_15 : zB cX8_write 15 18 44 (.goto 29) 29 := by decide +kernel
theorem kX8_write_18 : zD cX8_write 18 19 (.aload_n 0) 1 := by decide +kernel
theorem kX8_write_19 : zD cX8_write 19 22 (.getfield 21) 3 := by decide +kernel
theorem kX8_write_22 : zD cX8_write 22 23 (.iconst 1) 1 := by decide +kernel
theorem kX8_write_23 : zB cX8_write 23 26 37 (.if_icmp .ne 14) 14 := by decide +kernel
theorem kX8_write_26 : zD cX8_write 26 27 (.aload_n 0) 1 := by decide +kernel
theorem kX8_write_27 : zD cX8_write 27 30 (.getfield 27) 3 := by decide +kernel
theorem kX8_write_30 : zD cX8_write 30 31 (.iload_n 1) 1 := by decide +kernel
theorem kX8_write_31 : zD cX8_write 31 32 (.iload_n 2) 1 := by decide +kernel
theorem kX8_write_32 : zD cX8_write 32 33 (.i2s) 1 := by decide +kernel
theorem kX8_write_33 : zD cX8_write 33 34 (.iastore) 1 := by decide +kernel
theorem kX8_write_34 : zB cX8_write 34 37 44 (.goto 10) 10 := by decide +kernel
theorem kX8_write_37 : zD cX8_write 37 38 (.aload_n 0) 1 := by decide +kernel
theorem kX8_write_38 : zD cX8_write 38 41 (.getfield 27) 3 := by decide +kernel
theorem kX8_write_41 : zD cX8_write 41 42 (.iload_n 1) 1 := by decide +kernel
theorem kX8_write_42 : zD cX8_write 42 43 (.iload_n 2) 1 := by decide +kernel
theorem kX8_write_43 : zD cX8_write 43 44 (.iastore) 1 := by decide +kernel
theorem kX8_write_44 : zD cX8_write 44 45 (.return_) 1 := by decide +kernel
set_option maxRecDepth 10000 in
theorem wX8_write_0 {G : ZG} {d : Nat} {h : ZH} {Q : Option ZV → ZH → Prop} {i0 : Nat} {x1 : Int32} {x2 : Int32} (hi0 : i0 < zcnt 3)
  (H : (¬ (h.1 3 i0 3) = 0 → (¬ (h.1 3 i0 3) = 1 → vp_in x1 100 ∧ (∀ h1 : ZH, h1 = zs1 h 16 i0 x1.toNatClampNeg x2 → Q none h1)) ∧ ((h.1 3 i0 3) = 1 → vp_in x1 100 ∧ (∀ h2 : ZH, h2 = zs1 h 16 i0 x1.toNatClampNeg (x2).toInt16.toInt32 → Q none h2))) ∧ ((h.1 3 i0 3) = 0 → vp_in x1 100 ∧ (∀ h3 : ZH, h3 = zs1 h 16 i0 x1.toNatClampNeg (x2).toInt8.toInt32 → Q none h3))) :
  zT G (d + 1) mX8_write 0 [zr 3 i0, zi x1, zi x2] [] h Q := by
  refine zt_aload_n kX8_write_0 rfl ?_
  refine zt_get (v := zi (h.1 3 i0 3)) kX8_write_1 fRX8_21 rfl hi0 rfl ?_
  refine zt_if_ne kX8_write_4 (fun c => ?_) (fun c => ?_)
  · replace H := H.1 c
    refine zt_aload_n kX8_write_18 rfl ?_
    refine zt_get (v := zi (h.1 3 i0 3)) kX8_write_19 fRX8_21 rfl hi0 rfl ?_
    refine zt_iconst (v := 1) kX8_write_22 rfl ?_
    refine zt_icmp_ne kX8_write_23 (fun c => ?_) (fun c => ?_)
    · replace H := H.1 c
      refine zt_aload_n kX8_write_37 rfl ?_
      refine zt_get (v := zr 16 i0) kX8_write_38 fRX8_27 rfl hi0 rfl ?_
      refine zt_iload_n kX8_write_41 rfl ?_
      refine zt_iload_n kX8_write_42 rfl ?_
      obtain ⟨hv, H⟩ := H
      refine zt_iast kX8_write_43 rfl hi0 hv ?_
      refine zt_heap (fun h1 eh1 => ?_)
      replace H := H h1 eh1
      exact zt_vret kX8_write_44 rfl H
    · replace H := H.2 c
      refine zt_aload_n kX8_write_26 rfl ?_
      refine zt_get (v := zr 16 i0) kX8_write_27 fRX8_27 rfl hi0 rfl ?_
      refine zt_iload_n kX8_write_30 rfl ?_
      refine zt_iload_n kX8_write_31 rfl ?_
      refine zt_i2s kX8_write_32 ?_
      obtain ⟨hv, H⟩ := H
      refine zt_iast kX8_write_33 rfl hi0 hv ?_
      refine zt_heap (fun h2 eh2 => ?_)
      replace H := H h2 eh2
      refine zt_goto kX8_write_34 ?_
      exact zt_vret kX8_write_44 rfl H
  · replace H := H.2 c
    refine zt_aload_n kX8_write_7 rfl ?_
    refine zt_get (v := zr 16 i0) kX8_write_8 fRX8_27 rfl hi0 rfl ?_
    refine zt_iload_n kX8_write_11 rfl ?_
    refine zt_iload_n kX8_write_12 rfl ?_
    refine zt_i2b kX8_write_13 ?_
    obtain ⟨hv, H⟩ := H
    refine zt_iast kX8_write_14 rfl hi0 hv ?_
    refine zt_heap (fun h3 eh3 => ?_)
    replace H := H h3 eh3
    refine zt_goto kX8_write_15 ?_
    exact zt_vret kX8_write_44 rfl H

theorem kX3_drawn_0 : zD cX3_drawn 0 1 (.iload_n 0) 1 := by decide +kernel
theorem kX3_drawn_1 : zD cX3_drawn 1 3 (.ldc 154) 2 := by decide +kernel
theorem kX3_drawn_3 : zD cX3_drawn 3 4 (.imul) 1 := by decide +kernel
theorem kX3_drawn_4 : zD cX3_drawn 4 7 (.sipush 12345) 3 := by decide +kernel
theorem kX3_drawn_7 : zD cX3_drawn 7 8 (.iadd) 1 := by decide +kernel
theorem kX3_drawn_8 : zD cX3_drawn 8 9 (.ireturn) 1 := by decide +kernel
set_option maxRecDepth 10000 in
theorem wX3_drawn_0 {G : ZG} {d : Nat} {h : ZH} {Q : Option ZV → ZH → Prop} {x0 : Int32} 
  (H : Q (some (zi ((x0 * 1103515245) + 12345))) h) :
  zT G (d + 1) mX3_drawn 0 [zi x0] [] h Q := by
  refine zt_iload_n kX3_drawn_0 rfl ?_
  refine zt_ldc (v := 1103515245) kX3_drawn_1 wm_716 ?_
  refine zt_imul kX3_drawn_3 ?_
  refine zt_sipush (v := 12345) kX3_drawn_4 rfl ?_
  refine zt_iadd kX3_drawn_7 ?_
  exact zt_iret kX3_drawn_8 rfl H

theorem kX3_placeOf_0 : zD cX3_placeOf 0 1 (.iload_n 0) 1 := by decide +kernel
theorem kX3_placeOf_1 : zD cX3_placeOf 1 3 (.ldc 155) 2 := by decide +kernel
theorem kX3_placeOf_3 : zD cX3_placeOf 3 4 (.iand) 1 := by decide +kernel
theorem kX3_placeOf_4 : zD cX3_placeOf 4 6 (.ldc 156) 2 := by decide +kernel
theorem kX3_placeOf_6 : zD cX3_placeOf 6 7 (.idiv) 1 := by decide +kernel
theorem kX3_placeOf_7 : zD cX3_placeOf 7 9 (.bipush 12) 2 := by decide +kernel
theorem kX3_placeOf_9 : zD cX3_placeOf 9 10 (.irem) 1 := by decide +kernel
theorem kX3_placeOf_10 : zD cX3_placeOf 10 11 (.ireturn) 1 := by decide +kernel
set_option maxRecDepth 10000 in
theorem wX3_placeOf_0 {G : ZG} {d : Nat} {h : ZH} {Q : Option ZV → ZH → Prop} {x0 : Int32} 
  (H : Q (some (zi (((x0 &&& 2147483647) / 65536) - ((x0 &&& 2147483647) / 65536) / 12 * 12))) h) :
  zT G (d + 1) mX3_placeOf 0 [zi x0] [] h Q := by
  refine zt_iload_n kX3_placeOf_0 rfl ?_
  refine zt_ldc (v := 2147483647) kX3_placeOf_1 wm_720 ?_
  refine zt_iand kX3_placeOf_3 ?_
  refine zt_ldc (v := 65536) kX3_placeOf_4 wm_721 ?_
  refine zt_idiv kX3_placeOf_6 (by decide) ?_
  refine zt_bipush (v := 12) kX3_placeOf_7 rfl ?_
  refine zt_irem kX3_placeOf_9 (by decide) ?_
  exact zt_iret kX3_placeOf_10 rfl H

theorem kX12_drawn_0 : zD cX12_drawn 0 1 (.aload_n 0) 1 := by decide +kernel
theorem kX12_drawn_1 : zD cX12_drawn 1 2 (.aload_n 0) 1 := by decide +kernel
theorem kX12_drawn_2 : zD cX12_drawn 2 5 (.getfield 225) 3 := by decide +kernel
theorem kX12_drawn_5 : zD cX12_drawn 5 7 (.ldc 228) 2 := by decide +kernel
theorem kX12_drawn_7 : zD cX12_drawn 7 8 (.imul) 1 := by decide +kernel
theorem kX12_drawn_8 : zD cX12_drawn 8 11 (.sipush 12345) 3 := by decide +kernel
theorem kX12_drawn_11 : zD cX12_drawn 11 12 (.iadd) 1 := by decide +kernel
theorem kX12_drawn_12 : zD cX12_drawn 12 15 (.putfield 225) 3 := by decide +kernel
theorem kX12_drawn_15 : zD cX12_drawn 15 16 (.aload_n 0) 1 := by decide +kernel
theorem kX12_drawn_16 : zD cX12_drawn 16 19 (.getfield 225) 3 := by decide +kernel
theorem kX12_drawn_19 : zD cX12_drawn 19 21 (.ldc 229) 2 := by decide +kernel
theorem kX12_drawn_21 : zD cX12_drawn 21 22 (.iand) 1 := by decide +kernel
theorem kX12_drawn_22 : zD cX12_drawn 22 24 (.ldc 230) 2 := by decide +kernel
theorem kX12_drawn_24 : zD cX12_drawn 24 25 (.idiv) 1 := by decide +kernel
theorem kX12_drawn_25 : zD cX12_drawn 25 26 (.iload_n 1) 1 := by decide +kernel
theorem kX12_drawn_26 : zD cX12_drawn 26 27 (.irem) 1 := by decide +kernel
theorem kX12_drawn_27 : zD cX12_drawn 27 28 (.ireturn) 1 := by decide +kernel
set_option maxRecDepth 10000 in
theorem wX12_drawn_0 {G : ZG} {d : Nat} {h : ZH} {Q : Option ZV → ZH → Prop} {x1 : Int32} 
  (H : ∀ h1 : ZH, h1 = zs1 h 5 0 14 (((h.1 5 0 14) * 1103515245) + 12345) → (¬ x1 = 0) ∧ Q (some (zi ((((h1.1 5 0 14) &&& 2147483647) / 65536) - (((h1.1 5 0 14) &&& 2147483647) / 65536) / x1 * x1))) h1) :
  zT G (d + 1) mX12_drawn 0 [zr 5 0, zi x1] [] h Q := by
  refine zt_aload_n kX12_drawn_0 rfl ?_
  refine zt_aload_n kX12_drawn_1 rfl ?_
  refine zt_get (v := zi (h.1 5 0 14)) kX12_drawn_2 fRX12_225 rfl (by decide) rfl ?_
  refine zt_ldc (v := 1103515245) kX12_drawn_5 wm_1351 ?_
  refine zt_imul kX12_drawn_7 ?_
  refine zt_sipush (v := 12345) kX12_drawn_8 rfl ?_
  refine zt_iadd kX12_drawn_11 ?_
  refine zt_put kX12_drawn_12 fRX12_225 pRX12_14 rfl (by decide) rfl ?_
  refine zt_heap (fun h1 eh1 => ?_)
  replace H := H h1 eh1
  refine zt_aload_n kX12_drawn_15 rfl ?_
  refine zt_get (v := zi (h1.1 5 0 14)) kX12_drawn_16 fRX12_225 rfl (by decide) rfl ?_
  refine zt_ldc (v := 2147483647) kX12_drawn_19 wm_1352 ?_
  refine zt_iand kX12_drawn_21 ?_
  refine zt_ldc (v := 65536) kX12_drawn_22 wm_1353 ?_
  refine zt_idiv kX12_drawn_24 (by decide) ?_
  refine zt_iload_n kX12_drawn_25 rfl ?_
  obtain ⟨hne, H⟩ := H
  refine zt_irem kX12_drawn_26 hne ?_
  exact zt_iret kX12_drawn_27 rfl H

theorem kX12_costBy_0 : zD cX12_costBy 0 1 (.iload_n 0) 1 := by decide +kernel
theorem kX12_costBy_1 : decode cX12_costBy 1 = .ok (.tableswitch 61 1 7 #[43, 47, 49, 51, 55, 61, 49], 43) := by decide +kernel
theorem kX12_costBy_44 : zD cX12_costBy 44 45 (.iconst 2) 1 := by decide +kernel
theorem kX12_costBy_45 : zD cX12_costBy 45 46 (.iload_n 1) 1 := by decide +kernel
theorem kX12_costBy_46 : zD cX12_costBy 46 47 (.iadd) 1 := by decide +kernel
theorem kX12_costBy_47 : zD cX12_costBy 47 48 (.ireturn) 1 := by decide +kernel
theorem kX12_costBy_48 : zD cX12_costBy 48 49 (.iconst 5) 1 := by decide +kernel
theorem kX12_costBy_49 : zD cX12_costBy 49 50 (.ireturn) 1 := by decide +kernel
theorem kX12_costBy_50 : zD cX12_costBy 50 51 (.iconst 1) 1 := by decide +kernel
theorem kX12_costBy_51 : zD cX12_costBy 51 52 (.ireturn) 1 := by decide +kernel
theorem kX12_costBy_52 : zD cX12_costBy 52 53 (.iconst 5) 1 := by decide +kernel
theorem kX12_costBy_53 : zD cX12_costBy 53 54 (.iload_n 1) 1 := by decide +kernel
theorem kX12_costBy_54 : zD cX12_costBy 54 55 (.iadd) 1 := by decide +kernel
theorem kX12_costBy_55 : zD cX12_costBy 55 56 (.ireturn) 1 := by decide +kernel
theorem kX12_costBy_56 : zD cX12_costBy 56 57 (.iconst 4) 1 := by decide +kernel
theorem kX12_costBy_57 : zD cX12_costBy 57 58 (.iconst 2) 1 := by decide +kernel
theorem kX12_costBy_58 : zD cX12_costBy 58 59 (.iload_n 1) 1 := by decide +kernel
theorem kX12_costBy_59 : zD cX12_costBy 59 60 (.imul) 1 := by decide +kernel
theorem kX12_costBy_60 : zD cX12_costBy 60 61 (.iadd) 1 := by decide +kernel
theorem kX12_costBy_61 : zD cX12_costBy 61 62 (.ireturn) 1 := by decide +kernel
theorem kX12_costBy_62 : zD cX12_costBy 62 63 (.iconst 2) 1 := by decide +kernel
theorem kX12_costBy_63 : zD cX12_costBy 63 64 (.ireturn) 1 := by decide +kernel
set_option maxRecDepth 10000 in
theorem wX12_costBy_0 {G : ZG} {d : Nat} {h : ZH} {Q : Option ZV → ZH → Prop} {x0 : Int32} {x1 : Int32} 
  (H : (x0 = 1 → Q (some (zi (2 + x1))) h) ∧ (¬ x0 = 1 → (x0 = 2 → Q (some (zi 5)) h) ∧ (¬ x0 = 2 → (x0 = 3 → Q (some (zi 1)) h) ∧ (¬ x0 = 3 → (x0 = 4 → Q (some (zi (5 + x1))) h) ∧ (¬ x0 = 4 → (x0 = 5 → Q (some (zi (4 + (2 * x1)))) h) ∧ (¬ x0 = 5 → (x0 = 6 → Q (some (zi 2)) h) ∧ (¬ x0 = 6 → (x0 = 7 → Q (some (zi 1)) h) ∧ (¬ x0 = 7 → Q (some (zi 2)) h)))))))) :
  zT G (d + 1) mX12_costBy 0 [zi x0, zi x1] [] h Q := by
  refine zt_iload_n kX12_costBy_0 rfl ?_
  rcases Classical.em (x0 = 1) with c0 | c0
  · replace H := H.1 c0
    refine zt_tabIn (tgt := 44) kX12_costBy_1 (by rw [c0]; decide) (by rw [c0]; decide) (by rw [c0]; rfl) (by decide) ?_
    refine zt_iconst (v := 2) kX12_costBy_44 rfl ?_
    refine zt_iload_n kX12_costBy_45 rfl ?_
    refine zt_iadd kX12_costBy_46 ?_
    exact zt_iret kX12_costBy_47 rfl H
  replace H := H.2 c0
  rcases Classical.em (x0 = 2) with c1 | c1
  · replace H := H.1 c1
    refine zt_tabIn (tgt := 48) kX12_costBy_1 (by rw [c1]; decide) (by rw [c1]; decide) (by rw [c1]; rfl) (by decide) ?_
    refine zt_iconst (v := 5) kX12_costBy_48 rfl ?_
    exact zt_iret kX12_costBy_49 rfl H
  replace H := H.2 c1
  rcases Classical.em (x0 = 3) with c2 | c2
  · replace H := H.1 c2
    refine zt_tabIn (tgt := 50) kX12_costBy_1 (by rw [c2]; decide) (by rw [c2]; decide) (by rw [c2]; rfl) (by decide) ?_
    refine zt_iconst (v := 1) kX12_costBy_50 rfl ?_
    exact zt_iret kX12_costBy_51 rfl H
  replace H := H.2 c2
  rcases Classical.em (x0 = 4) with c3 | c3
  · replace H := H.1 c3
    refine zt_tabIn (tgt := 52) kX12_costBy_1 (by rw [c3]; decide) (by rw [c3]; decide) (by rw [c3]; rfl) (by decide) ?_
    refine zt_iconst (v := 5) kX12_costBy_52 rfl ?_
    refine zt_iload_n kX12_costBy_53 rfl ?_
    refine zt_iadd kX12_costBy_54 ?_
    exact zt_iret kX12_costBy_55 rfl H
  replace H := H.2 c3
  rcases Classical.em (x0 = 5) with c4 | c4
  · replace H := H.1 c4
    refine zt_tabIn (tgt := 56) kX12_costBy_1 (by rw [c4]; decide) (by rw [c4]; decide) (by rw [c4]; rfl) (by decide) ?_
    refine zt_iconst (v := 4) kX12_costBy_56 rfl ?_
    refine zt_iconst (v := 2) kX12_costBy_57 rfl ?_
    refine zt_iload_n kX12_costBy_58 rfl ?_
    refine zt_imul kX12_costBy_59 ?_
    refine zt_iadd kX12_costBy_60 ?_
    exact zt_iret kX12_costBy_61 rfl H
  replace H := H.2 c4
  rcases Classical.em (x0 = 6) with c5 | c5
  · replace H := H.1 c5
    refine zt_tabIn (tgt := 62) kX12_costBy_1 (by rw [c5]; decide) (by rw [c5]; decide) (by rw [c5]; rfl) (by decide) ?_
    refine zt_iconst (v := 2) kX12_costBy_62 rfl ?_
    exact zt_iret kX12_costBy_63 rfl H
  replace H := H.2 c5
  rcases Classical.em (x0 = 7) with c6 | c6
  · replace H := H.1 c6
    refine zt_tabIn (tgt := 50) kX12_costBy_1 (by rw [c6]; decide) (by rw [c6]; decide) (by rw [c6]; rfl) (by decide) ?_
    refine zt_iconst (v := 1) kX12_costBy_50 rfl ?_
    exact zt_iret kX12_costBy_51 rfl H
  replace H := H.2 c6
  refine zt_tabOut (tgt := 62) kX12_costBy_1 (by have n0 := lv_neT (a := 1) c0 rfl; have n1 := lv_neT (a := 2) c1 rfl; have n2 := lv_neT (a := 3) c2 rfl; have n3 := lv_neT (a := 4) c3 rfl; have n4 := lv_neT (a := 5) c4 rfl; have n5 := lv_neT (a := 6) c5 rfl; have n6 := lv_neT (a := 7) c6 rfl; omega) (by decide) ?_
  refine zt_iconst (v := 2) kX12_costBy_62 rfl ?_
  exact zt_iret kX12_costBy_63 rfl H

theorem kX12_thrown_0 : zD cX12_thrown 0 1 (.aload_n 0) 1 := by decide +kernel
theorem kX12_thrown_1 : zD cX12_thrown 1 4 (.getfield 238) 3 := by decide +kernel
theorem kX12_thrown_4 : zD cX12_thrown 4 5 (.ireturn) 1 := by decide +kernel
set_option maxRecDepth 10000 in
theorem wX12_thrown_0 {G : ZG} {d : Nat} {h : ZH} {Q : Option ZV → ZH → Prop}  
  (H : Q (some (zi (h.1 5 0 23))) h) :
  zT G (d + 1) mX12_thrown 0 [zr 5 0] [] h Q := by
  refine zt_aload_n kX12_thrown_0 rfl ?_
  refine zt_get (v := zi (h.1 5 0 23)) kX12_thrown_1 fRX12_238 rfl (by decide) rfl ?_
  exact zt_iret kX12_thrown_4 rfl H

theorem kX12_kind_0 : zD cX12_kind 0 1 (.aload_n 0) 1 := by decide +kernel
theorem kX12_kind_1 : zD cX12_kind 1 4 (.getfield 9) 3 := by decide +kernel
theorem kX12_kind_4 : zD cX12_kind 4 5 (.iconst 2) 1 := by decide +kernel
theorem kX12_kind_5 : zD cX12_kind 5 6 (.iconst 2) 1 := by decide +kernel
theorem kX12_kind_6 : zD cX12_kind 6 7 (.iload_n 1) 1 := by decide +kernel
theorem kX12_kind_7 : zD cX12_kind 7 8 (.imul) 1 := by decide +kernel
theorem kX12_kind_8 : zD cX12_kind 8 9 (.iadd) 1 := by decide +kernel
theorem kX12_kind_9 : zD cX12_kind 9 10 (.iaload) 1 := by decide +kernel
theorem kX12_kind_10 : zD cX12_kind 10 11 (.ireturn) 1 := by decide +kernel
set_option maxRecDepth 10000 in
theorem wX12_kind_0 {G : ZG} {d : Nat} {h : ZH} {Q : Option ZV → ZH → Prop} {x1 : Int32} 
  (H : vp_in (2 + (2 * x1)) 26 ∧ Q (some (zi (h.1 30 0 (2 + (2 * x1)).toNatClampNeg))) h) :
  zT G (d + 1) mX12_kind 0 [zr 5 0, zi x1] [] h Q := by
  refine zt_aload_n kX12_kind_0 rfl ?_
  refine zt_get (v := zr 30 0) kX12_kind_1 fRX12_9 rfl (by decide) rfl ?_
  refine zt_iconst (v := 2) kX12_kind_4 rfl ?_
  refine zt_iconst (v := 2) kX12_kind_5 rfl ?_
  refine zt_iload_n kX12_kind_6 rfl ?_
  refine zt_imul kX12_kind_7 ?_
  refine zt_iadd kX12_kind_8 ?_
  obtain ⟨hv, H⟩ := H
  refine zt_iald kX12_kind_9 rfl (by decide) hv ?_
  exact zt_iret kX12_kind_10 rfl H

theorem kX12_figure_0 : zD cX12_figure 0 1 (.aload_n 0) 1 := by decide +kernel
theorem kX12_figure_1 : zD cX12_figure 1 4 (.getfield 9) 3 := by decide +kernel
theorem kX12_figure_4 : zD cX12_figure 4 5 (.iconst 2) 1 := by decide +kernel
theorem kX12_figure_5 : zD cX12_figure 5 6 (.iconst 2) 1 := by decide +kernel
theorem kX12_figure_6 : zD cX12_figure 6 7 (.iload_n 1) 1 := by decide +kernel
theorem kX12_figure_7 : zD cX12_figure 7 8 (.imul) 1 := by decide +kernel
theorem kX12_figure_8 : zD cX12_figure 8 9 (.iadd) 1 := by decide +kernel
theorem kX12_figure_9 : zD cX12_figure 9 10 (.iconst 1) 1 := by decide +kernel
theorem kX12_figure_10 : zD cX12_figure 10 11 (.iadd) 1 := by decide +kernel
theorem kX12_figure_11 : zD cX12_figure 11 12 (.iaload) 1 := by decide +kernel
theorem kX12_figure_12 : zD cX12_figure 12 13 (.ireturn) 1 := by decide +kernel
set_option maxRecDepth 10000 in
theorem wX12_figure_0 {G : ZG} {d : Nat} {h : ZH} {Q : Option ZV → ZH → Prop} {x1 : Int32} 
  (H : vp_in ((2 + (2 * x1)) + 1) 26 ∧ Q (some (zi (h.1 30 0 ((2 + (2 * x1)) + 1).toNatClampNeg))) h) :
  zT G (d + 1) mX12_figure 0 [zr 5 0, zi x1] [] h Q := by
  refine zt_aload_n kX12_figure_0 rfl ?_
  refine zt_get (v := zr 30 0) kX12_figure_1 fRX12_9 rfl (by decide) rfl ?_
  refine zt_iconst (v := 2) kX12_figure_4 rfl ?_
  refine zt_iconst (v := 2) kX12_figure_5 rfl ?_
  refine zt_iload_n kX12_figure_6 rfl ?_
  refine zt_imul kX12_figure_7 ?_
  refine zt_iadd kX12_figure_8 ?_
  refine zt_iconst (v := 1) kX12_figure_9 rfl ?_
  refine zt_iadd kX12_figure_10 ?_
  obtain ⟨hv, H⟩ := H
  refine zt_iald kX12_figure_11 rfl (by decide) hv ?_
  exact zt_iret kX12_figure_12 rfl H

theorem kX4_noteAt_0 : zD cX4_noteAt 0 2 (.bipush 7) 2 := by decide +kernel
theorem kX4_noteAt_2 : zD cX4_noteAt 2 3 (.aload_n 0) 1 := by decide +kernel
theorem kX4_noteAt_3 : zD cX4_noteAt 3 6 (.getfield 18) 3 := by decide +kernel
theorem kX4_noteAt_6 : zD cX4_noteAt 6 7 (.iload_n 1) 1 := by decide +kernel
theorem kX4_noteAt_7 : zD cX4_noteAt 7 8 (.iaload) 1 := by decide +kernel
theorem kX4_noteAt_8 : zD cX4_noteAt 8 9 (.imul) 1 := by decide +kernel
theorem kX4_noteAt_9 : zD cX4_noteAt 9 10 (.iconst 3) 1 := by decide +kernel
theorem kX4_noteAt_10 : zD cX4_noteAt 10 11 (.aload_n 0) 1 := by decide +kernel
theorem kX4_noteAt_11 : zD cX4_noteAt 11 14 (.getfield 27) 3 := by decide +kernel
theorem kX4_noteAt_14 : zD cX4_noteAt 14 15 (.iload_n 1) 1 := by decide +kernel
theorem kX4_noteAt_15 : zD cX4_noteAt 15 16 (.iaload) 1 := by decide +kernel
theorem kX4_noteAt_16 : zD cX4_noteAt 16 17 (.imul) 1 := by decide +kernel
theorem kX4_noteAt_17 : zD cX4_noteAt 17 18 (.iadd) 1 := by decide +kernel
theorem kX4_noteAt_18 : zD cX4_noteAt 18 20 (.bipush 50) 2 := by decide +kernel
theorem kX4_noteAt_20 : zD cX4_noteAt 20 21 (.irem) 1 := by decide +kernel
theorem kX4_noteAt_21 : zD cX4_noteAt 21 22 (.ireturn) 1 := by decide +kernel
set_option maxRecDepth 10000 in
theorem wX4_noteAt_0 {G : ZG} {d : Nat} {h : ZH} {Q : Option ZV → ZH → Prop} {i0 : Nat} {x1 : Int32} (hi0 : i0 < zcnt 2)
  (H : vp_in x1 12 ∧ vp_in x1 12 ∧ Q (some (zi (((7 * (h.1 12 i0 x1.toNatClampNeg)) + (3 * (h.1 15 i0 x1.toNatClampNeg))) - ((7 * (h.1 12 i0 x1.toNatClampNeg)) + (3 * (h.1 15 i0 x1.toNatClampNeg))) / 50 * 50))) h) :
  zT G (d + 1) mX4_noteAt 0 [zr 2 i0, zi x1] [] h Q := by
  refine zt_bipush (v := 7) kX4_noteAt_0 rfl ?_
  refine zt_aload_n kX4_noteAt_2 rfl ?_
  refine zt_get (v := zr 12 i0) kX4_noteAt_3 fRX4_18 rfl hi0 rfl ?_
  refine zt_iload_n kX4_noteAt_6 rfl ?_
  obtain ⟨hv, H⟩ := H
  refine zt_iald kX4_noteAt_7 rfl hi0 hv ?_
  refine zt_imul kX4_noteAt_8 ?_
  refine zt_iconst (v := 3) kX4_noteAt_9 rfl ?_
  refine zt_aload_n kX4_noteAt_10 rfl ?_
  refine zt_get (v := zr 15 i0) kX4_noteAt_11 fRX4_27 rfl hi0 rfl ?_
  refine zt_iload_n kX4_noteAt_14 rfl ?_
  obtain ⟨hv, H⟩ := H
  refine zt_iald kX4_noteAt_15 rfl hi0 hv ?_
  refine zt_imul kX4_noteAt_16 ?_
  refine zt_iadd kX4_noteAt_17 ?_
  refine zt_bipush (v := 50) kX4_noteAt_18 rfl ?_
  refine zt_irem kX4_noteAt_20 (by decide) ?_
  exact zt_iret kX4_noteAt_21 rfl H

theorem kX10_weight_0 : zD cX10_weight 0 1 (.iconst 2) 1 := by decide +kernel
theorem kX10_weight_1 : zD cX10_weight 1 2 (.iload_n 1) 1 := by decide +kernel
theorem kX10_weight_2 : zD cX10_weight 2 3 (.iadd) 1 := by decide +kernel
theorem kX10_weight_3 : zD cX10_weight 3 4 (.ireturn) 1 := by decide +kernel
set_option maxRecDepth 10000 in
theorem wX10_weight_0 {G : ZG} {d : Nat} {h : ZH} {Q : Option ZV → ZH → Prop} {i0 : Nat} {x1 : Int32} (hi0 : i0 < zcnt 4)
  (H : Q (some (zi (2 + x1))) h) :
  zT G (d + 1) mX10_weight 0 [zr 4 i0, zi x1] [] h Q := by
  refine zt_iconst (v := 2) kX10_weight_0 rfl ?_
  refine zt_iload_n kX10_weight_1 rfl ?_
  refine zt_iadd kX10_weight_2 ?_
  exact zt_iret kX10_weight_3 rfl H

theorem kX10_bears_0 : zD cX10_bears 0 2 (.bipush 20) 2 := by decide +kernel
theorem kX10_bears_2 : zD cX10_bears 2 3 (.ireturn) 1 := by decide +kernel
set_option maxRecDepth 10000 in
theorem wX10_bears_0 {G : ZG} {d : Nat} {h : ZH} {Q : Option ZV → ZH → Prop} {i0 : Nat} {x1 : Int32} (hi0 : i0 < zcnt 4)
  (H : Q (some (zi 20)) h) :
  zT G (d + 1) mX10_bears 0 [zr 4 i0, zi x1] [] h Q := by
  refine zt_bipush (v := 20) kX10_bears_0 rfl ?_
  exact zt_iret kX10_bears_2 rfl H

theorem kX10_price_0 : zD cX10_price 0 1 (.iconst 2) 1 := by decide +kernel
theorem kX10_price_1 : zD cX10_price 1 2 (.ireturn) 1 := by decide +kernel
set_option maxRecDepth 10000 in
theorem wX10_price_0 {G : ZG} {d : Nat} {h : ZH} {Q : Option ZV → ZH → Prop} {i0 : Nat} {x1 : Int32} (hi0 : i0 < zcnt 4)
  (H : Q (some (zi 2)) h) :
  zT G (d + 1) mX10_price 0 [zr 4 i0, zi x1] [] h Q := by
  refine zt_iconst (v := 2) kX10_price_0 rfl ?_
  exact zt_iret kX10_price_1 rfl H

theorem kX10_manner_0 : zD cX10_manner 0 1 (.iconst 0) 1 := by decide +kernel
theorem kX10_manner_1 : zD cX10_manner 1 2 (.ireturn) 1 := by decide +kernel
set_option maxRecDepth 10000 in
theorem wX10_manner_0 {G : ZG} {d : Nat} {h : ZH} {Q : Option ZV → ZH → Prop} {i0 : Nat} (hi0 : i0 < zcnt 4)
  (H : Q (some (zi 0)) h) :
  zT G (d + 1) mX10_manner 0 [zr 4 i0] [] h Q := by
  refine zt_iconst (v := 0) kX10_manner_0 rfl ?_
  exact zt_iret kX10_manner_1 rfl H

theorem kX7_weight_0 : zD cX7_weight 0 1 (.iconst 1) 1 := by decide +kernel
theorem kX7_weight_1 : zD cX7_weight 1 2 (.ireturn) 1 := by decide +kernel
set_option maxRecDepth 10000 in
theorem wX7_weight_0 {G : ZG} {d : Nat} {h : ZH} {Q : Option ZV → ZH → Prop} {i0 : Nat} {x1 : Int32} (hi0 : i0 < zcnt 4)
  (H : Q (some (zi 1)) h) :
  zT G (d + 1) mX7_weight 0 [zr 4 i0, zi x1] [] h Q := by
  refine zt_iconst (v := 1) kX7_weight_0 rfl ?_
  exact zt_iret kX7_weight_1 rfl H

theorem kX7_bears_0 : zD cX7_bears 0 1 (.iconst 3) 1 := by decide +kernel
theorem kX7_bears_1 : zD cX7_bears 1 2 (.ireturn) 1 := by decide +kernel
set_option maxRecDepth 10000 in
theorem wX7_bears_0 {G : ZG} {d : Nat} {h : ZH} {Q : Option ZV → ZH → Prop} {i0 : Nat} {x1 : Int32} (hi0 : i0 < zcnt 4)
  (H : Q (some (zi 3)) h) :
  zT G (d + 1) mX7_bears 0 [zr 4 i0, zi x1] [] h Q := by
  refine zt_iconst (v := 3) kX7_bears_0 rfl ?_
  exact zt_iret kX7_bears_1 rfl H

theorem kX7_manner_0 : zD cX7_manner 0 1 (.iconst 3) 1 := by decide +kernel
theorem kX7_manner_1 : zD cX7_manner 1 2 (.ireturn) 1 := by decide +kernel
set_option maxRecDepth 10000 in
theorem wX7_manner_0 {G : ZG} {d : Nat} {h : ZH} {Q : Option ZV → ZH → Prop} {i0 : Nat} (hi0 : i0 < zcnt 4)
  (H : Q (some (zi 3)) h) :
  zT G (d + 1) mX7_manner 0 [zr 4 i0] [] h Q := by
  refine zt_iconst (v := 3) kX7_manner_0 rfl ?_
  exact zt_iret kX7_manner_1 rfl H

theorem kX6_weight_0 : zD cX6_weight 0 1 (.iconst 0) 1 := by decide +kernel
theorem kX6_weight_1 : zD cX6_weight 1 2 (.ireturn) 1 := by decide +kernel
set_option maxRecDepth 10000 in
theorem wX6_weight_0 {G : ZG} {d : Nat} {h : ZH} {Q : Option ZV → ZH → Prop} {i0 : Nat} {x1 : Int32} (hi0 : i0 < zcnt 4)
  (H : Q (some (zi 0)) h) :
  zT G (d + 1) mX6_weight 0 [zr 4 i0, zi x1] [] h Q := by
  refine zt_iconst (v := 0) kX6_weight_0 rfl ?_
  exact zt_iret kX6_weight_1 rfl H

theorem kX6_bears_0 : zD cX6_bears 0 1 (.iconst 0) 1 := by decide +kernel
theorem kX6_bears_1 : zD cX6_bears 1 2 (.ireturn) 1 := by decide +kernel
set_option maxRecDepth 10000 in
theorem wX6_bears_0 {G : ZG} {d : Nat} {h : ZH} {Q : Option ZV → ZH → Prop} {i0 : Nat} {x1 : Int32} (hi0 : i0 < zcnt 4)
  (H : Q (some (zi 0)) h) :
  zT G (d + 1) mX6_bears 0 [zr 4 i0, zi x1] [] h Q := by
  refine zt_iconst (v := 0) kX6_bears_0 rfl ?_
  exact zt_iret kX6_bears_1 rfl H

theorem kX0_manner_0 : zD cX0_manner 0 1 (.iconst 1) 1 := by decide +kernel
theorem kX0_manner_1 : zD cX0_manner 1 2 (.ireturn) 1 := by decide +kernel
set_option maxRecDepth 10000 in
theorem wX0_manner_0 {G : ZG} {d : Nat} {h : ZH} {Q : Option ZV → ZH → Prop} {i0 : Nat} (hi0 : i0 < zcnt 4)
  (H : Q (some (zi 1)) h) :
  zT G (d + 1) mX0_manner 0 [zr 4 i0] [] h Q := by
  refine zt_iconst (v := 1) kX0_manner_0 rfl ?_
  exact zt_iret kX0_manner_1 rfl H

theorem kX1_manner_0 : zD cX1_manner 0 1 (.iconst 2) 1 := by decide +kernel
theorem kX1_manner_1 : zD cX1_manner 1 2 (.ireturn) 1 := by decide +kernel
set_option maxRecDepth 10000 in
theorem wX1_manner_0 {G : ZG} {d : Nat} {h : ZH} {Q : Option ZV → ZH → Prop} {i0 : Nat} (hi0 : i0 < zcnt 4)
  (H : Q (some (zi 2)) h) :
  zT G (d + 1) mX1_manner 0 [zr 4 i0] [] h Q := by
  refine zt_iconst (v := 2) kX1_manner_0 rfl ?_
  exact zt_iret kX1_manner_1 rfl H

