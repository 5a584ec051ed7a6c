/-! ===== constructors: the stones, a hall, the foresight, a shelf (by program: ginit.py) ===== -/
theorem nt_w {G : ZG} {R : Room} {A : Nat → Prop} {Z : NZ} {K : NP} {M : ZM} {pc : Nat} {L : List (Nat × Value)} {S : List Value} {w w' : va_W} {cells slots : Nat} (h : w = w') (k : nT G R A Z K M pc L S w' cells slots) : nT G R A Z K M pc L S w cells slots := by rw [h]; exact k
abbrev mX3_init : ZM := (yX3_init, cX3_init, 1, none)
abbrev mX4_init : ZM := (yX4_init, cX4_init, 1, none)
abbrev mX8_init : ZM := (yX8_init, cX8_init, 1, none)
abbrev mX12_init : ZM := (yX12_init, cX12_init, 1, none)
theorem kX0_init_0 : zD cX0_init 0 1 (.aload_n 0) 1 := by decide +kernel
theorem kX0_init_1 : zD cX0_init 1 4 (.invokespecial 3) 3 := by decide +kernel
theorem kX0_init_4 : zD cX0_init 4 5 (.return_) 1 := by decide +kernel
theorem kX10_init_0 : zD cX10_init 0 1 (.aload_n 0) 1 := by decide +kernel
theorem kX10_init_1 : zD cX10_init 1 4 (.invokespecial 3) 3 := by decide +kernel
theorem kX10_init_4 : zD cX10_init 4 5 (.return_) 1 := by decide +kernel
theorem kX1_init_0 : zD cX1_init 0 1 (.aload_n 0) 1 := by decide +kernel
theorem kX1_init_1 : zD cX1_init 1 4 (.invokespecial 3) 3 := by decide +kernel
theorem kX1_init_4 : zD cX1_init 4 5 (.return_) 1 := by decide +kernel
theorem kX2_init_0 : zD cX2_init 0 1 (.aload_n 0) 1 := by decide +kernel
theorem kX2_init_1 : zD cX2_init 1 4 (.invokespecial 1) 3 := by decide +kernel
theorem kX2_init_4 : zD cX2_init 4 5 (.return_) 1 := by decide +kernel
theorem kX3_init_0 : zD cX3_init 0 1 (.aload_n 0) 1 := by decide +kernel
theorem kX3_init_1 : zD cX3_init 1 4 (.invokespecial 3) 3 := by decide +kernel
theorem kX3_init_4 : zD cX3_init 4 5 (.aload_n 0) 1 := by decide +kernel
theorem kX3_init_5 : zD cX3_init 5 8 (.new 9) 3 := by decide +kernel
theorem kX3_init_8 : zD cX3_init 8 9 (.dup) 1 := by decide +kernel
theorem kX3_init_9 : zD cX3_init 9 12 (.invokespecial 11) 3 := by decide +kernel
theorem kX3_init_12 : zD cX3_init 12 15 (.putfield 12) 3 := by decide +kernel
theorem kX3_init_15 : zD cX3_init 15 16 (.aload_n 0) 1 := by decide +kernel
theorem kX3_init_16 : zD cX3_init 16 19 (.sipush 4096) 3 := by decide +kernel
theorem kX3_init_19 : zD cX3_init 19 21 (.newarray .int) 2 := by decide +kernel
theorem kX3_init_21 : zD cX3_init 21 24 (.putfield 18) 3 := by decide +kernel
theorem kX3_init_24 : zD cX3_init 24 25 (.aload_n 0) 1 := by decide +kernel
theorem kX3_init_25 : zD cX3_init 25 28 (.sipush 4096) 3 := by decide +kernel
theorem kX3_init_28 : zD cX3_init 28 30 (.newarray .int) 2 := by decide +kernel
theorem kX3_init_30 : zD cX3_init 30 33 (.putfield 22) 3 := by decide +kernel
theorem kX3_init_33 : zD cX3_init 33 34 (.aload_n 0) 1 := by decide +kernel
theorem kX3_init_34 : zD cX3_init 34 36 (.bipush 12) 2 := by decide +kernel
theorem kX3_init_36 : zD cX3_init 36 38 (.newarray .long) 2 := by decide +kernel
theorem kX3_init_38 : zD cX3_init 38 41 (.putfield 25) 3 := by decide +kernel
theorem kX3_init_41 : zD cX3_init 41 42 (.aload_n 0) 1 := by decide +kernel
theorem kX3_init_42 : zD cX3_init 42 44 (.bipush 13) 2 := by decide +kernel
theorem kX3_init_44 : zD cX3_init 44 46 (.newarray .long) 2 := by decide +kernel
theorem kX3_init_46 : zD cX3_init 46 49 (.putfield 29) 3 := by decide +kernel
theorem kX3_init_49 : zD cX3_init 49 50 (.aload_n 0) 1 := by decide +kernel
theorem kX3_init_50 : zD cX3_init 50 51 (.iconst (-1)) 1 := by decide +kernel
theorem kX3_init_51 : zD cX3_init 51 54 (.putfield 32) 3 := by decide +kernel
theorem kX3_init_54 : zD cX3_init 54 55 (.return_) 1 := by decide +kernel
theorem kX4_init_0 : zD cX4_init 0 1 (.aload_n 0) 1 := by decide +kernel
theorem kX4_init_1 : zD cX4_init 1 4 (.invokespecial 3) 3 := by decide +kernel
theorem kX4_init_4 : zD cX4_init 4 5 (.aload_n 0) 1 := by decide +kernel
theorem kX4_init_5 : zD cX4_init 5 7 (.bipush 12) 2 := by decide +kernel
theorem kX4_init_7 : zD cX4_init 7 9 (.newarray .int) 2 := by decide +kernel
theorem kX4_init_9 : zD cX4_init 9 12 (.putfield 9) 3 := by decide +kernel
theorem kX4_init_12 : zD cX4_init 12 13 (.aload_n 0) 1 := by decide +kernel
theorem kX4_init_13 : zD cX4_init 13 15 (.bipush 12) 2 := by decide +kernel
theorem kX4_init_15 : zD cX4_init 15 17 (.newarray .int) 2 := by decide +kernel
theorem kX4_init_17 : zD cX4_init 17 20 (.putfield 15) 3 := by decide +kernel
theorem kX4_init_20 : zD cX4_init 20 21 (.aload_n 0) 1 := by decide +kernel
theorem kX4_init_21 : zD cX4_init 21 23 (.bipush 12) 2 := by decide +kernel
theorem kX4_init_23 : zD cX4_init 23 25 (.newarray .int) 2 := by decide +kernel
theorem kX4_init_25 : zD cX4_init 25 28 (.putfield 18) 3 := by decide +kernel
theorem kX4_init_28 : zD cX4_init 28 29 (.aload_n 0) 1 := by decide +kernel
theorem kX4_init_29 : zD cX4_init 29 31 (.bipush 12) 2 := by decide +kernel
theorem kX4_init_31 : zD cX4_init 31 33 (.newarray .int) 2 := by decide +kernel
theorem kX4_init_33 : zD cX4_init 33 36 (.putfield 21) 3 := by decide +kernel
theorem kX4_init_36 : zD cX4_init 36 37 (.aload_n 0) 1 := by decide +kernel
theorem kX4_init_37 : zD cX4_init 37 39 (.bipush 12) 2 := by decide +kernel
theorem kX4_init_39 : zD cX4_init 39 41 (.newarray .int) 2 := by decide +kernel
theorem kX4_init_41 : zD cX4_init 41 44 (.putfield 24) 3 := by decide +kernel
theorem kX4_init_44 : zD cX4_init 44 45 (.aload_n 0) 1 := by decide +kernel
theorem kX4_init_45 : zD cX4_init 45 47 (.bipush 12) 2 := by decide +kernel
theorem kX4_init_47 : zD cX4_init 47 49 (.newarray .int) 2 := by decide +kernel
theorem kX4_init_49 : zD cX4_init 49 52 (.putfield 27) 3 := by decide +kernel
theorem kX4_init_52 : zD cX4_init 52 53 (.aload_n 0) 1 := by decide +kernel
theorem kX4_init_53 : zD cX4_init 53 54 (.iconst 0) 1 := by decide +kernel
theorem kX4_init_54 : zD cX4_init 54 57 (.putfield 30) 3 := by decide +kernel
theorem kX4_init_57 : zD cX4_init 57 58 (.aload_n 0) 1 := by decide +kernel
theorem kX4_init_58 : zD cX4_init 58 59 (.iconst 0) 1 := by decide +kernel
theorem kX4_init_59 : zD cX4_init 59 62 (.putfield 34) 3 := by decide +kernel
theorem kX4_init_62 : zD cX4_init 62 63 (.aload_n 0) 1 := by decide +kernel
theorem kX4_init_63 : zD cX4_init 63 64 (.iconst 0) 1 := by decide +kernel
theorem kX4_init_64 : zD cX4_init 64 67 (.putfield 37) 3 := by decide +kernel
theorem kX4_init_67 : zD cX4_init 67 68 (.aload_n 0) 1 := by decide +kernel
theorem kX4_init_68 : zD cX4_init 68 69 (.iconst 0) 1 := by decide +kernel
theorem kX4_init_69 : zD cX4_init 69 72 (.putfield 40) 3 := by decide +kernel
theorem kX4_init_72 : zD cX4_init 72 73 (.return_) 1 := by decide +kernel
theorem kX5_init_0 : zD cX5_init 0 1 (.aload_n 0) 1 := by decide +kernel
theorem kX5_init_1 : zD cX5_init 1 4 (.invokespecial 1) 3 := by decide +kernel
theorem kX5_init_4 : zD cX5_init 4 5 (.return_) 1 := by decide +kernel
theorem kX6_init_0 : zD cX6_init 0 1 (.aload_n 0) 1 := by decide +kernel
theorem kX6_init_1 : zD cX6_init 1 4 (.invokespecial 1) 3 := by decide +kernel
theorem kX6_init_4 : zD cX6_init 4 5 (.return_) 1 := by decide +kernel
theorem kX7_init_0 : zD cX7_init 0 1 (.aload_n 0) 1 := by decide +kernel
theorem kX7_init_1 : zD cX7_init 1 4 (.invokespecial 3) 3 := by decide +kernel
theorem kX7_init_4 : zD cX7_init 4 5 (.return_) 1 := by decide +kernel
theorem kX8_init_0 : zD cX8_init 0 1 (.aload_n 0) 1 := by decide +kernel
theorem kX8_init_1 : zD cX8_init 1 4 (.invokespecial 3) 3 := by decide +kernel
theorem kX8_init_4 : zD cX8_init 4 5 (.aload_n 0) 1 := by decide +kernel
theorem kX8_init_5 : zD cX8_init 5 6 (.iconst 0) 1 := by decide +kernel
theorem kX8_init_6 : zD cX8_init 6 9 (.putfield 11) 3 := by decide +kernel
theorem kX8_init_9 : zD cX8_init 9 10 (.aload_n 0) 1 := by decide +kernel
theorem kX8_init_10 : zD cX8_init 10 11 (.iconst 0) 1 := by decide +kernel
theorem kX8_init_11 : zD cX8_init 11 14 (.putfield 15) 3 := by decide +kernel
theorem kX8_init_14 : zD cX8_init 14 15 (.aload_n 0) 1 := by decide +kernel
theorem kX8_init_15 : zD cX8_init 15 16 (.iconst 0) 1 := by decide +kernel
theorem kX8_init_16 : zD cX8_init 16 19 (.putfield 18) 3 := by decide +kernel
theorem kX8_init_19 : zD cX8_init 19 20 (.aload_n 0) 1 := by decide +kernel
theorem kX8_init_20 : zD cX8_init 20 21 (.iconst 0) 1 := by decide +kernel
theorem kX8_init_21 : zD cX8_init 21 24 (.putfield 21) 3 := by decide +kernel
theorem kX8_init_24 : zD cX8_init 24 25 (.aload_n 0) 1 := by decide +kernel
theorem kX8_init_25 : zD cX8_init 25 26 (.iconst 0) 1 := by decide +kernel
theorem kX8_init_26 : zD cX8_init 26 29 (.putfield 24) 3 := by decide +kernel
theorem kX8_init_29 : zD cX8_init 29 30 (.aload_n 0) 1 := by decide +kernel
theorem kX8_init_30 : zD cX8_init 30 32 (.bipush 100) 2 := by decide +kernel
theorem kX8_init_32 : zD cX8_init 32 34 (.newarray .int) 2 := by decide +kernel
theorem kX8_init_34 : zD cX8_init 34 37 (.putfield 27) 3 := by decide +kernel
theorem kX8_init_37 : zD cX8_init 37 38 (.return_) 1 := by decide +kernel
theorem kX9_init_0 : zD cX9_init 0 1 (.aload_n 0) 1 := by decide +kernel
theorem kX9_init_1 : zD cX9_init 1 4 (.invokespecial 1) 3 := by decide +kernel
theorem kX9_init_4 : zD cX9_init 4 5 (.return_) 1 := by decide +kernel
theorem gRX3_12 : nPF RX3 12 3 6 0 (tyX3 0) true := ⟨RX3, TX3, tyX3, rfl, by decide, uw_RX3, wmk 144 (by decide +kernel) rfl, tyX3_ok, nmX3, rfl, tyX3_ok 0 (by decide), rfl⟩
theorem gRX3_18 : nPF RX3 18 3 6 1 (tyX3 1) true := ⟨RX3, TX3, tyX3, rfl, by decide, uw_RX3, wmk 146 (by decide +kernel) rfl, tyX3_ok, nmX3, rfl, tyX3_ok 1 (by decide), rfl⟩
theorem gRX3_22 : nPF RX3 22 3 6 2 (tyX3 2) true := ⟨RX3, TX3, tyX3, rfl, by decide, uw_RX3, wmk 147 (by decide +kernel) rfl, tyX3_ok, nmX3, rfl, tyX3_ok 2 (by decide), rfl⟩
theorem gRX3_25 : nPF RX3 25 3 6 3 (tyX3 3) true := ⟨RX3, TX3, tyX3, rfl, by decide, uw_RX3, wmk 148 (by decide +kernel) rfl, tyX3_ok, nmX3, rfl, tyX3_ok 3 (by decide), rfl⟩
theorem gRX3_29 : nPF RX3 29 3 6 4 (tyX3 4) true := ⟨RX3, TX3, tyX3, rfl, by decide, uw_RX3, wmk 149 (by decide +kernel) rfl, tyX3_ok, nmX3, rfl, tyX3_ok 4 (by decide), rfl⟩
theorem gRX3_32 : nPF RX3 32 3 6 5 (tyX3 5) false := ⟨RX3, TX3, tyX3, rfl, by decide, uw_RX3, wmk 150 (by decide +kernel) rfl, tyX3_ok, nmX3, rfl, tyX3_ok 5 (by decide), rfl⟩
theorem gRX4_15 : nPF RX4 15 4 10 1 (tyX4 1) true := ⟨RX4, TX4, tyX4, rfl, by decide, uw_RX4, wmk 104 (by decide +kernel) rfl, tyX4_ok, nmX4, rfl, tyX4_ok 1 (by decide), rfl⟩
theorem gRX4_18 : nPF RX4 18 4 10 2 (tyX4 2) true := ⟨RX4, TX4, tyX4, rfl, by decide, uw_RX4, wmk 106 (by decide +kernel) rfl, tyX4_ok, nmX4, rfl, tyX4_ok 2 (by decide), rfl⟩
theorem gRX4_21 : nPF RX4 21 4 10 3 (tyX4 3) true := ⟨RX4, TX4, tyX4, rfl, by decide, uw_RX4, wmk 108 (by decide +kernel) rfl, tyX4_ok, nmX4, rfl, tyX4_ok 3 (by decide), rfl⟩
theorem gRX4_24 : nPF RX4 24 4 10 4 (tyX4 4) true := ⟨RX4, TX4, tyX4, rfl, by decide, uw_RX4, wmk 110 (by decide +kernel) rfl, tyX4_ok, nmX4, rfl, tyX4_ok 4 (by decide), rfl⟩
theorem gRX4_27 : nPF RX4 27 4 10 5 (tyX4 5) true := ⟨RX4, TX4, tyX4, rfl, by decide, uw_RX4, wmk 111 (by decide +kernel) rfl, tyX4_ok, nmX4, rfl, tyX4_ok 5 (by decide), rfl⟩
theorem gRX4_30 : nPF RX4 30 4 10 6 (tyX4 6) false := ⟨RX4, TX4, tyX4, rfl, by decide, uw_RX4, wmk 113 (by decide +kernel) rfl, tyX4_ok, nmX4, rfl, tyX4_ok 6 (by decide), rfl⟩
theorem gRX4_34 : nPF RX4 34 4 10 7 (tyX4 7) false := ⟨RX4, TX4, tyX4, rfl, by decide, uw_RX4, wmk 116 (by decide +kernel) rfl, tyX4_ok, nmX4, rfl, tyX4_ok 7 (by decide), rfl⟩
theorem gRX4_37 : nPF RX4 37 4 10 8 (tyX4 8) false := ⟨RX4, TX4, tyX4, rfl, by decide, uw_RX4, wmk 119 (by decide +kernel) rfl, tyX4_ok, nmX4, rfl, tyX4_ok 8 (by decide), rfl⟩
theorem gRX4_40 : nPF RX4 40 4 10 9 (tyX4 9) false := ⟨RX4, TX4, tyX4, rfl, by decide, uw_RX4, wmk 120 (by decide +kernel) rfl, tyX4_ok, nmX4, rfl, tyX4_ok 9 (by decide), rfl⟩
theorem gRX4_9 : nPF RX4 9 4 10 0 (tyX4 0) true := ⟨RX4, TX4, tyX4, rfl, by decide, uw_RX4, wmk 102 (by decide +kernel) rfl, tyX4_ok, nmX4, rfl, tyX4_ok 0 (by decide), rfl⟩
theorem gRX8_11 : nPF RX8 11 8 6 0 (tyX8 0) false := ⟨RX8, TX8, tyX8, rfl, by decide, uw_RX8, wmk 174 (by decide +kernel) rfl, tyX8_ok, nmX8, rfl, tyX8_ok 0 (by decide), rfl⟩
theorem gRX8_15 : nPF RX8 15 8 6 1 (tyX8 1) false := ⟨RX8, TX8, tyX8, rfl, by decide, uw_RX8, wmk 175 (by decide +kernel) rfl, tyX8_ok, nmX8, rfl, tyX8_ok 1 (by decide), rfl⟩
theorem gRX8_18 : nPF RX8 18 8 6 2 (tyX8 2) false := ⟨RX8, TX8, tyX8, rfl, by decide, uw_RX8, wmk 177 (by decide +kernel) rfl, tyX8_ok, nmX8, rfl, tyX8_ok 2 (by decide), rfl⟩
theorem gRX8_21 : nPF RX8 21 8 6 3 (tyX8 3) false := ⟨RX8, TX8, tyX8, rfl, by decide, uw_RX8, wmk 179 (by decide +kernel) rfl, tyX8_ok, nmX8, rfl, tyX8_ok 3 (by decide), rfl⟩
theorem gRX8_24 : nPF RX8 24 8 6 4 (tyX8 4) false := ⟨RX8, TX8, tyX8, rfl, by decide, uw_RX8, wmk 181 (by decide +kernel) rfl, tyX8_ok, nmX8, rfl, tyX8_ok 4 (by decide), rfl⟩
theorem gRX8_27 : nPF RX8 27 8 6 5 (tyX8 5) true := ⟨RX8, TX8, tyX8, rfl, by decide, uw_RX8, wmk 184 (by decide +kernel) rfl, tyX8_ok, nmX8, rfl, tyX8_ok 5 (by decide), rfl⟩
theorem iRX0_3 : nIS RX0 3 mX10_init := ⟨⟨"CornerstoneSought", wnk 53 (by decide +kernel) rfl⟩, (wmk 37 (by decide +kernel) rfl), wmk 2 (by decide +kernel) rfl, wmk 38 (by decide +kernel) rfl, rfl, rfl, ⟨by decide +kernel, by decide +kernel, by decide +kernel⟩, by decide⟩
theorem iRX1_3 : nIS RX1 3 mX0_init := ⟨⟨"CornerstoneSought", wnk 81 (by decide +kernel) rfl⟩, (wmk 51 (by decide +kernel) rfl), wmk 4 (by decide +kernel) rfl, wmk 52 (by decide +kernel) rfl, rfl, rfl, ⟨by decide +kernel, by decide +kernel, by decide +kernel⟩, by decide⟩
theorem iRX2_1 : nIS RX2 1 mX10_init := ⟨⟨"CornerstoneSought", wnk 46 (by decide +kernel) rfl⟩, (wmk 37 (by decide +kernel) rfl), wmk 2 (by decide +kernel) rfl, wmk 38 (by decide +kernel) rfl, rfl, rfl, ⟨by decide +kernel, by decide +kernel, by decide +kernel⟩, by decide⟩
theorem iRX3_11 : nIS RX3 11 mX4_init := ⟨⟨"CornerstoneSought", wnk 98 (by decide +kernel) rfl⟩, (wmk 99 (by decide +kernel) rfl), wmk 11 (by decide +kernel) rfl, wmk 100 (by decide +kernel) rfl, rfl, rfl, ⟨by decide +kernel, by decide +kernel, by decide +kernel⟩, by decide⟩
theorem iRX5_1 : nIS RX5 1 mX0_init := ⟨⟨"CornerstoneSought", wnk 67 (by decide +kernel) rfl⟩, (wmk 51 (by decide +kernel) rfl), wmk 4 (by decide +kernel) rfl, wmk 52 (by decide +kernel) rfl, rfl, rfl, ⟨by decide +kernel, by decide +kernel, by decide +kernel⟩, by decide⟩
theorem iRX6_1 : nIS RX6 1 mX7_init := ⟨⟨"CornerstoneSought", wnk 88 (by decide +kernel) rfl⟩, (wmk 58 (by decide +kernel) rfl), wmk 5 (by decide +kernel) rfl, wmk 59 (by decide +kernel) rfl, rfl, rfl, ⟨by decide +kernel, by decide +kernel, by decide +kernel⟩, by decide⟩
theorem iRX7_3 : nIS RX7 3 mX10_init := ⟨⟨"CornerstoneSought", wnk 60 (by decide +kernel) rfl⟩, (wmk 37 (by decide +kernel) rfl), wmk 2 (by decide +kernel) rfl, wmk 38 (by decide +kernel) rfl, rfl, rfl, ⟨by decide +kernel, by decide +kernel, by decide +kernel⟩, by decide⟩
theorem iRX9_1 : nIS RX9 1 mX2_init := ⟨⟨"CornerstoneSought", wnk 74 (by decide +kernel) rfl⟩, (wmk 44 (by decide +kernel) rfl), wmk 3 (by decide +kernel) rfl, wmk 45 (by decide +kernel) rfl, rfl, rfl, ⟨by decide +kernel, by decide +kernel, by decide +kernel⟩, by decide⟩
theorem ncX10_init {G : ZG} (d : Nat) (h0 : Nat) (e0 : va_E) : nC G (d + 1) mX10_init h0 [(h0, e0)] 0 0 (fun w1 => w1 = [(h0, e0)]) := by
  refine nC_of (by decide +kernel) (by decide) ?_
  intro A
  refine nt_al 0 kX10_init_0 rfl ?_
  refine nt_obj kX10_init_1 (wmk 39 (by decide +kernel) rfl) (wmk 31 (by decide +kernel) rfl) (wmk 32 (by decide +kernel) rfl) rfl (show 1 ≤ d + 1 by omega) (show 48 ≤ 48 * (d + 1) by omega) ?_
  exact nt_ret kX10_init_4 rfl (Nat.le_of_ble_eq_true rfl) (Nat.le_of_ble_eq_true rfl) rfl
theorem ncX0_init {G : ZG} (d : Nat) (h0 : Nat) (e0 : va_E) : nC G (d + 2) mX0_init h0 [(h0, e0)] 0 0 (fun w1 => w1 = [(h0, e0)]) := by
  refine nC_of (by decide +kernel) (by decide) ?_
  intro A
  refine nt_al 0 kX0_init_0 rfl ?_
  refine nt_init (wr := []) (mc := 0) (ms := 0) kX0_init_1 iRX0_3 (ncX10_init (G := G) (d + 0) h0 e0) (show d + 0 + 1 + 1 ≤ d + 2 by omega) (show 48 * (d + 0 + 1) + 48 ≤ 48 * (d + 2) by omega) (Nat.le_of_ble_eq_true rfl) (Nat.le_of_ble_eq_true rfl) (Nat.le_of_ble_eq_true rfl) ?_
  rintro w1 rfl
  refine nt_w (w' := [(h0, e0)]) rfl ?_
  exact nt_ret kX0_init_4 rfl (Nat.le_of_ble_eq_true rfl) (Nat.le_of_ble_eq_true rfl) rfl
theorem ncX2_init {G : ZG} (d : Nat) (h0 : Nat) (e0 : va_E) : nC G (d + 2) mX2_init h0 [(h0, e0)] 0 0 (fun w1 => w1 = [(h0, e0)]) := by
  refine nC_of (by decide +kernel) (by decide) ?_
  intro A
  refine nt_al 0 kX2_init_0 rfl ?_
  refine nt_init (wr := []) (mc := 0) (ms := 0) kX2_init_1 iRX2_1 (ncX10_init (G := G) (d + 0) h0 e0) (show d + 0 + 1 + 1 ≤ d + 2 by omega) (show 48 * (d + 0 + 1) + 48 ≤ 48 * (d + 2) by omega) (Nat.le_of_ble_eq_true rfl) (Nat.le_of_ble_eq_true rfl) (Nat.le_of_ble_eq_true rfl) ?_
  rintro w1 rfl
  refine nt_w (w' := [(h0, e0)]) rfl ?_
  exact nt_ret kX2_init_4 rfl (Nat.le_of_ble_eq_true rfl) (Nat.le_of_ble_eq_true rfl) rfl
theorem ncX7_init {G : ZG} (d : Nat) (h0 : Nat) (e0 : va_E) : nC G (d + 2) mX7_init h0 [(h0, e0)] 0 0 (fun w1 => w1 = [(h0, e0)]) := by
  refine nC_of (by decide +kernel) (by decide) ?_
  intro A
  refine nt_al 0 kX7_init_0 rfl ?_
  refine nt_init (wr := []) (mc := 0) (ms := 0) kX7_init_1 iRX7_3 (ncX10_init (G := G) (d + 0) h0 e0) (show d + 0 + 1 + 1 ≤ d + 2 by omega) (show 48 * (d + 0 + 1) + 48 ≤ 48 * (d + 2) by omega) (Nat.le_of_ble_eq_true rfl) (Nat.le_of_ble_eq_true rfl) (Nat.le_of_ble_eq_true rfl) ?_
  rintro w1 rfl
  refine nt_w (w' := [(h0, e0)]) rfl ?_
  exact nt_ret kX7_init_4 rfl (Nat.le_of_ble_eq_true rfl) (Nat.le_of_ble_eq_true rfl) rfl
theorem ncX5_init {G : ZG} (d : Nat) (h0 : Nat) (e0 : va_E) : nC G (d + 3) mX5_init h0 [(h0, e0)] 0 0 (fun w1 => w1 = [(h0, e0)]) := by
  refine nC_of (by decide +kernel) (by decide) ?_
  intro A
  refine nt_al 0 kX5_init_0 rfl ?_
  refine nt_init (wr := []) (mc := 0) (ms := 0) kX5_init_1 iRX5_1 (ncX0_init (G := G) (d + 0) h0 e0) (show d + 0 + 2 + 1 ≤ d + 3 by omega) (show 48 * (d + 0 + 2) + 48 ≤ 48 * (d + 3) by omega) (Nat.le_of_ble_eq_true rfl) (Nat.le_of_ble_eq_true rfl) (Nat.le_of_ble_eq_true rfl) ?_
  rintro w1 rfl
  refine nt_w (w' := [(h0, e0)]) rfl ?_
  exact nt_ret kX5_init_4 rfl (Nat.le_of_ble_eq_true rfl) (Nat.le_of_ble_eq_true rfl) rfl
theorem ncX9_init {G : ZG} (d : Nat) (h0 : Nat) (e0 : va_E) : nC G (d + 3) mX9_init h0 [(h0, e0)] 0 0 (fun w1 => w1 = [(h0, e0)]) := by
  refine nC_of (by decide +kernel) (by decide) ?_
  intro A
  refine nt_al 0 kX9_init_0 rfl ?_
  refine nt_init (wr := []) (mc := 0) (ms := 0) kX9_init_1 iRX9_1 (ncX2_init (G := G) (d + 0) h0 e0) (show d + 0 + 2 + 1 ≤ d + 3 by omega) (show 48 * (d + 0 + 2) + 48 ≤ 48 * (d + 3) by omega) (Nat.le_of_ble_eq_true rfl) (Nat.le_of_ble_eq_true rfl) (Nat.le_of_ble_eq_true rfl) ?_
  rintro w1 rfl
  refine nt_w (w' := [(h0, e0)]) rfl ?_
  exact nt_ret kX9_init_4 rfl (Nat.le_of_ble_eq_true rfl) (Nat.le_of_ble_eq_true rfl) rfl
theorem ncX1_init {G : ZG} (d : Nat) (h0 : Nat) (e0 : va_E) : nC G (d + 3) mX1_init h0 [(h0, e0)] 0 0 (fun w1 => w1 = [(h0, e0)]) := by
  refine nC_of (by decide +kernel) (by decide) ?_
  intro A
  refine nt_al 0 kX1_init_0 rfl ?_
  refine nt_init (wr := []) (mc := 0) (ms := 0) kX1_init_1 iRX1_3 (ncX0_init (G := G) (d + 0) h0 e0) (show d + 0 + 2 + 1 ≤ d + 3 by omega) (show 48 * (d + 0 + 2) + 48 ≤ 48 * (d + 3) by omega) (Nat.le_of_ble_eq_true rfl) (Nat.le_of_ble_eq_true rfl) (Nat.le_of_ble_eq_true rfl) ?_
  rintro w1 rfl
  refine nt_w (w' := [(h0, e0)]) rfl ?_
  exact nt_ret kX1_init_4 rfl (Nat.le_of_ble_eq_true rfl) (Nat.le_of_ble_eq_true rfl) rfl
theorem ncX6_init {G : ZG} (d : Nat) (h0 : Nat) (e0 : va_E) : nC G (d + 3) mX6_init h0 [(h0, e0)] 0 0 (fun w1 => w1 = [(h0, e0)]) := by
  refine nC_of (by decide +kernel) (by decide) ?_
  intro A
  refine nt_al 0 kX6_init_0 rfl ?_
  refine nt_init (wr := []) (mc := 0) (ms := 0) kX6_init_1 iRX6_1 (ncX7_init (G := G) (d + 0) h0 e0) (show d + 0 + 2 + 1 ≤ d + 3 by omega) (show 48 * (d + 0 + 2) + 48 ≤ 48 * (d + 3) by omega) (Nat.le_of_ble_eq_true rfl) (Nat.le_of_ble_eq_true rfl) (Nat.le_of_ble_eq_true rfl) ?_
  rintro w1 rfl
  refine nt_w (w' := [(h0, e0)]) rfl ?_
  exact nt_ret kX6_init_4 rfl (Nat.le_of_ble_eq_true rfl) (Nat.le_of_ble_eq_true rfl) rfl
set_option maxRecDepth 10000 in
set_option maxHeartbeats 2000000 in
theorem ncX4_init {G : ZG} (d : Nat) (h0 : Nat) : nC G (d + 1) mX4_init h0 [(h0, .inr (4, [.null, .null, .null, .null, .null, .null, .int 0, .int 0, .int 0, .int 0]))] 6 72 (fun w1 => ∃ q1 q2 q3 q4 q5 q6 : Nat, w1 = [(h0, .inr (4, [.ref q1, .ref q2, .ref q3, .ref q4, .ref q5, .ref q6, .int 0, .int 0, .int 0, .int 0])), (q1, .inl (G.2.2.1 0, (12, .inl (fun _ => 0)))), (q2, .inl (G.2.2.1 0, (12, .inl (fun _ => 0)))), (q3, .inl (G.2.2.1 0, (12, .inl (fun _ => 0)))), (q4, .inl (G.2.2.1 0, (12, .inl (fun _ => 0)))), (q5, .inl (G.2.2.1 0, (12, .inl (fun _ => 0)))), (q6, .inl (G.2.2.1 0, (12, .inl (fun _ => 0))))]) := by
  refine nC_of (by decide +kernel) (by decide) ?_
  intro A
  refine nt_al 0 kX4_init_0 rfl ?_
  refine nt_obj kX4_init_1 (wmk 101 (by decide +kernel) rfl) (wmk 31 (by decide +kernel) rfl) (wmk 32 (by decide +kernel) rfl) rfl (show 1 ≤ d + 1 by omega) (show 48 ≤ 48 * (d + 1) by omega) ?_
  refine nt_al 0 kX4_init_4 rfl ?_
  refine nt_bipush (v := 12) kX4_init_5 rfl ?_
  refine nt_newa 0 (a0 := (12, .inl (fun _ => 0))) (N' := 12) kX4_init_7 rfl (wmk 143 (by decide +kernel) rfl) (fun _ => rfl) (fun _ => rfl) (by decide) (by decide) (by decide +kernel) (Nat.le_of_ble_eq_true rfl) (Nat.le_of_ble_eq_true rfl) (fun q1 => ?_)
  refine nt_put (w' := [(h0, .inr (4, [.ref q1, .null, .null, .null, .null, .null, .int 0, .int 0, .int 0, .int 0])), (q1, .inl (G.2.2.1 0, (12, .inl (fun _ => 0))))]) 0 kX4_init_9 gRX4_9 rfl (Nat.le_of_ble_eq_true rfl) rfl rfl rfl rfl ?_
  refine nt_al 0 kX4_init_12 rfl ?_
  refine nt_bipush (v := 12) kX4_init_13 rfl ?_
  refine nt_newa 0 (a0 := (12, .inl (fun _ => 0))) (N' := 12) kX4_init_15 rfl (wmk 143 (by decide +kernel) rfl) (fun _ => rfl) (fun _ => rfl) (by decide) (by decide) (by decide +kernel) (Nat.le_of_ble_eq_true rfl) (Nat.le_of_ble_eq_true rfl) (fun q2 => ?_)
  refine nt_put (w' := [(h0, .inr (4, [.ref q1, .ref q2, .null, .null, .null, .null, .int 0, .int 0, .int 0, .int 0])), (q1, .inl (G.2.2.1 0, (12, .inl (fun _ => 0)))), (q2, .inl (G.2.2.1 0, (12, .inl (fun _ => 0))))]) 0 kX4_init_17 gRX4_15 rfl (Nat.le_of_ble_eq_true rfl) rfl rfl rfl rfl ?_
  refine nt_al 0 kX4_init_20 rfl ?_
  refine nt_bipush (v := 12) kX4_init_21 rfl ?_
  refine nt_newa 0 (a0 := (12, .inl (fun _ => 0))) (N' := 12) kX4_init_23 rfl (wmk 143 (by decide +kernel) rfl) (fun _ => rfl) (fun _ => rfl) (by decide) (by decide) (by decide +kernel) (Nat.le_of_ble_eq_true rfl) (Nat.le_of_ble_eq_true rfl) (fun q3 => ?_)
  refine nt_put (w' := [(h0, .inr (4, [.ref q1, .ref q2, .ref q3, .null, .null, .null, .int 0, .int 0, .int 0, .int 0])), (q1, .inl (G.2.2.1 0, (12, .inl (fun _ => 0)))), (q2, .inl (G.2.2.1 0, (12, .inl (fun _ => 0)))), (q3, .inl (G.2.2.1 0, (12, .inl (fun _ => 0))))]) 0 kX4_init_25 gRX4_18 rfl (Nat.le_of_ble_eq_true rfl) rfl rfl rfl rfl ?_
  refine nt_al 0 kX4_init_28 rfl ?_
  refine nt_bipush (v := 12) kX4_init_29 rfl ?_
  refine nt_newa 0 (a0 := (12, .inl (fun _ => 0))) (N' := 12) kX4_init_31 rfl (wmk 143 (by decide +kernel) rfl) (fun _ => rfl) (fun _ => rfl) (by decide) (by decide) (by decide +kernel) (Nat.le_of_ble_eq_true rfl) (Nat.le_of_ble_eq_true rfl) (fun q4 => ?_)
  refine nt_put (w' := [(h0, .inr (4, [.ref q1, .ref q2, .ref q3, .ref q4, .null, .null, .int 0, .int 0, .int 0, .int 0])), (q1, .inl (G.2.2.1 0, (12, .inl (fun _ => 0)))), (q2, .inl (G.2.2.1 0, (12, .inl (fun _ => 0)))), (q3, .inl (G.2.2.1 0, (12, .inl (fun _ => 0)))), (q4, .inl (G.2.2.1 0, (12, .inl (fun _ => 0))))]) 0 kX4_init_33 gRX4_21 rfl (Nat.le_of_ble_eq_true rfl) rfl rfl rfl rfl ?_
  refine nt_al 0 kX4_init_36 rfl ?_
  refine nt_bipush (v := 12) kX4_init_37 rfl ?_
  refine nt_newa 0 (a0 := (12, .inl (fun _ => 0))) (N' := 12) kX4_init_39 rfl (wmk 143 (by decide +kernel) rfl) (fun _ => rfl) (fun _ => rfl) (by decide) (by decide) (by decide +kernel) (Nat.le_of_ble_eq_true rfl) (Nat.le_of_ble_eq_true rfl) (fun q5 => ?_)
  refine nt_put (w' := [(h0, .inr (4, [.ref q1, .ref q2, .ref q3, .ref q4, .ref q5, .null, .int 0, .int 0, .int 0, .int 0])), (q1, .inl (G.2.2.1 0, (12, .inl (fun _ => 0)))), (q2, .inl (G.2.2.1 0, (12, .inl (fun _ => 0)))), (q3, .inl (G.2.2.1 0, (12, .inl (fun _ => 0)))), (q4, .inl (G.2.2.1 0, (12, .inl (fun _ => 0)))), (q5, .inl (G.2.2.1 0, (12, .inl (fun _ => 0))))]) 0 kX4_init_41 gRX4_24 rfl (Nat.le_of_ble_eq_true rfl) rfl rfl rfl rfl ?_
  refine nt_al 0 kX4_init_44 rfl ?_
  refine nt_bipush (v := 12) kX4_init_45 rfl ?_
  refine nt_newa 0 (a0 := (12, .inl (fun _ => 0))) (N' := 12) kX4_init_47 rfl (wmk 143 (by decide +kernel) rfl) (fun _ => rfl) (fun _ => rfl) (by decide) (by decide) (by decide +kernel) (Nat.le_of_ble_eq_true rfl) (Nat.le_of_ble_eq_true rfl) (fun q6 => ?_)
  refine nt_put (w' := [(h0, .inr (4, [.ref q1, .ref q2, .ref q3, .ref q4, .ref q5, .ref q6, .int 0, .int 0, .int 0, .int 0])), (q1, .inl (G.2.2.1 0, (12, .inl (fun _ => 0)))), (q2, .inl (G.2.2.1 0, (12, .inl (fun _ => 0)))), (q3, .inl (G.2.2.1 0, (12, .inl (fun _ => 0)))), (q4, .inl (G.2.2.1 0, (12, .inl (fun _ => 0)))), (q5, .inl (G.2.2.1 0, (12, .inl (fun _ => 0)))), (q6, .inl (G.2.2.1 0, (12, .inl (fun _ => 0))))]) 0 kX4_init_49 gRX4_27 rfl (Nat.le_of_ble_eq_true rfl) rfl rfl rfl rfl ?_
  refine nt_al 0 kX4_init_52 rfl ?_
  refine nt_iconst (v := 0) kX4_init_53 rfl ?_
  refine nt_put (w' := [(h0, .inr (4, [.ref q1, .ref q2, .ref q3, .ref q4, .ref q5, .ref q6, .int 0, .int 0, .int 0, .int 0])), (q1, .inl (G.2.2.1 0, (12, .inl (fun _ => 0)))), (q2, .inl (G.2.2.1 0, (12, .inl (fun _ => 0)))), (q3, .inl (G.2.2.1 0, (12, .inl (fun _ => 0)))), (q4, .inl (G.2.2.1 0, (12, .inl (fun _ => 0)))), (q5, .inl (G.2.2.1 0, (12, .inl (fun _ => 0)))), (q6, .inl (G.2.2.1 0, (12, .inl (fun _ => 0))))]) 0 kX4_init_54 gRX4_30 rfl (Nat.le_of_ble_eq_true rfl) rfl rfl rfl rfl ?_
  refine nt_al 0 kX4_init_57 rfl ?_
  refine nt_iconst (v := 0) kX4_init_58 rfl ?_
  refine nt_put (w' := [(h0, .inr (4, [.ref q1, .ref q2, .ref q3, .ref q4, .ref q5, .ref q6, .int 0, .int 0, .int 0, .int 0])), (q1, .inl (G.2.2.1 0, (12, .inl (fun _ => 0)))), (q2, .inl (G.2.2.1 0, (12, .inl (fun _ => 0)))), (q3, .inl (G.2.2.1 0, (12, .inl (fun _ => 0)))), (q4, .inl (G.2.2.1 0, (12, .inl (fun _ => 0)))), (q5, .inl (G.2.2.1 0, (12, .inl (fun _ => 0)))), (q6, .inl (G.2.2.1 0, (12, .inl (fun _ => 0))))]) 0 kX4_init_59 gRX4_34 rfl (Nat.le_of_ble_eq_true rfl) rfl rfl rfl rfl ?_
  refine nt_al 0 kX4_init_62 rfl ?_
  refine nt_iconst (v := 0) kX4_init_63 rfl ?_
  refine nt_put (w' := [(h0, .inr (4, [.ref q1, .ref q2, .ref q3, .ref q4, .ref q5, .ref q6, .int 0, .int 0, .int 0, .int 0])), (q1, .inl (G.2.2.1 0, (12, .inl (fun _ => 0)))), (q2, .inl (G.2.2.1 0, (12, .inl (fun _ => 0)))), (q3, .inl (G.2.2.1 0, (12, .inl (fun _ => 0)))), (q4, .inl (G.2.2.1 0, (12, .inl (fun _ => 0)))), (q5, .inl (G.2.2.1 0, (12, .inl (fun _ => 0)))), (q6, .inl (G.2.2.1 0, (12, .inl (fun _ => 0))))]) 0 kX4_init_64 gRX4_37 rfl (Nat.le_of_ble_eq_true rfl) rfl rfl rfl rfl ?_
  refine nt_al 0 kX4_init_67 rfl ?_
  refine nt_iconst (v := 0) kX4_init_68 rfl ?_
  refine nt_put (w' := [(h0, .inr (4, [.ref q1, .ref q2, .ref q3, .ref q4, .ref q5, .ref q6, .int 0, .int 0, .int 0, .int 0])), (q1, .inl (G.2.2.1 0, (12, .inl (fun _ => 0)))), (q2, .inl (G.2.2.1 0, (12, .inl (fun _ => 0)))), (q3, .inl (G.2.2.1 0, (12, .inl (fun _ => 0)))), (q4, .inl (G.2.2.1 0, (12, .inl (fun _ => 0)))), (q5, .inl (G.2.2.1 0, (12, .inl (fun _ => 0)))), (q6, .inl (G.2.2.1 0, (12, .inl (fun _ => 0))))]) 0 kX4_init_69 gRX4_40 rfl (Nat.le_of_ble_eq_true rfl) rfl rfl rfl rfl ?_
  exact nt_ret kX4_init_72 rfl (Nat.le_of_ble_eq_true rfl) (Nat.le_of_ble_eq_true rfl) ⟨q1, q2, q3, q4, q5, q6, rfl⟩
set_option maxRecDepth 10000 in
set_option maxHeartbeats 2000000 in
theorem ncX3_init {G : ZG} (d : Nat) (h0 : Nat) : nC G (d + 2) mX3_init h0 [(h0, .inr (3, [.null, .null, .null, .null, .null, .int 0]))] 11 8299 (fun w1 => ∃ q1 q2 q3 q4 q5 q6 q7 q8 q9 q10 q11 : Nat, w1 = [(h0, .inr (3, [.ref q1, .ref q8, .ref q9, .ref q10, .ref q11, .int (-1)])), (q1, .inr (4, [.ref q2, .ref q3, .ref q4, .ref q5, .ref q6, .ref q7, .int 0, .int 0, .int 0, .int 0])), (q2, .inl (G.2.2.1 0, (12, .inl (fun _ => 0)))), (q3, .inl (G.2.2.1 0, (12, .inl (fun _ => 0)))), (q4, .inl (G.2.2.1 0, (12, .inl (fun _ => 0)))), (q5, .inl (G.2.2.1 0, (12, .inl (fun _ => 0)))), (q6, .inl (G.2.2.1 0, (12, .inl (fun _ => 0)))), (q7, .inl (G.2.2.1 0, (12, .inl (fun _ => 0)))), (q8, .inl (G.2.2.1 0, (4096, .inl (fun _ => 0)))), (q9, .inl (G.2.2.1 0, (4096, .inl (fun _ => 0)))), (q10, .inl (G.2.2.1 1, (12, .inr (.inl (fun _ => 0))))), (q11, .inl (G.2.2.1 1, (13, .inr (.inl (fun _ => 0)))))]) := by
  refine nC_of (by decide +kernel) (by decide) ?_
  intro A
  refine nt_al 0 kX3_init_0 rfl ?_
  refine nt_obj kX3_init_1 (wmk 95 (by decide +kernel) rfl) (wmk 31 (by decide +kernel) rfl) (wmk 32 (by decide +kernel) rfl) rfl (show 1 ≤ d + 2 by omega) (show 48 ≤ 48 * (d + 2) by omega) ?_
  refine nt_al 0 kX3_init_4 rfl ?_
  refine nt_new (ci := 4) (C := RX4) (T := TX4) (N := 10) (ty := tyX4) [.null, .null, .null, .null, .null, .null, .int 0, .int 0, .int 0, .int 0] kX3_init_5 uw_RX4 tyX4_ok ⟨(wmk 96 (by decide +kernel) rfl), (wmk 97 (by decide +kernel) rfl), (wmk 11 (by decide +kernel) rfl)⟩ rfl (fun j hj => by rcases (show j = 0 ∨ j = 1 ∨ j = 2 ∨ j = 3 ∨ j = 4 ∨ j = 5 ∨ j = 6 ∨ j = 7 ∨ j = 8 ∨ j = 9 by omega) with rfl | rfl | rfl | rfl | rfl | rfl | rfl | rfl | rfl | rfl <;> rfl) (Nat.le_of_ble_eq_true rfl) (Nat.le_of_ble_eq_true rfl) (fun q1 => ?_)
  refine nt_dup kX3_init_8 rfl ?_
  refine nt_init (wr := [(h0, .inr (3, [.null, .null, .null, .null, .null, .int 0]))]) (mc := 6) (ms := 72) kX3_init_9 iRX3_11 (ncX4_init (G := G) (d + 0) q1) (show d + 0 + 1 + 1 ≤ d + 2 by omega) (show 48 * (d + 0 + 1) + 48 ≤ 48 * (d + 2) by omega) (Nat.le_of_ble_eq_true rfl) (Nat.le_of_ble_eq_true rfl) (Nat.le_of_ble_eq_true rfl) ?_
  rintro w1 ⟨q2, q3, q4, q5, q6, q7, rfl⟩
  refine nt_w (w' := [(h0, .inr (3, [.null, .null, .null, .null, .null, .int 0])), (q1, .inr (4, [.ref q2, .ref q3, .ref q4, .ref q5, .ref q6, .ref q7, .int 0, .int 0, .int 0, .int 0])), (q2, .inl (G.2.2.1 0, (12, .inl (fun _ => 0)))), (q3, .inl (G.2.2.1 0, (12, .inl (fun _ => 0)))), (q4, .inl (G.2.2.1 0, (12, .inl (fun _ => 0)))), (q5, .inl (G.2.2.1 0, (12, .inl (fun _ => 0)))), (q6, .inl (G.2.2.1 0, (12, .inl (fun _ => 0)))), (q7, .inl (G.2.2.1 0, (12, .inl (fun _ => 0))))]) rfl ?_
  refine nt_put (w' := [(h0, .inr (3, [.ref q1, .null, .null, .null, .null, .int 0])), (q1, .inr (4, [.ref q2, .ref q3, .ref q4, .ref q5, .ref q6, .ref q7, .int 0, .int 0, .int 0, .int 0])), (q2, .inl (G.2.2.1 0, (12, .inl (fun _ => 0)))), (q3, .inl (G.2.2.1 0, (12, .inl (fun _ => 0)))), (q4, .inl (G.2.2.1 0, (12, .inl (fun _ => 0)))), (q5, .inl (G.2.2.1 0, (12, .inl (fun _ => 0)))), (q6, .inl (G.2.2.1 0, (12, .inl (fun _ => 0)))), (q7, .inl (G.2.2.1 0, (12, .inl (fun _ => 0))))]) 0 kX3_init_12 gRX3_12 rfl (Nat.le_of_ble_eq_true rfl) rfl rfl rfl rfl ?_
  refine nt_al 0 kX3_init_15 rfl ?_
  refine nt_sipush (v := 4096) kX3_init_16 rfl ?_
  refine nt_newa 0 (a0 := (4096, .inl (fun _ => 0))) (N' := 4096) kX3_init_19 rfl (wmk 143 (by decide +kernel) rfl) (fun _ => rfl) (fun _ => rfl) (by decide) (by decide) (by decide +kernel) (Nat.le_of_ble_eq_true rfl) (Nat.le_of_ble_eq_true rfl) (fun q8 => ?_)
  refine nt_put (w' := [(h0, .inr (3, [.ref q1, .ref q8, .null, .null, .null, .int 0])), (q1, .inr (4, [.ref q2, .ref q3, .ref q4, .ref q5, .ref q6, .ref q7, .int 0, .int 0, .int 0, .int 0])), (q2, .inl (G.2.2.1 0, (12, .inl (fun _ => 0)))), (q3, .inl (G.2.2.1 0, (12, .inl (fun _ => 0)))), (q4, .inl (G.2.2.1 0, (12, .inl (fun _ => 0)))), (q5, .inl (G.2.2.1 0, (12, .inl (fun _ => 0)))), (q6, .inl (G.2.2.1 0, (12, .inl (fun _ => 0)))), (q7, .inl (G.2.2.1 0, (12, .inl (fun _ => 0)))), (q8, .inl (G.2.2.1 0, (4096, .inl (fun _ => 0))))]) 0 kX3_init_21 gRX3_18 rfl (Nat.le_of_ble_eq_true rfl) rfl rfl rfl rfl ?_
  refine nt_al 0 kX3_init_24 rfl ?_
  refine nt_sipush (v := 4096) kX3_init_25 rfl ?_
  refine nt_newa 0 (a0 := (4096, .inl (fun _ => 0))) (N' := 4096) kX3_init_28 rfl (wmk 143 (by decide +kernel) rfl) (fun _ => rfl) (fun _ => rfl) (by decide) (by decide) (by decide +kernel) (Nat.le_of_ble_eq_true rfl) (Nat.le_of_ble_eq_true rfl) (fun q9 => ?_)
  refine nt_put (w' := [(h0, .inr (3, [.ref q1, .ref q8, .ref q9, .null, .null, .int 0])), (q1, .inr (4, [.ref q2, .ref q3, .ref q4, .ref q5, .ref q6, .ref q7, .int 0, .int 0, .int 0, .int 0])), (q2, .inl (G.2.2.1 0, (12, .inl (fun _ => 0)))), (q3, .inl (G.2.2.1 0, (12, .inl (fun _ => 0)))), (q4, .inl (G.2.2.1 0, (12, .inl (fun _ => 0)))), (q5, .inl (G.2.2.1 0, (12, .inl (fun _ => 0)))), (q6, .inl (G.2.2.1 0, (12, .inl (fun _ => 0)))), (q7, .inl (G.2.2.1 0, (12, .inl (fun _ => 0)))), (q8, .inl (G.2.2.1 0, (4096, .inl (fun _ => 0)))), (q9, .inl (G.2.2.1 0, (4096, .inl (fun _ => 0))))]) 0 kX3_init_30 gRX3_22 rfl (Nat.le_of_ble_eq_true rfl) rfl rfl rfl rfl ?_
  refine nt_al 0 kX3_init_33 rfl ?_
  refine nt_bipush (v := 12) kX3_init_34 rfl ?_
  refine nt_newa 1 (a0 := (12, .inr (.inl (fun _ => 0)))) (N' := 12) kX3_init_36 rfl (wmk 164 (by decide +kernel) rfl) (fun _ => rfl) (fun _ => rfl) (by decide) (by decide) (by decide +kernel) (Nat.le_of_ble_eq_true rfl) (Nat.le_of_ble_eq_true rfl) (fun q10 => ?_)
  refine nt_put (w' := [(h0, .inr (3, [.ref q1, .ref q8, .ref q9, .ref q10, .null, .int 0])), (q1, .inr (4, [.ref q2, .ref q3, .ref q4, .ref q5, .ref q6, .ref q7, .int 0, .int 0, .int 0, .int 0])), (q2, .inl (G.2.2.1 0, (12, .inl (fun _ => 0)))), (q3, .inl (G.2.2.1 0, (12, .inl (fun _ => 0)))), (q4, .inl (G.2.2.1 0, (12, .inl (fun _ => 0)))), (q5, .inl (G.2.2.1 0, (12, .inl (fun _ => 0)))), (q6, .inl (G.2.2.1 0, (12, .inl (fun _ => 0)))), (q7, .inl (G.2.2.1 0, (12, .inl (fun _ => 0)))), (q8, .inl (G.2.2.1 0, (4096, .inl (fun _ => 0)))), (q9, .inl (G.2.2.1 0, (4096, .inl (fun _ => 0)))), (q10, .inl (G.2.2.1 1, (12, .inr (.inl (fun _ => 0)))))]) 0 kX3_init_38 gRX3_25 rfl (Nat.le_of_ble_eq_true rfl) rfl rfl rfl rfl ?_
  refine nt_al 0 kX3_init_41 rfl ?_
  refine nt_bipush (v := 13) kX3_init_42 rfl ?_
  refine nt_newa 1 (a0 := (13, .inr (.inl (fun _ => 0)))) (N' := 13) kX3_init_44 rfl (wmk 164 (by decide +kernel) rfl) (fun _ => rfl) (fun _ => rfl) (by decide) (by decide) (by decide +kernel) (Nat.le_of_ble_eq_true rfl) (Nat.le_of_ble_eq_true rfl) (fun q11 => ?_)
  refine nt_put (w' := [(h0, .inr (3, [.ref q1, .ref q8, .ref q9, .ref q10, .ref q11, .int 0])), (q1, .inr (4, [.ref q2, .ref q3, .ref q4, .ref q5, .ref q6, .ref q7, .int 0, .int 0, .int 0, .int 0])), (q2, .inl (G.2.2.1 0, (12, .inl (fun _ => 0)))), (q3, .inl (G.2.2.1 0, (12, .inl (fun _ => 0)))), (q4, .inl (G.2.2.1 0, (12, .inl (fun _ => 0)))), (q5, .inl (G.2.2.1 0, (12, .inl (fun _ => 0)))), (q6, .inl (G.2.2.1 0, (12, .inl (fun _ => 0)))), (q7, .inl (G.2.2.1 0, (12, .inl (fun _ => 0)))), (q8, .inl (G.2.2.1 0, (4096, .inl (fun _ => 0)))), (q9, .inl (G.2.2.1 0, (4096, .inl (fun _ => 0)))), (q10, .inl (G.2.2.1 1, (12, .inr (.inl (fun _ => 0))))), (q11, .inl (G.2.2.1 1, (13, .inr (.inl (fun _ => 0)))))]) 0 kX3_init_46 gRX3_29 rfl (Nat.le_of_ble_eq_true rfl) rfl rfl rfl rfl ?_
  refine nt_al 0 kX3_init_49 rfl ?_
  refine nt_iconst (v := (-1)) kX3_init_50 rfl ?_
  refine nt_put (w' := [(h0, .inr (3, [.ref q1, .ref q8, .ref q9, .ref q10, .ref q11, .int (-1)])), (q1, .inr (4, [.ref q2, .ref q3, .ref q4, .ref q5, .ref q6, .ref q7, .int 0, .int 0, .int 0, .int 0])), (q2, .inl (G.2.2.1 0, (12, .inl (fun _ => 0)))), (q3, .inl (G.2.2.1 0, (12, .inl (fun _ => 0)))), (q4, .inl (G.2.2.1 0, (12, .inl (fun _ => 0)))), (q5, .inl (G.2.2.1 0, (12, .inl (fun _ => 0)))), (q6, .inl (G.2.2.1 0, (12, .inl (fun _ => 0)))), (q7, .inl (G.2.2.1 0, (12, .inl (fun _ => 0)))), (q8, .inl (G.2.2.1 0, (4096, .inl (fun _ => 0)))), (q9, .inl (G.2.2.1 0, (4096, .inl (fun _ => 0)))), (q10, .inl (G.2.2.1 1, (12, .inr (.inl (fun _ => 0))))), (q11, .inl (G.2.2.1 1, (13, .inr (.inl (fun _ => 0)))))]) 0 kX3_init_51 gRX3_32 rfl (Nat.le_of_ble_eq_true rfl) rfl rfl rfl rfl ?_
  exact nt_ret kX3_init_54 rfl (Nat.le_of_ble_eq_true rfl) (Nat.le_of_ble_eq_true rfl) ⟨q1, q2, q3, q4, q5, q6, q7, q8, q9, q10, q11, rfl⟩
set_option maxRecDepth 10000 in
set_option maxHeartbeats 2000000 in
theorem ncX8_init {G : ZG} (d : Nat) (h0 : Nat) : nC G (d + 1) mX8_init h0 [(h0, .inr (8, [.int 0, .int 0, .int 0, .int 0, .int 0, .null]))] 1 100 (fun w1 => ∃ q1 : Nat, w1 = [(h0, .inr (8, [.int 0, .int 0, .int 0, .int 0, .int 0, .ref q1])), (q1, .inl (G.2.2.1 0, (100, .inl (fun _ => 0))))]) := by
  refine nC_of (by decide +kernel) (by decide) ?_
  intro A
  refine nt_al 0 kX8_init_0 rfl ?_
  refine nt_obj kX8_init_1 (wmk 173 (by decide +kernel) rfl) (wmk 31 (by decide +kernel) rfl) (wmk 32 (by decide +kernel) rfl) rfl (show 1 ≤ d + 1 by omega) (show 48 ≤ 48 * (d + 1) by omega) ?_
  refine nt_al 0 kX8_init_4 rfl ?_
  refine nt_iconst (v := 0) kX8_init_5 rfl ?_
  refine nt_put (w' := [(h0, .inr (8, [.int 0, .int 0, .int 0, .int 0, .int 0, .null]))]) 0 kX8_init_6 gRX8_11 rfl (Nat.le_of_ble_eq_true rfl) rfl rfl rfl rfl ?_
  refine nt_al 0 kX8_init_9 rfl ?_
  refine nt_iconst (v := 0) kX8_init_10 rfl ?_
  refine nt_put (w' := [(h0, .inr (8, [.int 0, .int 0, .int 0, .int 0, .int 0, .null]))]) 0 kX8_init_11 gRX8_15 rfl (Nat.le_of_ble_eq_true rfl) rfl rfl rfl rfl ?_
  refine nt_al 0 kX8_init_14 rfl ?_
  refine nt_iconst (v := 0) kX8_init_15 rfl ?_
  refine nt_put (w' := [(h0, .inr (8, [.int 0, .int 0, .int 0, .int 0, .int 0, .null]))]) 0 kX8_init_16 gRX8_18 rfl (Nat.le_of_ble_eq_true rfl) rfl rfl rfl rfl ?_
  refine nt_al 0 kX8_init_19 rfl ?_
  refine nt_iconst (v := 0) kX8_init_20 rfl ?_
  refine nt_put (w' := [(h0, .inr (8, [.int 0, .int 0, .int 0, .int 0, .int 0, .null]))]) 0 kX8_init_21 gRX8_21 rfl (Nat.le_of_ble_eq_true rfl) rfl rfl rfl rfl ?_
  refine nt_al 0 kX8_init_24 rfl ?_
  refine nt_iconst (v := 0) kX8_init_25 rfl ?_
  refine nt_put (w' := [(h0, .inr (8, [.int 0, .int 0, .int 0, .int 0, .int 0, .null]))]) 0 kX8_init_26 gRX8_24 rfl (Nat.le_of_ble_eq_true rfl) rfl rfl rfl rfl ?_
  refine nt_al 0 kX8_init_29 rfl ?_
  refine nt_bipush (v := 100) kX8_init_30 rfl ?_
  refine nt_newa 0 (a0 := (100, .inl (fun _ => 0))) (N' := 100) kX8_init_32 rfl (wmk 143 (by decide +kernel) rfl) (fun _ => rfl) (fun _ => rfl) (by decide) (by decide) (by decide +kernel) (Nat.le_of_ble_eq_true rfl) (Nat.le_of_ble_eq_true rfl) (fun q1 => ?_)
  refine nt_put (w' := [(h0, .inr (8, [.int 0, .int 0, .int 0, .int 0, .int 0, .ref q1])), (q1, .inl (G.2.2.1 0, (100, .inl (fun _ => 0))))]) 0 kX8_init_34 gRX8_27 rfl (Nat.le_of_ble_eq_true rfl) rfl rfl rfl rfl ?_
  exact nt_ret kX8_init_37 rfl (Nat.le_of_ble_eq_true rfl) (Nat.le_of_ble_eq_true rfl) ⟨q1, rfl⟩
