/-! ===== the bytecode of these methods, walked (by program): X11_falls X11_corners X3_cornerstones X3_safeOnes X11_worst X3_worstPlace X11_together X3_pairsThatFell X11_twins X3_twinPairs X3_areTwins X11_depends X3_supportsOf X12_falls X12_corners X12_worst X12_together X12_twins X12_depends ===== -/
theorem kX11_falls_0 : zD cX11_falls 0 1 (.iload_n 2) 1 := by decide +kernel
theorem kX11_falls_1 : zB cX11_falls 1 4 9 (.ifCond .lt 8) 8 := by decide +kernel
theorem kX11_falls_4 : zD cX11_falls 4 5 (.iload_n 2) 1 := by decide +kernel
theorem kX11_falls_5 : zD cX11_falls 5 6 (.iconst 2) 1 := by decide +kernel
theorem kX11_falls_6 : zB cX11_falls 6 9 11 (.if_icmp .le 5) 5 := by decide +kernel
theorem kX11_falls_9 : zD cX11_falls 9 10 (.iconst (-1)) 1 := by decide +kernel
theorem kX11_falls_10 : zD cX11_falls 10 11 (.ireturn) 1 := by decide +kernel
theorem kX11_falls_11 : zD cX11_falls 11 12 (.aload_n 0) 1 := by decide +kernel
theorem kX11_falls_12 : zD cX11_falls 12 13 (.iload_n 1) 1 := by decide +kernel
theorem kX11_falls_13 : zD cX11_falls 13 16 (.invokevirtual 127) 3 := by decide +kernel
theorem kX11_falls_16 : zD cX11_falls 16 17 (.istore_n 3) 1 := by decide +kernel
theorem kX11_falls_17 : zD cX11_falls 17 18 (.iload_n 3) 1 := by decide +kernel
theorem kX11_falls_18 : zB cX11_falls 18 21 23 (.ifCond .eq 5) 5 := by decide +kernel
theorem kX11_falls_21 : zD cX11_falls 21 22 (.iload_n 3) 1 := by decide +kernel
theorem kX11_falls_22 : zD cX11_falls 22 23 (.ireturn) 1 := by decide +kernel
theorem kX11_falls_23 : zD cX11_falls 23 24 (.iload_n 2) 1 := by decide +kernel
theorem kX11_falls_24 : zD cX11_falls 24 25 (.iconst 1) 1 := by decide +kernel
theorem kX11_falls_25 : zB cX11_falls 25 28 49 (.if_icmp .ne 24) 24 := by decide +kernel
theorem kX11_falls_28 : zD cX11_falls 28 29 (.aload_n 0) 1 := by decide +kernel
theorem kX11_falls_29 : zD cX11_falls 29 32 (.getfield 48) 3 := by decide +kernel
theorem kX11_falls_32 : zD cX11_falls 32 33 (.aload_n 0) 1 := by decide +kernel
theorem kX11_falls_33 : zD cX11_falls 33 36 (.getfield 48) 3 := by decide +kernel
theorem kX11_falls_36 : zD cX11_falls 36 39 (.getfield 136) 3 := by decide +kernel
theorem kX11_falls_39 : zD cX11_falls 39 40 (.iconst 1) 1 := by decide +kernel
theorem kX11_falls_40 : zD cX11_falls 40 41 (.iload_n 1) 1 := by decide +kernel
theorem kX11_falls_41 : zD cX11_falls 41 42 (.ishl) 1 := by decide +kernel
theorem kX11_falls_42 : zD cX11_falls 42 43 (.iconst (-1)) 1 := by decide +kernel
theorem kX11_falls_43 : zD cX11_falls 43 44 (.ixor) 1 := by decide +kernel
theorem kX11_falls_44 : zD cX11_falls 44 45 (.iand) 1 := by decide +kernel
theorem kX11_falls_45 : zD cX11_falls 45 48 (.invokevirtual 139) 3 := by decide +kernel
theorem kX11_falls_48 : zD cX11_falls 48 49 (.ireturn) 1 := by decide +kernel
theorem kX11_falls_49 : zD cX11_falls 49 50 (.aload_n 0) 1 := by decide +kernel
theorem kX11_falls_50 : zD cX11_falls 50 53 (.getfield 40) 3 := by decide +kernel
theorem kX11_falls_53 : zD cX11_falls 53 54 (.iconst 1) 1 := by decide +kernel
theorem kX11_falls_54 : zD cX11_falls 54 55 (.iload_n 1) 1 := by decide +kernel
theorem kX11_falls_55 : zD cX11_falls 55 56 (.ishl) 1 := by decide +kernel
theorem kX11_falls_56 : zD cX11_falls 56 59 (.invokevirtual 142) 3 := by decide +kernel
theorem kX11_falls_59 : zD cX11_falls 59 61 (.istore 4) 2 := by decide +kernel
theorem kX11_falls_61 : zD cX11_falls 61 62 (.iload_n 2) 1 := by decide +kernel
theorem kX11_falls_62 : zB cX11_falls 62 65 73 (.ifCond .ne 11) 11 := by decide +kernel
theorem kX11_falls_65 : zD cX11_falls 65 67 (.iload 4) 2 := by decide +kernel
theorem kX11_falls_67 : zD cX11_falls 67 70 (.invokestatic 145) 3 := by decide +kernel
theorem kX11_falls_70 : zB cX11_falls 70 73 75 (.goto 5) 5 := by decide +kernel
theorem kX11_falls_73 : zD cX11_falls 73 75 (.iload 4) 2 := by decide +kernel
theorem kX11_falls_75 : zD cX11_falls 75 76 (.ireturn) 1 := by decide +kernel
set_option maxRecDepth 10000 in
theorem wX11_falls_0 {G : ZG} {d : Nat} {h : ZH} {Q : Option ZV → ZH → Prop} {x1 : Int32} {x2 : Int32} 
  (H : (x2 < 0 → Q (some (zi (-1))) h) ∧ (¬ x2 < 0 → (x2 ≤ 2 → ((stRefI h x1) = 0 → (¬ x2 = 1 → zC G (d + 5) mX3_fallenWithout [zr 1 0, zi ((1 : Int32) <<< (x1 &&& 31))] h (fun r2 h1 => ∃ y3 : Int32, r2 = some (zi y3) ∧ (¬ x2 = 0 → Q (some (zi y3)) h1) ∧ (x2 = 0 → Q (some (zi (bcI y3))) h1))) ∧ (x2 = 1 → zC G (d + 5) mX4_stepsFrom [zr 2 0, zi ((h.1 2 0 6) &&& (((1 : Int32) <<< (x1 &&& 31)) ^^^ (-1)))] h (fun r5 h4 => ∃ y6 : Int32, r5 = some (zi y6) ∧ Q (some (zi y6)) h4))) ∧ (¬ (stRefI h x1) = 0 → Q (some (zi (stRefI h x1))) h)) ∧ (¬ x2 ≤ 2 → Q (some (zi (-1))) h))) :
  zT G (d + 6) mX11_falls 0 [zr 0 0, zi x1, zi x2, zu, zu] [] h Q := by
  refine zt_iload_n kX11_falls_0 rfl ?_
  refine zt_if_lt kX11_falls_1 (fun c => ?_) (fun c => ?_)
  · replace H := H.1 c
    refine zt_iconst (v := (-1)) kX11_falls_9 rfl ?_
    exact zt_iret kX11_falls_10 rfl H
  · replace H := H.2 c
    refine zt_iload_n kX11_falls_4 rfl ?_
    refine zt_iconst (v := 2) kX11_falls_5 rfl ?_
    refine zt_icmp_le kX11_falls_6 (fun c => ?_) (fun c => ?_)
    · replace H := H.1 c
      refine zt_aload_n kX11_falls_11 rfl ?_
      refine zt_iload_n kX11_falls_12 rfl ?_
      refine zt_cV (as := [zi x1]) kX11_falls_13 sRX11_127 rfl (by decide) rfl (by simp) rfl (sX11_stoneRefused _  ) (fun r h0 hq => ?_)
      obtain ⟨rfl, hh⟩ := hq
      replace hh := hh.symm
      subst hh
      refine zt_istore_n (L' := [zr 0 0, zi x1, zi x2, zi (stRefI h x1), zu]) kX11_falls_16 (by decide) rfl ?_
      refine zt_iload_n kX11_falls_17 rfl ?_
      refine zt_if_eq kX11_falls_18 (fun c => ?_) (fun c => ?_)
      · replace H := H.1 c
        refine zt_iload_n kX11_falls_23 rfl ?_
        refine zt_iconst (v := 1) kX11_falls_24 rfl ?_
        refine zt_icmp_ne kX11_falls_25 (fun c => ?_) (fun c => ?_)
        · replace H := H.1 c
          refine zt_aload_n kX11_falls_49 rfl ?_
          refine zt_get (v := zr 1 0) kX11_falls_50 fRX11_40 rfl (by decide) rfl ?_
          refine zt_iconst (v := 1) kX11_falls_53 rfl ?_
          refine zt_iload_n kX11_falls_54 rfl ?_
          refine zt_ishl kX11_falls_55 ?_
          refine zt_cV (as := [zi ((1 : Int32) <<< (x1 &&& 31))]) kX11_falls_56 sRX11_142 rfl (by decide) rfl (by simp) rfl H (fun r2 h1 H => ?_)
          obtain ⟨y3, rfl, H⟩ := H
          refine zt_istore (L' := [zr 0 0, zi x1, zi x2, zi (stRefI h x1), zi y3]) kX11_falls_59 (by decide) rfl ?_
          refine zt_iload_n kX11_falls_61 rfl ?_
          refine zt_if_ne kX11_falls_62 (fun c => ?_) (fun c => ?_)
          · replace H := H.1 c
            refine zt_iload kX11_falls_73 rfl ?_
            exact zt_iret kX11_falls_75 rfl H
          · replace H := H.2 c
            refine zt_iload kX11_falls_65 rfl ?_
            refine zt_cS (as := [zi y3]) kX11_falls_67 sRX11_145 rfl (by simp) rfl (sJ6_bitCount_0f7a4 _  ) (fun r h0 hq => ?_)
            obtain ⟨rfl, hh⟩ := hq
            replace hh := hh.symm
            subst hh
            refine zt_goto kX11_falls_70 ?_
            exact zt_iret kX11_falls_75 rfl H
        · replace H := H.2 c
          refine zt_aload_n kX11_falls_28 rfl ?_
          refine zt_get (v := zr 2 0) kX11_falls_29 fRX11_48 rfl (by decide) rfl ?_
          refine zt_aload_n kX11_falls_32 rfl ?_
          refine zt_get (v := zr 2 0) kX11_falls_33 fRX11_48 rfl (by decide) rfl ?_
          refine zt_get (v := zi (h.1 2 0 6)) kX11_falls_36 fRX11_136 rfl (by decide) rfl ?_
          refine zt_iconst (v := 1) kX11_falls_39 rfl ?_
          refine zt_iload_n kX11_falls_40 rfl ?_
          refine zt_ishl kX11_falls_41 ?_
          refine zt_iconst (v := (-1)) kX11_falls_42 rfl ?_
          refine zt_ixor kX11_falls_43 ?_
          refine zt_iand kX11_falls_44 ?_
          refine zt_cV (as := [zi ((h.1 2 0 6) &&& (((1 : Int32) <<< (x1 &&& 31)) ^^^ (-1)))]) kX11_falls_45 sRX11_139 rfl (by decide) rfl (by simp) rfl H (fun r5 h4 H => ?_)
          obtain ⟨y6, rfl, H⟩ := H
          exact zt_iret kX11_falls_48 rfl H
      · replace H := H.2 c
        refine zt_iload_n kX11_falls_21 rfl ?_
        exact zt_iret kX11_falls_22 rfl H
    · replace H := H.2 c
      refine zt_iconst (v := (-1)) kX11_falls_9 rfl ?_
      exact zt_iret kX11_falls_10 rfl H

theorem kX11_corners_0 : zD cX11_corners 0 1 (.iload_n 1) 1 := by decide +kernel
theorem kX11_corners_1 : zD cX11_corners 1 4 (.invokestatic 150) 3 := by decide +kernel
theorem kX11_corners_4 : zB cX11_corners 4 7 9 (.ifCond .ne 5) 5 := by decide +kernel
theorem kX11_corners_7 : zD cX11_corners 7 8 (.iconst (-1)) 1 := by decide +kernel
theorem kX11_corners_8 : zD cX11_corners 8 9 (.ireturn) 1 := by decide +kernel
theorem kX11_corners_9 : zD cX11_corners 9 10 (.iload_n 1) 1 := by decide +kernel
theorem kX11_corners_10 : zB cX11_corners 10 13 23 (.ifCond .ne 13) 13 := by decide +kernel
theorem kX11_corners_13 : zD cX11_corners 13 14 (.aload_n 0) 1 := by decide +kernel
theorem kX11_corners_14 : zD cX11_corners 14 17 (.getfield 40) 3 := by decide +kernel
theorem kX11_corners_17 : zD cX11_corners 17 20 (.invokevirtual 153) 3 := by decide +kernel
theorem kX11_corners_20 : zB cX11_corners 20 23 30 (.goto 10) 10 := by decide +kernel
theorem kX11_corners_23 : zD cX11_corners 23 24 (.aload_n 0) 1 := by decide +kernel
theorem kX11_corners_24 : zD cX11_corners 24 27 (.getfield 40) 3 := by decide +kernel
theorem kX11_corners_27 : zD cX11_corners 27 30 (.invokevirtual 157) 3 := by decide +kernel
theorem kX11_corners_30 : zD cX11_corners 30 31 (.ireturn) 1 := by decide +kernel
set_option maxRecDepth 10000 in
theorem wX11_corners_0 {G : ZG} {d : Nat} {h : ZH} {Q : Option ZV → ZH → Prop} {x1 : Int32} 
  (H : ((0 ≤ x1 ∧ x1 ≤ 1) → (¬ x1 = 0 → zC G (d + 6) mX3_safeOnes [zr 1 0] h (fun r2 h1 => ∃ y3 : Int32, r2 = some (zi y3) ∧ Q (some (zi y3)) h1)) ∧ (x1 = 0 → zC G (d + 6) mX3_cornerstones [zr 1 0] h (fun r5 h4 => ∃ y6 : Int32, r5 = some (zi y6) ∧ Q (some (zi y6)) h4))) ∧ (¬ (0 ≤ x1 ∧ x1 ≤ 1) → Q (some (zi (-1))) h)) :
  zT G (d + 7) mX11_corners 0 [zr 0 0, zi x1] [] h Q := by
  refine zt_iload_n kX11_corners_0 rfl ?_
  refine zt_cS (as := [zi x1]) kX11_corners_1 sRX11_150 rfl (by simp) rfl (sX11_isEither _  ) (fun r h0 hq => ?_)
  obtain ⟨rfl, hh⟩ := hq
  replace hh := hh.symm
  subst hh
  refine zt_ifb_ne kX11_corners_4 (fun c => ?_) (fun c => ?_)
  · replace H := H.1 c
    refine zt_iload_n kX11_corners_9 rfl ?_
    refine zt_if_ne kX11_corners_10 (fun c => ?_) (fun c => ?_)
    · replace H := H.1 c
      refine zt_aload_n kX11_corners_23 rfl ?_
      refine zt_get (v := zr 1 0) kX11_corners_24 fRX11_40 rfl (by decide) rfl ?_
      refine zt_cV (as := []) kX11_corners_27 sRX11_157 rfl (by decide) rfl (by simp) rfl H (fun r2 h1 H => ?_)
      obtain ⟨y3, rfl, H⟩ := H
      exact zt_iret kX11_corners_30 rfl H
    · replace H := H.2 c
      refine zt_aload_n kX11_corners_13 rfl ?_
      refine zt_get (v := zr 1 0) kX11_corners_14 fRX11_40 rfl (by decide) rfl ?_
      refine zt_cV (as := []) kX11_corners_17 sRX11_153 rfl (by decide) rfl (by simp) rfl H (fun r5 h4 H => ?_)
      obtain ⟨y6, rfl, H⟩ := H
      refine zt_goto kX11_corners_20 ?_
      exact zt_iret kX11_corners_30 rfl H
  · replace H := H.2 c
    refine zt_iconst (v := (-1)) kX11_corners_7 rfl ?_
    exact zt_iret kX11_corners_8 rfl H

theorem kX3_cornerstones_0 : zD cX3_cornerstones 0 1 (.iconst 0) 1 := by decide +kernel
theorem kX3_cornerstones_1 : zD cX3_cornerstones 1 2 (.istore_n 1) 1 := by decide +kernel
theorem kX3_cornerstones_2 : zD cX3_cornerstones 2 3 (.iconst 0) 1 := by decide +kernel
theorem kX3_cornerstones_3 : zD cX3_cornerstones 3 4 (.istore_n 2) 1 := by decide +kernel
theorem kX3_cornerstones_4 : zD cX3_cornerstones 4 5 (.iload_n 2) 1 := by decide +kernel
theorem kX3_cornerstones_5 : zD cX3_cornerstones 5 7 (.bipush 12) 2 := by decide +kernel
theorem kX3_cornerstones_7 : zB cX3_cornerstones 7 10 59 (.if_icmp .ge 52) 52 := by decide +kernel
theorem kX3_cornerstones_10 : zD cX3_cornerstones 10 11 (.aload_n 0) 1 := by decide +kernel
theorem kX3_cornerstones_11 : zD cX3_cornerstones 11 14 (.getfield 12) 3 := by decide +kernel
theorem kX3_cornerstones_14 : zD cX3_cornerstones 14 17 (.getfield 49) 3 := by decide +kernel
theorem kX3_cornerstones_17 : zD cX3_cornerstones 17 18 (.iconst 1) 1 := by decide +kernel
theorem kX3_cornerstones_18 : zD cX3_cornerstones 18 19 (.iload_n 2) 1 := by decide +kernel
theorem kX3_cornerstones_19 : zD cX3_cornerstones 19 20 (.ishl) 1 := by decide +kernel
theorem kX3_cornerstones_20 : zD cX3_cornerstones 20 21 (.iconst (-1)) 1 := by decide +kernel
theorem kX3_cornerstones_21 : zD cX3_cornerstones 21 22 (.ixor) 1 := by decide +kernel
theorem kX3_cornerstones_22 : zD cX3_cornerstones 22 23 (.iand) 1 := by decide +kernel
theorem kX3_cornerstones_23 : zD cX3_cornerstones 23 24 (.istore_n 3) 1 := by decide +kernel
theorem kX3_cornerstones_24 : zD cX3_cornerstones 24 25 (.aload_n 0) 1 := by decide +kernel
theorem kX3_cornerstones_25 : zD cX3_cornerstones 25 28 (.getfield 12) 3 := by decide +kernel
theorem kX3_cornerstones_28 : zD cX3_cornerstones 28 29 (.iload_n 2) 1 := by decide +kernel
theorem kX3_cornerstones_29 : zD cX3_cornerstones 29 32 (.invokevirtual 61) 3 := by decide +kernel
theorem kX3_cornerstones_32 : zB cX3_cornerstones 32 35 53 (.ifCond .eq 21) 21 := by decide +kernel
theorem kX3_cornerstones_35 : zD cX3_cornerstones 35 36 (.iload_n 3) 1 := by decide +kernel
theorem kX3_cornerstones_36 : zB cX3_cornerstones 36 39 53 (.ifCond .eq 17) 17 := by decide +kernel
theorem kX3_cornerstones_39 : zD cX3_cornerstones 39 40 (.aload_n 0) 1 := by decide +kernel
theorem kX3_cornerstones_40 : zD cX3_cornerstones 40 41 (.iload_n 3) 1 := by decide +kernel
theorem kX3_cornerstones_41 : zD cX3_cornerstones 41 44 (.invokevirtual 52) 3 := by decide +kernel
theorem kX3_cornerstones_44 : zB cX3_cornerstones 44 47 53 (.ifCond .ne 9) 9 := by decide +kernel
theorem kX3_cornerstones_47 : zD cX3_cornerstones 47 48 (.iload_n 1) 1 := by decide +kernel
theorem kX3_cornerstones_48 : zD cX3_cornerstones 48 49 (.iconst 1) 1 := by decide +kernel
theorem kX3_cornerstones_49 : zD cX3_cornerstones 49 50 (.iload_n 2) 1 := by decide +kernel
theorem kX3_cornerstones_50 : zD cX3_cornerstones 50 51 (.ishl) 1 := by decide +kernel
theorem kX3_cornerstones_51 : zD cX3_cornerstones 51 52 (.ior) 1 := by decide +kernel
theorem kX3_cornerstones_52 : zD cX3_cornerstones 52 53 (.istore_n 1) 1 := by decide +kernel
theorem kX3_cornerstones_53 : zD cX3_cornerstones 53 56 (.iinc 2 1) 3 := by decide +kernel
theorem kX3_cornerstones_56 : zB cX3_cornerstones 56 59 4 (.goto (-52)) (-52) := by decide +kernel
theorem kX3_cornerstones_59 : zD cX3_cornerstones 59 60 (.iload_n 1) 1 := by decide +kernel
theorem kX3_cornerstones_60 : zD cX3_cornerstones 60 61 (.ireturn) 1 := by decide +kernel
set_option maxRecDepth 10000 in
theorem wX3_cornerstones_0 {G : ZG} {d : Nat} {h : ZH} {Q : Option ZV → ZH → Prop}  
  (H : zT G (d + 5) mX3_cornerstones 4 [zr 1 0, zi 0, zi 0, zu] [] h Q) :
  zT G (d + 5) mX3_cornerstones 0 [zr 1 0, zu, zu, zu] [] h Q := by
  refine zt_iconst (v := 0) kX3_cornerstones_0 rfl ?_
  refine zt_istore_n (L' := [zr 1 0, zi 0, zu, zu]) kX3_cornerstones_1 (by decide) rfl ?_
  refine zt_iconst (v := 0) kX3_cornerstones_2 rfl ?_
  refine zt_istore_n (L' := [zr 1 0, zi 0, zi 0, zu]) kX3_cornerstones_3 (by decide) rfl ?_
  exact H

set_option maxRecDepth 10000 in
theorem wX3_cornerstones_4 {G : ZG} {d : Nat} {h : ZH} {Q : Option ZV → ZH → Prop} {x1 : Int32} {x2 : Int32} 
  (H : (12 ≤ x2 → Q (some (zi x1)) h) ∧ (¬ 12 ≤ x2 → (¬ (hasI (h.1 2 0 6) x2) → zT G (d + 5) mX3_cornerstones 4 [zr 1 0, zi x1, zi (x2 + 1), zu] [] h Q) ∧ ((hasI (h.1 2 0 6) x2) → (((h.1 2 0 6) &&& (((1 : Int32) <<< (x2 &&& 31)) ^^^ (-1))) = 0 → zT G (d + 5) mX3_cornerstones 4 [zr 1 0, zi x1, zi (x2 + 1), zu] [] h Q) ∧ (¬ ((h.1 2 0 6) &&& (((1 : Int32) <<< (x2 &&& 31)) ^^^ (-1))) = 0 → zC G (d + 4) mX3_leftOf [zr 1 0, zi ((h.1 2 0 6) &&& (((1 : Int32) <<< (x2 &&& 31)) ^^^ (-1)))] h (fun r2 h1 => ∃ y3 : Int32, r2 = some (zi y3) ∧ (¬ y3 = 0 → zT G (d + 5) mX3_cornerstones 4 [zr 1 0, zi x1, zi (x2 + 1), zu] [] h1 Q) ∧ (y3 = 0 → zT G (d + 5) mX3_cornerstones 4 [zr 1 0, zi (x1 ||| ((1 : Int32) <<< (x2 &&& 31))), zi (x2 + 1), zu] [] h1 Q)))))) :
  zT G (d + 5) mX3_cornerstones 4 [zr 1 0, zi x1, zi x2, zu] [] h Q := by
  refine zt_iload_n kX3_cornerstones_4 rfl ?_
  refine zt_bipush (v := 12) kX3_cornerstones_5 rfl ?_
  refine zt_icmp_ge kX3_cornerstones_7 (fun c => ?_) (fun c => ?_)
  · replace H := H.1 c
    refine zt_iload_n kX3_cornerstones_59 rfl ?_
    exact zt_iret kX3_cornerstones_60 rfl H
  · replace H := H.2 c
    refine zt_aload_n kX3_cornerstones_10 rfl ?_
    refine zt_get (v := zr 2 0) kX3_cornerstones_11 fRX3_12 rfl (by decide) rfl ?_
    refine zt_get (v := zi (h.1 2 0 6)) kX3_cornerstones_14 fRX3_49 rfl (by decide) rfl ?_
    refine zt_iconst (v := 1) kX3_cornerstones_17 rfl ?_
    refine zt_iload_n kX3_cornerstones_18 rfl ?_
    refine zt_ishl kX3_cornerstones_19 ?_
    refine zt_iconst (v := (-1)) kX3_cornerstones_20 rfl ?_
    refine zt_ixor kX3_cornerstones_21 ?_
    refine zt_iand kX3_cornerstones_22 ?_
    refine zt_istore_n (L' := [zr 1 0, zi x1, zi x2, zi ((h.1 2 0 6) &&& (((1 : Int32) <<< (x2 &&& 31)) ^^^ (-1)))]) kX3_cornerstones_23 (by decide) rfl ?_
    refine zt_aload_n kX3_cornerstones_24 rfl ?_
    refine zt_get (v := zr 2 0) kX3_cornerstones_25 fRX3_12 rfl (by decide) rfl ?_
    refine zt_iload_n kX3_cornerstones_28 rfl ?_
    refine zt_cV (as := [zi x2]) kX3_cornerstones_29 sRX3_61 rfl (by decide) rfl (by simp) rfl (sX4_holds _ (by decide) ) (fun r h0 hq => ?_)
    obtain ⟨rfl, hh⟩ := hq
    replace hh := hh.symm
    subst hh
    refine zt_ifb_eq kX3_cornerstones_32 (fun c => ?_) (fun c => ?_)
    · replace H := H.1 c
      refine zt_iinc (v := (x2 + 1)) (L' := [zr 1 0, zi x1, zi (x2 + 1), zi ((h.1 2 0 6) &&& (((1 : Int32) <<< (x2 &&& 31)) ^^^ (-1)))]) kX3_cornerstones_53 rfl rfl (by decide) rfl ?_
      refine zt_goto kX3_cornerstones_56 ?_
      exact zt_sub [zr 1 0, zi x1, zi (x2 + 1), zu] ⟨rfl, ⟨rfl, ⟨rfl, trivial⟩⟩⟩ H
    · replace H := H.2 c
      refine zt_iload_n kX3_cornerstones_35 rfl ?_
      refine zt_if_eq kX3_cornerstones_36 (fun c => ?_) (fun c => ?_)
      · replace H := H.1 c
        refine zt_iinc (v := (x2 + 1)) (L' := [zr 1 0, zi x1, zi (x2 + 1), zi ((h.1 2 0 6) &&& (((1 : Int32) <<< (x2 &&& 31)) ^^^ (-1)))]) kX3_cornerstones_53 rfl rfl (by decide) rfl ?_
        refine zt_goto kX3_cornerstones_56 ?_
        exact zt_sub [zr 1 0, zi x1, zi (x2 + 1), zu] ⟨rfl, ⟨rfl, ⟨rfl, trivial⟩⟩⟩ H
      · replace H := H.2 c
        refine zt_aload_n kX3_cornerstones_39 rfl ?_
        refine zt_iload_n kX3_cornerstones_40 rfl ?_
        refine zt_cV (as := [zi ((h.1 2 0 6) &&& (((1 : Int32) <<< (x2 &&& 31)) ^^^ (-1)))]) kX3_cornerstones_41 sRX3_52 rfl (by decide) rfl (by simp) rfl H (fun r2 h1 H => ?_)
        obtain ⟨y3, rfl, H⟩ := H
        refine zt_if_ne kX3_cornerstones_44 (fun c => ?_) (fun c => ?_)
        · replace H := H.1 c
          refine zt_iinc (v := (x2 + 1)) (L' := [zr 1 0, zi x1, zi (x2 + 1), zi ((h.1 2 0 6) &&& (((1 : Int32) <<< (x2 &&& 31)) ^^^ (-1)))]) kX3_cornerstones_53 rfl rfl (by decide) rfl ?_
          refine zt_goto kX3_cornerstones_56 ?_
          exact zt_sub [zr 1 0, zi x1, zi (x2 + 1), zu] ⟨rfl, ⟨rfl, ⟨rfl, trivial⟩⟩⟩ H
        · replace H := H.2 c
          refine zt_iload_n kX3_cornerstones_47 rfl ?_
          refine zt_iconst (v := 1) kX3_cornerstones_48 rfl ?_
          refine zt_iload_n kX3_cornerstones_49 rfl ?_
          refine zt_ishl kX3_cornerstones_50 ?_
          refine zt_ior kX3_cornerstones_51 ?_
          refine zt_istore_n (L' := [zr 1 0, zi (x1 ||| ((1 : Int32) <<< (x2 &&& 31))), zi x2, zi ((h.1 2 0 6) &&& (((1 : Int32) <<< (x2 &&& 31)) ^^^ (-1)))]) kX3_cornerstones_52 (by decide) rfl ?_
          refine zt_iinc (v := (x2 + 1)) (L' := [zr 1 0, zi (x1 ||| ((1 : Int32) <<< (x2 &&& 31))), zi (x2 + 1), zi ((h.1 2 0 6) &&& (((1 : Int32) <<< (x2 &&& 31)) ^^^ (-1)))]) kX3_cornerstones_53 rfl rfl (by decide) rfl ?_
          refine zt_goto kX3_cornerstones_56 ?_
          exact zt_sub [zr 1 0, zi (x1 ||| ((1 : Int32) <<< (x2 &&& 31))), zi (x2 + 1), zu] ⟨rfl, ⟨rfl, ⟨rfl, trivial⟩⟩⟩ H

theorem kX3_safeOnes_0 : zD cX3_safeOnes 0 1 (.iconst 0) 1 := by decide +kernel
theorem kX3_safeOnes_1 : zD cX3_safeOnes 1 2 (.istore_n 1) 1 := by decide +kernel
theorem kX3_safeOnes_2 : zD cX3_safeOnes 2 3 (.iconst 0) 1 := by decide +kernel
theorem kX3_safeOnes_3 : zD cX3_safeOnes 3 4 (.istore_n 2) 1 := by decide +kernel
theorem kX3_safeOnes_4 : zD cX3_safeOnes 4 5 (.iload_n 2) 1 := by decide +kernel
theorem kX3_safeOnes_5 : zD cX3_safeOnes 5 7 (.bipush 12) 2 := by decide +kernel
theorem kX3_safeOnes_7 : zB cX3_safeOnes 7 10 43 (.if_icmp .ge 36) 36 := by decide +kernel
theorem kX3_safeOnes_10 : zD cX3_safeOnes 10 11 (.aload_n 0) 1 := by decide +kernel
theorem kX3_safeOnes_11 : zD cX3_safeOnes 11 14 (.getfield 12) 3 := by decide +kernel
theorem kX3_safeOnes_14 : zD cX3_safeOnes 14 15 (.iload_n 2) 1 := by decide +kernel
theorem kX3_safeOnes_15 : zD cX3_safeOnes 15 18 (.invokevirtual 61) 3 := by decide +kernel
theorem kX3_safeOnes_18 : zB cX3_safeOnes 18 21 37 (.ifCond .eq 19) 19 := by decide +kernel
theorem kX3_safeOnes_21 : zD cX3_safeOnes 21 22 (.aload_n 0) 1 := by decide +kernel
theorem kX3_safeOnes_22 : zD cX3_safeOnes 22 23 (.iconst 1) 1 := by decide +kernel
theorem kX3_safeOnes_23 : zD cX3_safeOnes 23 24 (.iload_n 2) 1 := by decide +kernel
theorem kX3_safeOnes_24 : zD cX3_safeOnes 24 25 (.ishl) 1 := by decide +kernel
theorem kX3_safeOnes_25 : zD cX3_safeOnes 25 28 (.invokevirtual 53) 3 := by decide +kernel
theorem kX3_safeOnes_28 : zB cX3_safeOnes 28 31 37 (.ifCond .ne 9) 9 := by decide +kernel
theorem kX3_safeOnes_31 : zD cX3_safeOnes 31 32 (.iload_n 1) 1 := by decide +kernel
theorem kX3_safeOnes_32 : zD cX3_safeOnes 32 33 (.iconst 1) 1 := by decide +kernel
theorem kX3_safeOnes_33 : zD cX3_safeOnes 33 34 (.iload_n 2) 1 := by decide +kernel
theorem kX3_safeOnes_34 : zD cX3_safeOnes 34 35 (.ishl) 1 := by decide +kernel
theorem kX3_safeOnes_35 : zD cX3_safeOnes 35 36 (.ior) 1 := by decide +kernel
theorem kX3_safeOnes_36 : zD cX3_safeOnes 36 37 (.istore_n 1) 1 := by decide +kernel
theorem kX3_safeOnes_37 : zD cX3_safeOnes 37 40 (.iinc 2 1) 3 := by decide +kernel
theorem kX3_safeOnes_40 : zB cX3_safeOnes 40 43 4 (.goto (-36)) (-36) := by decide +kernel
theorem kX3_safeOnes_43 : zD cX3_safeOnes 43 44 (.iload_n 1) 1 := by decide +kernel
theorem kX3_safeOnes_44 : zD cX3_safeOnes 44 45 (.ireturn) 1 := by decide +kernel
set_option maxRecDepth 10000 in
theorem wX3_safeOnes_0 {G : ZG} {d : Nat} {h : ZH} {Q : Option ZV → ZH → Prop}  
  (H : zT G (d + 6) mX3_safeOnes 4 [zr 1 0, zi 0, zi 0] [] h Q) :
  zT G (d + 6) mX3_safeOnes 0 [zr 1 0, zu, zu] [] h Q := by
  refine zt_iconst (v := 0) kX3_safeOnes_0 rfl ?_
  refine zt_istore_n (L' := [zr 1 0, zi 0, zu]) kX3_safeOnes_1 (by decide) rfl ?_
  refine zt_iconst (v := 0) kX3_safeOnes_2 rfl ?_
  refine zt_istore_n (L' := [zr 1 0, zi 0, zi 0]) kX3_safeOnes_3 (by decide) rfl ?_
  exact H

set_option maxRecDepth 10000 in
theorem wX3_safeOnes_4 {G : ZG} {d : Nat} {h : ZH} {Q : Option ZV → ZH → Prop} {x1 : Int32} {x2 : Int32} 
  (H : (12 ≤ x2 → Q (some (zi x1)) h) ∧ (¬ 12 ≤ x2 → (¬ (hasI (h.1 2 0 6) x2) → zT G (d + 6) mX3_safeOnes 4 [zr 1 0, zi x1, zi (x2 + 1)] [] h Q) ∧ ((hasI (h.1 2 0 6) x2) → zC G (d + 5) mX3_fallenWithout [zr 1 0, zi ((1 : Int32) <<< (x2 &&& 31))] h (fun r2 h1 => ∃ y3 : Int32, r2 = some (zi y3) ∧ (¬ y3 = 0 → zT G (d + 6) mX3_safeOnes 4 [zr 1 0, zi x1, zi (x2 + 1)] [] h1 Q) ∧ (y3 = 0 → zT G (d + 6) mX3_safeOnes 4 [zr 1 0, zi (x1 ||| ((1 : Int32) <<< (x2 &&& 31))), zi (x2 + 1)] [] h1 Q))))) :
  zT G (d + 6) mX3_safeOnes 4 [zr 1 0, zi x1, zi x2] [] h Q := by
  refine zt_iload_n kX3_safeOnes_4 rfl ?_
  refine zt_bipush (v := 12) kX3_safeOnes_5 rfl ?_
  refine zt_icmp_ge kX3_safeOnes_7 (fun c => ?_) (fun c => ?_)
  · replace H := H.1 c
    refine zt_iload_n kX3_safeOnes_43 rfl ?_
    exact zt_iret kX3_safeOnes_44 rfl H
  · replace H := H.2 c
    refine zt_aload_n kX3_safeOnes_10 rfl ?_
    refine zt_get (v := zr 2 0) kX3_safeOnes_11 fRX3_12 rfl (by decide) rfl ?_
    refine zt_iload_n kX3_safeOnes_14 rfl ?_
    refine zt_cV (as := [zi x2]) kX3_safeOnes_15 sRX3_61 rfl (by decide) rfl (by simp) rfl (sX4_holds _ (by decide) ) (fun r h0 hq => ?_)
    obtain ⟨rfl, hh⟩ := hq
    replace hh := hh.symm
    subst hh
    refine zt_ifb_eq kX3_safeOnes_18 (fun c => ?_) (fun c => ?_)
    · replace H := H.1 c
      refine zt_iinc (v := (x2 + 1)) (L' := [zr 1 0, zi x1, zi (x2 + 1)]) kX3_safeOnes_37 rfl rfl (by decide) rfl ?_
      refine zt_goto kX3_safeOnes_40 ?_
      exact H
    · replace H := H.2 c
      refine zt_aload_n kX3_safeOnes_21 rfl ?_
      refine zt_iconst (v := 1) kX3_safeOnes_22 rfl ?_
      refine zt_iload_n kX3_safeOnes_23 rfl ?_
      refine zt_ishl kX3_safeOnes_24 ?_
      refine zt_cV (as := [zi ((1 : Int32) <<< (x2 &&& 31))]) kX3_safeOnes_25 sRX3_53 rfl (by decide) rfl (by simp) rfl H (fun r2 h1 H => ?_)
      obtain ⟨y3, rfl, H⟩ := H
      refine zt_if_ne kX3_safeOnes_28 (fun c => ?_) (fun c => ?_)
      · replace H := H.1 c
        refine zt_iinc (v := (x2 + 1)) (L' := [zr 1 0, zi x1, zi (x2 + 1)]) kX3_safeOnes_37 rfl rfl (by decide) rfl ?_
        refine zt_goto kX3_safeOnes_40 ?_
        exact H
      · replace H := H.2 c
        refine zt_iload_n kX3_safeOnes_31 rfl ?_
        refine zt_iconst (v := 1) kX3_safeOnes_32 rfl ?_
        refine zt_iload_n kX3_safeOnes_33 rfl ?_
        refine zt_ishl kX3_safeOnes_34 ?_
        refine zt_ior kX3_safeOnes_35 ?_
        refine zt_istore_n (L' := [zr 1 0, zi (x1 ||| ((1 : Int32) <<< (x2 &&& 31))), zi x2]) kX3_safeOnes_36 (by decide) rfl ?_
        refine zt_iinc (v := (x2 + 1)) (L' := [zr 1 0, zi (x1 ||| ((1 : Int32) <<< (x2 &&& 31))), zi (x2 + 1)]) kX3_safeOnes_37 rfl rfl (by decide) rfl ?_
        refine zt_goto kX3_safeOnes_40 ?_
        exact H

theorem kX11_worst_0 : zD cX11_worst 0 1 (.aload_n 0) 1 := by decide +kernel
theorem kX11_worst_1 : zD cX11_worst 1 4 (.getfield 40) 3 := by decide +kernel
theorem kX11_worst_4 : zD cX11_worst 4 7 (.invokevirtual 160) 3 := by decide +kernel
theorem kX11_worst_7 : zD cX11_worst 7 8 (.ireturn) 1 := by decide +kernel
set_option maxRecDepth 10000 in
theorem wX11_worst_0 {G : ZG} {d : Nat} {h : ZH} {Q : Option ZV → ZH → Prop}  
  (H : zC G (d + 7) mX3_worstPlace [zr 1 0] h (fun r2 h1 => ∃ y3 : Int32, r2 = some (zi y3) ∧ Q (some (zi y3)) h1)) :
  zT G (d + 8) mX11_worst 0 [zr 0 0] [] h Q := by
  refine zt_aload_n kX11_worst_0 rfl ?_
  refine zt_get (v := zr 1 0) kX11_worst_1 fRX11_40 rfl (by decide) rfl ?_
  refine zt_cV (as := []) kX11_worst_4 sRX11_160 rfl (by decide) rfl (by simp) rfl H (fun r2 h1 H => ?_)
  obtain ⟨y3, rfl, H⟩ := H
  exact zt_iret kX11_worst_7 rfl H

theorem kX3_worstPlace_0 : zD cX3_worstPlace 0 2 (.bipush (-4)) 2 := by decide +kernel
theorem kX3_worstPlace_2 : zD cX3_worstPlace 2 3 (.istore_n 1) 1 := by decide +kernel
theorem kX3_worstPlace_3 : zD cX3_worstPlace 3 4 (.iconst (-1)) 1 := by decide +kernel
theorem kX3_worstPlace_4 : zD cX3_worstPlace 4 5 (.istore_n 2) 1 := by decide +kernel
theorem kX3_worstPlace_5 : zD cX3_worstPlace 5 6 (.iconst 0) 1 := by decide +kernel
theorem kX3_worstPlace_6 : zD cX3_worstPlace 6 7 (.istore_n 3) 1 := by decide +kernel
theorem kX3_worstPlace_7 : zD cX3_worstPlace 7 8 (.iload_n 3) 1 := by decide +kernel
theorem kX3_worstPlace_8 : zD cX3_worstPlace 8 10 (.bipush 12) 2 := by decide +kernel
theorem kX3_worstPlace_10 : zB cX3_worstPlace 10 13 51 (.if_icmp .ge 41) 41 := by decide +kernel
theorem kX3_worstPlace_13 : zD cX3_worstPlace 13 14 (.aload_n 0) 1 := by decide +kernel
theorem kX3_worstPlace_14 : zD cX3_worstPlace 14 17 (.getfield 12) 3 := by decide +kernel
theorem kX3_worstPlace_17 : zD cX3_worstPlace 17 18 (.iload_n 3) 1 := by decide +kernel
theorem kX3_worstPlace_18 : zD cX3_worstPlace 18 21 (.invokevirtual 61) 3 := by decide +kernel
theorem kX3_worstPlace_21 : zB cX3_worstPlace 21 24 45 (.ifCond .eq 24) 24 := by decide +kernel
theorem kX3_worstPlace_24 : zD cX3_worstPlace 24 25 (.aload_n 0) 1 := by decide +kernel
theorem kX3_worstPlace_25 : zD cX3_worstPlace 25 26 (.iconst 1) 1 := by decide +kernel
theorem kX3_worstPlace_26 : zD cX3_worstPlace 26 27 (.iload_n 3) 1 := by decide +kernel
theorem kX3_worstPlace_27 : zD cX3_worstPlace 27 28 (.ishl) 1 := by decide +kernel
theorem kX3_worstPlace_28 : zD cX3_worstPlace 28 31 (.invokevirtual 65) 3 := by decide +kernel
theorem kX3_worstPlace_31 : zD cX3_worstPlace 31 32 (.iload_n 2) 1 := by decide +kernel
theorem kX3_worstPlace_32 : zB cX3_worstPlace 32 35 45 (.if_icmp .le 13) 13 := by decide +kernel
theorem kX3_worstPlace_35 : zD cX3_worstPlace 35 36 (.aload_n 0) 1 := by decide +kernel
theorem kX3_worstPlace_36 : zD cX3_worstPlace 36 37 (.iconst 1) 1 := by decide +kernel
theorem kX3_worstPlace_37 : zD cX3_worstPlace 37 38 (.iload_n 3) 1 := by decide +kernel
theorem kX3_worstPlace_38 : zD cX3_worstPlace 38 39 (.ishl) 1 := by decide +kernel
theorem kX3_worstPlace_39 : zD cX3_worstPlace 39 42 (.invokevirtual 65) 3 := by decide +kernel
theorem kX3_worstPlace_42 : zD cX3_worstPlace 42 43 (.istore_n 2) 1 := by decide +kernel
theorem kX3_worstPlace_43 : zD cX3_worstPlace 43 44 (.iload_n 3) 1 := by decide +kernel
theorem kX3_worstPlace_44 : zD cX3_worstPlace 44 45 (.istore_n 1) 1 := by decide +kernel
theorem kX3_worstPlace_45 : zD cX3_worstPlace 45 48 (.iinc 3 1) 3 := by decide +kernel
theorem kX3_worstPlace_48 : zB cX3_worstPlace 48 51 7 (.goto (-41)) (-41) := by decide +kernel
theorem kX3_worstPlace_51 : zD cX3_worstPlace 51 52 (.iload_n 1) 1 := by decide +kernel
theorem kX3_worstPlace_52 : zD cX3_worstPlace 52 53 (.ireturn) 1 := by decide +kernel
set_option maxRecDepth 10000 in
theorem wX3_worstPlace_0 {G : ZG} {d : Nat} {h : ZH} {Q : Option ZV → ZH → Prop}  
  (H : zT G (d + 7) mX3_worstPlace 7 [zr 1 0, zi (-4), zi (-1), zi 0] [] h Q) :
  zT G (d + 7) mX3_worstPlace 0 [zr 1 0, zu, zu, zu] [] h Q := by
  refine zt_bipush (v := (-4)) kX3_worstPlace_0 rfl ?_
  refine zt_istore_n (L' := [zr 1 0, zi (-4), zu, zu]) kX3_worstPlace_2 (by decide) rfl ?_
  refine zt_iconst (v := (-1)) kX3_worstPlace_3 rfl ?_
  refine zt_istore_n (L' := [zr 1 0, zi (-4), zi (-1), zu]) kX3_worstPlace_4 (by decide) rfl ?_
  refine zt_iconst (v := 0) kX3_worstPlace_5 rfl ?_
  refine zt_istore_n (L' := [zr 1 0, zi (-4), zi (-1), zi 0]) kX3_worstPlace_6 (by decide) rfl ?_
  exact H

set_option maxRecDepth 10000 in
theorem wX3_worstPlace_7 {G : ZG} {d : Nat} {h : ZH} {Q : Option ZV → ZH → Prop} {x1 : Int32} {x2 : Int32} {x3 : Int32} 
  (H : (12 ≤ x3 → Q (some (zi x1)) h) ∧ (¬ 12 ≤ x3 → (¬ (hasI (h.1 2 0 6) x3) → zT G (d + 7) mX3_worstPlace 7 [zr 1 0, zi x1, zi x2, zi (x3 + 1)] [] h Q) ∧ ((hasI (h.1 2 0 6) x3) → zC G (d + 6) mX3_countWithout [zr 1 0, zi ((1 : Int32) <<< (x3 &&& 31))] h (fun r2 h1 => ∃ y3 : Int32, r2 = some (zi y3) ∧ (y3 ≤ x2 → zT G (d + 7) mX3_worstPlace 7 [zr 1 0, zi x1, zi x2, zi (x3 + 1)] [] h1 Q) ∧ (¬ y3 ≤ x2 → zC G (d + 6) mX3_countWithout [zr 1 0, zi ((1 : Int32) <<< (x3 &&& 31))] h1 (fun r5 h4 => ∃ y6 : Int32, r5 = some (zi y6) ∧ zT G (d + 7) mX3_worstPlace 7 [zr 1 0, zi x3, zi y6, zi (x3 + 1)] [] h4 Q)))))) :
  zT G (d + 7) mX3_worstPlace 7 [zr 1 0, zi x1, zi x2, zi x3] [] h Q := by
  refine zt_iload_n kX3_worstPlace_7 rfl ?_
  refine zt_bipush (v := 12) kX3_worstPlace_8 rfl ?_
  refine zt_icmp_ge kX3_worstPlace_10 (fun c => ?_) (fun c => ?_)
  · replace H := H.1 c
    refine zt_iload_n kX3_worstPlace_51 rfl ?_
    exact zt_iret kX3_worstPlace_52 rfl H
  · replace H := H.2 c
    refine zt_aload_n kX3_worstPlace_13 rfl ?_
    refine zt_get (v := zr 2 0) kX3_worstPlace_14 fRX3_12 rfl (by decide) rfl ?_
    refine zt_iload_n kX3_worstPlace_17 rfl ?_
    refine zt_cV (as := [zi x3]) kX3_worstPlace_18 sRX3_61 rfl (by decide) rfl (by simp) rfl (sX4_holds _ (by decide) ) (fun r h0 hq => ?_)
    obtain ⟨rfl, hh⟩ := hq
    replace hh := hh.symm
    subst hh
    refine zt_ifb_eq kX3_worstPlace_21 (fun c => ?_) (fun c => ?_)
    · replace H := H.1 c
      refine zt_iinc (v := (x3 + 1)) (L' := [zr 1 0, zi x1, zi x2, zi (x3 + 1)]) kX3_worstPlace_45 rfl rfl (by decide) rfl ?_
      refine zt_goto kX3_worstPlace_48 ?_
      exact H
    · replace H := H.2 c
      refine zt_aload_n kX3_worstPlace_24 rfl ?_
      refine zt_iconst (v := 1) kX3_worstPlace_25 rfl ?_
      refine zt_iload_n kX3_worstPlace_26 rfl ?_
      refine zt_ishl kX3_worstPlace_27 ?_
      refine zt_cV (as := [zi ((1 : Int32) <<< (x3 &&& 31))]) kX3_worstPlace_28 sRX3_65 rfl (by decide) rfl (by simp) rfl H (fun r2 h1 H => ?_)
      obtain ⟨y3, rfl, H⟩ := H
      refine zt_iload_n kX3_worstPlace_31 rfl ?_
      refine zt_icmp_le kX3_worstPlace_32 (fun c => ?_) (fun c => ?_)
      · replace H := H.1 c
        refine zt_iinc (v := (x3 + 1)) (L' := [zr 1 0, zi x1, zi x2, zi (x3 + 1)]) kX3_worstPlace_45 rfl rfl (by decide) rfl ?_
        refine zt_goto kX3_worstPlace_48 ?_
        exact H
      · replace H := H.2 c
        refine zt_aload_n kX3_worstPlace_35 rfl ?_
        refine zt_iconst (v := 1) kX3_worstPlace_36 rfl ?_
        refine zt_iload_n kX3_worstPlace_37 rfl ?_
        refine zt_ishl kX3_worstPlace_38 ?_
        refine zt_cV (as := [zi ((1 : Int32) <<< (x3 &&& 31))]) kX3_worstPlace_39 sRX3_65 rfl (by decide) rfl (by simp) rfl H (fun r5 h4 H => ?_)
        obtain ⟨y6, rfl, H⟩ := H
        refine zt_istore_n (L' := [zr 1 0, zi x1, zi y6, zi x3]) kX3_worstPlace_42 (by decide) rfl ?_
        refine zt_iload_n kX3_worstPlace_43 rfl ?_
        refine zt_istore_n (L' := [zr 1 0, zi x3, zi y6, zi x3]) kX3_worstPlace_44 (by decide) rfl ?_
        refine zt_iinc (v := (x3 + 1)) (L' := [zr 1 0, zi x3, zi y6, zi (x3 + 1)]) kX3_worstPlace_45 rfl rfl (by decide) rfl ?_
        refine zt_goto kX3_worstPlace_48 ?_
        exact H

theorem kX11_together_0 : zD cX11_together 0 1 (.iload_n 1) 1 := by decide +kernel
theorem kX11_together_1 : zD cX11_together 1 4 (.invokestatic 163) 3 := by decide +kernel
theorem kX11_together_4 : zB cX11_together 4 7 14 (.ifCond .eq 10) 10 := by decide +kernel
theorem kX11_together_7 : zD cX11_together 7 8 (.iload_n 2) 1 := by decide +kernel
theorem kX11_together_8 : zD cX11_together 8 11 (.invokestatic 150) 3 := by decide +kernel
theorem kX11_together_11 : zB cX11_together 11 14 16 (.ifCond .ne 5) 5 := by decide +kernel
theorem kX11_together_14 : zD cX11_together 14 15 (.iconst (-1)) 1 := by decide +kernel
theorem kX11_together_15 : zD cX11_together 15 16 (.ireturn) 1 := by decide +kernel
theorem kX11_together_16 : zD cX11_together 16 17 (.aload_n 0) 1 := by decide +kernel
theorem kX11_together_17 : zD cX11_together 17 20 (.getfield 40) 3 := by decide +kernel
theorem kX11_together_20 : zD cX11_together 20 21 (.iload_n 1) 1 := by decide +kernel
theorem kX11_together_21 : zD cX11_together 21 22 (.iload_n 2) 1 := by decide +kernel
theorem kX11_together_22 : zD cX11_together 22 23 (.iconst 1) 1 := by decide +kernel
theorem kX11_together_23 : zB cX11_together 23 26 30 (.if_icmp .ne 7) 7 := by decide +kernel
theorem kX11_together_26 : zD cX11_together 26 27 (.iconst 1) 1 := by decide +kernel
theorem kX11_together_27 : zB cX11_together 27 30 31 (.goto 4) 4 := by decide +kernel
theorem kX11_together_30 : zD cX11_together 30 31 (.iconst 0) 1 := by decide +kernel
theorem kX11_together_31 : zD cX11_together 31 34 (.invokevirtual 166) 3 := by decide +kernel
theorem kX11_together_34 : zD cX11_together 34 35 (.ireturn) 1 := by decide +kernel
set_option maxRecDepth 10000 in
theorem wX11_together_0 {G : ZG} {d : Nat} {h : ZH} {Q : Option ZV → ZH → Prop} {x1 : Int32} {x2 : Int32} 
  (H : (¬ (1 ≤ x1 ∧ x1 ≤ 12) → Q (some (zi (-1))) h) ∧ ((1 ≤ x1 ∧ x1 ≤ 12) → ((0 ≤ x2 ∧ x2 ≤ 1) → (¬ x2 = 1 → zC G (d + 7) mX3_pairsThatFell [zr 1 0, zi x1, zi 0] h (fun r2 h1 => ∃ y3 : Int32, r2 = some (zi y3) ∧ Q (some (zi y3)) h1)) ∧ (x2 = 1 → zC G (d + 7) mX3_pairsThatFell [zr 1 0, zi x1, zi 1] h (fun r5 h4 => ∃ y6 : Int32, r5 = some (zi y6) ∧ Q (some (zi y6)) h4))) ∧ (¬ (0 ≤ x2 ∧ x2 ≤ 1) → Q (some (zi (-1))) h))) :
  zT G (d + 8) mX11_together 0 [zr 0 0, zi x1, zi x2] [] h Q := by
  refine zt_iload_n kX11_together_0 rfl ?_
  refine zt_cS (as := [zi x1]) kX11_together_1 sRX11_163 rfl (by simp) rfl (sX11_isSomeStones _  ) (fun r h0 hq => ?_)
  obtain ⟨rfl, hh⟩ := hq
  replace hh := hh.symm
  subst hh
  refine zt_ifb_eq kX11_together_4 (fun c => ?_) (fun c => ?_)
  · replace H := H.1 c
    refine zt_iconst (v := (-1)) kX11_together_14 rfl ?_
    exact zt_iret kX11_together_15 rfl H
  · replace H := H.2 c
    refine zt_iload_n kX11_together_7 rfl ?_
    refine zt_cS (as := [zi x2]) kX11_together_8 sRX11_150 rfl (by simp) rfl (sX11_isEither _  ) (fun r h0 hq => ?_)
    obtain ⟨rfl, hh⟩ := hq
    replace hh := hh.symm
    subst hh
    refine zt_ifb_ne kX11_together_11 (fun c => ?_) (fun c => ?_)
    · replace H := H.1 c
      refine zt_aload_n kX11_together_16 rfl ?_
      refine zt_get (v := zr 1 0) kX11_together_17 fRX11_40 rfl (by decide) rfl ?_
      refine zt_iload_n kX11_together_20 rfl ?_
      refine zt_iload_n kX11_together_21 rfl ?_
      refine zt_iconst (v := 1) kX11_together_22 rfl ?_
      refine zt_icmp_ne kX11_together_23 (fun c => ?_) (fun c => ?_)
      · replace H := H.1 c
        refine zt_iconst (v := 0) kX11_together_30 rfl ?_
        refine zt_cV (as := [zi x1, zi 0]) kX11_together_31 sRX11_166 rfl (by decide) rfl (by simp) rfl H (fun r2 h1 H => ?_)
        obtain ⟨y3, rfl, H⟩ := H
        exact zt_iret kX11_together_34 rfl H
      · replace H := H.2 c
        refine zt_iconst (v := 1) kX11_together_26 rfl ?_
        refine zt_goto kX11_together_27 ?_
        refine zt_cV (as := [zi x1, zi 1]) kX11_together_31 sRX11_166 rfl (by decide) rfl (by simp) rfl H (fun r5 h4 H => ?_)
        obtain ⟨y6, rfl, H⟩ := H
        exact zt_iret kX11_together_34 rfl H
    · replace H := H.2 c
      refine zt_iconst (v := (-1)) kX11_together_14 rfl ?_
      exact zt_iret kX11_together_15 rfl H

theorem kX3_pairsThatFell_0 : zD cX3_pairsThatFell 0 1 (.aload_n 0) 1 := by decide +kernel
theorem kX3_pairsThatFell_1 : zD cX3_pairsThatFell 1 4 (.invokevirtual 68) 3 := by decide +kernel
theorem kX3_pairsThatFell_4 : zD cX3_pairsThatFell 4 5 (.istore_n 3) 1 := by decide +kernel
theorem kX3_pairsThatFell_5 : zD cX3_pairsThatFell 5 6 (.iconst 0) 1 := by decide +kernel
theorem kX3_pairsThatFell_6 : zD cX3_pairsThatFell 6 8 (.istore 4) 2 := by decide +kernel
theorem kX3_pairsThatFell_8 : zD cX3_pairsThatFell 8 9 (.iconst 0) 1 := by decide +kernel
theorem kX3_pairsThatFell_9 : zD cX3_pairsThatFell 9 11 (.istore 5) 2 := by decide +kernel
theorem kX3_pairsThatFell_11 : zD cX3_pairsThatFell 11 13 (.iload 5) 2 := by decide +kernel
theorem kX3_pairsThatFell_13 : zD cX3_pairsThatFell 13 15 (.bipush 12) 2 := by decide +kernel
theorem kX3_pairsThatFell_15 : zB cX3_pairsThatFell 15 18 92 (.if_icmp .ge 77) 77 := by decide +kernel
theorem kX3_pairsThatFell_18 : zD cX3_pairsThatFell 18 20 (.iload 5) 2 := by decide +kernel
theorem kX3_pairsThatFell_20 : zD cX3_pairsThatFell 20 21 (.iconst 1) 1 := by decide +kernel
theorem kX3_pairsThatFell_21 : zD cX3_pairsThatFell 21 22 (.iadd) 1 := by decide +kernel
theorem kX3_pairsThatFell_22 : zD cX3_pairsThatFell 22 24 (.istore 6) 2 := by decide +kernel
theorem kX3_pairsThatFell_24 : zD cX3_pairsThatFell 24 26 (.iload 6) 2 := by decide +kernel
theorem kX3_pairsThatFell_26 : zD cX3_pairsThatFell 26 28 (.bipush 12) 2 := by decide +kernel
theorem kX3_pairsThatFell_28 : zB cX3_pairsThatFell 28 31 86 (.if_icmp .ge 58) 58 := by decide +kernel
theorem kX3_pairsThatFell_31 : zD cX3_pairsThatFell 31 32 (.iconst 1) 1 := by decide +kernel
theorem kX3_pairsThatFell_32 : zD cX3_pairsThatFell 32 34 (.iload 5) 2 := by decide +kernel
theorem kX3_pairsThatFell_34 : zD cX3_pairsThatFell 34 35 (.ishl) 1 := by decide +kernel
theorem kX3_pairsThatFell_35 : zD cX3_pairsThatFell 35 36 (.iconst 1) 1 := by decide +kernel
theorem kX3_pairsThatFell_36 : zD cX3_pairsThatFell 36 38 (.iload 6) 2 := by decide +kernel
theorem kX3_pairsThatFell_38 : zD cX3_pairsThatFell 38 39 (.ishl) 1 := by decide +kernel
theorem kX3_pairsThatFell_39 : zD cX3_pairsThatFell 39 40 (.ior) 1 := by decide +kernel
theorem kX3_pairsThatFell_40 : zD cX3_pairsThatFell 40 42 (.istore 7) 2 := by decide +kernel
theorem kX3_pairsThatFell_42 : zD cX3_pairsThatFell 42 43 (.iload_n 3) 1 := by decide +kernel
theorem kX3_pairsThatFell_43 : zD cX3_pairsThatFell 43 45 (.iload 7) 2 := by decide +kernel
theorem kX3_pairsThatFell_45 : zD cX3_pairsThatFell 45 46 (.iand) 1 := by decide +kernel
theorem kX3_pairsThatFell_46 : zD cX3_pairsThatFell 46 48 (.iload 7) 2 := by decide +kernel
theorem kX3_pairsThatFell_48 : zB cX3_pairsThatFell 48 51 80 (.if_icmp .ne 32) 32 := by decide +kernel
theorem kX3_pairsThatFell_51 : zD cX3_pairsThatFell 51 52 (.aload_n 0) 1 := by decide +kernel
theorem kX3_pairsThatFell_52 : zD cX3_pairsThatFell 52 54 (.iload 7) 2 := by decide +kernel
theorem kX3_pairsThatFell_54 : zD cX3_pairsThatFell 54 57 (.invokevirtual 65) 3 := by decide +kernel
theorem kX3_pairsThatFell_57 : zD cX3_pairsThatFell 57 58 (.iload_n 1) 1 := by decide +kernel
theorem kX3_pairsThatFell_58 : zB cX3_pairsThatFell 58 61 64 (.if_icmp .ge 6) 6 := by decide +kernel
theorem kX3_pairsThatFell_61 : zB cX3_pairsThatFell 61 64 80 (.goto 19) 19 := by decide +kernel
theorem kX3_pairsThatFell_64 : zD cX3_pairsThatFell 64 65 (.iload_n 2) 1 := by decide +kernel
theorem kX3_pairsThatFell_65 : zB cX3_pairsThatFell 65 68 77 (.ifCond .eq 12) 12 := by decide +kernel
theorem kX3_pairsThatFell_68 : zD cX3_pairsThatFell 68 70 (.bipush 100) 2 := by decide +kernel
theorem kX3_pairsThatFell_70 : zD cX3_pairsThatFell 70 72 (.iload 5) 2 := by decide +kernel
theorem kX3_pairsThatFell_72 : zD cX3_pairsThatFell 72 73 (.imul) 1 := by decide +kernel
theorem kX3_pairsThatFell_73 : zD cX3_pairsThatFell 73 75 (.iload 6) 2 := by decide +kernel
theorem kX3_pairsThatFell_75 : zD cX3_pairsThatFell 75 76 (.iadd) 1 := by decide +kernel
theorem kX3_pairsThatFell_76 : zD cX3_pairsThatFell 76 77 (.ireturn) 1 := by decide +kernel
theorem kX3_pairsThatFell_77 : zD cX3_pairsThatFell 77 80 (.iinc 4 1) 3 := by decide +kernel
theorem kX3_pairsThatFell_80 : zD cX3_pairsThatFell 80 83 (.iinc 6 1) 3 := by decide +kernel
theorem kX3_pairsThatFell_83 : zB cX3_pairsThatFell 83 86 24 (.goto (-59)) (-59) := by decide +kernel
theorem kX3_pairsThatFell_86 : zD cX3_pairsThatFell 86 89 (.iinc 5 1) 3 := by decide +kernel
theorem kX3_pairsThatFell_89 : zB cX3_pairsThatFell 89 92 11 (.goto (-78)) (-78) := by decide +kernel
theorem kX3_pairsThatFell_92 : zD cX3_pairsThatFell 92 93 (.iload_n 2) 1 := by decide +kernel
theorem kX3_pairsThatFell_93 : zB cX3_pairsThatFell 93 96 101 (.ifCond .eq 8) 8 := by decide +kernel
theorem kX3_pairsThatFell_96 : zD cX3_pairsThatFell 96 98 (.bipush (-4)) 2 := by decide +kernel
theorem kX3_pairsThatFell_98 : zB cX3_pairsThatFell 98 101 103 (.goto 5) 5 := by decide +kernel
theorem kX3_pairsThatFell_101 : zD cX3_pairsThatFell 101 103 (.iload 4) 2 := by decide +kernel
theorem kX3_pairsThatFell_103 : zD cX3_pairsThatFell 103 104 (.ireturn) 1 := by decide +kernel
set_option maxRecDepth 10000 in
theorem wX3_pairsThatFell_0 {G : ZG} {d : Nat} {h : ZH} {Q : Option ZV → ZH → Prop} {x1 : Int32} {x2 : Int32} 
  (H : zC G (d + 6) mX3_safeOnes [zr 1 0] h (fun r2 h1 => ∃ y3 : Int32, r2 = some (zi y3) ∧ zT G (d + 7) mX3_pairsThatFell 11 [zr 1 0, zi x1, zi x2, zi y3, zi 0, zi 0, zu, zu] [] h1 Q)) :
  zT G (d + 7) mX3_pairsThatFell 0 [zr 1 0, zi x1, zi x2, zu, zu, zu, zu, zu] [] h Q := by
  refine zt_aload_n kX3_pairsThatFell_0 rfl ?_
  refine zt_cV (as := []) kX3_pairsThatFell_1 sRX3_68 rfl (by decide) rfl (by simp) rfl H (fun r2 h1 H => ?_)
  obtain ⟨y3, rfl, H⟩ := H
  refine zt_istore_n (L' := [zr 1 0, zi x1, zi x2, zi y3, zu, zu, zu, zu]) kX3_pairsThatFell_4 (by decide) rfl ?_
  refine zt_iconst (v := 0) kX3_pairsThatFell_5 rfl ?_
  refine zt_istore (L' := [zr 1 0, zi x1, zi x2, zi y3, zi 0, zu, zu, zu]) kX3_pairsThatFell_6 (by decide) rfl ?_
  refine zt_iconst (v := 0) kX3_pairsThatFell_8 rfl ?_
  refine zt_istore (L' := [zr 1 0, zi x1, zi x2, zi y3, zi 0, zi 0, zu, zu]) kX3_pairsThatFell_9 (by decide) rfl ?_
  exact H

set_option maxRecDepth 10000 in
theorem wX3_pairsThatFell_11 {G : ZG} {d : Nat} {h : ZH} {Q : Option ZV → ZH → Prop} {x1 : Int32} {x2 : Int32} {x3 : Int32} {x4 : Int32} {x5 : Int32} 
  (H : (12 ≤ x5 → (x2 = 0 → Q (some (zi x4)) h) ∧ (¬ x2 = 0 → Q (some (zi (-4))) h)) ∧ (¬ 12 ≤ x5 → zT G (d + 7) mX3_pairsThatFell 24 [zr 1 0, zi x1, zi x2, zi x3, zi x4, zi x5, zi (x5 + 1), zu] [] h Q)) :
  zT G (d + 7) mX3_pairsThatFell 11 [zr 1 0, zi x1, zi x2, zi x3, zi x4, zi x5, zu, zu] [] h Q := by
  refine zt_iload kX3_pairsThatFell_11 rfl ?_
  refine zt_bipush (v := 12) kX3_pairsThatFell_13 rfl ?_
  refine zt_icmp_ge kX3_pairsThatFell_15 (fun c => ?_) (fun c => ?_)
  · replace H := H.1 c
    refine zt_iload_n kX3_pairsThatFell_92 rfl ?_
    refine zt_if_eq kX3_pairsThatFell_93 (fun c => ?_) (fun c => ?_)
    · replace H := H.1 c
      refine zt_iload kX3_pairsThatFell_101 rfl ?_
      exact zt_iret kX3_pairsThatFell_103 rfl H
    · replace H := H.2 c
      refine zt_bipush (v := (-4)) kX3_pairsThatFell_96 rfl ?_
      refine zt_goto kX3_pairsThatFell_98 ?_
      exact zt_iret kX3_pairsThatFell_103 rfl H
  · replace H := H.2 c
    refine zt_iload kX3_pairsThatFell_18 rfl ?_
    refine zt_iconst (v := 1) kX3_pairsThatFell_20 rfl ?_
    refine zt_iadd kX3_pairsThatFell_21 ?_
    refine zt_istore (L' := [zr 1 0, zi x1, zi x2, zi x3, zi x4, zi x5, zi (x5 + 1), zu]) kX3_pairsThatFell_22 (by decide) rfl ?_
    exact H

set_option maxRecDepth 10000 in
theorem wX3_pairsThatFell_24 {G : ZG} {d : Nat} {h : ZH} {Q : Option ZV → ZH → Prop} {x1 : Int32} {x2 : Int32} {x3 : Int32} {x4 : Int32} {x5 : Int32} {x6 : Int32} 
  (H : (12 ≤ x6 → zT G (d + 7) mX3_pairsThatFell 11 [zr 1 0, zi x1, zi x2, zi x3, zi x4, zi (x5 + 1), zu, zu] [] h Q) ∧ (¬ 12 ≤ x6 → ∀ y1 : Int32, y1 = (((1 : Int32) <<< (x5 &&& 31)) ||| ((1 : Int32) <<< (x6 &&& 31))) → (¬ (x3 &&& y1) = y1 → zT G (d + 7) mX3_pairsThatFell 24 [zr 1 0, zi x1, zi x2, zi x3, zi x4, zi x5, zi (x6 + 1), zu] [] h Q) ∧ ((x3 &&& y1) = y1 → zC G (d + 6) mX3_countWithout [zr 1 0, zi y1] h (fun r3 h2 => ∃ y4 : Int32, r3 = some (zi y4) ∧ (x1 ≤ y4 → (x2 = 0 → zT G (d + 7) mX3_pairsThatFell 24 [zr 1 0, zi x1, zi x2, zi x3, zi (x4 + 1), zi x5, zi (x6 + 1), zu] [] h2 Q) ∧ (¬ x2 = 0 → Q (some (zi ((100 * x5) + x6))) h2)) ∧ (¬ x1 ≤ y4 → zT G (d + 7) mX3_pairsThatFell 24 [zr 1 0, zi x1, zi x2, zi x3, zi x4, zi x5, zi (x6 + 1), zu] [] h2 Q))))) :
  zT G (d + 7) mX3_pairsThatFell 24 [zr 1 0, zi x1, zi x2, zi x3, zi x4, zi x5, zi x6, zu] [] h Q := by
  refine zt_iload kX3_pairsThatFell_24 rfl ?_
  refine zt_bipush (v := 12) kX3_pairsThatFell_26 rfl ?_
  refine zt_icmp_ge kX3_pairsThatFell_28 (fun c => ?_) (fun c => ?_)
  · replace H := H.1 c
    refine zt_iinc (v := (x5 + 1)) (L' := [zr 1 0, zi x1, zi x2, zi x3, zi x4, zi (x5 + 1), zi x6, zu]) kX3_pairsThatFell_86 rfl rfl (by decide) rfl ?_
    refine zt_goto kX3_pairsThatFell_89 ?_
    exact zt_sub [zr 1 0, zi x1, zi x2, zi x3, zi x4, zi (x5 + 1), zu, zu] ⟨rfl, ⟨rfl, ⟨rfl, ⟨rfl, ⟨rfl, ⟨rfl, trivial⟩⟩⟩⟩⟩⟩ H
  · replace H := H.2 c
    refine zt_iconst (v := 1) kX3_pairsThatFell_31 rfl ?_
    refine zt_iload kX3_pairsThatFell_32 rfl ?_
    refine zt_ishl kX3_pairsThatFell_34 ?_
    refine zt_iconst (v := 1) kX3_pairsThatFell_35 rfl ?_
    refine zt_iload kX3_pairsThatFell_36 rfl ?_
    refine zt_ishl kX3_pairsThatFell_38 ?_
    refine zt_ior kX3_pairsThatFell_39 ?_
    refine zt_topi (fun y1 ey1 => ?_)
    replace H := H y1 ey1
    refine zt_istore (L' := [zr 1 0, zi x1, zi x2, zi x3, zi x4, zi x5, zi x6, zi y1]) kX3_pairsThatFell_40 (by decide) rfl ?_
    refine zt_iload_n kX3_pairsThatFell_42 rfl ?_
    refine zt_iload kX3_pairsThatFell_43 rfl ?_
    refine zt_iand kX3_pairsThatFell_45 ?_
    refine zt_iload kX3_pairsThatFell_46 rfl ?_
    refine zt_icmp_ne kX3_pairsThatFell_48 (fun c => ?_) (fun c => ?_)
    · replace H := H.1 c
      refine zt_iinc (v := (x6 + 1)) (L' := [zr 1 0, zi x1, zi x2, zi x3, zi x4, zi x5, zi (x6 + 1), zi y1]) kX3_pairsThatFell_80 rfl rfl (by decide) rfl ?_
      refine zt_goto kX3_pairsThatFell_83 ?_
      exact zt_sub [zr 1 0, zi x1, zi x2, zi x3, zi x4, zi x5, zi (x6 + 1), zu] ⟨rfl, ⟨rfl, ⟨rfl, ⟨rfl, ⟨rfl, ⟨rfl, ⟨rfl, trivial⟩⟩⟩⟩⟩⟩⟩ H
    · replace H := H.2 c
      refine zt_aload_n kX3_pairsThatFell_51 rfl ?_
      refine zt_iload kX3_pairsThatFell_52 rfl ?_
      refine zt_cV (as := [zi y1]) kX3_pairsThatFell_54 sRX3_65 rfl (by decide) rfl (by simp) rfl H (fun r3 h2 H => ?_)
      obtain ⟨y4, rfl, H⟩ := H
      refine zt_iload_n kX3_pairsThatFell_57 rfl ?_
      refine zt_icmp_ge kX3_pairsThatFell_58 (fun c => ?_) (fun c => ?_)
      · replace H := H.1 c
        refine zt_iload_n kX3_pairsThatFell_64 rfl ?_
        refine zt_if_eq kX3_pairsThatFell_65 (fun c => ?_) (fun c => ?_)
        · replace H := H.1 c
          refine zt_iinc (v := (x4 + 1)) (L' := [zr 1 0, zi x1, zi x2, zi x3, zi (x4 + 1), zi x5, zi x6, zi y1]) kX3_pairsThatFell_77 rfl rfl (by decide) rfl ?_
          refine zt_iinc (v := (x6 + 1)) (L' := [zr 1 0, zi x1, zi x2, zi x3, zi (x4 + 1), zi x5, zi (x6 + 1), zi y1]) kX3_pairsThatFell_80 rfl rfl (by decide) rfl ?_
          refine zt_goto kX3_pairsThatFell_83 ?_
          exact zt_sub [zr 1 0, zi x1, zi x2, zi x3, zi (x4 + 1), zi x5, zi (x6 + 1), zu] ⟨rfl, ⟨rfl, ⟨rfl, ⟨rfl, ⟨rfl, ⟨rfl, ⟨rfl, trivial⟩⟩⟩⟩⟩⟩⟩ H
        · replace H := H.2 c
          refine zt_bipush (v := 100) kX3_pairsThatFell_68 rfl ?_
          refine zt_iload kX3_pairsThatFell_70 rfl ?_
          refine zt_imul kX3_pairsThatFell_72 ?_
          refine zt_iload kX3_pairsThatFell_73 rfl ?_
          refine zt_iadd kX3_pairsThatFell_75 ?_
          exact zt_iret kX3_pairsThatFell_76 rfl H
      · replace H := H.2 c
        refine zt_goto kX3_pairsThatFell_61 ?_
        refine zt_iinc (v := (x6 + 1)) (L' := [zr 1 0, zi x1, zi x2, zi x3, zi x4, zi x5, zi (x6 + 1), zi y1]) kX3_pairsThatFell_80 rfl rfl (by decide) rfl ?_
        refine zt_goto kX3_pairsThatFell_83 ?_
        exact zt_sub [zr 1 0, zi x1, zi x2, zi x3, zi x4, zi x5, zi (x6 + 1), zu] ⟨rfl, ⟨rfl, ⟨rfl, ⟨rfl, ⟨rfl, ⟨rfl, ⟨rfl, trivial⟩⟩⟩⟩⟩⟩⟩ H

theorem kX11_twins_0 : zD cX11_twins 0 1 (.aload_n 0) 1 := by decide +kernel
theorem kX11_twins_1 : zD cX11_twins 1 4 (.getfield 40) 3 := by decide +kernel
theorem kX11_twins_4 : zD cX11_twins 4 7 (.invokevirtual 257) 3 := by decide +kernel
theorem kX11_twins_7 : zD cX11_twins 7 8 (.ireturn) 1 := by decide +kernel
set_option maxRecDepth 10000 in
theorem wX11_twins_0 {G : ZG} {d : Nat} {h : ZH} {Q : Option ZV → ZH → Prop}  
  (H : zC G (d + 6) mX3_twinPairs [zr 1 0] h (fun r2 h1 => ∃ y3 : Int32, r2 = some (zi y3) ∧ Q (some (zi y3)) h1)) :
  zT G (d + 7) mX11_twins 0 [zr 0 0] [] h Q := by
  refine zt_aload_n kX11_twins_0 rfl ?_
  refine zt_get (v := zr 1 0) kX11_twins_1 fRX11_40 rfl (by decide) rfl ?_
  refine zt_cV (as := []) kX11_twins_4 sRX11_257 rfl (by decide) rfl (by simp) rfl H (fun r2 h1 H => ?_)
  obtain ⟨y3, rfl, H⟩ := H
  exact zt_iret kX11_twins_7 rfl H

theorem kX3_twinPairs_0 : zD cX3_twinPairs 0 1 (.iconst 0) 1 := by decide +kernel
theorem kX3_twinPairs_1 : zD cX3_twinPairs 1 2 (.istore_n 1) 1 := by decide +kernel
theorem kX3_twinPairs_2 : zD cX3_twinPairs 2 3 (.iconst 0) 1 := by decide +kernel
theorem kX3_twinPairs_3 : zD cX3_twinPairs 3 4 (.istore_n 2) 1 := by decide +kernel
theorem kX3_twinPairs_4 : zD cX3_twinPairs 4 5 (.iload_n 2) 1 := by decide +kernel
theorem kX3_twinPairs_5 : zD cX3_twinPairs 5 7 (.bipush 12) 2 := by decide +kernel
theorem kX3_twinPairs_7 : zB cX3_twinPairs 7 10 70 (.if_icmp .ge 63) 63 := by decide +kernel
theorem kX3_twinPairs_10 : zD cX3_twinPairs 10 11 (.iload_n 2) 1 := by decide +kernel
theorem kX3_twinPairs_11 : zD cX3_twinPairs 11 12 (.iconst 1) 1 := by decide +kernel
theorem kX3_twinPairs_12 : zD cX3_twinPairs 12 13 (.iadd) 1 := by decide +kernel
theorem kX3_twinPairs_13 : zD cX3_twinPairs 13 14 (.istore_n 3) 1 := by decide +kernel
theorem kX3_twinPairs_14 : zD cX3_twinPairs 14 15 (.iload_n 3) 1 := by decide +kernel
theorem kX3_twinPairs_15 : zD cX3_twinPairs 15 17 (.bipush 12) 2 := by decide +kernel
theorem kX3_twinPairs_17 : zB cX3_twinPairs 17 20 64 (.if_icmp .ge 47) 47 := by decide +kernel
theorem kX3_twinPairs_20 : zD cX3_twinPairs 20 21 (.aload_n 0) 1 := by decide +kernel
theorem kX3_twinPairs_21 : zD cX3_twinPairs 21 24 (.getfield 12) 3 := by decide +kernel
theorem kX3_twinPairs_24 : zD cX3_twinPairs 24 25 (.iload_n 2) 1 := by decide +kernel
theorem kX3_twinPairs_25 : zD cX3_twinPairs 25 28 (.invokevirtual 61) 3 := by decide +kernel
theorem kX3_twinPairs_28 : zB cX3_twinPairs 28 31 58 (.ifCond .eq 30) 30 := by decide +kernel
theorem kX3_twinPairs_31 : zD cX3_twinPairs 31 32 (.aload_n 0) 1 := by decide +kernel
theorem kX3_twinPairs_32 : zD cX3_twinPairs 32 35 (.getfield 12) 3 := by decide +kernel
theorem kX3_twinPairs_35 : zD cX3_twinPairs 35 36 (.iload_n 3) 1 := by decide +kernel
theorem kX3_twinPairs_36 : zD cX3_twinPairs 36 39 (.invokevirtual 61) 3 := by decide +kernel
theorem kX3_twinPairs_39 : zB cX3_twinPairs 39 42 58 (.ifCond .eq 19) 19 := by decide +kernel
theorem kX3_twinPairs_42 : zD cX3_twinPairs 42 43 (.aload_n 0) 1 := by decide +kernel
theorem kX3_twinPairs_43 : zD cX3_twinPairs 43 44 (.iconst 1) 1 := by decide +kernel
theorem kX3_twinPairs_44 : zD cX3_twinPairs 44 45 (.iload_n 2) 1 := by decide +kernel
theorem kX3_twinPairs_45 : zD cX3_twinPairs 45 46 (.ishl) 1 := by decide +kernel
theorem kX3_twinPairs_46 : zD cX3_twinPairs 46 47 (.iconst 1) 1 := by decide +kernel
theorem kX3_twinPairs_47 : zD cX3_twinPairs 47 48 (.iload_n 3) 1 := by decide +kernel
theorem kX3_twinPairs_48 : zD cX3_twinPairs 48 49 (.ishl) 1 := by decide +kernel
theorem kX3_twinPairs_49 : zD cX3_twinPairs 49 52 (.invokevirtual 160) 3 := by decide +kernel
theorem kX3_twinPairs_52 : zB cX3_twinPairs 52 55 58 (.ifCond .eq 6) 6 := by decide +kernel
theorem kX3_twinPairs_55 : zD cX3_twinPairs 55 58 (.iinc 1 1) 3 := by decide +kernel
theorem kX3_twinPairs_58 : zD cX3_twinPairs 58 61 (.iinc 3 1) 3 := by decide +kernel
theorem kX3_twinPairs_61 : zB cX3_twinPairs 61 64 14 (.goto (-47)) (-47) := by decide +kernel
theorem kX3_twinPairs_64 : zD cX3_twinPairs 64 67 (.iinc 2 1) 3 := by decide +kernel
theorem kX3_twinPairs_67 : zB cX3_twinPairs 67 70 4 (.goto (-63)) (-63) := by decide +kernel
theorem kX3_twinPairs_70 : zD cX3_twinPairs 70 71 (.iload_n 1) 1 := by decide +kernel
theorem kX3_twinPairs_71 : zD cX3_twinPairs 71 72 (.ireturn) 1 := by decide +kernel
set_option maxRecDepth 10000 in
theorem wX3_twinPairs_0 {G : ZG} {d : Nat} {h : ZH} {Q : Option ZV → ZH → Prop}  
  (H : zT G (d + 6) mX3_twinPairs 4 [zr 1 0, zi 0, zi 0, zu] [] h Q) :
  zT G (d + 6) mX3_twinPairs 0 [zr 1 0, zu, zu, zu] [] h Q := by
  refine zt_iconst (v := 0) kX3_twinPairs_0 rfl ?_
  refine zt_istore_n (L' := [zr 1 0, zi 0, zu, zu]) kX3_twinPairs_1 (by decide) rfl ?_
  refine zt_iconst (v := 0) kX3_twinPairs_2 rfl ?_
  refine zt_istore_n (L' := [zr 1 0, zi 0, zi 0, zu]) kX3_twinPairs_3 (by decide) rfl ?_
  exact H

set_option maxRecDepth 10000 in
theorem wX3_twinPairs_4 {G : ZG} {d : Nat} {h : ZH} {Q : Option ZV → ZH → Prop} {x1 : Int32} {x2 : Int32} 
  (H : (12 ≤ x2 → Q (some (zi x1)) h) ∧ (¬ 12 ≤ x2 → zT G (d + 6) mX3_twinPairs 14 [zr 1 0, zi x1, zi x2, zi (x2 + 1)] [] h Q)) :
  zT G (d + 6) mX3_twinPairs 4 [zr 1 0, zi x1, zi x2, zu] [] h Q := by
  refine zt_iload_n kX3_twinPairs_4 rfl ?_
  refine zt_bipush (v := 12) kX3_twinPairs_5 rfl ?_
  refine zt_icmp_ge kX3_twinPairs_7 (fun c => ?_) (fun c => ?_)
  · replace H := H.1 c
    refine zt_iload_n kX3_twinPairs_70 rfl ?_
    exact zt_iret kX3_twinPairs_71 rfl H
  · replace H := H.2 c
    refine zt_iload_n kX3_twinPairs_10 rfl ?_
    refine zt_iconst (v := 1) kX3_twinPairs_11 rfl ?_
    refine zt_iadd kX3_twinPairs_12 ?_
    refine zt_istore_n (L' := [zr 1 0, zi x1, zi x2, zi (x2 + 1)]) kX3_twinPairs_13 (by decide) rfl ?_
    exact H

set_option maxRecDepth 10000 in
theorem wX3_twinPairs_14 {G : ZG} {d : Nat} {h : ZH} {Q : Option ZV → ZH → Prop} {x1 : Int32} {x2 : Int32} {x3 : Int32} 
  (H : (12 ≤ x3 → zT G (d + 6) mX3_twinPairs 4 [zr 1 0, zi x1, zi (x2 + 1), zu] [] h Q) ∧ (¬ 12 ≤ x3 → (¬ (hasI (h.1 2 0 6) x2) → zT G (d + 6) mX3_twinPairs 14 [zr 1 0, zi x1, zi x2, zi (x3 + 1)] [] h Q) ∧ ((hasI (h.1 2 0 6) x2) → (¬ (hasI (h.1 2 0 6) x3) → zT G (d + 6) mX3_twinPairs 14 [zr 1 0, zi x1, zi x2, zi (x3 + 1)] [] h Q) ∧ ((hasI (h.1 2 0 6) x3) → zC G (d + 5) mX3_areTwins [zr 1 0, zi ((1 : Int32) <<< (x2 &&& 31)), zi ((1 : Int32) <<< (x3 &&& 31))] h (fun r2 h1 => ∃ y3 : Int32, r2 = some (zi y3) ∧ (y3 = 0 → zT G (d + 6) mX3_twinPairs 14 [zr 1 0, zi x1, zi x2, zi (x3 + 1)] [] h1 Q) ∧ (¬ y3 = 0 → zT G (d + 6) mX3_twinPairs 14 [zr 1 0, zi (x1 + 1), zi x2, zi (x3 + 1)] [] h1 Q)))))) :
  zT G (d + 6) mX3_twinPairs 14 [zr 1 0, zi x1, zi x2, zi x3] [] h Q := by
  refine zt_iload_n kX3_twinPairs_14 rfl ?_
  refine zt_bipush (v := 12) kX3_twinPairs_15 rfl ?_
  refine zt_icmp_ge kX3_twinPairs_17 (fun c => ?_) (fun c => ?_)
  · replace H := H.1 c
    refine zt_iinc (v := (x2 + 1)) (L' := [zr 1 0, zi x1, zi (x2 + 1), zi x3]) kX3_twinPairs_64 rfl rfl (by decide) rfl ?_
    refine zt_goto kX3_twinPairs_67 ?_
    exact zt_sub [zr 1 0, zi x1, zi (x2 + 1), zu] ⟨rfl, ⟨rfl, ⟨rfl, trivial⟩⟩⟩ H
  · replace H := H.2 c
    refine zt_aload_n kX3_twinPairs_20 rfl ?_
    refine zt_get (v := zr 2 0) kX3_twinPairs_21 fRX3_12 rfl (by decide) rfl ?_
    refine zt_iload_n kX3_twinPairs_24 rfl ?_
    refine zt_cV (as := [zi x2]) kX3_twinPairs_25 sRX3_61 rfl (by decide) rfl (by simp) rfl (sX4_holds _ (by decide) ) (fun r h0 hq => ?_)
    obtain ⟨rfl, hh⟩ := hq
    replace hh := hh.symm
    subst hh
    refine zt_ifb_eq kX3_twinPairs_28 (fun c => ?_) (fun c => ?_)
    · replace H := H.1 c
      refine zt_iinc (v := (x3 + 1)) (L' := [zr 1 0, zi x1, zi x2, zi (x3 + 1)]) kX3_twinPairs_58 rfl rfl (by decide) rfl ?_
      refine zt_goto kX3_twinPairs_61 ?_
      exact H
    · replace H := H.2 c
      refine zt_aload_n kX3_twinPairs_31 rfl ?_
      refine zt_get (v := zr 2 0) kX3_twinPairs_32 fRX3_12 rfl (by decide) rfl ?_
      refine zt_iload_n kX3_twinPairs_35 rfl ?_
      refine zt_cV (as := [zi x3]) kX3_twinPairs_36 sRX3_61 rfl (by decide) rfl (by simp) rfl (sX4_holds _ (by decide) ) (fun r h0 hq => ?_)
      obtain ⟨rfl, hh⟩ := hq
      replace hh := hh.symm
      subst hh
      refine zt_ifb_eq kX3_twinPairs_39 (fun c => ?_) (fun c => ?_)
      · replace H := H.1 c
        refine zt_iinc (v := (x3 + 1)) (L' := [zr 1 0, zi x1, zi x2, zi (x3 + 1)]) kX3_twinPairs_58 rfl rfl (by decide) rfl ?_
        refine zt_goto kX3_twinPairs_61 ?_
        exact H
      · replace H := H.2 c
        refine zt_aload_n kX3_twinPairs_42 rfl ?_
        refine zt_iconst (v := 1) kX3_twinPairs_43 rfl ?_
        refine zt_iload_n kX3_twinPairs_44 rfl ?_
        refine zt_ishl kX3_twinPairs_45 ?_
        refine zt_iconst (v := 1) kX3_twinPairs_46 rfl ?_
        refine zt_iload_n kX3_twinPairs_47 rfl ?_
        refine zt_ishl kX3_twinPairs_48 ?_
        refine zt_cV (as := [zi ((1 : Int32) <<< (x2 &&& 31)), zi ((1 : Int32) <<< (x3 &&& 31))]) kX3_twinPairs_49 sRX3_160 rfl (by decide) rfl (by simp) rfl H (fun r2 h1 H => ?_)
        obtain ⟨y3, rfl, H⟩ := H
        refine zt_if_eq kX3_twinPairs_52 (fun c => ?_) (fun c => ?_)
        · replace H := H.1 c
          refine zt_iinc (v := (x3 + 1)) (L' := [zr 1 0, zi x1, zi x2, zi (x3 + 1)]) kX3_twinPairs_58 rfl rfl (by decide) rfl ?_
          refine zt_goto kX3_twinPairs_61 ?_
          exact H
        · replace H := H.2 c
          refine zt_iinc (v := (x1 + 1)) (L' := [zr 1 0, zi (x1 + 1), zi x2, zi x3]) kX3_twinPairs_55 rfl rfl (by decide) rfl ?_
          refine zt_iinc (v := (x3 + 1)) (L' := [zr 1 0, zi (x1 + 1), zi x2, zi (x3 + 1)]) kX3_twinPairs_58 rfl rfl (by decide) rfl ?_
          refine zt_goto kX3_twinPairs_61 ?_
          exact H

theorem kX3_areTwins_0 : zD cX3_areTwins 0 1 (.aload_n 0) 1 := by decide +kernel
theorem kX3_areTwins_1 : zD cX3_areTwins 1 2 (.aload_n 0) 1 := by decide +kernel
theorem kX3_areTwins_2 : zD cX3_areTwins 2 5 (.getfield 12) 3 := by decide +kernel
theorem kX3_areTwins_5 : zD cX3_areTwins 5 8 (.getfield 49) 3 := by decide +kernel
theorem kX3_areTwins_8 : zD cX3_areTwins 8 9 (.iload_n 1) 1 := by decide +kernel
theorem kX3_areTwins_9 : zD cX3_areTwins 9 10 (.iconst (-1)) 1 := by decide +kernel
theorem kX3_areTwins_10 : zD cX3_areTwins 10 11 (.ixor) 1 := by decide +kernel
theorem kX3_areTwins_11 : zD cX3_areTwins 11 12 (.iand) 1 := by decide +kernel
theorem kX3_areTwins_12 : zD cX3_areTwins 12 15 (.invokevirtual 52) 3 := by decide +kernel
theorem kX3_areTwins_15 : zD cX3_areTwins 15 16 (.aload_n 0) 1 := by decide +kernel
theorem kX3_areTwins_16 : zD cX3_areTwins 16 17 (.aload_n 0) 1 := by decide +kernel
theorem kX3_areTwins_17 : zD cX3_areTwins 17 20 (.getfield 12) 3 := by decide +kernel
theorem kX3_areTwins_20 : zD cX3_areTwins 20 23 (.getfield 49) 3 := by decide +kernel
theorem kX3_areTwins_23 : zD cX3_areTwins 23 24 (.iload_n 2) 1 := by decide +kernel
theorem kX3_areTwins_24 : zD cX3_areTwins 24 25 (.iconst (-1)) 1 := by decide +kernel
theorem kX3_areTwins_25 : zD cX3_areTwins 25 26 (.ixor) 1 := by decide +kernel
theorem kX3_areTwins_26 : zD cX3_areTwins 26 27 (.iand) 1 := by decide +kernel
theorem kX3_areTwins_27 : zD cX3_areTwins 27 30 (.invokevirtual 52) 3 := by decide +kernel
theorem kX3_areTwins_30 : zD cX3_areTwins 30 31 (.ixor) 1 := by decide +kernel
theorem kX3_areTwins_31 : zD cX3_areTwins 31 32 (.istore_n 3) 1 := by decide +kernel
theorem kX3_areTwins_32 : zD cX3_areTwins 32 33 (.iload_n 3) 1 := by decide +kernel
theorem kX3_areTwins_33 : zD cX3_areTwins 33 34 (.iload_n 1) 1 := by decide +kernel
theorem kX3_areTwins_34 : zD cX3_areTwins 34 35 (.iload_n 2) 1 := by decide +kernel
theorem kX3_areTwins_35 : zD cX3_areTwins 35 36 (.ior) 1 := by decide +kernel
theorem kX3_areTwins_36 : zD cX3_areTwins 36 37 (.iconst (-1)) 1 := by decide +kernel
theorem kX3_areTwins_37 : zD cX3_areTwins 37 38 (.ixor) 1 := by decide +kernel
theorem kX3_areTwins_38 : zD cX3_areTwins 38 39 (.iand) 1 := by decide +kernel
theorem kX3_areTwins_39 : zB cX3_areTwins 39 42 46 (.ifCond .ne 7) 7 := by decide +kernel
theorem kX3_areTwins_42 : zD cX3_areTwins 42 43 (.iconst 1) 1 := by decide +kernel
theorem kX3_areTwins_43 : zB cX3_areTwins 43 46 47 (.goto 4) 4 := by decide +kernel
theorem kX3_areTwins_46 : zD cX3_areTwins 46 47 (.iconst 0) 1 := by decide +kernel
theorem kX3_areTwins_47 : zD cX3_areTwins 47 48 (.ireturn) 1 := by decide +kernel
set_option maxRecDepth 10000 in
theorem wX3_areTwins_0 {G : ZG} {d : Nat} {h : ZH} {Q : Option ZV → ZH → Prop} {x1 : Int32} {x2 : Int32} 
  (H : zC G (d + 4) mX3_leftOf [zr 1 0, zi ((h.1 2 0 6) &&& (x1 ^^^ (-1)))] h (fun r2 h1 => ∃ y3 : Int32, r2 = some (zi y3) ∧ zC G (d + 4) mX3_leftOf [zr 1 0, zi ((h1.1 2 0 6) &&& (x2 ^^^ (-1)))] h1 (fun r5 h4 => ∃ y6 : Int32, r5 = some (zi y6) ∧ (¬ ((y3 ^^^ y6) &&& ((x1 ||| x2) ^^^ (-1))) = 0 → Q (some (zi 0)) h4) ∧ (((y3 ^^^ y6) &&& ((x1 ||| x2) ^^^ (-1))) = 0 → Q (some (zi 1)) h4)))) :
  zT G (d + 5) mX3_areTwins 0 [zr 1 0, zi x1, zi x2, zu] [] h Q := by
  refine zt_aload_n kX3_areTwins_0 rfl ?_
  refine zt_aload_n kX3_areTwins_1 rfl ?_
  refine zt_get (v := zr 2 0) kX3_areTwins_2 fRX3_12 rfl (by decide) rfl ?_
  refine zt_get (v := zi (h.1 2 0 6)) kX3_areTwins_5 fRX3_49 rfl (by decide) rfl ?_
  refine zt_iload_n kX3_areTwins_8 rfl ?_
  refine zt_iconst (v := (-1)) kX3_areTwins_9 rfl ?_
  refine zt_ixor kX3_areTwins_10 ?_
  refine zt_iand kX3_areTwins_11 ?_
  refine zt_cV (as := [zi ((h.1 2 0 6) &&& (x1 ^^^ (-1)))]) kX3_areTwins_12 sRX3_52 rfl (by decide) rfl (by simp) rfl H (fun r2 h1 H => ?_)
  obtain ⟨y3, rfl, H⟩ := H
  refine zt_aload_n kX3_areTwins_15 rfl ?_
  refine zt_aload_n kX3_areTwins_16 rfl ?_
  refine zt_get (v := zr 2 0) kX3_areTwins_17 fRX3_12 rfl (by decide) rfl ?_
  refine zt_get (v := zi (h1.1 2 0 6)) kX3_areTwins_20 fRX3_49 rfl (by decide) rfl ?_
  refine zt_iload_n kX3_areTwins_23 rfl ?_
  refine zt_iconst (v := (-1)) kX3_areTwins_24 rfl ?_
  refine zt_ixor kX3_areTwins_25 ?_
  refine zt_iand kX3_areTwins_26 ?_
  refine zt_cV (as := [zi ((h1.1 2 0 6) &&& (x2 ^^^ (-1)))]) kX3_areTwins_27 sRX3_52 rfl (by decide) rfl (by simp) rfl H (fun r5 h4 H => ?_)
  obtain ⟨y6, rfl, H⟩ := H
  refine zt_ixor kX3_areTwins_30 ?_
  refine zt_istore_n (L' := [zr 1 0, zi x1, zi x2, zi (y3 ^^^ y6)]) kX3_areTwins_31 (by decide) rfl ?_
  refine zt_iload_n kX3_areTwins_32 rfl ?_
  refine zt_iload_n kX3_areTwins_33 rfl ?_
  refine zt_iload_n kX3_areTwins_34 rfl ?_
  refine zt_ior kX3_areTwins_35 ?_
  refine zt_iconst (v := (-1)) kX3_areTwins_36 rfl ?_
  refine zt_ixor kX3_areTwins_37 ?_
  refine zt_iand kX3_areTwins_38 ?_
  refine zt_if_ne kX3_areTwins_39 (fun c => ?_) (fun c => ?_)
  · replace H := H.1 c
    refine zt_iconst (v := 0) kX3_areTwins_46 rfl ?_
    exact zt_zret kX3_areTwins_47 rfl (by decide) H
  · replace H := H.2 c
    refine zt_iconst (v := 1) kX3_areTwins_42 rfl ?_
    refine zt_goto kX3_areTwins_43 ?_
    exact zt_zret kX3_areTwins_47 rfl (by decide) H

theorem kX11_depends_0 : zD cX11_depends 0 1 (.aload_n 0) 1 := by decide +kernel
theorem kX11_depends_1 : zD cX11_depends 1 2 (.iload_n 1) 1 := by decide +kernel
theorem kX11_depends_2 : zD cX11_depends 2 5 (.invokevirtual 127) 3 := by decide +kernel
theorem kX11_depends_5 : zD cX11_depends 5 6 (.istore_n 2) 1 := by decide +kernel
theorem kX11_depends_6 : zD cX11_depends 6 7 (.iload_n 2) 1 := by decide +kernel
theorem kX11_depends_7 : zB cX11_depends 7 10 14 (.ifCond .eq 7) 7 := by decide +kernel
theorem kX11_depends_10 : zD cX11_depends 10 11 (.iload_n 2) 1 := by decide +kernel
theorem kX11_depends_11 : zB cX11_depends 11 14 22 (.goto 11) 11 := by decide +kernel
theorem kX11_depends_14 : zD cX11_depends 14 15 (.aload_n 0) 1 := by decide +kernel
theorem kX11_depends_15 : zD cX11_depends 15 18 (.getfield 40) 3 := by decide +kernel
theorem kX11_depends_18 : zD cX11_depends 18 19 (.iload_n 1) 1 := by decide +kernel
theorem kX11_depends_19 : zD cX11_depends 19 22 (.invokevirtual 266) 3 := by decide +kernel
theorem kX11_depends_22 : zD cX11_depends 22 23 (.ireturn) 1 := by decide +kernel
set_option maxRecDepth 10000 in
theorem wX11_depends_0 {G : ZG} {d : Nat} {h : ZH} {Q : Option ZV → ZH → Prop} {x1 : Int32} 
  (H : ((stRefI h x1) = 0 → zC G (d + 6) mX3_supportsOf [zr 1 0, zi x1] h (fun r2 h1 => ∃ y3 : Int32, r2 = some (zi y3) ∧ Q (some (zi y3)) h1)) ∧ (¬ (stRefI h x1) = 0 → Q (some (zi (stRefI h x1))) h)) :
  zT G (d + 7) mX11_depends 0 [zr 0 0, zi x1, zu] [] h Q := by
  refine zt_aload_n kX11_depends_0 rfl ?_
  refine zt_iload_n kX11_depends_1 rfl ?_
  refine zt_cV (as := [zi x1]) kX11_depends_2 sRX11_127 rfl (by decide) rfl (by simp) rfl (sX11_stoneRefused _  ) (fun r h0 hq => ?_)
  obtain ⟨rfl, hh⟩ := hq
  replace hh := hh.symm
  subst hh
  refine zt_istore_n (L' := [zr 0 0, zi x1, zi (stRefI h x1)]) kX11_depends_5 (by decide) rfl ?_
  refine zt_iload_n kX11_depends_6 rfl ?_
  refine zt_if_eq kX11_depends_7 (fun c => ?_) (fun c => ?_)
  · replace H := H.1 c
    refine zt_aload_n kX11_depends_14 rfl ?_
    refine zt_get (v := zr 1 0) kX11_depends_15 fRX11_40 rfl (by decide) rfl ?_
    refine zt_iload_n kX11_depends_18 rfl ?_
    refine zt_cV (as := [zi x1]) kX11_depends_19 sRX11_266 rfl (by decide) rfl (by simp) rfl H (fun r2 h1 H => ?_)
    obtain ⟨y3, rfl, H⟩ := H
    exact zt_iret kX11_depends_22 rfl H
  · replace H := H.2 c
    refine zt_iload_n kX11_depends_10 rfl ?_
    refine zt_goto kX11_depends_11 ?_
    exact zt_iret kX11_depends_22 rfl H

theorem kX3_supportsOf_0 : zD cX3_supportsOf 0 1 (.iconst 0) 1 := by decide +kernel
theorem kX3_supportsOf_1 : zD cX3_supportsOf 1 2 (.istore_n 2) 1 := by decide +kernel
theorem kX3_supportsOf_2 : zD cX3_supportsOf 2 3 (.iconst 0) 1 := by decide +kernel
theorem kX3_supportsOf_3 : zD cX3_supportsOf 3 4 (.istore_n 3) 1 := by decide +kernel
theorem kX3_supportsOf_4 : zD cX3_supportsOf 4 5 (.iload_n 3) 1 := by decide +kernel
theorem kX3_supportsOf_5 : zD cX3_supportsOf 5 7 (.bipush 12) 2 := by decide +kernel
theorem kX3_supportsOf_7 : zB cX3_supportsOf 7 10 64 (.if_icmp .ge 57) 57 := by decide +kernel
theorem kX3_supportsOf_10 : zD cX3_supportsOf 10 11 (.iload_n 3) 1 := by decide +kernel
theorem kX3_supportsOf_11 : zD cX3_supportsOf 11 12 (.iload_n 1) 1 := by decide +kernel
theorem kX3_supportsOf_12 : zB cX3_supportsOf 12 15 30 (.if_icmp .eq 18) 18 := by decide +kernel
theorem kX3_supportsOf_15 : zD cX3_supportsOf 15 16 (.aload_n 0) 1 := by decide +kernel
theorem kX3_supportsOf_16 : zD cX3_supportsOf 16 19 (.getfield 12) 3 := by decide +kernel
theorem kX3_supportsOf_19 : zD cX3_supportsOf 19 20 (.iload_n 3) 1 := by decide +kernel
theorem kX3_supportsOf_20 : zD cX3_supportsOf 20 23 (.invokevirtual 61) 3 := by decide +kernel
theorem kX3_supportsOf_23 : zB cX3_supportsOf 23 26 30 (.ifCond .eq 7) 7 := by decide +kernel
theorem kX3_supportsOf_26 : zD cX3_supportsOf 26 27 (.iconst 1) 1 := by decide +kernel
theorem kX3_supportsOf_27 : zB cX3_supportsOf 27 30 31 (.goto 4) 4 := by decide +kernel
theorem kX3_supportsOf_30 : zD cX3_supportsOf 30 31 (.iconst 0) 1 := by decide +kernel
theorem kX3_supportsOf_31 : zD cX3_supportsOf 31 33 (.istore 4) 2 := by decide +kernel
theorem kX3_supportsOf_33 : zD cX3_supportsOf 33 35 (.iload 4) 2 := by decide +kernel
theorem kX3_supportsOf_35 : zB cX3_supportsOf 35 38 58 (.ifCond .eq 23) 23 := by decide +kernel
theorem kX3_supportsOf_38 : zD cX3_supportsOf 38 39 (.aload_n 0) 1 := by decide +kernel
theorem kX3_supportsOf_39 : zD cX3_supportsOf 39 40 (.iconst 1) 1 := by decide +kernel
theorem kX3_supportsOf_40 : zD cX3_supportsOf 40 41 (.iload_n 3) 1 := by decide +kernel
theorem kX3_supportsOf_41 : zD cX3_supportsOf 41 42 (.ishl) 1 := by decide +kernel
theorem kX3_supportsOf_42 : zD cX3_supportsOf 42 45 (.invokevirtual 53) 3 := by decide +kernel
theorem kX3_supportsOf_45 : zD cX3_supportsOf 45 46 (.iload_n 1) 1 := by decide +kernel
theorem kX3_supportsOf_46 : zD cX3_supportsOf 46 47 (.ishr) 1 := by decide +kernel
theorem kX3_supportsOf_47 : zD cX3_supportsOf 47 48 (.iconst 1) 1 := by decide +kernel
theorem kX3_supportsOf_48 : zD cX3_supportsOf 48 49 (.iand) 1 := by decide +kernel
theorem kX3_supportsOf_49 : zB cX3_supportsOf 49 52 58 (.ifCond .eq 9) 9 := by decide +kernel
theorem kX3_supportsOf_52 : zD cX3_supportsOf 52 53 (.iload_n 2) 1 := by decide +kernel
theorem kX3_supportsOf_53 : zD cX3_supportsOf 53 54 (.iconst 1) 1 := by decide +kernel
theorem kX3_supportsOf_54 : zD cX3_supportsOf 54 55 (.iload_n 3) 1 := by decide +kernel
theorem kX3_supportsOf_55 : zD cX3_supportsOf 55 56 (.ishl) 1 := by decide +kernel
theorem kX3_supportsOf_56 : zD cX3_supportsOf 56 57 (.ior) 1 := by decide +kernel
theorem kX3_supportsOf_57 : zD cX3_supportsOf 57 58 (.istore_n 2) 1 := by decide +kernel
theorem kX3_supportsOf_58 : zD cX3_supportsOf 58 61 (.iinc 3 1) 3 := by decide +kernel
theorem kX3_supportsOf_61 : zB cX3_supportsOf 61 64 4 (.goto (-57)) (-57) := by decide +kernel
theorem kX3_supportsOf_64 : zD cX3_supportsOf 64 65 (.iload_n 2) 1 := by decide +kernel
theorem kX3_supportsOf_65 : zD cX3_supportsOf 65 66 (.ireturn) 1 := by decide +kernel
set_option maxRecDepth 10000 in
theorem wX3_supportsOf_0 {G : ZG} {d : Nat} {h : ZH} {Q : Option ZV → ZH → Prop} {x1 : Int32} 
  (H : zT G (d + 6) mX3_supportsOf 4 [zr 1 0, zi x1, zi 0, zi 0, zu] [] h Q) :
  zT G (d + 6) mX3_supportsOf 0 [zr 1 0, zi x1, zu, zu, zu] [] h Q := by
  refine zt_iconst (v := 0) kX3_supportsOf_0 rfl ?_
  refine zt_istore_n (L' := [zr 1 0, zi x1, zi 0, zu, zu]) kX3_supportsOf_1 (by decide) rfl ?_
  refine zt_iconst (v := 0) kX3_supportsOf_2 rfl ?_
  refine zt_istore_n (L' := [zr 1 0, zi x1, zi 0, zi 0, zu]) kX3_supportsOf_3 (by decide) rfl ?_
  exact H

set_option maxRecDepth 10000 in
theorem wX3_supportsOf_4 {G : ZG} {d : Nat} {h : ZH} {Q : Option ZV → ZH → Prop} {x1 : Int32} {x2 : Int32} {x3 : Int32} 
  (H : (12 ≤ x3 → Q (some (zi x2)) h) ∧ (¬ 12 ≤ x3 → (x3 = x1 → zT G (d + 6) mX3_supportsOf 4 [zr 1 0, zi x1, zi x2, zi (x3 + 1), zu] [] h Q) ∧ (¬ x3 = x1 → (¬ (hasI (h.1 2 0 6) x3) → zT G (d + 6) mX3_supportsOf 4 [zr 1 0, zi x1, zi x2, zi (x3 + 1), zu] [] h Q) ∧ ((hasI (h.1 2 0 6) x3) → zC G (d + 5) mX3_fallenWithout [zr 1 0, zi ((1 : Int32) <<< (x3 &&& 31))] h (fun r2 h1 => ∃ y3 : Int32, r2 = some (zi y3) ∧ (((y3 >>> (x1 &&& 31)) &&& 1) = 0 → zT G (d + 6) mX3_supportsOf 4 [zr 1 0, zi x1, zi x2, zi (x3 + 1), zu] [] h1 Q) ∧ (¬ ((y3 >>> (x1 &&& 31)) &&& 1) = 0 → zT G (d + 6) mX3_supportsOf 4 [zr 1 0, zi x1, zi (x2 ||| ((1 : Int32) <<< (x3 &&& 31))), zi (x3 + 1), zu] [] h1 Q)))))) :
  zT G (d + 6) mX3_supportsOf 4 [zr 1 0, zi x1, zi x2, zi x3, zu] [] h Q := by
  refine zt_iload_n kX3_supportsOf_4 rfl ?_
  refine zt_bipush (v := 12) kX3_supportsOf_5 rfl ?_
  refine zt_icmp_ge kX3_supportsOf_7 (fun c => ?_) (fun c => ?_)
  · replace H := H.1 c
    refine zt_iload_n kX3_supportsOf_64 rfl ?_
    exact zt_iret kX3_supportsOf_65 rfl H
  · replace H := H.2 c
    refine zt_iload_n kX3_supportsOf_10 rfl ?_
    refine zt_iload_n kX3_supportsOf_11 rfl ?_
    refine zt_icmp_eq kX3_supportsOf_12 (fun c => ?_) (fun c => ?_)
    · replace H := H.1 c
      refine zt_iconst (v := 0) kX3_supportsOf_30 rfl ?_
      refine zt_istore (L' := [zr 1 0, zi x1, zi x2, zi x3, zi 0]) kX3_supportsOf_31 (by decide) rfl ?_
      refine zt_iload kX3_supportsOf_33 rfl ?_
      refine zt_if_eq kX3_supportsOf_35 (fun _ => ?_) (fun c => absurd c (by decide))
      refine zt_iinc (v := (x3 + 1)) (L' := [zr 1 0, zi x1, zi x2, zi (x3 + 1), zi 0]) kX3_supportsOf_58 rfl rfl (by decide) rfl ?_
      refine zt_goto kX3_supportsOf_61 ?_
      exact zt_sub [zr 1 0, zi x1, zi x2, zi (x3 + 1), zu] ⟨rfl, ⟨rfl, ⟨rfl, ⟨rfl, trivial⟩⟩⟩⟩ H
    · replace H := H.2 c
      refine zt_aload_n kX3_supportsOf_15 rfl ?_
      refine zt_get (v := zr 2 0) kX3_supportsOf_16 fRX3_12 rfl (by decide) rfl ?_
      refine zt_iload_n kX3_supportsOf_19 rfl ?_
      refine zt_cV (as := [zi x3]) kX3_supportsOf_20 sRX3_61 rfl (by decide) rfl (by simp) rfl (sX4_holds _ (by decide) ) (fun r h0 hq => ?_)
      obtain ⟨rfl, hh⟩ := hq
      replace hh := hh.symm
      subst hh
      refine zt_ifb_eq kX3_supportsOf_23 (fun c => ?_) (fun c => ?_)
      · replace H := H.1 c
        refine zt_iconst (v := 0) kX3_supportsOf_30 rfl ?_
        refine zt_istore (L' := [zr 1 0, zi x1, zi x2, zi x3, zi 0]) kX3_supportsOf_31 (by decide) rfl ?_
        refine zt_iload kX3_supportsOf_33 rfl ?_
        refine zt_if_eq kX3_supportsOf_35 (fun _ => ?_) (fun c => absurd c (by decide))
        refine zt_iinc (v := (x3 + 1)) (L' := [zr 1 0, zi x1, zi x2, zi (x3 + 1), zi 0]) kX3_supportsOf_58 rfl rfl (by decide) rfl ?_
        refine zt_goto kX3_supportsOf_61 ?_
        exact zt_sub [zr 1 0, zi x1, zi x2, zi (x3 + 1), zu] ⟨rfl, ⟨rfl, ⟨rfl, ⟨rfl, trivial⟩⟩⟩⟩ H
      · replace H := H.2 c
        refine zt_iconst (v := 1) kX3_supportsOf_26 rfl ?_
        refine zt_goto kX3_supportsOf_27 ?_
        refine zt_istore (L' := [zr 1 0, zi x1, zi x2, zi x3, zi 1]) kX3_supportsOf_31 (by decide) rfl ?_
        refine zt_iload kX3_supportsOf_33 rfl ?_
        refine zt_if_eq kX3_supportsOf_35 (fun c => absurd c (by decide)) (fun _ => ?_)
        refine zt_aload_n kX3_supportsOf_38 rfl ?_
        refine zt_iconst (v := 1) kX3_supportsOf_39 rfl ?_
        refine zt_iload_n kX3_supportsOf_40 rfl ?_
        refine zt_ishl kX3_supportsOf_41 ?_
        refine zt_cV (as := [zi ((1 : Int32) <<< (x3 &&& 31))]) kX3_supportsOf_42 sRX3_53 rfl (by decide) rfl (by simp) rfl H (fun r2 h1 H => ?_)
        obtain ⟨y3, rfl, H⟩ := H
        refine zt_iload_n kX3_supportsOf_45 rfl ?_
        refine zt_ishr kX3_supportsOf_46 ?_
        refine zt_iconst (v := 1) kX3_supportsOf_47 rfl ?_
        refine zt_iand kX3_supportsOf_48 ?_
        refine zt_if_eq kX3_supportsOf_49 (fun c => ?_) (fun c => ?_)
        · replace H := H.1 c
          refine zt_iinc (v := (x3 + 1)) (L' := [zr 1 0, zi x1, zi x2, zi (x3 + 1), zi 1]) kX3_supportsOf_58 rfl rfl (by decide) rfl ?_
          refine zt_goto kX3_supportsOf_61 ?_
          exact zt_sub [zr 1 0, zi x1, zi x2, zi (x3 + 1), zu] ⟨rfl, ⟨rfl, ⟨rfl, ⟨rfl, trivial⟩⟩⟩⟩ H
        · replace H := H.2 c
          refine zt_iload_n kX3_supportsOf_52 rfl ?_
          refine zt_iconst (v := 1) kX3_supportsOf_53 rfl ?_
          refine zt_iload_n kX3_supportsOf_54 rfl ?_
          refine zt_ishl kX3_supportsOf_55 ?_
          refine zt_ior kX3_supportsOf_56 ?_
          refine zt_istore_n (L' := [zr 1 0, zi x1, zi (x2 ||| ((1 : Int32) <<< (x3 &&& 31))), zi x3, zi 1]) kX3_supportsOf_57 (by decide) rfl ?_
          refine zt_iinc (v := (x3 + 1)) (L' := [zr 1 0, zi x1, zi (x2 ||| ((1 : Int32) <<< (x3 &&& 31))), zi (x3 + 1), zi 1]) kX3_supportsOf_58 rfl rfl (by decide) rfl ?_
          refine zt_goto kX3_supportsOf_61 ?_
          exact zt_sub [zr 1 0, zi x1, zi (x2 ||| ((1 : Int32) <<< (x3 &&& 31))), zi (x3 + 1), zu] ⟨rfl, ⟨rfl, ⟨rfl, ⟨rfl, trivial⟩⟩⟩⟩ H

theorem kX12_falls_0 : zD cX12_falls 0 1 (.iload_n 2) 1 := by decide +kernel
theorem kX12_falls_1 : zD cX12_falls 1 2 (.iconst 0) 1 := by decide +kernel
theorem kX12_falls_2 : zD cX12_falls 2 3 (.iconst 2) 1 := by decide +kernel
theorem kX12_falls_3 : zD cX12_falls 3 6 (.invokestatic 53) 3 := by decide +kernel
theorem kX12_falls_6 : zB cX12_falls 6 9 11 (.ifCond .ne 5) 5 := by decide +kernel
theorem kX12_falls_9 : zD cX12_falls 9 10 (.iconst (-1)) 1 := by decide +kernel
theorem kX12_falls_10 : zD cX12_falls 10 11 (.ireturn) 1 := by decide +kernel
theorem kX12_falls_11 : zD cX12_falls 11 12 (.aload_n 0) 1 := by decide +kernel
theorem kX12_falls_12 : zD cX12_falls 12 13 (.iload_n 1) 1 := by decide +kernel
theorem kX12_falls_13 : zD cX12_falls 13 16 (.invokevirtual 154) 3 := by decide +kernel
theorem kX12_falls_16 : zD cX12_falls 16 17 (.istore_n 3) 1 := by decide +kernel
theorem kX12_falls_17 : zD cX12_falls 17 18 (.iload_n 3) 1 := by decide +kernel
theorem kX12_falls_18 : zB cX12_falls 18 21 23 (.ifCond .eq 5) 5 := by decide +kernel
theorem kX12_falls_21 : zD cX12_falls 21 22 (.iload_n 3) 1 := by decide +kernel
theorem kX12_falls_22 : zD cX12_falls 22 23 (.ireturn) 1 := by decide +kernel
theorem kX12_falls_23 : zD cX12_falls 23 24 (.aload_n 0) 1 := by decide +kernel
theorem kX12_falls_24 : zD cX12_falls 24 25 (.aload_n 0) 1 := by decide +kernel
theorem kX12_falls_25 : zD cX12_falls 25 28 (.getfield 9) 3 := by decide +kernel
theorem kX12_falls_28 : zD cX12_falls 28 29 (.iconst 0) 1 := by decide +kernel
theorem kX12_falls_29 : zD cX12_falls 29 30 (.iaload) 1 := by decide +kernel
theorem kX12_falls_30 : zD cX12_falls 30 31 (.iconst 1) 1 := by decide +kernel
theorem kX12_falls_31 : zD cX12_falls 31 32 (.iload_n 1) 1 := by decide +kernel
theorem kX12_falls_32 : zD cX12_falls 32 33 (.ishl) 1 := by decide +kernel
theorem kX12_falls_33 : zD cX12_falls 33 36 (.invokevirtual 110) 3 := by decide +kernel
theorem kX12_falls_36 : zD cX12_falls 36 38 (.istore 4) 2 := by decide +kernel
theorem kX12_falls_38 : zD cX12_falls 38 39 (.aload_n 0) 1 := by decide +kernel
theorem kX12_falls_39 : zD cX12_falls 39 42 (.getfield 9) 3 := by decide +kernel
theorem kX12_falls_42 : zD cX12_falls 42 43 (.iconst 0) 1 := by decide +kernel
theorem kX12_falls_43 : zD cX12_falls 43 44 (.iaload) 1 := by decide +kernel
theorem kX12_falls_44 : zD cX12_falls 44 46 (.iload 4) 2 := by decide +kernel
theorem kX12_falls_46 : zD cX12_falls 46 47 (.iconst (-1)) 1 := by decide +kernel
theorem kX12_falls_47 : zD cX12_falls 47 48 (.ixor) 1 := by decide +kernel
theorem kX12_falls_48 : zD cX12_falls 48 49 (.iand) 1 := by decide +kernel
theorem kX12_falls_49 : zD cX12_falls 49 50 (.iconst 1) 1 := by decide +kernel
theorem kX12_falls_50 : zD cX12_falls 50 51 (.iload_n 1) 1 := by decide +kernel
theorem kX12_falls_51 : zD cX12_falls 51 52 (.ishl) 1 := by decide +kernel
theorem kX12_falls_52 : zD cX12_falls 52 53 (.iconst (-1)) 1 := by decide +kernel
theorem kX12_falls_53 : zD cX12_falls 53 54 (.ixor) 1 := by decide +kernel
theorem kX12_falls_54 : zD cX12_falls 54 55 (.iand) 1 := by decide +kernel
theorem kX12_falls_55 : zD cX12_falls 55 57 (.istore 5) 2 := by decide +kernel
theorem kX12_falls_57 : zD cX12_falls 57 58 (.iload_n 2) 1 := by decide +kernel
theorem kX12_falls_58 : zB cX12_falls 58 61 69 (.ifCond .ne 11) 11 := by decide +kernel
theorem kX12_falls_61 : zD cX12_falls 61 63 (.iload 5) 2 := by decide +kernel
theorem kX12_falls_63 : zD cX12_falls 63 66 (.invokestatic 107) 3 := by decide +kernel
theorem kX12_falls_66 : zB cX12_falls 66 69 83 (.goto 17) 17 := by decide +kernel
theorem kX12_falls_69 : zD cX12_falls 69 70 (.iload_n 2) 1 := by decide +kernel
theorem kX12_falls_70 : zD cX12_falls 70 71 (.iconst 1) 1 := by decide +kernel
theorem kX12_falls_71 : zB cX12_falls 71 74 81 (.if_icmp .ne 10) 10 := by decide +kernel
theorem kX12_falls_74 : zD cX12_falls 74 75 (.aload_n 0) 1 := by decide +kernel
theorem kX12_falls_75 : zD cX12_falls 75 78 (.getfield 90) 3 := by decide +kernel
theorem kX12_falls_78 : zB cX12_falls 78 81 83 (.goto 5) 5 := by decide +kernel
theorem kX12_falls_81 : zD cX12_falls 81 83 (.iload 5) 2 := by decide +kernel
theorem kX12_falls_83 : zD cX12_falls 83 84 (.ireturn) 1 := by decide +kernel
set_option maxRecDepth 10000 in
theorem wX12_falls_0 {G : ZG} {d : Nat} {h : ZH} {Q : Option ZV → ZH → Prop} {x1 : Int32} {x2 : Int32} 
  (H : (((0 : Int32) ≤ x2 ∧ x2 ≤ (2 : Int32)) → ((wStoneI h x1) = 0 → zC G (d + 6) mX12_leftWithout [zr 5 0, zi (h.1 30 0 0), zi ((1 : Int32) <<< (x1 &&& 31))] h (fun r2 h1 => ∃ y3 : Int32, r2 = some (zi y3) ∧ ∀ y4 : Int32, y4 = (((h1.1 30 0 0) &&& (y3 ^^^ (-1))) &&& (((1 : Int32) <<< (x1 &&& 31)) ^^^ (-1))) → (¬ x2 = 0 → (¬ x2 = 1 → Q (some (zi y4)) h1) ∧ (x2 = 1 → Q (some (zi (h1.1 5 0 5))) h1)) ∧ (x2 = 0 → Q (some (zi (bitsI y4))) h1))) ∧ (¬ (wStoneI h x1) = 0 → Q (some (zi (wStoneI h x1))) h)) ∧ (¬ ((0 : Int32) ≤ x2 ∧ x2 ≤ (2 : Int32)) → Q (some (zi (-1))) h)) :
  zT G (d + 7) mX12_falls 0 [zr 5 0, zi x1, zi x2, zu, zu, zu] [] h Q := by
  refine zt_iload_n kX12_falls_0 rfl ?_
  refine zt_iconst (v := 0) kX12_falls_1 rfl ?_
  refine zt_iconst (v := 2) kX12_falls_2 rfl ?_
  refine zt_cS (as := [zi x2, zi 0, zi 2]) kX12_falls_3 sRX12_53 rfl (by simp) rfl (sX12_isIn _  ) (fun r h0 hq => ?_)
  obtain ⟨rfl, hh⟩ := hq
  replace hh := hh.symm
  subst hh
  refine zt_ifb_ne kX12_falls_6 (fun c => ?_) (fun c => ?_)
  · replace H := H.1 c
    refine zt_aload_n kX12_falls_11 rfl ?_
    refine zt_iload_n kX12_falls_12 rfl ?_
    refine zt_cV (as := [zi x1]) kX12_falls_13 sRX12_154 rfl (by decide) rfl (by simp) rfl (sX12_wrongStone _  ) (fun r h0 hq => ?_)
    obtain ⟨rfl, hh⟩ := hq
    replace hh := hh.symm
    subst hh
    refine zt_istore_n (L' := [zr 5 0, zi x1, zi x2, zi (wStoneI h x1), zu, zu]) kX12_falls_16 (by decide) rfl ?_
    refine zt_iload_n kX12_falls_17 rfl ?_
    refine zt_if_eq kX12_falls_18 (fun c => ?_) (fun c => ?_)
    · replace H := H.1 c
      refine zt_aload_n kX12_falls_23 rfl ?_
      refine zt_aload_n kX12_falls_24 rfl ?_
      refine zt_get (v := zr 30 0) kX12_falls_25 fRX12_9 rfl (by decide) rfl ?_
      refine zt_iconst (v := 0) kX12_falls_28 rfl ?_
      refine zt_ialdc 0 rfl kX12_falls_29 rfl (by decide) (zvp_dec (by decide)) ?_
      refine zt_iconst (v := 1) kX12_falls_30 rfl ?_
      refine zt_iload_n kX12_falls_31 rfl ?_
      refine zt_ishl kX12_falls_32 ?_
      refine zt_cV (as := [zi (h.1 30 0 0), zi ((1 : Int32) <<< (x1 &&& 31))]) kX12_falls_33 sRX12_110 rfl (by decide) rfl (by simp) rfl H (fun r2 h1 H => ?_)
      obtain ⟨y3, rfl, H⟩ := H
      refine zt_istore (L' := [zr 5 0, zi x1, zi x2, zi (wStoneI h x1), zi y3, zu]) kX12_falls_36 (by decide) rfl ?_
      refine zt_aload_n kX12_falls_38 rfl ?_
      refine zt_get (v := zr 30 0) kX12_falls_39 fRX12_9 rfl (by decide) rfl ?_
      refine zt_iconst (v := 0) kX12_falls_42 rfl ?_
      refine zt_ialdc 0 rfl kX12_falls_43 rfl (by decide) (zvp_dec (by decide)) ?_
      refine zt_iload kX12_falls_44 rfl ?_
      refine zt_iconst (v := (-1)) kX12_falls_46 rfl ?_
      refine zt_ixor kX12_falls_47 ?_
      refine zt_iand kX12_falls_48 ?_
      refine zt_iconst (v := 1) kX12_falls_49 rfl ?_
      refine zt_iload_n kX12_falls_50 rfl ?_
      refine zt_ishl kX12_falls_51 ?_
      refine zt_iconst (v := (-1)) kX12_falls_52 rfl ?_
      refine zt_ixor kX12_falls_53 ?_
      refine zt_iand kX12_falls_54 ?_
      refine zt_topi (fun y4 ey4 => ?_)
      replace H := H y4 ey4
      refine zt_istore (L' := [zr 5 0, zi x1, zi x2, zi (wStoneI h x1), zi y3, zi y4]) kX12_falls_55 (by decide) rfl ?_
      refine zt_iload_n kX12_falls_57 rfl ?_
      refine zt_if_ne kX12_falls_58 (fun c => ?_) (fun c => ?_)
      · replace H := H.1 c
        refine zt_iload_n kX12_falls_69 rfl ?_
        refine zt_iconst (v := 1) kX12_falls_70 rfl ?_
        refine zt_icmp_ne kX12_falls_71 (fun c => ?_) (fun c => ?_)
        · replace H := H.1 c
          refine zt_iload kX12_falls_81 rfl ?_
          exact zt_iret kX12_falls_83 rfl H
        · replace H := H.2 c
          refine zt_aload_n kX12_falls_74 rfl ?_
          refine zt_get (v := zi (h1.1 5 0 5)) kX12_falls_75 fRX12_90 rfl (by decide) rfl ?_
          refine zt_goto kX12_falls_78 ?_
          exact zt_iret kX12_falls_83 rfl H
      · replace H := H.2 c
        refine zt_iload kX12_falls_61 rfl ?_
        refine zt_cS (as := [zi y4]) kX12_falls_63 sRX12_107 rfl (by simp) rfl (sX12_bits _  ) (fun r h0 hq => ?_)
        obtain ⟨rfl, hh⟩ := hq
        replace hh := hh.symm
        subst hh
        refine zt_goto kX12_falls_66 ?_
        exact zt_iret kX12_falls_83 rfl H
    · replace H := H.2 c
      refine zt_iload_n kX12_falls_21 rfl ?_
      exact zt_iret kX12_falls_22 rfl H
  · replace H := H.2 c
    refine zt_iconst (v := (-1)) kX12_falls_9 rfl ?_
    exact zt_iret kX12_falls_10 rfl H

theorem kX12_corners_0 : zD cX12_corners 0 1 (.iload_n 1) 1 := by decide +kernel
theorem kX12_corners_1 : zD cX12_corners 1 2 (.iconst 0) 1 := by decide +kernel
theorem kX12_corners_2 : zD cX12_corners 2 3 (.iconst 1) 1 := by decide +kernel
theorem kX12_corners_3 : zD cX12_corners 3 6 (.invokestatic 53) 3 := by decide +kernel
theorem kX12_corners_6 : zB cX12_corners 6 9 11 (.ifCond .ne 5) 5 := by decide +kernel
theorem kX12_corners_9 : zD cX12_corners 9 10 (.iconst (-1)) 1 := by decide +kernel
theorem kX12_corners_10 : zD cX12_corners 10 11 (.ireturn) 1 := by decide +kernel
theorem kX12_corners_11 : zD cX12_corners 11 12 (.iload_n 1) 1 := by decide +kernel
theorem kX12_corners_12 : zD cX12_corners 12 13 (.iconst 1) 1 := by decide +kernel
theorem kX12_corners_13 : zB cX12_corners 13 16 27 (.if_icmp .ne 14) 14 := by decide +kernel
theorem kX12_corners_16 : zD cX12_corners 16 17 (.aload_n 0) 1 := by decide +kernel
theorem kX12_corners_17 : zD cX12_corners 17 18 (.aload_n 0) 1 := by decide +kernel
theorem kX12_corners_18 : zD cX12_corners 18 21 (.getfield 9) 3 := by decide +kernel
theorem kX12_corners_21 : zD cX12_corners 21 22 (.iconst 0) 1 := by decide +kernel
theorem kX12_corners_22 : zD cX12_corners 22 23 (.iaload) 1 := by decide +kernel
theorem kX12_corners_23 : zD cX12_corners 23 26 (.invokevirtual 166) 3 := by decide +kernel
theorem kX12_corners_26 : zD cX12_corners 26 27 (.ireturn) 1 := by decide +kernel
theorem kX12_corners_27 : zD cX12_corners 27 28 (.iconst 0) 1 := by decide +kernel
theorem kX12_corners_28 : zD cX12_corners 28 29 (.istore_n 2) 1 := by decide +kernel
theorem kX12_corners_29 : zD cX12_corners 29 30 (.iconst 0) 1 := by decide +kernel
theorem kX12_corners_30 : zD cX12_corners 30 31 (.istore_n 3) 1 := by decide +kernel
theorem kX12_corners_31 : zD cX12_corners 31 32 (.iload_n 3) 1 := by decide +kernel
theorem kX12_corners_32 : zD cX12_corners 32 34 (.bipush 12) 2 := by decide +kernel
theorem kX12_corners_34 : zB cX12_corners 34 37 89 (.if_icmp .ge 55) 55 := by decide +kernel
theorem kX12_corners_37 : zD cX12_corners 37 38 (.iload_n 2) 1 := by decide +kernel
theorem kX12_corners_38 : zD cX12_corners 38 39 (.aload_n 0) 1 := by decide +kernel
theorem kX12_corners_39 : zD cX12_corners 39 40 (.iload_n 3) 1 := by decide +kernel
theorem kX12_corners_40 : zD cX12_corners 40 43 (.invokevirtual 133) 3 := by decide +kernel
theorem kX12_corners_43 : zB cX12_corners 43 46 80 (.ifCond .eq 37) 37 := by decide +kernel
theorem kX12_corners_46 : zD cX12_corners 46 47 (.aload_n 0) 1 := by decide +kernel
theorem kX12_corners_47 : zD cX12_corners 47 50 (.getfield 9) 3 := by decide +kernel
theorem kX12_corners_50 : zD cX12_corners 50 51 (.iconst 0) 1 := by decide +kernel
theorem kX12_corners_51 : zD cX12_corners 51 52 (.iaload) 1 := by decide +kernel
theorem kX12_corners_52 : zD cX12_corners 52 53 (.iconst 1) 1 := by decide +kernel
theorem kX12_corners_53 : zD cX12_corners 53 54 (.iload_n 3) 1 := by decide +kernel
theorem kX12_corners_54 : zD cX12_corners 54 55 (.ishl) 1 := by decide +kernel
theorem kX12_corners_55 : zB cX12_corners 55 58 80 (.if_icmp .eq 25) 25 := by decide +kernel
theorem kX12_corners_58 : zD cX12_corners 58 59 (.aload_n 0) 1 := by decide +kernel
theorem kX12_corners_59 : zD cX12_corners 59 60 (.aload_n 0) 1 := by decide +kernel
theorem kX12_corners_60 : zD cX12_corners 60 63 (.getfield 9) 3 := by decide +kernel
theorem kX12_corners_63 : zD cX12_corners 63 64 (.iconst 0) 1 := by decide +kernel
theorem kX12_corners_64 : zD cX12_corners 64 65 (.iaload) 1 := by decide +kernel
theorem kX12_corners_65 : zD cX12_corners 65 66 (.iconst 1) 1 := by decide +kernel
theorem kX12_corners_66 : zD cX12_corners 66 67 (.iload_n 3) 1 := by decide +kernel
theorem kX12_corners_67 : zD cX12_corners 67 68 (.ishl) 1 := by decide +kernel
theorem kX12_corners_68 : zD cX12_corners 68 71 (.invokevirtual 110) 3 := by decide +kernel
theorem kX12_corners_71 : zB cX12_corners 71 74 80 (.ifCond .ne 9) 9 := by decide +kernel
theorem kX12_corners_74 : zD cX12_corners 74 75 (.iconst 1) 1 := by decide +kernel
theorem kX12_corners_75 : zD cX12_corners 75 76 (.iload_n 3) 1 := by decide +kernel
theorem kX12_corners_76 : zD cX12_corners 76 77 (.ishl) 1 := by decide +kernel
theorem kX12_corners_77 : zB cX12_corners 77 80 81 (.goto 4) 4 := by decide +kernel
theorem kX12_corners_80 : zD cX12_corners 80 81 (.iconst 0) 1 := by decide +kernel
theorem kX12_corners_81 : zD cX12_corners 81 82 (.ior) 1 := by decide +kernel
theorem kX12_corners_82 : zD cX12_corners 82 83 (.istore_n 2) 1 := by decide +kernel
theorem kX12_corners_83 : zD cX12_corners 83 86 (.iinc 3 1) 3 := by decide +kernel
theorem kX12_corners_86 : zB cX12_corners 86 89 31 (.goto (-55)) (-55) := by decide +kernel
theorem kX12_corners_89 : zD cX12_corners 89 90 (.iload_n 2) 1 := by decide +kernel
theorem kX12_corners_90 : zD cX12_corners 90 91 (.ireturn) 1 := by decide +kernel
set_option maxRecDepth 10000 in
theorem wX12_corners_0 {G : ZG} {d : Nat} {h : ZH} {Q : Option ZV → ZH → Prop} {x1 : Int32} 
  (H : (((0 : Int32) ≤ x1 ∧ x1 ≤ (1 : Int32)) → (¬ x1 = 1 → zT G (d + 9) mX12_corners 31 [zr 5 0, zi x1, zi 0, zi 0] [] h Q) ∧ (x1 = 1 → zC G (d + 8) mX12_safeOf [zr 5 0, zi (h.1 30 0 0)] h (fun r2 h1 => ∃ y3 : Int32, r2 = some (zi y3) ∧ Q (some (zi y3)) h1))) ∧ (¬ ((0 : Int32) ≤ x1 ∧ x1 ≤ (1 : Int32)) → Q (some (zi (-1))) h)) :
  zT G (d + 9) mX12_corners 0 [zr 5 0, zi x1, zu, zu] [] h Q := by
  refine zt_iload_n kX12_corners_0 rfl ?_
  refine zt_iconst (v := 0) kX12_corners_1 rfl ?_
  refine zt_iconst (v := 1) kX12_corners_2 rfl ?_
  refine zt_cS (as := [zi x1, zi 0, zi 1]) kX12_corners_3 sRX12_53 rfl (by simp) rfl (sX12_isIn _  ) (fun r h0 hq => ?_)
  obtain ⟨rfl, hh⟩ := hq
  replace hh := hh.symm
  subst hh
  refine zt_ifb_ne kX12_corners_6 (fun c => ?_) (fun c => ?_)
  · replace H := H.1 c
    refine zt_iload_n kX12_corners_11 rfl ?_
    refine zt_iconst (v := 1) kX12_corners_12 rfl ?_
    refine zt_icmp_ne kX12_corners_13 (fun c => ?_) (fun c => ?_)
    · replace H := H.1 c
      refine zt_iconst (v := 0) kX12_corners_27 rfl ?_
      refine zt_istore_n (L' := [zr 5 0, zi x1, zi 0, zu]) kX12_corners_28 (by decide) rfl ?_
      refine zt_iconst (v := 0) kX12_corners_29 rfl ?_
      refine zt_istore_n (L' := [zr 5 0, zi x1, zi 0, zi 0]) kX12_corners_30 (by decide) rfl ?_
      exact H
    · replace H := H.2 c
      refine zt_aload_n kX12_corners_16 rfl ?_
      refine zt_aload_n kX12_corners_17 rfl ?_
      refine zt_get (v := zr 30 0) kX12_corners_18 fRX12_9 rfl (by decide) rfl ?_
      refine zt_iconst (v := 0) kX12_corners_21 rfl ?_
      refine zt_ialdc 0 rfl kX12_corners_22 rfl (by decide) (zvp_dec (by decide)) ?_
      refine zt_cV (as := [zi (h.1 30 0 0)]) kX12_corners_23 sRX12_166 rfl (by decide) rfl (by simp) rfl H (fun r2 h1 H => ?_)
      obtain ⟨y3, rfl, H⟩ := H
      exact zt_iret kX12_corners_26 rfl H
  · replace H := H.2 c
    refine zt_iconst (v := (-1)) kX12_corners_9 rfl ?_
    exact zt_iret kX12_corners_10 rfl H

set_option maxRecDepth 10000 in
theorem wX12_corners_31 {G : ZG} {d : Nat} {h : ZH} {Q : Option ZV → ZH → Prop} {x1 : Int32} {x2 : Int32} {x3 : Int32} 
  (H : (12 ≤ x3 → Q (some (zi x2)) h) ∧ (¬ 12 ≤ x3 → (¬ (hasI (h.1 30 0 0) x3) → zT G (d + 9) mX12_corners 31 [zr 5 0, zi x1, zi (x2 ||| 0), zi (x3 + 1)] [] h Q) ∧ ((hasI (h.1 30 0 0) x3) → ((h.1 30 0 0) = ((1 : Int32) <<< (x3 &&& 31)) → zT G (d + 9) mX12_corners 31 [zr 5 0, zi x1, zi (x2 ||| 0), zi (x3 + 1)] [] h Q) ∧ (¬ (h.1 30 0 0) = ((1 : Int32) <<< (x3 &&& 31)) → zC G (d + 8) mX12_leftWithout [zr 5 0, zi (h.1 30 0 0), zi ((1 : Int32) <<< (x3 &&& 31))] h (fun r2 h1 => ∃ y3 : Int32, r2 = some (zi y3) ∧ (¬ y3 = 0 → zT G (d + 9) mX12_corners 31 [zr 5 0, zi x1, zi (x2 ||| 0), zi (x3 + 1)] [] h1 Q) ∧ (y3 = 0 → zT G (d + 9) mX12_corners 31 [zr 5 0, zi x1, zi (x2 ||| ((1 : Int32) <<< (x3 &&& 31))), zi (x3 + 1)] [] h1 Q)))))) :
  zT G (d + 9) mX12_corners 31 [zr 5 0, zi x1, zi x2, zi x3] [] h Q := by
  refine zt_iload_n kX12_corners_31 rfl ?_
  refine zt_bipush (v := 12) kX12_corners_32 rfl ?_
  refine zt_icmp_ge kX12_corners_34 (fun c => ?_) (fun c => ?_)
  · replace H := H.1 c
    refine zt_iload_n kX12_corners_89 rfl ?_
    exact zt_iret kX12_corners_90 rfl H
  · replace H := H.2 c
    refine zt_iload_n kX12_corners_37 rfl ?_
    refine zt_aload_n kX12_corners_38 rfl ?_
    refine zt_iload_n kX12_corners_39 rfl ?_
    refine zt_cV (as := [zi x3]) kX12_corners_40 sRX12_133 rfl (by decide) rfl (by simp) rfl (sX12_isThere _  ) (fun r h0 hq => ?_)
    obtain ⟨rfl, hh⟩ := hq
    replace hh := hh.symm
    subst hh
    refine zt_ifb_eq kX12_corners_43 (fun c => ?_) (fun c => ?_)
    · replace H := H.1 c
      refine zt_iconst (v := 0) kX12_corners_80 rfl ?_
      refine zt_ior kX12_corners_81 ?_
      refine zt_istore_n (L' := [zr 5 0, zi x1, zi (x2 ||| 0), zi x3]) kX12_corners_82 (by decide) rfl ?_
      refine zt_iinc (v := (x3 + 1)) (L' := [zr 5 0, zi x1, zi (x2 ||| 0), zi (x3 + 1)]) kX12_corners_83 rfl rfl (by decide) rfl ?_
      refine zt_goto kX12_corners_86 ?_
      exact H
    · replace H := H.2 c
      refine zt_aload_n kX12_corners_46 rfl ?_
      refine zt_get (v := zr 30 0) kX12_corners_47 fRX12_9 rfl (by decide) rfl ?_
      refine zt_iconst (v := 0) kX12_corners_50 rfl ?_
      refine zt_ialdc 0 rfl kX12_corners_51 rfl (by decide) (zvp_dec (by decide)) ?_
      refine zt_iconst (v := 1) kX12_corners_52 rfl ?_
      refine zt_iload_n kX12_corners_53 rfl ?_
      refine zt_ishl kX12_corners_54 ?_
      refine zt_icmp_eq kX12_corners_55 (fun c => ?_) (fun c => ?_)
      · replace H := H.1 c
        refine zt_iconst (v := 0) kX12_corners_80 rfl ?_
        refine zt_ior kX12_corners_81 ?_
        refine zt_istore_n (L' := [zr 5 0, zi x1, zi (x2 ||| 0), zi x3]) kX12_corners_82 (by decide) rfl ?_
        refine zt_iinc (v := (x3 + 1)) (L' := [zr 5 0, zi x1, zi (x2 ||| 0), zi (x3 + 1)]) kX12_corners_83 rfl rfl (by decide) rfl ?_
        refine zt_goto kX12_corners_86 ?_
        exact H
      · replace H := H.2 c
        refine zt_aload_n kX12_corners_58 rfl ?_
        refine zt_aload_n kX12_corners_59 rfl ?_
        refine zt_get (v := zr 30 0) kX12_corners_60 fRX12_9 rfl (by decide) rfl ?_
        refine zt_iconst (v := 0) kX12_corners_63 rfl ?_
        refine zt_ialdc 0 rfl kX12_corners_64 rfl (by decide) (zvp_dec (by decide)) ?_
        refine zt_iconst (v := 1) kX12_corners_65 rfl ?_
        refine zt_iload_n kX12_corners_66 rfl ?_
        refine zt_ishl kX12_corners_67 ?_
        refine zt_cV (as := [zi (h.1 30 0 0), zi ((1 : Int32) <<< (x3 &&& 31))]) kX12_corners_68 sRX12_110 rfl (by decide) rfl (by simp) rfl H (fun r2 h1 H => ?_)
        obtain ⟨y3, rfl, H⟩ := H
        refine zt_if_ne kX12_corners_71 (fun c => ?_) (fun c => ?_)
        · replace H := H.1 c
          refine zt_iconst (v := 0) kX12_corners_80 rfl ?_
          refine zt_ior kX12_corners_81 ?_
          refine zt_istore_n (L' := [zr 5 0, zi x1, zi (x2 ||| 0), zi x3]) kX12_corners_82 (by decide) rfl ?_
          refine zt_iinc (v := (x3 + 1)) (L' := [zr 5 0, zi x1, zi (x2 ||| 0), zi (x3 + 1)]) kX12_corners_83 rfl rfl (by decide) rfl ?_
          refine zt_goto kX12_corners_86 ?_
          exact H
        · replace H := H.2 c
          refine zt_iconst (v := 1) kX12_corners_74 rfl ?_
          refine zt_iload_n kX12_corners_75 rfl ?_
          refine zt_ishl kX12_corners_76 ?_
          refine zt_goto kX12_corners_77 ?_
          refine zt_ior kX12_corners_81 ?_
          refine zt_istore_n (L' := [zr 5 0, zi x1, zi (x2 ||| ((1 : Int32) <<< (x3 &&& 31))), zi x3]) kX12_corners_82 (by decide) rfl ?_
          refine zt_iinc (v := (x3 + 1)) (L' := [zr 5 0, zi x1, zi (x2 ||| ((1 : Int32) <<< (x3 &&& 31))), zi (x3 + 1)]) kX12_corners_83 rfl rfl (by decide) rfl ?_
          refine zt_goto kX12_corners_86 ?_
          exact H

theorem kX12_worst_0 : zD cX12_worst 0 2 (.bipush (-4)) 2 := by decide +kernel
theorem kX12_worst_2 : zD cX12_worst 2 3 (.istore_n 1) 1 := by decide +kernel
theorem kX12_worst_3 : zD cX12_worst 3 4 (.iconst (-1)) 1 := by decide +kernel
theorem kX12_worst_4 : zD cX12_worst 4 5 (.istore_n 2) 1 := by decide +kernel
theorem kX12_worst_5 : zD cX12_worst 5 6 (.iconst 0) 1 := by decide +kernel
theorem kX12_worst_6 : zD cX12_worst 6 7 (.istore_n 3) 1 := by decide +kernel
theorem kX12_worst_7 : zD cX12_worst 7 8 (.iload_n 3) 1 := by decide +kernel
theorem kX12_worst_8 : zD cX12_worst 8 10 (.bipush 12) 2 := by decide +kernel
theorem kX12_worst_10 : zB cX12_worst 10 13 63 (.if_icmp .ge 53) 53 := by decide +kernel
theorem kX12_worst_13 : zD cX12_worst 13 14 (.aload_n 0) 1 := by decide +kernel
theorem kX12_worst_14 : zD cX12_worst 14 15 (.iload_n 3) 1 := by decide +kernel
theorem kX12_worst_15 : zD cX12_worst 15 18 (.invokevirtual 133) 3 := by decide +kernel
theorem kX12_worst_18 : zB cX12_worst 18 21 57 (.ifCond .eq 39) 39 := by decide +kernel
theorem kX12_worst_21 : zD cX12_worst 21 22 (.aload_n 0) 1 := by decide +kernel
theorem kX12_worst_22 : zD cX12_worst 22 23 (.aload_n 0) 1 := by decide +kernel
theorem kX12_worst_23 : zD cX12_worst 23 26 (.getfield 9) 3 := by decide +kernel
theorem kX12_worst_26 : zD cX12_worst 26 27 (.iconst 0) 1 := by decide +kernel
theorem kX12_worst_27 : zD cX12_worst 27 28 (.iaload) 1 := by decide +kernel
theorem kX12_worst_28 : zD cX12_worst 28 29 (.iconst 1) 1 := by decide +kernel
theorem kX12_worst_29 : zD cX12_worst 29 30 (.iload_n 3) 1 := by decide +kernel
theorem kX12_worst_30 : zD cX12_worst 30 31 (.ishl) 1 := by decide +kernel
theorem kX12_worst_31 : zD cX12_worst 31 34 (.invokevirtual 163) 3 := by decide +kernel
theorem kX12_worst_34 : zD cX12_worst 34 35 (.iload_n 2) 1 := by decide +kernel
theorem kX12_worst_35 : zB cX12_worst 35 38 41 (.if_icmp .gt 6) 6 := by decide +kernel
theorem kX12_worst_38 : zB cX12_worst 38 41 57 (.goto 19) 19 := by decide +kernel
theorem kX12_worst_41 : zD cX12_worst 41 42 (.iload_n 3) 1 := by decide +kernel
theorem kX12_worst_42 : zD cX12_worst 42 43 (.istore_n 1) 1 := by decide +kernel
theorem kX12_worst_43 : zD cX12_worst 43 44 (.aload_n 0) 1 := by decide +kernel
theorem kX12_worst_44 : zD cX12_worst 44 45 (.aload_n 0) 1 := by decide +kernel
theorem kX12_worst_45 : zD cX12_worst 45 48 (.getfield 9) 3 := by decide +kernel
theorem kX12_worst_48 : zD cX12_worst 48 49 (.iconst 0) 1 := by decide +kernel
theorem kX12_worst_49 : zD cX12_worst 49 50 (.iaload) 1 := by decide +kernel
theorem kX12_worst_50 : zD cX12_worst 50 51 (.iconst 1) 1 := by decide +kernel
theorem kX12_worst_51 : zD cX12_worst 51 52 (.iload_n 3) 1 := by decide +kernel
theorem kX12_worst_52 : zD cX12_worst 52 53 (.ishl) 1 := by decide +kernel
theorem kX12_worst_53 : zD cX12_worst 53 56 (.invokevirtual 163) 3 := by decide +kernel
theorem kX12_worst_56 : zD cX12_worst 56 57 (.istore_n 2) 1 := by decide +kernel
theorem kX12_worst_57 : zD cX12_worst 57 60 (.iinc 3 1) 3 := by decide +kernel
theorem kX12_worst_60 : zB cX12_worst 60 63 7 (.goto (-53)) (-53) := by decide +kernel
theorem kX12_worst_63 : zD cX12_worst 63 64 (.iload_n 1) 1 := by decide +kernel
theorem kX12_worst_64 : zD cX12_worst 64 65 (.ireturn) 1 := by decide +kernel
set_option maxRecDepth 10000 in
theorem wX12_worst_0 {G : ZG} {d : Nat} {h : ZH} {Q : Option ZV → ZH → Prop}  
  (H : zT G (d + 8) mX12_worst 7 [zr 5 0, zi (-4), zi (-1), zi 0] [] h Q) :
  zT G (d + 8) mX12_worst 0 [zr 5 0, zu, zu, zu] [] h Q := by
  refine zt_bipush (v := (-4)) kX12_worst_0 rfl ?_
  refine zt_istore_n (L' := [zr 5 0, zi (-4), zu, zu]) kX12_worst_2 (by decide) rfl ?_
  refine zt_iconst (v := (-1)) kX12_worst_3 rfl ?_
  refine zt_istore_n (L' := [zr 5 0, zi (-4), zi (-1), zu]) kX12_worst_4 (by decide) rfl ?_
  refine zt_iconst (v := 0) kX12_worst_5 rfl ?_
  refine zt_istore_n (L' := [zr 5 0, zi (-4), zi (-1), zi 0]) kX12_worst_6 (by decide) rfl ?_
  exact H

set_option maxRecDepth 10000 in
theorem wX12_worst_7 {G : ZG} {d : Nat} {h : ZH} {Q : Option ZV → ZH → Prop} {x1 : Int32} {x2 : Int32} {x3 : Int32} 
  (H : (12 ≤ x3 → Q (some (zi x1)) h) ∧ (¬ 12 ≤ x3 → (¬ (hasI (h.1 30 0 0) x3) → zT G (d + 8) mX12_worst 7 [zr 5 0, zi x1, zi x2, zi (x3 + 1)] [] h Q) ∧ ((hasI (h.1 30 0 0) x3) → zC G (d + 7) mX12_fallsOf [zr 5 0, zi (h.1 30 0 0), zi ((1 : Int32) <<< (x3 &&& 31))] h (fun r2 h1 => ∃ y3 : Int32, r2 = some (zi y3) ∧ (x2 < y3 → zC G (d + 7) mX12_fallsOf [zr 5 0, zi (h1.1 30 0 0), zi ((1 : Int32) <<< (x3 &&& 31))] h1 (fun r5 h4 => ∃ y6 : Int32, r5 = some (zi y6) ∧ zT G (d + 8) mX12_worst 7 [zr 5 0, zi x3, zi y6, zi (x3 + 1)] [] h4 Q)) ∧ (¬ x2 < y3 → zT G (d + 8) mX12_worst 7 [zr 5 0, zi x1, zi x2, zi (x3 + 1)] [] h1 Q))))) :
  zT G (d + 8) mX12_worst 7 [zr 5 0, zi x1, zi x2, zi x3] [] h Q := by
  refine zt_iload_n kX12_worst_7 rfl ?_
  refine zt_bipush (v := 12) kX12_worst_8 rfl ?_
  refine zt_icmp_ge kX12_worst_10 (fun c => ?_) (fun c => ?_)
  · replace H := H.1 c
    refine zt_iload_n kX12_worst_63 rfl ?_
    exact zt_iret kX12_worst_64 rfl H
  · replace H := H.2 c
    refine zt_aload_n kX12_worst_13 rfl ?_
    refine zt_iload_n kX12_worst_14 rfl ?_
    refine zt_cV (as := [zi x3]) kX12_worst_15 sRX12_133 rfl (by decide) rfl (by simp) rfl (sX12_isThere _  ) (fun r h0 hq => ?_)
    obtain ⟨rfl, hh⟩ := hq
    replace hh := hh.symm
    subst hh
    refine zt_ifb_eq kX12_worst_18 (fun c => ?_) (fun c => ?_)
    · replace H := H.1 c
      refine zt_iinc (v := (x3 + 1)) (L' := [zr 5 0, zi x1, zi x2, zi (x3 + 1)]) kX12_worst_57 rfl rfl (by decide) rfl ?_
      refine zt_goto kX12_worst_60 ?_
      exact H
    · replace H := H.2 c
      refine zt_aload_n kX12_worst_21 rfl ?_
      refine zt_aload_n kX12_worst_22 rfl ?_
      refine zt_get (v := zr 30 0) kX12_worst_23 fRX12_9 rfl (by decide) rfl ?_
      refine zt_iconst (v := 0) kX12_worst_26 rfl ?_
      refine zt_ialdc 0 rfl kX12_worst_27 rfl (by decide) (zvp_dec (by decide)) ?_
      refine zt_iconst (v := 1) kX12_worst_28 rfl ?_
      refine zt_iload_n kX12_worst_29 rfl ?_
      refine zt_ishl kX12_worst_30 ?_
      refine zt_cV (as := [zi (h.1 30 0 0), zi ((1 : Int32) <<< (x3 &&& 31))]) kX12_worst_31 sRX12_163 rfl (by decide) rfl (by simp) rfl H (fun r2 h1 H => ?_)
      obtain ⟨y3, rfl, H⟩ := H
      refine zt_iload_n kX12_worst_34 rfl ?_
      refine zt_icmp_gt kX12_worst_35 (fun c => ?_) (fun c => ?_)
      · replace H := H.1 c
        refine zt_iload_n kX12_worst_41 rfl ?_
        refine zt_istore_n (L' := [zr 5 0, zi x3, zi x2, zi x3]) kX12_worst_42 (by decide) rfl ?_
        refine zt_aload_n kX12_worst_43 rfl ?_
        refine zt_aload_n kX12_worst_44 rfl ?_
        refine zt_get (v := zr 30 0) kX12_worst_45 fRX12_9 rfl (by decide) rfl ?_
        refine zt_iconst (v := 0) kX12_worst_48 rfl ?_
        refine zt_ialdc 0 rfl kX12_worst_49 rfl (by decide) (zvp_dec (by decide)) ?_
        refine zt_iconst (v := 1) kX12_worst_50 rfl ?_
        refine zt_iload_n kX12_worst_51 rfl ?_
        refine zt_ishl kX12_worst_52 ?_
        refine zt_cV (as := [zi (h1.1 30 0 0), zi ((1 : Int32) <<< (x3 &&& 31))]) kX12_worst_53 sRX12_163 rfl (by decide) rfl (by simp) rfl H (fun r5 h4 H => ?_)
        obtain ⟨y6, rfl, H⟩ := H
        refine zt_istore_n (L' := [zr 5 0, zi x3, zi y6, zi x3]) kX12_worst_56 (by decide) rfl ?_
        refine zt_iinc (v := (x3 + 1)) (L' := [zr 5 0, zi x3, zi y6, zi (x3 + 1)]) kX12_worst_57 rfl rfl (by decide) rfl ?_
        refine zt_goto kX12_worst_60 ?_
        exact H
      · replace H := H.2 c
        refine zt_goto kX12_worst_38 ?_
        refine zt_iinc (v := (x3 + 1)) (L' := [zr 5 0, zi x1, zi x2, zi (x3 + 1)]) kX12_worst_57 rfl rfl (by decide) rfl ?_
        refine zt_goto kX12_worst_60 ?_
        exact H

theorem kX12_together_0 : zD cX12_together 0 1 (.iload_n 1) 1 := by decide +kernel
theorem kX12_together_1 : zD cX12_together 1 2 (.iconst 1) 1 := by decide +kernel
theorem kX12_together_2 : zD cX12_together 2 4 (.bipush 12) 2 := by decide +kernel
theorem kX12_together_4 : zD cX12_together 4 7 (.invokestatic 53) 3 := by decide +kernel
theorem kX12_together_7 : zB cX12_together 7 10 19 (.ifCond .eq 12) 12 := by decide +kernel
theorem kX12_together_10 : zD cX12_together 10 11 (.iload_n 2) 1 := by decide +kernel
theorem kX12_together_11 : zD cX12_together 11 12 (.iconst 0) 1 := by decide +kernel
theorem kX12_together_12 : zD cX12_together 12 13 (.iconst 1) 1 := by decide +kernel
theorem kX12_together_13 : zD cX12_together 13 16 (.invokestatic 53) 3 := by decide +kernel
theorem kX12_together_16 : zB cX12_together 16 19 21 (.ifCond .ne 5) 5 := by decide +kernel
theorem kX12_together_19 : zD cX12_together 19 20 (.iconst (-1)) 1 := by decide +kernel
theorem kX12_together_20 : zD cX12_together 20 21 (.ireturn) 1 := by decide +kernel
theorem kX12_together_21 : zD cX12_together 21 22 (.aload_n 0) 1 := by decide +kernel
theorem kX12_together_22 : zD cX12_together 22 23 (.aload_n 0) 1 := by decide +kernel
theorem kX12_together_23 : zD cX12_together 23 26 (.getfield 9) 3 := by decide +kernel
theorem kX12_together_26 : zD cX12_together 26 27 (.iconst 0) 1 := by decide +kernel
theorem kX12_together_27 : zD cX12_together 27 28 (.iaload) 1 := by decide +kernel
theorem kX12_together_28 : zD cX12_together 28 31 (.invokevirtual 166) 3 := by decide +kernel
theorem kX12_together_31 : zD cX12_together 31 32 (.istore_n 3) 1 := by decide +kernel
theorem kX12_together_32 : zD cX12_together 32 33 (.iconst 0) 1 := by decide +kernel
theorem kX12_together_33 : zD cX12_together 33 35 (.istore 4) 2 := by decide +kernel
theorem kX12_together_35 : zD cX12_together 35 37 (.bipush (-4)) 2 := by decide +kernel
theorem kX12_together_37 : zD cX12_together 37 39 (.istore 5) 2 := by decide +kernel
theorem kX12_together_39 : zD cX12_together 39 40 (.iconst 0) 1 := by decide +kernel
theorem kX12_together_40 : zD cX12_together 40 42 (.istore 6) 2 := by decide +kernel
theorem kX12_together_42 : zD cX12_together 42 44 (.iload 6) 2 := by decide +kernel
theorem kX12_together_44 : zD cX12_together 44 46 (.bipush 12) 2 := by decide +kernel
theorem kX12_together_46 : zB cX12_together 46 49 141 (.if_icmp .ge 95) 95 := by decide +kernel
theorem kX12_together_49 : zD cX12_together 49 51 (.iload 6) 2 := by decide +kernel
theorem kX12_together_51 : zD cX12_together 51 52 (.iconst 1) 1 := by decide +kernel
theorem kX12_together_52 : zD cX12_together 52 53 (.iadd) 1 := by decide +kernel
theorem kX12_together_53 : zD cX12_together 53 55 (.istore 7) 2 := by decide +kernel
theorem kX12_together_55 : zD cX12_together 55 57 (.iload 7) 2 := by decide +kernel
theorem kX12_together_57 : zD cX12_together 57 59 (.bipush 12) 2 := by decide +kernel
theorem kX12_together_59 : zB cX12_together 59 62 135 (.if_icmp .ge 76) 76 := by decide +kernel
theorem kX12_together_62 : zD cX12_together 62 63 (.iload_n 3) 1 := by decide +kernel
theorem kX12_together_63 : zD cX12_together 63 65 (.iload 6) 2 := by decide +kernel
theorem kX12_together_65 : zD cX12_together 65 68 (.invokestatic 57) 3 := by decide +kernel
theorem kX12_together_68 : zB cX12_together 68 71 129 (.ifCond .eq 61) 61 := by decide +kernel
theorem kX12_together_71 : zD cX12_together 71 72 (.iload_n 3) 1 := by decide +kernel
theorem kX12_together_72 : zD cX12_together 72 74 (.iload 7) 2 := by decide +kernel
theorem kX12_together_74 : zD cX12_together 74 77 (.invokestatic 57) 3 := by decide +kernel
theorem kX12_together_77 : zB cX12_together 77 80 129 (.ifCond .eq 52) 52 := by decide +kernel
theorem kX12_together_80 : zD cX12_together 80 81 (.aload_n 0) 1 := by decide +kernel
theorem kX12_together_81 : zD cX12_together 81 82 (.aload_n 0) 1 := by decide +kernel
theorem kX12_together_82 : zD cX12_together 82 85 (.getfield 9) 3 := by decide +kernel
theorem kX12_together_85 : zD cX12_together 85 86 (.iconst 0) 1 := by decide +kernel
theorem kX12_together_86 : zD cX12_together 86 87 (.iaload) 1 := by decide +kernel
theorem kX12_together_87 : zD cX12_together 87 88 (.iconst 1) 1 := by decide +kernel
theorem kX12_together_88 : zD cX12_together 88 90 (.iload 6) 2 := by decide +kernel
theorem kX12_together_90 : zD cX12_together 90 91 (.ishl) 1 := by decide +kernel
theorem kX12_together_91 : zD cX12_together 91 92 (.iconst 1) 1 := by decide +kernel
theorem kX12_together_92 : zD cX12_together 92 94 (.iload 7) 2 := by decide +kernel
theorem kX12_together_94 : zD cX12_together 94 95 (.ishl) 1 := by decide +kernel
theorem kX12_together_95 : zD cX12_together 95 96 (.ior) 1 := by decide +kernel
theorem kX12_together_96 : zD cX12_together 96 99 (.invokevirtual 163) 3 := by decide +kernel
theorem kX12_together_99 : zD cX12_together 99 100 (.iload_n 1) 1 := by decide +kernel
theorem kX12_together_100 : zB cX12_together 100 103 106 (.if_icmp .ge 6) 6 := by decide +kernel
theorem kX12_together_103 : zB cX12_together 103 106 129 (.goto 26) 26 := by decide +kernel
theorem kX12_together_106 : zD cX12_together 106 108 (.iload 4) 2 := by decide +kernel
theorem kX12_together_108 : zB cX12_together 108 111 122 (.ifCond .ne 14) 14 := by decide +kernel
theorem kX12_together_111 : zD cX12_together 111 113 (.bipush 100) 2 := by decide +kernel
theorem kX12_together_113 : zD cX12_together 113 115 (.iload 6) 2 := by decide +kernel
theorem kX12_together_115 : zD cX12_together 115 116 (.imul) 1 := by decide +kernel
theorem kX12_together_116 : zD cX12_together 116 118 (.iload 7) 2 := by decide +kernel
theorem kX12_together_118 : zD cX12_together 118 119 (.iadd) 1 := by decide +kernel
theorem kX12_together_119 : zB cX12_together 119 122 124 (.goto 5) 5 := by decide +kernel
theorem kX12_together_122 : zD cX12_together 122 124 (.iload 5) 2 := by decide +kernel
theorem kX12_together_124 : zD cX12_together 124 126 (.istore 5) 2 := by decide +kernel
theorem kX12_together_126 : zD cX12_together 126 129 (.iinc 4 1) 3 := by decide +kernel
theorem kX12_together_129 : zD cX12_together 129 132 (.iinc 7 1) 3 := by decide +kernel
theorem kX12_together_132 : zB cX12_together 132 135 55 (.goto (-77)) (-77) := by decide +kernel
theorem kX12_together_135 : zD cX12_together 135 138 (.iinc 6 1) 3 := by decide +kernel
theorem kX12_together_138 : zB cX12_together 138 141 42 (.goto (-96)) (-96) := by decide +kernel
theorem kX12_together_141 : zD cX12_together 141 142 (.iload_n 2) 1 := by decide +kernel
theorem kX12_together_142 : zB cX12_together 142 145 150 (.ifCond .ne 8) 8 := by decide +kernel
theorem kX12_together_145 : zD cX12_together 145 147 (.iload 4) 2 := by decide +kernel
theorem kX12_together_147 : zB cX12_together 147 150 152 (.goto 5) 5 := by decide +kernel
theorem kX12_together_150 : zD cX12_together 150 152 (.iload 5) 2 := by decide +kernel
theorem kX12_together_152 : zD cX12_together 152 153 (.ireturn) 1 := by decide +kernel
set_option maxRecDepth 10000 in
theorem wX12_together_0 {G : ZG} {d : Nat} {h : ZH} {Q : Option ZV → ZH → Prop} {x1 : Int32} {x2 : Int32} 
  (H : (¬ ((1 : Int32) ≤ x1 ∧ x1 ≤ (12 : Int32)) → Q (some (zi (-1))) h) ∧ (((1 : Int32) ≤ x1 ∧ x1 ≤ (12 : Int32)) → (((0 : Int32) ≤ x2 ∧ x2 ≤ (1 : Int32)) → zC G (d + 8) mX12_safeOf [zr 5 0, zi (h.1 30 0 0)] h (fun r2 h1 => ∃ y3 : Int32, r2 = some (zi y3) ∧ zT G (d + 9) mX12_together 42 [zr 5 0, zi x1, zi x2, zi y3, zi 0, zi (-4), zi 0, zu] [] h1 Q)) ∧ (¬ ((0 : Int32) ≤ x2 ∧ x2 ≤ (1 : Int32)) → Q (some (zi (-1))) h))) :
  zT G (d + 9) mX12_together 0 [zr 5 0, zi x1, zi x2, zu, zu, zu, zu, zu] [] h Q := by
  refine zt_iload_n kX12_together_0 rfl ?_
  refine zt_iconst (v := 1) kX12_together_1 rfl ?_
  refine zt_bipush (v := 12) kX12_together_2 rfl ?_
  refine zt_cS (as := [zi x1, zi 1, zi 12]) kX12_together_4 sRX12_53 rfl (by simp) rfl (sX12_isIn _  ) (fun r h0 hq => ?_)
  obtain ⟨rfl, hh⟩ := hq
  replace hh := hh.symm
  subst hh
  refine zt_ifb_eq kX12_together_7 (fun c => ?_) (fun c => ?_)
  · replace H := H.1 c
    refine zt_iconst (v := (-1)) kX12_together_19 rfl ?_
    exact zt_iret kX12_together_20 rfl H
  · replace H := H.2 c
    refine zt_iload_n kX12_together_10 rfl ?_
    refine zt_iconst (v := 0) kX12_together_11 rfl ?_
    refine zt_iconst (v := 1) kX12_together_12 rfl ?_
    refine zt_cS (as := [zi x2, zi 0, zi 1]) kX12_together_13 sRX12_53 rfl (by simp) rfl (sX12_isIn _  ) (fun r h0 hq => ?_)
    obtain ⟨rfl, hh⟩ := hq
    replace hh := hh.symm
    subst hh
    refine zt_ifb_ne kX12_together_16 (fun c => ?_) (fun c => ?_)
    · replace H := H.1 c
      refine zt_aload_n kX12_together_21 rfl ?_
      refine zt_aload_n kX12_together_22 rfl ?_
      refine zt_get (v := zr 30 0) kX12_together_23 fRX12_9 rfl (by decide) rfl ?_
      refine zt_iconst (v := 0) kX12_together_26 rfl ?_
      refine zt_ialdc 0 rfl kX12_together_27 rfl (by decide) (zvp_dec (by decide)) ?_
      refine zt_cV (as := [zi (h.1 30 0 0)]) kX12_together_28 sRX12_166 rfl (by decide) rfl (by simp) rfl H (fun r2 h1 H => ?_)
      obtain ⟨y3, rfl, H⟩ := H
      refine zt_istore_n (L' := [zr 5 0, zi x1, zi x2, zi y3, zu, zu, zu, zu]) kX12_together_31 (by decide) rfl ?_
      refine zt_iconst (v := 0) kX12_together_32 rfl ?_
      refine zt_istore (L' := [zr 5 0, zi x1, zi x2, zi y3, zi 0, zu, zu, zu]) kX12_together_33 (by decide) rfl ?_
      refine zt_bipush (v := (-4)) kX12_together_35 rfl ?_
      refine zt_istore (L' := [zr 5 0, zi x1, zi x2, zi y3, zi 0, zi (-4), zu, zu]) kX12_together_37 (by decide) rfl ?_
      refine zt_iconst (v := 0) kX12_together_39 rfl ?_
      refine zt_istore (L' := [zr 5 0, zi x1, zi x2, zi y3, zi 0, zi (-4), zi 0, zu]) kX12_together_40 (by decide) rfl ?_
      exact H
    · replace H := H.2 c
      refine zt_iconst (v := (-1)) kX12_together_19 rfl ?_
      exact zt_iret kX12_together_20 rfl H

set_option maxRecDepth 10000 in
theorem wX12_together_42 {G : ZG} {d : Nat} {h : ZH} {Q : Option ZV → ZH → Prop} {x1 : Int32} {x2 : Int32} {x3 : Int32} {x4 : Int32} {x5 : Int32} {x6 : Int32} 
  (H : (12 ≤ x6 → (¬ x2 = 0 → Q (some (zi x5)) h) ∧ (x2 = 0 → Q (some (zi x4)) h)) ∧ (¬ 12 ≤ x6 → zT G (d + 9) mX12_together 55 [zr 5 0, zi x1, zi x2, zi x3, zi x4, zi x5, zi x6, zi (x6 + 1)] [] h Q)) :
  zT G (d + 9) mX12_together 42 [zr 5 0, zi x1, zi x2, zi x3, zi x4, zi x5, zi x6, zu] [] h Q := by
  refine zt_iload kX12_together_42 rfl ?_
  refine zt_bipush (v := 12) kX12_together_44 rfl ?_
  refine zt_icmp_ge kX12_together_46 (fun c => ?_) (fun c => ?_)
  · replace H := H.1 c
    refine zt_iload_n kX12_together_141 rfl ?_
    refine zt_if_ne kX12_together_142 (fun c => ?_) (fun c => ?_)
    · replace H := H.1 c
      refine zt_iload kX12_together_150 rfl ?_
      exact zt_iret kX12_together_152 rfl H
    · replace H := H.2 c
      refine zt_iload kX12_together_145 rfl ?_
      refine zt_goto kX12_together_147 ?_
      exact zt_iret kX12_together_152 rfl H
  · replace H := H.2 c
    refine zt_iload kX12_together_49 rfl ?_
    refine zt_iconst (v := 1) kX12_together_51 rfl ?_
    refine zt_iadd kX12_together_52 ?_
    refine zt_istore (L' := [zr 5 0, zi x1, zi x2, zi x3, zi x4, zi x5, zi x6, zi (x6 + 1)]) kX12_together_53 (by decide) rfl ?_
    exact H

set_option maxRecDepth 10000 in
theorem wX12_together_55 {G : ZG} {d : Nat} {h : ZH} {Q : Option ZV → ZH → Prop} {x1 : Int32} {x2 : Int32} {x3 : Int32} {x4 : Int32} {x5 : Int32} {x6 : Int32} {x7 : Int32} 
  (H : (12 ≤ x7 → zT G (d + 9) mX12_together 42 [zr 5 0, zi x1, zi x2, zi x3, zi x4, zi x5, zi (x6 + 1), zu] [] h Q) ∧ (¬ 12 ≤ x7 → (¬ (hasI x3 x6) → zT G (d + 9) mX12_together 55 [zr 5 0, zi x1, zi x2, zi x3, zi x4, zi x5, zi x6, zi (x7 + 1)] [] h Q) ∧ ((hasI x3 x6) → (¬ (hasI x3 x7) → zT G (d + 9) mX12_together 55 [zr 5 0, zi x1, zi x2, zi x3, zi x4, zi x5, zi x6, zi (x7 + 1)] [] h Q) ∧ ((hasI x3 x7) → zC G (d + 8) mX12_fallsOf [zr 5 0, zi (h.1 30 0 0), zi (((1 : Int32) <<< (x6 &&& 31)) ||| ((1 : Int32) <<< (x7 &&& 31)))] h (fun r2 h1 => ∃ y3 : Int32, r2 = some (zi y3) ∧ (x1 ≤ y3 → (¬ x4 = 0 → zT G (d + 9) mX12_together 55 [zr 5 0, zi x1, zi x2, zi x3, zi (x4 + 1), zi x5, zi x6, zi (x7 + 1)] [] h1 Q) ∧ (x4 = 0 → zT G (d + 9) mX12_together 55 [zr 5 0, zi x1, zi x2, zi x3, zi (x4 + 1), zi ((100 * x6) + x7), zi x6, zi (x7 + 1)] [] h1 Q)) ∧ (¬ x1 ≤ y3 → zT G (d + 9) mX12_together 55 [zr 5 0, zi x1, zi x2, zi x3, zi x4, zi x5, zi x6, zi (x7 + 1)] [] h1 Q)))))) :
  zT G (d + 9) mX12_together 55 [zr 5 0, zi x1, zi x2, zi x3, zi x4, zi x5, zi x6, zi x7] [] h Q := by
  refine zt_iload kX12_together_55 rfl ?_
  refine zt_bipush (v := 12) kX12_together_57 rfl ?_
  refine zt_icmp_ge kX12_together_59 (fun c => ?_) (fun c => ?_)
  · replace H := H.1 c
    refine zt_iinc (v := (x6 + 1)) (L' := [zr 5 0, zi x1, zi x2, zi x3, zi x4, zi x5, zi (x6 + 1), zi x7]) kX12_together_135 rfl rfl (by decide) rfl ?_
    refine zt_goto kX12_together_138 ?_
    exact zt_sub [zr 5 0, zi x1, zi x2, zi x3, zi x4, zi x5, zi (x6 + 1), zu] ⟨rfl, ⟨rfl, ⟨rfl, ⟨rfl, ⟨rfl, ⟨rfl, ⟨rfl, trivial⟩⟩⟩⟩⟩⟩⟩ H
  · replace H := H.2 c
    refine zt_iload_n kX12_together_62 rfl ?_
    refine zt_iload kX12_together_63 rfl ?_
    refine zt_cS (as := [zi x3, zi x6]) kX12_together_65 sRX12_57 rfl (by simp) rfl (sX12_has _  ) (fun r h0 hq => ?_)
    obtain ⟨rfl, hh⟩ := hq
    replace hh := hh.symm
    subst hh
    refine zt_ifb_eq kX12_together_68 (fun c => ?_) (fun c => ?_)
    · replace H := H.1 c
      refine zt_iinc (v := (x7 + 1)) (L' := [zr 5 0, zi x1, zi x2, zi x3, zi x4, zi x5, zi x6, zi (x7 + 1)]) kX12_together_129 rfl rfl (by decide) rfl ?_
      refine zt_goto kX12_together_132 ?_
      exact H
    · replace H := H.2 c
      refine zt_iload_n kX12_together_71 rfl ?_
      refine zt_iload kX12_together_72 rfl ?_
      refine zt_cS (as := [zi x3, zi x7]) kX12_together_74 sRX12_57 rfl (by simp) rfl (sX12_has _  ) (fun r h0 hq => ?_)
      obtain ⟨rfl, hh⟩ := hq
      replace hh := hh.symm
      subst hh
      refine zt_ifb_eq kX12_together_77 (fun c => ?_) (fun c => ?_)
      · replace H := H.1 c
        refine zt_iinc (v := (x7 + 1)) (L' := [zr 5 0, zi x1, zi x2, zi x3, zi x4, zi x5, zi x6, zi (x7 + 1)]) kX12_together_129 rfl rfl (by decide) rfl ?_
        refine zt_goto kX12_together_132 ?_
        exact H
      · replace H := H.2 c
        refine zt_aload_n kX12_together_80 rfl ?_
        refine zt_aload_n kX12_together_81 rfl ?_
        refine zt_get (v := zr 30 0) kX12_together_82 fRX12_9 rfl (by decide) rfl ?_
        refine zt_iconst (v := 0) kX12_together_85 rfl ?_
        refine zt_ialdc 0 rfl kX12_together_86 rfl (by decide) (zvp_dec (by decide)) ?_
        refine zt_iconst (v := 1) kX12_together_87 rfl ?_
        refine zt_iload kX12_together_88 rfl ?_
        refine zt_ishl kX12_together_90 ?_
        refine zt_iconst (v := 1) kX12_together_91 rfl ?_
        refine zt_iload kX12_together_92 rfl ?_
        refine zt_ishl kX12_together_94 ?_
        refine zt_ior kX12_together_95 ?_
        refine zt_cV (as := [zi (h.1 30 0 0), zi (((1 : Int32) <<< (x6 &&& 31)) ||| ((1 : Int32) <<< (x7 &&& 31)))]) kX12_together_96 sRX12_163 rfl (by decide) rfl (by simp) rfl H (fun r2 h1 H => ?_)
        obtain ⟨y3, rfl, H⟩ := H
        refine zt_iload_n kX12_together_99 rfl ?_
        refine zt_icmp_ge kX12_together_100 (fun c => ?_) (fun c => ?_)
        · replace H := H.1 c
          refine zt_iload kX12_together_106 rfl ?_
          refine zt_if_ne kX12_together_108 (fun c => ?_) (fun c => ?_)
          · replace H := H.1 c
            refine zt_iload kX12_together_122 rfl ?_
            refine zt_istore (L' := [zr 5 0, zi x1, zi x2, zi x3, zi x4, zi x5, zi x6, zi x7]) kX12_together_124 (by decide) rfl ?_
            refine zt_iinc (v := (x4 + 1)) (L' := [zr 5 0, zi x1, zi x2, zi x3, zi (x4 + 1), zi x5, zi x6, zi x7]) kX12_together_126 rfl rfl (by decide) rfl ?_
            refine zt_iinc (v := (x7 + 1)) (L' := [zr 5 0, zi x1, zi x2, zi x3, zi (x4 + 1), zi x5, zi x6, zi (x7 + 1)]) kX12_together_129 rfl rfl (by decide) rfl ?_
            refine zt_goto kX12_together_132 ?_
            exact H
          · replace H := H.2 c
            refine zt_bipush (v := 100) kX12_together_111 rfl ?_
            refine zt_iload kX12_together_113 rfl ?_
            refine zt_imul kX12_together_115 ?_
            refine zt_iload kX12_together_116 rfl ?_
            refine zt_iadd kX12_together_118 ?_
            refine zt_goto kX12_together_119 ?_
            refine zt_istore (L' := [zr 5 0, zi x1, zi x2, zi x3, zi x4, zi ((100 * x6) + x7), zi x6, zi x7]) kX12_together_124 (by decide) rfl ?_
            refine zt_iinc (v := (x4 + 1)) (L' := [zr 5 0, zi x1, zi x2, zi x3, zi (x4 + 1), zi ((100 * x6) + x7), zi x6, zi x7]) kX12_together_126 rfl rfl (by decide) rfl ?_
            refine zt_iinc (v := (x7 + 1)) (L' := [zr 5 0, zi x1, zi x2, zi x3, zi (x4 + 1), zi ((100 * x6) + x7), zi x6, zi (x7 + 1)]) kX12_together_129 rfl rfl (by decide) rfl ?_
            refine zt_goto kX12_together_132 ?_
            exact H
        · replace H := H.2 c
          refine zt_goto kX12_together_103 ?_
          refine zt_iinc (v := (x7 + 1)) (L' := [zr 5 0, zi x1, zi x2, zi x3, zi x4, zi x5, zi x6, zi (x7 + 1)]) kX12_together_129 rfl rfl (by decide) rfl ?_
          refine zt_goto kX12_together_132 ?_
          exact H

theorem kX12_twins_0 : zD cX12_twins 0 1 (.iconst 0) 1 := by decide +kernel
theorem kX12_twins_1 : zD cX12_twins 1 2 (.istore_n 1) 1 := by decide +kernel
theorem kX12_twins_2 : zD cX12_twins 2 3 (.iconst 0) 1 := by decide +kernel
theorem kX12_twins_3 : zD cX12_twins 3 4 (.istore_n 2) 1 := by decide +kernel
theorem kX12_twins_4 : zD cX12_twins 4 5 (.iload_n 2) 1 := by decide +kernel
theorem kX12_twins_5 : zD cX12_twins 5 7 (.bipush 12) 2 := by decide +kernel
theorem kX12_twins_7 : zB cX12_twins 7 10 105 (.if_icmp .ge 98) 98 := by decide +kernel
theorem kX12_twins_10 : zD cX12_twins 10 11 (.iload_n 2) 1 := by decide +kernel
theorem kX12_twins_11 : zD cX12_twins 11 12 (.iconst 1) 1 := by decide +kernel
theorem kX12_twins_12 : zD cX12_twins 12 13 (.iadd) 1 := by decide +kernel
theorem kX12_twins_13 : zD cX12_twins 13 14 (.istore_n 3) 1 := by decide +kernel
theorem kX12_twins_14 : zD cX12_twins 14 15 (.iload_n 3) 1 := by decide +kernel
theorem kX12_twins_15 : zD cX12_twins 15 17 (.bipush 12) 2 := by decide +kernel
theorem kX12_twins_17 : zB cX12_twins 17 20 99 (.if_icmp .ge 82) 82 := by decide +kernel
theorem kX12_twins_20 : zD cX12_twins 20 21 (.aload_n 0) 1 := by decide +kernel
theorem kX12_twins_21 : zD cX12_twins 21 22 (.iload_n 2) 1 := by decide +kernel
theorem kX12_twins_22 : zD cX12_twins 22 25 (.invokevirtual 133) 3 := by decide +kernel
theorem kX12_twins_25 : zB cX12_twins 25 28 93 (.ifCond .eq 68) 68 := by decide +kernel
theorem kX12_twins_28 : zD cX12_twins 28 29 (.aload_n 0) 1 := by decide +kernel
theorem kX12_twins_29 : zD cX12_twins 29 30 (.iload_n 3) 1 := by decide +kernel
theorem kX12_twins_30 : zD cX12_twins 30 33 (.invokevirtual 133) 3 := by decide +kernel
theorem kX12_twins_33 : zB cX12_twins 33 36 39 (.ifCond .ne 6) 6 := by decide +kernel
theorem kX12_twins_36 : zB cX12_twins 36 39 93 (.goto 57) 57 := by decide +kernel
theorem kX12_twins_39 : zD cX12_twins 39 40 (.aload_n 0) 1 := by decide +kernel
theorem kX12_twins_40 : zD cX12_twins 40 41 (.aload_n 0) 1 := by decide +kernel
theorem kX12_twins_41 : zD cX12_twins 41 44 (.getfield 9) 3 := by decide +kernel
theorem kX12_twins_44 : zD cX12_twins 44 45 (.iconst 0) 1 := by decide +kernel
theorem kX12_twins_45 : zD cX12_twins 45 46 (.iaload) 1 := by decide +kernel
theorem kX12_twins_46 : zD cX12_twins 46 47 (.iconst 1) 1 := by decide +kernel
theorem kX12_twins_47 : zD cX12_twins 47 48 (.iload_n 2) 1 := by decide +kernel
theorem kX12_twins_48 : zD cX12_twins 48 49 (.ishl) 1 := by decide +kernel
theorem kX12_twins_49 : zD cX12_twins 49 52 (.invokevirtual 110) 3 := by decide +kernel
theorem kX12_twins_52 : zD cX12_twins 52 53 (.aload_n 0) 1 := by decide +kernel
theorem kX12_twins_53 : zD cX12_twins 53 54 (.aload_n 0) 1 := by decide +kernel
theorem kX12_twins_54 : zD cX12_twins 54 57 (.getfield 9) 3 := by decide +kernel
theorem kX12_twins_57 : zD cX12_twins 57 58 (.iconst 0) 1 := by decide +kernel
theorem kX12_twins_58 : zD cX12_twins 58 59 (.iaload) 1 := by decide +kernel
theorem kX12_twins_59 : zD cX12_twins 59 60 (.iconst 1) 1 := by decide +kernel
theorem kX12_twins_60 : zD cX12_twins 60 61 (.iload_n 3) 1 := by decide +kernel
theorem kX12_twins_61 : zD cX12_twins 61 62 (.ishl) 1 := by decide +kernel
theorem kX12_twins_62 : zD cX12_twins 62 65 (.invokevirtual 110) 3 := by decide +kernel
theorem kX12_twins_65 : zD cX12_twins 65 66 (.ixor) 1 := by decide +kernel
theorem kX12_twins_66 : zD cX12_twins 66 68 (.istore 4) 2 := by decide +kernel
theorem kX12_twins_68 : zD cX12_twins 68 69 (.iload_n 1) 1 := by decide +kernel
theorem kX12_twins_69 : zD cX12_twins 69 71 (.iload 4) 2 := by decide +kernel
theorem kX12_twins_71 : zD cX12_twins 71 72 (.iconst 1) 1 := by decide +kernel
theorem kX12_twins_72 : zD cX12_twins 72 73 (.iload_n 2) 1 := by decide +kernel
theorem kX12_twins_73 : zD cX12_twins 73 74 (.ishl) 1 := by decide +kernel
theorem kX12_twins_74 : zD cX12_twins 74 75 (.iconst (-1)) 1 := by decide +kernel
theorem kX12_twins_75 : zD cX12_twins 75 76 (.ixor) 1 := by decide +kernel
theorem kX12_twins_76 : zD cX12_twins 76 77 (.iand) 1 := by decide +kernel
theorem kX12_twins_77 : zD cX12_twins 77 78 (.iconst 1) 1 := by decide +kernel
theorem kX12_twins_78 : zD cX12_twins 78 79 (.iload_n 3) 1 := by decide +kernel
theorem kX12_twins_79 : zD cX12_twins 79 80 (.ishl) 1 := by decide +kernel
theorem kX12_twins_80 : zD cX12_twins 80 81 (.iconst (-1)) 1 := by decide +kernel
theorem kX12_twins_81 : zD cX12_twins 81 82 (.ixor) 1 := by decide +kernel
theorem kX12_twins_82 : zD cX12_twins 82 83 (.iand) 1 := by decide +kernel
theorem kX12_twins_83 : zB cX12_twins 83 86 90 (.ifCond .ne 7) 7 := by decide +kernel
theorem kX12_twins_86 : zD cX12_twins 86 87 (.iconst 1) 1 := by decide +kernel
theorem kX12_twins_87 : zB cX12_twins 87 90 91 (.goto 4) 4 := by decide +kernel
theorem kX12_twins_90 : zD cX12_twins 90 91 (.iconst 0) 1 := by decide +kernel
theorem kX12_twins_91 : zD cX12_twins 91 92 (.iadd) 1 := by decide +kernel
theorem kX12_twins_92 : zD cX12_twins 92 93 (.istore_n 1) 1 := by decide +kernel
theorem kX12_twins_93 : zD cX12_twins 93 96 (.iinc 3 1) 3 := by decide +kernel
theorem kX12_twins_96 : zB cX12_twins 96 99 14 (.goto (-82)) (-82) := by decide +kernel
theorem kX12_twins_99 : zD cX12_twins 99 102 (.iinc 2 1) 3 := by decide +kernel
theorem kX12_twins_102 : zB cX12_twins 102 105 4 (.goto (-98)) (-98) := by decide +kernel
theorem kX12_twins_105 : zD cX12_twins 105 106 (.iload_n 1) 1 := by decide +kernel
theorem kX12_twins_106 : zD cX12_twins 106 107 (.ireturn) 1 := by decide +kernel
set_option maxRecDepth 10000 in
theorem wX12_twins_0 {G : ZG} {d : Nat} {h : ZH} {Q : Option ZV → ZH → Prop}  
  (H : zT G (d + 7) mX12_twins 4 [zr 5 0, zi 0, zi 0, zu, zu] [] h Q) :
  zT G (d + 7) mX12_twins 0 [zr 5 0, zu, zu, zu, zu] [] h Q := by
  refine zt_iconst (v := 0) kX12_twins_0 rfl ?_
  refine zt_istore_n (L' := [zr 5 0, zi 0, zu, zu, zu]) kX12_twins_1 (by decide) rfl ?_
  refine zt_iconst (v := 0) kX12_twins_2 rfl ?_
  refine zt_istore_n (L' := [zr 5 0, zi 0, zi 0, zu, zu]) kX12_twins_3 (by decide) rfl ?_
  exact H

set_option maxRecDepth 10000 in
theorem wX12_twins_4 {G : ZG} {d : Nat} {h : ZH} {Q : Option ZV → ZH → Prop} {x1 : Int32} {x2 : Int32} 
  (H : (12 ≤ x2 → Q (some (zi x1)) h) ∧ (¬ 12 ≤ x2 → zT G (d + 7) mX12_twins 14 [zr 5 0, zi x1, zi x2, zi (x2 + 1), zu] [] h Q)) :
  zT G (d + 7) mX12_twins 4 [zr 5 0, zi x1, zi x2, zu, zu] [] h Q := by
  refine zt_iload_n kX12_twins_4 rfl ?_
  refine zt_bipush (v := 12) kX12_twins_5 rfl ?_
  refine zt_icmp_ge kX12_twins_7 (fun c => ?_) (fun c => ?_)
  · replace H := H.1 c
    refine zt_iload_n kX12_twins_105 rfl ?_
    exact zt_iret kX12_twins_106 rfl H
  · replace H := H.2 c
    refine zt_iload_n kX12_twins_10 rfl ?_
    refine zt_iconst (v := 1) kX12_twins_11 rfl ?_
    refine zt_iadd kX12_twins_12 ?_
    refine zt_istore_n (L' := [zr 5 0, zi x1, zi x2, zi (x2 + 1), zu]) kX12_twins_13 (by decide) rfl ?_
    exact H

set_option maxRecDepth 10000 in
theorem wX12_twins_14 {G : ZG} {d : Nat} {h : ZH} {Q : Option ZV → ZH → Prop} {x1 : Int32} {x2 : Int32} {x3 : Int32} 
  (H : (12 ≤ x3 → zT G (d + 7) mX12_twins 4 [zr 5 0, zi x1, zi (x2 + 1), zu, zu] [] h Q) ∧ (¬ 12 ≤ x3 → (¬ (hasI (h.1 30 0 0) x2) → zT G (d + 7) mX12_twins 14 [zr 5 0, zi x1, zi x2, zi (x3 + 1), zu] [] h Q) ∧ ((hasI (h.1 30 0 0) x2) → ((hasI (h.1 30 0 0) x3) → zC G (d + 6) mX12_leftWithout [zr 5 0, zi (h.1 30 0 0), zi ((1 : Int32) <<< (x2 &&& 31))] h (fun r2 h1 => ∃ y3 : Int32, r2 = some (zi y3) ∧ zC G (d + 6) mX12_leftWithout [zr 5 0, zi (h1.1 30 0 0), zi ((1 : Int32) <<< (x3 &&& 31))] h1 (fun r5 h4 => ∃ y6 : Int32, r5 = some (zi y6) ∧ (¬ (((y3 ^^^ y6) &&& (((1 : Int32) <<< (x2 &&& 31)) ^^^ (-1))) &&& (((1 : Int32) <<< (x3 &&& 31)) ^^^ (-1))) = 0 → zT G (d + 7) mX12_twins 14 [zr 5 0, zi (x1 + 0), zi x2, zi (x3 + 1), zu] [] h4 Q) ∧ ((((y3 ^^^ y6) &&& (((1 : Int32) <<< (x2 &&& 31)) ^^^ (-1))) &&& (((1 : Int32) <<< (x3 &&& 31)) ^^^ (-1))) = 0 → zT G (d + 7) mX12_twins 14 [zr 5 0, zi (x1 + 1), zi x2, zi (x3 + 1), zu] [] h4 Q)))) ∧ (¬ (hasI (h.1 30 0 0) x3) → zT G (d + 7) mX12_twins 14 [zr 5 0, zi x1, zi x2, zi (x3 + 1), zu] [] h Q)))) :
  zT G (d + 7) mX12_twins 14 [zr 5 0, zi x1, zi x2, zi x3, zu] [] h Q := by
  refine zt_iload_n kX12_twins_14 rfl ?_
  refine zt_bipush (v := 12) kX12_twins_15 rfl ?_
  refine zt_icmp_ge kX12_twins_17 (fun c => ?_) (fun c => ?_)
  · replace H := H.1 c
    refine zt_iinc (v := (x2 + 1)) (L' := [zr 5 0, zi x1, zi (x2 + 1), zi x3, zu]) kX12_twins_99 rfl rfl (by decide) rfl ?_
    refine zt_goto kX12_twins_102 ?_
    exact zt_sub [zr 5 0, zi x1, zi (x2 + 1), zu, zu] ⟨rfl, ⟨rfl, ⟨rfl, trivial⟩⟩⟩ H
  · replace H := H.2 c
    refine zt_aload_n kX12_twins_20 rfl ?_
    refine zt_iload_n kX12_twins_21 rfl ?_
    refine zt_cV (as := [zi x2]) kX12_twins_22 sRX12_133 rfl (by decide) rfl (by simp) rfl (sX12_isThere _  ) (fun r h0 hq => ?_)
    obtain ⟨rfl, hh⟩ := hq
    replace hh := hh.symm
    subst hh
    refine zt_ifb_eq kX12_twins_25 (fun c => ?_) (fun c => ?_)
    · replace H := H.1 c
      refine zt_iinc (v := (x3 + 1)) (L' := [zr 5 0, zi x1, zi x2, zi (x3 + 1), zu]) kX12_twins_93 rfl rfl (by decide) rfl ?_
      refine zt_goto kX12_twins_96 ?_
      exact H
    · replace H := H.2 c
      refine zt_aload_n kX12_twins_28 rfl ?_
      refine zt_iload_n kX12_twins_29 rfl ?_
      refine zt_cV (as := [zi x3]) kX12_twins_30 sRX12_133 rfl (by decide) rfl (by simp) rfl (sX12_isThere _  ) (fun r h0 hq => ?_)
      obtain ⟨rfl, hh⟩ := hq
      replace hh := hh.symm
      subst hh
      refine zt_ifb_ne kX12_twins_33 (fun c => ?_) (fun c => ?_)
      · replace H := H.1 c
        refine zt_aload_n kX12_twins_39 rfl ?_
        refine zt_aload_n kX12_twins_40 rfl ?_
        refine zt_get (v := zr 30 0) kX12_twins_41 fRX12_9 rfl (by decide) rfl ?_
        refine zt_iconst (v := 0) kX12_twins_44 rfl ?_
        refine zt_ialdc 0 rfl kX12_twins_45 rfl (by decide) (zvp_dec (by decide)) ?_
        refine zt_iconst (v := 1) kX12_twins_46 rfl ?_
        refine zt_iload_n kX12_twins_47 rfl ?_
        refine zt_ishl kX12_twins_48 ?_
        refine zt_cV (as := [zi (h.1 30 0 0), zi ((1 : Int32) <<< (x2 &&& 31))]) kX12_twins_49 sRX12_110 rfl (by decide) rfl (by simp) rfl H (fun r2 h1 H => ?_)
        obtain ⟨y3, rfl, H⟩ := H
        refine zt_aload_n kX12_twins_52 rfl ?_
        refine zt_aload_n kX12_twins_53 rfl ?_
        refine zt_get (v := zr 30 0) kX12_twins_54 fRX12_9 rfl (by decide) rfl ?_
        refine zt_iconst (v := 0) kX12_twins_57 rfl ?_
        refine zt_ialdc 0 rfl kX12_twins_58 rfl (by decide) (zvp_dec (by decide)) ?_
        refine zt_iconst (v := 1) kX12_twins_59 rfl ?_
        refine zt_iload_n kX12_twins_60 rfl ?_
        refine zt_ishl kX12_twins_61 ?_
        refine zt_cV (as := [zi (h1.1 30 0 0), zi ((1 : Int32) <<< (x3 &&& 31))]) kX12_twins_62 sRX12_110 rfl (by decide) rfl (by simp) rfl H (fun r5 h4 H => ?_)
        obtain ⟨y6, rfl, H⟩ := H
        refine zt_ixor kX12_twins_65 ?_
        refine zt_istore (L' := [zr 5 0, zi x1, zi x2, zi x3, zi (y3 ^^^ y6)]) kX12_twins_66 (by decide) rfl ?_
        refine zt_iload_n kX12_twins_68 rfl ?_
        refine zt_iload kX12_twins_69 rfl ?_
        refine zt_iconst (v := 1) kX12_twins_71 rfl ?_
        refine zt_iload_n kX12_twins_72 rfl ?_
        refine zt_ishl kX12_twins_73 ?_
        refine zt_iconst (v := (-1)) kX12_twins_74 rfl ?_
        refine zt_ixor kX12_twins_75 ?_
        refine zt_iand kX12_twins_76 ?_
        refine zt_iconst (v := 1) kX12_twins_77 rfl ?_
        refine zt_iload_n kX12_twins_78 rfl ?_
        refine zt_ishl kX12_twins_79 ?_
        refine zt_iconst (v := (-1)) kX12_twins_80 rfl ?_
        refine zt_ixor kX12_twins_81 ?_
        refine zt_iand kX12_twins_82 ?_
        refine zt_if_ne kX12_twins_83 (fun c => ?_) (fun c => ?_)
        · replace H := H.1 c
          refine zt_iconst (v := 0) kX12_twins_90 rfl ?_
          refine zt_iadd kX12_twins_91 ?_
          refine zt_istore_n (L' := [zr 5 0, zi (x1 + 0), zi x2, zi x3, zi (y3 ^^^ y6)]) kX12_twins_92 (by decide) rfl ?_
          refine zt_iinc (v := (x3 + 1)) (L' := [zr 5 0, zi (x1 + 0), zi x2, zi (x3 + 1), zi (y3 ^^^ y6)]) kX12_twins_93 rfl rfl (by decide) rfl ?_
          refine zt_goto kX12_twins_96 ?_
          exact zt_sub [zr 5 0, zi (x1 + 0), zi x2, zi (x3 + 1), zu] ⟨rfl, ⟨rfl, ⟨rfl, ⟨rfl, trivial⟩⟩⟩⟩ H
        · replace H := H.2 c
          refine zt_iconst (v := 1) kX12_twins_86 rfl ?_
          refine zt_goto kX12_twins_87 ?_
          refine zt_iadd kX12_twins_91 ?_
          refine zt_istore_n (L' := [zr 5 0, zi (x1 + 1), zi x2, zi x3, zi (y3 ^^^ y6)]) kX12_twins_92 (by decide) rfl ?_
          refine zt_iinc (v := (x3 + 1)) (L' := [zr 5 0, zi (x1 + 1), zi x2, zi (x3 + 1), zi (y3 ^^^ y6)]) kX12_twins_93 rfl rfl (by decide) rfl ?_
          refine zt_goto kX12_twins_96 ?_
          exact zt_sub [zr 5 0, zi (x1 + 1), zi x2, zi (x3 + 1), zu] ⟨rfl, ⟨rfl, ⟨rfl, ⟨rfl, trivial⟩⟩⟩⟩ H
      · replace H := H.2 c
        refine zt_goto kX12_twins_36 ?_
        refine zt_iinc (v := (x3 + 1)) (L' := [zr 5 0, zi x1, zi x2, zi (x3 + 1), zu]) kX12_twins_93 rfl rfl (by decide) rfl ?_
        refine zt_goto kX12_twins_96 ?_
        exact H

theorem kX12_depends_0 : zD cX12_depends 0 1 (.aload_n 0) 1 := by decide +kernel
theorem kX12_depends_1 : zD cX12_depends 1 2 (.iload_n 1) 1 := by decide +kernel
theorem kX12_depends_2 : zD cX12_depends 2 5 (.invokevirtual 154) 3 := by decide +kernel
theorem kX12_depends_5 : zD cX12_depends 5 6 (.istore_n 2) 1 := by decide +kernel
theorem kX12_depends_6 : zD cX12_depends 6 7 (.iload_n 2) 1 := by decide +kernel
theorem kX12_depends_7 : zB cX12_depends 7 10 12 (.ifCond .eq 5) 5 := by decide +kernel
theorem kX12_depends_10 : zD cX12_depends 10 11 (.iload_n 2) 1 := by decide +kernel
theorem kX12_depends_11 : zD cX12_depends 11 12 (.ireturn) 1 := by decide +kernel
theorem kX12_depends_12 : zD cX12_depends 12 13 (.iconst 0) 1 := by decide +kernel
theorem kX12_depends_13 : zD cX12_depends 13 14 (.istore_n 3) 1 := by decide +kernel
theorem kX12_depends_14 : zD cX12_depends 14 15 (.iconst 0) 1 := by decide +kernel
theorem kX12_depends_15 : zD cX12_depends 15 17 (.istore 4) 2 := by decide +kernel
theorem kX12_depends_17 : zD cX12_depends 17 19 (.iload 4) 2 := by decide +kernel
theorem kX12_depends_19 : zD cX12_depends 19 21 (.bipush 12) 2 := by decide +kernel
theorem kX12_depends_21 : zB cX12_depends 21 24 77 (.if_icmp .ge 56) 56 := by decide +kernel
theorem kX12_depends_24 : zD cX12_depends 24 25 (.iload_n 3) 1 := by decide +kernel
theorem kX12_depends_25 : zD cX12_depends 25 27 (.iload 4) 2 := by decide +kernel
theorem kX12_depends_27 : zD cX12_depends 27 28 (.iload_n 1) 1 := by decide +kernel
theorem kX12_depends_28 : zB cX12_depends 28 31 68 (.if_icmp .eq 40) 40 := by decide +kernel
theorem kX12_depends_31 : zD cX12_depends 31 32 (.aload_n 0) 1 := by decide +kernel
theorem kX12_depends_32 : zD cX12_depends 32 34 (.iload 4) 2 := by decide +kernel
theorem kX12_depends_34 : zD cX12_depends 34 37 (.invokevirtual 133) 3 := by decide +kernel
theorem kX12_depends_37 : zB cX12_depends 37 40 68 (.ifCond .eq 31) 31 := by decide +kernel
theorem kX12_depends_40 : zD cX12_depends 40 41 (.aload_n 0) 1 := by decide +kernel
theorem kX12_depends_41 : zD cX12_depends 41 42 (.aload_n 0) 1 := by decide +kernel
theorem kX12_depends_42 : zD cX12_depends 42 45 (.getfield 9) 3 := by decide +kernel
theorem kX12_depends_45 : zD cX12_depends 45 46 (.iconst 0) 1 := by decide +kernel
theorem kX12_depends_46 : zD cX12_depends 46 47 (.iaload) 1 := by decide +kernel
theorem kX12_depends_47 : zD cX12_depends 47 48 (.iconst 1) 1 := by decide +kernel
theorem kX12_depends_48 : zD cX12_depends 48 50 (.iload 4) 2 := by decide +kernel
theorem kX12_depends_50 : zD cX12_depends 50 51 (.ishl) 1 := by decide +kernel
theorem kX12_depends_51 : zD cX12_depends 51 54 (.invokevirtual 110) 3 := by decide +kernel
theorem kX12_depends_54 : zD cX12_depends 54 55 (.iload_n 1) 1 := by decide +kernel
theorem kX12_depends_55 : zD cX12_depends 55 58 (.invokestatic 57) 3 := by decide +kernel
theorem kX12_depends_58 : zB cX12_depends 58 61 68 (.ifCond .ne 10) 10 := by decide +kernel
theorem kX12_depends_61 : zD cX12_depends 61 62 (.iconst 1) 1 := by decide +kernel
theorem kX12_depends_62 : zD cX12_depends 62 64 (.iload 4) 2 := by decide +kernel
theorem kX12_depends_64 : zD cX12_depends 64 65 (.ishl) 1 := by decide +kernel
theorem kX12_depends_65 : zB cX12_depends 65 68 69 (.goto 4) 4 := by decide +kernel
theorem kX12_depends_68 : zD cX12_depends 68 69 (.iconst 0) 1 := by decide +kernel
theorem kX12_depends_69 : zD cX12_depends 69 70 (.ior) 1 := by decide +kernel
theorem kX12_depends_70 : zD cX12_depends 70 71 (.istore_n 3) 1 := by decide +kernel
theorem kX12_depends_71 : zD cX12_depends 71 74 (.iinc 4 1) 3 := by decide +kernel
theorem kX12_depends_74 : zB cX12_depends 74 77 17 (.goto (-57)) (-57) := by decide +kernel
theorem kX12_depends_77 : zD cX12_depends 77 78 (.iload_n 3) 1 := by decide +kernel
theorem kX12_depends_78 : zD cX12_depends 78 79 (.ireturn) 1 := by decide +kernel
set_option maxRecDepth 10000 in
theorem wX12_depends_0 {G : ZG} {d : Nat} {h : ZH} {Q : Option ZV → ZH → Prop} {x1 : Int32} 
  (H : ((wStoneI h x1) = 0 → zT G (d + 7) mX12_depends 17 [zr 5 0, zi x1, zi (wStoneI h x1), zi 0, zi 0] [] h Q) ∧ (¬ (wStoneI h x1) = 0 → Q (some (zi (wStoneI h x1))) h)) :
  zT G (d + 7) mX12_depends 0 [zr 5 0, zi x1, zu, zu, zu] [] h Q := by
  refine zt_aload_n kX12_depends_0 rfl ?_
  refine zt_iload_n kX12_depends_1 rfl ?_
  refine zt_cV (as := [zi x1]) kX12_depends_2 sRX12_154 rfl (by decide) rfl (by simp) rfl (sX12_wrongStone _  ) (fun r h0 hq => ?_)
  obtain ⟨rfl, hh⟩ := hq
  replace hh := hh.symm
  subst hh
  refine zt_istore_n (L' := [zr 5 0, zi x1, zi (wStoneI h x1), zu, zu]) kX12_depends_5 (by decide) rfl ?_
  refine zt_iload_n kX12_depends_6 rfl ?_
  refine zt_if_eq kX12_depends_7 (fun c => ?_) (fun c => ?_)
  · replace H := H.1 c
    refine zt_iconst (v := 0) kX12_depends_12 rfl ?_
    refine zt_istore_n (L' := [zr 5 0, zi x1, zi (wStoneI h x1), zi 0, zu]) kX12_depends_13 (by decide) rfl ?_
    refine zt_iconst (v := 0) kX12_depends_14 rfl ?_
    refine zt_istore (L' := [zr 5 0, zi x1, zi (wStoneI h x1), zi 0, zi 0]) kX12_depends_15 (by decide) rfl ?_
    exact H
  · replace H := H.2 c
    refine zt_iload_n kX12_depends_10 rfl ?_
    exact zt_iret kX12_depends_11 rfl H

set_option maxRecDepth 10000 in
theorem wX12_depends_17 {G : ZG} {d : Nat} {h : ZH} {Q : Option ZV → ZH → Prop} {x1 : Int32} {x2 : Int32} {x3 : Int32} {x4 : Int32} 
  (H : (12 ≤ x4 → Q (some (zi x3)) h) ∧ (¬ 12 ≤ x4 → (x4 = x1 → zT G (d + 7) mX12_depends 17 [zr 5 0, zi x1, zi x2, zi (x3 ||| 0), zi (x4 + 1)] [] h Q) ∧ (¬ x4 = x1 → (¬ (hasI (h.1 30 0 0) x4) → zT G (d + 7) mX12_depends 17 [zr 5 0, zi x1, zi x2, zi (x3 ||| 0), zi (x4 + 1)] [] h Q) ∧ ((hasI (h.1 30 0 0) x4) → zC G (d + 6) mX12_leftWithout [zr 5 0, zi (h.1 30 0 0), zi ((1 : Int32) <<< (x4 &&& 31))] h (fun r2 h1 => ∃ y3 : Int32, r2 = some (zi y3) ∧ ((hasI y3 x1) → zT G (d + 7) mX12_depends 17 [zr 5 0, zi x1, zi x2, zi (x3 ||| 0), zi (x4 + 1)] [] h1 Q) ∧ (¬ (hasI y3 x1) → zT G (d + 7) mX12_depends 17 [zr 5 0, zi x1, zi x2, zi (x3 ||| ((1 : Int32) <<< (x4 &&& 31))), zi (x4 + 1)] [] h1 Q)))))) :
  zT G (d + 7) mX12_depends 17 [zr 5 0, zi x1, zi x2, zi x3, zi x4] [] h Q := by
  refine zt_iload kX12_depends_17 rfl ?_
  refine zt_bipush (v := 12) kX12_depends_19 rfl ?_
  refine zt_icmp_ge kX12_depends_21 (fun c => ?_) (fun c => ?_)
  · replace H := H.1 c
    refine zt_iload_n kX12_depends_77 rfl ?_
    exact zt_iret kX12_depends_78 rfl H
  · replace H := H.2 c
    refine zt_iload_n kX12_depends_24 rfl ?_
    refine zt_iload kX12_depends_25 rfl ?_
    refine zt_iload_n kX12_depends_27 rfl ?_
    refine zt_icmp_eq kX12_depends_28 (fun c => ?_) (fun c => ?_)
    · replace H := H.1 c
      refine zt_iconst (v := 0) kX12_depends_68 rfl ?_
      refine zt_ior kX12_depends_69 ?_
      refine zt_istore_n (L' := [zr 5 0, zi x1, zi x2, zi (x3 ||| 0), zi x4]) kX12_depends_70 (by decide) rfl ?_
      refine zt_iinc (v := (x4 + 1)) (L' := [zr 5 0, zi x1, zi x2, zi (x3 ||| 0), zi (x4 + 1)]) kX12_depends_71 rfl rfl (by decide) rfl ?_
      refine zt_goto kX12_depends_74 ?_
      exact H
    · replace H := H.2 c
      refine zt_aload_n kX12_depends_31 rfl ?_
      refine zt_iload kX12_depends_32 rfl ?_
      refine zt_cV (as := [zi x4]) kX12_depends_34 sRX12_133 rfl (by decide) rfl (by simp) rfl (sX12_isThere _  ) (fun r h0 hq => ?_)
      obtain ⟨rfl, hh⟩ := hq
      replace hh := hh.symm
      subst hh
      refine zt_ifb_eq kX12_depends_37 (fun c => ?_) (fun c => ?_)
      · replace H := H.1 c
        refine zt_iconst (v := 0) kX12_depends_68 rfl ?_
        refine zt_ior kX12_depends_69 ?_
        refine zt_istore_n (L' := [zr 5 0, zi x1, zi x2, zi (x3 ||| 0), zi x4]) kX12_depends_70 (by decide) rfl ?_
        refine zt_iinc (v := (x4 + 1)) (L' := [zr 5 0, zi x1, zi x2, zi (x3 ||| 0), zi (x4 + 1)]) kX12_depends_71 rfl rfl (by decide) rfl ?_
        refine zt_goto kX12_depends_74 ?_
        exact H
      · replace H := H.2 c
        refine zt_aload_n kX12_depends_40 rfl ?_
        refine zt_aload_n kX12_depends_41 rfl ?_
        refine zt_get (v := zr 30 0) kX12_depends_42 fRX12_9 rfl (by decide) rfl ?_
        refine zt_iconst (v := 0) kX12_depends_45 rfl ?_
        refine zt_ialdc 0 rfl kX12_depends_46 rfl (by decide) (zvp_dec (by decide)) ?_
        refine zt_iconst (v := 1) kX12_depends_47 rfl ?_
        refine zt_iload kX12_depends_48 rfl ?_
        refine zt_ishl kX12_depends_50 ?_
        refine zt_cV (as := [zi (h.1 30 0 0), zi ((1 : Int32) <<< (x4 &&& 31))]) kX12_depends_51 sRX12_110 rfl (by decide) rfl (by simp) rfl H (fun r2 h1 H => ?_)
        obtain ⟨y3, rfl, H⟩ := H
        refine zt_iload_n kX12_depends_54 rfl ?_
        refine zt_cS (as := [zi y3, zi x1]) kX12_depends_55 sRX12_57 rfl (by simp) rfl (sX12_has _  ) (fun r h0 hq => ?_)
        obtain ⟨rfl, hh⟩ := hq
        replace hh := hh.symm
        subst hh
        refine zt_ifb_ne kX12_depends_58 (fun c => ?_) (fun c => ?_)
        · replace H := H.1 c
          refine zt_iconst (v := 0) kX12_depends_68 rfl ?_
          refine zt_ior kX12_depends_69 ?_
          refine zt_istore_n (L' := [zr 5 0, zi x1, zi x2, zi (x3 ||| 0), zi x4]) kX12_depends_70 (by decide) rfl ?_
          refine zt_iinc (v := (x4 + 1)) (L' := [zr 5 0, zi x1, zi x2, zi (x3 ||| 0), zi (x4 + 1)]) kX12_depends_71 rfl rfl (by decide) rfl ?_
          refine zt_goto kX12_depends_74 ?_
          exact H
        · replace H := H.2 c
          refine zt_iconst (v := 1) kX12_depends_61 rfl ?_
          refine zt_iload kX12_depends_62 rfl ?_
          refine zt_ishl kX12_depends_64 ?_
          refine zt_goto kX12_depends_65 ?_
          refine zt_ior kX12_depends_69 ?_
          refine zt_istore_n (L' := [zr 5 0, zi x1, zi x2, zi (x3 ||| ((1 : Int32) <<< (x4 &&& 31))), zi x4]) kX12_depends_70 (by decide) rfl ?_
          refine zt_iinc (v := (x4 + 1)) (L' := [zr 5 0, zi x1, zi x2, zi (x3 ||| ((1 : Int32) <<< (x4 &&& 31))), zi (x4 + 1)]) kX12_depends_71 rfl rfl (by decide) rfl ?_
          refine zt_goto kX12_depends_74 ?_
          exact H

