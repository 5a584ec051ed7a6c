/-! ===== the bytecode of these methods, walked (by program): X11_cut X3_fewestToFell X11_toGround X3_fewestToLevel X11_judge X3_firstBadTaking X11_raids X3_sumOfRaids X12_cut X12_toGround X12_judge X12_raids ===== -/
theorem kX11_cut_0 : zD cX11_cut 0 1 (.aload_n 0) 1 := by decide +kernel
theorem kX11_cut_1 : zD cX11_cut 1 2 (.iload_n 1) 1 := by decide +kernel
theorem kX11_cut_2 : zD cX11_cut 2 5 (.invokevirtual 127) 3 := by decide +kernel
theorem kX11_cut_5 : zD cX11_cut 5 6 (.istore_n 2) 1 := by decide +kernel
theorem kX11_cut_6 : zD cX11_cut 6 7 (.iload_n 2) 1 := by decide +kernel
theorem kX11_cut_7 : zB cX11_cut 7 10 14 (.ifCond .eq 7) 7 := by decide +kernel
theorem kX11_cut_10 : zD cX11_cut 10 11 (.iload_n 2) 1 := by decide +kernel
theorem kX11_cut_11 : zB cX11_cut 11 14 22 (.goto 11) 11 := by decide +kernel
theorem kX11_cut_14 : zD cX11_cut 14 15 (.aload_n 0) 1 := by decide +kernel
theorem kX11_cut_15 : zD cX11_cut 15 18 (.getfield 40) 3 := by decide +kernel
theorem kX11_cut_18 : zD cX11_cut 18 19 (.iload_n 1) 1 := by decide +kernel
theorem kX11_cut_19 : zD cX11_cut 19 22 (.invokevirtual 170) 3 := by decide +kernel
theorem kX11_cut_22 : zD cX11_cut 22 23 (.ireturn) 1 := by decide +kernel
set_option maxRecDepth 10000 in
theorem wX11_cut_0 {G : ZG} {d : Nat} {h : ZH} {Q : Option ZV → ZH → Prop} {x1 : Int32} 
  (H : ((stRefI h x1) = 0 → zC G (d + 5) mX3_fewestToFell [zr 1 0, zi x1] h (fun r2 h1 => ∃ y3 : Int32, r2 = some (zi y3) ∧ Q (some (zi y3)) h1)) ∧ (¬ (stRefI h x1) = 0 → Q (some (zi (stRefI h x1))) h)) :
  zT G (d + 6) mX11_cut 0 [zr 0 0, zi x1, zu] [] h Q := by
  refine zt_aload_n kX11_cut_0 rfl ?_
  refine zt_iload_n kX11_cut_1 rfl ?_
  refine zt_cV (as := [zi x1]) kX11_cut_2 sRX11_127 rfl (by decide) rfl (by simp) rfl (sX11_stoneRefused _  ) (fun r h0 hq => ?_)
  obtain ⟨rfl, hh⟩ := hq
  replace hh := hh.symm
  subst hh
  refine zt_istore_n (L' := [zr 0 0, zi x1, zi (stRefI h x1)]) kX11_cut_5 (by decide) rfl ?_
  refine zt_iload_n kX11_cut_6 rfl ?_
  refine zt_if_eq kX11_cut_7 (fun c => ?_) (fun c => ?_)
  · replace H := H.1 c
    refine zt_aload_n kX11_cut_14 rfl ?_
    refine zt_get (v := zr 1 0) kX11_cut_15 fRX11_40 rfl (by decide) rfl ?_
    refine zt_iload_n kX11_cut_18 rfl ?_
    refine zt_cV (as := [zi x1]) kX11_cut_19 sRX11_170 rfl (by decide) rfl (by simp) rfl H (fun r2 h1 H => ?_)
    obtain ⟨y3, rfl, H⟩ := H
    exact zt_iret kX11_cut_22 rfl H
  · replace H := H.2 c
    refine zt_iload_n kX11_cut_10 rfl ?_
    refine zt_goto kX11_cut_11 ?_
    exact zt_iret kX11_cut_22 rfl H

theorem kX3_fewestToFell_0 : zD cX3_fewestToFell 0 1 (.aload_n 0) 1 := by decide +kernel
theorem kX3_fewestToFell_1 : zD cX3_fewestToFell 1 4 (.getfield 12) 3 := by decide +kernel
theorem kX3_fewestToFell_4 : zD cX3_fewestToFell 4 7 (.getfield 49) 3 := by decide +kernel
theorem kX3_fewestToFell_7 : zD cX3_fewestToFell 7 8 (.iconst 1) 1 := by decide +kernel
theorem kX3_fewestToFell_8 : zD cX3_fewestToFell 8 9 (.iload_n 1) 1 := by decide +kernel
theorem kX3_fewestToFell_9 : zD cX3_fewestToFell 9 10 (.ishl) 1 := by decide +kernel
theorem kX3_fewestToFell_10 : zD cX3_fewestToFell 10 11 (.iconst (-1)) 1 := by decide +kernel
theorem kX3_fewestToFell_11 : zD cX3_fewestToFell 11 12 (.ixor) 1 := by decide +kernel
theorem kX3_fewestToFell_12 : zD cX3_fewestToFell 12 13 (.iand) 1 := by decide +kernel
theorem kX3_fewestToFell_13 : zD cX3_fewestToFell 13 14 (.istore_n 2) 1 := by decide +kernel
theorem kX3_fewestToFell_14 : zD cX3_fewestToFell 14 15 (.iconst 0) 1 := by decide +kernel
theorem kX3_fewestToFell_15 : zD cX3_fewestToFell 15 16 (.istore_n 3) 1 := by decide +kernel
theorem kX3_fewestToFell_16 : zD cX3_fewestToFell 16 17 (.iconst 0) 1 := by decide +kernel
theorem kX3_fewestToFell_17 : zD cX3_fewestToFell 17 19 (.istore 4) 2 := by decide +kernel
theorem kX3_fewestToFell_19 : zD cX3_fewestToFell 19 21 (.iload 4) 2 := by decide +kernel
theorem kX3_fewestToFell_21 : zD cX3_fewestToFell 21 24 (.sipush 4095) 3 := by decide +kernel
theorem kX3_fewestToFell_24 : zB cX3_fewestToFell 24 27 82 (.if_icmp .gt 58) 58 := by decide +kernel
theorem kX3_fewestToFell_27 : zD cX3_fewestToFell 27 28 (.iload_n 3) 1 := by decide +kernel
theorem kX3_fewestToFell_28 : zD cX3_fewestToFell 28 29 (.iload_n 2) 1 := by decide +kernel
theorem kX3_fewestToFell_29 : zD cX3_fewestToFell 29 30 (.iconst (-1)) 1 := by decide +kernel
theorem kX3_fewestToFell_30 : zD cX3_fewestToFell 30 31 (.ixor) 1 := by decide +kernel
theorem kX3_fewestToFell_31 : zD cX3_fewestToFell 31 32 (.iand) 1 := by decide +kernel
theorem kX3_fewestToFell_32 : zB cX3_fewestToFell 32 35 39 (.ifCond .ne 7) 7 := by decide +kernel
theorem kX3_fewestToFell_35 : zD cX3_fewestToFell 35 36 (.iconst 1) 1 := by decide +kernel
theorem kX3_fewestToFell_36 : zB cX3_fewestToFell 36 39 40 (.goto 4) 4 := by decide +kernel
theorem kX3_fewestToFell_39 : zD cX3_fewestToFell 39 40 (.iconst 0) 1 := by decide +kernel
theorem kX3_fewestToFell_40 : zD cX3_fewestToFell 40 42 (.istore 5) 2 := by decide +kernel
theorem kX3_fewestToFell_42 : zD cX3_fewestToFell 42 44 (.iload 5) 2 := by decide +kernel
theorem kX3_fewestToFell_44 : zB cX3_fewestToFell 44 47 71 (.ifCond .eq 27) 27 := by decide +kernel
theorem kX3_fewestToFell_47 : zD cX3_fewestToFell 47 48 (.aload_n 0) 1 := by decide +kernel
theorem kX3_fewestToFell_48 : zD cX3_fewestToFell 48 49 (.aload_n 0) 1 := by decide +kernel
theorem kX3_fewestToFell_49 : zD cX3_fewestToFell 49 52 (.getfield 12) 3 := by decide +kernel
theorem kX3_fewestToFell_52 : zD cX3_fewestToFell 52 55 (.getfield 49) 3 := by decide +kernel
theorem kX3_fewestToFell_55 : zD cX3_fewestToFell 55 56 (.iload_n 3) 1 := by decide +kernel
theorem kX3_fewestToFell_56 : zD cX3_fewestToFell 56 57 (.iconst (-1)) 1 := by decide +kernel
theorem kX3_fewestToFell_57 : zD cX3_fewestToFell 57 58 (.ixor) 1 := by decide +kernel
theorem kX3_fewestToFell_58 : zD cX3_fewestToFell 58 59 (.iand) 1 := by decide +kernel
theorem kX3_fewestToFell_59 : zD cX3_fewestToFell 59 62 (.invokevirtual 52) 3 := by decide +kernel
theorem kX3_fewestToFell_62 : zD cX3_fewestToFell 62 63 (.iload_n 1) 1 := by decide +kernel
theorem kX3_fewestToFell_63 : zD cX3_fewestToFell 63 64 (.ishr) 1 := by decide +kernel
theorem kX3_fewestToFell_64 : zD cX3_fewestToFell 64 65 (.iconst 1) 1 := by decide +kernel
theorem kX3_fewestToFell_65 : zD cX3_fewestToFell 65 66 (.iand) 1 := by decide +kernel
theorem kX3_fewestToFell_66 : zB cX3_fewestToFell 66 69 71 (.ifCond .ne 5) 5 := by decide +kernel
theorem kX3_fewestToFell_69 : zD cX3_fewestToFell 69 70 (.iload_n 3) 1 := by decide +kernel
theorem kX3_fewestToFell_70 : zD cX3_fewestToFell 70 71 (.ireturn) 1 := by decide +kernel
theorem kX3_fewestToFell_71 : zD cX3_fewestToFell 71 72 (.iload_n 3) 1 := by decide +kernel
theorem kX3_fewestToFell_72 : zD cX3_fewestToFell 72 75 (.invokestatic 72) 3 := by decide +kernel
theorem kX3_fewestToFell_75 : zD cX3_fewestToFell 75 76 (.istore_n 3) 1 := by decide +kernel
theorem kX3_fewestToFell_76 : zD cX3_fewestToFell 76 79 (.iinc 4 1) 3 := by decide +kernel
theorem kX3_fewestToFell_79 : zB cX3_fewestToFell 79 82 19 (.goto (-60)) (-60) := by decide +kernel
theorem kX3_fewestToFell_82 : zD cX3_fewestToFell 82 84 (.bipush (-4)) 2 := by decide +kernel
theorem kX3_fewestToFell_84 : zD cX3_fewestToFell 84 85 (.ireturn) 1 := by decide +kernel
set_option maxRecDepth 10000 in
theorem wX3_fewestToFell_0 {G : ZG} {d : Nat} {h : ZH} {Q : Option ZV → ZH → Prop} {x1 : Int32} 
  (H : zT G (d + 5) mX3_fewestToFell 19 [zr 1 0, zi x1, zi ((h.1 2 0 6) &&& (((1 : Int32) <<< (x1 &&& 31)) ^^^ (-1))), zi 0, zi 0, zu] [] h Q) :
  zT G (d + 5) mX3_fewestToFell 0 [zr 1 0, zi x1, zu, zu, zu, zu] [] h Q := by
  refine zt_aload_n kX3_fewestToFell_0 rfl ?_
  refine zt_get (v := zr 2 0) kX3_fewestToFell_1 fRX3_12 rfl (by decide) rfl ?_
  refine zt_get (v := zi (h.1 2 0 6)) kX3_fewestToFell_4 fRX3_49 rfl (by decide) rfl ?_
  refine zt_iconst (v := 1) kX3_fewestToFell_7 rfl ?_
  refine zt_iload_n kX3_fewestToFell_8 rfl ?_
  refine zt_ishl kX3_fewestToFell_9 ?_
  refine zt_iconst (v := (-1)) kX3_fewestToFell_10 rfl ?_
  refine zt_ixor kX3_fewestToFell_11 ?_
  refine zt_iand kX3_fewestToFell_12 ?_
  refine zt_istore_n (L' := [zr 1 0, zi x1, zi ((h.1 2 0 6) &&& (((1 : Int32) <<< (x1 &&& 31)) ^^^ (-1))), zu, zu, zu]) kX3_fewestToFell_13 (by decide) rfl ?_
  refine zt_iconst (v := 0) kX3_fewestToFell_14 rfl ?_
  refine zt_istore_n (L' := [zr 1 0, zi x1, zi ((h.1 2 0 6) &&& (((1 : Int32) <<< (x1 &&& 31)) ^^^ (-1))), zi 0, zu, zu]) kX3_fewestToFell_15 (by decide) rfl ?_
  refine zt_iconst (v := 0) kX3_fewestToFell_16 rfl ?_
  refine zt_istore (L' := [zr 1 0, zi x1, zi ((h.1 2 0 6) &&& (((1 : Int32) <<< (x1 &&& 31)) ^^^ (-1))), zi 0, zi 0, zu]) kX3_fewestToFell_17 (by decide) rfl ?_
  exact H

set_option maxRecDepth 10000 in
theorem wX3_fewestToFell_19 {G : ZG} {d : Nat} {h : ZH} {Q : Option ZV → ZH → Prop} {x1 : Int32} {x2 : Int32} {x3 : Int32} {x4 : Int32} 
  (H : (4095 < x4 → Q (some (zi (-4))) h) ∧ (¬ 4095 < x4 → (¬ (x3 &&& (x2 ^^^ (-1))) = 0 → zT G (d + 5) mX3_fewestToFell 19 [zr 1 0, zi x1, zi x2, zi (nextI x3), zi (x4 + 1), zu] [] h Q) ∧ ((x3 &&& (x2 ^^^ (-1))) = 0 → zC G (d + 4) mX3_leftOf [zr 1 0, zi ((h.1 2 0 6) &&& (x3 ^^^ (-1)))] h (fun r2 h1 => ∃ y3 : Int32, r2 = some (zi y3) ∧ (¬ ((y3 >>> (x1 &&& 31)) &&& 1) = 0 → zT G (d + 5) mX3_fewestToFell 19 [zr 1 0, zi x1, zi x2, zi (nextI x3), zi (x4 + 1), zu] [] h1 Q) ∧ (((y3 >>> (x1 &&& 31)) &&& 1) = 0 → Q (some (zi x3)) h1))))) :
  zT G (d + 5) mX3_fewestToFell 19 [zr 1 0, zi x1, zi x2, zi x3, zi x4, zu] [] h Q := by
  refine zt_iload kX3_fewestToFell_19 rfl ?_
  refine zt_sipush (v := 4095) kX3_fewestToFell_21 rfl ?_
  refine zt_icmp_gt kX3_fewestToFell_24 (fun c => ?_) (fun c => ?_)
  · replace H := H.1 c
    refine zt_bipush (v := (-4)) kX3_fewestToFell_82 rfl ?_
    exact zt_iret kX3_fewestToFell_84 rfl H
  · replace H := H.2 c
    refine zt_iload_n kX3_fewestToFell_27 rfl ?_
    refine zt_iload_n kX3_fewestToFell_28 rfl ?_
    refine zt_iconst (v := (-1)) kX3_fewestToFell_29 rfl ?_
    refine zt_ixor kX3_fewestToFell_30 ?_
    refine zt_iand kX3_fewestToFell_31 ?_
    refine zt_if_ne kX3_fewestToFell_32 (fun c => ?_) (fun c => ?_)
    · replace H := H.1 c
      refine zt_iconst (v := 0) kX3_fewestToFell_39 rfl ?_
      refine zt_istore (L' := [zr 1 0, zi x1, zi x2, zi x3, zi x4, zi 0]) kX3_fewestToFell_40 (by decide) rfl ?_
      refine zt_iload kX3_fewestToFell_42 rfl ?_
      refine zt_if_eq kX3_fewestToFell_44 (fun _ => ?_) (fun c => absurd c (by decide))
      refine zt_iload_n kX3_fewestToFell_71 rfl ?_
      refine zt_cS (as := [zi x3]) kX3_fewestToFell_72 sRX3_72 rfl (by simp) rfl (sX3_nextChoice _  ) (fun r h0 hq => ?_)
      obtain ⟨rfl, hh⟩ := hq
      replace hh := hh.symm
      subst hh
      refine zt_istore_n (L' := [zr 1 0, zi x1, zi x2, zi (nextI x3), zi x4, zi 0]) kX3_fewestToFell_75 (by decide) rfl ?_
      refine zt_iinc (v := (x4 + 1)) (L' := [zr 1 0, zi x1, zi x2, zi (nextI x3), zi (x4 + 1), zi 0]) kX3_fewestToFell_76 rfl rfl (by decide) rfl ?_
      refine zt_goto kX3_fewestToFell_79 ?_
      exact zt_sub [zr 1 0, zi x1, zi x2, zi (nextI x3), zi (x4 + 1), zu] ⟨rfl, ⟨rfl, ⟨rfl, ⟨rfl, ⟨rfl, trivial⟩⟩⟩⟩⟩ H
    · replace H := H.2 c
      refine zt_iconst (v := 1) kX3_fewestToFell_35 rfl ?_
      refine zt_goto kX3_fewestToFell_36 ?_
      refine zt_istore (L' := [zr 1 0, zi x1, zi x2, zi x3, zi x4, zi 1]) kX3_fewestToFell_40 (by decide) rfl ?_
      refine zt_iload kX3_fewestToFell_42 rfl ?_
      refine zt_if_eq kX3_fewestToFell_44 (fun c => absurd c (by decide)) (fun _ => ?_)
      refine zt_aload_n kX3_fewestToFell_47 rfl ?_
      refine zt_aload_n kX3_fewestToFell_48 rfl ?_
      refine zt_get (v := zr 2 0) kX3_fewestToFell_49 fRX3_12 rfl (by decide) rfl ?_
      refine zt_get (v := zi (h.1 2 0 6)) kX3_fewestToFell_52 fRX3_49 rfl (by decide) rfl ?_
      refine zt_iload_n kX3_fewestToFell_55 rfl ?_
      refine zt_iconst (v := (-1)) kX3_fewestToFell_56 rfl ?_
      refine zt_ixor kX3_fewestToFell_57 ?_
      refine zt_iand kX3_fewestToFell_58 ?_
      refine zt_cV (as := [zi ((h.1 2 0 6) &&& (x3 ^^^ (-1)))]) kX3_fewestToFell_59 sRX3_52 rfl (by decide) rfl (by simp) rfl H (fun r2 h1 H => ?_)
      obtain ⟨y3, rfl, H⟩ := H
      refine zt_iload_n kX3_fewestToFell_62 rfl ?_
      refine zt_ishr kX3_fewestToFell_63 ?_
      refine zt_iconst (v := 1) kX3_fewestToFell_64 rfl ?_
      refine zt_iand kX3_fewestToFell_65 ?_
      refine zt_if_ne kX3_fewestToFell_66 (fun c => ?_) (fun c => ?_)
      · replace H := H.1 c
        refine zt_iload_n kX3_fewestToFell_71 rfl ?_
        refine zt_cS (as := [zi x3]) kX3_fewestToFell_72 sRX3_72 rfl (by simp) rfl (sX3_nextChoice _  ) (fun r h0 hq => ?_)
        obtain ⟨rfl, hh⟩ := hq
        replace hh := hh.symm
        subst hh
        refine zt_istore_n (L' := [zr 1 0, zi x1, zi x2, zi (nextI x3), zi x4, zi 1]) kX3_fewestToFell_75 (by decide) rfl ?_
        refine zt_iinc (v := (x4 + 1)) (L' := [zr 1 0, zi x1, zi x2, zi (nextI x3), zi (x4 + 1), zi 1]) kX3_fewestToFell_76 rfl rfl (by decide) rfl ?_
        refine zt_goto kX3_fewestToFell_79 ?_
        exact zt_sub [zr 1 0, zi x1, zi x2, zi (nextI x3), zi (x4 + 1), zu] ⟨rfl, ⟨rfl, ⟨rfl, ⟨rfl, ⟨rfl, trivial⟩⟩⟩⟩⟩ H
      · replace H := H.2 c
        refine zt_iload_n kX3_fewestToFell_69 rfl ?_
        exact zt_iret kX3_fewestToFell_70 rfl H

theorem kX11_toGround_0 : zD cX11_toGround 0 1 (.aload_n 0) 1 := by decide +kernel
theorem kX11_toGround_1 : zD cX11_toGround 1 4 (.getfield 40) 3 := by decide +kernel
theorem kX11_toGround_4 : zD cX11_toGround 4 7 (.invokevirtual 173) 3 := by decide +kernel
theorem kX11_toGround_7 : zD cX11_toGround 7 8 (.ireturn) 1 := by decide +kernel
set_option maxRecDepth 10000 in
theorem wX11_toGround_0 {G : ZG} {d : Nat} {h : ZH} {Q : Option ZV → ZH → Prop}  
  (H : zC G (d + 5) mX3_fewestToLevel [zr 1 0] h (fun r2 h1 => ∃ y3 : Int32, r2 = some (zi y3) ∧ Q (some (zi y3)) h1)) :
  zT G (d + 6) mX11_toGround 0 [zr 0 0] [] h Q := by
  refine zt_aload_n kX11_toGround_0 rfl ?_
  refine zt_get (v := zr 1 0) kX11_toGround_1 fRX11_40 rfl (by decide) rfl ?_
  refine zt_cV (as := []) kX11_toGround_4 sRX11_173 rfl (by decide) rfl (by simp) rfl H (fun r2 h1 H => ?_)
  obtain ⟨y3, rfl, H⟩ := H
  exact zt_iret kX11_toGround_7 rfl H

theorem kX3_fewestToLevel_0 : zD cX3_fewestToLevel 0 1 (.iconst 0) 1 := by decide +kernel
theorem kX3_fewestToLevel_1 : zD cX3_fewestToLevel 1 2 (.istore_n 1) 1 := by decide +kernel
theorem kX3_fewestToLevel_2 : zD cX3_fewestToLevel 2 3 (.iconst 0) 1 := by decide +kernel
theorem kX3_fewestToLevel_3 : zD cX3_fewestToLevel 3 4 (.istore_n 2) 1 := by decide +kernel
theorem kX3_fewestToLevel_4 : zD cX3_fewestToLevel 4 5 (.iload_n 2) 1 := by decide +kernel
theorem kX3_fewestToLevel_5 : zD cX3_fewestToLevel 5 8 (.sipush 4095) 3 := by decide +kernel
theorem kX3_fewestToLevel_8 : zB cX3_fewestToLevel 8 11 69 (.if_icmp .gt 61) 61 := by decide +kernel
theorem kX3_fewestToLevel_11 : zD cX3_fewestToLevel 11 12 (.iload_n 1) 1 := by decide +kernel
theorem kX3_fewestToLevel_12 : zD cX3_fewestToLevel 12 13 (.aload_n 0) 1 := by decide +kernel
theorem kX3_fewestToLevel_13 : zD cX3_fewestToLevel 13 16 (.getfield 12) 3 := by decide +kernel
theorem kX3_fewestToLevel_16 : zD cX3_fewestToLevel 16 19 (.getfield 49) 3 := by decide +kernel
theorem kX3_fewestToLevel_19 : zD cX3_fewestToLevel 19 20 (.iconst (-1)) 1 := by decide +kernel
theorem kX3_fewestToLevel_20 : zD cX3_fewestToLevel 20 21 (.ixor) 1 := by decide +kernel
theorem kX3_fewestToLevel_21 : zD cX3_fewestToLevel 21 22 (.iand) 1 := by decide +kernel
theorem kX3_fewestToLevel_22 : zB cX3_fewestToLevel 22 25 29 (.ifCond .ne 7) 7 := by decide +kernel
theorem kX3_fewestToLevel_25 : zD cX3_fewestToLevel 25 26 (.iconst 1) 1 := by decide +kernel
theorem kX3_fewestToLevel_26 : zB cX3_fewestToLevel 26 29 30 (.goto 4) 4 := by decide +kernel
theorem kX3_fewestToLevel_29 : zD cX3_fewestToLevel 29 30 (.iconst 0) 1 := by decide +kernel
theorem kX3_fewestToLevel_30 : zD cX3_fewestToLevel 30 31 (.istore_n 3) 1 := by decide +kernel
theorem kX3_fewestToLevel_31 : zD cX3_fewestToLevel 31 32 (.iload_n 3) 1 := by decide +kernel
theorem kX3_fewestToLevel_32 : zB cX3_fewestToLevel 32 35 58 (.ifCond .eq 26) 26 := by decide +kernel
theorem kX3_fewestToLevel_35 : zD cX3_fewestToLevel 35 36 (.aload_n 0) 1 := by decide +kernel
theorem kX3_fewestToLevel_36 : zD cX3_fewestToLevel 36 37 (.aload_n 0) 1 := by decide +kernel
theorem kX3_fewestToLevel_37 : zD cX3_fewestToLevel 37 40 (.getfield 12) 3 := by decide +kernel
theorem kX3_fewestToLevel_40 : zD cX3_fewestToLevel 40 43 (.getfield 49) 3 := by decide +kernel
theorem kX3_fewestToLevel_43 : zD cX3_fewestToLevel 43 44 (.iload_n 1) 1 := by decide +kernel
theorem kX3_fewestToLevel_44 : zD cX3_fewestToLevel 44 45 (.iconst (-1)) 1 := by decide +kernel
theorem kX3_fewestToLevel_45 : zD cX3_fewestToLevel 45 46 (.ixor) 1 := by decide +kernel
theorem kX3_fewestToLevel_46 : zD cX3_fewestToLevel 46 47 (.iand) 1 := by decide +kernel
theorem kX3_fewestToLevel_47 : zD cX3_fewestToLevel 47 50 (.invokevirtual 52) 3 := by decide +kernel
theorem kX3_fewestToLevel_50 : zD cX3_fewestToLevel 50 52 (.bipush (-16)) 2 := by decide +kernel
theorem kX3_fewestToLevel_52 : zD cX3_fewestToLevel 52 53 (.iand) 1 := by decide +kernel
theorem kX3_fewestToLevel_53 : zB cX3_fewestToLevel 53 56 58 (.ifCond .ne 5) 5 := by decide +kernel
theorem kX3_fewestToLevel_56 : zD cX3_fewestToLevel 56 57 (.iload_n 1) 1 := by decide +kernel
theorem kX3_fewestToLevel_57 : zD cX3_fewestToLevel 57 58 (.ireturn) 1 := by decide +kernel
theorem kX3_fewestToLevel_58 : zD cX3_fewestToLevel 58 59 (.iload_n 1) 1 := by decide +kernel
theorem kX3_fewestToLevel_59 : zD cX3_fewestToLevel 59 62 (.invokestatic 72) 3 := by decide +kernel
theorem kX3_fewestToLevel_62 : zD cX3_fewestToLevel 62 63 (.istore_n 1) 1 := by decide +kernel
theorem kX3_fewestToLevel_63 : zD cX3_fewestToLevel 63 66 (.iinc 2 1) 3 := by decide +kernel
theorem kX3_fewestToLevel_66 : zB cX3_fewestToLevel 66 69 4 (.goto (-62)) (-62) := by decide +kernel
theorem kX3_fewestToLevel_69 : zD cX3_fewestToLevel 69 70 (.aload_n 0) 1 := by decide +kernel
theorem kX3_fewestToLevel_70 : zD cX3_fewestToLevel 70 73 (.getfield 12) 3 := by decide +kernel
theorem kX3_fewestToLevel_73 : zD cX3_fewestToLevel 73 76 (.getfield 49) 3 := by decide +kernel
theorem kX3_fewestToLevel_76 : zD cX3_fewestToLevel 76 77 (.ireturn) 1 := by decide +kernel
set_option maxRecDepth 10000 in
theorem wX3_fewestToLevel_0 {G : ZG} {d : Nat} {h : ZH} {Q : Option ZV → ZH → Prop}  
  (H : zT G (d + 5) mX3_fewestToLevel 4 [zr 1 0, zi 0, zi 0, zu] [] h Q) :
  zT G (d + 5) mX3_fewestToLevel 0 [zr 1 0, zu, zu, zu] [] h Q := by
  refine zt_iconst (v := 0) kX3_fewestToLevel_0 rfl ?_
  refine zt_istore_n (L' := [zr 1 0, zi 0, zu, zu]) kX3_fewestToLevel_1 (by decide) rfl ?_
  refine zt_iconst (v := 0) kX3_fewestToLevel_2 rfl ?_
  refine zt_istore_n (L' := [zr 1 0, zi 0, zi 0, zu]) kX3_fewestToLevel_3 (by decide) rfl ?_
  exact H

set_option maxRecDepth 10000 in
theorem wX3_fewestToLevel_4 {G : ZG} {d : Nat} {h : ZH} {Q : Option ZV → ZH → Prop} {x1 : Int32} {x2 : Int32} 
  (H : (4095 < x2 → Q (some (zi (h.1 2 0 6))) h) ∧ (¬ 4095 < x2 → (¬ (x1 &&& ((h.1 2 0 6) ^^^ (-1))) = 0 → zT G (d + 5) mX3_fewestToLevel 4 [zr 1 0, zi (nextI x1), zi (x2 + 1), zu] [] h Q) ∧ ((x1 &&& ((h.1 2 0 6) ^^^ (-1))) = 0 → zC G (d + 4) mX3_leftOf [zr 1 0, zi ((h.1 2 0 6) &&& (x1 ^^^ (-1)))] h (fun r2 h1 => ∃ y3 : Int32, r2 = some (zi y3) ∧ (¬ (y3 &&& (-16)) = 0 → zT G (d + 5) mX3_fewestToLevel 4 [zr 1 0, zi (nextI x1), zi (x2 + 1), zu] [] h1 Q) ∧ ((y3 &&& (-16)) = 0 → Q (some (zi x1)) h1))))) :
  zT G (d + 5) mX3_fewestToLevel 4 [zr 1 0, zi x1, zi x2, zu] [] h Q := by
  refine zt_iload_n kX3_fewestToLevel_4 rfl ?_
  refine zt_sipush (v := 4095) kX3_fewestToLevel_5 rfl ?_
  refine zt_icmp_gt kX3_fewestToLevel_8 (fun c => ?_) (fun c => ?_)
  · replace H := H.1 c
    refine zt_aload_n kX3_fewestToLevel_69 rfl ?_
    refine zt_get (v := zr 2 0) kX3_fewestToLevel_70 fRX3_12 rfl (by decide) rfl ?_
    refine zt_get (v := zi (h.1 2 0 6)) kX3_fewestToLevel_73 fRX3_49 rfl (by decide) rfl ?_
    exact zt_iret kX3_fewestToLevel_76 rfl H
  · replace H := H.2 c
    refine zt_iload_n kX3_fewestToLevel_11 rfl ?_
    refine zt_aload_n kX3_fewestToLevel_12 rfl ?_
    refine zt_get (v := zr 2 0) kX3_fewestToLevel_13 fRX3_12 rfl (by decide) rfl ?_
    refine zt_get (v := zi (h.1 2 0 6)) kX3_fewestToLevel_16 fRX3_49 rfl (by decide) rfl ?_
    refine zt_iconst (v := (-1)) kX3_fewestToLevel_19 rfl ?_
    refine zt_ixor kX3_fewestToLevel_20 ?_
    refine zt_iand kX3_fewestToLevel_21 ?_
    refine zt_if_ne kX3_fewestToLevel_22 (fun c => ?_) (fun c => ?_)
    · replace H := H.1 c
      refine zt_iconst (v := 0) kX3_fewestToLevel_29 rfl ?_
      refine zt_istore_n (L' := [zr 1 0, zi x1, zi x2, zi 0]) kX3_fewestToLevel_30 (by decide) rfl ?_
      refine zt_iload_n kX3_fewestToLevel_31 rfl ?_
      refine zt_if_eq kX3_fewestToLevel_32 (fun _ => ?_) (fun c => absurd c (by decide))
      refine zt_iload_n kX3_fewestToLevel_58 rfl ?_
      refine zt_cS (as := [zi x1]) kX3_fewestToLevel_59 sRX3_72 rfl (by simp) rfl (sX3_nextChoice _  ) (fun r h0 hq => ?_)
      obtain ⟨rfl, hh⟩ := hq
      replace hh := hh.symm
      subst hh
      refine zt_istore_n (L' := [zr 1 0, zi (nextI x1), zi x2, zi 0]) kX3_fewestToLevel_62 (by decide) rfl ?_
      refine zt_iinc (v := (x2 + 1)) (L' := [zr 1 0, zi (nextI x1), zi (x2 + 1), zi 0]) kX3_fewestToLevel_63 rfl rfl (by decide) rfl ?_
      refine zt_goto kX3_fewestToLevel_66 ?_
      exact zt_sub [zr 1 0, zi (nextI x1), zi (x2 + 1), zu] ⟨rfl, ⟨rfl, ⟨rfl, trivial⟩⟩⟩ H
    · replace H := H.2 c
      refine zt_iconst (v := 1) kX3_fewestToLevel_25 rfl ?_
      refine zt_goto kX3_fewestToLevel_26 ?_
      refine zt_istore_n (L' := [zr 1 0, zi x1, zi x2, zi 1]) kX3_fewestToLevel_30 (by decide) rfl ?_
      refine zt_iload_n kX3_fewestToLevel_31 rfl ?_
      refine zt_if_eq kX3_fewestToLevel_32 (fun c => absurd c (by decide)) (fun _ => ?_)
      refine zt_aload_n kX3_fewestToLevel_35 rfl ?_
      refine zt_aload_n kX3_fewestToLevel_36 rfl ?_
      refine zt_get (v := zr 2 0) kX3_fewestToLevel_37 fRX3_12 rfl (by decide) rfl ?_
      refine zt_get (v := zi (h.1 2 0 6)) kX3_fewestToLevel_40 fRX3_49 rfl (by decide) rfl ?_
      refine zt_iload_n kX3_fewestToLevel_43 rfl ?_
      refine zt_iconst (v := (-1)) kX3_fewestToLevel_44 rfl ?_
      refine zt_ixor kX3_fewestToLevel_45 ?_
      refine zt_iand kX3_fewestToLevel_46 ?_
      refine zt_cV (as := [zi ((h.1 2 0 6) &&& (x1 ^^^ (-1)))]) kX3_fewestToLevel_47 sRX3_52 rfl (by decide) rfl (by simp) rfl H (fun r2 h1 H => ?_)
      obtain ⟨y3, rfl, H⟩ := H
      refine zt_bipush (v := (-16)) kX3_fewestToLevel_50 rfl ?_
      refine zt_iand kX3_fewestToLevel_52 ?_
      refine zt_if_ne kX3_fewestToLevel_53 (fun c => ?_) (fun c => ?_)
      · replace H := H.1 c
        refine zt_iload_n kX3_fewestToLevel_58 rfl ?_
        refine zt_cS (as := [zi x1]) kX3_fewestToLevel_59 sRX3_72 rfl (by simp) rfl (sX3_nextChoice _  ) (fun r h0 hq => ?_)
        obtain ⟨rfl, hh⟩ := hq
        replace hh := hh.symm
        subst hh
        refine zt_istore_n (L' := [zr 1 0, zi (nextI x1), zi x2, zi 1]) kX3_fewestToLevel_62 (by decide) rfl ?_
        refine zt_iinc (v := (x2 + 1)) (L' := [zr 1 0, zi (nextI x1), zi (x2 + 1), zi 1]) kX3_fewestToLevel_63 rfl rfl (by decide) rfl ?_
        refine zt_goto kX3_fewestToLevel_66 ?_
        exact zt_sub [zr 1 0, zi (nextI x1), zi (x2 + 1), zu] ⟨rfl, ⟨rfl, ⟨rfl, trivial⟩⟩⟩ H
      · replace H := H.2 c
        refine zt_iload_n kX3_fewestToLevel_56 rfl ?_
        exact zt_iret kX3_fewestToLevel_57 rfl H

theorem kX11_judge_0 : zD cX11_judge 0 1 (.aload_n 0) 1 := by decide +kernel
theorem kX11_judge_1 : zD cX11_judge 1 2 (.iload_n 1) 1 := by decide +kernel
theorem kX11_judge_2 : zD cX11_judge 2 5 (.invokevirtual 71) 3 := by decide +kernel
theorem kX11_judge_5 : zD cX11_judge 5 6 (.istore_n 2) 1 := by decide +kernel
theorem kX11_judge_6 : zD cX11_judge 6 7 (.iload_n 2) 1 := by decide +kernel
theorem kX11_judge_7 : zB cX11_judge 7 10 12 (.ifCond .eq 5) 5 := by decide +kernel
theorem kX11_judge_10 : zD cX11_judge 10 11 (.iload_n 2) 1 := by decide +kernel
theorem kX11_judge_11 : zD cX11_judge 11 12 (.ireturn) 1 := by decide +kernel
theorem kX11_judge_12 : zD cX11_judge 12 13 (.aload_n 0) 1 := by decide +kernel
theorem kX11_judge_13 : zD cX11_judge 13 16 (.getfield 62) 3 := by decide +kernel
theorem kX11_judge_16 : zD cX11_judge 16 17 (.iload_n 1) 1 := by decide +kernel
theorem kX11_judge_17 : zD cX11_judge 17 18 (.aaload) 1 := by decide +kernel
theorem kX11_judge_18 : zD cX11_judge 18 19 (.astore_n 3) 1 := by decide +kernel
theorem kX11_judge_19 : zD cX11_judge 19 20 (.iconst 0) 1 := by decide +kernel
theorem kX11_judge_20 : zD cX11_judge 20 22 (.istore 4) 2 := by decide +kernel
theorem kX11_judge_22 : zD cX11_judge 22 24 (.iload 4) 2 := by decide +kernel
theorem kX11_judge_24 : zD cX11_judge 24 25 (.aload_n 3) 1 := by decide +kernel
theorem kX11_judge_25 : zD cX11_judge 25 28 (.getfield 241) 3 := by decide +kernel
theorem kX11_judge_28 : zB cX11_judge 28 31 52 (.if_icmp .ge 24) 24 := by decide +kernel
theorem kX11_judge_31 : zD cX11_judge 31 32 (.aload_n 3) 1 := by decide +kernel
theorem kX11_judge_32 : zD cX11_judge 32 34 (.iload 4) 2 := by decide +kernel
theorem kX11_judge_34 : zD cX11_judge 34 37 (.invokevirtual 244) 3 := by decide +kernel
theorem kX11_judge_37 : zD cX11_judge 37 40 (.invokestatic 86) 3 := by decide +kernel
theorem kX11_judge_40 : zB cX11_judge 40 43 46 (.ifCond .ne 6) 6 := by decide +kernel
theorem kX11_judge_43 : zD cX11_judge 43 45 (.bipush (-13)) 2 := by decide +kernel
theorem kX11_judge_45 : zD cX11_judge 45 46 (.ireturn) 1 := by decide +kernel
theorem kX11_judge_46 : zD cX11_judge 46 49 (.iinc 4 1) 3 := by decide +kernel
theorem kX11_judge_49 : zB cX11_judge 49 52 22 (.goto (-27)) (-27) := by decide +kernel
theorem kX11_judge_52 : zD cX11_judge 52 53 (.aload_n 0) 1 := by decide +kernel
theorem kX11_judge_53 : zD cX11_judge 53 56 (.getfield 40) 3 := by decide +kernel
theorem kX11_judge_56 : zD cX11_judge 56 57 (.aload_n 3) 1 := by decide +kernel
theorem kX11_judge_57 : zD cX11_judge 57 60 (.invokevirtual 247) 3 := by decide +kernel
theorem kX11_judge_60 : zD cX11_judge 60 61 (.ireturn) 1 := by decide +kernel
set_option maxRecDepth 10000 in
theorem wX11_judge_0 {G : ZG} {d : Nat} {h : ZH} {Q : Option ZV → ZH → Prop} {x1 : Int32} 
  (H : ((rowRefI h x1) = 0 → vp_in x1 8 ∧ zT G (d + 7) mX11_judge 22 [zr 0 0, zi x1, zi (rowRefI h x1), zr 3 (x1.toNatClampNeg), zi 0] [] h Q) ∧ (¬ (rowRefI h x1) = 0 → Q (some (zi (rowRefI h x1))) h)) :
  zT G (d + 7) mX11_judge 0 [zr 0 0, zi x1, zu, zu, zu] [] h Q := by
  refine zt_aload_n kX11_judge_0 rfl ?_
  refine zt_iload_n kX11_judge_1 rfl ?_
  refine zt_cV (as := [zi x1]) kX11_judge_2 sRX11_71 rfl (by decide) rfl (by simp) rfl (sX11_rowRefused _  ) (fun r h0 hq => ?_)
  obtain ⟨rfl, hh⟩ := hq
  replace hh := hh.symm
  subst hh
  refine zt_istore_n (L' := [zr 0 0, zi x1, zi (rowRefI h x1), zu, zu]) kX11_judge_5 (by decide) rfl ?_
  refine zt_iload_n kX11_judge_6 rfl ?_
  refine zt_if_eq kX11_judge_7 (fun c => ?_) (fun c => ?_)
  · replace H := H.1 c
    refine zt_aload_n kX11_judge_12 rfl ?_
    refine zt_get (v := zr 22 0) kX11_judge_13 fRX11_62 rfl (by decide) rfl ?_
    refine zt_iload_n kX11_judge_16 rfl ?_
    obtain ⟨hv1, H⟩ := H
    refine zt_aaldH kX11_judge_17 hv1 ?_
    refine zt_astore_n (L' := [zr 0 0, zi x1, zi (rowRefI h x1), zr 3 (x1.toNatClampNeg), zu]) kX11_judge_18 (by decide) rfl ?_
    refine zt_iconst (v := 0) kX11_judge_19 rfl ?_
    refine zt_istore (L' := [zr 0 0, zi x1, zi (rowRefI h x1), zr 3 (x1.toNatClampNeg), zi 0]) kX11_judge_20 (by decide) rfl ?_
    exact H
  · replace H := H.2 c
    refine zt_iload_n kX11_judge_10 rfl ?_
    exact zt_iret kX11_judge_11 rfl H

set_option maxRecDepth 10000 in
theorem wX11_judge_22 {G : ZG} {d : Nat} {h : ZH} {Q : Option ZV → ZH → Prop} {x1 : Int32} {x2 : Int32} {i3 : Nat} {x4 : Int32} (hi3 : i3 < zcnt 3)
  (H : ((h.1 3 i3 4) ≤ x4 → zC G (d + 6) mX3_firstBadTaking [zr 1 0, zr 3 i3] h (fun r2 h1 => ∃ y3 : Int32, r2 = some (zi y3) ∧ Q (some (zi y3)) h1)) ∧ (¬ (h.1 3 i3 4) ≤ x4 → h.1 3 i3 4 ≤ 100 ∧ (((0 ≤ (shAt h i3 x4) ∧ (shAt h i3 x4) ≤ 11) → zT G (d + 7) mX11_judge 22 [zr 0 0, zi x1, zi x2, zr 3 i3, zi (x4 + 1)] [] h Q) ∧ (¬ (0 ≤ (shAt h i3 x4) ∧ (shAt h i3 x4) ≤ 11) → Q (some (zi (-13))) h)))) :
  zT G (d + 7) mX11_judge 22 [zr 0 0, zi x1, zi x2, zr 3 i3, zi x4] [] h Q := by
  refine zt_iload kX11_judge_22 rfl ?_
  refine zt_aload_n kX11_judge_24 rfl ?_
  refine zt_get (v := zi (h.1 3 i3 4)) kX11_judge_25 fRX11_241 rfl hi3 rfl ?_
  refine zt_icmp_ge kX11_judge_28 (fun c => ?_) (fun c => ?_)
  · replace H := H.1 c
    refine zt_aload_n kX11_judge_52 rfl ?_
    refine zt_get (v := zr 1 0) kX11_judge_53 fRX11_40 rfl (by decide) rfl ?_
    refine zt_aload_n kX11_judge_56 rfl ?_
    refine zt_cV (as := [zr 3 i3]) kX11_judge_57 sRX11_247 rfl (by decide) rfl (by simp) rfl H (fun r2 h1 H => ?_)
    obtain ⟨y3, rfl, H⟩ := H
    exact zt_iret kX11_judge_60 rfl H
  · replace H := H.2 c
    refine zt_aload_n kX11_judge_31 rfl ?_
    refine zt_iload kX11_judge_32 rfl ?_
    obtain ⟨pp0, H⟩ := H
    refine zt_cV (as := [zi x4]) kX11_judge_34 sRX11_244 rfl hi3 rfl (by simp) rfl (sX8_at _ hi3 pp0) (fun r h0 hq => ?_)
    obtain ⟨rfl, hh⟩ := hq
    replace hh := hh.symm
    subst hh
    refine zt_cS (as := [zi (shAt h i3 x4)]) kX11_judge_37 sRX11_86 rfl (by simp) rfl (sX11_isPlace _  ) (fun r h0 hq => ?_)
    obtain ⟨rfl, hh⟩ := hq
    replace hh := hh.symm
    subst hh
    refine zt_ifb_ne kX11_judge_40 (fun c => ?_) (fun c => ?_)
    · replace H := H.1 c
      refine zt_iinc (v := (x4 + 1)) (L' := [zr 0 0, zi x1, zi x2, zr 3 i3, zi (x4 + 1)]) kX11_judge_46 rfl rfl (by decide) rfl ?_
      refine zt_goto kX11_judge_49 ?_
      exact H
    · replace H := H.2 c
      refine zt_bipush (v := (-13)) kX11_judge_43 rfl ?_
      exact zt_iret kX11_judge_45 rfl H

theorem kX3_firstBadTaking_0 : zD cX3_firstBadTaking 0 1 (.aload_n 0) 1 := by decide +kernel
theorem kX3_firstBadTaking_1 : zD cX3_firstBadTaking 1 4 (.getfield 12) 3 := by decide +kernel
theorem kX3_firstBadTaking_4 : zD cX3_firstBadTaking 4 7 (.getfield 49) 3 := by decide +kernel
theorem kX3_firstBadTaking_7 : zD cX3_firstBadTaking 7 8 (.istore_n 2) 1 := by decide +kernel
theorem kX3_firstBadTaking_8 : zD cX3_firstBadTaking 8 9 (.iconst 0) 1 := by decide +kernel
theorem kX3_firstBadTaking_9 : zD cX3_firstBadTaking 9 10 (.istore_n 3) 1 := by decide +kernel
theorem kX3_firstBadTaking_10 : zD cX3_firstBadTaking 10 11 (.iload_n 3) 1 := by decide +kernel
theorem kX3_firstBadTaking_11 : zD cX3_firstBadTaking 11 12 (.aload_n 1) 1 := by decide +kernel
theorem kX3_firstBadTaking_12 : zD cX3_firstBadTaking 12 15 (.getfield 103) 3 := by decide +kernel
theorem kX3_firstBadTaking_15 : zB cX3_firstBadTaking 15 18 51 (.if_icmp .ge 36) 36 := by decide +kernel
theorem kX3_firstBadTaking_18 : zD cX3_firstBadTaking 18 19 (.aload_n 0) 1 := by decide +kernel
theorem kX3_firstBadTaking_19 : zD cX3_firstBadTaking 19 20 (.iload_n 2) 1 := by decide +kernel
theorem kX3_firstBadTaking_20 : zD cX3_firstBadTaking 20 21 (.aload_n 1) 1 := by decide +kernel
theorem kX3_firstBadTaking_21 : zD cX3_firstBadTaking 21 22 (.iload_n 3) 1 := by decide +kernel
theorem kX3_firstBadTaking_22 : zD cX3_firstBadTaking 22 25 (.invokevirtual 108) 3 := by decide +kernel
theorem kX3_firstBadTaking_25 : zD cX3_firstBadTaking 25 28 (.invokevirtual 79) 3 := by decide +kernel
theorem kX3_firstBadTaking_28 : zB cX3_firstBadTaking 28 31 33 (.ifCond .ne 5) 5 := by decide +kernel
theorem kX3_firstBadTaking_31 : zD cX3_firstBadTaking 31 32 (.iload_n 3) 1 := by decide +kernel
theorem kX3_firstBadTaking_32 : zD cX3_firstBadTaking 32 33 (.ireturn) 1 := by decide +kernel
theorem kX3_firstBadTaking_33 : zD cX3_firstBadTaking 33 34 (.iload_n 2) 1 := by decide +kernel
theorem kX3_firstBadTaking_34 : zD cX3_firstBadTaking 34 35 (.iconst 1) 1 := by decide +kernel
theorem kX3_firstBadTaking_35 : zD cX3_firstBadTaking 35 36 (.aload_n 1) 1 := by decide +kernel
theorem kX3_firstBadTaking_36 : zD cX3_firstBadTaking 36 37 (.iload_n 3) 1 := by decide +kernel
theorem kX3_firstBadTaking_37 : zD cX3_firstBadTaking 37 40 (.invokevirtual 108) 3 := by decide +kernel
theorem kX3_firstBadTaking_40 : zD cX3_firstBadTaking 40 41 (.ishl) 1 := by decide +kernel
theorem kX3_firstBadTaking_41 : zD cX3_firstBadTaking 41 42 (.iconst (-1)) 1 := by decide +kernel
theorem kX3_firstBadTaking_42 : zD cX3_firstBadTaking 42 43 (.ixor) 1 := by decide +kernel
theorem kX3_firstBadTaking_43 : zD cX3_firstBadTaking 43 44 (.iand) 1 := by decide +kernel
theorem kX3_firstBadTaking_44 : zD cX3_firstBadTaking 44 45 (.istore_n 2) 1 := by decide +kernel
theorem kX3_firstBadTaking_45 : zD cX3_firstBadTaking 45 48 (.iinc 3 1) 3 := by decide +kernel
theorem kX3_firstBadTaking_48 : zB cX3_firstBadTaking 48 51 10 (.goto (-38)) (-38) := by decide +kernel
theorem kX3_firstBadTaking_51 : zD cX3_firstBadTaking 51 53 (.bipush (-4)) 2 := by decide +kernel
theorem kX3_firstBadTaking_53 : zD cX3_firstBadTaking 53 54 (.ireturn) 1 := by decide +kernel
set_option maxRecDepth 10000 in
theorem wX3_firstBadTaking_0 {G : ZG} {d : Nat} {h : ZH} {Q : Option ZV → ZH → Prop} {i1 : Nat} (hi1 : i1 < zcnt 3)
  (H : zT G (d + 6) mX3_firstBadTaking 10 [zr 1 0, zr 3 i1, zi (h.1 2 0 6), zi 0] [] h Q) :
  zT G (d + 6) mX3_firstBadTaking 0 [zr 1 0, zr 3 i1, zu, zu] [] h Q := by
  refine zt_aload_n kX3_firstBadTaking_0 rfl ?_
  refine zt_get (v := zr 2 0) kX3_firstBadTaking_1 fRX3_12 rfl (by decide) rfl ?_
  refine zt_get (v := zi (h.1 2 0 6)) kX3_firstBadTaking_4 fRX3_49 rfl (by decide) rfl ?_
  refine zt_istore_n (L' := [zr 1 0, zr 3 i1, zi (h.1 2 0 6), zu]) kX3_firstBadTaking_7 (by decide) rfl ?_
  refine zt_iconst (v := 0) kX3_firstBadTaking_8 rfl ?_
  refine zt_istore_n (L' := [zr 1 0, zr 3 i1, zi (h.1 2 0 6), zi 0]) kX3_firstBadTaking_9 (by decide) rfl ?_
  exact H

set_option maxRecDepth 10000 in
theorem wX3_firstBadTaking_10 {G : ZG} {d : Nat} {h : ZH} {Q : Option ZV → ZH → Prop} {i1 : Nat} {x2 : Int32} {x3 : Int32} (hi1 : i1 < zcnt 3)
  (H : ((h.1 3 i1 4) ≤ x3 → Q (some (zi (-4))) h) ∧ (¬ (h.1 3 i1 4) ≤ x3 → h.1 3 i1 4 ≤ 100 ∧ (zC G (d + 5) mX3_isSafeIn [zr 1 0, zi x2, zi (shAt h i1 x3)] h (fun r2 h1 => ∃ y3 : Int32, r2 = some (zi y3) ∧ (¬ y3 = 0 → h1.1 3 i1 4 ≤ 100 ∧ (∀ y4 : Int32, y4 = (x2 &&& (((1 : Int32) <<< ((shAt h1 i1 x3) &&& 31)) ^^^ (-1))) → zT G (d + 6) mX3_firstBadTaking 10 [zr 1 0, zr 3 i1, zi y4, zi (x3 + 1)] [] h1 Q)) ∧ (y3 = 0 → Q (some (zi x3)) h1))))) :
  zT G (d + 6) mX3_firstBadTaking 10 [zr 1 0, zr 3 i1, zi x2, zi x3] [] h Q := by
  refine zt_iload_n kX3_firstBadTaking_10 rfl ?_
  refine zt_aload_n kX3_firstBadTaking_11 rfl ?_
  refine zt_get (v := zi (h.1 3 i1 4)) kX3_firstBadTaking_12 fRX3_103 rfl hi1 rfl ?_
  refine zt_icmp_ge kX3_firstBadTaking_15 (fun c => ?_) (fun c => ?_)
  · replace H := H.1 c
    refine zt_bipush (v := (-4)) kX3_firstBadTaking_51 rfl ?_
    exact zt_iret kX3_firstBadTaking_53 rfl H
  · replace H := H.2 c
    refine zt_aload_n kX3_firstBadTaking_18 rfl ?_
    refine zt_iload_n kX3_firstBadTaking_19 rfl ?_
    refine zt_aload_n kX3_firstBadTaking_20 rfl ?_
    refine zt_iload_n kX3_firstBadTaking_21 rfl ?_
    obtain ⟨pp0, H⟩ := H
    refine zt_cV (as := [zi x3]) kX3_firstBadTaking_22 sRX3_108 rfl hi1 rfl (by simp) rfl (sX8_at _ hi1 pp0) (fun r h0 hq => ?_)
    obtain ⟨rfl, hh⟩ := hq
    replace hh := hh.symm
    subst hh
    refine zt_cV (as := [zi x2, zi (shAt h i1 x3)]) kX3_firstBadTaking_25 sRX3_79 rfl (by decide) rfl (by simp) rfl H (fun r2 h1 H => ?_)
    obtain ⟨y3, rfl, H⟩ := H
    refine zt_if_ne kX3_firstBadTaking_28 (fun c => ?_) (fun c => ?_)
    · replace H := H.1 c
      refine zt_iload_n kX3_firstBadTaking_33 rfl ?_
      refine zt_iconst (v := 1) kX3_firstBadTaking_34 rfl ?_
      refine zt_aload_n kX3_firstBadTaking_35 rfl ?_
      refine zt_iload_n kX3_firstBadTaking_36 rfl ?_
      obtain ⟨pp0, H⟩ := H
      refine zt_cV (as := [zi x3]) kX3_firstBadTaking_37 sRX3_108 rfl hi1 rfl (by simp) rfl (sX8_at _ hi1 pp0) (fun r h0 hq => ?_)
      obtain ⟨rfl, hh⟩ := hq
      replace hh := hh.symm
      subst hh
      refine zt_ishl kX3_firstBadTaking_40 ?_
      refine zt_iconst (v := (-1)) kX3_firstBadTaking_41 rfl ?_
      refine zt_ixor kX3_firstBadTaking_42 ?_
      refine zt_iand kX3_firstBadTaking_43 ?_
      refine zt_topi (fun y4 ey4 => ?_)
      replace H := H y4 ey4
      refine zt_istore_n (L' := [zr 1 0, zr 3 i1, zi y4, zi x3]) kX3_firstBadTaking_44 (by decide) rfl ?_
      refine zt_iinc (v := (x3 + 1)) (L' := [zr 1 0, zr 3 i1, zi y4, zi (x3 + 1)]) kX3_firstBadTaking_45 rfl rfl (by decide) rfl ?_
      refine zt_goto kX3_firstBadTaking_48 ?_
      exact H
    · replace H := H.2 c
      refine zt_iload_n kX3_firstBadTaking_31 rfl ?_
      exact zt_iret kX3_firstBadTaking_32 rfl H

theorem kX11_raids_0 : zD cX11_raids 0 1 (.iload_n 1) 1 := by decide +kernel
theorem kX11_raids_1 : zD cX11_raids 1 2 (.iconst 1) 1 := by decide +kernel
theorem kX11_raids_2 : zB cX11_raids 2 5 18 (.if_icmp .lt 16) 16 := by decide +kernel
theorem kX11_raids_5 : zD cX11_raids 5 6 (.iload_n 1) 1 := by decide +kernel
theorem kX11_raids_6 : zD cX11_raids 6 8 (.bipush 20) 2 := by decide +kernel
theorem kX11_raids_8 : zB cX11_raids 8 11 18 (.if_icmp .gt 10) 10 := by decide +kernel
theorem kX11_raids_11 : zD cX11_raids 11 12 (.iload_n 3) 1 := by decide +kernel
theorem kX11_raids_12 : zD cX11_raids 12 15 (.invokestatic 150) 3 := by decide +kernel
theorem kX11_raids_15 : zB cX11_raids 15 18 20 (.ifCond .ne 5) 5 := by decide +kernel
theorem kX11_raids_18 : zD cX11_raids 18 19 (.iconst (-1)) 1 := by decide +kernel
theorem kX11_raids_19 : zD cX11_raids 19 20 (.ireturn) 1 := by decide +kernel
theorem kX11_raids_20 : zD cX11_raids 20 21 (.aload_n 0) 1 := by decide +kernel
theorem kX11_raids_21 : zD cX11_raids 21 24 (.getfield 40) 3 := by decide +kernel
theorem kX11_raids_24 : zD cX11_raids 24 25 (.iload_n 1) 1 := by decide +kernel
theorem kX11_raids_25 : zD cX11_raids 25 26 (.iload_n 2) 1 := by decide +kernel
theorem kX11_raids_26 : zD cX11_raids 26 27 (.iload_n 3) 1 := by decide +kernel
theorem kX11_raids_27 : zD cX11_raids 27 28 (.iconst 1) 1 := by decide +kernel
theorem kX11_raids_28 : zB cX11_raids 28 31 35 (.if_icmp .ne 7) 7 := by decide +kernel
theorem kX11_raids_31 : zD cX11_raids 31 32 (.iconst 1) 1 := by decide +kernel
theorem kX11_raids_32 : zB cX11_raids 32 35 36 (.goto 4) 4 := by decide +kernel
theorem kX11_raids_35 : zD cX11_raids 35 36 (.iconst 0) 1 := by decide +kernel
theorem kX11_raids_36 : zD cX11_raids 36 39 (.invokevirtual 250) 3 := by decide +kernel
theorem kX11_raids_39 : zD cX11_raids 39 40 (.ireturn) 1 := by decide +kernel
set_option maxRecDepth 10000 in
theorem wX11_raids_0 {G : ZG} {d : Nat} {h : ZH} {Q : Option ZV → ZH → Prop} {x1 : Int32} {x2 : Int32} {x3 : Int32} 
  (H : (x1 < 1 → Q (some (zi (-1))) h) ∧ (¬ x1 < 1 → (20 < x1 → Q (some (zi (-1))) h) ∧ (¬ 20 < x1 → ((0 ≤ x3 ∧ x3 ≤ 1) → (¬ x3 = 1 → zC G (d + 5) mX3_sumOfRaids [zr 1 0, zi x1, zi x2, zi 0] h (fun r2 h1 => ∃ y3 : Int32, r2 = some (zi y3) ∧ Q (some (zi y3)) h1)) ∧ (x3 = 1 → zC G (d + 5) mX3_sumOfRaids [zr 1 0, zi x1, zi x2, zi 1] h (fun r5 h4 => ∃ y6 : Int32, r5 = some (zi y6) ∧ Q (some (zi y6)) h4))) ∧ (¬ (0 ≤ x3 ∧ x3 ≤ 1) → Q (some (zi (-1))) h)))) :
  zT G (d + 6) mX11_raids 0 [zr 0 0, zi x1, zi x2, zi x3] [] h Q := by
  refine zt_iload_n kX11_raids_0 rfl ?_
  refine zt_iconst (v := 1) kX11_raids_1 rfl ?_
  refine zt_icmp_lt kX11_raids_2 (fun c => ?_) (fun c => ?_)
  · replace H := H.1 c
    refine zt_iconst (v := (-1)) kX11_raids_18 rfl ?_
    exact zt_iret kX11_raids_19 rfl H
  · replace H := H.2 c
    refine zt_iload_n kX11_raids_5 rfl ?_
    refine zt_bipush (v := 20) kX11_raids_6 rfl ?_
    refine zt_icmp_gt kX11_raids_8 (fun c => ?_) (fun c => ?_)
    · replace H := H.1 c
      refine zt_iconst (v := (-1)) kX11_raids_18 rfl ?_
      exact zt_iret kX11_raids_19 rfl H
    · replace H := H.2 c
      refine zt_iload_n kX11_raids_11 rfl ?_
      refine zt_cS (as := [zi x3]) kX11_raids_12 sRX11_150 rfl (by simp) rfl (sX11_isEither _  ) (fun r h0 hq => ?_)
      obtain ⟨rfl, hh⟩ := hq
      replace hh := hh.symm
      subst hh
      refine zt_ifb_ne kX11_raids_15 (fun c => ?_) (fun c => ?_)
      · replace H := H.1 c
        refine zt_aload_n kX11_raids_20 rfl ?_
        refine zt_get (v := zr 1 0) kX11_raids_21 fRX11_40 rfl (by decide) rfl ?_
        refine zt_iload_n kX11_raids_24 rfl ?_
        refine zt_iload_n kX11_raids_25 rfl ?_
        refine zt_iload_n kX11_raids_26 rfl ?_
        refine zt_iconst (v := 1) kX11_raids_27 rfl ?_
        refine zt_icmp_ne kX11_raids_28 (fun c => ?_) (fun c => ?_)
        · replace H := H.1 c
          refine zt_iconst (v := 0) kX11_raids_35 rfl ?_
          refine zt_cV (as := [zi x1, zi x2, zi 0]) kX11_raids_36 sRX11_250 rfl (by decide) rfl (by simp) rfl H (fun r2 h1 H => ?_)
          obtain ⟨y3, rfl, H⟩ := H
          exact zt_iret kX11_raids_39 rfl H
        · replace H := H.2 c
          refine zt_iconst (v := 1) kX11_raids_31 rfl ?_
          refine zt_goto kX11_raids_32 ?_
          refine zt_cV (as := [zi x1, zi x2, zi 1]) kX11_raids_36 sRX11_250 rfl (by decide) rfl (by simp) rfl H (fun r5 h4 H => ?_)
          obtain ⟨y6, rfl, H⟩ := H
          exact zt_iret kX11_raids_39 rfl H
      · replace H := H.2 c
        refine zt_iconst (v := (-1)) kX11_raids_18 rfl ?_
        exact zt_iret kX11_raids_19 rfl H

theorem kX3_sumOfRaids_0 : zD cX3_sumOfRaids 0 1 (.aload_n 0) 1 := by decide +kernel
theorem kX3_sumOfRaids_1 : zD cX3_sumOfRaids 1 4 (.getfield 12) 3 := by decide +kernel
theorem kX3_sumOfRaids_4 : zD cX3_sumOfRaids 4 7 (.getfield 49) 3 := by decide +kernel
theorem kX3_sumOfRaids_7 : zD cX3_sumOfRaids 7 9 (.bipush 15) 2 := by decide +kernel
theorem kX3_sumOfRaids_9 : zD cX3_sumOfRaids 9 10 (.iand) 1 := by decide +kernel
theorem kX3_sumOfRaids_10 : zD cX3_sumOfRaids 10 12 (.istore 4) 2 := by decide +kernel
theorem kX3_sumOfRaids_12 : zD cX3_sumOfRaids 12 13 (.iload_n 2) 1 := by decide +kernel
theorem kX3_sumOfRaids_13 : zD cX3_sumOfRaids 13 15 (.istore 5) 2 := by decide +kernel
theorem kX3_sumOfRaids_15 : zD cX3_sumOfRaids 15 16 (.iconst 0) 1 := by decide +kernel
theorem kX3_sumOfRaids_16 : zD cX3_sumOfRaids 16 18 (.istore 6) 2 := by decide +kernel
theorem kX3_sumOfRaids_18 : zD cX3_sumOfRaids 18 19 (.iconst 0) 1 := by decide +kernel
theorem kX3_sumOfRaids_19 : zD cX3_sumOfRaids 19 21 (.istore 7) 2 := by decide +kernel
theorem kX3_sumOfRaids_21 : zD cX3_sumOfRaids 21 23 (.iload 7) 2 := by decide +kernel
theorem kX3_sumOfRaids_23 : zD cX3_sumOfRaids 23 24 (.iload_n 1) 1 := by decide +kernel
theorem kX3_sumOfRaids_24 : zB cX3_sumOfRaids 24 27 112 (.if_icmp .ge 88) 88 := by decide +kernel
theorem kX3_sumOfRaids_27 : zD cX3_sumOfRaids 27 28 (.aload_n 0) 1 := by decide +kernel
theorem kX3_sumOfRaids_28 : zD cX3_sumOfRaids 28 31 (.getfield 12) 3 := by decide +kernel
theorem kX3_sumOfRaids_31 : zD cX3_sumOfRaids 31 34 (.getfield 49) 3 := by decide +kernel
theorem kX3_sumOfRaids_34 : zD cX3_sumOfRaids 34 36 (.istore 8) 2 := by decide +kernel
theorem kX3_sumOfRaids_36 : zD cX3_sumOfRaids 36 37 (.iconst 0) 1 := by decide +kernel
theorem kX3_sumOfRaids_37 : zD cX3_sumOfRaids 37 39 (.istore 9) 2 := by decide +kernel
theorem kX3_sumOfRaids_39 : zD cX3_sumOfRaids 39 41 (.iload 9) 2 := by decide +kernel
theorem kX3_sumOfRaids_41 : zD cX3_sumOfRaids 41 42 (.iconst 3) 1 := by decide +kernel
theorem kX3_sumOfRaids_42 : zB cX3_sumOfRaids 42 45 76 (.if_icmp .ge 34) 34 := by decide +kernel
theorem kX3_sumOfRaids_45 : zD cX3_sumOfRaids 45 47 (.iload 5) 2 := by decide +kernel
theorem kX3_sumOfRaids_47 : zD cX3_sumOfRaids 47 50 (.invokestatic 148) 3 := by decide +kernel
theorem kX3_sumOfRaids_50 : zD cX3_sumOfRaids 50 52 (.istore 5) 2 := by decide +kernel
theorem kX3_sumOfRaids_52 : zD cX3_sumOfRaids 52 53 (.aload_n 0) 1 := by decide +kernel
theorem kX3_sumOfRaids_53 : zD cX3_sumOfRaids 53 55 (.iload 8) 2 := by decide +kernel
theorem kX3_sumOfRaids_55 : zD cX3_sumOfRaids 55 56 (.iconst 1) 1 := by decide +kernel
theorem kX3_sumOfRaids_56 : zD cX3_sumOfRaids 56 58 (.iload 5) 2 := by decide +kernel
theorem kX3_sumOfRaids_58 : zD cX3_sumOfRaids 58 61 (.invokestatic 151) 3 := by decide +kernel
theorem kX3_sumOfRaids_61 : zD cX3_sumOfRaids 61 62 (.ishl) 1 := by decide +kernel
theorem kX3_sumOfRaids_62 : zD cX3_sumOfRaids 62 63 (.iconst (-1)) 1 := by decide +kernel
theorem kX3_sumOfRaids_63 : zD cX3_sumOfRaids 63 64 (.ixor) 1 := by decide +kernel
theorem kX3_sumOfRaids_64 : zD cX3_sumOfRaids 64 65 (.iand) 1 := by decide +kernel
theorem kX3_sumOfRaids_65 : zD cX3_sumOfRaids 65 68 (.invokevirtual 52) 3 := by decide +kernel
theorem kX3_sumOfRaids_68 : zD cX3_sumOfRaids 68 70 (.istore 8) 2 := by decide +kernel
theorem kX3_sumOfRaids_70 : zD cX3_sumOfRaids 70 73 (.iinc 9 1) 3 := by decide +kernel
theorem kX3_sumOfRaids_73 : zB cX3_sumOfRaids 73 76 39 (.goto (-34)) (-34) := by decide +kernel
theorem kX3_sumOfRaids_76 : zD cX3_sumOfRaids 76 77 (.iload_n 3) 1 := by decide +kernel
theorem kX3_sumOfRaids_77 : zB cX3_sumOfRaids 77 80 93 (.ifCond .ne 16) 16 := by decide +kernel
theorem kX3_sumOfRaids_80 : zD cX3_sumOfRaids 80 82 (.iload 6) 2 := by decide +kernel
theorem kX3_sumOfRaids_82 : zD cX3_sumOfRaids 82 84 (.iload 8) 2 := by decide +kernel
theorem kX3_sumOfRaids_84 : zD cX3_sumOfRaids 84 87 (.invokestatic 56) 3 := by decide +kernel
theorem kX3_sumOfRaids_87 : zD cX3_sumOfRaids 87 88 (.iadd) 1 := by decide +kernel
theorem kX3_sumOfRaids_88 : zD cX3_sumOfRaids 88 90 (.istore 6) 2 := by decide +kernel
theorem kX3_sumOfRaids_90 : zB cX3_sumOfRaids 90 93 106 (.goto 16) 16 := by decide +kernel
theorem kX3_sumOfRaids_93 : zD cX3_sumOfRaids 93 95 (.iload 8) 2 := by decide +kernel
theorem kX3_sumOfRaids_95 : zD cX3_sumOfRaids 95 97 (.iload 4) 2 := by decide +kernel
theorem kX3_sumOfRaids_97 : zD cX3_sumOfRaids 97 98 (.iand) 1 := by decide +kernel
theorem kX3_sumOfRaids_98 : zD cX3_sumOfRaids 98 100 (.iload 4) 2 := by decide +kernel
theorem kX3_sumOfRaids_100 : zB cX3_sumOfRaids 100 103 106 (.if_icmp .ne 6) 6 := by decide +kernel
theorem kX3_sumOfRaids_103 : zD cX3_sumOfRaids 103 106 (.iinc 6 1) 3 := by decide +kernel
theorem kX3_sumOfRaids_106 : zD cX3_sumOfRaids 106 109 (.iinc 7 1) 3 := by decide +kernel
theorem kX3_sumOfRaids_109 : zB cX3_sumOfRaids 109 112 21 (.goto (-88)) (-88) := by decide +kernel
theorem kX3_sumOfRaids_112 : zD cX3_sumOfRaids 112 114 (.iload 6) 2 := by decide +kernel
theorem kX3_sumOfRaids_114 : zD cX3_sumOfRaids 114 115 (.ireturn) 1 := by decide +kernel
set_option maxRecDepth 10000 in
theorem wX3_sumOfRaids_0 {G : ZG} {d : Nat} {h : ZH} {Q : Option ZV → ZH → Prop} {x1 : Int32} {x2 : Int32} {x3 : Int32} 
  (H : zT G (d + 5) mX3_sumOfRaids 21 [zr 1 0, zi x1, zi x2, zi x3, zi ((h.1 2 0 6) &&& 15), zi x2, zi 0, zi 0, zu, zu] [] h Q) :
  zT G (d + 5) mX3_sumOfRaids 0 [zr 1 0, zi x1, zi x2, zi x3, zu, zu, zu, zu, zu, zu] [] h Q := by
  refine zt_aload_n kX3_sumOfRaids_0 rfl ?_
  refine zt_get (v := zr 2 0) kX3_sumOfRaids_1 fRX3_12 rfl (by decide) rfl ?_
  refine zt_get (v := zi (h.1 2 0 6)) kX3_sumOfRaids_4 fRX3_49 rfl (by decide) rfl ?_
  refine zt_bipush (v := 15) kX3_sumOfRaids_7 rfl ?_
  refine zt_iand kX3_sumOfRaids_9 ?_
  refine zt_istore (L' := [zr 1 0, zi x1, zi x2, zi x3, zi ((h.1 2 0 6) &&& 15), zu, zu, zu, zu, zu]) kX3_sumOfRaids_10 (by decide) rfl ?_
  refine zt_iload_n kX3_sumOfRaids_12 rfl ?_
  refine zt_istore (L' := [zr 1 0, zi x1, zi x2, zi x3, zi ((h.1 2 0 6) &&& 15), zi x2, zu, zu, zu, zu]) kX3_sumOfRaids_13 (by decide) rfl ?_
  refine zt_iconst (v := 0) kX3_sumOfRaids_15 rfl ?_
  refine zt_istore (L' := [zr 1 0, zi x1, zi x2, zi x3, zi ((h.1 2 0 6) &&& 15), zi x2, zi 0, zu, zu, zu]) kX3_sumOfRaids_16 (by decide) rfl ?_
  refine zt_iconst (v := 0) kX3_sumOfRaids_18 rfl ?_
  refine zt_istore (L' := [zr 1 0, zi x1, zi x2, zi x3, zi ((h.1 2 0 6) &&& 15), zi x2, zi 0, zi 0, zu, zu]) kX3_sumOfRaids_19 (by decide) rfl ?_
  exact H

set_option maxRecDepth 10000 in
theorem wX3_sumOfRaids_21 {G : ZG} {d : Nat} {h : ZH} {Q : Option ZV → ZH → Prop} {x1 : Int32} {x2 : Int32} {x3 : Int32} {x4 : Int32} {x5 : Int32} {x6 : Int32} {x7 : Int32} 
  (H : (x1 ≤ x7 → Q (some (zi x6)) h) ∧ (¬ x1 ≤ x7 → zT G (d + 5) mX3_sumOfRaids 39 [zr 1 0, zi x1, zi x2, zi x3, zi x4, zi x5, zi x6, zi x7, zi (h.1 2 0 6), zi 0] [] h Q)) :
  zT G (d + 5) mX3_sumOfRaids 21 [zr 1 0, zi x1, zi x2, zi x3, zi x4, zi x5, zi x6, zi x7, zu, zu] [] h Q := by
  refine zt_iload kX3_sumOfRaids_21 rfl ?_
  refine zt_iload_n kX3_sumOfRaids_23 rfl ?_
  refine zt_icmp_ge kX3_sumOfRaids_24 (fun c => ?_) (fun c => ?_)
  · replace H := H.1 c
    refine zt_iload kX3_sumOfRaids_112 rfl ?_
    exact zt_iret kX3_sumOfRaids_114 rfl H
  · replace H := H.2 c
    refine zt_aload_n kX3_sumOfRaids_27 rfl ?_
    refine zt_get (v := zr 2 0) kX3_sumOfRaids_28 fRX3_12 rfl (by decide) rfl ?_
    refine zt_get (v := zi (h.1 2 0 6)) kX3_sumOfRaids_31 fRX3_49 rfl (by decide) rfl ?_
    refine zt_istore (L' := [zr 1 0, zi x1, zi x2, zi x3, zi x4, zi x5, zi x6, zi x7, zi (h.1 2 0 6), zu]) kX3_sumOfRaids_34 (by decide) rfl ?_
    refine zt_iconst (v := 0) kX3_sumOfRaids_36 rfl ?_
    refine zt_istore (L' := [zr 1 0, zi x1, zi x2, zi x3, zi x4, zi x5, zi x6, zi x7, zi (h.1 2 0 6), zi 0]) kX3_sumOfRaids_37 (by decide) rfl ?_
    exact H

set_option maxRecDepth 10000 in
theorem wX3_sumOfRaids_39 {G : ZG} {d : Nat} {h : ZH} {Q : Option ZV → ZH → Prop} {x1 : Int32} {x2 : Int32} {x3 : Int32} {x4 : Int32} {x5 : Int32} {x6 : Int32} {x7 : Int32} {x8 : Int32} {x9 : Int32} 
  (H : (3 ≤ x9 → (¬ x3 = 0 → (¬ (x8 &&& x4) = x4 → zT G (d + 5) mX3_sumOfRaids 21 [zr 1 0, zi x1, zi x2, zi x3, zi x4, zi x5, zi x6, zi (x7 + 1), zu, zu] [] h Q) ∧ ((x8 &&& x4) = x4 → zT G (d + 5) mX3_sumOfRaids 21 [zr 1 0, zi x1, zi x2, zi x3, zi x4, zi x5, zi (x6 + 1), zi (x7 + 1), zu, zu] [] h Q)) ∧ (x3 = 0 → zT G (d + 5) mX3_sumOfRaids 21 [zr 1 0, zi x1, zi x2, zi x3, zi x4, zi x5, zi (x6 + (bcI x8)), zi (x7 + 1), zu, zu] [] h Q)) ∧ (¬ 3 ≤ x9 → zC G (d + 4) mX3_leftOf [zr 1 0, zi (x8 &&& (((1 : Int32) <<< ((((((x5 * 1103515245 + 12345) &&& 2147483647) / 65536) - (((x5 * 1103515245 + 12345) &&& 2147483647) / 65536) / 12 * 12)) &&& 31)) ^^^ (-1)))] h (fun r2 h1 => ∃ y3 : Int32, r2 = some (zi y3) ∧ zT G (d + 5) mX3_sumOfRaids 39 [zr 1 0, zi x1, zi x2, zi x3, zi x4, zi (x5 * 1103515245 + 12345), zi x6, zi x7, zi y3, zi (x9 + 1)] [] h1 Q))) :
  zT G (d + 5) mX3_sumOfRaids 39 [zr 1 0, zi x1, zi x2, zi x3, zi x4, zi x5, zi x6, zi x7, zi x8, zi x9] [] h Q := by
  refine zt_iload kX3_sumOfRaids_39 rfl ?_
  refine zt_iconst (v := 3) kX3_sumOfRaids_41 rfl ?_
  refine zt_icmp_ge kX3_sumOfRaids_42 (fun c => ?_) (fun c => ?_)
  · replace H := H.1 c
    refine zt_iload_n kX3_sumOfRaids_76 rfl ?_
    refine zt_if_ne kX3_sumOfRaids_77 (fun c => ?_) (fun c => ?_)
    · replace H := H.1 c
      refine zt_iload kX3_sumOfRaids_93 rfl ?_
      refine zt_iload kX3_sumOfRaids_95 rfl ?_
      refine zt_iand kX3_sumOfRaids_97 ?_
      refine zt_iload kX3_sumOfRaids_98 rfl ?_
      refine zt_icmp_ne kX3_sumOfRaids_100 (fun c => ?_) (fun c => ?_)
      · replace H := H.1 c
        refine zt_iinc (v := (x7 + 1)) (L' := [zr 1 0, zi x1, zi x2, zi x3, zi x4, zi x5, zi x6, zi (x7 + 1), zi x8, zi x9]) kX3_sumOfRaids_106 rfl rfl (by decide) rfl ?_
        refine zt_goto kX3_sumOfRaids_109 ?_
        exact zt_sub [zr 1 0, zi x1, zi x2, zi x3, zi x4, zi x5, zi x6, zi (x7 + 1), zu, zu] ⟨rfl, ⟨rfl, ⟨rfl, ⟨rfl, ⟨rfl, ⟨rfl, ⟨rfl, ⟨rfl, trivial⟩⟩⟩⟩⟩⟩⟩⟩ H
      · replace H := H.2 c
        refine zt_iinc (v := (x6 + 1)) (L' := [zr 1 0, zi x1, zi x2, zi x3, zi x4, zi x5, zi (x6 + 1), zi x7, zi x8, zi x9]) kX3_sumOfRaids_103 rfl rfl (by decide) rfl ?_
        refine zt_iinc (v := (x7 + 1)) (L' := [zr 1 0, zi x1, zi x2, zi x3, zi x4, zi x5, zi (x6 + 1), zi (x7 + 1), zi x8, zi x9]) kX3_sumOfRaids_106 rfl rfl (by decide) rfl ?_
        refine zt_goto kX3_sumOfRaids_109 ?_
        exact zt_sub [zr 1 0, zi x1, zi x2, zi x3, zi x4, zi x5, zi (x6 + 1), zi (x7 + 1), zu, zu] ⟨rfl, ⟨rfl, ⟨rfl, ⟨rfl, ⟨rfl, ⟨rfl, ⟨rfl, ⟨rfl, trivial⟩⟩⟩⟩⟩⟩⟩⟩ H
    · replace H := H.2 c
      refine zt_iload kX3_sumOfRaids_80 rfl ?_
      refine zt_iload kX3_sumOfRaids_82 rfl ?_
      refine zt_cS (as := [zi x8]) kX3_sumOfRaids_84 sRX3_56 rfl (by simp) rfl (sJ6_bitCount_0f7a4 _  ) (fun r h0 hq => ?_)
      obtain ⟨rfl, hh⟩ := hq
      replace hh := hh.symm
      subst hh
      refine zt_iadd kX3_sumOfRaids_87 ?_
      refine zt_istore (L' := [zr 1 0, zi x1, zi x2, zi x3, zi x4, zi x5, zi (x6 + (bcI x8)), zi x7, zi x8, zi x9]) kX3_sumOfRaids_88 (by decide) rfl ?_
      refine zt_goto kX3_sumOfRaids_90 ?_
      refine zt_iinc (v := (x7 + 1)) (L' := [zr 1 0, zi x1, zi x2, zi x3, zi x4, zi x5, zi (x6 + (bcI x8)), zi (x7 + 1), zi x8, zi x9]) kX3_sumOfRaids_106 rfl rfl (by decide) rfl ?_
      refine zt_goto kX3_sumOfRaids_109 ?_
      exact zt_sub [zr 1 0, zi x1, zi x2, zi x3, zi x4, zi x5, zi (x6 + (bcI x8)), zi (x7 + 1), zu, zu] ⟨rfl, ⟨rfl, ⟨rfl, ⟨rfl, ⟨rfl, ⟨rfl, ⟨rfl, ⟨rfl, trivial⟩⟩⟩⟩⟩⟩⟩⟩ H
  · replace H := H.2 c
    refine zt_iload kX3_sumOfRaids_45 rfl ?_
    refine zt_cS (as := [zi x5]) kX3_sumOfRaids_47 sRX3_148 rfl (by simp) rfl (sX3_drawn _  ) (fun r h0 hq => ?_)
    obtain ⟨rfl, hh⟩ := hq
    replace hh := hh.symm
    subst hh
    refine zt_istore (L' := [zr 1 0, zi x1, zi x2, zi x3, zi x4, zi (x5 * 1103515245 + 12345), zi x6, zi x7, zi x8, zi x9]) kX3_sumOfRaids_50 (by decide) rfl ?_
    refine zt_aload_n kX3_sumOfRaids_52 rfl ?_
    refine zt_iload kX3_sumOfRaids_53 rfl ?_
    refine zt_iconst (v := 1) kX3_sumOfRaids_55 rfl ?_
    refine zt_iload kX3_sumOfRaids_56 rfl ?_
    refine zt_cS (as := [zi (x5 * 1103515245 + 12345)]) kX3_sumOfRaids_58 sRX3_151 rfl (by simp) rfl (sX3_placeOf _  ) (fun r h0 hq => ?_)
    obtain ⟨rfl, hh⟩ := hq
    replace hh := hh.symm
    subst hh
    refine zt_ishl kX3_sumOfRaids_61 ?_
    refine zt_iconst (v := (-1)) kX3_sumOfRaids_62 rfl ?_
    refine zt_ixor kX3_sumOfRaids_63 ?_
    refine zt_iand kX3_sumOfRaids_64 ?_
    refine zt_cV (as := [zi (x8 &&& (((1 : Int32) <<< ((((((x5 * 1103515245 + 12345) &&& 2147483647) / 65536) - (((x5 * 1103515245 + 12345) &&& 2147483647) / 65536) / 12 * 12)) &&& 31)) ^^^ (-1)))]) kX3_sumOfRaids_65 sRX3_52 rfl (by decide) rfl (by simp) rfl H (fun r2 h1 H => ?_)
    obtain ⟨y3, rfl, H⟩ := H
    refine zt_istore (L' := [zr 1 0, zi x1, zi x2, zi x3, zi x4, zi (x5 * 1103515245 + 12345), zi x6, zi x7, zi y3, zi x9]) kX3_sumOfRaids_68 (by decide) rfl ?_
    refine zt_iinc (v := (x9 + 1)) (L' := [zr 1 0, zi x1, zi x2, zi x3, zi x4, zi (x5 * 1103515245 + 12345), zi x6, zi x7, zi y3, zi (x9 + 1)]) kX3_sumOfRaids_70 rfl rfl (by decide) rfl ?_
    refine zt_goto kX3_sumOfRaids_73 ?_
    exact H

theorem kX12_cut_0 : zD cX12_cut 0 1 (.aload_n 0) 1 := by decide +kernel
theorem kX12_cut_1 : zD cX12_cut 1 2 (.iload_n 1) 1 := by decide +kernel
theorem kX12_cut_2 : zD cX12_cut 2 5 (.invokevirtual 154) 3 := by decide +kernel
theorem kX12_cut_5 : zD cX12_cut 5 6 (.istore_n 2) 1 := by decide +kernel
theorem kX12_cut_6 : zD cX12_cut 6 7 (.iload_n 2) 1 := by decide +kernel
theorem kX12_cut_7 : zB cX12_cut 7 10 12 (.ifCond .eq 5) 5 := by decide +kernel
theorem kX12_cut_10 : zD cX12_cut 10 11 (.iload_n 2) 1 := by decide +kernel
theorem kX12_cut_11 : zD cX12_cut 11 12 (.ireturn) 1 := by decide +kernel
theorem kX12_cut_12 : zD cX12_cut 12 14 (.bipush (-4)) 2 := by decide +kernel
theorem kX12_cut_14 : zD cX12_cut 14 15 (.istore_n 3) 1 := by decide +kernel
theorem kX12_cut_15 : zD cX12_cut 15 16 (.iconst 0) 1 := by decide +kernel
theorem kX12_cut_16 : zD cX12_cut 16 18 (.istore 4) 2 := by decide +kernel
theorem kX12_cut_18 : zD cX12_cut 18 20 (.iload 4) 2 := by decide +kernel
theorem kX12_cut_20 : zD cX12_cut 20 23 (.sipush 4096) 3 := by decide +kernel
theorem kX12_cut_23 : zB cX12_cut 23 26 96 (.if_icmp .ge 73) 73 := by decide +kernel
theorem kX12_cut_26 : zD cX12_cut 26 28 (.iload 4) 2 := by decide +kernel
theorem kX12_cut_28 : zD cX12_cut 28 29 (.aload_n 0) 1 := by decide +kernel
theorem kX12_cut_29 : zD cX12_cut 29 32 (.getfield 9) 3 := by decide +kernel
theorem kX12_cut_32 : zD cX12_cut 32 33 (.iconst 0) 1 := by decide +kernel
theorem kX12_cut_33 : zD cX12_cut 33 34 (.iaload) 1 := by decide +kernel
theorem kX12_cut_34 : zD cX12_cut 34 35 (.iconst (-1)) 1 := by decide +kernel
theorem kX12_cut_35 : zD cX12_cut 35 36 (.ixor) 1 := by decide +kernel
theorem kX12_cut_36 : zD cX12_cut 36 37 (.iand) 1 := by decide +kernel
theorem kX12_cut_37 : zB cX12_cut 37 40 90 (.ifCond .ne 53) 53 := by decide +kernel
theorem kX12_cut_40 : zD cX12_cut 40 42 (.iload 4) 2 := by decide +kernel
theorem kX12_cut_42 : zD cX12_cut 42 43 (.iload_n 1) 1 := by decide +kernel
theorem kX12_cut_43 : zD cX12_cut 43 46 (.invokestatic 57) 3 := by decide +kernel
theorem kX12_cut_46 : zB cX12_cut 46 49 90 (.ifCond .ne 44) 44 := by decide +kernel
theorem kX12_cut_49 : zD cX12_cut 49 50 (.iload_n 3) 1 := by decide +kernel
theorem kX12_cut_50 : zB cX12_cut 50 53 68 (.ifCond .lt 18) 18 := by decide +kernel
theorem kX12_cut_53 : zD cX12_cut 53 55 (.iload 4) 2 := by decide +kernel
theorem kX12_cut_55 : zD cX12_cut 55 58 (.invokestatic 107) 3 := by decide +kernel
theorem kX12_cut_58 : zD cX12_cut 58 59 (.iload_n 3) 1 := by decide +kernel
theorem kX12_cut_59 : zD cX12_cut 59 62 (.invokestatic 107) 3 := by decide +kernel
theorem kX12_cut_62 : zB cX12_cut 62 65 68 (.if_icmp .lt 6) 6 := by decide +kernel
theorem kX12_cut_65 : zB cX12_cut 65 68 90 (.goto 25) 25 := by decide +kernel
theorem kX12_cut_68 : zD cX12_cut 68 69 (.aload_n 0) 1 := by decide +kernel
theorem kX12_cut_69 : zD cX12_cut 69 70 (.aload_n 0) 1 := by decide +kernel
theorem kX12_cut_70 : zD cX12_cut 70 73 (.getfield 9) 3 := by decide +kernel
theorem kX12_cut_73 : zD cX12_cut 73 74 (.iconst 0) 1 := by decide +kernel
theorem kX12_cut_74 : zD cX12_cut 74 75 (.iaload) 1 := by decide +kernel
theorem kX12_cut_75 : zD cX12_cut 75 77 (.iload 4) 2 := by decide +kernel
theorem kX12_cut_77 : zD cX12_cut 77 80 (.invokevirtual 110) 3 := by decide +kernel
theorem kX12_cut_80 : zD cX12_cut 80 81 (.iload_n 1) 1 := by decide +kernel
theorem kX12_cut_81 : zD cX12_cut 81 84 (.invokestatic 57) 3 := by decide +kernel
theorem kX12_cut_84 : zB cX12_cut 84 87 90 (.ifCond .ne 6) 6 := by decide +kernel
theorem kX12_cut_87 : zD cX12_cut 87 89 (.iload 4) 2 := by decide +kernel
theorem kX12_cut_89 : zD cX12_cut 89 90 (.istore_n 3) 1 := by decide +kernel
theorem kX12_cut_90 : zD cX12_cut 90 93 (.iinc 4 1) 3 := by decide +kernel
theorem kX12_cut_93 : zB cX12_cut 93 96 18 (.goto (-75)) (-75) := by decide +kernel
theorem kX12_cut_96 : zD cX12_cut 96 97 (.iload_n 3) 1 := by decide +kernel
theorem kX12_cut_97 : zD cX12_cut 97 98 (.ireturn) 1 := by decide +kernel
set_option maxRecDepth 10000 in
theorem wX12_cut_0 {G : ZG} {d : Nat} {h : ZH} {Q : Option ZV → ZH → Prop} {x1 : Int32} 
  (H : ((wStoneI h x1) = 0 → zT G (d + 7) mX12_cut 18 [zr 5 0, zi x1, zi (wStoneI h x1), zi (-4), zi 0] [] h Q) ∧ (¬ (wStoneI h x1) = 0 → Q (some (zi (wStoneI h x1))) h)) :
  zT G (d + 7) mX12_cut 0 [zr 5 0, zi x1, zu, zu, zu] [] h Q := by
  refine zt_aload_n kX12_cut_0 rfl ?_
  refine zt_iload_n kX12_cut_1 rfl ?_
  refine zt_cV (as := [zi x1]) kX12_cut_2 sRX12_154 rfl (by decide) rfl (by simp) rfl (sX12_wrongStone _  ) (fun r h0 hq => ?_)
  obtain ⟨rfl, hh⟩ := hq
  replace hh := hh.symm
  subst hh
  refine zt_istore_n (L' := [zr 5 0, zi x1, zi (wStoneI h x1), zu, zu]) kX12_cut_5 (by decide) rfl ?_
  refine zt_iload_n kX12_cut_6 rfl ?_
  refine zt_if_eq kX12_cut_7 (fun c => ?_) (fun c => ?_)
  · replace H := H.1 c
    refine zt_bipush (v := (-4)) kX12_cut_12 rfl ?_
    refine zt_istore_n (L' := [zr 5 0, zi x1, zi (wStoneI h x1), zi (-4), zu]) kX12_cut_14 (by decide) rfl ?_
    refine zt_iconst (v := 0) kX12_cut_15 rfl ?_
    refine zt_istore (L' := [zr 5 0, zi x1, zi (wStoneI h x1), zi (-4), zi 0]) kX12_cut_16 (by decide) rfl ?_
    exact H
  · replace H := H.2 c
    refine zt_iload_n kX12_cut_10 rfl ?_
    exact zt_iret kX12_cut_11 rfl H

set_option maxRecDepth 10000 in
theorem wX12_cut_18 {G : ZG} {d : Nat} {h : ZH} {Q : Option ZV → ZH → Prop} {x1 : Int32} {x2 : Int32} {x3 : Int32} {x4 : Int32} 
  (H : (4096 ≤ x4 → Q (some (zi x3)) h) ∧ (¬ 4096 ≤ x4 → (¬ (x4 &&& ((h.1 30 0 0) ^^^ (-1))) = 0 → zT G (d + 7) mX12_cut 18 [zr 5 0, zi x1, zi x2, zi x3, zi (x4 + 1)] [] h Q) ∧ ((x4 &&& ((h.1 30 0 0) ^^^ (-1))) = 0 → ((hasI x4 x1) → zT G (d + 7) mX12_cut 18 [zr 5 0, zi x1, zi x2, zi x3, zi (x4 + 1)] [] h Q) ∧ (¬ (hasI x4 x1) → (x3 < 0 → zC G (d + 6) mX12_leftWithout [zr 5 0, zi (h.1 30 0 0), zi x4] h (fun r2 h1 => ∃ y3 : Int32, r2 = some (zi y3) ∧ ((hasI y3 x1) → zT G (d + 7) mX12_cut 18 [zr 5 0, zi x1, zi x2, zi x3, zi (x4 + 1)] [] h1 Q) ∧ (¬ (hasI y3 x1) → zT G (d + 7) mX12_cut 18 [zr 5 0, zi x1, zi x2, zi x4, zi (x4 + 1)] [] h1 Q))) ∧ (¬ x3 < 0 → ((bitsI x4) < (bitsI x3) → zC G (d + 6) mX12_leftWithout [zr 5 0, zi (h.1 30 0 0), zi x4] h (fun r5 h4 => ∃ y6 : Int32, r5 = some (zi y6) ∧ ((hasI y6 x1) → zT G (d + 7) mX12_cut 18 [zr 5 0, zi x1, zi x2, zi x3, zi (x4 + 1)] [] h4 Q) ∧ (¬ (hasI y6 x1) → zT G (d + 7) mX12_cut 18 [zr 5 0, zi x1, zi x2, zi x4, zi (x4 + 1)] [] h4 Q))) ∧ (¬ (bitsI x4) < (bitsI x3) → zT G (d + 7) mX12_cut 18 [zr 5 0, zi x1, zi x2, zi x3, zi (x4 + 1)] [] h Q)))))) :
  zT G (d + 7) mX12_cut 18 [zr 5 0, zi x1, zi x2, zi x3, zi x4] [] h Q := by
  refine zt_iload kX12_cut_18 rfl ?_
  refine zt_sipush (v := 4096) kX12_cut_20 rfl ?_
  refine zt_icmp_ge kX12_cut_23 (fun c => ?_) (fun c => ?_)
  · replace H := H.1 c
    refine zt_iload_n kX12_cut_96 rfl ?_
    exact zt_iret kX12_cut_97 rfl H
  · replace H := H.2 c
    refine zt_iload kX12_cut_26 rfl ?_
    refine zt_aload_n kX12_cut_28 rfl ?_
    refine zt_get (v := zr 30 0) kX12_cut_29 fRX12_9 rfl (by decide) rfl ?_
    refine zt_iconst (v := 0) kX12_cut_32 rfl ?_
    refine zt_ialdc 0 rfl kX12_cut_33 rfl (by decide) (zvp_dec (by decide)) ?_
    refine zt_iconst (v := (-1)) kX12_cut_34 rfl ?_
    refine zt_ixor kX12_cut_35 ?_
    refine zt_iand kX12_cut_36 ?_
    refine zt_if_ne kX12_cut_37 (fun c => ?_) (fun c => ?_)
    · replace H := H.1 c
      refine zt_iinc (v := (x4 + 1)) (L' := [zr 5 0, zi x1, zi x2, zi x3, zi (x4 + 1)]) kX12_cut_90 rfl rfl (by decide) rfl ?_
      refine zt_goto kX12_cut_93 ?_
      exact H
    · replace H := H.2 c
      refine zt_iload kX12_cut_40 rfl ?_
      refine zt_iload_n kX12_cut_42 rfl ?_
      refine zt_cS (as := [zi x4, zi x1]) kX12_cut_43 sRX12_57 rfl (by simp) rfl (sX12_has _  ) (fun r h0 hq => ?_)
      obtain ⟨rfl, hh⟩ := hq
      replace hh := hh.symm
      subst hh
      refine zt_ifb_ne kX12_cut_46 (fun c => ?_) (fun c => ?_)
      · replace H := H.1 c
        refine zt_iinc (v := (x4 + 1)) (L' := [zr 5 0, zi x1, zi x2, zi x3, zi (x4 + 1)]) kX12_cut_90 rfl rfl (by decide) rfl ?_
        refine zt_goto kX12_cut_93 ?_
        exact H
      · replace H := H.2 c
        refine zt_iload_n kX12_cut_49 rfl ?_
        refine zt_if_lt kX12_cut_50 (fun c => ?_) (fun c => ?_)
        · replace H := H.1 c
          refine zt_aload_n kX12_cut_68 rfl ?_
          refine zt_aload_n kX12_cut_69 rfl ?_
          refine zt_get (v := zr 30 0) kX12_cut_70 fRX12_9 rfl (by decide) rfl ?_
          refine zt_iconst (v := 0) kX12_cut_73 rfl ?_
          refine zt_ialdc 0 rfl kX12_cut_74 rfl (by decide) (zvp_dec (by decide)) ?_
          refine zt_iload kX12_cut_75 rfl ?_
          refine zt_cV (as := [zi (h.1 30 0 0), zi x4]) kX12_cut_77 sRX12_110 rfl (by decide) rfl (by simp) rfl H (fun r2 h1 H => ?_)
          obtain ⟨y3, rfl, H⟩ := H
          refine zt_iload_n kX12_cut_80 rfl ?_
          refine zt_cS (as := [zi y3, zi x1]) kX12_cut_81 sRX12_57 rfl (by simp) rfl (sX12_has _  ) (fun r h0 hq => ?_)
          obtain ⟨rfl, hh⟩ := hq
          replace hh := hh.symm
          subst hh
          refine zt_ifb_ne kX12_cut_84 (fun c => ?_) (fun c => ?_)
          · replace H := H.1 c
            refine zt_iinc (v := (x4 + 1)) (L' := [zr 5 0, zi x1, zi x2, zi x3, zi (x4 + 1)]) kX12_cut_90 rfl rfl (by decide) rfl ?_
            refine zt_goto kX12_cut_93 ?_
            exact H
          · replace H := H.2 c
            refine zt_iload kX12_cut_87 rfl ?_
            refine zt_istore_n (L' := [zr 5 0, zi x1, zi x2, zi x4, zi x4]) kX12_cut_89 (by decide) rfl ?_
            refine zt_iinc (v := (x4 + 1)) (L' := [zr 5 0, zi x1, zi x2, zi x4, zi (x4 + 1)]) kX12_cut_90 rfl rfl (by decide) rfl ?_
            refine zt_goto kX12_cut_93 ?_
            exact H
        · replace H := H.2 c
          refine zt_iload kX12_cut_53 rfl ?_
          refine zt_cS (as := [zi x4]) kX12_cut_55 sRX12_107 rfl (by simp) rfl (sX12_bits _  ) (fun r h0 hq => ?_)
          obtain ⟨rfl, hh⟩ := hq
          replace hh := hh.symm
          subst hh
          refine zt_iload_n kX12_cut_58 rfl ?_
          refine zt_cS (as := [zi x3]) kX12_cut_59 sRX12_107 rfl (by simp) rfl (sX12_bits _  ) (fun r h0 hq => ?_)
          obtain ⟨rfl, hh⟩ := hq
          replace hh := hh.symm
          subst hh
          refine zt_icmp_lt kX12_cut_62 (fun c => ?_) (fun c => ?_)
          · replace H := H.1 c
            refine zt_aload_n kX12_cut_68 rfl ?_
            refine zt_aload_n kX12_cut_69 rfl ?_
            refine zt_get (v := zr 30 0) kX12_cut_70 fRX12_9 rfl (by decide) rfl ?_
            refine zt_iconst (v := 0) kX12_cut_73 rfl ?_
            refine zt_ialdc 0 rfl kX12_cut_74 rfl (by decide) (zvp_dec (by decide)) ?_
            refine zt_iload kX12_cut_75 rfl ?_
            refine zt_cV (as := [zi (h.1 30 0 0), zi x4]) kX12_cut_77 sRX12_110 rfl (by decide) rfl (by simp) rfl H (fun r5 h4 H => ?_)
            obtain ⟨y6, rfl, H⟩ := H
            refine zt_iload_n kX12_cut_80 rfl ?_
            refine zt_cS (as := [zi y6, zi x1]) kX12_cut_81 sRX12_57 rfl (by simp) rfl (sX12_has _  ) (fun r h0 hq => ?_)
            obtain ⟨rfl, hh⟩ := hq
            replace hh := hh.symm
            subst hh
            refine zt_ifb_ne kX12_cut_84 (fun c => ?_) (fun c => ?_)
            · replace H := H.1 c
              refine zt_iinc (v := (x4 + 1)) (L' := [zr 5 0, zi x1, zi x2, zi x3, zi (x4 + 1)]) kX12_cut_90 rfl rfl (by decide) rfl ?_
              refine zt_goto kX12_cut_93 ?_
              exact H
            · replace H := H.2 c
              refine zt_iload kX12_cut_87 rfl ?_
              refine zt_istore_n (L' := [zr 5 0, zi x1, zi x2, zi x4, zi x4]) kX12_cut_89 (by decide) rfl ?_
              refine zt_iinc (v := (x4 + 1)) (L' := [zr 5 0, zi x1, zi x2, zi x4, zi (x4 + 1)]) kX12_cut_90 rfl rfl (by decide) rfl ?_
              refine zt_goto kX12_cut_93 ?_
              exact H
          · replace H := H.2 c
            refine zt_goto kX12_cut_65 ?_
            refine zt_iinc (v := (x4 + 1)) (L' := [zr 5 0, zi x1, zi x2, zi x3, zi (x4 + 1)]) kX12_cut_90 rfl rfl (by decide) rfl ?_
            refine zt_goto kX12_cut_93 ?_
            exact H

theorem kX12_toGround_0 : zD cX12_toGround 0 2 (.bipush (-4)) 2 := by decide +kernel
theorem kX12_toGround_2 : zD cX12_toGround 2 3 (.istore_n 1) 1 := by decide +kernel
theorem kX12_toGround_3 : zD cX12_toGround 3 4 (.iconst 0) 1 := by decide +kernel
theorem kX12_toGround_4 : zD cX12_toGround 4 5 (.istore_n 2) 1 := by decide +kernel
theorem kX12_toGround_5 : zD cX12_toGround 5 6 (.iload_n 2) 1 := by decide +kernel
theorem kX12_toGround_6 : zD cX12_toGround 6 9 (.sipush 4096) 3 := by decide +kernel
theorem kX12_toGround_9 : zB cX12_toGround 9 12 67 (.if_icmp .ge 58) 58 := by decide +kernel
theorem kX12_toGround_12 : zD cX12_toGround 12 13 (.iload_n 2) 1 := by decide +kernel
theorem kX12_toGround_13 : zD cX12_toGround 13 14 (.aload_n 0) 1 := by decide +kernel
theorem kX12_toGround_14 : zD cX12_toGround 14 17 (.getfield 9) 3 := by decide +kernel
theorem kX12_toGround_17 : zD cX12_toGround 17 18 (.iconst 0) 1 := by decide +kernel
theorem kX12_toGround_18 : zD cX12_toGround 18 19 (.iaload) 1 := by decide +kernel
theorem kX12_toGround_19 : zD cX12_toGround 19 20 (.iconst (-1)) 1 := by decide +kernel
theorem kX12_toGround_20 : zD cX12_toGround 20 21 (.ixor) 1 := by decide +kernel
theorem kX12_toGround_21 : zD cX12_toGround 21 22 (.iand) 1 := by decide +kernel
theorem kX12_toGround_22 : zB cX12_toGround 22 25 61 (.ifCond .ne 39) 39 := by decide +kernel
theorem kX12_toGround_25 : zD cX12_toGround 25 26 (.iload_n 1) 1 := by decide +kernel
theorem kX12_toGround_26 : zB cX12_toGround 26 29 43 (.ifCond .lt 17) 17 := by decide +kernel
theorem kX12_toGround_29 : zD cX12_toGround 29 30 (.iload_n 2) 1 := by decide +kernel
theorem kX12_toGround_30 : zD cX12_toGround 30 33 (.invokestatic 107) 3 := by decide +kernel
theorem kX12_toGround_33 : zD cX12_toGround 33 34 (.iload_n 1) 1 := by decide +kernel
theorem kX12_toGround_34 : zD cX12_toGround 34 37 (.invokestatic 107) 3 := by decide +kernel
theorem kX12_toGround_37 : zB cX12_toGround 37 40 43 (.if_icmp .lt 6) 6 := by decide +kernel
theorem kX12_toGround_40 : zB cX12_toGround 40 43 61 (.goto 21) 21 := by decide +kernel
theorem kX12_toGround_43 : zD cX12_toGround 43 44 (.aload_n 0) 1 := by decide +kernel
theorem kX12_toGround_44 : zD cX12_toGround 44 45 (.aload_n 0) 1 := by decide +kernel
theorem kX12_toGround_45 : zD cX12_toGround 45 48 (.getfield 9) 3 := by decide +kernel
theorem kX12_toGround_48 : zD cX12_toGround 48 49 (.iconst 0) 1 := by decide +kernel
theorem kX12_toGround_49 : zD cX12_toGround 49 50 (.iaload) 1 := by decide +kernel
theorem kX12_toGround_50 : zD cX12_toGround 50 51 (.iload_n 2) 1 := by decide +kernel
theorem kX12_toGround_51 : zD cX12_toGround 51 54 (.invokevirtual 110) 3 := by decide +kernel
theorem kX12_toGround_54 : zD cX12_toGround 54 56 (.bipush 16) 2 := by decide +kernel
theorem kX12_toGround_56 : zB cX12_toGround 56 59 61 (.if_icmp .ge 5) 5 := by decide +kernel
theorem kX12_toGround_59 : zD cX12_toGround 59 60 (.iload_n 2) 1 := by decide +kernel
theorem kX12_toGround_60 : zD cX12_toGround 60 61 (.istore_n 1) 1 := by decide +kernel
theorem kX12_toGround_61 : zD cX12_toGround 61 64 (.iinc 2 1) 3 := by decide +kernel
theorem kX12_toGround_64 : zB cX12_toGround 64 67 5 (.goto (-59)) (-59) := by decide +kernel
theorem kX12_toGround_67 : zD cX12_toGround 67 68 (.iload_n 1) 1 := by decide +kernel
theorem kX12_toGround_68 : zD cX12_toGround 68 69 (.ireturn) 1 := by decide +kernel
set_option maxRecDepth 10000 in
theorem wX12_toGround_0 {G : ZG} {d : Nat} {h : ZH} {Q : Option ZV → ZH → Prop}  
  (H : zT G (d + 7) mX12_toGround 5 [zr 5 0, zi (-4), zi 0] [] h Q) :
  zT G (d + 7) mX12_toGround 0 [zr 5 0, zu, zu] [] h Q := by
  refine zt_bipush (v := (-4)) kX12_toGround_0 rfl ?_
  refine zt_istore_n (L' := [zr 5 0, zi (-4), zu]) kX12_toGround_2 (by decide) rfl ?_
  refine zt_iconst (v := 0) kX12_toGround_3 rfl ?_
  refine zt_istore_n (L' := [zr 5 0, zi (-4), zi 0]) kX12_toGround_4 (by decide) rfl ?_
  exact H

set_option maxRecDepth 10000 in
theorem wX12_toGround_5 {G : ZG} {d : Nat} {h : ZH} {Q : Option ZV → ZH → Prop} {x1 : Int32} {x2 : Int32} 
  (H : (4096 ≤ x2 → Q (some (zi x1)) h) ∧ (¬ 4096 ≤ x2 → (¬ (x2 &&& ((h.1 30 0 0) ^^^ (-1))) = 0 → zT G (d + 7) mX12_toGround 5 [zr 5 0, zi x1, zi (x2 + 1)] [] h Q) ∧ ((x2 &&& ((h.1 30 0 0) ^^^ (-1))) = 0 → (x1 < 0 → zC G (d + 6) mX12_leftWithout [zr 5 0, zi (h.1 30 0 0), zi x2] h (fun r2 h1 => ∃ y3 : Int32, r2 = some (zi y3) ∧ (16 ≤ y3 → zT G (d + 7) mX12_toGround 5 [zr 5 0, zi x1, zi (x2 + 1)] [] h1 Q) ∧ (¬ 16 ≤ y3 → zT G (d + 7) mX12_toGround 5 [zr 5 0, zi x2, zi (x2 + 1)] [] h1 Q))) ∧ (¬ x1 < 0 → ((bitsI x2) < (bitsI x1) → zC G (d + 6) mX12_leftWithout [zr 5 0, zi (h.1 30 0 0), zi x2] h (fun r5 h4 => ∃ y6 : Int32, r5 = some (zi y6) ∧ (16 ≤ y6 → zT G (d + 7) mX12_toGround 5 [zr 5 0, zi x1, zi (x2 + 1)] [] h4 Q) ∧ (¬ 16 ≤ y6 → zT G (d + 7) mX12_toGround 5 [zr 5 0, zi x2, zi (x2 + 1)] [] h4 Q))) ∧ (¬ (bitsI x2) < (bitsI x1) → zT G (d + 7) mX12_toGround 5 [zr 5 0, zi x1, zi (x2 + 1)] [] h Q))))) :
  zT G (d + 7) mX12_toGround 5 [zr 5 0, zi x1, zi x2] [] h Q := by
  refine zt_iload_n kX12_toGround_5 rfl ?_
  refine zt_sipush (v := 4096) kX12_toGround_6 rfl ?_
  refine zt_icmp_ge kX12_toGround_9 (fun c => ?_) (fun c => ?_)
  · replace H := H.1 c
    refine zt_iload_n kX12_toGround_67 rfl ?_
    exact zt_iret kX12_toGround_68 rfl H
  · replace H := H.2 c
    refine zt_iload_n kX12_toGround_12 rfl ?_
    refine zt_aload_n kX12_toGround_13 rfl ?_
    refine zt_get (v := zr 30 0) kX12_toGround_14 fRX12_9 rfl (by decide) rfl ?_
    refine zt_iconst (v := 0) kX12_toGround_17 rfl ?_
    refine zt_ialdc 0 rfl kX12_toGround_18 rfl (by decide) (zvp_dec (by decide)) ?_
    refine zt_iconst (v := (-1)) kX12_toGround_19 rfl ?_
    refine zt_ixor kX12_toGround_20 ?_
    refine zt_iand kX12_toGround_21 ?_
    refine zt_if_ne kX12_toGround_22 (fun c => ?_) (fun c => ?_)
    · replace H := H.1 c
      refine zt_iinc (v := (x2 + 1)) (L' := [zr 5 0, zi x1, zi (x2 + 1)]) kX12_toGround_61 rfl rfl (by decide) rfl ?_
      refine zt_goto kX12_toGround_64 ?_
      exact H
    · replace H := H.2 c
      refine zt_iload_n kX12_toGround_25 rfl ?_
      refine zt_if_lt kX12_toGround_26 (fun c => ?_) (fun c => ?_)
      · replace H := H.1 c
        refine zt_aload_n kX12_toGround_43 rfl ?_
        refine zt_aload_n kX12_toGround_44 rfl ?_
        refine zt_get (v := zr 30 0) kX12_toGround_45 fRX12_9 rfl (by decide) rfl ?_
        refine zt_iconst (v := 0) kX12_toGround_48 rfl ?_
        refine zt_ialdc 0 rfl kX12_toGround_49 rfl (by decide) (zvp_dec (by decide)) ?_
        refine zt_iload_n kX12_toGround_50 rfl ?_
        refine zt_cV (as := [zi (h.1 30 0 0), zi x2]) kX12_toGround_51 sRX12_110 rfl (by decide) rfl (by simp) rfl H (fun r2 h1 H => ?_)
        obtain ⟨y3, rfl, H⟩ := H
        refine zt_bipush (v := 16) kX12_toGround_54 rfl ?_
        refine zt_icmp_ge kX12_toGround_56 (fun c => ?_) (fun c => ?_)
        · replace H := H.1 c
          refine zt_iinc (v := (x2 + 1)) (L' := [zr 5 0, zi x1, zi (x2 + 1)]) kX12_toGround_61 rfl rfl (by decide) rfl ?_
          refine zt_goto kX12_toGround_64 ?_
          exact H
        · replace H := H.2 c
          refine zt_iload_n kX12_toGround_59 rfl ?_
          refine zt_istore_n (L' := [zr 5 0, zi x2, zi x2]) kX12_toGround_60 (by decide) rfl ?_
          refine zt_iinc (v := (x2 + 1)) (L' := [zr 5 0, zi x2, zi (x2 + 1)]) kX12_toGround_61 rfl rfl (by decide) rfl ?_
          refine zt_goto kX12_toGround_64 ?_
          exact H
      · replace H := H.2 c
        refine zt_iload_n kX12_toGround_29 rfl ?_
        refine zt_cS (as := [zi x2]) kX12_toGround_30 sRX12_107 rfl (by simp) rfl (sX12_bits _  ) (fun r h0 hq => ?_)
        obtain ⟨rfl, hh⟩ := hq
        replace hh := hh.symm
        subst hh
        refine zt_iload_n kX12_toGround_33 rfl ?_
        refine zt_cS (as := [zi x1]) kX12_toGround_34 sRX12_107 rfl (by simp) rfl (sX12_bits _  ) (fun r h0 hq => ?_)
        obtain ⟨rfl, hh⟩ := hq
        replace hh := hh.symm
        subst hh
        refine zt_icmp_lt kX12_toGround_37 (fun c => ?_) (fun c => ?_)
        · replace H := H.1 c
          refine zt_aload_n kX12_toGround_43 rfl ?_
          refine zt_aload_n kX12_toGround_44 rfl ?_
          refine zt_get (v := zr 30 0) kX12_toGround_45 fRX12_9 rfl (by decide) rfl ?_
          refine zt_iconst (v := 0) kX12_toGround_48 rfl ?_
          refine zt_ialdc 0 rfl kX12_toGround_49 rfl (by decide) (zvp_dec (by decide)) ?_
          refine zt_iload_n kX12_toGround_50 rfl ?_
          refine zt_cV (as := [zi (h.1 30 0 0), zi x2]) kX12_toGround_51 sRX12_110 rfl (by decide) rfl (by simp) rfl H (fun r5 h4 H => ?_)
          obtain ⟨y6, rfl, H⟩ := H
          refine zt_bipush (v := 16) kX12_toGround_54 rfl ?_
          refine zt_icmp_ge kX12_toGround_56 (fun c => ?_) (fun c => ?_)
          · replace H := H.1 c
            refine zt_iinc (v := (x2 + 1)) (L' := [zr 5 0, zi x1, zi (x2 + 1)]) kX12_toGround_61 rfl rfl (by decide) rfl ?_
            refine zt_goto kX12_toGround_64 ?_
            exact H
          · replace H := H.2 c
            refine zt_iload_n kX12_toGround_59 rfl ?_
            refine zt_istore_n (L' := [zr 5 0, zi x2, zi x2]) kX12_toGround_60 (by decide) rfl ?_
            refine zt_iinc (v := (x2 + 1)) (L' := [zr 5 0, zi x2, zi (x2 + 1)]) kX12_toGround_61 rfl rfl (by decide) rfl ?_
            refine zt_goto kX12_toGround_64 ?_
            exact H
        · replace H := H.2 c
          refine zt_goto kX12_toGround_40 ?_
          refine zt_iinc (v := (x2 + 1)) (L' := [zr 5 0, zi x1, zi (x2 + 1)]) kX12_toGround_61 rfl rfl (by decide) rfl ?_
          refine zt_goto kX12_toGround_64 ?_
          exact H

theorem kX12_judge_0 : zD cX12_judge 0 1 (.aload_n 0) 1 := by decide +kernel
theorem kX12_judge_1 : zD cX12_judge 1 2 (.iload_n 1) 1 := by decide +kernel
theorem kX12_judge_2 : zD cX12_judge 2 3 (.iconst (-1)) 1 := by decide +kernel
theorem kX12_judge_3 : zD cX12_judge 3 6 (.invokevirtual 140) 3 := by decide +kernel
theorem kX12_judge_6 : zD cX12_judge 6 7 (.istore_n 2) 1 := by decide +kernel
theorem kX12_judge_7 : zD cX12_judge 7 8 (.iload_n 2) 1 := by decide +kernel
theorem kX12_judge_8 : zB cX12_judge 8 11 13 (.ifCond .eq 5) 5 := by decide +kernel
theorem kX12_judge_11 : zD cX12_judge 11 12 (.iload_n 2) 1 := by decide +kernel
theorem kX12_judge_12 : zD cX12_judge 12 13 (.ireturn) 1 := by decide +kernel
theorem kX12_judge_13 : zD cX12_judge 13 14 (.iconst 0) 1 := by decide +kernel
theorem kX12_judge_14 : zD cX12_judge 14 15 (.istore_n 3) 1 := by decide +kernel
theorem kX12_judge_15 : zD cX12_judge 15 16 (.iload_n 3) 1 := by decide +kernel
theorem kX12_judge_16 : zD cX12_judge 16 17 (.aload_n 0) 1 := by decide +kernel
theorem kX12_judge_17 : zD cX12_judge 17 20 (.getfield 47) 3 := by decide +kernel
theorem kX12_judge_20 : zD cX12_judge 20 21 (.iload_n 1) 1 := by decide +kernel
theorem kX12_judge_21 : zD cX12_judge 21 22 (.iaload) 1 := by decide +kernel
theorem kX12_judge_22 : zB cX12_judge 22 25 51 (.if_icmp .ge 29) 29 := by decide +kernel
theorem kX12_judge_25 : zD cX12_judge 25 26 (.aload_n 0) 1 := by decide +kernel
theorem kX12_judge_26 : zD cX12_judge 26 29 (.getfield 50) 3 := by decide +kernel
theorem kX12_judge_29 : zD cX12_judge 29 31 (.bipush 100) 2 := by decide +kernel
theorem kX12_judge_31 : zD cX12_judge 31 32 (.iload_n 1) 1 := by decide +kernel
theorem kX12_judge_32 : zD cX12_judge 32 33 (.imul) 1 := by decide +kernel
theorem kX12_judge_33 : zD cX12_judge 33 34 (.iload_n 3) 1 := by decide +kernel
theorem kX12_judge_34 : zD cX12_judge 34 35 (.iadd) 1 := by decide +kernel
theorem kX12_judge_35 : zD cX12_judge 35 36 (.iaload) 1 := by decide +kernel
theorem kX12_judge_36 : zD cX12_judge 36 39 (.invokestatic 130) 3 := by decide +kernel
theorem kX12_judge_39 : zB cX12_judge 39 42 45 (.ifCond .ne 6) 6 := by decide +kernel
theorem kX12_judge_42 : zD cX12_judge 42 44 (.bipush (-13)) 2 := by decide +kernel
theorem kX12_judge_44 : zD cX12_judge 44 45 (.ireturn) 1 := by decide +kernel
theorem kX12_judge_45 : zD cX12_judge 45 48 (.iinc 3 1) 3 := by decide +kernel
theorem kX12_judge_48 : zB cX12_judge 48 51 15 (.goto (-33)) (-33) := by decide +kernel
theorem kX12_judge_51 : zD cX12_judge 51 52 (.aload_n 0) 1 := by decide +kernel
theorem kX12_judge_52 : zD cX12_judge 52 55 (.getfield 9) 3 := by decide +kernel
theorem kX12_judge_55 : zD cX12_judge 55 56 (.iconst 0) 1 := by decide +kernel
theorem kX12_judge_56 : zD cX12_judge 56 57 (.iaload) 1 := by decide +kernel
theorem kX12_judge_57 : zD cX12_judge 57 58 (.istore_n 3) 1 := by decide +kernel
theorem kX12_judge_58 : zD cX12_judge 58 59 (.iconst 0) 1 := by decide +kernel
theorem kX12_judge_59 : zD cX12_judge 59 61 (.istore 4) 2 := by decide +kernel
theorem kX12_judge_61 : zD cX12_judge 61 63 (.iload 4) 2 := by decide +kernel
theorem kX12_judge_63 : zD cX12_judge 63 64 (.aload_n 0) 1 := by decide +kernel
theorem kX12_judge_64 : zD cX12_judge 64 67 (.getfield 47) 3 := by decide +kernel
theorem kX12_judge_67 : zD cX12_judge 67 68 (.iload_n 1) 1 := by decide +kernel
theorem kX12_judge_68 : zD cX12_judge 68 69 (.iaload) 1 := by decide +kernel
theorem kX12_judge_69 : zB cX12_judge 69 72 125 (.if_icmp .ge 56) 56 := by decide +kernel
theorem kX12_judge_72 : zD cX12_judge 72 73 (.aload_n 0) 1 := by decide +kernel
theorem kX12_judge_73 : zD cX12_judge 73 76 (.getfield 50) 3 := by decide +kernel
theorem kX12_judge_76 : zD cX12_judge 76 78 (.bipush 100) 2 := by decide +kernel
theorem kX12_judge_78 : zD cX12_judge 78 79 (.iload_n 1) 1 := by decide +kernel
theorem kX12_judge_79 : zD cX12_judge 79 80 (.imul) 1 := by decide +kernel
theorem kX12_judge_80 : zD cX12_judge 80 82 (.iload 4) 2 := by decide +kernel
theorem kX12_judge_82 : zD cX12_judge 82 83 (.iadd) 1 := by decide +kernel
theorem kX12_judge_83 : zD cX12_judge 83 84 (.iaload) 1 := by decide +kernel
theorem kX12_judge_84 : zD cX12_judge 84 86 (.istore 5) 2 := by decide +kernel
theorem kX12_judge_86 : zD cX12_judge 86 87 (.iload_n 3) 1 := by decide +kernel
theorem kX12_judge_87 : zD cX12_judge 87 89 (.iload 5) 2 := by decide +kernel
theorem kX12_judge_89 : zD cX12_judge 89 92 (.invokestatic 57) 3 := by decide +kernel
theorem kX12_judge_92 : zB cX12_judge 92 95 107 (.ifCond .eq 15) 15 := by decide +kernel
theorem kX12_judge_95 : zD cX12_judge 95 96 (.aload_n 0) 1 := by decide +kernel
theorem kX12_judge_96 : zD cX12_judge 96 97 (.iload_n 3) 1 := by decide +kernel
theorem kX12_judge_97 : zD cX12_judge 97 98 (.iconst 1) 1 := by decide +kernel
theorem kX12_judge_98 : zD cX12_judge 98 100 (.iload 5) 2 := by decide +kernel
theorem kX12_judge_100 : zD cX12_judge 100 101 (.ishl) 1 := by decide +kernel
theorem kX12_judge_101 : zD cX12_judge 101 104 (.invokevirtual 163) 3 := by decide +kernel
theorem kX12_judge_104 : zB cX12_judge 104 107 110 (.ifCond .le 6) 6 := by decide +kernel
theorem kX12_judge_107 : zD cX12_judge 107 109 (.iload 4) 2 := by decide +kernel
theorem kX12_judge_109 : zD cX12_judge 109 110 (.ireturn) 1 := by decide +kernel
theorem kX12_judge_110 : zD cX12_judge 110 111 (.iload_n 3) 1 := by decide +kernel
theorem kX12_judge_111 : zD cX12_judge 111 112 (.iconst 1) 1 := by decide +kernel
theorem kX12_judge_112 : zD cX12_judge 112 114 (.iload 5) 2 := by decide +kernel
theorem kX12_judge_114 : zD cX12_judge 114 115 (.ishl) 1 := by decide +kernel
theorem kX12_judge_115 : zD cX12_judge 115 116 (.iconst (-1)) 1 := by decide +kernel
theorem kX12_judge_116 : zD cX12_judge 116 117 (.ixor) 1 := by decide +kernel
theorem kX12_judge_117 : zD cX12_judge 117 118 (.iand) 1 := by decide +kernel
theorem kX12_judge_118 : zD cX12_judge 118 119 (.istore_n 3) 1 := by decide +kernel
theorem kX12_judge_119 : zD cX12_judge 119 122 (.iinc 4 1) 3 := by decide +kernel
theorem kX12_judge_122 : zB cX12_judge 122 125 61 (.goto (-61)) (-61) := by decide +kernel
theorem kX12_judge_125 : zD cX12_judge 125 127 (.bipush (-4)) 2 := by decide +kernel
theorem kX12_judge_127 : zD cX12_judge 127 128 (.ireturn) 1 := by decide +kernel
set_option maxRecDepth 10000 in
theorem wX12_judge_0 {G : ZG} {d : Nat} {h : ZH} {Q : Option ZV → ZH → Prop} {x1 : Int32} 
  (H : ((wRowI h x1 ((-1) : Int32)) = 0 → zT G (d + 8) mX12_judge 15 [zr 5 0, zi x1, zi (wRowI h x1 ((-1) : Int32)), zi 0, zu, zu] [] h Q) ∧ (¬ (wRowI h x1 ((-1) : Int32)) = 0 → Q (some (zi (wRowI h x1 ((-1) : Int32)))) h)) :
  zT G (d + 8) mX12_judge 0 [zr 5 0, zi x1, zu, zu, zu, zu] [] h Q := by
  refine zt_aload_n kX12_judge_0 rfl ?_
  refine zt_iload_n kX12_judge_1 rfl ?_
  refine zt_iconst (v := (-1)) kX12_judge_2 rfl ?_
  refine zt_cV (as := [zi x1, zi (-1)]) kX12_judge_3 sRX12_140 rfl (by decide) rfl (by simp) rfl (sX12_wrongRow _  ) (fun r h0 hq => ?_)
  obtain ⟨rfl, hh⟩ := hq
  replace hh := hh.symm
  subst hh
  refine zt_istore_n (L' := [zr 5 0, zi x1, zi (wRowI h x1 ((-1) : Int32)), zu, zu, zu]) kX12_judge_6 (by decide) rfl ?_
  refine zt_iload_n kX12_judge_7 rfl ?_
  refine zt_if_eq kX12_judge_8 (fun c => ?_) (fun c => ?_)
  · replace H := H.1 c
    refine zt_iconst (v := 0) kX12_judge_13 rfl ?_
    refine zt_istore_n (L' := [zr 5 0, zi x1, zi (wRowI h x1 ((-1) : Int32)), zi 0, zu, zu]) kX12_judge_14 (by decide) rfl ?_
    exact H
  · replace H := H.2 c
    refine zt_iload_n kX12_judge_11 rfl ?_
    exact zt_iret kX12_judge_12 rfl H

set_option maxRecDepth 10000 in
theorem wX12_judge_15 {G : ZG} {d : Nat} {h : ZH} {Q : Option ZV → ZH → Prop} {x1 : Int32} {x2 : Int32} {x3 : Int32} 
  (H : vp_in x1 8 ∧ ((h.1 42 0 x1.toNatClampNeg) ≤ x3 → zT G (d + 8) mX12_judge 61 [zr 5 0, zi x1, zi x2, zi (h.1 30 0 0), zi 0, zu] [] h Q) ∧ (¬ (h.1 42 0 x1.toNatClampNeg) ≤ x3 → vp_in ((100 * x1) + x3) 800 ∧ ((0 ≤ (h.1 43 0 ((100 * x1) + x3).toNatClampNeg) ∧ (h.1 43 0 ((100 * x1) + x3).toNatClampNeg) ≤ 11) → zT G (d + 8) mX12_judge 15 [zr 5 0, zi x1, zi x2, zi (x3 + 1), zu, zu] [] h Q) ∧ (¬ (0 ≤ (h.1 43 0 ((100 * x1) + x3).toNatClampNeg) ∧ (h.1 43 0 ((100 * x1) + x3).toNatClampNeg) ≤ 11) → Q (some (zi (-13))) h))) :
  zT G (d + 8) mX12_judge 15 [zr 5 0, zi x1, zi x2, zi x3, zu, zu] [] h Q := by
  refine zt_iload_n kX12_judge_15 rfl ?_
  refine zt_aload_n kX12_judge_16 rfl ?_
  refine zt_get (v := zr 42 0) kX12_judge_17 fRX12_47 rfl (by decide) rfl ?_
  refine zt_iload_n kX12_judge_20 rfl ?_
  obtain ⟨hv, H⟩ := H
  refine zt_iald kX12_judge_21 rfl (by decide) hv ?_
  refine zt_icmp_ge kX12_judge_22 (fun c => ?_) (fun c => ?_)
  · replace H := H.1 c
    refine zt_aload_n kX12_judge_51 rfl ?_
    refine zt_get (v := zr 30 0) kX12_judge_52 fRX12_9 rfl (by decide) rfl ?_
    refine zt_iconst (v := 0) kX12_judge_55 rfl ?_
    refine zt_ialdc 0 rfl kX12_judge_56 rfl (by decide) (zvp_dec (by decide)) ?_
    refine zt_istore_n (L' := [zr 5 0, zi x1, zi x2, zi (h.1 30 0 0), zu, zu]) kX12_judge_57 (by decide) rfl ?_
    refine zt_iconst (v := 0) kX12_judge_58 rfl ?_
    refine zt_istore (L' := [zr 5 0, zi x1, zi x2, zi (h.1 30 0 0), zi 0, zu]) kX12_judge_59 (by decide) rfl ?_
    exact H
  · replace H := H.2 c
    refine zt_aload_n kX12_judge_25 rfl ?_
    refine zt_get (v := zr 43 0) kX12_judge_26 fRX12_50 rfl (by decide) rfl ?_
    refine zt_bipush (v := 100) kX12_judge_29 rfl ?_
    refine zt_iload_n kX12_judge_31 rfl ?_
    refine zt_imul kX12_judge_32 ?_
    refine zt_iload_n kX12_judge_33 rfl ?_
    refine zt_iadd kX12_judge_34 ?_
    obtain ⟨hv, H⟩ := H
    refine zt_iald kX12_judge_35 rfl (by decide) hv ?_
    refine zt_cS (as := [zi (h.1 43 0 ((100 * x1) + x3).toNatClampNeg)]) kX12_judge_36 sRX12_130 rfl (by simp) rfl (sX12_isPlace _  ) (fun r h0 hq => ?_)
    obtain ⟨rfl, hh⟩ := hq
    replace hh := hh.symm
    subst hh
    refine zt_ifb_ne kX12_judge_39 (fun c => ?_) (fun c => ?_)
    · replace H := H.1 c
      refine zt_iinc (v := (x3 + 1)) (L' := [zr 5 0, zi x1, zi x2, zi (x3 + 1), zu, zu]) kX12_judge_45 rfl rfl (by decide) rfl ?_
      refine zt_goto kX12_judge_48 ?_
      exact H
    · replace H := H.2 c
      refine zt_bipush (v := (-13)) kX12_judge_42 rfl ?_
      exact zt_iret kX12_judge_44 rfl H

set_option maxRecDepth 10000 in
theorem wX12_judge_61 {G : ZG} {d : Nat} {h : ZH} {Q : Option ZV → ZH → Prop} {x1 : Int32} {x2 : Int32} {x3 : Int32} {x4 : Int32} 
  (H : vp_in x1 8 ∧ ((h.1 42 0 x1.toNatClampNeg) ≤ x4 → Q (some (zi (-4))) h) ∧ (¬ (h.1 42 0 x1.toNatClampNeg) ≤ x4 → vp_in ((100 * x1) + x4) 800 ∧ (¬ (hasI x3 (h.1 43 0 ((100 * x1) + x4).toNatClampNeg)) → Q (some (zi x4)) h) ∧ ((hasI x3 (h.1 43 0 ((100 * x1) + x4).toNatClampNeg)) → zC G (d + 7) mX12_fallsOf [zr 5 0, zi x3, zi ((1 : Int32) <<< ((h.1 43 0 ((100 * x1) + x4).toNatClampNeg) &&& 31))] h (fun r2 h1 => ∃ y3 : Int32, r2 = some (zi y3) ∧ (y3 ≤ 0 → ∀ y4 : Int32, y4 = (x3 &&& (((1 : Int32) <<< ((h.1 43 0 ((100 * x1) + x4).toNatClampNeg) &&& 31)) ^^^ (-1))) → zT G (d + 8) mX12_judge 61 [zr 5 0, zi x1, zi x2, zi y4, zi (x4 + 1), zu] [] h1 Q) ∧ (¬ y3 ≤ 0 → Q (some (zi x4)) h1))))) :
  zT G (d + 8) mX12_judge 61 [zr 5 0, zi x1, zi x2, zi x3, zi x4, zu] [] h Q := by
  refine zt_iload kX12_judge_61 rfl ?_
  refine zt_aload_n kX12_judge_63 rfl ?_
  refine zt_get (v := zr 42 0) kX12_judge_64 fRX12_47 rfl (by decide) rfl ?_
  refine zt_iload_n kX12_judge_67 rfl ?_
  obtain ⟨hv, H⟩ := H
  refine zt_iald kX12_judge_68 rfl (by decide) hv ?_
  refine zt_icmp_ge kX12_judge_69 (fun c => ?_) (fun c => ?_)
  · replace H := H.1 c
    refine zt_bipush (v := (-4)) kX12_judge_125 rfl ?_
    exact zt_iret kX12_judge_127 rfl H
  · replace H := H.2 c
    refine zt_aload_n kX12_judge_72 rfl ?_
    refine zt_get (v := zr 43 0) kX12_judge_73 fRX12_50 rfl (by decide) rfl ?_
    refine zt_bipush (v := 100) kX12_judge_76 rfl ?_
    refine zt_iload_n kX12_judge_78 rfl ?_
    refine zt_imul kX12_judge_79 ?_
    refine zt_iload kX12_judge_80 rfl ?_
    refine zt_iadd kX12_judge_82 ?_
    obtain ⟨hv, H⟩ := H
    refine zt_iald kX12_judge_83 rfl (by decide) hv ?_
    refine zt_istore (L' := [zr 5 0, zi x1, zi x2, zi x3, zi x4, zi (h.1 43 0 ((100 * x1) + x4).toNatClampNeg)]) kX12_judge_84 (by decide) rfl ?_
    refine zt_iload_n kX12_judge_86 rfl ?_
    refine zt_iload kX12_judge_87 rfl ?_
    refine zt_cS (as := [zi x3, zi (h.1 43 0 ((100 * x1) + x4).toNatClampNeg)]) kX12_judge_89 sRX12_57 rfl (by simp) rfl (sX12_has _  ) (fun r h0 hq => ?_)
    obtain ⟨rfl, hh⟩ := hq
    replace hh := hh.symm
    subst hh
    refine zt_ifb_eq kX12_judge_92 (fun c => ?_) (fun c => ?_)
    · replace H := H.1 c
      refine zt_iload kX12_judge_107 rfl ?_
      exact zt_iret kX12_judge_109 rfl H
    · replace H := H.2 c
      refine zt_aload_n kX12_judge_95 rfl ?_
      refine zt_iload_n kX12_judge_96 rfl ?_
      refine zt_iconst (v := 1) kX12_judge_97 rfl ?_
      refine zt_iload kX12_judge_98 rfl ?_
      refine zt_ishl kX12_judge_100 ?_
      refine zt_cV (as := [zi x3, zi ((1 : Int32) <<< ((h.1 43 0 ((100 * x1) + x4).toNatClampNeg) &&& 31))]) kX12_judge_101 sRX12_163 rfl (by decide) rfl (by simp) rfl H (fun r2 h1 H => ?_)
      obtain ⟨y3, rfl, H⟩ := H
      refine zt_if_le kX12_judge_104 (fun c => ?_) (fun c => ?_)
      · replace H := H.1 c
        refine zt_iload_n kX12_judge_110 rfl ?_
        refine zt_iconst (v := 1) kX12_judge_111 rfl ?_
        refine zt_iload kX12_judge_112 rfl ?_
        refine zt_ishl kX12_judge_114 ?_
        refine zt_iconst (v := (-1)) kX12_judge_115 rfl ?_
        refine zt_ixor kX12_judge_116 ?_
        refine zt_iand kX12_judge_117 ?_
        refine zt_topi (fun y4 ey4 => ?_)
        replace H := H y4 ey4
        refine zt_istore_n (L' := [zr 5 0, zi x1, zi x2, zi y4, zi x4, zi (h.1 43 0 ((100 * x1) + x4).toNatClampNeg)]) kX12_judge_118 (by decide) rfl ?_
        refine zt_iinc (v := (x4 + 1)) (L' := [zr 5 0, zi x1, zi x2, zi y4, zi (x4 + 1), zi (h.1 43 0 ((100 * x1) + x4).toNatClampNeg)]) kX12_judge_119 rfl rfl (by decide) rfl ?_
        refine zt_goto kX12_judge_122 ?_
        exact zt_sub [zr 5 0, zi x1, zi x2, zi y4, zi (x4 + 1), zu] ⟨rfl, ⟨rfl, ⟨rfl, ⟨rfl, ⟨rfl, trivial⟩⟩⟩⟩⟩ H
      · replace H := H.2 c
        refine zt_iload kX12_judge_107 rfl ?_
        exact zt_iret kX12_judge_109 rfl H

theorem kX12_raids_0 : zD cX12_raids 0 1 (.iload_n 1) 1 := by decide +kernel
theorem kX12_raids_1 : zD cX12_raids 1 2 (.iconst 1) 1 := by decide +kernel
theorem kX12_raids_2 : zD cX12_raids 2 4 (.bipush 20) 2 := by decide +kernel
theorem kX12_raids_4 : zD cX12_raids 4 7 (.invokestatic 53) 3 := by decide +kernel
theorem kX12_raids_7 : zB cX12_raids 7 10 19 (.ifCond .eq 12) 12 := by decide +kernel
theorem kX12_raids_10 : zD cX12_raids 10 11 (.iload_n 3) 1 := by decide +kernel
theorem kX12_raids_11 : zD cX12_raids 11 12 (.iconst 0) 1 := by decide +kernel
theorem kX12_raids_12 : zD cX12_raids 12 13 (.iconst 1) 1 := by decide +kernel
theorem kX12_raids_13 : zD cX12_raids 13 16 (.invokestatic 53) 3 := by decide +kernel
theorem kX12_raids_16 : zB cX12_raids 16 19 21 (.ifCond .ne 5) 5 := by decide +kernel
theorem kX12_raids_19 : zD cX12_raids 19 20 (.iconst (-1)) 1 := by decide +kernel
theorem kX12_raids_20 : zD cX12_raids 20 21 (.ireturn) 1 := by decide +kernel
theorem kX12_raids_21 : zD cX12_raids 21 22 (.aload_n 0) 1 := by decide +kernel
theorem kX12_raids_22 : zD cX12_raids 22 23 (.iload_n 2) 1 := by decide +kernel
theorem kX12_raids_23 : zD cX12_raids 23 26 (.putfield 225) 3 := by decide +kernel
theorem kX12_raids_26 : zD cX12_raids 26 27 (.aload_n 0) 1 := by decide +kernel
theorem kX12_raids_27 : zD cX12_raids 27 30 (.getfield 9) 3 := by decide +kernel
theorem kX12_raids_30 : zD cX12_raids 30 31 (.iconst 0) 1 := by decide +kernel
theorem kX12_raids_31 : zD cX12_raids 31 32 (.iaload) 1 := by decide +kernel
theorem kX12_raids_32 : zD cX12_raids 32 34 (.bipush 15) 2 := by decide +kernel
theorem kX12_raids_34 : zD cX12_raids 34 35 (.iand) 1 := by decide +kernel
theorem kX12_raids_35 : zD cX12_raids 35 37 (.istore 4) 2 := by decide +kernel
theorem kX12_raids_37 : zD cX12_raids 37 38 (.iconst 0) 1 := by decide +kernel
theorem kX12_raids_38 : zD cX12_raids 38 40 (.istore 5) 2 := by decide +kernel
theorem kX12_raids_40 : zD cX12_raids 40 41 (.iconst 0) 1 := by decide +kernel
theorem kX12_raids_41 : zD cX12_raids 41 43 (.istore 6) 2 := by decide +kernel
theorem kX12_raids_43 : zD cX12_raids 43 44 (.iconst 0) 1 := by decide +kernel
theorem kX12_raids_44 : zD cX12_raids 44 46 (.istore 7) 2 := by decide +kernel
theorem kX12_raids_46 : zD cX12_raids 46 48 (.iload 7) 2 := by decide +kernel
theorem kX12_raids_48 : zD cX12_raids 48 49 (.iload_n 1) 1 := by decide +kernel
theorem kX12_raids_49 : zB cX12_raids 49 52 127 (.if_icmp .ge 78) 78 := by decide +kernel
theorem kX12_raids_52 : zD cX12_raids 52 53 (.aload_n 0) 1 := by decide +kernel
theorem kX12_raids_53 : zD cX12_raids 53 56 (.getfield 9) 3 := by decide +kernel
theorem kX12_raids_56 : zD cX12_raids 56 57 (.iconst 0) 1 := by decide +kernel
theorem kX12_raids_57 : zD cX12_raids 57 58 (.iaload) 1 := by decide +kernel
theorem kX12_raids_58 : zD cX12_raids 58 60 (.istore 8) 2 := by decide +kernel
theorem kX12_raids_60 : zD cX12_raids 60 61 (.iconst 0) 1 := by decide +kernel
theorem kX12_raids_61 : zD cX12_raids 61 63 (.istore 9) 2 := by decide +kernel
theorem kX12_raids_63 : zD cX12_raids 63 65 (.iload 9) 2 := by decide +kernel
theorem kX12_raids_65 : zD cX12_raids 65 66 (.iconst 3) 1 := by decide +kernel
theorem kX12_raids_66 : zB cX12_raids 66 69 91 (.if_icmp .ge 25) 25 := by decide +kernel
theorem kX12_raids_69 : zD cX12_raids 69 70 (.aload_n 0) 1 := by decide +kernel
theorem kX12_raids_70 : zD cX12_raids 70 72 (.iload 8) 2 := by decide +kernel
theorem kX12_raids_72 : zD cX12_raids 72 73 (.iconst 1) 1 := by decide +kernel
theorem kX12_raids_73 : zD cX12_raids 73 74 (.aload_n 0) 1 := by decide +kernel
theorem kX12_raids_74 : zD cX12_raids 74 76 (.bipush 12) 2 := by decide +kernel
theorem kX12_raids_76 : zD cX12_raids 76 79 (.invokevirtual 231) 3 := by decide +kernel
theorem kX12_raids_79 : zD cX12_raids 79 80 (.ishl) 1 := by decide +kernel
theorem kX12_raids_80 : zD cX12_raids 80 83 (.invokevirtual 110) 3 := by decide +kernel
theorem kX12_raids_83 : zD cX12_raids 83 85 (.istore 8) 2 := by decide +kernel
theorem kX12_raids_85 : zD cX12_raids 85 88 (.iinc 9 1) 3 := by decide +kernel
theorem kX12_raids_88 : zB cX12_raids 88 91 63 (.goto (-25)) (-25) := by decide +kernel
theorem kX12_raids_91 : zD cX12_raids 91 93 (.iload 5) 2 := by decide +kernel
theorem kX12_raids_93 : zD cX12_raids 93 95 (.iload 8) 2 := by decide +kernel
theorem kX12_raids_95 : zD cX12_raids 95 98 (.invokestatic 107) 3 := by decide +kernel
theorem kX12_raids_98 : zD cX12_raids 98 99 (.iadd) 1 := by decide +kernel
theorem kX12_raids_99 : zD cX12_raids 99 101 (.istore 5) 2 := by decide +kernel
theorem kX12_raids_101 : zD cX12_raids 101 103 (.iload 6) 2 := by decide +kernel
theorem kX12_raids_103 : zD cX12_raids 103 105 (.iload 4) 2 := by decide +kernel
theorem kX12_raids_105 : zD cX12_raids 105 107 (.iload 8) 2 := by decide +kernel
theorem kX12_raids_107 : zD cX12_raids 107 108 (.iconst (-1)) 1 := by decide +kernel
theorem kX12_raids_108 : zD cX12_raids 108 109 (.ixor) 1 := by decide +kernel
theorem kX12_raids_109 : zD cX12_raids 109 110 (.iand) 1 := by decide +kernel
theorem kX12_raids_110 : zB cX12_raids 110 113 117 (.ifCond .ne 7) 7 := by decide +kernel
theorem kX12_raids_113 : zD cX12_raids 113 114 (.iconst 1) 1 := by decide +kernel
theorem kX12_raids_114 : zB cX12_raids 114 117 118 (.goto 4) 4 := by decide +kernel
theorem kX12_raids_117 : zD cX12_raids 117 118 (.iconst 0) 1 := by decide +kernel
theorem kX12_raids_118 : zD cX12_raids 118 119 (.iadd) 1 := by decide +kernel
theorem kX12_raids_119 : zD cX12_raids 119 121 (.istore 6) 2 := by decide +kernel
theorem kX12_raids_121 : zD cX12_raids 121 124 (.iinc 7 1) 3 := by decide +kernel
theorem kX12_raids_124 : zB cX12_raids 124 127 46 (.goto (-78)) (-78) := by decide +kernel
theorem kX12_raids_127 : zD cX12_raids 127 128 (.iload_n 3) 1 := by decide +kernel
theorem kX12_raids_128 : zB cX12_raids 128 131 136 (.ifCond .ne 8) 8 := by decide +kernel
theorem kX12_raids_131 : zD cX12_raids 131 133 (.iload 5) 2 := by decide +kernel
theorem kX12_raids_133 : zB cX12_raids 133 136 138 (.goto 5) 5 := by decide +kernel
theorem kX12_raids_136 : zD cX12_raids 136 138 (.iload 6) 2 := by decide +kernel
theorem kX12_raids_138 : zD cX12_raids 138 139 (.ireturn) 1 := by decide +kernel
set_option maxRecDepth 10000 in
theorem wX12_raids_0 {G : ZG} {d : Nat} {h : ZH} {Q : Option ZV → ZH → Prop} {x1 : Int32} {x2 : Int32} {x3 : Int32} 
  (H : (¬ ((1 : Int32) ≤ x1 ∧ x1 ≤ (20 : Int32)) → Q (some (zi (-1))) h) ∧ (((1 : Int32) ≤ x1 ∧ x1 ≤ (20 : Int32)) → (((0 : Int32) ≤ x3 ∧ x3 ≤ (1 : Int32)) → ∀ h1 : ZH, h1 = zs1 h 5 0 14 x2 → zT G (d + 7) mX12_raids 46 [zr 5 0, zi x1, zi x2, zi x3, zi ((h1.1 30 0 0) &&& 15), zi 0, zi 0, zi 0, zu, zu] [] h1 Q) ∧ (¬ ((0 : Int32) ≤ x3 ∧ x3 ≤ (1 : Int32)) → Q (some (zi (-1))) h))) :
  zT G (d + 7) mX12_raids 0 [zr 5 0, zi x1, zi x2, zi x3, zu, zu, zu, zu, zu, zu] [] h Q := by
  refine zt_iload_n kX12_raids_0 rfl ?_
  refine zt_iconst (v := 1) kX12_raids_1 rfl ?_
  refine zt_bipush (v := 20) kX12_raids_2 rfl ?_
  refine zt_cS (as := [zi x1, zi 1, zi 20]) kX12_raids_4 sRX12_53 rfl (by simp) rfl (sX12_isIn _  ) (fun r h0 hq => ?_)
  obtain ⟨rfl, hh⟩ := hq
  replace hh := hh.symm
  subst hh
  refine zt_ifb_eq kX12_raids_7 (fun c => ?_) (fun c => ?_)
  · replace H := H.1 c
    refine zt_iconst (v := (-1)) kX12_raids_19 rfl ?_
    exact zt_iret kX12_raids_20 rfl H
  · replace H := H.2 c
    refine zt_iload_n kX12_raids_10 rfl ?_
    refine zt_iconst (v := 0) kX12_raids_11 rfl ?_
    refine zt_iconst (v := 1) kX12_raids_12 rfl ?_
    refine zt_cS (as := [zi x3, zi 0, zi 1]) kX12_raids_13 sRX12_53 rfl (by simp) rfl (sX12_isIn _  ) (fun r h0 hq => ?_)
    obtain ⟨rfl, hh⟩ := hq
    replace hh := hh.symm
    subst hh
    refine zt_ifb_ne kX12_raids_16 (fun c => ?_) (fun c => ?_)
    · replace H := H.1 c
      refine zt_aload_n kX12_raids_21 rfl ?_
      refine zt_iload_n kX12_raids_22 rfl ?_
      refine zt_put kX12_raids_23 fRX12_225 pRX12_14 rfl (by decide) rfl ?_
      refine zt_heap (fun h1 eh1 => ?_)
      replace H := H h1 eh1
      refine zt_aload_n kX12_raids_26 rfl ?_
      refine zt_get (v := zr 30 0) kX12_raids_27 fRX12_9 rfl (by decide) rfl ?_
      refine zt_iconst (v := 0) kX12_raids_30 rfl ?_
      refine zt_ialdc 0 rfl kX12_raids_31 rfl (by decide) (zvp_dec (by decide)) ?_
      refine zt_bipush (v := 15) kX12_raids_32 rfl ?_
      refine zt_iand kX12_raids_34 ?_
      refine zt_istore (L' := [zr 5 0, zi x1, zi x2, zi x3, zi ((h1.1 30 0 0) &&& 15), zu, zu, zu, zu, zu]) kX12_raids_35 (by decide) rfl ?_
      refine zt_iconst (v := 0) kX12_raids_37 rfl ?_
      refine zt_istore (L' := [zr 5 0, zi x1, zi x2, zi x3, zi ((h1.1 30 0 0) &&& 15), zi 0, zu, zu, zu, zu]) kX12_raids_38 (by decide) rfl ?_
      refine zt_iconst (v := 0) kX12_raids_40 rfl ?_
      refine zt_istore (L' := [zr 5 0, zi x1, zi x2, zi x3, zi ((h1.1 30 0 0) &&& 15), zi 0, zi 0, zu, zu, zu]) kX12_raids_41 (by decide) rfl ?_
      refine zt_iconst (v := 0) kX12_raids_43 rfl ?_
      refine zt_istore (L' := [zr 5 0, zi x1, zi x2, zi x3, zi ((h1.1 30 0 0) &&& 15), zi 0, zi 0, zi 0, zu, zu]) kX12_raids_44 (by decide) rfl ?_
      exact H
    · replace H := H.2 c
      refine zt_iconst (v := (-1)) kX12_raids_19 rfl ?_
      exact zt_iret kX12_raids_20 rfl H

set_option maxRecDepth 10000 in
theorem wX12_raids_46 {G : ZG} {d : Nat} {h : ZH} {Q : Option ZV → ZH → Prop} {x1 : Int32} {x2 : Int32} {x3 : Int32} {x4 : Int32} {x5 : Int32} {x6 : Int32} {x7 : Int32} 
  (H : (x1 ≤ x7 → (¬ x3 = 0 → Q (some (zi x6)) h) ∧ (x3 = 0 → Q (some (zi x5)) h)) ∧ (¬ x1 ≤ x7 → zT G (d + 7) mX12_raids 63 [zr 5 0, zi x1, zi x2, zi x3, zi x4, zi x5, zi x6, zi x7, zi (h.1 30 0 0), zi 0] [] h Q)) :
  zT G (d + 7) mX12_raids 46 [zr 5 0, zi x1, zi x2, zi x3, zi x4, zi x5, zi x6, zi x7, zu, zu] [] h Q := by
  refine zt_iload kX12_raids_46 rfl ?_
  refine zt_iload_n kX12_raids_48 rfl ?_
  refine zt_icmp_ge kX12_raids_49 (fun c => ?_) (fun c => ?_)
  · replace H := H.1 c
    refine zt_iload_n kX12_raids_127 rfl ?_
    refine zt_if_ne kX12_raids_128 (fun c => ?_) (fun c => ?_)
    · replace H := H.1 c
      refine zt_iload kX12_raids_136 rfl ?_
      exact zt_iret kX12_raids_138 rfl H
    · replace H := H.2 c
      refine zt_iload kX12_raids_131 rfl ?_
      refine zt_goto kX12_raids_133 ?_
      exact zt_iret kX12_raids_138 rfl H
  · replace H := H.2 c
    refine zt_aload_n kX12_raids_52 rfl ?_
    refine zt_get (v := zr 30 0) kX12_raids_53 fRX12_9 rfl (by decide) rfl ?_
    refine zt_iconst (v := 0) kX12_raids_56 rfl ?_
    refine zt_ialdc 0 rfl kX12_raids_57 rfl (by decide) (zvp_dec (by decide)) ?_
    refine zt_istore (L' := [zr 5 0, zi x1, zi x2, zi x3, zi x4, zi x5, zi x6, zi x7, zi (h.1 30 0 0), zu]) kX12_raids_58 (by decide) rfl ?_
    refine zt_iconst (v := 0) kX12_raids_60 rfl ?_
    refine zt_istore (L' := [zr 5 0, zi x1, zi x2, zi x3, zi x4, zi x5, zi x6, zi x7, zi (h.1 30 0 0), zi 0]) kX12_raids_61 (by decide) rfl ?_
    exact H

set_option maxRecDepth 10000 in
theorem wX12_raids_63 {G : ZG} {d : Nat} {h : ZH} {Q : Option ZV → ZH → Prop} {x1 : Int32} {x2 : Int32} {x3 : Int32} {x4 : Int32} {x5 : Int32} {x6 : Int32} {x7 : Int32} {x8 : Int32} {x9 : Int32} 
  (H : (3 ≤ x9 → (¬ (x4 &&& (x8 ^^^ (-1))) = 0 → zT G (d + 7) mX12_raids 46 [zr 5 0, zi x1, zi x2, zi x3, zi x4, zi (x5 + (bitsI x8)), zi (x6 + 0), zi (x7 + 1), zu, zu] [] h Q) ∧ ((x4 &&& (x8 ^^^ (-1))) = 0 → zT G (d + 7) mX12_raids 46 [zr 5 0, zi x1, zi x2, zi x3, zi x4, zi (x5 + (bitsI x8)), zi (x6 + 1), zi (x7 + 1), zu, zu] [] h Q)) ∧ (¬ 3 ≤ x9 → zC G (d + 6) mX12_drawn [zr 5 0, zi 12] h (fun r2 h1 => ∃ y3 : Int32, r2 = some (zi y3) ∧ zC G (d + 6) mX12_leftWithout [zr 5 0, zi x8, zi ((1 : Int32) <<< (y3 &&& 31))] h1 (fun r5 h4 => ∃ y6 : Int32, r5 = some (zi y6) ∧ zT G (d + 7) mX12_raids 63 [zr 5 0, zi x1, zi x2, zi x3, zi x4, zi x5, zi x6, zi x7, zi y6, zi (x9 + 1)] [] h4 Q)))) :
  zT G (d + 7) mX12_raids 63 [zr 5 0, zi x1, zi x2, zi x3, zi x4, zi x5, zi x6, zi x7, zi x8, zi x9] [] h Q := by
  refine zt_iload kX12_raids_63 rfl ?_
  refine zt_iconst (v := 3) kX12_raids_65 rfl ?_
  refine zt_icmp_ge kX12_raids_66 (fun c => ?_) (fun c => ?_)
  · replace H := H.1 c
    refine zt_iload kX12_raids_91 rfl ?_
    refine zt_iload kX12_raids_93 rfl ?_
    refine zt_cS (as := [zi x8]) kX12_raids_95 sRX12_107 rfl (by simp) rfl (sX12_bits _  ) (fun r h0 hq => ?_)
    obtain ⟨rfl, hh⟩ := hq
    replace hh := hh.symm
    subst hh
    refine zt_iadd kX12_raids_98 ?_
    refine zt_istore (L' := [zr 5 0, zi x1, zi x2, zi x3, zi x4, zi (x5 + (bitsI x8)), zi x6, zi x7, zi x8, zi x9]) kX12_raids_99 (by decide) rfl ?_
    refine zt_iload kX12_raids_101 rfl ?_
    refine zt_iload kX12_raids_103 rfl ?_
    refine zt_iload kX12_raids_105 rfl ?_
    refine zt_iconst (v := (-1)) kX12_raids_107 rfl ?_
    refine zt_ixor kX12_raids_108 ?_
    refine zt_iand kX12_raids_109 ?_
    refine zt_if_ne kX12_raids_110 (fun c => ?_) (fun c => ?_)
    · replace H := H.1 c
      refine zt_iconst (v := 0) kX12_raids_117 rfl ?_
      refine zt_iadd kX12_raids_118 ?_
      refine zt_istore (L' := [zr 5 0, zi x1, zi x2, zi x3, zi x4, zi (x5 + (bitsI x8)), zi (x6 + 0), zi x7, zi x8, zi x9]) kX12_raids_119 (by decide) rfl ?_
      refine zt_iinc (v := (x7 + 1)) (L' := [zr 5 0, zi x1, zi x2, zi x3, zi x4, zi (x5 + (bitsI x8)), zi (x6 + 0), zi (x7 + 1), zi x8, zi x9]) kX12_raids_121 rfl rfl (by decide) rfl ?_
      refine zt_goto kX12_raids_124 ?_
      exact zt_sub [zr 5 0, zi x1, zi x2, zi x3, zi x4, zi (x5 + (bitsI x8)), zi (x6 + 0), zi (x7 + 1), zu, zu] ⟨rfl, ⟨rfl, ⟨rfl, ⟨rfl, ⟨rfl, ⟨rfl, ⟨rfl, ⟨rfl, trivial⟩⟩⟩⟩⟩⟩⟩⟩ H
    · replace H := H.2 c
      refine zt_iconst (v := 1) kX12_raids_113 rfl ?_
      refine zt_goto kX12_raids_114 ?_
      refine zt_iadd kX12_raids_118 ?_
      refine zt_istore (L' := [zr 5 0, zi x1, zi x2, zi x3, zi x4, zi (x5 + (bitsI x8)), zi (x6 + 1), zi x7, zi x8, zi x9]) kX12_raids_119 (by decide) rfl ?_
      refine zt_iinc (v := (x7 + 1)) (L' := [zr 5 0, zi x1, zi x2, zi x3, zi x4, zi (x5 + (bitsI x8)), zi (x6 + 1), zi (x7 + 1), zi x8, zi x9]) kX12_raids_121 rfl rfl (by decide) rfl ?_
      refine zt_goto kX12_raids_124 ?_
      exact zt_sub [zr 5 0, zi x1, zi x2, zi x3, zi x4, zi (x5 + (bitsI x8)), zi (x6 + 1), zi (x7 + 1), zu, zu] ⟨rfl, ⟨rfl, ⟨rfl, ⟨rfl, ⟨rfl, ⟨rfl, ⟨rfl, ⟨rfl, trivial⟩⟩⟩⟩⟩⟩⟩⟩ H
  · replace H := H.2 c
    refine zt_aload_n kX12_raids_69 rfl ?_
    refine zt_iload kX12_raids_70 rfl ?_
    refine zt_iconst (v := 1) kX12_raids_72 rfl ?_
    refine zt_aload_n kX12_raids_73 rfl ?_
    refine zt_bipush (v := 12) kX12_raids_74 rfl ?_
    refine zt_cV (as := [zi 12]) kX12_raids_76 sRX12_231 rfl (by decide) rfl (by simp) rfl H (fun r2 h1 H => ?_)
    obtain ⟨y3, rfl, H⟩ := H
    refine zt_ishl kX12_raids_79 ?_
    refine zt_cV (as := [zi x8, zi ((1 : Int32) <<< (y3 &&& 31))]) kX12_raids_80 sRX12_110 rfl (by decide) rfl (by simp) rfl H (fun r5 h4 H => ?_)
    obtain ⟨y6, rfl, H⟩ := H
    refine zt_istore (L' := [zr 5 0, zi x1, zi x2, zi x3, zi x4, zi x5, zi x6, zi x7, zi y6, zi x9]) kX12_raids_83 (by decide) rfl ?_
    refine zt_iinc (v := (x9 + 1)) (L' := [zr 5 0, zi x1, zi x2, zi x3, zi x4, zi x5, zi x6, zi x7, zi y6, zi (x9 + 1)]) kX12_raids_85 rfl rfl (by decide) rfl ?_
    refine zt_goto kX12_raids_88 ?_
    exact H

